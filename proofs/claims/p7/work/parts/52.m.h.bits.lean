/-! bits: an N above the low half; a NAME by its bytes -/
theorem sh8 : ((8 : Int32).toInt64 &&& 63) = 8 := by decide
theorem sh16 : ((16 : Int32).toInt64 &&& 63) = 16 := by decide
theorem sh32 : ((32 : Int32).toInt64 &&& 63) = 32 := by decide
theorem nbr_eq (v : Int64) : (v &&& 4294967295) <<< ((32 : Int32).toInt64 &&& 63) = v <<< ((32 : Int32).toInt64 &&& 63) := by
  rw [sh32]
  apply Int64.toBitVec_inj.mp
  rw [Int64.toBitVec_shiftLeft, Int64.toBitVec_shiftLeft, Int64.toBitVec_and]
  have e : ((32 : Int64).toBitVec.smod 64) = 32#64 := by decide
  rw [e]
  apply BitVec.eq_of_getLsbD_eq
  intro i hi
  rw [BitVec.shiftLeft_eq', BitVec.shiftLeft_eq', BitVec.getLsbD_shiftLeft, BitVec.getLsbD_shiftLeft, BitVec.getLsbD_and]
  have e2 : (32#64).toNat = 32 := by decide
  rw [e2]
  by_cases q : i < 32
  · simp [q]
  · have h : ∀ j, j < 32 → ((4294967295 : Int64).toBitVec).getLsbD j = true := by decide
    rw [h (i - 32) (by omega), Bool.and_true]
theorem split8 (v : Int64) : v = ((v >>> ((8 : Int32).toInt64 &&& 63)) <<< ((8 : Int32).toInt64 &&& 63)) ||| (v &&& 255) := by
  rw [sh8]
  apply Int64.toBitVec_inj.mp
  rw [Int64.toBitVec_or, Int64.toBitVec_shiftLeft, Int64.toBitVec_shiftRight, Int64.toBitVec_and]
  have e : ((8 : Int64).toBitVec.smod 64) = 8#64 := by decide
  rw [e]
  apply BitVec.eq_of_getLsbD_eq
  intro i hi
  rw [BitVec.getLsbD_or, BitVec.getLsbD_and, BitVec.shiftLeft_eq', BitVec.getLsbD_shiftLeft, BitVec.sshiftRight_eq', BitVec.getLsbD_sshiftRight]
  have e2 : (8#64).toNat = 8 := by decide
  rw [e2]
  by_cases q : i < 8
  · have h : ∀ j, j < 8 → ((255 : Int64).toBitVec).getLsbD j = true := by decide
    rw [h i q, Bool.and_true]
    simp [q]
  · have h : ∀ j, j < 64 → ¬ j < 8 → ((255 : Int64).toBitVec).getLsbD j = false := by decide
    rw [h i hi q, Bool.and_false, Bool.or_false]
    have h1 : ¬ 64 ≤ i - 8 := by omega
    have h2 : 8 + (i - 8) < 64 := by omega
    have h3 : 8 + (i - 8) = i := by omega
    rw [h3] at h2 ⊢
    simp [hi, q]
    omega
theorem and255 (v : Int64) : ∃ j : Nat, j < 256 ∧ (v &&& 255) = (nI j).toInt64 := by
  have hlt : (v &&& 255).toBitVec.toNat < 256 := by
    rw [Int64.toBitVec_and, BitVec.toNat_and]
    have e : ((255 : Int64).toBitVec).toNat = 255 := by decide
    rw [e]
    exact Nat.lt_succ_of_le Nat.and_le_right
  refine ⟨(v &&& 255).toBitVec.toNat, hlt, ?_⟩
  have h : ∀ j, j < 256 → (nI j).toInt64 = Int64.ofNat j := by decide +kernel
  rw [h _ hlt]
  apply Int64.toBitVec_inj.mp
  show _ = BitVec.ofNat 64 _
  rw [BitVec.ofNat_toNat]
  simp
theorem low_of (v : Int64) : ∃ j : Nat, j < 256 ∧ (v &&& 255) = (nI j).toInt64 ∧ ((v &&& 255).toInt32) - 48 = nI j - 48 := by
  obtain ⟨j, hj, e⟩ := and255 v
  refine ⟨j, hj, e, ?_⟩
  rw [e]
  have h : ∀ j, j < 256 → (nI j).toInt64.toInt32 = nI j := by decide +kernel
  rw [h j hj]
theorem split16 (v : Int64) : v = (((v >>> ((16 : Int32).toInt64 &&& 63)) <<< ((16 : Int32).toInt64 &&& 63)) ||| (((v >>> ((8 : Int32).toInt64 &&& 63)) &&& 255) <<< ((8 : Int32).toInt64 &&& 63))) ||| (v &&& 255) := by
  have h1 := split8 v
  have h2 := split8 (v >>> ((8 : Int32).toInt64 &&& 63))
  have e : (v >>> ((8 : Int32).toInt64 &&& 63)) >>> ((8 : Int32).toInt64 &&& 63) = v >>> ((16 : Int32).toInt64 &&& 63) := by
    rw [sh8, sh16]
    apply Int64.toBitVec_inj.mp
    rw [Int64.toBitVec_shiftRight, Int64.toBitVec_shiftRight, Int64.toBitVec_shiftRight]
    have e : ((8 : Int64).toBitVec.smod 64) = 8#64 := by decide
    have e' : ((16 : Int64).toBitVec.smod 64) = 16#64 := by decide
    rw [e, e', BitVec.sshiftRight_eq', BitVec.sshiftRight_eq', BitVec.sshiftRight_eq']
    have e2 : (8#64).toNat = 8 := by decide
    have e3 : (16#64).toNat = 16 := by decide
    rw [e2, e3, ← BitVec.sshiftRight_add]
  rw [e] at h2
  have e3 : ((v >>> ((16 : Int32).toInt64 &&& 63)) <<< ((8 : Int32).toInt64 &&& 63)) <<< ((8 : Int32).toInt64 &&& 63) = (v >>> ((16 : Int32).toInt64 &&& 63)) <<< ((16 : Int32).toInt64 &&& 63) := by
    rw [sh8, sh16]
    generalize v >>> (16 : Int64) = y
    apply Int64.toBitVec_inj.mp
    rw [Int64.toBitVec_shiftLeft, Int64.toBitVec_shiftLeft, Int64.toBitVec_shiftLeft]
    have e : ((8 : Int64).toBitVec.smod 64) = 8#64 := by decide
    have e' : ((16 : Int64).toBitVec.smod 64) = 16#64 := by decide
    rw [e, e', BitVec.shiftLeft_eq', BitVec.shiftLeft_eq', BitVec.shiftLeft_eq']
    have e2 : (8#64).toNat = 8 := by decide
    have e3 : (16#64).toNat = 16 := by decide
    rw [e2, e3, ← BitVec.shiftLeft_add]
  have e4 : ∀ a b : Int64, (a ||| b) <<< ((8 : Int32).toInt64 &&& 63) = (a <<< ((8 : Int32).toInt64 &&& 63)) ||| (b <<< ((8 : Int32).toInt64 &&& 63)) := by
    intro a b
    rw [sh8]
    apply Int64.toBitVec_inj.mp
    rw [Int64.toBitVec_shiftLeft, Int64.toBitVec_or, Int64.toBitVec_or, Int64.toBitVec_shiftLeft, Int64.toBitVec_shiftLeft, BitVec.shiftLeft_eq', BitVec.shiftLeft_eq', BitVec.shiftLeft_eq', BitVec.shiftLeft_or_distrib]
  rw [h2, e4, e3] at h1
  exact h1
/-! registers, read by the reference: the same NAMES -/
theorem reg_one {x : Int32} {v : Int64} (h : v >>> ((8 : Int32).toInt64 &&& 63) = x.toInt64) (h0 : ¬ ((v &&& 255).toInt32) - 48 < 0) (h9 : ¬ 9 < ((v &&& 255).toInt32) - 48) : ∃ i, i < 10 ∧ v = kyC x i ∧ ((v &&& 255).toInt32) - 48 = nI i := by
  obtain ⟨j, hj, e, el⟩ := low_of v
  rw [el] at h0 h9 ⊢
  have hd : ∀ j, j < 256 → ¬ (nI j - 48 < 0) → ¬ 9 < nI j - 48 → 48 ≤ j ∧ j ≤ 57 ∧ nI j - 48 = nI (j - 48) := by decide +kernel
  obtain ⟨h1, h2, h3⟩ := hd j hj h0 h9
  refine ⟨j - 48, by omega, ?_, h3⟩
  have hs := split8 v
  rw [h, e] at hs
  rw [hs]
  have hk : ∀ i, i < 10 → kyC x i = ((x.toInt64) <<< ((8 : Int32).toInt64 &&& 63)) ||| (nI (i + 48)).toInt64 := by
    intro i hi
    have h10 : ∀ i, i < 10 → ¬ 10 ≤ nI i ∧ (48 + (nI i - nI i / 10 * 10)).toInt64 = (nI (i + 48)).toInt64 := by decide +kernel
    unfold kyC
    rw [if_neg (h10 i hi).1, (h10 i hi).2]
  rw [hk (j - 48) (by omega), show j - 48 + 48 = j by omega]
theorem reg_two {v : Int64} (h : v >>> ((16 : Int32).toInt64 &&& 63) = (114 : Int32).toInt64) (hm : ((v >>> ((8 : Int32).toInt64 &&& 63)) &&& 255).toInt32 = 49) (h0 : ¬ ((v &&& 255).toInt32) - 48 < 0) (h5 : ¬ 5 < ((v &&& 255).toInt32) - 48) : ∃ i, i < 16 ∧ v = kyC 114 i ∧ 10 + (((v &&& 255).toInt32) - 48) = nI i := by
  obtain ⟨j, hj, e, el⟩ := low_of v
  rw [el] at h0 h5 ⊢
  have hd : ∀ j, j < 256 → ¬ (nI j - 48 < 0) → ¬ 5 < nI j - 48 → 48 ≤ j ∧ j ≤ 53 ∧ 10 + (nI j - 48) = nI (j - 38) := by decide +kernel
  obtain ⟨h1, h2, h3⟩ := hd j hj h0 h5
  refine ⟨j - 38, by omega, ?_, h3⟩
  obtain ⟨m, hm256, em⟩ := and255 (v >>> ((8 : Int32).toInt64 &&& 63))
  rw [em] at hm
  have hd2 : ∀ m, m < 256 → (nI m).toInt64.toInt32 = 49 → m = 49 := by decide +kernel
  have hm49 := hd2 m hm256 hm
  have hs := split16 v
  rw [h, em, e, hm49] at hs
  rw [hs]
  have hk : ∀ j, 48 ≤ j → j ≤ 53 → ((((114 : Int32).toInt64) <<< ((16 : Int32).toInt64 &&& 63)) ||| ((nI 49).toInt64 <<< ((8 : Int32).toInt64 &&& 63))) ||| (nI j).toInt64 = kyC 114 (j - 38) := by
    intro j h1 h2
    have hd3 : ∀ i, i < 6 → ((((114 : Int32).toInt64) <<< ((16 : Int32).toInt64 &&& 63)) ||| ((nI 49).toInt64 <<< ((8 : Int32).toInt64 &&& 63))) ||| (nI (i + 48)).toInt64 = kyC 114 (i + 10) := by decide +kernel
    have := hd3 (j - 48) (by omega)
    rw [show j - 48 + 48 = j by omega, show j - 48 + 10 = j - 38 by omega] at this
    exact this
  exact hk j h1 h2
abbrev rgOne (x : Int32) (v : Int64) : Prop := v >>> ((8 : Int32).toInt64 &&& 63) = x.toInt64 ∧ ¬ ((v &&& 255).toInt32) - 48 < 0 ∧ ¬ 9 < ((v &&& 255).toInt32) - 48
abbrev rgTwo (x : Int32) (v : Int64) : Prop := x = 114 ∧ v >>> ((16 : Int32).toInt64 &&& 63) = x.toInt64 ∧ ((v >>> ((8 : Int32).toInt64 &&& 63)) &&& 255).toInt32 = 49 ∧ ¬ ((v &&& 255).toInt32) - 48 < 0 ∧ ¬ 5 < ((v &&& 255).toInt32) - 48
theorem rg_114 : ∀ i, i < 16 → regF 114 (kyC 114 i) 16 0 = some i ∧ (rgOne 114 (kyC 114 i) ∨ rgTwo 114 (kyC 114 i)) ∧ ¬ (rgOne 114 (kyC 114 i) ∧ rgTwo 114 (kyC 114 i)) := by decide +kernel
theorem rg_112 : ∀ i, i < 4 → regF 112 (kyC 112 i) 4 0 = some i ∧ rgOne 112 (kyC 112 i) ∧ ((kyC 112 i &&& 255).toInt32) - 48 < 4 := by decide +kernel
theorem regF_some {x : Int32} {v : Int64} {i : Nat} : ∀ (d j : Nat), regF x v d j = some i → v = kyC x i ∧ i < j + d := by
  intro d
  induction d with
  | zero => intro j z; cases z
  | succ d ih =>
    intro j z
    unfold regF at z
    by_cases c : v = kyC x j
    · rw [if_pos c] at z; cases z; exact ⟨c, by omega⟩
    · rw [if_neg c] at z; have := ih (j + 1) z; exact ⟨this.1, by omega⟩
