/-! TEXTS: a number's digits -/
def dgl (m : Nat) : Nat → List Int32
  | 0 => []
  | j + 1 => nI (48 + m / 10 ^ j % 10) :: dgl m j
theorem dgl_len (m : Nat) : ∀ i, (dgl m i).length = i := by
  intro i
  induction i with
  | zero => rfl
  | succ i ih => show (dgl m i).length + 1 = i + 1; rw [ih]
theorem dgl_get (m : Nat) : ∀ i p, p < i → (dgl m i).getD p 0 = nI (48 + m / 10 ^ (i - 1 - p) % 10) := by
  intro i
  induction i with
  | zero => intro p hp; omega
  | succ i ih =>
    intro p hp
    cases p with
    | zero => rfl
    | succ p =>
      show (dgl m i).getD p 0 = _
      rw [ih p (by omega), show i + 1 - 1 - (p + 1) = i - 1 - p by omega]
def nd (m : Nat) : Nat := if m < 10 then 1 else if m < 100 then 2 else if m < 1000 then 3 else if m < 10000 then 4 else if m < 100000 then 5 else if m < 1000000 then 6 else if m < 10000000 then 7 else if m < 100000000 then 8 else if m < 1000000000 then 9 else 10
theorem nd_of {m i : Nat} (h1 : 1 ≤ i) (hi : i ≤ 10) (hm : m < 10 ^ i) (hl : i = 1 ∨ 10 ^ (i - 1) ≤ m) : nd m = i := by
  have hc : i = 1 ∨ i = 2 ∨ i = 3 ∨ i = 4 ∨ i = 5 ∨ i = 6 ∨ i = 7 ∨ i = 8 ∨ i = 9 ∨ i = 10 := by omega
  unfold nd
  rcases hc with rfl | rfl | rfl | rfl | rfl | rfl | rfl | rfl | rfl | rfl <;> simp only [Nat.reducePow, Nat.reduceSub] at hm hl <;> (repeat' split) <;> omega
theorem nd_1 (m : Nat) : 1 ≤ nd m ∧ nd m ≤ 10 := by
  unfold nd
  (repeat' split) <;> omega
theorem nd_hi {m : Nat} (h : m < 10 ^ 10) : m < 10 ^ nd m ∧ (nd m = 1 ∨ 10 ^ (nd m - 1) ≤ m) := by
  have key : ∀ i, 1 ≤ i → i ≤ 10 → m < 10 ^ i → (i = 1 ∨ 10 ^ (i - 1) ≤ m) → (m < 10 ^ nd m ∧ (nd m = 1 ∨ 10 ^ (nd m - 1) ≤ m)) := fun i a b c d => by rw [nd_of a b c d]; exact ⟨c, d⟩
  obtain ⟨k, ⟨hk, hk1⟩, hl⟩ := pk_least (fun i => m < 10 ^ i ∧ 1 ≤ i) ⟨10, h, by omega⟩
  have hk10 : k ≤ 10 := Nat.le_of_not_lt (fun z => hl 10 z ⟨h, by omega⟩)
  refine key k hk1 hk10 hk ?_
  rcases Nat.lt_or_ge 1 k with z | z
  · exact Or.inr (Nat.le_of_not_lt (fun y => hl (k - 1) (by omega) ⟨y, by omega⟩))
  · exact Or.inl (by omega)
def dec (v : Int32) : List Int32 := if v < 0 then 45 :: dgl v.toInt.natAbs (nd v.toInt.natAbs) else dgl v.toInt.natAbs (nd v.toInt.natAbs)
theorem dec_len (v : Int32) : (dec v).length = nd v.toInt.natAbs + (if v < 0 then 1 else 0) := by
  unfold dec
  split
  · show (dgl _ _).length + 1 = _; rw [dgl_len]
  · rw [dgl_len]; rfl
theorem dec_11 (v : Int32) : (dec v).length ≤ 11 := by
  rw [dec_len]
  have := (nd_1 v.toInt.natAbs).2
  split <;> omega
theorem dec_nib : ∀ j, j < 16 → (dec (nI j)).length ≤ 2 := by decide +kernel
theorem abs_lt (v : Int32) : v.toInt.natAbs < 10 ^ 10 := by
  have l1 := Int32.le_toInt v
  have l2 := Int32.toInt_lt v
  have : (10 : Nat) ^ 10 = 10000000000 := rfl
  omega
theorem gd_app (L M : List Int32) (j : Nat) : (L ++ M).getD j 0 = if j < L.length then L.getD j 0 else M.getD (j - L.length) 0 := by
  rw [List.getD_eq_getElem?_getD, List.getElem?_append]
  by_cases q : j < L.length
  · rw [if_pos q, if_pos q, List.getD_eq_getElem?_getD]
  · rw [if_neg q, if_neg q, List.getD_eq_getElem?_getD]
/-! the reference's -/
section MTX
variable {s t : Nat} {τ : MS} {post : MS → Prop} {G : GhT} {L : List Int32}
def MT (G : GhT) (s t : Nat) (L : List Int32) (τ : MS) : Prop := LI G s t L.length τ ∧ ∀ j, j < L.length → mA τ 29 j = L.getD j 0
theorem xm_say {x : Int32} (hL : L.length < 60) (h : MT G s t L τ) (k : ∀ τ', MT G s t (L ++ [x]) τ' → post τ') : wp_X9_say post x τ := by
  have e : (mI τ 30).toNatClampNeg = L.length := by rw [h.1.2, nI_clamp (by omega)]
  refine ⟨by rw [h.1.2]; exact vp_in_nI hL (by decide), k _ ⟨⟨h.1.1, ?_⟩, fun j hj => ?_⟩⟩
  · show mI τ 30 + 1 = _
    rw [h.1.2, nI_1, List.length_append]; rfl
  · rw [mA_wI, mA_wA, if_pos rfl, e, gd_app]
    rw [List.length_append] at hj
    have hj : j < L.length + 1 := hj
    by_cases q : j < L.length
    · rw [if_pos q, pk_un (by omega)]; exact h.2 j q
    · rw [if_neg q, show j = L.length by omega, pk_us, Nat.sub_self]; rfl
theorem ch_eq {v j : Nat} (hv : v < 10 ^ 11) (hj : j < 11) : (48 + ((lN v / tenP j) - (lN v / tenP j) / 10 * 10)).toInt32 = nI (48 + v / 10 ^ j % 10) := by
  have e11 : (10 : Nat) ^ 11 = 100000000000 := rfl
  have hb2 : (10 : Nat) ^ j ≤ 10 ^ 11 := Nat.pow_le_pow_right (by decide) (by omega)
  have hp : 0 < 10 ^ j := Nat.pow_pos (by decide)
  have hq : v / 10 ^ j ≤ v := Nat.div_le_self _ _
  unfold tenP
  rw [pk_lDiv (by omega) hp (by omega), show (10 : Int64) = lN 10 from rfl, pk_lRem (a := v / 10 ^ j) (b := 10) (by omega) (by decide) (by decide), show (48 : Int64) = lN 48 from rfl, lN_add, lN_i]
theorem xm_50 {v : Nat} (hv : v < 10 ^ 11) : ∀ (j : Nat) (L : List Int32) (τ : MS), j < 11 → L.length + j < 60 → MT G s t L τ → (∀ τ', MT G s t (L ++ dgl v (j + 1)) τ' → post τ') → wL_X9_sayNumber_50 post (j + 2) (lN v) (tenP j) τ := by
  intro j
  induction j with
  | zero =>
    intro L τ hj hn h k
    refine ⟨fun q => absurd q (ten_pos 0 hj), fun _ => ⟨ten_ne 0 hj, ?_⟩⟩
    rw [ch_eq hv hj]
    exact xm_say (by omega) h (fun τ g => fun y hy => by
      rw [hy]
      exact ⟨fun _ => k τ g, fun q => absurd ten_div0 q⟩)
  | succ j ih =>
    intro L τ hj hn h k
    refine ⟨fun q => absurd q (ten_pos (j + 1) hj), fun _ => ⟨ten_ne (j + 1) hj, ?_⟩⟩
    rw [ch_eq hv hj]
    exact xm_say (by omega) h (fun τ g => fun y hy => by
      rw [hy, ten_div j (by omega)]
      refine ih _ τ (by omega) (by rw [List.length_append]; show L.length + 1 + j < 60; omega) g (fun τ g => k τ ?_)
      rw [List.append_assoc] at g
      exact g)
theorem xm_28 {v : Nat} (hv : v < 10 ^ 10) (hL : L.length + nd v ≤ 60) (h : MT G s t L τ) (k : ∀ τ', MT G s t (L ++ dgl v (nd v)) τ' → post τ') : ∀ (d j : Nat), j + d = 9 → (j = 0 ∨ 10 ^ j ≤ v) → wL_X9_sayNumber_28 post (d + 1) (lN v) (tenP j) τ := by
  have e10 : (10 : Nat) ^ 10 = 10000000000 := rfl
  have e11 : (10 : Nat) ^ 11 = 100000000000 := rfl
  have key : ∀ j, j < 10 → (lN v / tenP j ≤ 9 ↔ v < 10 ^ (j + 1)) := fun j hj => by
    have hb2 : (10 : Nat) ^ j ≤ 10 ^ 11 := Nat.pow_le_pow_right (by decide) (by omega)
    have hp : 0 < 10 ^ j := Nat.pow_pos (by decide)
    have hq : v / 10 ^ j ≤ v := Nat.div_le_self _ _
    unfold tenP
    rw [pk_lDiv (by omega) hp (by omega), show (9 : Int64) = lN 9 from rfl, pk_lLE (by omega) (by decide), Nat.pow_succ', ← Nat.div_lt_iff_lt_mul hp]
    omega
  have yes : ∀ j, j < 10 → (j = 0 ∨ 10 ^ j ≤ v) → lN v / tenP j ≤ 9 → ∃ n, wL_X9_sayNumber_50 post n (lN v) (tenP j) τ := fun j hj hl q => by
    have en : nd v = j + 1 := nd_of (by omega) (by omega) ((key j hj).mp q) (by
      rcases hl with z | z
      · exact Or.inl (by omega)
      · exact Or.inr z)
    rw [en] at hL k
    exact ⟨j + 2, xm_50 (by omega) j L τ (by omega) (by omega) h k⟩
  intro d
  induction d with
  | zero =>
    intro j hj hl
    have e : j = 9 := by omega
    subst e
    exact ⟨ten_ne 9 (by omega), fun q => yes 9 (by omega) hl q, fun q => absurd ((key 9 (by omega)).mpr hv) q⟩
  | succ d ih =>
    intro j hj hl
    refine ⟨ten_ne j (by omega), fun q => yes j (by omega) hl q, fun q y hy => ?_⟩
    rw [hy, ten_mul j (by omega)]
    refine ih (j + 1) (by omega) (Or.inr ?_)
    rcases Nat.lt_or_ge v (10 ^ (j + 1)) with z | z
    · exact absurd ((key j (by omega)).mpr z) q
    · exact z
theorem xm_num {r : Int32} (hL : L.length + (dec r).length ≤ 60) (h : MT G s t L τ) (k : ∀ τ', MT G s t (L ++ dec r) τ' → post τ') : wp_X9_sayNumber post r.toInt64 τ := by
  have hlen := dec_len r
  have hab := abs_lt r
  have e1 : (r.toInt64).toInt = r.toInt := Int32.toInt_toInt64 r
  have z64 : (0 : Int64).toInt = 0 := rfl
  have z32 : (0 : Int32).toInt = 0 := rfl
  by_cases c : r < 0
  · have cn : ¬ (0 : Int64) ≤ r.toInt64 := by
      rw [Int64.le_iff_toInt_le, e1, z64]
      rw [Int32.lt_iff_toInt_lt, z32] at c
      omega
    have ed : dec r = [45] ++ dgl r.toInt.natAbs (nd r.toInt.natAbs) := by unfold dec; rw [if_pos c]; rfl
    rw [if_pos c] at hlen
    rw [ed, ← List.append_assoc] at k
    obtain ⟨v, hv, e⟩ := neg_of r cn
    have ev : v = r.toInt.natAbs := by
      have l1 := Int32.le_toInt r
      have e2 : (- r.toInt64).toInt = - r.toInt := by
        rw [Int64.toInt_neg, e1, Int.bmod_def]
        rw [Int32.lt_iff_toInt_lt, z32] at c
        omega
      have e10 : (10 : Nat) ^ 10 = 10000000000 := rfl
      rw [e, pk_lT (by omega)] at e2
      rw [Int32.lt_iff_toInt_lt, z32] at c
      omega
    refine ⟨fun q => absurd q cn, fun _ => xm_say (by omega) h (fun τ g => ⟨fun q => absurd q cn, fun _ => ?_⟩)⟩
    rw [e, ev]
    exact ⟨10, xm_28 hab (by rw [List.length_append]; show L.length + 1 + _ ≤ 60; omega) g k 9 0 rfl (Or.inl rfl)⟩
  · have cn : (0 : Int64) ≤ r.toInt64 := by
      rw [Int64.le_iff_toInt_le, e1, z64]
      rw [Int32.lt_iff_toInt_lt, z32] at c
      omega
    have ed : dec r = dgl r.toInt.natAbs (nd r.toInt.natAbs) := by unfold dec; rw [if_neg c]
    rw [if_neg c] at hlen
    rw [ed] at k
    have ev : r.toInt64 = lN r.toInt.natAbs := by
      obtain ⟨j, hj, rfl⟩ := nI_of c
      rw [nI_l hj, nI_toInt hj]
      rfl
    rw [ev] at cn ⊢
    exact ⟨fun _ => ⟨fun _ => ⟨10, xm_28 hab (by omega) h k 9 0 rfl (Or.inl rfl)⟩, fun q => absurd cn q⟩, fun q => absurd cn q⟩
end MTX
/-! the class's -/
section BTX
variable {β : BS} {post : BS → Prop} {L : List Int32}
def BT (L : List Int32) (β : BS) : Prop := BI L.length β ∧ ∀ j, j < L.length → zA β 0 j = L.getD j 0
theorem xb_ens {N : Nat} (hN : N ≤ 70) (hd : N ≤ L.length + 18) (h : BT L β) (k : ∀ γ, BT L γ → N ≤ zN γ 1 → post γ) : wp_J5_ensureCapacityInternal_d00df post (nI N) β := by
  obtain ⟨hb, hl⟩ := h
  have hc := hb.2.1
  refine ⟨N, rfl, hN, hb.2.2.1, by rcases hb.2.2.1 with e | e | e <;> omega, hb.2.2.2, fun q => k β ⟨hb, hl⟩ q, fun q r => ?_⟩
  have e1 : zN (zGrow β r) 1 = 2 * zN β 1 + 2 := rfl
  refine k _ ⟨⟨hb.1, by omega, ?_, ?_⟩, fun j hj => ?_⟩ (by rcases hb.2.2.1 with e | e | e <;> omega)
  · rcases hb.2.2.1 with e | e | e
    · exact Or.inr (Or.inl (by omega))
    · exact Or.inr (Or.inr (by omega))
    · omega
  · exact sb_fitC (f := zA β 0) (g := fun _ => 0) hb.2.2.2 sb_fit0
  · show va_cpy (zA β 0) (fun _ => 0) 0 0 (zN β 1) j = _
    rw [pk_cpy_in (Nat.zero_le j) (by omega), Nat.zero_add, Nat.sub_zero]
    exact hl j hj
theorem zA_jA (γ : BS) (i : Nat) (v : Int32) : zA (jA γ 0 i v) 0 = upd (zA γ 0) i v := rfl
theorem nar_by : ∀ m, m < 128 → vp_nar .byte ((nI m).toInt8.toInt32) = nI m := by decide +kernel
theorem nar_c : ∀ m, m < 128 → vp_nar .byte (nI m) = nI m := by decide +kernel
theorem xb_char {x : Int32} {m : Nat} (hx : x = nI m) (hm : m < 128) (hn : L.length < 70) (h : BT L β) (k : ∀ γ, BT (L ++ [x]) γ → post γ) : wp_J4_append_cf468 post x β := by
  have h255 : ¬ 255 < x := by rw [hx]; exact nI_nlt (a := 255) (by omega) (by decide)
  show wp_J5_ensureCapacityInternal_d00df _ (zI β 1 + 1) β
  rw [h.1.1, nI_1]
  refine xb_ens (by omega) (by omega) h (fun γ g hc => ⟨fun z => absurd z (by decide), fun _ => ⟨fun _ => ⟨Or.inr rfl, fun z => absurd z (by decide), fun _ => ⟨fun z => absurd z h255, fun _ => ⟨Or.inr rfl, fun z => absurd z (by decide), fun _ => ⟨?_, ?_⟩⟩⟩⟩, fun z => absurd rfl z⟩⟩)
  · rw [g.1.1]; exact vp_in_nI (by omega) (by have := bi_70 g.1; omega)
  · have e : (zI γ 1).toNatClampNeg = L.length := by rw [g.1.1, nI_clamp (by omega)]
    have hlen : (L ++ [x]).length = L.length + 1 := by rw [List.length_append]; rfl
    refine k _ ⟨by rw [hlen]; exact bi_set (bi_len g.1 hc (by rw [g.1.1, nI_1])), fun j hj => ?_⟩
    rw [hlen] at hj
    have ev : vp_nar .byte (x.toInt8.toInt32) = x := by rw [hx]; exact nar_by m hm
    rw [zA_jA, e, ev, gd_app]
    by_cases q : j < L.length
    · rw [if_pos q, pk_un (by omega)]; exact g.2 j q
    · rw [if_neg q, show j = L.length by omega, pk_us, Nat.sub_self]; rfl
theorem xb_str {e : Nat} (he : e < nX) (hlen : (bytX.getD e []).length = lenX.getD e 0) (hl : lenX.getD e 0 ≤ 18) (hf : ∀ i, i < lenX.getD e 0 → fits .byte (.int ((bytX.getD e []).getD i 0)) = true) (hn : L.length + lenX.getD e 0 ≤ 70) (h : BT L β) (k : ∀ γ, BT (L ++ bytX.getD e []) γ → post γ) : wp_J4_append_15ec4 post e β := by
  refine ⟨he, x_len he ?_⟩
  rw [h.1.1, nI_add]
  refine xb_ens hn (by omega) h (fun γ g hc => ?_)
  have e0 : (zI γ 1) <<< ((0 : Int32) &&& 31) = nI L.length := by rw [show (0 : Int32) &&& 31 = 0 by decide, Int32.shiftLeft_zero, g.1.1]
  have eL : (Int32.ofNat (lenX.getD e 0)) = nI (lenX.getD e 0) := rfl
  have z0 : (0 : Int32).toNatClampNeg = 0 := rfl
  have h70 := bi_70 g.1
  refine ⟨fun z => absurd z (by decide), fun _ => ⟨he, ⟨fun z => absurd z (by decide), fun _ => ⟨he, rfl, fun _ => ⟨he, he, ?_⟩, fun z => absurd rfl z⟩⟩⟩⟩
  refine ⟨fun z => absurd z (by decide), fun _ => ⟨he, rfl, fun _ => ⟨he, he, he, he, by decide, ?_, ?_, ?_, ?_, ?_, ?_⟩, fun z => absurd rfl z⟩⟩
  · rw [e0]; exact nI_pos (by omega)
  · rw [eL]; exact nI_pos (by omega)
  · rw [eL, nI_clamp (by omega), z0]; omega
  · rw [e0, eL, nI_clamp (by omega), nI_clamp (by omega)]; exact hc
  · intro i hi
    rw [eL, nI_clamp (by omega)] at hi
    rw [z0, Nat.zero_add]
    exact hf i hi
  · have hap : (L ++ bytX.getD e []).length = L.length + lenX.getD e 0 := by rw [List.length_append, hlen]
    have cont : ∀ j, va_cpy (fun j => (bytX.getD e []).getD j 0) (zA γ 0) (0 : Int32).toNatClampNeg (zI γ 1 <<< ((0 : Int32) &&& 31)).toNatClampNeg (Int32.ofNat (lenX.getD e 0)).toNatClampNeg j = if L.length ≤ j ∧ j < L.length + lenX.getD e 0 then (bytX.getD e []).getD (j - L.length) 0 else zA γ 0 j := fun j => by
      rw [e0, eL, nI_clamp (by omega), nI_clamp (by omega), z0]
      by_cases q : L.length ≤ j ∧ j < L.length + lenX.getD e 0
      · rw [pk_cpy_in q.1 q.2, if_pos q, Nat.zero_add]
      · rw [pk_cpy_out (by omega), if_neg q]
    refine k _ ⟨?_, fun j hj => ?_⟩
    · rw [hap]
      refine bi_len (β := jAs γ 0 _) (n := L.length) ⟨g.1.1, g.1.2.1, g.1.2.2.1, ?_⟩ hc (by show zI γ 1 + _ = _; rw [g.1.1, nI_add])
      intro j
      show fits .byte (.int (va_cpy (fun j => (bytX.getD e []).getD j 0) (zA γ 0) (0 : Int32).toNatClampNeg (zI γ 1 <<< ((0 : Int32) &&& 31)).toNatClampNeg (Int32.ofNat (lenX.getD e 0)).toNatClampNeg j)) = true
      rw [cont]
      split
      · exact hf _ (by omega)
      · exact g.1.2.2.2 j
    · rw [hap] at hj
      show va_cpy (fun j => (bytX.getD e []).getD j 0) (zA γ 0) (0 : Int32).toNatClampNeg (zI γ 1 <<< ((0 : Int32) &&& 31)).toNatClampNeg (Int32.ofNat (lenX.getD e 0)).toNatClampNeg j = _
      rw [cont, gd_app]
      by_cases q : j < L.length
      · rw [if_pos q, if_neg (by omega)]; exact g.2 j q
      · rw [if_neg q, if_pos (by omega)]
theorem xb_size16 {post : Int32 → Prop} {x0 : Int32} {m g : Nat} (hm : x0.toInt = -(m : Int)) (hm31 : m ≤ 2 ^ 31) (h : post (nI (nd m + g))) : ∀ (d i : Nat), i + d = 10 → 1 ≤ i → (i = 1 ∨ 10 ^ (i - 1) ≤ m) → wL_J6_stringSize_0f7a4_16 post (d + 1) x0 (nI g) (tp i) (nI i) := by
  intro d
  induction d with
  | zero =>
    intro i hi h1 hl
    have e : i = 10 := by omega
    subst e
    refine ⟨fun _ => ?_, fun z => absurd (by decide) z⟩
    rw [show (10 : Int32) = nI 10 from rfl, nI_add]
    rw [nd_of (i := 10) (by omega) (by omega) (by have := ten_lt; omega) hl] at h
    exact h
  | succ d ih =>
    intro i hi h1 hl
    have hti := tp_int i (by omega)
    refine ⟨fun z => absurd z (nI_ge (a := i) (b := 10) (by omega) (by decide)), fun _ => ⟨fun q => ?_, fun q => ?_⟩⟩
    · intro y hy z hz
      rw [Int32.le_iff_toInt_le, hm, hti] at q
      have hle : 10 ^ i ≤ m := by omega
      rw [hy, hz, tp_mul i (by omega), nI_1]
      exact ih (i + 1) (by omega) (by omega) (Or.inr hle)
    · rw [Int32.le_iff_toInt_le, hm, hti] at q
      rw [nI_add]
      rw [nd_of h1 (by omega) (by omega) hl] at h
      exact h
theorem xb_size {post : Int32 → Prop} {x : Int32} (h : post (nI (dec x).length)) : wp_J6_stringSize_0f7a4 post x := by
  have l1 := Int32.le_toInt x
  have l2 := Int32.toInt_lt x
  have z0 : (0 : Int32).toInt = 0 := rfl
  rw [dec_len] at h
  refine ⟨fun q => ⟨10, ?_⟩, fun q y hy => ⟨10, ?_⟩⟩
  · rw [if_pos q] at h
    rw [Int32.lt_iff_toInt_lt, z0] at q
    exact xb_size16 (g := 1) (m := x.toInt.natAbs) (by omega) (by omega) h 9 1 (by omega) (by omega) (Or.inl rfl)
  · rw [if_neg q] at h
    rw [Int32.lt_iff_toInt_lt, z0] at q
    have ey : y.toInt = -(x.toInt.natAbs : Int) := by
      rw [hy, Int32.toInt_neg, Int.bmod_def]
      omega
    exact xb_size16 (g := 0) (m := x.toInt.natAbs) ey (by omega) h 9 1 (by omega) (by omega) (Or.inl rfl)
/-- k digits of M from the right, ahead of P -/
def dgR (M P k : Nat) (γ : BS) : Prop := ∀ j, j < k → zA γ 0 (P - 1 - j) = nI (48 + M / 10 ^ j % 10)
theorem dgR_s {M P k : Nat} {γ : BS} {v : Int32} (hk : k < P) (h : dgR M P k γ) (hv : v = nI (48 + M / 10 ^ k % 10)) : dgR M P (k + 1) (jA γ 0 (P - 1 - k) v) := by
  intro j hj
  rw [zA_jA]
  by_cases q : j = k
  · rw [q, pk_us, hv]
  · rw [pk_un (by omega)]; exact h j (by omega)
theorem keep_s {n P k : Nat} {γ : BS} {v : Int32} (hk : n ≤ P - 1 - k) (h : ∀ j, j < n → zA γ 0 j = L.getD j 0) : ∀ j, j < n → zA (jA γ 0 (P - 1 - k) v) 0 j = L.getD j 0 := by
  intro j hj
  rw [zA_jA, pk_un (by omega)]
  exact h j hj
theorem div_k (M k a : Nat) : M / 10 ^ k / 10 ^ a = M / 10 ^ (k + a) := by rw [Nat.div_div_eq_div_mul, ← Nat.pow_add]
theorem xb_22 {post : Int32 → BS → Prop} {x6 : Int32} {M D g C n : Nat} (hM : M ≤ 2 ^ 31) (hD : D = nd M) (hg : (x6 = 0 ∧ g = 0) ∨ (¬ x6 = 0 ∧ g = 1)) (hC : C ≤ 70) (hP : n + g + D ≤ C) (k : ∀ r γ, BI n γ → zN γ 1 = C → (∀ j, j < n → zA γ 0 j = L.getD j 0) → dgR M (n + g + D) D γ → (g = 1 → zA γ 0 n = 45) → post r γ) : ∀ (d q : Nat) (x0 : Int32) (γ : BS), q < D → D - q ≤ 2 * d → x0.toInt = -((M / 10 ^ q : Nat) : Int) → BI n γ → zN γ 1 = C → (∀ j, j < n → zA γ 0 j = L.getD j 0) → dgR M (n + g + D) q γ → wL_J6_getChars_ba4f3_22 post d x0 (nI (n + g + D - q)) x6 γ := by
  have hM10 : M < 10 ^ 10 := by have : (10 : Nat) ^ 10 = 10000000000 := rfl; omega
  obtain ⟨up, lo⟩ := nd_hi hM10
  rw [← hD] at up lo
  have k104 : ∀ γ, BI n γ → zN γ 1 = C → (∀ j, j < n → zA γ 0 j = L.getD j 0) → dgR M (n + g + D) D γ → wB_J6_getChars_ba4f3_104 post (nI (n + g)) x6 γ := by
    intro γ b hz hl hd
    refine ⟨fun z => k _ γ b hz hl hd (fun y => ?_), fun z y hy => ?_⟩
    · rcases hg with w | w
      · omega
      · exact absurd z w.1
    · have hg1 : g = 1 := by
        rcases hg with w | w
        · exact absurd w.1 z
        · exact w.2
      have e : y = nI n := by rw [hy, hg1]; exact sb_m1 (show 0 < n + 1 by omega)
      have e2 : y.toNatClampNeg = n := by rw [e, nI_clamp (by omega)]
      refine ⟨by rw [e, hz]; exact vp_in_nI (by omega) (by omega), ?_⟩
      rw [e2, show vp_nar .byte (45 : Int32) = 45 from nar_c 45 (by decide)]
      refine k _ _ (by have := bi_set (i := n) (v := 45) b; rw [show vp_nar .byte (45 : Int32) = 45 from nar_c 45 (by decide)] at this; exact this) hz (fun j hj => ?_) (fun j hj => ?_) (fun _ => by rw [zA_jA, pk_us])
      · rw [zA_jA, pk_un (by omega)]; exact hl j hj
      · rw [zA_jA, pk_un (by omega)]; exact hd j hj
  have oV : ∀ c, c < 100 → vp_nar .byte (digO c) = nI (48 + c % 10) := fun c hc => by
    rw [digO_eq]; exact nar_c (48 + c % 10) (by omega)
  have tV : ∀ c, c < 100 → vp_nar .byte (digT c) = nI (48 + c / 10) := fun c hc => by
    rw [digT_eq]; exact nar_c (48 + c / 10) (by omega)
  intro d
  induction d with
  | zero => intro q x0 γ h1 h2; omega
  | succ d ih =>
    intro q x0 γ hqD hqd hx b hz hl hd
    have c100 : (-100 : Int32).toInt = -100 := rfl
    have c9 : (-9 : Int32).toInt = -9 := rfl
    have hm31 : M / 10 ^ q ≤ M := Nat.div_le_self _ _
    have pD : 10 ^ D = 10 ^ q * 10 ^ (D - q) := by rw [← Nat.pow_add, show q + (D - q) = D by omega]
    have pp : 0 < 10 ^ q := Nat.pow_pos (by decide)
    have mup : M / 10 ^ q < 10 ^ (D - q) := Nat.div_lt_of_lt_mul (by rw [← pD]; exact up)
    have mlo : D - q = 1 ∨ 10 ^ (D - q - 1) ≤ M / 10 ^ q := by
      rcases Nat.lt_or_ge 1 (D - q) with w | w
      · refine Or.inr ((Nat.le_div_iff_mul_le pp).mpr ?_)
        rw [← Nat.pow_add, show D - q - 1 + q = D - 1 by omega]
        exact lo.resolve_left (by omega)
      · exact Or.inl (by omega)
    have d1 : M / 10 ^ (q + 1) = M / 10 ^ q / 10 := by rw [← div_k M q 1]
    have d2 : M / 10 ^ (q + 2) = M / 10 ^ q / 100 := by rw [← div_k M q 2]
    generalize hm : M / 10 ^ q = m at hx hm31 mup mlo d1 d2
    have eP : n + g + D - q - 1 = n + g + D - 1 - q := by omega
    refine ⟨fun w => ?_, fun w => ?_⟩
    · intro y hy
      have ey : y = nI (n + g + D - 1 - q) := by rw [hy, ← eP]; exact sb_m1 (by omega)
      have ey2 : y.toNatClampNeg = n + g + D - 1 - q := by rw [ey, nI_clamp (by omega)]
      rw [Int32.lt_iff_toInt_lt, c100, hx] at w
      have hn100 : vp_in (-x0) 100 := by
        rw [vp_in_iff, Int32.toInt_neg, hx, Int.bmod_def]
        omega
      have en : (-x0).toNatClampNeg = m := by
        obtain ⟨j, hj, e⟩ := vp_in_of hn100 (by decide)
        have : (-x0).toInt = ((m : Nat) : Int) := by rw [Int32.toInt_neg, hx, Int.bmod_def]; omega
        rw [e, nI_toInt (by omega)] at this
        rw [e, nI_clamp (by omega)]
        omega
      have i1 : vp_in y (zN γ 1) := by rw [ey, hz]; exact vp_in_nI (by omega) (by omega)
      have hm100 : m < 100 := by omega
      have b1 : BI n (jA γ 0 (n + g + D - 1 - q) (vp_nar .byte (digO (m)))) := bi_set b
      have r1 : dgR M (n + g + D) (q + 1) (jA γ 0 (n + g + D - 1 - q) (vp_nar .byte (digO (m)))) := dgR_s (by omega) hd (by rw [oV _ hm100, hm])
      have l1 : ∀ j, j < n → zA (jA γ 0 (n + g + D - 1 - q) (vp_nar .byte (digO (m)))) 0 j = L.getD j 0 := keep_s (P := n + g + D) (by omega) hl
      refine ⟨hn100, i1, fun q9 => ?_, fun q9 => ?_⟩
      · rw [Int32.le_iff_toInt_le, c9, hx] at q9
        have hD1 : D = q + 1 := by
          rcases mlo with z | z
          · omega
          · rcases Nat.lt_or_ge 1 (D - q) with v | v
            · have := Nat.pow_le_pow_right (show 0 < 10 by decide) (show 1 ≤ D - q - 1 by omega)
              omega
            · omega
        rw [← hD1] at r1
        rw [ey2, en, ey, show nI (n + g + D - 1 - q) = nI (n + g) by rw [show n + g + D - 1 - q = n + g by omega]]
        exact k104 _ b1 hz l1 r1
      · rw [Int32.le_iff_toInt_le, c9, hx] at q9
        have hD2 : D = q + 2 := by
          rcases Nat.lt_or_ge (D - q) 2 with v | v
          · have e : D - q = 1 := by omega
            rw [e] at mup
            omega
          · rcases Nat.lt_or_ge 2 (D - q) with u | u
            · have h3 := mlo.resolve_left (by omega)
              have := Nat.pow_le_pow_right (show 0 < 10 by decide) (show 2 ≤ D - q - 1 by omega)
              omega
            · omega
        intro v hv
        have ev : v = nI (n + g) := by rw [hv, ey, show n + g + D - 1 - q = n + g + 1 by omega]; exact sb_m1 (show 0 < n + g + 1 by omega)
        have ev2 : v.toNatClampNeg = n + g + D - 1 - (q + 1) := by rw [ev, nI_clamp (by omega)]; omega
        refine ⟨hn100, ?_, ?_⟩
        · show vp_in v (zN γ 1)
          rw [ev, hz]; exact vp_in_nI (by omega) (by omega)
        · rw [ev2, ey2, en, ev]
          have r2 : dgR M (n + g + D) (q + 2) (jA (jA γ 0 (n + g + D - 1 - q) (vp_nar .byte (digO (m)))) 0 (n + g + D - 1 - (q + 1)) (vp_nar .byte (digT (m)))) := dgR_s (by omega) r1 (by rw [tV _ hm100, d1, Nat.mod_eq_of_lt (show m / 10 < 10 by omega)])
          rw [← hD2] at r2
          exact k104 _ (bi_set b1) hz (keep_s (P := n + g + D) (by omega) l1) r2
    · rw [Int32.lt_iff_toInt_lt, c100, hx] at w
      have hi3 : 3 ≤ D - q := by
        rcases Nat.lt_or_ge (D - q) 3 with r | r
        · have := Nat.pow_le_pow_right (show 0 < 10 by decide) (show D - q ≤ 2 by omega)
          omega
        · exact r
      intro a ha c hc y hy
      have ea : a.toInt = -((m / 100 : Nat) : Int) := by
        rw [ha, Int32.toInt_div, hx, show (100 : Int32).toInt = 100 from rfl, Int.bmod_def]
        have e2 : (-((m : Nat) : Int)).tdiv 100 = -((m / 100 : Nat) : Int) := by
          rw [Int.neg_tdiv]
          rfl
        rw [e2]
        omega
      have ec : c.toInt = ((m % 100 : Nat) : Int) := by
        rw [hc, Int32.toInt_sub, Int32.toInt_mul, ea, hx, show (100 : Int32).toInt = 100 from rfl]
        simp only [Int.bmod_def]
        omega
      have hc100 : vp_in c 100 := by rw [vp_in_iff, ec]; omega
      have en : c.toNatClampNeg = m % 100 := by
        obtain ⟨j, hj, e⟩ := vp_in_of hc100 (by decide)
        rw [e, nI_toInt (by omega)] at ec
        rw [e, nI_clamp (by omega)]
        omega
      have ey : y = nI (n + g + D - 1 - q) := by rw [hy, ← eP]; exact sb_m1 (by omega)
      have ey2 : y.toNatClampNeg = n + g + D - 1 - q := by rw [ey, nI_clamp (by omega)]
      have hm100 : m % 100 < 100 := Nat.mod_lt _ (by decide)
      refine ⟨hc100, by rw [ey, hz]; exact vp_in_nI (by omega) (by omega), fun v hv => ?_⟩
      have ev : v = nI (n + g + D - 1 - (q + 1)) := by rw [hv, ey, show n + g + D - 1 - (q + 1) = n + g + D - 1 - q - 1 by omega]; exact sb_m1 (show 0 < n + g + D - 1 - q by omega)
      have ev2 : v.toNatClampNeg = n + g + D - 1 - (q + 1) := by rw [ev, nI_clamp (by omega)]
      refine ⟨hc100, ?_, ?_⟩
      · show vp_in v (zN γ 1)
        rw [ev, hz]; exact vp_in_nI (by omega) (by omega)
      · rw [ev2, ey2, en, ev, show n + g + D - 1 - (q + 1) = n + g + D - (q + 2) by omega]
        have r1 : dgR M (n + g + D) (q + 1) (jA γ 0 (n + g + D - 1 - q) (vp_nar .byte (digO (m % 100)))) := dgR_s (by omega) hd (by rw [oV _ hm100, hm, Nat.mod_mod_of_dvd _ (by decide)])
        have r2 : dgR M (n + g + D) (q + 2) (jA (jA γ 0 (n + g + D - 1 - q) (vp_nar .byte (digO (m % 100)))) 0 (n + g + D - 1 - (q + 1)) (vp_nar .byte (digT (m % 100)))) := dgR_s (by omega) r1 (by rw [tV _ hm100, d1, show m % 100 / 10 = m / 10 % 10 by omega])
        rw [show n + g + D - 1 - (q + 1) = n + g + D - (q + 2) by omega] at r2
        refine ih (q + 2) a _ (by omega) (by omega) (by rw [d2]; exact ea) (bi_set (bi_set b)) hz ?_ r2
        have := keep_s (P := n + g + D) (k := q + 1) (v := vp_nar .byte (digT (m % 100))) (by omega) (keep_s (P := n + g + D) (k := q) (v := vp_nar .byte (digO (m % 100))) (by omega) hl)
        rw [show n + g + D - 1 - (q + 1) = n + g + D - (q + 2) by omega] at this
        exact this
theorem xb_int {x : Int32} (hn : L.length + (dec x).length ≤ 70) (h : BT L β) (k : ∀ γ, BT (L ++ dec x) γ → post γ) : wp_J4_append_bf812 post x β := by
  intro y hy
  have l1 := Int32.le_toInt x
  have l2 := Int32.toInt_lt x
  have z0 : (0 : Int32).toInt = 0 := rfl
  have h11 := dec_11 x
  have hlen := dec_len x
  have hab := abs_lt x
  have hnd := nd_1 x.toInt.natAbs
  refine xb_size (fun z hz => ?_)
  have ez : z = nI (L.length + (dec x).length) := by rw [hz, hy, h.1.1, nI_add]
  rw [ez]
  refine xb_ens (by omega) (by omega) h (fun γ b hN => ⟨fun q => absurd q (by decide), fun _ => ⟨fun _ => ⟨Or.inr rfl, fun q => absurd q (by decide), fun _ => ?_⟩, fun q => absurd rfl q⟩⟩)
  have h70 := bi_70 b.1
  have hap : (L ++ dec x).length = L.length + (dec x).length := List.length_append
  have fin : ∀ (g : Nat), g = (if x < 0 then 1 else 0) → ∀ (r : Int32) (γ' : BS), BI L.length γ' → zN γ' 1 = zN γ 1 → (∀ j, j < L.length → zA γ' 0 j = L.getD j 0) → dgR x.toInt.natAbs (L.length + g + nd x.toInt.natAbs) (nd x.toInt.natAbs) γ' → (g = 1 → zA γ' 0 L.length = 45) → wB_J5_append_c97b9_48 post (nI (L.length + (dec x).length)) γ' := by
    intro g hg r γ' b' hz' hl hd h45
    refine k _ ⟨by rw [hap]; exact bi_len b' (by omega) rfl, fun j hj => ?_⟩
    rw [hap] at hj
    show zA γ' 0 j = _
    rw [gd_app]
    by_cases q : j < L.length
    · rw [if_pos q]; exact hl j q
    · rw [if_neg q]
      unfold dec
      by_cases c : x < 0
      · rw [if_pos c] at hg hlen ⊢
        by_cases q2 : j = L.length
        · rw [q2, Nat.sub_self]; exact h45 hg
        · have e1 : j - L.length = (j - L.length - 1) + 1 := by omega
          rw [e1]
          show _ = (dgl x.toInt.natAbs (nd x.toInt.natAbs)).getD (j - L.length - 1) 0
          rw [dgl_get _ _ _ (by omega)]
          have := hd (nd x.toInt.natAbs - 1 - (j - L.length - 1)) (by omega)
          rw [show L.length + g + nd x.toInt.natAbs - 1 - (nd x.toInt.natAbs - 1 - (j - L.length - 1)) = j by omega] at this
          exact this
      · rw [if_neg c] at hg hlen ⊢
        rw [dgl_get _ _ _ (by omega)]
        have := hd (nd x.toInt.natAbs - 1 - (j - L.length)) (by omega)
        rw [show L.length + g + nd x.toInt.natAbs - 1 - (nd x.toInt.natAbs - 1 - (j - L.length)) = j by omega] at this
        exact this
  refine ⟨fun q => ⟨fun _ w hw => ⟨5, ?_⟩, fun z => absurd rfl z⟩, fun q => ⟨fun z => absurd z (by decide), fun _ => ⟨5, ?_⟩⟩⟩
  · have hneg : ¬ x < 0 := Int32.not_lt.mpr q
    rw [if_neg hneg] at hlen
    rw [Int32.le_iff_toInt_le, z0] at q
    have ew : w.toInt = -((x.toInt.natAbs / 10 ^ 0 : Nat) : Int) := by
      rw [hw, Int32.toInt_neg, Int.bmod_def, Nat.pow_zero, Nat.div_one]
      omega
    have := xb_22 (L := L) (x6 := 0) (M := x.toInt.natAbs) (D := nd x.toInt.natAbs) (g := 0) (C := zN γ 1) (n := L.length) (by omega) rfl (Or.inl ⟨rfl, rfl⟩) h70 (by omega) (fin 0 (by rw [if_neg hneg])) 5 0 w γ (by omega) (by omega) ew b.1 rfl b.2 (fun j hj => absurd hj (Nat.not_lt_zero j))
    rw [show L.length + 0 + nd x.toInt.natAbs - 0 = L.length + (dec x).length by omega] at this
    exact this
  · have hneg : x < 0 := by
      rw [Int32.le_iff_toInt_le, z0] at q
      rw [Int32.lt_iff_toInt_lt, z0]; omega
    rw [if_pos hneg] at hlen
    rw [Int32.le_iff_toInt_le, z0] at q
    have ew : x.toInt = -((x.toInt.natAbs / 10 ^ 0 : Nat) : Int) := by
      rw [Nat.pow_zero, Nat.div_one]
      omega
    have := xb_22 (L := L) (x6 := 1) (M := x.toInt.natAbs) (D := nd x.toInt.natAbs) (g := 1) (C := zN γ 1) (n := L.length) (by omega) rfl (Or.inr ⟨by decide, rfl⟩) h70 (by omega) (fin 1 (by rw [if_pos hneg])) 5 0 x γ (by omega) (by omega) ew b.1 rfl b.2 (fun j hj => absurd hj (Nat.not_lt_zero j))
    rw [show L.length + 1 + nd x.toInt.natAbs - 0 = L.length + (dec x).length by omega] at this
    exact this
end BTX
