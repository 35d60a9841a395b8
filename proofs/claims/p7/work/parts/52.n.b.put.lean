/-! what the class keeps of a WORD: its Op, what it reads, what it surely writes -/
abbrev b32 (m : Int32) (i : Nat) : Bool := m.toBitVec.getLsbD i
theorem b32_or (x y : Int32) (i : Nat) : b32 (x ||| y) i = (b32 x i || b32 y i) := by
  show (x ||| y).toBitVec.getLsbD i = _
  rw [Int32.toBitVec_or, BitVec.getLsbD_or]
theorem b32_0 : ∀ i, i < 32 → b32 0 i = false := by decide +kernel
theorem b32_one : ∀ a, a < 32 → ∀ r, r < 32 → b32 ((1 : Int32) <<< (nI a &&& 31)) r = decide (a = r) := by decide +kernel
theorem sh_r : ∀ r, r < 32 → ((nI r &&& 31).toBitVec.smod 32).toNat = r := by decide +kernel
theorem b32_tst {m : Int32} {r : Nat} (hr : r < 32) : ((m >>> (nI r &&& 31)) &&& 1) = 0 ↔ b32 m r = false := by
  have h1 : ∀ i, i < 32 → b32 1 i = decide (i = 0) := by decide +kernel
  have hb : ∀ i, i < 32 → b32 ((m >>> (nI r &&& 31)) &&& 1) i = (b32 (m >>> (nI r &&& 31)) i && decide (i = 0)) := fun i hi => by
    show ((m >>> (nI r &&& 31)) &&& 1).toBitVec.getLsbD i = _
    rw [Int32.toBitVec_and, BitVec.getLsbD_and]
    show (_ && b32 1 i) = _
    rw [h1 i hi]
  have h0 : b32 (m >>> (nI r &&& 31)) 0 = b32 m r := by
    show (m >>> (nI r &&& 31)).toBitVec.getLsbD 0 = _
    rw [Int32.toBitVec_shiftRight, BitVec.sshiftRight_eq', BitVec.getLsbD_sshiftRight, sh_r r hr, if_pos (by omega), Nat.add_zero]
    rfl
  constructor
  · intro h
    have e : b32 ((m >>> (nI r &&& 31)) &&& 1) 0 = b32 0 0 := by rw [h]
    rw [hb 0 (by omega), h0, b32_0 0 (by omega), decide_eq_true rfl, Bool.and_true] at e
    exact e
  · intro h
    apply Int32.toBitVec_inj.mp
    apply BitVec.eq_of_getLsbD_eq
    intro i hi
    show b32 ((m >>> (nI r &&& 31)) &&& 1) i = b32 0 i
    rw [hb i hi, b32_0 i hi]
    by_cases q : i = 0
    · rw [q, h0, h]; rfl
    · rw [decide_eq_false q, Bool.and_false]
/-- it has a GUARD -/
def gd (x : Int64) : Prop := ¬ ((x >>> ((20 : Int32).toInt64 &&& 63)) &&& 15) = 0
def ixC (c : Int32) (x : Int64) : Int32 := (if c = 68 ∨ c = 65 ∨ c = 66 ∨ c = 113 then 16 else 0) + fldX c x
abbrev isRdc (c : Int32) : Prop := c = 97 ∨ c = 98 ∨ c = 65 ∨ c = 66 ∨ c = 113
def gdR (x : Int64) (r : Nat) : Prop := gd x ∧ 16 + (fG x - fG x / 4 * 4) = nI r
def rdP (e : Nat) (x : Int64) (r : Nat) : Prop := (gdR x r ∨ ∃ j, j < lnX e ∧ isRdc (pcX e j) ∧ ixC (pcX e j) x = nI r) ∨ (e = 46 ∧ ixC 100 x = nI r)
def wrP (e : Nat) (x : Int64) (r : Nat) : Prop := (hX e 100 = true ∧ ixC 100 x = nI r) ∨ (hX e 100 = false ∧ hX e 68 = true ∧ ixC 68 x = nI r)
def rdQ (o : Option Nat) (x : Int64) (r : Nat) : Prop := match o with
  | none => False
  | some e => rdP e x r
def owQ (o : Option Nat) (x : Int64) (r : Nat) : Prop := match o with
  | none => False
  | some e => ¬ gd x ∧ wrP e x r
def rdOk (o : Option Nat) (x : Int64) (m : Int32) : Prop := ∀ r, r < 20 → (b32 m r = true ↔ rdQ o x r)
def owOk (o : Option Nat) (x : Int64) (m : Int32) : Prop := ∀ r, r < 20 → (b32 m r = true ↔ owQ o x r)
theorem spx_bit {post : Int32 → Prop} {c : Int32} {x : Int64} (h : post ((1 : Int32) <<< (ixC c x &&& 31))) : wp_X2_bitOf post c x := by
  refine spx_isPredicate ?_
  unfold ixC at h
  by_cases q : c = 68 ∨ c = 65 ∨ c = 66 ∨ c = 113
  · rw [bI_pos q]
    rw [if_pos q] at h
    exact ⟨fun z => absurd z (by decide), fun _ => spx_fld h⟩
  · rw [bI_neg q]
    rw [if_neg q] at h
    exact ⟨fun _ => spx_fld h, fun z => absurd rfl z⟩
theorem bit_of {v : Int32} {a r : Nat} (hv : v = nI a) (ha : a < 32) (hr : r < 20) : b32 ((1 : Int32) <<< (v &&& 31)) r = true ↔ v = nI r := by
  rw [hv, b32_one a ha r (by omega), decide_eq_true_eq, nI_eq (by omega) (by omega)]
theorem fA_nib (x : Int64) : ∃ j, j < 16 ∧ fA x = nI j := and15 _
theorem fB_nib (x : Int64) : ∃ j, j < 16 ∧ fB x = nI j := and15 _
theorem fD_nib (x : Int64) : ∃ j, j < 16 ∧ fD x = nI j := and15 _
theorem fG_nib (x : Int64) : ∃ j, j < 16 ∧ fG x = nI j := and15 _
theorem ix_16 {v : Int32} {j : Nat} (h : v = nI j) : (16 : Int32) + v = nI (16 + j) := by rw [h]; exact nI_add 16 j
theorem ix_0 {v : Int32} {j : Nat} (h : v = nI j) : (0 : Int32) + v = nI j := by rw [h]; exact (nI_add 0 j).trans (by rw [Nat.zero_add])
theorem ix_d (x : Int64) : ∃ a, a < 16 ∧ ixC 100 x = nI a := by
  obtain ⟨j, hj, e⟩ := fD_nib x
  exact ⟨j, hj, ix_0 (v := fD x) e⟩
theorem ix_D (x : Int64) : ∃ a, a < 32 ∧ ixC 68 x = nI a := by
  obtain ⟨j, hj, e⟩ := fD_nib x
  exact ⟨16 + j, by omega, ix_16 (v := fD x) e⟩
theorem ix_rd {e : Nat} {x : Int64} (hm : mkP e x) {j : Nat} (hj : j < lnX e) (hc : isRdc (pcX e j)) : ∃ a, a < 32 ∧ ixC (pcX e j) x = nI a := by
  obtain ⟨ja, ha, ea⟩ := fA_nib x
  obtain ⟨jb, hb, eb⟩ := fB_nib x
  have ho := hm.2.2.1 j hj
  rcases hc with q | q | q | q | q
  · rw [q]; exact ⟨ja, by omega, ix_0 (v := fA x) ea⟩
  · rw [q]; exact ⟨jb, by omega, ix_0 (v := fB x) eb⟩
  · rw [q]; exact ⟨16 + ja, by omega, ix_16 (v := fA x) ea⟩
  · rw [q]; exact ⟨16 + jb, by omega, ix_16 (v := fB x) eb⟩
  · rw [q] at ho ⊢
    have h2 := ((okX_let (c := 113) (by decide)).mp (ho.resolve_left (by decide))).2.2.2.2 rfl
    obtain ⟨j', hj', e'⟩ := nI_of2 (M := 3) (n := 3) rfl h2.1 h2.2
    exact ⟨16 + j', by omega, ix_16 (v := fN x) e'⟩
theorem xe_guarded {post : Int32 → Prop} {x : Int64} (h0 : ¬ gd x → post 0) (h1 : gd x → post 1) : wp_X2_isGuarded post x := ⟨fun q => ⟨Or.inl rfl, h0 (fun z => z q)⟩, fun q => ⟨Or.inr rfl, h1 q⟩⟩
theorem xe_readsOf {post : Int32 → Prop} {e : Nat} {x : Int64} (he : e < 53) (hm : mkP e x) (h : ∀ m, rdOk (some e) x m → post m) : wp_X2_readsOf post e x := by
  have hp := px_lt he
  have hL := px_len9 e he
  have hE : lnX e = lenX.getD (pxI e) 0 := rfl
  have main : ∀ (d j : Nat) (m : Int32), j + d = lnX e → (∀ r, r < 20 → (b32 m r = true ↔ (gdR x r ∨ ∃ i, i < j ∧ isRdc (pcX e i) ∧ ixC (pcX e i) x = nI r))) → wL_X2_readsOf_26 post (d + 1) e x m (nI j) := by
    intro d
    induction d with
    | zero =>
      intro j m hj hb
      have hjl : j = lnX e := by omega
      subst hjl
      refine ⟨he, hp, x_len hp ⟨fun _ => ⟨he, fun q => spx_bit (h _ (fun r hr => ?_)), fun q => h _ (fun r hr => ?_)⟩, fun z => absurd (nI_le (by omega) (by omega)) z⟩⟩
      · obtain ⟨a, ha, ea⟩ := ix_d x
        rw [b32_or, Bool.or_eq_true, hb r hr, bit_of ea (by omega) hr]
        exact ⟨fun z => z.elim Or.inl (fun z => Or.inr ⟨q, z⟩), fun z => z.elim Or.inl (fun z => Or.inr z.2)⟩
      · rw [hb r hr]
        exact ⟨fun z => Or.inl z, fun z => z.elim id (fun z => absurd z.1 q)⟩
    | succ d ih =>
      intro j m hj hb
      have k93 : ∀ m', (∀ r, r < 20 → (b32 m' r = true ↔ (gdR x r ∨ ∃ i, i < j + 1 ∧ isRdc (pcX e i) ∧ ixC (pcX e i) x = nI r))) → wB_X2_readsOf_93 post (wL_X2_readsOf_26 post (d + 1)) e x m' (nI j) := fun m' hb' u hu => by
        rw [hu, nI_1]; exact ih (j + 1) m' (by omega) hb'
      have k84 : isRdc (pcX e j) → wB_X2_readsOf_84 post (wL_X2_readsOf_26 post (d + 1)) e x m (nI j) (pcX e j) := fun hc => spx_bit (fun m' hm' => k93 m' (fun r hr => by
        obtain ⟨a, ha, ea⟩ := ix_rd hm (show j < lnX e by omega) hc
        rw [hm', b32_or, Bool.or_eq_true, hb r hr, bit_of ea ha hr]
        constructor
        · rintro ((z | ⟨i, hi, z⟩) | z)
          · exact Or.inl z
          · exact Or.inr ⟨i, by omega, z⟩
          · exact Or.inr ⟨j, by omega, hc, z⟩
        · rintro (z | ⟨i, hi, z1, z2⟩)
          · exact Or.inl (Or.inl z)
          · rcases Nat.lt_or_ge i j with y | y
            · exact Or.inl (Or.inr ⟨i, y, z1, z2⟩)
            · rw [show i = j by omega] at z2; exact Or.inr z2))
      refine ⟨he, hp, x_len hp ⟨fun z => absurd z (nI_ge (by omega) (by omega)), fun _ => ⟨he, hp, vp_in_nI (by omega) (by omega), fun c hc => ?_⟩⟩⟩
      rw [nI_clamp (by omega)] at hc
      have hc : c = pcX e j := hc
      subst hc
      refine ⟨fun q => k84 (Or.inl q), fun q1 => ⟨fun q => k84 (Or.inr (Or.inl q)), fun q2 => ⟨fun q => k84 (Or.inr (Or.inr (Or.inl q))), fun q3 => ⟨fun q => k84 (Or.inr (Or.inr (Or.inr (Or.inl q)))), fun q4 => ⟨fun q => k84 (Or.inr (Or.inr (Or.inr (Or.inr q)))), fun q5 => k93 m (fun r hr => ?_)⟩⟩⟩⟩⟩
      rw [hb r hr]
      constructor
      · rintro (z | ⟨i, hi, z⟩)
        · exact Or.inl z
        · exact Or.inr ⟨i, by omega, z⟩
      · rintro (z | ⟨i, hi, z1, z2⟩)
        · exact Or.inl z
        · rcases Nat.lt_or_ge i j with y | y
          · exact Or.inr ⟨i, y, z1, z2⟩
          · rw [show i = j by omega] at z1
            exact absurd z1 (fun z => z.elim q1 (fun z => z.elim q2 (fun z => z.elim q3 (fun z => z.elim q4 q5))))
  refine xe_guarded (fun hg => ⟨fun _ => ⟨_, main (lnX e) 0 0 (Nat.zero_add _) (fun r hr => ?_)⟩, fun z => absurd rfl z⟩) (fun hg => ⟨fun z => absurd z (by decide), fun _ => ⟨_, main (lnX e) 0 _ (Nat.zero_add _) (fun r hr => ?_)⟩⟩)
  · rw [b32_0 r (by omega)]
    exact ⟨fun z => (by cases z), fun z => z.elim (fun z => absurd z.1 hg) (fun ⟨i, hi, _⟩ => absurd hi (Nat.not_lt_zero i))⟩
  · obtain ⟨j, hj, ej⟩ := fG_nib x
    have hh : ∀ j, j < 16 → (16 : Int32) + (nI j - nI j / 4 * 4) = nI (16 + j % 4) := by decide +kernel
    have e2 : (16 : Int32) + (fG x - fG x / 4 * 4) = nI (16 + j % 4) := by rw [ej]; exact hh j hj
    rw [bit_of e2 (by omega) hr]
    exact ⟨fun z => Or.inl ⟨hg, z⟩, fun z => z.elim (fun z => z.2) (fun ⟨i, hi, _⟩ => absurd hi (Nat.not_lt_zero i))⟩
theorem xe_indexOf {post : Int32 → Prop} {e : Nat} {m : Nat} (he : e < 53) (hm : m < 127) (h0 : hX e (nI m) = false → post (-1)) (h1 : hX e (nI m) = true → ∀ r, ¬ r < 0 → post r) : wp_J0_indexOf_0f7a4 post (pxI e) (nI m) := by
  have hp := px_lt he
  have hL := px_len9 e he
  have hE : lnX e = lenX.getD (pxI e) 0 := rfl
  have e8 : (nI m).toInt8.toInt32 = nI m := co_dec (N := 127) (P := fun m => (nI m).toInt8.toInt32 = nI m) (by decide +kernel) hm
  have hb : ∀ e, e < 53 → ∀ j, j < 9 → (bytX.getD (pxI e) []).getD j 0 = pcX e j := by decide +kernel
  have main : ∀ (d j : Nat), j + d = lnX e → (∀ i, i < j → ¬ pcX e i = nI m) → wL_J1_indexOfChar_4cfef_7 post (d + 1) (pxI e) (nI (lnX e)) (nI m) (nI j) := by
    intro d
    induction d with
    | zero =>
      intro j hj hno
      refine ⟨fun _ => h0 ?_, fun z => absurd (nI_le (by omega) (by omega)) z⟩
      cases hx : hX e (nI m) with
      | false => rfl
      | true =>
        obtain ⟨i, hi, q⟩ := hX_iff.mp hx
        exact absurd q (hno i (by omega))
    | succ d ih =>
      intro j hj hno
      have ej : (nI j).toNatClampNeg = j := nI_clamp (by omega)
      refine ⟨fun z => absurd z (nI_ge (by omega) (by omega)), fun _ => ⟨hp, vp_in_nI (by omega) (by omega), fun q => ?_, fun ne => fun z hz => ?_⟩⟩
      · rw [ej, hb e he j (by omega)] at q
        exact h1 (hX_iff.mpr ⟨j, by omega, q⟩) _ (nI_pos (by omega))
      · rw [ej, hb e he j (by omega)] at ne
        rw [hz, nI_1]
        exact ih (j + 1) (by omega) (fun i hi => by
          rcases Nat.lt_or_ge i j with q | q
          · exact hno i q
          · rw [show i = j by omega]; exact ne)
  have p0 : ¬ nI m < 0 := nI_pos (by omega)
  have p255 : ¬ 255 < nI m := nI_nlt (a := 255) (b := m) (by omega) (by decide)
  refine ⟨hp, hp, fun z => absurd z (by decide), fun _ => ⟨hp, fun _ => ⟨Or.inr rfl, fun z => absurd z (by decide), fun _ => ⟨hp, hp, x_len hp ?_⟩⟩, fun z => absurd rfl z⟩⟩
  have k2 : wp_J1_indexOfChar_4cfef (fun r_8 => wB_J0_indexOf_7cf53_36 (fun r_1 => post r_1) r_8) (pxI e) (nI m) 0 (nI (lnX e)) := fun x hx => by
    rw [hx, e8]
    exact ⟨lnX e + 1, main (lnX e) 0 (Nat.zero_add _) (fun i hi => absurd hi (Nat.not_lt_zero i))⟩
  have k3 : ¬ (0 : Int32) < nI (lnX e) → post (-1) := fun z => h0 (by
    cases hx : hX e (nI m) with
    | false => rfl
    | true =>
      obtain ⟨i, hi, q⟩ := hX_iff.mp hx
      exact absurd (nI_lt (a := 0) (show 0 < lnX e by omega) (by omega)) z)
  exact ⟨fun z => absurd z p0, fun _ => ⟨fun z => absurd z p255, fun _ => ⟨Or.inr rfl, fun z => absurd z (by decide), fun _ => ⟨fun z => absurd z (by decide), fun _ => ⟨hp, fun z => absurd z (Int32.lt_irrefl), fun _ => ⟨fun _ => k2, fun z => k3 z⟩⟩⟩⟩⟩⟩
theorem xe_writesOf {post : Int32 → Prop} {e : Nat} {x : Int64} (he : e < 53) (h : ∀ m, (∀ r, r < 20 → (b32 m r = true ↔ wrP e x r)) → post m) : wp_X2_writesOf post e x := by
  have hp := px_lt he
  obtain ⟨a, ha, ea⟩ := ix_d x
  obtain ⟨a2, ha2, ea2⟩ := ix_D x
  refine ⟨he, hp, xe_indexOf (m := 100) he (by omega) (fun hd => ⟨fun _ => ⟨he, hp, xe_indexOf (m := 68) he (by omega) (fun hD => ⟨fun _ => h 0 (fun r hr => ?_), fun z => absurd (by decide) z⟩) (fun hD q hq => ⟨fun z => absurd z hq, fun _ => spx_bit (h _ (fun r hr => ?_))⟩)⟩, fun z => absurd (by decide) z⟩) (fun hd q hq => ⟨fun z => absurd z hq, fun _ => spx_bit (h _ (fun r hr => ?_))⟩)⟩
  · have hd : hX e 100 = false := hd
    have hD : hX e 68 = false := hD
    unfold wrP
    rw [b32_0 r (by omega), hd, hD]
    exact ⟨fun z => (by cases z), fun z => z.elim (fun z => by cases z.1) (fun z => by cases z.2.1)⟩
  · have hd : hX e 100 = false := hd
    have hD : hX e 68 = true := hD
    unfold wrP
    rw [bit_of ea2 ha2 hr, hd, hD]
    exact ⟨fun z => Or.inr ⟨rfl, rfl, z⟩, fun z => z.elim (fun z => by cases z.1) (fun z => z.2.2)⟩
  · have hd : hX e 100 = true := hd
    unfold wrP
    rw [bit_of ea (by omega) hr, hd]
    exact ⟨fun z => Or.inl ⟨rfl, z⟩, fun z => z.elim (fun z => z.2) (fun z => by cases z.1)⟩
theorem isOf_lt {x : Int64} {o : Option Nat} (h : isOf x o) : ∀ e, o = some e → e < 53 := fun e z => by
  rw [z] at h; exact h.1
/-- WORD k becomes w, with what is kept of it -/
theorem xe_put {post : XS → Prop} {w : Int64} {σ : XS} {k c : Nat} (hc : xI σ 8 = nI c) (hk : k ≤ c) (hk64 : k < 64) (hc64 : c ≤ 64)
    (h : ∀ (o : Option Nat) (a b : Int32), isOf w o → rdOk o w a → owOk o w b → post (yI (yA (yA (yQ (yL σ 6 k w) 1 k o) 4 k a) 5 k b) 8 (nI (max c (k + 1))))) : wp_X0_put post (nI k) w σ := by
  have hv : vp_in (nI k) 64 := vp_in_nI hk64 (by decide)
  have e1 : (nI k).toNatClampNeg = k := nI_clamp (by omega)
  have k88 : ∀ (o : Option Nat) (a b : Int32), isOf w o → rdOk o w a → owOk o w b → wB_X0_put_88 post (nI k) b (nI k) (yA (yQ (yL σ 6 (nI k).toNatClampNeg w) 1 (nI k).toNatClampNeg o) 4 (nI k).toNatClampNeg a) := fun o a b ho ha hb => by
    have hp := h o a b ho ha hb
    unfold wB_X0_put_88
    rw [e1]
    refine ⟨hv, ?_⟩
    have e8 : xI (yA (yQ (yL σ 6 k w) 1 k o) 4 k a) 8 = nI c := hc
    rw [e8, nI_1]
    unfold wp_J9_max_7cf53
    refine ⟨fun z => ?_, fun z => ?_⟩
    · have : c < k + 1 := by
        rcases Nat.lt_or_ge c (k + 1) with q | q
        · exact q
        · exact absurd z (Int32.not_lt.mpr (nI_le q (by omega)))
      rw [show max c (k + 1) = k + 1 by omega] at hp
      exact hp
    · have : k + 1 ≤ c := by
        rcases Nat.lt_or_ge c (k + 1) with q | q
        · exact absurd (nI_lt q (by omega)) z
        · exact q
      rw [show max c (k + 1) = c by omega] at hp
      exact hp
  have z0 : ∀ (Q : Nat → Prop), (∀ r, ¬ Q r) → ∀ r, r < 20 → (b32 0 r = true ↔ Q r) := fun Q hQ r hr => by
    rw [b32_0 r (by omega)]
    exact ⟨fun z => (by cases z), fun z => absurd z (hQ r)⟩
  refine ⟨fun z => absurd z (nI_pos (by omega)), fun _ => ⟨fun z => absurd z (by rw [hc]; exact Int32.not_lt.mpr (nI_le hk (by omega))), fun _ => ⟨fun _ => ?_, fun z => absurd (nI_lt (b := 64) hk64 (by decide)) z⟩⟩⟩
  refine xe_of (fun o ho => ?_)
  cases o with
  | none => exact ⟨fun _ => ⟨hv, hv, ⟨fun _ => ⟨hv, k88 none 0 0 ho (z0 _ (fun r z => z)) (z0 _ (fun r z => z))⟩, fun e z => by cases z⟩⟩, fun e z => by cases z⟩
  | some e =>
    refine ⟨fun z => (by cases z), fun e' z => ?_⟩
    cases z
    have he := ho.1
    refine ⟨hv, he, hv, he, xe_readsOf he ho.2.1 (fun a ha => ⟨fun z => (by cases z), fun e' z => ?_⟩)⟩
    cases z
    refine ⟨hv, xe_guarded (fun hg => ⟨fun _ => ⟨he, xe_writesOf he (fun b hb => k88 (some e) a b ho ha (fun r hr => ?_))⟩, fun z => absurd rfl z⟩) (fun hg => ⟨fun z => absurd z (by decide), fun _ => k88 (some e) a 0 ho ha (z0 _ (fun r z => z.1 hg))⟩)⟩
    rw [hb r hr]
    exact ⟨fun z => ⟨hg, z⟩, fun z => z.2⟩
