/-! what is LIVE -/
def rdM (p : Int32) (x : Int64) (r : Nat) : Prop := ((p = 65 ∨ p = 77) ∧ fA x = nI r) ∨ (p = 66 ∧ fB x = nI r) ∨ (p = 97 ∧ fA x + 16 = nI r) ∨ (p = 98 ∧ fB x + 16 = nI r) ∨ (p = 80 ∧ fN x + 16 = nI r)
theorem pm_rd : ∀ w, w < 53 → (hM w 65 || hM w 77) = hX (pm w) 97 ∧ hM w 66 = hX (pm w) 98 ∧ hM w 97 = hX (pm w) 65 ∧ hM w 98 = hX (pm w) 66 ∧ hM w 80 = hX (pm w) 113 ∧ (opC w = 57 ↔ pm w = 46) ∧ hM w 68 = hX (pm w) 100 ∧ hM w 100 = hX (pm w) 68 ∧ (hM w 68 && hM w 100) = false := by decide +kernel
theorem ix_z (v : Int32) : (0 : Int32) + v = v := Int32.zero_add v
theorem rd_iff {w : Nat} {x : Int64} {r : Nat} (hw : w < 53) : (∃ i, i < 4 ∧ rdM (partC w i) x r) ↔ ∃ j, j < lnX (pm w) ∧ isRdc (pcX (pm w) j) ∧ ixC (pcX (pm w) j) x = nI r := by
  obtain ⟨e1, e2, e3, e4, e5, -⟩ := pm_rd w hw
  have i97 : ixC 97 x = fA x := ix_z _
  have i98 : ixC 98 x = fB x := ix_z _
  have i65 : ixC 65 x = fA x + 16 := Int32.add_comm 16 (fA x)
  have i66 : ixC 66 x = fB x + 16 := Int32.add_comm 16 (fB x)
  have i113 : ixC 113 x = fN x + 16 := Int32.add_comm 16 (fN x)
  have put : ∀ c : Int32, isRdc c → hX (pm w) c = true → ixC c x = nI r → ∃ j, j < lnX (pm w) ∧ isRdc (pcX (pm w) j) ∧ ixC (pcX (pm w) j) x = nI r := fun c hc hx e => by
    obtain ⟨j, hj, ej⟩ := hX_iff.mp hx
    exact ⟨j, hj, by rw [ej]; exact hc, by rw [ej]; exact e⟩
  constructor
  · rintro ⟨i, hi, h⟩
    rcases h with ⟨p, e⟩ | ⟨p, e⟩ | ⟨p, e⟩ | ⟨p, e⟩ | ⟨p, e⟩
    · refine put 97 (Or.inl rfl) ?_ (i97.trans e)
      rw [← e1, Bool.or_eq_true]
      exact p.elim (fun p => Or.inl (hM_iff.mpr ⟨i, hi, p⟩)) (fun p => Or.inr (hM_iff.mpr ⟨i, hi, p⟩))
    · exact put 98 (Or.inr (Or.inl rfl)) (e2.symm.trans (hM_iff.mpr ⟨i, hi, p⟩)) (i98.trans e)
    · exact put 65 (Or.inr (Or.inr (Or.inl rfl))) (e3.symm.trans (hM_iff.mpr ⟨i, hi, p⟩)) (i65.trans e)
    · exact put 66 (Or.inr (Or.inr (Or.inr (Or.inl rfl)))) (e4.symm.trans (hM_iff.mpr ⟨i, hi, p⟩)) (i66.trans e)
    · exact put 113 (Or.inr (Or.inr (Or.inr (Or.inr rfl)))) (e5.symm.trans (hM_iff.mpr ⟨i, hi, p⟩)) (i113.trans e)
  · rintro ⟨j, hj, hc, e⟩
    rcases hc with q | q | q | q | q
    · rw [q, i97] at e
      have := e1.trans (hX_iff.mpr ⟨j, hj, q⟩)
      rw [Bool.or_eq_true] at this
      rcases this with z | z
      · obtain ⟨i, hi, p⟩ := hM_iff.mp z; exact ⟨i, hi, Or.inl ⟨Or.inl p, e⟩⟩
      · obtain ⟨i, hi, p⟩ := hM_iff.mp z; exact ⟨i, hi, Or.inl ⟨Or.inr p, e⟩⟩
    · rw [q, i98] at e
      obtain ⟨i, hi, p⟩ := hM_iff.mp (e2.trans (hX_iff.mpr ⟨j, hj, q⟩)); exact ⟨i, hi, Or.inr (Or.inl ⟨p, e⟩)⟩
    · rw [q, i65] at e
      obtain ⟨i, hi, p⟩ := hM_iff.mp (e3.trans (hX_iff.mpr ⟨j, hj, q⟩)); exact ⟨i, hi, Or.inr (Or.inr (Or.inl ⟨p, e⟩))⟩
    · rw [q, i66] at e
      obtain ⟨i, hi, p⟩ := hM_iff.mp (e4.trans (hX_iff.mpr ⟨j, hj, q⟩)); exact ⟨i, hi, Or.inr (Or.inr (Or.inr (Or.inl ⟨p, e⟩)))⟩
    · rw [q, i113] at e
      obtain ⟨i, hi, p⟩ := hM_iff.mp (e5.trans (hX_iff.mpr ⟨j, hj, q⟩)); exact ⟨i, hi, Or.inr (Or.inr (Or.inr (Or.inr ⟨p, e⟩)))⟩
theorem gd_hi : ∀ j, j < 16 → ∀ r, r < 20 → ¬ nI r ≤ 15 → ((nI j &&& 3) = nI r - 16 ↔ 16 + (nI j - nI j / 4 * 4) = nI r) := by decide +kernel
theorem gd_lo : ∀ j, j < 16 → ∀ r, r < 20 → nI r ≤ 15 → ¬ 16 + (nI j - nI j / 4 * 4) = nI r := by decide +kernel
section LM
variable {τ : MS} {k r : Nat} {x : Int64} {o : Option Nat} {post : Int32 → MS → Prop}
theorem em_reads (hk : k < 64) (hr : r < 20) (hx : mL τ 10 k = x) (ho : isOf x o) (h1 : rdQ o x r → post 1 τ) (h0 : ¬ rdQ o x r → post 0 τ) : wp_X9_reads post (nI k) (nI r) τ := by
  have hv : vp_in (nI k) 64 := vp_in_nI hk (by decide)
  refine ⟨hv, fun y hy => ?_⟩
  rw [nI_clamp (by omega), hx] at hy
  subst hy
  refine em_listed (fun g => ⟨fun _ => h0 (by rw [isOf_inj ho g]; exact fun z => z), fun z => absurd rfl z⟩) (fun w hw g => ⟨fun z => absurd z (nI_ne1 (by omega)), fun _ => ?_⟩)
  have eo := isOf_inj ho g
  subst eo
  obtain ⟨j, hj, eg⟩ := fG_nib y
  have k50 : ¬ gdR y r → wB_X9_reads_50 post (nI r) y (nI w) τ := by
    intro ng
    have main : ∀ (d i : Nat), i + d = 4 → (∀ i', i' < i → ¬ rdM (partC w i') y r) → wL_X9_reads_53 post (d + 1) (nI r) y (nI w) (nI i) τ := by
      intro d
      induction d with
      | zero =>
        intro i hi hn
        have hno : ¬ ∃ j, j < lnX (pm w) ∧ isRdc (pcX (pm w) j) ∧ ixC (pcX (pm w) j) y = nI r := fun z => by
          obtain ⟨i', hi', q⟩ := (rd_iff hw).mpr z
          exact hn i' (by omega) q
        have e46 := (pm_rd w hw).2.2.2.2.2.1
        have id : ixC 100 y = fD y := ix_z _
        refine ⟨fun _ => sp_opOf hw ⟨fun q => ⟨fun q2 => ⟨Or.inr rfl, h1 (Or.inr ⟨e46.mp q, id.trans q2⟩)⟩, fun q2 => ⟨Or.inl rfl, h0 (fun z => ?_)⟩⟩, fun q => ⟨Or.inl rfl, h0 (fun z => ?_)⟩⟩, fun z => absurd (show (4 : Int32) ≤ nI i by rw [show i = 4 by omega]; decide) z⟩
        · exact z.elim (fun z => z.elim ng hno) (fun z => q2 (id.symm.trans z.2))
        · exact z.elim (fun z => z.elim ng hno) (fun z => q (e46.mpr z.1))
      | succ d ih =>
        intro i hi hn
        have yes : rdM (partC w i) y r → post 1 τ := fun z => h1 (Or.inl (Or.inr ((rd_iff hw).mp ⟨i, by omega, z⟩)))
        have k163 : ¬ rdM (partC w i) y r → wB_X9_reads_163 post (wL_X9_reads_53 post (d + 1)) (nI r) y (nI w) (nI i) τ := fun z u hu => by
          rw [hu, nI_1]
          refine ih (i + 1) (by omega) (fun i' hi' => ?_)
          rcases Nat.lt_or_ge i' i with q | q
          · exact hn i' q
          · rw [show i' = i by omega]; exact z
        have k143 : ¬ ((partC w i = 65 ∨ partC w i = 77) ∧ fA y = nI r) → ¬ (partC w i = 66 ∧ fB y = nI r) → ¬ (partC w i = 97 ∧ fA y + 16 = nI r) → ¬ (partC w i = 98 ∧ fB y + 16 = nI r) → wB_X9_reads_143 post (wL_X9_reads_53 post (d + 1)) (nI r) y (nI w) (nI i) (partC w i) τ := fun c1 c2 c3 c4 => ⟨fun p => ⟨fun q => yes (Or.inr (Or.inr (Or.inr (Or.inr ⟨p, q⟩)))), fun q => k163 (fun z => z.elim c1 (fun z => z.elim c2 (fun z => z.elim c3 (fun z => z.elim c4 (fun z => q z.2)))))⟩, fun p => k163 (fun z => z.elim c1 (fun z => z.elim c2 (fun z => z.elim c3 (fun z => z.elim c4 (fun z => p z.1)))))⟩
        have k125 : ¬ ((partC w i = 65 ∨ partC w i = 77) ∧ fA y = nI r) → ¬ (partC w i = 66 ∧ fB y = nI r) → ¬ (partC w i = 97 ∧ fA y + 16 = nI r) → wB_X9_reads_125 post (wL_X9_reads_53 post (d + 1)) (nI r) y (nI w) (nI i) (partC w i) τ := fun c1 c2 c3 => ⟨fun p => ⟨fun q => yes (Or.inr (Or.inr (Or.inr (Or.inl ⟨p, q⟩)))), fun q => k143 c1 c2 c3 (fun z => q z.2)⟩, fun p => k143 c1 c2 c3 (fun z => p z.1)⟩
        have k107 : ¬ ((partC w i = 65 ∨ partC w i = 77) ∧ fA y = nI r) → ¬ (partC w i = 66 ∧ fB y = nI r) → wB_X9_reads_107 post (wL_X9_reads_53 post (d + 1)) (nI r) y (nI w) (nI i) (partC w i) τ := fun c1 c2 => ⟨fun p => ⟨fun q => yes (Or.inr (Or.inr (Or.inl ⟨p, q⟩))), fun q => k125 c1 c2 (fun z => q z.2)⟩, fun p => k125 c1 c2 (fun z => p z.1)⟩
        have k90 : ¬ ((partC w i = 65 ∨ partC w i = 77) ∧ fA y = nI r) → wB_X9_reads_90 post (wL_X9_reads_53 post (d + 1)) (nI r) y (nI w) (nI i) (partC w i) τ := fun c1 => ⟨fun p => ⟨fun q => yes (Or.inr (Or.inl ⟨p, q⟩)), fun q => k107 c1 (fun z => q z.2)⟩, fun p => k107 c1 (fun z => p z.1)⟩
        have k82 : (partC w i = 65 ∨ partC w i = 77) → wB_X9_reads_82 post (wL_X9_reads_53 post (d + 1)) (nI r) y (nI w) (nI i) (partC w i) τ := fun p => ⟨fun q => yes (Or.inl ⟨p, q⟩), fun q => k90 (fun z => q z.2)⟩
        exact ⟨fun z => absurd z (nI_ge (a := i) (b := 4) (by omega) (by decide)), fun _ => sp_part hw (show i < 4 by omega) ⟨fun p => k82 (Or.inl p), fun p1 => ⟨fun p => k82 (Or.inr p), fun p2 => k90 (fun z => z.1.elim p1 p2)⟩⟩⟩
    exact ⟨5, main 4 0 rfl (fun i hi => absurd hi (Nat.not_lt_zero i))⟩
  refine ⟨fun q => k50 (fun z => ?_), fun q => em_guarded hk hx (fun hg => ⟨fun _ => k50 (fun z => hg z.1), fun z => absurd rfl z⟩) (fun hg => ⟨fun z => absurd z (by decide), fun _ => ?_⟩)⟩
  · have := z.2
    rw [eg] at this
    exact gd_lo j hj r hr q this
  · have e2 := gd_hi j hj r hr q
    show (fG y &&& 3 = nI r - 16 → post 1 τ) ∧ (¬ fG y &&& 3 = nI r - 16 → wB_X9_reads_50 post (nI r) y (nI w) τ)
    rw [eg]
    exact ⟨fun z => h1 (Or.inl (Or.inl ⟨hg, by rw [eg]; exact e2.mp z⟩)), fun z => k50 (fun y2 => z (e2.mpr (by have := y2.2; rw [eg] at this; exact this)))⟩
theorem em_writes (hk : k < 64) (hr : r < 20) (hx : mL τ 10 k = x) (ho : isOf x o) (h1 : owQ o x r → post 1 τ) (h0 : ¬ owQ o x r → post 0 τ) : wp_X9_writes post (nI k) (nI r) τ := by
  have hv : vp_in (nI k) 64 := vp_in_nI hk (by decide)
  unfold wp_X9_writes
  rw [nI_clamp (by omega), hx]
  refine ⟨hv, em_listed (fun g => ⟨fun _ => h0 (by rw [isOf_inj ho g]; exact fun z => z), fun z => absurd rfl z⟩) (fun w hw g => ⟨fun z => absurd z (nI_ne1 (by omega)), fun _ => em_guarded hk hx (fun hg => ⟨fun _ => ?_, fun z => absurd rfl z⟩) (fun hg => ⟨fun z => absurd z (by decide), fun _ => h0 ?_⟩)⟩)⟩
  · have eo := isOf_inj ho g
    subst eo
    obtain ⟨-, -, -, -, -, -, e1, e2, e3⟩ := pm_rd w hw
    have id : ixC 100 x = fD x := ix_z _
    have iD : ixC 68 x = fD x + 16 := Int32.add_comm 16 (fD x)
    have key : (∃ i, i < 4 ∧ ((partC w i = 68 ∧ fD x = nI r) ∨ (partC w i = 100 ∧ fD x + 16 = nI r))) ↔ wrP (pm w) x r := by
      constructor
      · rintro ⟨i, hi, ⟨p, e⟩ | ⟨p, e⟩⟩
        · exact Or.inl ⟨e1.symm.trans (hM_iff.mpr ⟨i, hi, p⟩), id.trans e⟩
        · have h2 := hM_iff.mpr ⟨i, hi, p⟩
          refine Or.inr ⟨?_, e2.symm.trans h2, iD.trans e⟩
          rw [h2, Bool.and_true] at e3
          exact e1.symm.trans e3
      · rintro (⟨p, e⟩ | ⟨-, p, e⟩)
        · obtain ⟨i, hi, q⟩ := hM_iff.mp (e1.trans p); exact ⟨i, hi, Or.inl ⟨q, id.symm.trans e⟩⟩
        · obtain ⟨i, hi, q⟩ := hM_iff.mp (e2.trans p); exact ⟨i, hi, Or.inr ⟨q, iD.symm.trans e⟩⟩
    have main : ∀ (d i : Nat), i + d = 4 → (∀ i', i' < i → ¬ ((partC w i' = 68 ∧ fD x = nI r) ∨ (partC w i' = 100 ∧ fD x + 16 = nI r))) → wL_X9_writes_28 post (d + 1) (nI k) (nI r) (nI w) (nI i) τ := by
      intro d
      induction d with
      | zero =>
        intro i hi hn
        exact ⟨fun _ => h0 (fun z => by
          obtain ⟨i', hi', q⟩ := key.mpr z.2
          exact hn i' (by omega) q), fun z => absurd (show (4 : Int32) ≤ nI i by rw [show i = 4 by omega]; decide) z⟩
      | succ d ih =>
        intro i hi hn
        have yes : ((partC w i = 68 ∧ fD x = nI r) ∨ (partC w i = 100 ∧ fD x + 16 = nI r)) → post 1 τ := fun z => h1 ⟨hg, key.mp ⟨i, by omega, z⟩⟩
        have k87 : ¬ ((partC w i = 68 ∧ fD x = nI r) ∨ (partC w i = 100 ∧ fD x + 16 = nI r)) → wB_X9_writes_87 post (wL_X9_writes_28 post (d + 1)) (nI k) (nI r) (nI w) (nI i) τ := fun z u hu => by
          rw [hu, nI_1]
          refine ih (i + 1) (by omega) (fun i' hi' => ?_)
          rcases Nat.lt_or_ge i' i with q | q
          · exact hn i' q
          · rw [show i' = i by omega]; exact z
        have k58 : ¬ (partC w i = 68 ∧ fD x = nI r) → wB_X9_writes_58 post (wL_X9_writes_28 post (d + 1)) (nI k) (nI r) (nI w) (nI i) τ := fun c1 => sp_part hw (show i < 4 by omega) ⟨fun p => ⟨hv, by
          rw [nI_clamp (by omega), hx]
          exact ⟨fun q => yes (Or.inr ⟨p, q⟩), fun q => k87 (fun z => z.elim c1 (fun z => q z.2))⟩⟩, fun p => k87 (fun z => z.elim c1 (fun z => p z.1))⟩
        exact ⟨fun z => absurd z (nI_ge (a := i) (b := 4) (by omega) (by decide)), fun _ => sp_part hw (show i < 4 by omega) ⟨fun p => ⟨hv, by
          rw [nI_clamp (by omega), hx]
          exact ⟨fun q => yes (Or.inl ⟨p, q⟩), fun q => k58 (fun z => q z.2)⟩⟩, fun p => k58 (fun z => p z.1)⟩⟩
    exact ⟨5, main 4 0 rfl (fun i hi => absurd hi (Nat.not_lt_zero i))⟩
  · have eo := isOf_inj ho g
    subst eo
    exact fun z => z.1 hg
end LM
/-- PLACES come to ahead of a WORD that writes r -/
def Lv (σ : XS) (c : Nat) (v : Int32) (r : Nat) : Nat → Prop := Cl (fun b => b < c ∧ v = nI b) (fun a b => ¬ owQ (xQ σ 1 a) (xL σ 6 a) r ∧ nx σ c a b)
theorem Lv_lt {σ : XS} {c : Nat} {v : Int32} {r : Nat} : ∀ b, Lv σ c v r b → b < c := Cl_ind (fun b h => h.1) (fun a b _ _ e => e.2.1)
section LX
variable {σ : XS} {c r : Nat}
theorem xe_having_o {post : Int64 → XS → Prop} (hc : c ≤ 64) (e : xI σ 8 = nI c) (hck : ∀ k, k < c → ckX σ k) (hr : r < 20) (h : ∀ y : Int64, (∀ b, b < 64 → (bt y b = true ↔ (b < c ∧ owQ (xQ σ 1 b) (xL σ 6 b) r))) → post y σ) : wp_X0_overwritersOf post (nI r) σ := by
  have main : ∀ (d j : Nat) (y : Int64), j + d = c → (∀ b, b < 64 → (bt y b = true ↔ (b < j ∧ owQ (xQ σ 1 b) (xL σ 6 b) r))) → wL_X0_having_o_5 (fun r_1 σ_2 => post r_1 σ_2) (d + 1) (nI r) y (nI j) σ := by
    intro d
    induction d with
    | zero => intro j y hj hy; exact ⟨fun _ => h y (by rw [show c = j by omega]; exact hy), fun z => absurd (by rw [e]; exact nI_le (by omega) (by omega)) z⟩
    | succ d ih =>
      intro j y hj hy
      have hjc : j < c := by omega
      have ho := (hck j hjc).2.2 r hr
      refine ⟨fun z => absurd z (by rw [e]; exact nI_ge hjc (by omega)), fun _ => ⟨fun z => absurd z (nI_ge (a := j) (b := 64) (by omega) (by decide)), fun _ => ⟨vp_in_nI (by omega) (by decide), ?_⟩⟩⟩
      rw [nI_clamp (by omega), b32_tst (show r < 32 by omega)]
      refine ⟨fun z => fun u hu => ?_, fun z => xe_bitK hc e hjc (fun y' hy' u hu => ?_)⟩
      · rw [hu, nI_1]
        refine ih (j + 1) y (by omega) (fun b hb => ?_)
        rw [hy b hb]
        refine ⟨fun q => ⟨by omega, q.2⟩, fun q => ⟨?_, q.2⟩⟩
        rcases Nat.lt_or_ge b j with w | w
        · exact w
        · have eb : b = j := by omega
          subst eb
          rw [ho.mpr q.2] at z; cases z
      · rw [hu, nI_1]
        refine ih (j + 1) y' (by omega) (fun b hb => ?_)
        rw [hy', bt_or, Bool.or_eq_true, hy b hb, bt_bk j (by omega) b hb, decide_eq_true_eq]
        have hj1 : owQ (xQ σ 1 j) (xL σ 6 j) r := ho.mp (by
          cases q : b32 (xA σ 5 j) r with
          | true => rfl
          | false => exact absurd q z)
        constructor
        · rintro (q | q)
          · exact ⟨by omega, q.2⟩
          · rw [q]; exact ⟨by omega, hj1⟩
        · intro q
          rcases Nat.lt_or_ge b j with w | w
          · exact Or.inl ⟨w, q.2⟩
          · exact Or.inr (by omega)
  exact ⟨c + 1, main c 0 0 (by omega) (fun b hb => by rw [bt_0]; exact ⟨fun z => (by cases z), fun z => absurd z.1 (Nat.not_lt_zero b)⟩)⟩
theorem xe_having_r {post : Int64 → XS → Prop} (hc : c ≤ 64) (e : xI σ 8 = nI c) (hck : ∀ k, k < c → ckX σ k) (hr : r < 20) (h : ∀ y : Int64, (∀ b, b < 64 → (bt y b = true ↔ (b < c ∧ rdQ (xQ σ 1 b) (xL σ 6 b) r))) → post y σ) : wp_X0_readersOf post (nI r) σ := by
  have main : ∀ (d j : Nat) (y : Int64), j + d = c → (∀ b, b < 64 → (bt y b = true ↔ (b < j ∧ rdQ (xQ σ 1 b) (xL σ 6 b) r))) → wL_X0_having_r_5 (fun r_1 σ_2 => post r_1 σ_2) (d + 1) (nI r) y (nI j) σ := by
    intro d
    induction d with
    | zero => intro j y hj hy; exact ⟨fun _ => h y (by rw [show c = j by omega]; exact hy), fun z => absurd (by rw [e]; exact nI_le (by omega) (by omega)) z⟩
    | succ d ih =>
      intro j y hj hy
      have hjc : j < c := by omega
      have ho := (hck j hjc).2.1 r hr
      refine ⟨fun z => absurd z (by rw [e]; exact nI_ge hjc (by omega)), fun _ => ⟨fun z => absurd z (nI_ge (a := j) (b := 64) (by omega) (by decide)), fun _ => ⟨vp_in_nI (by omega) (by decide), ?_⟩⟩⟩
      rw [nI_clamp (by omega), b32_tst (show r < 32 by omega)]
      refine ⟨fun z => fun u hu => ?_, fun z => xe_bitK hc e hjc (fun y' hy' u hu => ?_)⟩
      · rw [hu, nI_1]
        refine ih (j + 1) y (by omega) (fun b hb => ?_)
        rw [hy b hb]
        refine ⟨fun q => ⟨by omega, q.2⟩, fun q => ⟨?_, q.2⟩⟩
        rcases Nat.lt_or_ge b j with w | w
        · exact w
        · have eb : b = j := by omega
          subst eb
          rw [ho.mpr q.2] at z; cases z
      · rw [hu, nI_1]
        refine ih (j + 1) y' (by omega) (fun b hb => ?_)
        rw [hy', bt_or, Bool.or_eq_true, hy b hb, bt_bk j (by omega) b hb, decide_eq_true_eq]
        have hj1 : rdQ (xQ σ 1 j) (xL σ 6 j) r := ho.mp (by
          cases q : b32 (xA σ 4 j) r with
          | true => rfl
          | false => exact absurd q z)
        constructor
        · rintro (q | q)
          · exact ⟨by omega, q.2⟩
          · rw [q]; exact ⟨by omega, hj1⟩
        · intro q
          rcases Nat.lt_or_ge b j with w | w
          · exact Or.inl ⟨w, q.2⟩
          · exact Or.inr (by omega)
  exact ⟨c + 1, main c 0 0 (by omega) (fun b hb => by rw [bt_0]; exact ⟨fun z => (by cases z), fun z => absurd z.1 (Nat.not_lt_zero b)⟩)⟩
end LX
section LN
variable {σ : XS} {τ : MS} {s t c : Nat}
theorem lv_edge {o : Option Nat} {K : Int32 → MS → Prop} {x3 : Int32} (hc : c ≤ 64) (h : QI (RG σ s t) s t c τ) (ho : ∀ b, o = some b → b ≤ 64) (hsame : (∀ b, b < c → o = some b → mA τ 31 b = 1) → K x3 τ) (hnew : ∀ b, b < c → o = some b → mA τ 31 b = 0 → K 1 (wA τ 31 b 1)) : (oI o (-2) < 0 → K x3 τ) ∧ (¬ oI o (-2) < 0 → (wp_X9_isPlace (fun r_12 σ_13 => (r_12 = 0 → (K x3 σ_13)) ∧ (¬ r_12 = 0 → (vp_in (oI o (-2)) 64 ∧ (((mA σ_13 31 (oI o (-2)).toNatClampNeg) = 0 → (vp_in (oI o (-2)) 64 ∧ (K 1 (wA σ_13 31 (oI o (-2)).toNatClampNeg 1)))) ∧ (¬ (mA σ_13 31 (oI o (-2)).toNatClampNeg) = 0 → (K x3 σ_13)))))) (oI o (-2)) τ)) := by
  cases o with
  | none => exact ⟨fun _ => hsame (fun b _ z => by cases z), fun z => absurd (show (-2 : Int32) < 0 by decide) z⟩
  | some b =>
    have hb := ho b rfl
    refine ⟨fun z => absurd z (nI_pos (n := b) (by omega)), fun _ => ?_⟩
    show wp_X9_isPlace (fun r_12 σ_13 => (r_12 = 0 → (K x3 σ_13)) ∧ (¬ r_12 = 0 → (vp_in (nI b) 64 ∧ (((mA σ_13 31 (nI b).toNatClampNeg) = 0 → (vp_in (nI b) 64 ∧ (K 1 (wA σ_13 31 (nI b).toNatClampNeg 1)))) ∧ (¬ (mA σ_13 31 (nI b).toNatClampNeg) = 0 → (K x3 σ_13)))))) (nI b) τ
    rw [nI_clamp (by omega)]
    by_cases q : b < c
    · have iv : vp_in (nI b) 64 := vp_in_nI (by omega) (by decide)
      refine em_placeT hc h.2 q ⟨fun z => absurd z (by decide), fun _ => ⟨iv, fun z => ⟨iv, hnew b q rfl z⟩, fun z => hsame (fun b' _ e => ?_)⟩⟩
      cases e; exact (qi_b h b).resolve_left z
    · exact em_placeF hc h.2 (fun j hj z => q (by rw [(nI_eq (by omega) (by omega)).mp z]; exact hj)) ⟨fun _ => hsame (fun b' hb' e => by cases e; exact absurd hb' q), fun z => absurd rfl z⟩
/-- PLACE a is read through -/
def lvA (σ : XS) (c r : Nat) (τ : MS) (a : Nat) : Prop := mA τ 31 a = 1 → ¬ rdQ (xQ σ 1 a) (xL σ 6 a) r ∧ (¬ owQ (xQ σ 1 a) (xL σ 6 a) r → ∀ b, nx σ c a b → mA τ 31 b = 1)
theorem em_live {post : Int32 → MS → Prop} {v : Int32} {r : Nat} (hc : c ≤ 64) (hr : r < 20) (h : QI (RG σ s t) s t c τ) (hv : ∃ j, j < c ∧ v = nI j) (h1 : ∀ τ', QI (RG σ s t) s t c τ' → (∃ b, Lv σ c v r b ∧ rdQ (xQ σ 1 b) (xL σ 6 b) r) → post 1 τ') (h0 : ∀ τ', QI (RG σ s t) s t c τ' → (¬ ∃ b, Lv σ c v r b ∧ rdQ (xQ σ 1 b) (xL σ 6 b) r) → post 0 τ') : ∃ n, wL_X9_live_27 post n v (nI r) 0 τ := by
  have n10 : ¬ (1 : Int32) = 0 := by decide
  have up1 : ∀ (τ : MS) (b b' : Nat), mA τ 31 b' = 1 → mA (wA τ 31 b 1) 31 b' = 1 := fun τ b b' z => by
    rw [come_upd]
    by_cases q : b' = b
    · rw [q, pk_us]
    · rw [pk_un q]; exact z
  have fin : ∀ (τ : MS), QI (RG σ s t) s t c τ → (∀ b, b < c → v = nI b → mA τ 31 b = 1) → (∀ a, a < c → lvA σ c r τ a) → post 0 τ := fun τ g s2 s3 => h0 τ g (fun ⟨b, hb, hrd⟩ => by
    have := Cl_ind (P := fun b => b < c ∧ mA τ 31 b = 1) (fun b q => ⟨q.1, s2 b q.1 q.2⟩) (fun a b _ q z => ⟨z.2.1, (s3 a q.1 q.2).2 z.1 b z.2⟩) b hb
    exact (s3 b this.1 this.2).1 hrd)
  have k57 : ∀ (d : Nat) (τ : MS) (x3 : Int32), QI (RG σ s t) s t c τ → (∀ b, b < c → mA τ 31 b = 1 → Lv σ c v r b) → (∀ b, b < c → v = nI b → mA τ 31 b = 1) → (x3 = 0 → ∀ a, a < c → lvA σ c r τ a) → (x3 = 0 ∨ zs (mA τ 31) 64 < d) → wL_X9_live_57 post (d + 1) (nI r) x3 τ := by
    intro d
    induction d with
    | zero => intro τ x3 g s1 s2 s3 h3; exact ⟨fun z => fin τ g s2 (s3 z), fun q => h3.elim (fun e => absurd e q) (fun e => absurd e (by omega))⟩
    | succ d ih =>
      intro τ x3 g s1 s2 s3 h3
      refine ⟨fun z => fin τ g s2 (s3 z), fun q => ?_⟩
      have hle : zs (mA τ 31) 64 ≤ d := h3.elim (fun e => absurd e q) (fun e => by omega)
      have k66 : ∀ (e j : Nat) (x3 : Int32) (τ : MS), j + e = c → QI (RG σ s t) s t c τ → (∀ b, b < c → mA τ 31 b = 1 → Lv σ c v r b) → (∀ b, b < c → v = nI b → mA τ 31 b = 1) → (x3 = 0 → ∀ a, a < j → lvA σ c r τ a) → zs (mA τ 31) 64 ≤ d → (x3 = 0 ∨ zs (mA τ 31) 64 < d) → wL_X9_live_66 post (wL_X9_live_57 post (d + 1)) (e + 1) (nI r) x3 (nI j) τ := by
        intro e
        induction e with
        | zero =>
          intro j x3 τ hj g s1 s2 s3 hd h3
          exact ⟨fun _ => ih τ x3 g s1 s2 (fun z a ha => s3 z a (by omega)) h3, fun q => absurd (by rw [g.2]; exact nI_le (by omega) (by omega)) q⟩
        | succ e ih2 =>
          intro j x3 τ hj g s1 s2 s3 hd h3
          have hjc : j < c := by omega
          have ij : vp_in (nI j) 64 := vp_in_nI (by omega) (by decide)
          have ej : (nI j).toNatClampNeg = j := nI_clamp (by omega)
          have hw := qi_w hc g j hjc
          have k172 : ∀ (x3 : Int32) (τ : MS), QI (RG σ s t) s t c τ → (∀ b, b < c → mA τ 31 b = 1 → Lv σ c v r b) → (∀ b, b < c → v = nI b → mA τ 31 b = 1) → (x3 = 0 → (∀ a, a < j → lvA σ c r τ a) ∧ lvA σ c r τ j) → zs (mA τ 31) 64 ≤ d → (x3 = 0 ∨ zs (mA τ 31) 64 < d) → wB_X9_live_172 post (wL_X9_live_57 post (d + 1)) (wL_X9_live_66 post (wL_X9_live_57 post (d + 1)) (e + 1)) (nI r) x3 (nI j) τ := fun x3 τ g s1 s2 s3 hd h3 u hu => by
            rw [hu, nI_1]
            refine ih2 (j + 1) x3 τ (by omega) g s1 s2 (fun z a ha => ?_) hd h3
            rcases Nat.lt_or_ge a j with w | w
            · exact (s3 z).1 a w
            · rw [show a = j by omega]; exact (s3 z).2
          refine ⟨fun z => absurd z (by rw [g.2]; exact nI_ge hjc (by omega)), fun _ => ⟨ij, ?_⟩⟩
          rw [ej]
          refine ⟨fun z => k172 x3 τ g s1 s2 (fun q => ⟨s3 q, fun ca => by rw [z] at ca; cases ca⟩) hd h3, fun z => em_reads (by omega) hr hw.1 hw.2.1 (fun hrd => ⟨fun z => absurd z (by decide), fun _ => h1 τ g ⟨j, s1 j hjc ((qi_b g j).resolve_left z), hrd⟩⟩) (fun nrd => ⟨fun _ => ⟨3, ?_⟩, fun z => absurd rfl z⟩)⟩
          have cj : mA τ 31 j = 1 := (qi_b g j).resolve_left z
          -- all that is known while the WAYS of PLACE j are followed
          have k2 : ∀ (x3 : Int32) (τ : MS), QI (RG σ s t) s t c τ → (∀ b, b < c → mA τ 31 b = 1 → Lv σ c v r b) → (∀ b, b < c → v = nI b → mA τ 31 b = 1) → (x3 = 0 → (∀ a, a < j → lvA σ c r τ a) ∧ lvA σ c r τ j) → zs (mA τ 31) 64 ≤ d → (x3 = 0 ∨ zs (mA τ 31) 64 < d) → wB_X9_live_166 post (wL_X9_live_57 post (d + 1)) (wL_X9_live_66 post (wL_X9_live_57 post (d + 1)) (e + 1)) (wL_X9_live_103 post (wL_X9_live_57 post (d + 1)) (wL_X9_live_66 post (wL_X9_live_57 post (d + 1)) (e + 1)) 1) (nI r) x3 (nI j) 1 τ := fun x3 τ g s1 s2 s3 hd h3 u hu => by
            rw [hu]
            exact ⟨fun _ => k172 x3 τ g s1 s2 s3 hd h3, fun q => absurd (by decide) q⟩
          have k1 : ∀ (x3 : Int32) (τ : MS), mA τ 31 j = 1 → QI (RG σ s t) s t c τ → (∀ b, b < c → mA τ 31 b = 1 → Lv σ c v r b) → (∀ b, b < c → v = nI b → mA τ 31 b = 1) → (x3 = 0 → (∀ a, a < j → lvA σ c r τ a) ∧ ∀ b, b < c → wy0 (xQ σ 1 j) (xL σ 6 j) j = some b → mA τ 31 b = 1) → zs (mA τ 31) 64 ≤ d → (x3 = 0 ∨ zs (mA τ 31) 64 < d) → wB_X9_live_166 post (wL_X9_live_57 post (d + 1)) (wL_X9_live_66 post (wL_X9_live_57 post (d + 1)) (e + 1)) (wL_X9_live_103 post (wL_X9_live_57 post (d + 1)) (wL_X9_live_66 post (wL_X9_live_57 post (d + 1)) (e + 1)) 2) (nI r) x3 (nI j) 0 τ := by
            intro x3 τ cj g s1 s2 s3 hd h3 u hu
            have hw := qi_w hc g j hjc
            rw [hu]
            refine ⟨fun z => absurd z (by decide), fun _ => em_writes (by omega) hr hw.1 hw.2.1 (fun how => ⟨fun z => absurd z (by decide), fun _ => k172 x3 τ g s1 s2 (fun q => ⟨(s3 q).1, fun _ => ⟨nrd, fun n => absurd how n⟩⟩) hd h3⟩) (fun now => ⟨fun _ => em_way1 (by omega) hw.1 hw.2.1 ?_, fun z => absurd rfl z⟩)⟩
            refine lv_edge (K := fun x3 τ => wB_X9_live_166 post (wL_X9_live_57 post (d + 1)) (wL_X9_live_66 post (wL_X9_live_57 post (d + 1)) (e + 1)) (wL_X9_live_103 post (wL_X9_live_57 post (d + 1)) (wL_X9_live_66 post (wL_X9_live_57 post (d + 1)) (e + 1)) 1) (nI r) x3 (nI j) 1 τ) hc g (fun b hb => by rw [wy1_eq hb]; omega) (fun hb => k2 x3 τ g s1 s2 (fun q => ⟨(s3 q).1, fun _ => ⟨nrd, fun _ b hn => ?_⟩⟩) hd h3) (fun b hb eb zb => ?_)
            · rcases hn.2 with w | w
              · exact (s3 q).2 b hn.1 w
              · exact hb b hn.1 w
            · have hz1 : zs (mA (wA τ 31 b 1) 31) 64 + 1 = zs (mA τ 31) 64 := by rw [come_upd]; exact zs_upd _ _ zb 64 (by omega)
              refine k2 1 _ (qi_come g (Or.inr rfl)) (fun b' hb' cb' => ?_) (fun b' hb' z1 => up1 τ b b' (s2 b' hb' z1)) (fun z => absurd z n10) (by omega) (Or.inr (by omega))
              rw [come_upd] at cb'
              by_cases w : b' = b
              · rw [w]; exact Cl_s (s1 j hjc cj) ⟨now, hb, Or.inr eb⟩
              · rw [pk_un w] at cb'; exact s1 b' hb' cb'
          refine ⟨fun z => absurd z (by decide), fun _ => em_writes (by omega) hr hw.1 hw.2.1 (fun how => ⟨fun z => absurd z (by decide), fun _ => k172 x3 τ g s1 s2 (fun q => ⟨s3 q, fun _ => ⟨nrd, fun n => absurd how n⟩⟩) hd h3⟩) (fun now => ⟨fun _ => em_way0 (by omega) hw.1 hw.2.1 ?_, fun z => absurd rfl z⟩)⟩
          refine lv_edge (K := fun x3 τ => wB_X9_live_166 post (wL_X9_live_57 post (d + 1)) (wL_X9_live_66 post (wL_X9_live_57 post (d + 1)) (e + 1)) (wL_X9_live_103 post (wL_X9_live_57 post (d + 1)) (wL_X9_live_66 post (wL_X9_live_57 post (d + 1)) (e + 1)) 2) (nI r) x3 (nI j) 0 τ) hc g (fun b hb => wy0_le hw.2.1 (by omega) hb) (fun hb => k1 x3 τ cj g s1 s2 (fun q => ⟨s3 q, hb⟩) hd h3) (fun b hb eb zb => ?_)
          have hz1 : zs (mA (wA τ 31 b 1) 31) 64 + 1 = zs (mA τ 31) 64 := by rw [come_upd]; exact zs_upd _ _ zb 64 (by omega)
          refine k1 1 _ (up1 τ b j cj) (qi_come g (Or.inr rfl)) (fun b' hb' cb' => ?_) (fun b' hb' z1 => up1 τ b b' (s2 b' hb' z1)) (fun z => absurd z n10) (by omega) (Or.inr (by omega))
          rw [come_upd] at cb'
          by_cases w : b' = b
          · rw [w]; exact Cl_s (s1 j hjc cj) ⟨now, hb, Or.inl eb⟩
          · rw [pk_un w] at cb'; exact s1 b' hb' cb'
      exact ⟨c + 1, k66 c 0 0 τ (by omega) g s1 s2 (fun _ a ha => absurd ha (Nat.not_lt_zero a)) hle (Or.inl rfl)⟩
  obtain ⟨j0, hj0, rfl⟩ := hv
  have start : ∀ (d j : Nat) (τ : MS), j + d = 64 → QI (RG σ s t) s t c τ → (∀ b, b < j → (mA τ 31 b = 1 ↔ b = j0)) → wL_X9_live_27 post (d + 1) (nI j0) (nI r) (nI j) τ := by
    intro d
    induction d with
    | zero =>
      intro j τ hj g z0
      refine ⟨fun _ => ⟨66, k57 65 τ 1 g (fun b hb cb => ?_) (fun b hb e => ?_) (fun z => absurd z n10) (Or.inr (by have := zs_le (mA τ 31) 64; omega))⟩, fun q => absurd (show (64 : Int32) ≤ nI j by rw [show j = 64 by omega]; decide) q⟩
      · rw [(z0 b (by omega)).mp cb]; exact Cl_0 ⟨hj0, rfl⟩
      · exact (z0 b (by omega)).mpr ((nI_eq (by omega) (by omega)).mp e).symm
    | succ d ih =>
      intro j τ hj g z0
      have nb1 : vp_nar .boolean 1 = 1 := by decide
      have nb0 : vp_nar .boolean 0 = 0 := by decide
      have go : ∀ u : Int32, isB u → (u = 1 ↔ j = j0) → wL_X9_live_27 post (d + 1) (nI j0) (nI r) (nI j + 1) (wA τ 31 (nI j).toNatClampNeg u) := fun u hu hj' => by
        rw [nI_1, nI_clamp (by omega)]
        refine ih (j + 1) _ (by omega) (qi_come g hu) (fun b hb => ?_)
        rw [come_upd]
        by_cases w : b = j
        · rw [w, pk_us]; exact hj'
        · rw [pk_un w]; exact z0 b (by omega)
      refine ⟨fun z => absurd z (nI_ge (a := j) (b := 64) (by omega) (by decide)), fun _ => ⟨fun q => ⟨vp_in_nI (by omega) (by decide), fun u hu => ?_⟩, fun q => ⟨vp_in_nI (by omega) (by decide), fun u hu => ?_⟩⟩⟩
      · rw [hu, nb1]
        exact go 1 (Or.inr rfl) ⟨fun _ => (nI_eq (by omega) (by omega)).mp q, fun _ => rfl⟩
      · rw [hu, nb0]
        exact go 0 (Or.inl rfl) ⟨fun z => (by cases z), fun z => absurd (by rw [z]) q⟩
  exact ⟨65, start 64 0 τ rfl h (fun b hb => absurd hb (Nat.not_lt_zero b))⟩
end LN
section BL
variable {σ : XS} {β : BS} {τ : MS}
theorem be_live {x i : Int32} {P : Int32 → XS → Int32 → MS → Prop} (h : II σ β τ) (k : ∀ r τ', II σ β τ' → P r σ r τ') : wp_X8_live (fun r1 u1 => wp_X9_live (fun r2 u2 => P r1 u1 r2 u2) x i τ) x i σ := by
  obtain ⟨s, t, hs, ht, hX, hB, hG⟩ := id h
  obtain ⟨r1, ⟨c, hc, c1, c2, c3⟩, r3⟩ := id hG.2
  have hQ : QI (RG σ s t) s t c (wI τ 0 0) := ⟨hG, c2⟩
  have hck : ∀ k, k < c → ckX σ k := fun k hk => (c3 k hk).2
  have hk : ∀ τ', QI (RG σ s t) s t c τ' → II σ β τ' := fun τ' g => ⟨s, t, hs, ht, hX, hB, g.1⟩
  have k0 : P 0 σ 0 (wI τ 0 0) := k 0 _ (hk _ hQ)
  by_cases n0 : i < 0
  · have hm : wp_X9_live (fun r2 u2 => P 0 σ r2 u2) x i τ := by
      rcases Classical.em (∃ j, j < c ∧ x = nI j) with ⟨j, hj, rfl⟩ | nq
      · exact em_placeT hc hQ.2 hj ⟨fun z => absurd z (by decide), fun _ => ⟨fun _ => k0, fun z => absurd n0 z⟩⟩
      · exact em_placeF hc hQ.2 (fun j hj z => nq ⟨j, hj, z⟩) ⟨fun _ => k0, fun z => absurd rfl z⟩
    exact ⟨fun _ => hm, fun z => absurd n0 z⟩
  obtain ⟨r, hr31, rfl⟩ := nI_of n0
  by_cases h20 : r < 20
  · have l20 : nI r < 20 := nI_lt (b := 20) h20 (by decide)
    have l19 : nI r ≤ 19 := nI_le (b := 19) (by omega) (by decide)
    refine ⟨fun z => absurd z n0, fun _ => ⟨fun _ => ?_, fun z => absurd l20 z⟩⟩
    refine xe_having_o hc c1 hck h20 (fun y hy => xe_walk hc c1 hck (fun w hw => xe_having_r hc c1 hck h20 (fun q hq => ?_)))
    have eqv : ∀ b, b < 64 → (XW σ c x y b ↔ Lv σ c x r b) := by
      intro b hb
      constructor
      · refine Cl_ind (P := Lv σ c x r) (fun b h => Cl_0 h) (fun a b ha h e => Cl_s h ⟨fun ow => ?_, e.2⟩) b
        have hac := XW_lt a ha
        have := (hy a (by omega)).mpr ⟨hac, ow⟩
        rw [e.1] at this; cases this
      · refine Cl_ind (P := XW σ c x y) (fun b h => Cl_0 h) (fun a b ha h e => Cl_s h ⟨bfalse (fun z => ?_), e.2⟩) b
        have hac := Lv_lt a ha
        exact e.1 ((hy a (by omega)).mp z).2
    have hb : ∀ b, b < 64 → (bt (w &&& q) b = true ↔ (Lv σ c x r b ∧ rdQ (xQ σ 1 b) (xL σ 6 b) r)) := fun b hb => by
      rw [bt_and, Bool.and_eq_true, hw b hb, hq b hb, eqv b hb]
      exact ⟨fun z => ⟨z.1, z.2.2⟩, fun z => ⟨z.1, Lv_lt b z.1, z.2⟩⟩
    rcases Classical.em (∃ j, j < c ∧ x = nI j) with hj | nq
    · have hm : ∀ v : Int32, ((∃ b, Lv σ c x r b ∧ rdQ (xQ σ 1 b) (xL σ 6 b) r) → v = 1) → ((¬ ∃ b, Lv σ c x r b ∧ rdQ (xQ σ 1 b) (xL σ 6 b) r) → v = 0) → wp_X9_live (fun r2 u2 => P v σ r2 u2) x (nI r) τ := fun v v1 v0 => by
        obtain ⟨j, hj', ex⟩ := id hj
        have hh := em_live (post := fun r2 u2 => P v σ r2 u2) hc h20 hQ hj (fun τ' g z => (by have := k v τ' (hk τ' g); rw [v1 z] at this ⊢; exact this)) (fun τ' g z => (by have := k v τ' (hk τ' g); rw [v0 z] at this ⊢; exact this))
        unfold wp_X9_live
        rw [ex] at hh ⊢
        exact em_placeT hc hQ.2 hj' ⟨fun z => absurd z (by decide), fun _ => ⟨fun z => absurd z n0, fun _ => ⟨fun _ => hh, fun z => absurd l19 z⟩⟩⟩
      refine ⟨fun z => ⟨Or.inl rfl, Or.inl rfl, hm 0 (fun ⟨b, z1, z2⟩ => ?_) (fun _ => rfl)⟩, fun z => ⟨Or.inr rfl, Or.inr rfl, hm 1 (fun _ => rfl) (fun w => absurd (bt_ext (fun b hb' => ?_)) z)⟩⟩
      · have hlt := Lv_lt b z1
        have := (hb b (by omega)).mpr ⟨z1, z2⟩
        rw [z, bt_0] at this; cases this
      · rw [bt_0]; exact bfalse (fun y => w ⟨b, (hb b hb').mp y⟩)
    · have hn : ∀ j, j < c → ¬ x = nI j := fun j hj z => nq ⟨j, hj, z⟩
      have hm : wp_X9_live (fun r2 u2 => P 0 σ r2 u2) x (nI r) τ := em_placeF hc hQ.2 hn ⟨fun _ => k0, fun z => absurd rfl z⟩
      refine ⟨fun _ => ⟨Or.inl rfl, Or.inl rfl, hm⟩, fun z => absurd (bt_ext (fun b hb' => ?_)) z⟩
      rw [bt_0]
      refine bfalse (fun y => ?_)
      have hl := ((hb b hb').mp y).1
      exact Cl_ind (P := fun _ => False) (fun b h => hn b h.1 h.2) (fun a b _ h _ => h) b hl
  · have l20 : ¬ nI r < 20 := nI_nlt (b := 20) (by omega) hr31
    have l19 : ¬ nI r ≤ 19 := nI_ge (a := 19) (by omega) hr31
    have hm : wp_X9_live (fun r2 u2 => P 0 σ r2 u2) x (nI r) τ := by
      rcases Classical.em (∃ j, j < c ∧ x = nI j) with ⟨j, hj, rfl⟩ | nq
      · exact em_placeT hc hQ.2 hj ⟨fun z => absurd z (by decide), fun _ => ⟨fun z => absurd z n0, fun _ => ⟨fun z => absurd z l19, fun _ => k0⟩⟩⟩
      · exact em_placeF hc hQ.2 (fun j hj z => nq ⟨j, hj, z⟩) ⟨fun _ => k0, fun z => absurd rfl z⟩
    exact ⟨fun z => absurd z n0, fun _ => ⟨fun z => absurd z l20, fun _ => hm⟩⟩
end BL
