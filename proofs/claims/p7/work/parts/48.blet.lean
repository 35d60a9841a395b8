/-! the class's letter: the builder's text stays within its bounds -/
section BL
variable {n N : Nat} {β : BS} {post : BS → Prop}
def BI (n : Nat) (β : BS) : Prop := zI β 1 = nI n ∧ n ≤ zN β 1 ∧ (zN β 1 = 16 ∨ zN β 1 = 34 ∨ zN β 1 = 70) ∧ sb_Fit (zA β 0)
theorem bi_70 (h : BI n β) : zN β 1 ≤ 70 := by rcases h.2.2.1 with e | e | e <;> omega
theorem sb_ens (hN : N ≤ 70) (hd : N ≤ n + 18) (h : BI n β) (k : ∀ γ, BI n γ → N ≤ zN γ 1 → post γ) : wp_J5_ensureCapacityInternal_d00df post (nI N) β := by
  have hc := h.2.1
  refine ⟨N, rfl, hN, h.2.2.1, by rcases h.2.2.1 with e | e | e <;> omega, h.2.2.2, fun q => k β h q, fun q r => ?_⟩
  have e1 : zN (zGrow β r) 1 = 2 * zN β 1 + 2 := rfl
  refine k _ ⟨h.1, by omega, ?_, ?_⟩ (by rcases h.2.2.1 with e | e | e <;> omega)
  · rcases h.2.2.1 with e | e | e
    · exact Or.inr (Or.inl (by omega))
    · exact Or.inr (Or.inr (by omega))
    · omega
  · exact sb_fitC (f := zA β 0) (g := fun _ => 0) h.2.2.2 sb_fit0
theorem nar_fit (v : Int32) : fits .byte (.int (vp_nar .byte v)) = true := by rw [vp_nar_byte]; exact pk_fb v
theorem bi_set {i : Nat} {v : Int32} (h : BI n β) : BI n (jA β 0 i (vp_nar .byte v)) := ⟨h.1, h.2.1, h.2.2.1, sb_fitU h.2.2.2 (nar_fit v)⟩
theorem bi_len {m : Nat} {v : Int32} (h : BI n β) (hm : m ≤ zN β 1) (hv : v = nI m) : BI m (jI β 1 v) := ⟨hv, hm, h.2.2.1, h.2.2.2⟩
theorem sb_char {x : Int32} (hx : ¬ 255 < x) (hn : n < 70) (h : BI n β) (k : ∀ γ, BI (n + 1) γ → post γ) : wp_J4_append_cf468 post x β := by
  show wp_J5_ensureCapacityInternal_d00df _ (zI β 1 + 1) β
  rw [h.1, nI_1]
  refine sb_ens (by omega) (by omega) h (fun γ g hc => ⟨fun z => absurd z (by decide), fun _ => ⟨fun _ => ⟨Or.inr rfl, fun z => absurd z (by decide), fun _ => ⟨fun z => absurd z hx, fun _ => ⟨Or.inr rfl, fun z => absurd z (by decide), fun _ => ⟨?_, ?_⟩⟩⟩⟩, fun z => absurd rfl z⟩⟩)
  · rw [g.1]; exact vp_in_nI (by omega) (by have := bi_70 g; omega)
  · exact k _ (bi_set (bi_len g hc (by rw [g.1, nI_1])))
theorem sb_str {e : Nat} (he : e < nX) (hl : lenX.getD e 0 ≤ 18) (hf : ∀ i, i < lenX.getD e 0 → fits .byte (.int ((bytX.getD e []).getD i 0)) = true) (hn : n + lenX.getD e 0 ≤ 70) (h : BI n β) (k : ∀ γ, BI (n + lenX.getD e 0) γ → post γ) : wp_J4_append_15ec4 post e β := by
  refine ⟨he, x_len he ?_⟩
  rw [h.1, nI_add]
  refine sb_ens hn (by omega) h (fun γ g hc => ?_)
  have e0 : (zI γ 1) <<< ((0 : Int32) &&& 31) = nI n := by rw [show (0 : Int32) &&& 31 = 0 by decide, Int32.shiftLeft_zero, g.1]
  have eL : (Int32.ofNat (lenX.getD e 0)) = nI (lenX.getD e 0) := rfl
  have z0 : (0 : Int32).toNatClampNeg = 0 := rfl
  have h70 := bi_70 g
  refine ⟨fun z => absurd z (by decide), fun _ => ⟨he, ⟨fun z => absurd z (by decide), fun _ => ⟨he, rfl, fun _ => ⟨he, he, ?_⟩, fun z => absurd rfl z⟩⟩⟩⟩
  refine ⟨fun z => absurd z (by decide), fun _ => ⟨he, rfl, fun _ => ⟨he, he, he, he, by decide, ?_, ?_, ?_, ?_, ?_, ?_⟩, fun z => absurd rfl z⟩⟩
  · rw [e0]; exact nI_pos (by omega)
  · rw [eL]; exact nI_pos (by omega)
  · rw [eL, nI_clamp (by omega), z0]; omega
  · rw [e0, eL, nI_clamp (by omega), nI_clamp (by omega)]; exact hc
  · intro i hi
    rw [eL, nI_clamp (by omega)] at hi
    rw [z0, Nat.zero_add]
    exact hf i hi
  · refine k _ (bi_len (β := jAs γ 0 _) (n := n) ⟨g.1, g.2.1, g.2.2.1, ?_⟩ hc (by show zI γ 1 + _ = _; rw [g.1, nI_add]))
    intro j
    show fits .byte (.int (va_cpy (fun j => (bytX.getD e []).getD j 0) (zA γ 0) (0 : Int32).toNatClampNeg (zI γ 1 <<< ((0 : Int32) &&& 31)).toNatClampNeg (Int32.ofNat (lenX.getD e 0)).toNatClampNeg j)) = true
    rw [e0, eL, nI_clamp (by omega), nI_clamp (by omega), z0]
    by_cases q : n ≤ j ∧ j < n + lenX.getD e 0
    · rw [pk_cpy_in q.1 q.2]; exact hf _ (by omega)
    · rw [pk_cpy_out (by omega)]; exact g.2.2.2 j
/-! a number's digits -/
def tp (i : Nat) : Int32 := -(nI (10 ^ i))
theorem tp_mul : ∀ i, i < 10 → 10 * tp i = tp (i + 1) := by decide +kernel
theorem tp_int : ∀ i, i < 10 → (tp i).toInt = -((10 ^ i : Nat) : Int) := by decide +kernel
theorem ten_lt : (2 : Nat) ^ 31 < 10 ^ 10 := by decide
theorem size_16 {post : Int32 → Prop} {x0 : Int32} {m c g : Nat} (hm : x0.toInt = -(m : Int)) (hm31 : m ≤ 2 ^ 31) (hc : m < 10 ^ c) (h : ∀ i, 1 ≤ i → i ≤ c → i ≤ 10 → m < 10 ^ i → post (nI (i + g))) : ∀ (d i : Nat), i + d = 10 → 1 ≤ i → i ≤ c → wL_J6_stringSize_0f7a4_16 post (d + 1) x0 (nI g) (tp i) (nI i) := by
  intro d
  induction d with
  | zero =>
    intro i hi h1 hic
    have e : i = 10 := by omega
    subst e
    refine ⟨fun _ => ?_, fun z => absurd (by decide) z⟩
    rw [show (10 : Int32) = nI 10 from rfl, nI_add]
    exact h 10 (by omega) hic (by omega) (by have := ten_lt; omega)
  | succ d ih =>
    intro i hi h1 hic
    have hti := tp_int i (by omega)
    refine ⟨fun z => absurd z (nI_ge (a := i) (b := 10) (by omega) (by decide)), fun _ => ⟨fun q => ?_, fun q => ?_⟩⟩
    · intro y hy z hz
      rw [Int32.le_iff_toInt_le, hm, hti] at q
      have hle : 10 ^ i ≤ m := by omega
      have hlt : i < c := by
        rcases Nat.lt_or_ge i c with r | r
        · exact r
        · have := Nat.pow_le_pow_right (show 0 < 10 by decide) r
          omega
      rw [hy, hz, tp_mul i (by omega), nI_1]
      exact ih (i + 1) (by omega) (by omega) (by omega)
    · rw [Int32.le_iff_toInt_le, hm, hti] at q
      rw [nI_add]
      exact h i h1 hic (by omega) (by omega)
/-- its size, where it is below 10 to the c -/
theorem sb_size {post : Int32 → Prop} {x : Int32} {c : Nat} (h1 : 1 ≤ c) (hc : x.toInt.natAbs < 10 ^ c) (h : ∀ i g, 1 ≤ i → i ≤ c → i ≤ 10 → g ≤ 1 → (x < 0 → g = 1) → x.toInt.natAbs < 10 ^ i → (¬ x < 0 → g = 0) → post (nI (i + g))) : wp_J6_stringSize_0f7a4 post x := by
  have l1 := Int32.le_toInt x
  have l2 := Int32.toInt_lt x
  have z0 : (0 : Int32).toInt = 0 := rfl
  refine ⟨fun q => ⟨10, ?_⟩, fun q y hy => ⟨10, ?_⟩⟩
  · have q' := q
    rw [Int32.lt_iff_toInt_lt, z0] at q'
    exact size_16 (g := 1) (m := x.toInt.natAbs) (by omega) (by omega) hc (fun i a b b' d => h i 1 a b b' (by omega) (fun _ => rfl) d (fun z => absurd q z)) 9 1 (by omega) (by omega) h1
  · have q' := q
    rw [Int32.lt_iff_toInt_lt, z0] at q'
    have ey : y.toInt = -(x.toInt.natAbs : Int) := by
      rw [hy, Int32.toInt_neg, Int.bmod_def]
      omega
    exact size_16 (g := 0) (m := x.toInt.natAbs) ey (by omega) hc (fun i a b b' d => h i 0 a b b' (by omega) (fun z => absurd z q) d (fun _ => rfl)) 9 1 (by omega) (by omega) h1
theorem chars_22 {post : Int32 → BS → Prop} {x6 : Int32} {g C : Nat} (hg : ¬ x6 = 0 → g = 1) (hC : C ≤ 70) (k : ∀ r γ, BI n γ → zN γ 1 = C → post r γ) : ∀ (d i m p : Nat) (x0 : Int32) (γ : BS), i ≤ 2 * d → 1 ≤ i → m < 10 ^ i → m ≤ 2 ^ 31 → x0.toInt = -(m : Int) → i + g ≤ p → p ≤ C → BI n γ → zN γ 1 = C → wL_J6_getChars_ba4f3_22 post d x0 (nI p) x6 γ := by
  intro d
  induction d with
  | zero => intro i m p x0 γ h1 h2; omega
  | succ d ih =>
    intro i m p x0 γ hid hi hm hm31 hx hp hpC b hz
    have k104 : ∀ p' γ, (¬ x6 = 0 → 1 ≤ p') → p' ≤ C → BI n γ → zN γ 1 = C → wB_J6_getChars_ba4f3_104 post (nI p') x6 γ := by
      intro p' γ h1 h2 b hz
      refine ⟨fun _ => k _ γ b hz, fun q y hy => ?_⟩
      have e : y = nI (p' - 1) := by rw [hy]; exact sb_m1 (h1 q)
      have := h1 q
      refine ⟨by rw [e, hz]; exact vp_in_nI (by omega) (by omega), k _ _ (bi_set b) hz⟩
    have c100 : (-100 : Int32).toInt = -100 := rfl
    have c9 : (-9 : Int32).toInt = -9 := rfl
    have hp1 : 1 ≤ p := by omega
    refine ⟨fun q => ?_, fun q => ?_⟩
    · intro y hy
      have ey : y = nI (p - 1) := by rw [hy]; exact sb_m1 (by omega)
      rw [Int32.lt_iff_toInt_lt, c100, hx] at q
      have hn100 : vp_in (-x0) 100 := by
        rw [vp_in_iff, Int32.toInt_neg, hx, Int.bmod_def]
        omega
      have i1 : vp_in y (zN γ 1) := by rw [ey, hz]; exact vp_in_nI (by omega) (by omega)
      refine ⟨hn100, i1, fun q9 => ?_, fun q9 => ?_⟩
      · rw [ey]
        exact k104 (p - 1) _ (fun z => by have := hg z; omega) (by omega) (bi_set b) hz
      · rw [Int32.le_iff_toInt_le, c9, hx] at q9
        have hi2 : 2 ≤ i := by
          rcases Nat.lt_or_ge i 2 with r | r
          · have : i = 1 := by omega
            subst this
            omega
          · exact r
        intro w hw
        have ew : w = nI (p - 2) := by rw [hw, ey]; exact sb_m1 (show 0 < p - 1 by omega)
        refine ⟨hn100, ?_, ?_⟩
        · show vp_in w (zN γ 1)
          rw [ew, hz]; exact vp_in_nI (by omega) (by omega)
        · rw [ew]
          exact k104 (p - 2) _ (fun z => by have := hg z; omega) (by omega) (bi_set (bi_set b)) hz
    · rw [Int32.lt_iff_toInt_lt, c100, hx] at q
      have hi3 : 3 ≤ i := by
        rcases Nat.lt_or_ge i 3 with r | r
        · have := Nat.pow_le_pow_right (show 0 < 10 by decide) (show i ≤ 2 by omega)
          omega
        · exact r
      intro a ha c hc y hy
      have ea : a.toInt = -((m / 100 : Nat) : Int) := by
        rw [ha, Int32.toInt_div, hx, show (100 : Int32).toInt = 100 from rfl, Int.bmod_def]
        have e2 : (-(m : Int)).tdiv 100 = -((m / 100 : Nat) : Int) := by
          rw [Int.neg_tdiv]
          rfl
        rw [e2]
        omega
      have ec : c.toInt = ((m % 100 : Nat) : Int) := by
        rw [hc, Int32.toInt_sub, Int32.toInt_mul, ea, hx, show (100 : Int32).toInt = 100 from rfl]
        simp only [Int.bmod_def]
        omega
      have hc100 : vp_in c 100 := by rw [vp_in_iff, ec]; omega
      have ey : y = nI (p - 1) := by rw [hy]; exact sb_m1 (by omega)
      refine ⟨hc100, by rw [ey, hz]; exact vp_in_nI (by omega) (by omega), fun w hw => ?_⟩
      have ew : w = nI (p - 2) := by rw [hw, ey]; exact sb_m1 (show 0 < p - 1 by omega)
      refine ⟨hc100, ?_, ?_⟩
      · show vp_in w (zN γ 1)
        rw [ew, hz]; exact vp_in_nI (by omega) (by omega)
      · rw [ew]
        refine ih (i - 2) (m / 100) (p - 2) a _ (by omega) (by omega) ?_ (by omega) ea (by omega) (by omega) (bi_set (bi_set b)) hz
        have e3 : 10 ^ i = 10 ^ (i - 2) * 100 := by
          rw [show (100 : Nat) = 10 ^ 2 from rfl, ← Nat.pow_add, show i - 2 + 2 = i by omega]
        rw [e3] at hm
        exact Nat.div_lt_of_lt_mul (by rw [Nat.mul_comm]; exact hm)
theorem sb_int {x : Int32} {c : Nat} (h1 : 1 ≤ c) (hc10 : c ≤ 10) (hc : x.toInt.natAbs < 10 ^ c) (hn : n + c + 1 ≤ 70) (h : BI n β) (k : ∀ γ m, m ≤ n + c + 1 → (¬ x < 0 → m ≤ n + c) → BI m γ → post γ) : wp_J4_append_bf812 post x β := by
  intro y hy
  have l1 := Int32.le_toInt x
  have l2 := Int32.toInt_lt x
  have z0 : (0 : Int32).toInt = 0 := rfl
  refine sb_size h1 hc (fun i g a1 a2 a3 a4 a5 a6 a7 z hz => ?_)
  have ez : z = nI (n + (i + g)) := by rw [hz, hy, h.1, nI_add]
  rw [ez]
  refine sb_ens (by omega) (by omega) h (fun γ b hN => ⟨fun q => absurd q (by decide), fun _ => ⟨fun _ => ⟨Or.inr rfl, fun q => absurd q (by decide), fun _ => ?_⟩, fun q => absurd rfl q⟩⟩)
  have fin : ∀ (r : Int32) (γ' : BS), BI n γ' → zN γ' 1 = zN γ 1 → wB_J5_append_c97b9_48 post (nI (n + (i + g))) γ' := fun r γ' b' hz' => k _ (n + (i + g)) (by omega) (fun q => by have := a7 q; omega) (bi_len b' (by omega) rfl)
  have h70 := bi_70 b
  refine ⟨fun q => ⟨fun _ w hw => ⟨5, ?_⟩, fun z => absurd rfl z⟩, fun q => ⟨fun z => absurd z (by decide), fun _ => ⟨5, ?_⟩⟩⟩
  · rw [Int32.le_iff_toInt_le, z0] at q
    have ew : w.toInt = -(x.toInt.natAbs : Int) := by
      rw [hw, Int32.toInt_neg, Int.bmod_def]
      omega
    exact chars_22 (g := g) (C := zN γ 1) (fun z => absurd rfl z) h70 fin 5 i x.toInt.natAbs (n + (i + g)) w γ (by omega) a1 a6 (by omega) ew (by omega) hN b rfl
  · rw [Int32.le_iff_toInt_le, z0] at q
    have hneg : x < 0 := by rw [Int32.lt_iff_toInt_lt, z0]; omega
    exact chars_22 (g := g) (C := zN γ 1) (fun _ => a5 hneg) h70 fin 5 i x.toInt.natAbs (n + (i + g)) x γ (by omega) a1 a6 (by omega) (by omega) (by omega) hN b rfl
theorem sb_any {x : Int32} (hn : n + 11 ≤ 70) (h : BI n β) (k : ∀ γ m, m ≤ n + 11 → BI m γ → post γ) : wp_J4_append_bf812 post x β := by
  have l1 := Int32.le_toInt x
  have l2 := Int32.toInt_lt x
  have : (10 : Nat) ^ 10 = 10000000000 := rfl
  exact sb_int (c := 10) (by omega) (by omega) (by omega) (by omega) h (fun γ m hm _ b => k γ m (by omega) b)
theorem sb_nib {j : Nat} (hj : j < 16) (hn : n + 3 ≤ 70) (h : BI n β) (k : ∀ γ m, m ≤ n + 2 → BI m γ → post γ) : wp_J4_append_bf812 post (nI j) β := by
  have e : (nI j).toInt = (j : Int) := nI_toInt (by omega)
  have : (10 : Nat) ^ 2 = 100 := rfl
  exact sb_int (c := 2) (by omega) (by omega) (by omega) (by omega) h (fun γ m _ hm b => k γ m (hm (nI_pos (by omega))) b)
theorem sb_set0 (h : BI n β) (k : ∀ γ, BI 0 γ → post γ) : wp_J4_setLength_d00df post 0 β := by
  refine ⟨fun _ => sb_ens (N := 0) (by omega) (by omega) h (fun γ g _ => ⟨fun _ => ⟨fun _ => k _ (bi_len g (by omega) rfl), fun _ => k _ (bi_len (β := jI γ 0 1) g (by omega) rfl)⟩, fun z => absurd ?_ z⟩), fun z => absurd (by decide) z⟩
  have h70 := bi_70 g
  have hg := g.2.1
  rw [g.1]
  exact nI_pos' (by omega)
/-- the last of it: ; and the letter -/
theorem sb_last {post : Int32 → BS → Prop} {x : Int32} (hn : n < 70) (h : BI n β) (k : ∀ r γ m, BI m γ → post r γ) :
    wp_J4_append_cf468 (fun σ_6 => (x < 0 → (post (-1) σ_6)) ∧ (¬ x < 0 → (wp_J4_length_8abf5 (fun r_7 σ_8 => (r_7 ≤ x → (post (-1) σ_8)) ∧ (¬ r_7 ≤ x → (wp_J4_charAt_5068e (fun r_9 σ_10 => post r_9 σ_10) x σ_8))) σ_6))) 59 β := by
  refine sb_char (by decide) hn h (fun γ g => ⟨fun _ => k _ γ _ g, fun q => ⟨fun _ => k _ γ _ g, fun q2 => ?_⟩⟩)
  obtain ⟨m, hm, rfl⟩ := nI_of q
  have h70 := bi_70 g
  have hg := g.2.1
  have q3 : ¬ nI (n + 1) ≤ nI m := by rw [← g.1]; exact q2
  have hlt : m < n + 1 := nI_nle' hm q3
  have e0 : (Int32.ofNat (zN γ 1)) >>> ((0 : Int32) &&& 31) = nI (zN γ 1) := by
    rw [show (0 : Int32) &&& 31 = 0 by decide, Int32.shiftRight_zero]
    rfl
  have hC : ∀ v : Int32, isC ((v.toUInt32 % 65536).toInt32) := fun v => by
    rw [pk_char]
    exact (pk_charN (Nat.mod_lt _ (by decide))).1
  show wp_J9_min_7cf53 _ (zI γ 1) ((Int32.ofNat (zN γ 1)) >>> ((0 : Int32) &&& 31))
  rw [e0, g.1]
  refine ⟨fun z => absurd z (nI_nlt hg (by omega)), fun _ => ⟨q, nI_lt hlt (by omega), fun _ => ⟨vp_in_nI (by omega) (by omega), hC _, hC _, k _ γ _ g⟩, fun z => absurd rfl z⟩⟩
theorem sb_guard {j : Nat} (hj : j < 16) (h : BI 0 β) (k : ∀ γ m, m ≤ 6 → BI m γ → post γ) : wp_X4_spellGuard post (nI j) β := by
  have hr : nI j - nI j / 4 * 4 = nI (j % 4) := pk_rem (a := j) (d := 4) (by omega) (by decide) (by decide)
  unfold wp_X4_spellGuard
  rw [hr]
  refine ⟨fun _ => k β 0 (by omega) h, fun _ => sb_char (by decide) (by omega) h (fun γ g => ⟨fun _ => ?_, fun _ => ?_⟩)⟩
  · exact sb_char (by decide) (by omega) g (fun γ g => sb_nib (by omega) (by omega) g (fun γ m hm g => sb_char (by decide) (by omega) g (fun γ g => k γ _ (by omega) g)))
  · exact sb_char (by decide) (by omega) g (fun γ g => sb_char (by decide) (by omega) g (fun γ g => sb_nib (by omega) (by omega) g (fun γ m hm g => sb_char (by decide) (by omega) g (fun γ g => k γ _ (by omega) g))))
/-! exact forms of the small questions -/
def shC (x : Int32) : Int32 := if x = 100 then 8 else if x = 68 then 8 else if x = 97 then 12 else if x = 65 then 12 else if x = 98 then 16 else if x = 66 then 16 else if x = 113 then 32 else if x = 110 then 32 else if x = 116 then 32 else -1
theorem spx_shiftOf {post : Int32 → Prop} {x : Int32} (h : post (shC x)) : wp_X2_shiftOf post x := by
  obtain ⟨h1, h2⟩ := ite_wp h
  refine ⟨h1, fun c => ?_⟩
  obtain ⟨h3, h4⟩ := ite_wp (h2 c)
  refine ⟨h3, fun c => ?_⟩
  obtain ⟨h5, h6⟩ := ite_wp (h4 c)
  refine ⟨h5, fun c => ?_⟩
  obtain ⟨h7, h8⟩ := ite_wp (h6 c)
  refine ⟨h7, fun c => ?_⟩
  obtain ⟨h9, h10⟩ := ite_wp (h8 c)
  refine ⟨h9, fun c => ?_⟩
  obtain ⟨h11, h12⟩ := ite_wp (h10 c)
  refine ⟨h11, fun c => ?_⟩
  obtain ⟨h13, h14⟩ := ite_wp (h12 c)
  refine ⟨h13, fun c => ?_⟩
  obtain ⟨h15, h16⟩ := ite_wp (h14 c)
  refine ⟨h15, fun c => ?_⟩
  exact ite_wp (h16 c)
theorem spx_isRegister {post : Int32 → Prop} {x : Int32} (h : post (bI (x = 100 ∨ x = 97 ∨ x = 98))) : wp_X2_isRegister post x := by
  unfold bI at h
  refine ⟨fun c => ⟨Or.inr rfl, ?_⟩, fun c => ⟨fun c2 => ⟨Or.inr rfl, ?_⟩, fun c2 => ⟨fun c3 => ⟨Or.inr rfl, ?_⟩, fun c3 => ⟨Or.inl rfl, ?_⟩⟩⟩⟩
  · rw [if_pos (Or.inl c)] at h; exact h
  · rw [if_pos (Or.inr (Or.inl c2))] at h; exact h
  · rw [if_pos (Or.inr (Or.inr c3))] at h; exact h
  · rw [if_neg (fun z => z.elim c (fun z => z.elim c2 c3))] at h; exact h
theorem spx_isPredicate {post : Int32 → Prop} {x : Int32} (h : post (bI (x = 68 ∨ x = 65 ∨ x = 66 ∨ x = 113))) : wp_X2_isPredicate post x := by
  unfold bI at h
  refine ⟨fun c => ⟨Or.inr rfl, ?_⟩, fun c => ⟨fun c2 => ⟨Or.inr rfl, ?_⟩, fun c2 => ⟨fun c3 => ⟨Or.inr rfl, ?_⟩, fun c3 => ⟨fun c4 => ⟨Or.inr rfl, ?_⟩, fun c4 => ⟨Or.inl rfl, ?_⟩⟩⟩⟩⟩
  · rw [if_pos (Or.inl c)] at h; exact h
  · rw [if_pos (Or.inr (Or.inl c2))] at h; exact h
  · rw [if_pos (Or.inr (Or.inr (Or.inl c3)))] at h; exact h
  · rw [if_pos (Or.inr (Or.inr (Or.inr c4)))] at h; exact h
  · rw [if_neg (fun z => z.elim c (fun z => z.elim c2 (fun z => z.elim c3 c4)))] at h; exact h
theorem spx_field {post : Int32 → Prop} {x : Int32} {w : Int64} (h1 : ¬ shC x = 32) (h2 : ¬ shC x = (-1)) (h : ∀ j, j < 16 → post (nI j)) : wp_X2_fieldOf post x w := by
  refine spx_shiftOf ⟨fun z => absurd z h1, fun _ => ⟨fun z => absurd z h2, fun _ => ?_⟩⟩
  obtain ⟨j, hj, e⟩ := and15 (w >>> ((shC x).toInt64 &&& 63))
  show post ((w >>> ((shC x).toInt64 &&& 63)) &&& 15).toInt32
  rw [e]
  exact h j hj
/-- what a part takes at most -/
def cX (c : Int32) : Nat := if shC c = (-1) then 1 else if shC c = 32 then 12 else 3
def pcX (e j : Nat) : Int32 := sCh bytX (pxI e) j
def csX (e : Nat) : Nat → Nat → Nat
  | 0, _ => 0
  | d + 1, j => cX (pcX e j) + csX e d (j + 1)
theorem csX_le : ∀ e, e < 53 → csX e (lenX.getD (pxI e) 0) 0 ≤ 50 := by decide +kernel
theorem px_len9 : ∀ e, e < 53 → lenX.getD (pxI e) 0 ≤ 9 := by decide +kernel
theorem pc_255 : ∀ e, e < 53 → ∀ j, j < 9 → ¬ 255 < pcX e j := by decide +kernel
theorem shC_reg {c : Int32} (h : c = 100 ∨ c = 97 ∨ c = 98) : ¬ shC c = 32 ∧ ¬ shC c = (-1) := by rcases h with e | e | e <;> rw [e] <;> decide
theorem shC_pre {c : Int32} (h : c = 68 ∨ c = 65 ∨ c = 66) : ¬ shC c = 32 ∧ ¬ shC c = (-1) := by rcases h with e | e | e <;> rw [e] <;> decide
theorem sb_parts_23 {e : Nat} {w : Int64} (he : e < 53) (k : ∀ γ m, m ≤ 64 → BI m γ → post γ) : ∀ (d j n : Nat) (β : BS), j + d = lenX.getD (pxI e) 0 → n + csX e d j ≤ 64 → BI n β → wL_X4_spellParts_23 post (d + 1) e w (nI j) β := by
  have hpx := px_lt he
  have hlen := px_len9 e he
  intro d
  induction d with
  | zero =>
    intro j n β hj hn h
    exact ⟨he, hpx, x_len hpx ⟨fun _ => k β n (by omega) h, fun z => absurd (nI_le (by omega) (by omega)) z⟩⟩
  | succ d ih =>
    intro j n β hj hn h
    have hs : csX e (d + 1) j = cX (pcX e j) + csX e d (j + 1) := rfl
    rw [hs] at hn
    have nx : ∀ γ m, m + csX e d (j + 1) ≤ 64 → BI m γ → ∀ y : Int32, y = nI j + 1 → wL_X4_spellParts_23 post (d + 1) e w y γ := fun γ m hm g y hy => by
      rw [hy, nI_1]
      exact ih (j + 1) m γ (by omega) hm g
    refine ⟨he, hpx, x_len hpx ⟨fun z => absurd z (nI_ge (by omega) (by omega)), fun _ => ⟨he, hpx, vp_in_nI (by omega) (by omega), fun r hr => ?_⟩⟩⟩
    rw [nI_clamp (by omega)] at hr
    have hr : r = pcX e j := hr
    rw [← hr] at hn
    have h255 : ¬ 255 < r := by rw [hr]; exact pc_255 e he j (by omega)
    refine spx_shiftOf ⟨fun q => ?_, fun q => ?_⟩
    · have hc : cX r = 1 := if_pos q
      exact sb_char h255 (by omega) h (fun γ g => nx γ _ (by omega) g)
    · refine spx_isRegister ?_
      by_cases hreg : r = 100 ∨ r = 97 ∨ r = 98
      · have hb : bI (r = 100 ∨ r = 97 ∨ r = 98) = 1 := if_pos hreg
        have hc : cX r = 3 := by unfold cX; rw [if_neg q, if_neg (shC_reg hreg).1]
        rw [hb]
        exact ⟨fun z => absurd z (by decide), fun _ => sb_char (by decide) (by omega) h (fun γ g => spx_field (shC_reg hreg).1 q (fun i hi => sb_nib hi (by omega) g (fun γ m hm g => nx γ m (by omega) g)))⟩
      · have hb : bI (r = 100 ∨ r = 97 ∨ r = 98) = 0 := if_neg hreg
        rw [hb]
        refine ⟨fun _ => spx_isPredicate ?_, fun z => absurd rfl z⟩
        by_cases hpre : r = 68 ∨ r = 65 ∨ r = 66
        · have hb : bI (r = 68 ∨ r = 65 ∨ r = 66 ∨ r = 113) = 1 := if_pos (hpre.elim Or.inl (fun z => Or.inr (z.elim Or.inl (fun z => Or.inr (Or.inl z)))))
          have hc : cX r = 3 := by unfold cX; rw [if_neg q, if_neg (shC_pre hpre).1]
          rw [hb]
          exact ⟨fun z => absurd z (by decide), fun _ => sb_char (by decide) (by omega) h (fun γ g => spx_field (shC_pre hpre).1 q (fun i hi => sb_nib hi (by omega) g (fun γ m hm g => nx γ m (by omega) g)))⟩
        · have hc : cX r = 12 := by
            unfold cX
            rw [if_neg q]
            have h32 : shC r = 32 := by
              unfold shC at q ⊢
              by_cases a1 : r = 100
              · exact absurd (Or.inl a1) hreg
              by_cases a2 : r = 68
              · exact absurd (Or.inl a2) hpre
              by_cases a3 : r = 97
              · exact absurd (Or.inr (Or.inl a3)) hreg
              by_cases a4 : r = 65
              · exact absurd (Or.inr (Or.inl a4)) hpre
              by_cases a5 : r = 98
              · exact absurd (Or.inr (Or.inr a5)) hreg
              by_cases a6 : r = 66
              · exact absurd (Or.inr (Or.inr a6)) hpre
              rw [if_neg a1, if_neg a2, if_neg a3, if_neg a4, if_neg a5, if_neg a6] at q ⊢
              by_cases a7 : r = 113
              · rw [if_pos a7]
              · rw [if_neg a7] at q ⊢
                by_cases a8 : r = 110
                · rw [if_pos a8]
                · rw [if_neg a8] at q ⊢
                  by_cases a9 : r = 116
                  · rw [if_pos a9]
                  · rw [if_neg a9] at q; exact absurd rfl q
            rw [if_pos h32]
          exact ⟨fun _ => sf_fieldOf (fun v => sb_any (by omega) h (fun γ m hm g => nx γ m (by omega) g)), fun _ => sb_char (by decide) (by omega) h (fun γ g => sf_fieldOf (fun v => sb_any (by omega) g (fun γ m hm g => nx γ m (by omega) g)))⟩
theorem sb_parts {e : Nat} {w : Int64} (he : e < 53) (hn : n ≤ 13) (h : BI n β) (k : ∀ γ m, m ≤ 64 → BI m γ → post γ) : wp_X4_spellParts post e w β := by
  have hpx := px_lt he
  have hlen := px_len9 e he
  have hcs := csX_le e he
  exact ⟨he, hpx, hpx, hpx, fun _ => ⟨Or.inr rfl, fun z => absurd z (by decide), fun _ => ⟨lenX.getD (pxI e) 0 + 1, by omega, sb_parts_23 he k (lenX.getD (pxI e) 0) 0 n β (by omega) (by omega) h⟩⟩,
    fun _ => ⟨Or.inl rfl, fun _ => sb_char (by decide) (by omega) h (fun γ g => ⟨lenX.getD (pxI e) 0 + 1, by omega, sb_parts_23 he k (lenX.getD (pxI e) 0) 0 (n + 1) γ (by omega) (by omega) g⟩), fun z => absurd rfl z⟩⟩
theorem tx_len : ∀ e, e < 53 → lenX.getD (txI e) 0 ≤ 7 := by decide +kernel
theorem tx_lt : ∀ e, e < 53 → txI e < nX := by decide +kernel
theorem tx_fit : ∀ e, e < 53 → ∀ i, i < lenX.getD (txI e) 0 → fits .byte (.int ((bytX.getD (txI e) []).getD i 0)) = true := by decide +kernel
/-- what stands of the builder between calls -/
def BG (β : BS) : Prop := ∃ n, BI n β
theorem sx_letter {post : Int32 → XS × BS → Prop} {x i : Int32} {σ : XS} (hX : XI σ) (h : BG β) (k : ∀ r γ, BG γ → post r (σ, γ)) : wp_X8_letter post x i σ β := by
  obtain ⟨n, hn⟩ := h
  refine sx_has hX ⟨fun _ => k _ β ⟨n, hn⟩, fun z => absurd rfl z⟩ (fun hv => ⟨fun z => absurd z (by decide), fun _ => ⟨hv, fun _ => ⟨hv, ?_⟩, fun e he => ⟨hv, ?_⟩⟩⟩)
  · exact sb_set0 hn (fun γ g => sb_char (by decide) (by omega) g (fun γ g => sb_last (by omega) g (fun r γ m g => k r γ ⟨m, g⟩)))
  · have h53 := hX.2.2 _ _ he
    refine sb_set0 hn (fun γ g => ?_)
    obtain ⟨j, hj, ej⟩ := and15 ((xL σ 6 x.toNatClampNeg) >>> ((20 : Int32).toInt64 &&& 63))
    unfold wp_X2_guardOf
    rw [ej]
    have ht := tx_len e h53
    exact sb_guard hj g (fun γ m hm g => ⟨h53, sb_str (tx_lt e h53) (by omega) (tx_fit e h53) (by omega) g (fun γ g => sb_parts h53 (by omega) g (fun γ m hm g => sb_last (by omega) g (fun r γ m g => k r γ ⟨m, g⟩)))⟩)
end BL
