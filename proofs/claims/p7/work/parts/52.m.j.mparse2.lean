/-! the reference's parser: amounts, parts, WORDS -/
def pm (w : Nat) : Nat := ([0, 2, 3, 11, 12, 13, 14, 15, 16, 17, 18, 19, 20, 21, 22, 23, 24, 25, 26, 27, 52, 28, 4, 5, 6, 7, 8, 9, 10, 29, 30, 31, 32, 33, 34, 35, 49, 50, 51, 36, 37, 38, 39, 41, 40, 42, 43, 44, 45, 46, 47, 48, 1] : List Nat).getD w 0
/-- a part's letter, as the class has it -/
def flC (c : Int32) : Int32 := if c = 68 then 100 else if c = 65 then 97 else if c = 66 then 98 else if c = 100 then 68 else if c = 97 then 65 else if c = 98 then 66 else if c = 80 then 113 else if c = 71 then 116 else 110
def flP (c : Int32) : List Int32 := if c = 77 then [40, 97, 43, 110, 41] else [flC c]
def flR (w : Nat) : Nat → Nat → List Int32
  | 0, _ => []
  | d + 1, j => if partC w j = 46 then [] else (if j = 0 then [] else [44]) ++ flP (partC w j) ++ flR w d (j + 1)
theorem pm_lt : ∀ w, w < 53 → pm w < 53 := by decide +kernel
theorem pm_ch : ∀ w, w < 53 → chX (pm w) = flR w 4 0 := by decide +kernel
theorem pm_key : ∀ w, w < 53 → spC w = opK (pm w) := by decide +kernel
theorem sp_inj : ∀ w, w < 53 → ∀ x, x < 53 → spC w = spC x → w = x := by decide +kernel
theorem opK_inj : ∀ w, w < 53 → ∀ x, x < 53 → opK w = opK x → w = x := by decide +kernel
theorem pm_sur : ∀ e, e < 53 → ∃ w, w < 53 ∧ pm w = e := by decide +kernel
theorem pm_op : ∀ w, w < 53 → opB (pm w) = (opC w).toInt64 ||| (if ¬ nI w ≤ 21 ∧ ¬ 29 ≤ nI w then nbr (nI w - 22).toInt64 else 0) := by decide +kernel
abbrev isMN (c : Int32) : Prop := c = 68 ∨ c = 65 ∨ c = 66 ∨ c = 100 ∨ c = 97 ∨ c = 98 ∨ c = 80 ∨ c = 78 ∨ c = 71 ∨ c = 77
abbrev isAm (c : Int32) : Prop := c = 78 ∨ c = 71 ∨ c = 77
theorem part_mn : ∀ w, w < 53 → ∀ j, j < 4 → partC w j = 46 ∨ isMN (partC w j) := by decide +kernel
theorem part_once' : ∀ w, w < 53 → ∀ j, j < 4 → ∀ k, k < j → (decide (isAm (partC w k)) && decide (isAm (partC w j))) = false := by decide +kernel
theorem part_once (w : Nat) (hw : w < 53) (j : Nat) (hj : j < 4) (k : Nat) (hk : k < j) (h1 : isAm (partC w k)) : ¬ isAm (partC w j) := fun h2 => by
  have h := part_once' w hw j hj k hk
  rw [decide_eq_true h1, decide_eq_true h2] at h
  cases h
theorem part_jmp : ∀ w, w < 53 → ∀ j, j < 4 → (partC w j = 71 → jmp (pm w) = true) ∧ (partC w j = 78 → jmp (pm w) = false) ∧ (partC w j = 77 → jmp (pm w) = false) := by decide +kernel
theorem wdF_of {v : Int64} : ∀ (d j e : Nat), wdF v d j = some e → opK e = v ∧ e < j + d := by
  intro d
  induction d with
  | zero => intro j e z; cases z
  | succ d ih =>
    intro j e z
    unfold wdF at z
    by_cases c : opK j = v
    · rw [if_pos c] at z; cases z; exact ⟨c, by omega⟩
    · rw [if_neg c] at z; have := ih (j + 1) e z; exact ⟨this.1, by omega⟩
theorem wdF_some {v : Int64} {e : Nat} (he : opK e = v) : ∀ (d j : Nat), j ≤ e → e < j + d → ∃ e', wdF v d j = some e' := by
  intro d
  induction d with
  | zero => intro j h1 h2; omega
  | succ d ih =>
    intro j h1 h2
    unfold wdF
    by_cases c : opK j = v
    · exact ⟨j, if_pos c⟩
    · rw [if_neg c]
      exact ih (j + 1) (by
        rcases Nat.lt_or_ge j e with q | q
        · exact q
        · exact absurd (by rw [show j = e by omega]; exact he) c) (by omega)
theorem wdS_of {v : Int64} {e : Nat} (he : e < 53) (h : opK e = v) : wdS v = some e := by
  obtain ⟨e', q⟩ := wdF_some h 53 0 (Nat.zero_le _) (by omega)
  have := wdF_of 53 0 e' q
  rw [show wdS v = some e' from q, opK_inj e' (by omega) e he (by rw [this.1, h])]
theorem woF_of {v : Int64} {x : Nat} : ∀ (d j : Nat), j + d = 53 → woF v d j = nI x → x < 53 → spC x = v := by
  intro d
  induction d with
  | zero => intro j hj z hx; exact absurd z.symm (nI_ne1 (by omega))
  | succ d ih =>
    intro j hj z hx
    unfold woF at z
    by_cases c : spC j = v
    · rw [if_pos c] at z
      have : j = x := by
        have h1 := congrArg Int32.toNatClampNeg z
        rw [nI_clamp (by omega), nI_clamp (by omega)] at h1
        exact h1
      rw [← this]; exact c
    · rw [if_neg c] at z
      exact ih (j + 1) (by omega) z hx
theorem woF_none {v : Int64} : ∀ (d j : Nat), j + d = 53 → woF v d j = (-1) → ∀ x, j ≤ x → x < 53 → ¬ spC x = v := by
  intro d
  induction d with
  | zero => intro j hj _ x h1 h2; omega
  | succ d ih =>
    intro j hj z x h1 h2
    unfold woF at z
    by_cases c : spC j = v
    · rw [if_pos c] at z; exact absurd z (nI_ne1 (by omega))
    · rw [if_neg c] at z
      rcases Nat.lt_or_ge j x with q | q
      · exact ih (j + 1) (by omega) z x q h2
      · rw [show x = j by omega]; exact c
/-- the same NAMES are WORDS' -/
theorem word_eq (v : Int64) : (wordC v = (-1) ∧ wdS v = none) ∨ ∃ w, w < 53 ∧ wordC v = nI w ∧ wdS v = some (pm w) := by
  rcases wordC_r v with e | ⟨x, hx, e⟩
  · refine Or.inl ⟨e, ?_⟩
    cases hq : wdS v with
    | none => rfl
    | some e' =>
      exfalso
      obtain ⟨h1, h2⟩ := wdF_of 53 0 e' hq
      obtain ⟨w, hw, ew⟩ := pm_sur e' (by omega)
      exact woF_none 53 0 rfl e w (Nat.zero_le _) hw (by rw [pm_key w hw, ew]; exact h1)
  · refine Or.inr ⟨x, hx, e, wdS_of (pm_lt x hx) ?_⟩
    rw [← pm_key x hx]
    exact woF_of 53 0 rfl e hx
theorem wmS_or (K : Nat → Int32) (V : Nat → Int64) (v r : Int64) (o : Option Nat) : wmS K V (v ||| r) o = wmS K V v o ||| r := by
  unfold wmS
  cases o with
  | none => rfl
  | some q =>
    show (if K (amA K q) = 1 then v ||| r else (v ||| r) ||| nbr (amN K V q)) = (if K (amA K q) = 1 then v else v ||| nbr (amN K V q)) ||| r
    by_cases c : K (amA K q) = 1
    · rw [if_pos c, if_pos c]
    · rw [if_neg c, if_neg c, Int64.or_assoc, Int64.or_assoc, Int64.or_comm r]
theorem wcS_lt {K : Nat → Int32} {A : Nat → Option Nat} {k : Nat} (h : nmB K (A k) = true) : ∀ l, k < l → wcS K A k < wcS K A l := by
  intro l
  induction l with
  | zero => intro h; omega
  | succ l ih =>
    intro hk
    show wcS K A k < wcS K A l + (if nmB K (A l) then 1 else 0)
    rcases Nat.lt_or_ge k l with q | q
    · have := ih q
      omega
    · rw [show k = l by omega] at h ⊢
      rw [h]
      exact Nat.lt_succ_self _
theorem sp_isInt {post : Int32 → Prop} {x : Int64} (h : post (bI (inR false x = true))) : wp_X9_isInt post x := by
  have e : inR false x = decide (¬ x < (-2147483648) ∧ x ≤ 2147483647) := rfl
  refine ⟨fun q => ⟨Or.inl rfl, ?_⟩, fun q => ⟨fun q2 => ⟨Or.inl rfl, ?_⟩, fun q2 => ⟨Or.inr rfl, ?_⟩⟩⟩
  · rw [bI_neg (by rw [e]; intro z; exact (of_decide_eq_true z).1 q)] at h; exact h
  · rw [bI_neg (by rw [e]; intro z; exact Int64.not_lt.mpr (of_decide_eq_true z).2 q2)] at h; exact h
  · rw [bI_pos (by rw [e]; exact decide_eq_true ⟨q, Int64.not_lt.mp q2⟩)] at h; exact h
/-- what a goal may be is an int -/
theorem inR_goal {v : Int64} (h : inR true v = true) : inR false v = true := by
  have h := of_decide_eq_true (show decide (¬ v < 0 ∧ v ≤ 63) = true from h)
  show decide (¬ v < (-2147483648) ∧ v ≤ 2147483647) = true
  apply decide_eq_true
  rw [Int64.lt_iff_toInt_lt, Int64.le_iff_toInt_le] at h ⊢
  have e0 : (0 : Int64).toInt = 0 := rfl
  have e1 : (63 : Int64).toInt = 63 := rfl
  have e2 : (-2147483648 : Int64).toInt = -2147483648 := by decide
  have e3 : (2147483647 : Int64).toInt = 2147483647 := by decide
  omega
theorem goal_iff {v : Int64} : inR true v = true ↔ ¬ v < 0 ∧ v ≤ 63 := ⟨fun h => of_decide_eq_true (show decide (¬ v < 0 ∧ v ≤ 63) = true from h), fun h => decide_eq_true (p := ¬ v < 0 ∧ v ≤ 63) h⟩
theorem bnot_true {b : Bool} (h : ¬ b = true) : (!b) = true := by cases b <;> trivial
section MPB
variable {L : List Tok} {T : Nat} {σ0 σ : MS} {s a l : Nat} {W : Nat → Int64} {A : Nat → Option Nat} {E : Nat → Nat} {n : NS} {fb : Bool} {post : Int32 → MS → Prop}
theorem amA_45 {K : Nat → Int32} {a : Nat} (h : K a = 45) : amA K a = a + 1 := if_pos h
theorem amA_n45 {K : Nat → Int32} {a : Nat} (h : ¬ K a = 45) : amA K a = a := if_neg h
theorem amN_r {K : Nat → Int32} {V : Nat → Int64} {a : Nat} {r : Int32} (h : r = 0 ↔ ¬ K a = 45) : (r = 0 → amN K V a = V (amA K a)) ∧ (¬ r = 0 → amN K V a = -(V (amA K a))) := by
  unfold amN
  refine ⟨fun z => if_neg (h.mp z), fun z => if_pos ?_⟩
  by_cases c : K a = 45
  · exact c
  · exact absurd (h.mpr c) z
theorem nar_b {r : Int32} (h : isB r) : vp_nar .boolean r = r := by rcases h with e | e <;> rw [e] <;> rfl
theorem me_scr {u : Int64} (h : ME L T σ0 s a l W A E n fb σ) : ME L T σ0 s a l W A E n fb (wJ (wI σ 27 0) 26 u) := h
theorem em_num0 {x1 : Int32} {e : Nat} (hs : s < 2) (hx : x1 = bI (jmp e = true)) (hl : l < 64) (h : ME L T σ0 s a l W A E n fb σ)
    (k0 : pasS (tkK L) a = none → ∀ τ, MR σ0 s τ → post 0 τ)
    (kn : tkK L (amA (tkK L) a) = 2 → ∀ τ, ME L T σ0 s (amA (tkK L) a + 1) l W A E n (fb || nbB1 (tkK L) (tkV L) e (some a)) τ → mJ τ 28 = mJ σ 28 → mI τ 27 = 0 → mJ τ 26 = amN (tkK L) (tkV L) a → post 1 τ)
    (km : tkK L (amA (tkK L) a) = 1 → ∀ τ, ME L T σ0 s (amA (tkK L) a + 1) l W A E n fb τ → mJ τ 28 = mJ σ 28 → mI τ 27 = 1 → WT (tkK L) (tkV L) (wcS (tkK L) A l) l a e τ → post 1 τ) : wp_X9_readNumber post x1 0 σ := by
  have body : ∀ (x3 r : Int32) τ, isB r → (r = 0 ↔ ¬ tkK L a = 45) → ME L T σ0 s (amA (tkK L) a) l W A E n fb τ → mJ τ 28 = mJ σ 28 → vp_in (mI τ 9) 702 ∧ (((mA τ 6 (mI τ 9).toNatClampNeg) = 2 → ((r = 0 → (vp_in (mI τ 9) 702 ∧ (wB_X9_readNumber_69 post x1 x3 (mL τ 8 (mI τ 9).toNatClampNeg) (wJ (wI τ 27 0) 26 0)))) ∧ (¬ r = 0 → (vp_in (mI τ 9) 702 ∧ (wB_X9_readNumber_69 post x1 x3 (-(mL τ 8 (mI τ 9).toNatClampNeg)) (wJ (wI τ 27 0) 26 0)))))) ∧ (¬ (mA τ 6 (mI τ 9).toNatClampNeg) = 2 → (vp_in (mI τ 9) 702 ∧ (((mA τ 6 (mI τ 9).toNatClampNeg) = 1 → (vp_in (mI τ 18) 64 ∧ (vp_in (mI τ 9) 702 ∧ (vp_in (mI τ 18) 64 ∧ (vp_in (mI τ 9) 702 ∧ (vp_in (mI τ 18) 64 ∧ (vp_in (mI τ 18) 64 ∧ (vp_in (mI τ 18) 64 ∧ (vp_in (mI τ 18) 64 ∧ (wB_X9_readNumber_328 post (wA (wA (wA (wA (wL (wA (wI (wJ (wI τ 27 0) 26 0) 27 1) 19 (mI τ 18).toNatClampNeg (mI τ 13)) 20 (mI τ 18).toNatClampNeg (mL τ 8 (mI τ 9).toNatClampNeg)) 21 (mI τ 18).toNatClampNeg (mA τ 7 (mI τ 9).toNatClampNeg)) 22 (mI τ 18).toNatClampNeg x3) 23 (mI τ 18).toNatClampNeg (vp_nar .boolean r)) 24 (mI τ 18).toNatClampNeg (vp_nar .boolean x1)))))))))))) ∧ (¬ (mA τ 6 (mI τ 9).toNatClampNeg) = 1 → (wp_X9_refuse (fun r_27 σ_28 => isB r_27 ∧ (post r_27 σ_28)) (wJ (wI τ 27 0) 26 0))))))) := by
    intro x3 r τ hr hr45 g hJ
    obtain ⟨i9, e9⟩ := me_in g
    rw [e9]
    obtain ⟨hk1, hv1⟩ := tk_12 g.1 g.2.2.1.1 (x := 1) (Or.inl rfl)
    obtain ⟨hk2, hv2⟩ := tk_12 g.1 g.2.2.1.1 (x := 2) (Or.inr rfl)
    have hN := amN_r (V := tkV L) hr45
    refine ⟨i9, fun q => ?_, fun q => ⟨i9, fun q1 => ?_, fun q1 => ?_⟩⟩
    · have q := hk2.mp q
      have hne : ¬ tkK L (amA (tkK L) a) = 1 := by rw [q]; decide
      have eb : nbB1 (tkK L) (tkV L) e (some a) = !(inR (jmp e) (amN (tkK L) (tkV L) a)) := if_neg hne
      rw [eb] at kn
      have k112 : inR (jmp e) (amN (tkK L) (tkV L) a) = true → wB_X9_readNumber_112 post (wJ (wJ (wI τ 27 0) 26 0) 26 (amN (tkK L) (tkV L) a)) := fun z => by
        rw [z] at kn
        refine kn q _ ?_ hJ rfl rfl
        rw [show (fb || !true) = fb from Bool.or_false fb]
        exact me_adv (σ := wJ (wJ (wI τ 27 0) 26 0) 26 (amN (tkK L) (tkV L) a)) g (by rw [q]; decide) (by rw [q]; decide)
      have k106 : ¬ inR (jmp e) (amN (tkK L) (tkV L) a) = true → wB_X9_readNumber_106 post x3 (wJ (wJ (wI τ 27 0) 26 0) 26 (amN (tkK L) (tkV L) a)) := fun z => em_note (by decide) (fun τ' hn => by
        rw [bnot_true z] at kn
        have g' := me_note (σ := wJ (wJ (wI τ 27 0) 26 0) 26 (amN (tkK L) (tkV L) a)) g hn
        refine kn q _ ?_ ?_ ?_ ?_
        · rw [Bool.or_true]
          exact me_adv g' (by rw [q]; decide) (by rw [q]; decide)
        · show mJ τ' 28 = _
          rw [hn.2.1]; exact hJ
        · show mI τ' 27 = _
          rw [hn.1 27 (by decide) (by decide)]; rfl
        · show mJ τ' 26 = _
          rw [hn.2.1]; rfl)
      have k69 : wB_X9_readNumber_69 post x1 x3 (amN (tkK L) (tkV L) a) (wJ (wI τ 27 0) 26 0) := by
        refine sp_isInt ?_
        by_cases c : inR false (amN (tkK L) (tkV L) a) = true
        · rw [bI_pos c]
          refine ⟨fun z => absurd z (by decide), fun _ => ⟨fun z => k112 ?_, fun z => ?_⟩⟩
          · have : jmp e = false := by
              cases hj : jmp e with
              | false => rfl
              | true => rw [hj] at hx; rw [hx] at z; exact absurd z (by decide)
            rw [this]; exact c
          · have hj : jmp e = true := by
              cases hj : jmp e with
              | true => rfl
              | false => rw [hj] at hx; exact absurd hx z
            rw [hj] at k112 k106
            exact ⟨fun z => k106 (fun w => (goal_iff.mp w).1 z), fun z => ⟨fun z2 => k112 (goal_iff.mpr ⟨z, z2⟩), fun z2 => k106 (fun w => z2 (goal_iff.mp w).2)⟩⟩
        · rw [bI_neg c]
          refine ⟨fun _ => k106 (fun w => c ?_), fun z => absurd rfl z⟩
          cases hj : jmp e with
          | false => rw [hj] at w; exact w
          | true => rw [hj] at w; exact inR_goal w
      rw [hv2 q]
      exact ⟨fun z => ⟨i9, by rw [← hN.1 z]; exact k69⟩, fun z => ⟨i9, by rw [← hN.2 z]; exact k69⟩⟩
    · have q1 := hk1.mp q1
      have hw := wcS_le (tkK L) A l
      have e18 : (mI τ 18).toNatClampNeg = wcS (tkK L) A l := by rw [g.2.2.2.2.2.2.1, nI_clamp (by omega)]
      have i18 : vp_in (mI τ 18) 64 := by rw [g.2.2.2.2.2.2.1]; exact vp_in_nI (by omega) (by decide)
      refine ⟨i18, i9, i18, i9, i18, i18, i18, i18, ?_⟩
      rw [e18, hv1 q1, nar_b hr, nar_b (by rw [hx]; exact isB_bI _)]
      generalize hS : (wA (wA (wA (wA (wL (wA (wI (wJ (wI τ 27 0) 26 0) 27 1) 19 (wcS (tkK L) A l) (mI τ 13)) 20 (wcS (tkK L) A l) (tkV L (amA (tkK L) a))) 21 (wcS (tkK L) A l) (mA τ 7 (amA (tkK L) a))) 22 (wcS (tkK L) A l) x3) 23 (wcS (tkK L) A l) r) 24 (wcS (tkK L) A l) x1) = S
      have a19 : mA S 19 = upd (mA τ 19) (wcS (tkK L) A l) (mI τ 13) := by
        rw [← hS, mA_wA, if_neg (by decide), mA_wA, if_neg (by decide), mA_wA, if_neg (by decide), mA_wA, if_neg (by decide), mA_wL, mA_wA, if_pos rfl]; rfl
      have a23 : mA S 23 = upd (mA τ 23) (wcS (tkK L) A l) r := by
        rw [← hS, mA_wA, if_neg (by decide), mA_wA, if_pos rfl, mA_wA, if_neg (by decide), mA_wA, if_neg (by decide), mA_wL, mA_wA, if_neg (by decide)]; rfl
      have a24 : mA S 24 = upd (mA τ 24) (wcS (tkK L) A l) x1 := by
        rw [← hS, mA_wA, if_pos rfl, mA_wA, if_neg (by decide), mA_wA, if_neg (by decide), mA_wA, if_neg (by decide), mA_wL, mA_wA, if_neg (by decide)]; rfl
      have l20 : mL S 20 = vp_updL (mL τ 20) (wcS (tkK L) A l) (tkV L (amA (tkK L) a)) := by
        rw [← hS, mL_wA, mL_wA, mL_wA, mL_wA, mL_wL, if_pos rfl]; rfl
      have hwt : WT (tkK L) (tkV L) (wcS (tkK L) A l) l a e S := by
        refine ⟨by rw [a19, pk_us]; exact g.2.2.2.1.2, by rw [l20]; exact if_pos rfl, by rw [a23, pk_us]; exact hr45, ?_⟩
        rw [a24, pk_us, hx]
        cases hj : jmp e with
        | true => exact ⟨fun z => absurd z (by decide), fun z => by cases z⟩
        | false => exact ⟨fun _ => rfl, fun _ => rfl⟩
      have hg : ME L T σ0 s (amA (tkK L) a) l W A E n fb S := by
        obtain ⟨g1, g2, g3, g4, g5, g6, g7, g8⟩ := g
        have o1 : ∀ k, k ≠ 27 → mI S k = mI τ k := fun k hk => by rw [← hS]; exact (by
          show mI (wI (wJ (wI τ 27 0) 26 0) 27 1) k = _
          rw [mI_wI, if_neg hk, mI_wJ, mI_wI, if_neg hk])
        have o2 : ∀ k, k ≠ 19 → k ≠ 21 → k ≠ 22 → k ≠ 23 → k ≠ 24 → mA S k = mA τ k := fun k h1 h2 h3 h4 h5 => by
          rw [← hS, mA_wA, if_neg h5, mA_wA, if_neg h4, mA_wA, if_neg h3, mA_wA, if_neg h2, mA_wL, mA_wA, if_neg h1]; rfl
        have o3 : ∀ k, k ≠ 20 → mL S k = mL τ k := fun k h1 => by
          rw [← hS, mL_wA, mL_wA, mL_wA, mL_wA, mL_wL, if_neg h1]; rfl
        refine ⟨?_, ⟨⟨?_, ?_, ?_, fun i => ⟨?_, ?_⟩, ?_⟩, ?_, ?_, ?_, ?_⟩, ⟨g3.1, ?_⟩, ⟨g4.1, ?_⟩, fun k hk => ⟨?_, fun q hq h1 => ?_⟩, ⟨g6.1, ?_, ?_⟩, ?_, ?_⟩
        · unfold MTk corr at g1 ⊢
          rw [o2 6 (by decide) (by decide) (by decide) (by decide) (by decide), o3 8 (by decide)]
          exact g1
        · rw [o1 14 (by decide)]; exact g2.1.1
        · rw [o1 2 (by decide)]; exact g2.1.2.1
        · rw [o1 11 (by decide)]; exact g2.1.2.2.1
        · rw [a19]
          by_cases z : i = wcS (tkK L) A l
          · rw [z, pk_us, g4.2]; exact vp_in_nI (by omega) (by decide)
          · rw [pk_un z]; exact (g2.1.2.2.2.1 i).1
        · rw [o2 31 (by decide) (by decide) (by decide) (by decide) (by decide)]; exact (g2.1.2.2.2.1 i).2
        · rw [o2 15 (by decide) (by decide) (by decide) (by decide) (by decide)]; exact g2.1.2.2.2.2
        · rw [o1 11 (by decide)]; exact g2.2.1
        · rw [o3 10 (by decide)]; exact g2.2.2.1
        · rw [o2 15 (by decide) (by decide) (by decide) (by decide) (by decide)]; exact g2.2.2.2.1
        · rw [o3 16 (by decide), o3 17 (by decide)]; exact g2.2.2.2.2
        · rw [o1 9 (by decide)]; exact g3.2
        · rw [o1 13 (by decide)]; exact g4.2
        · rw [o3 12 (by decide)]; exact (g5 k hk).1
        · have hlt : wcS (tkK L) A k < wcS (tkK L) A l := wcS_lt (by rw [hq]; exact decide_eq_true h1) l hk
          have hw := (g5 k hk).2 q hq h1
          unfold WT at hw ⊢
          rw [a19, a23, a24, l20, pk_un (by omega), pk_un (by omega), pk_un (by omega)]
          unfold vp_updL
          rw [if_neg (by omega)]
          exact hw
        · rw [o2 15 (by decide) (by decide) (by decide) (by decide) (by decide)]; exact g6.2.1
        · rw [o3 16 (by decide), o3 17 (by decide)]; exact g6.2.2
        · rw [o1 18 (by decide)]; exact g7
        · rw [o1 3 (by decide)]; exact g8
      refine km q1 _ (me_adv hg (by rw [q1]; decide) (by rw [q1]; decide)) ?_ ?_ ?_
      · show mJ S 28 = _
        rw [← hS]; exact hJ
      · show mI S 27 = 1
        rw [← hS]; rfl
      · exact hwt
    · exact em_refuse (σ := wJ (wI τ 27 0) 26 0) g (fun τ' r => ⟨Or.inl rfl, k0 (by unfold pasS; exact if_neg (fun z => z.elim (fun w => q1 (hk1.mpr w)) (fun w => q (hk2.mpr w)))) τ' r⟩)
  refine ⟨(me_in h).1, fun x3 _ => em_takes (by decide) h (fun q => ?_) (fun q g => ?_)⟩
  · have hb := body x3 0 σ (Or.inl rfl) ⟨fun _ => q, fun _ => rfl⟩ (by rw [amA_n45 q]; exact h) rfl
    exact ⟨hb.1, hb.2.1, fun z => ⟨(hb.2.2 z).1, fun z2 => ⟨fun _ => (hb.2.2 z).2.1 z2, fun w => absurd rfl w⟩, (hb.2.2 z).2.2⟩⟩
  · have hb := body x3 1 (wI σ 9 (mI σ 9 + 1)) (Or.inr rfl) ⟨fun z => absurd z (by decide), fun z => absurd q z⟩ (by rw [amA_45 q]; exact g) rfl
    exact ⟨hb.1, hb.2.1, fun z => ⟨(hb.2.2 z).1, fun z2 => ⟨fun _ => (hb.2.2 z).2.1 z2, fun w => absurd rfl w⟩, (hb.2.2 z).2.2⟩⟩
theorem amV_num (h : tkK L (amA (tkK L) a) = 2) : amVal (tkK L) (tkV L) n a = amN (tkK L) (tkV L) a ∧ (amR (tkK L) (tkV L) n a).isNone = false := by
  have e : amR (tkK L) (tkV L) n a = some (tkV L (amA (tkK L) a)) := by unfold amR; rw [if_neg (by rw [h]; decide)]
  unfold amVal amN
  rw [e]
  exact ⟨rfl, rfl⟩
theorem em_num1 (hs : s < 2) (h : ME L T σ0 s a l W A E n fb σ)
    (k0 : pasS (tkK L) a = none → ∀ τ, MR σ0 s τ → post 0 τ)
    (k1 : (tkK L (amA (tkK L) a) = 1 ∨ tkK L (amA (tkK L) a) = 2) → ∀ τ, ME L T σ0 s (amA (tkK L) a + 1) l W A E n (fb || amBad (tkK L) (tkV L) false n a) τ → mJ τ 26 = amVal (tkK L) (tkV L) n a → post 1 τ) : wp_X9_readNumber post 0 1 σ := by
  have body : ∀ (x3 r : Int32) τ, (r = 0 ↔ ¬ tkK L a = 45) → ME L T σ0 s (amA (tkK L) a) l W A E n fb τ → vp_in (mI τ 9) 702 ∧ (((mA τ 6 (mI τ 9).toNatClampNeg) = 2 → ((r = 0 → (vp_in (mI τ 9) 702 ∧ (wB_X9_readNumber_69 post 0 x3 (mL τ 8 (mI τ 9).toNatClampNeg) (wJ (wI τ 27 0) 26 0)))) ∧ (¬ r = 0 → (vp_in (mI τ 9) 702 ∧ (wB_X9_readNumber_69 post 0 x3 (-(mL τ 8 (mI τ 9).toNatClampNeg)) (wJ (wI τ 27 0) 26 0)))))) ∧ (¬ (mA τ 6 (mI τ 9).toNatClampNeg) = 2 → (vp_in (mI τ 9) 702 ∧ (((mA τ 6 (mI τ 9).toNatClampNeg) = 1 → (vp_in (mI τ 9) 702 ∧ (wp_X9_find (fun r_16 σ_17 => (r_16 = (-1) → (vp_in (mI σ_17 9) 702 ∧ (wp_X9_note (fun σ_26 => wB_X9_readNumber_187 post x3 r r_16 σ_26) 2 (mA σ_17 7 (mI σ_17 9).toNatClampNeg) σ_17))) ∧ (¬ r_16 = (-1) → (wB_X9_readNumber_187 post x3 r r_16 σ_17))) (1 - (mI τ 14)) (mL τ 8 (mI τ 9).toNatClampNeg) (wJ (wI τ 27 0) 26 0)))) ∧ (¬ (mA τ 6 (mI τ 9).toNatClampNeg) = 1 → (wp_X9_refuse (fun r_27 σ_28 => isB r_27 ∧ (post r_27 σ_28)) (wJ (wI τ 27 0) 26 0))))))) := by
    intro x3 r τ hr45 g
    obtain ⟨i9, e9⟩ := me_in g
    rw [e9]
    obtain ⟨hk1, hv1⟩ := tk_12 g.1 g.2.2.1.1 (x := 1) (Or.inl rfl)
    obtain ⟨hk2, hv2⟩ := tk_12 g.1 g.2.2.1.1 (x := 2) (Or.inr rfl)
    have hN := amN_r (V := tkV L) hr45
    refine ⟨i9, fun q => ?_, fun q => ⟨i9, fun q1 => ⟨i9, ?_⟩, fun q1 => ?_⟩⟩
    · have q := hk2.mp q
      obtain ⟨eV, eN⟩ := amV_num (n := n) q
      have eb : amBad (tkK L) (tkV L) false n a = !(inR false (amN (tkK L) (tkV L) a)) := by unfold amBad; rw [eN, eV]; rfl
      rw [eb, eV] at k1
      have k69 : wB_X9_readNumber_69 post 0 x3 (amN (tkK L) (tkV L) a) (wJ (wI τ 27 0) 26 0) := by
        refine sp_isInt ?_
        by_cases c : inR false (amN (tkK L) (tkV L) a) = true
        · rw [bI_pos c]
          refine ⟨fun z => absurd z (by decide), fun _ => ⟨fun _ => k1 (Or.inr q) _ ?_ rfl, fun z => absurd rfl z⟩⟩
          rw [c, show (fb || !true) = fb from Bool.or_false fb]
          exact me_adv (σ := wJ (wJ (wI τ 27 0) 26 0) 26 (amN (tkK L) (tkV L) a)) g (by rw [q]; decide) (by rw [q]; decide)
        · rw [bI_neg c]
          refine ⟨fun _ => em_note (by decide) (fun τ' hn => k1 (Or.inr q) _ ?_ ?_), fun z => absurd rfl z⟩
          · rw [bnot_true c, Bool.or_true]
            exact me_adv (me_note (σ := wJ (wJ (wI τ 27 0) 26 0) 26 (amN (tkK L) (tkV L) a)) g hn) (by rw [q]; decide) (by rw [q]; decide)
          · show mJ τ' 26 = _
            rw [hn.2.1]; rfl
      rw [hv2 q]
      exact ⟨fun z => ⟨i9, by rw [← hN.1 z]; exact k69⟩, fun z => ⟨i9, by rw [← hN.2 z]; exact k69⟩⟩
    · have q1 := hk1.mp q1
      rw [hv1 q1, me_one hs g]
      have eR : amR (tkK L) (tkV L) n a = (nFind n (tkV L (amA (tkK L) a))).map n.2.2.1 := by unfold amR; rw [if_pos q1]
      have hadv : ∀ (f : Bool) τ', ME L T σ0 s (amA (tkK L) a) l W A E n f τ' → ME L T σ0 s (amA (tkK L) a + 1) l W A E n f (wI τ' 9 (mI τ' 9 + 1)) := fun f τ' g' => me_adv g' (by rw [q1]; decide) (by rw [q1]; decide)
      have k221 : ∀ (f : Bool) (t0 : Int64) τ', ME L T σ0 s (amA (tkK L) a) l W A E n f τ' → t0 = amVal (tkK L) (tkV L) n a → (fb || amBad (tkK L) (tkV L) false n a) = (f || !(inR false t0)) → wB_X9_readNumber_221 post x3 t0 τ' := by
        intro f t0 τ' g' e1 e2
        rw [e2, ← e1] at k1
        refine sp_isInt ?_
        by_cases c : inR false t0 = true
        · rw [bI_pos c]
          refine ⟨fun z => absurd z (by decide), fun _ => k1 (Or.inl q1) _ ?_ rfl⟩
          rw [c, show (f || !true) = f from Bool.or_false f]
          exact hadv f (wJ τ' 26 t0) g'
        · rw [bI_neg c]
          refine ⟨fun _ => em_note (by decide) (fun τ'' hn => k1 (Or.inl q1) _ ?_ ?_), fun z => absurd rfl z⟩
          · rw [bnot_true c, Bool.or_true]
            exact hadv true τ'' (me_note (σ := wJ τ' 26 t0) g' hn)
          · show mJ τ'' 26 = _
            rw [hn.2.1]; rfl
      have hA1 : amVal (tkK L) (tkV L) n a = if tkK L a = 45 then -((amR (tkK L) (tkV L) n a).getD 0) else (amR (tkK L) (tkV L) n a).getD 0 := rfl
      have hA2 : amBad (tkK L) (tkV L) false n a = ((amR (tkK L) (tkV L) n a).isNone || !(inR false (amVal (tkK L) (tkV L) n a))) := rfl
      refine em_find (σ := wJ (wI τ 27 0) 26 0) hs g.2.2.2.2.2.1 (fun hn => ⟨fun _ => ⟨i9, em_note (by decide) (fun τ' hτ => ⟨fun _ => ?_, fun z => absurd rfl z⟩)⟩, fun z => absurd rfl z⟩) (fun j hj hlt => ⟨fun z => absurd z (nI_ne1 (by have := g.2.2.2.2.2.1.1; omega)), fun _ => ⟨fun z => absurd z (nI_ne1 (by have := g.2.2.2.2.2.1.1; omega)), fun _ => ?_⟩⟩)
      · rw [hn] at eR
        have eR : amR (tkK L) (tkV L) n a = none := eR
        have ev : amVal (tkK L) (tkV L) n a = 0 := by
          rw [hA1, eR]
          split <;> rfl
        refine k221 true 0 τ' (me_note (σ := wJ (wI τ 27 0) 26 0) g hτ) ev.symm ?_
        rw [hA2, eR]
        show (fb || (true || _)) = (true || _)
        rw [Bool.true_or, Bool.true_or, Bool.or_true]
      · rw [hj] at eR
        have eR : amR (tkK L) (tkV L) n a = some (n.2.2.1 j) := eR
        have hc := g.2.2.2.2.2.1.1
        have ej : (nI (400 * (1 - s) + j)).toNatClampNeg = 400 * (1 - s) + j := nI_clamp (by omega)
        have e17 : mL (wJ (wI τ 27 0) 26 0) 17 (400 * (1 - s) + j) = n.2.2.1 j := (g.2.2.2.2.2.1.2.2 j hlt).2
        rw [ej, e17]
        have eb : ∀ t0, t0 = amVal (tkK L) (tkV L) n a → (fb || amBad (tkK L) (tkV L) false n a) = (fb || !(inR false t0)) := fun t0 e => by
          rw [hA2, eR, e]; rfl
        refine ⟨fun z => ⟨vp_in_nI (by omega) (by decide), ?_⟩, fun z => ⟨vp_in_nI (by omega) (by decide), ?_⟩⟩
        · have ev : n.2.2.1 j = amVal (tkK L) (tkV L) n a := by rw [hA1, if_neg (hr45.mp z), eR]; rfl
          exact k221 fb _ _ g ev (eb _ ev)
        · have c45 : tkK L a = 45 := by
            by_cases c : tkK L a = 45
            · exact c
            · exact absurd (hr45.mpr c) z
          have ev : -(n.2.2.1 j) = amVal (tkK L) (tkV L) n a := by rw [hA1, if_pos c45, eR]; rfl
          exact k221 fb _ _ g ev (eb _ ev)
    · exact em_refuse (σ := wJ (wI τ 27 0) 26 0) g (fun τ' r => ⟨Or.inl rfl, k0 (by unfold pasS; exact if_neg (fun z => z.elim (fun w => q1 (hk1.mpr w)) (fun w => q (hk2.mpr w)))) τ' r⟩)
  refine ⟨(me_in h).1, fun x3 _ => em_takes (by decide) h (fun q => ?_) (fun q g => ?_)⟩
  · have hb := body x3 0 σ ⟨fun _ => q, fun _ => rfl⟩ (by rw [amA_n45 q]; exact h)
    exact ⟨hb.1, hb.2.1, fun z => ⟨(hb.2.2 z).1, fun z2 => ⟨fun w => absurd w (by decide), fun _ => (hb.2.2 z).2.1 z2⟩, (hb.2.2 z).2.2⟩⟩
  · have hb := body x3 1 (wI σ 9 (mI σ 9 + 1)) ⟨fun z => absurd z (by decide), fun z => absurd q z⟩ (by rw [amA_45 q]; exact g)
    exact ⟨hb.1, hb.2.1, fun z => ⟨(hb.2.2 z).1, fun z2 => ⟨fun w => absurd w (by decide), fun _ => (hb.2.2 z).2.1 z2⟩, (hb.2.2 z).2.2⟩⟩
/-- a WORD that is being read -/
def MM (K : Nat → Int32) (V : Nat → Int64) (A : Nat → Option Nat) (l e : Nat) (v : Int64) (o : Option Nat) (σ : MS) : Prop := mJ σ 28 = wmS K V v o ∧ ∀ q, o = some q → K (amA K q) = 1 → WT K V (wcS K A l) l q e σ
theorem em_part0 {c : Int32} {v : Int64} {o : Option Nat} {e : Nat} (hs : s < 2) (hl : l < 64) (hc : isMN c) (hc7 : ¬ c = 77) (ho : isAm c → o = none) (hj : (c = 71 → jmp e = true) ∧ (c = 78 → jmp e = false)) (h : ME L T σ0 s a l W A E n (fb || nbB1 (tkK L) (tkV L) e o) σ) (hm : MM (tkK L) (tkV L) A l e v o σ) (h27 : mI σ 27 = 0)
    (k0 : partS (tkK L) (tkV L) (flC c) (a, v, o) = none → ∀ τ, MR σ0 s τ → post 0 τ)
    (k1 : ∀ b u o' τ, partS (tkK L) (tkV L) (flC c) (a, v, o) = some (b, u, o') → ME L T σ0 s b l W A E n (fb || nbB1 (tkK L) (tkV L) e o') τ → MM (tkK L) (tkV L) A l e u o' τ → (isAm c → isB (mI τ 27) ∧ (mI τ 27 = 0 ↔ nmB (tkK L) o' = false)) → (¬ isAm c → mI τ 27 = 0 ∧ o' = o) → post 1 τ) : wp_X9_readPart_0 post c σ := by
  have kreg : ∀ (x : Int32) (m : Nat) (r : Nat → Int64) (Q : MS → Prop), ((x = 114 ∧ m = 15) ∨ (x = 112 ∧ m = 3)) → ¬ isAm c → partS (tkK L) (tkV L) (flC c) (a, v, o) = (regS (tkK L) (tkV L) x m a).map (fun i => (a + 1, v ||| r i, o)) → (∀ i, post 1 (wJ (wI (wI σ 25 (nI i)) 9 (mI σ 9 + 1)) 28 (mJ σ 28 ||| r i)) → Q (wI (wI σ 25 (nI i)) 9 (mI σ 9 + 1))) → wp_X9_readRegister (fun r_1 σ_2 => (r_1 = 0 → (post 0 σ_2)) ∧ (¬ r_1 = 0 → (Q σ_2))) x σ := by
    intro x m r Q hx hna hp hQ
    rw [hp] at k0 k1
    refine em_readRegister hx h (fun q τ w => ⟨fun _ => k0 (by rw [q]; rfl) τ w, fun z => absurd rfl z⟩) (fun i hi him hk => ⟨fun z => absurd z (by decide), fun _ => hQ i ?_⟩)
    refine k1 (a + 1) (v ||| r i) o _ (by rw [hi]; rfl) (me_adv (σ := wI σ 25 (nI i)) h (by rw [hk]; decide) (by rw [hk]; decide)) ⟨?_, hm.2⟩ (fun z => absurd z hna) (fun _ => ⟨h27, rfl⟩)
    show mJ σ 28 ||| r i = _
    rw [hm.1, wmS_or]
  have kam : ∀ x1 : Int32, isAm c → x1 = bI (jmp e = true) → partS (tkK L) (tkV L) (flC c) (a, v, o) = (pasS (tkK L) a).map (fun b => (b, v, some a)) → wB_X9_readPart_0_267 post x1 σ := by
    intro x1 hac hx hp
    have hon := ho hac
    subst hon
    rw [hp] at k0 k1
    have h : ME L T σ0 s a l W A E n fb σ := by
      have h := h
      rw [show (fb || nbB1 (tkK L) (tkV L) e none) = fb from Bool.or_false fb] at h
      exact h
    have hm1 : mJ σ 28 = v := hm.1
    refine em_num0 hs hx hl h (fun q τ w => ⟨fun _ => k0 (by rw [q]; rfl) τ w, fun z => absurd rfl z⟩) (fun q τ g e28 e27 e26 => ⟨fun z => absurd z (by decide), fun _ => ⟨fun _ => ?_, fun z => absurd e27 z⟩⟩) (fun q τ g e28 e27 hw => ⟨fun z => absurd z (by decide), fun _ => ⟨fun z => absurd (e27.symm.trans z) (by decide), fun _ => ?_⟩⟩)
    · have hne : ¬ tkK L (amA (tkK L) a) = 1 := by rw [q]; decide
      refine k1 (amA (tkK L) a + 1) v (some a) (wJ τ 28 (mJ τ 28 ||| nbr (mJ τ 26))) (by rw [show pasS (tkK L) a = some (amA (tkK L) a + 1) from if_pos (Or.inr q)]; rfl) g ⟨?_, fun q' hq' h1 => ?_⟩ (fun _ => ⟨Or.inl e27, fun _ => decide_eq_false hne, fun _ => e27⟩) (fun z => absurd hac z)
      · show mJ τ 28 ||| nbr (mJ τ 26) = _
        rw [e28, e26, hm1]
        exact (if_neg hne).symm
      · cases hq'; exact absurd h1 hne
    · refine k1 (amA (tkK L) a + 1) v (some a) (wJ τ 28 (mJ τ 28 ||| 0)) (by rw [show pasS (tkK L) a = some (amA (tkK L) a + 1) from if_pos (Or.inl q)]; rfl) ?_ ⟨?_, fun q' hq' h1 => ?_⟩ (fun _ => ⟨Or.inr e27, fun z => absurd (e27.symm.trans z) (by decide), fun z => by rw [show nmB (tkK L) (some a) = true from decide_eq_true q] at z; cases z⟩) (fun z => absurd hac z)
      · rw [show nbB1 (tkK L) (tkV L) e (some a) = false from if_pos q, Bool.or_false]
        exact g
      · show mJ τ 28 ||| 0 = _
        rw [e28, hm1, or0]
        exact (if_pos q).symm
      · cases hq'; exact hw
  rcases hc with hc | hc | hc | hc | hc | hc | hc | hc | hc | hc
  · subst hc
    exact ⟨fun w => absurd w (by decide), fun w => absurd w (by decide), fun _ => kreg 114 15 (fun i => (nI i).toInt64 <<< ((8 : Int32).toInt64 &&& 63)) _ (Or.inl ⟨rfl, rfl⟩) (by decide) (rfl) (fun i z => ⟨fun _ => z, fun w => absurd rfl w⟩), fun w => absurd w (by decide), fun w => absurd w (by decide), fun w => absurd w (by decide), fun w => absurd w (by decide), fun w => absurd w (by decide), fun n65 n66 n68 n77 n80 n97 n98 n100 => absurd rfl n68⟩
  · subst hc
    exact ⟨fun _ => kreg 114 15 (fun i => (nI i).toInt64 <<< ((12 : Int32).toInt64 &&& 63)) _ (Or.inl ⟨rfl, rfl⟩) (by decide) (rfl) (fun i z => ⟨fun w => absurd w (by decide), fun _ => ⟨fun _ => z, fun w => absurd rfl w⟩⟩), fun w => absurd w (by decide), fun w => absurd w (by decide), fun w => absurd w (by decide), fun w => absurd w (by decide), fun w => absurd w (by decide), fun w => absurd w (by decide), fun w => absurd w (by decide), fun n65 n66 n68 n77 n80 n97 n98 n100 => absurd rfl n65⟩
  · subst hc
    exact ⟨fun w => absurd w (by decide), fun _ => kreg 114 15 (fun i => (nI i).toInt64 <<< ((16 : Int32).toInt64 &&& 63)) _ (Or.inl ⟨rfl, rfl⟩) (by decide) (rfl) (fun i z => ⟨fun w => absurd w (by decide), fun _ => ⟨fun w => absurd w (by decide), fun _ => z⟩⟩), fun w => absurd w (by decide), fun w => absurd w (by decide), fun w => absurd w (by decide), fun w => absurd w (by decide), fun w => absurd w (by decide), fun w => absurd w (by decide), fun n65 n66 n68 n77 n80 n97 n98 n100 => absurd rfl n66⟩
  · subst hc
    exact ⟨fun w => absurd w (by decide), fun w => absurd w (by decide), fun w => absurd w (by decide), fun w => absurd w (by decide), fun w => absurd w (by decide), fun w => absurd w (by decide), fun w => absurd w (by decide), fun _ => kreg 112 3 (fun i => (nI i).toInt64 <<< ((8 : Int32).toInt64 &&& 63)) _ (Or.inr ⟨rfl, rfl⟩) (by decide) (rfl) (fun i z => ⟨fun _ => z, fun w => absurd rfl w⟩), fun n65 n66 n68 n77 n80 n97 n98 n100 => absurd rfl n100⟩
  · subst hc
    exact ⟨fun w => absurd w (by decide), fun w => absurd w (by decide), fun w => absurd w (by decide), fun w => absurd w (by decide), fun w => absurd w (by decide), fun _ => kreg 112 3 (fun i => (nI i).toInt64 <<< ((12 : Int32).toInt64 &&& 63)) _ (Or.inr ⟨rfl, rfl⟩) (by decide) (rfl) (fun i z => ⟨fun w => absurd w (by decide), fun _ => ⟨fun _ => z, fun w => absurd rfl w⟩⟩), fun w => absurd w (by decide), fun w => absurd w (by decide), fun n65 n66 n68 n77 n80 n97 n98 n100 => absurd rfl n97⟩
  · subst hc
    exact ⟨fun w => absurd w (by decide), fun w => absurd w (by decide), fun w => absurd w (by decide), fun w => absurd w (by decide), fun w => absurd w (by decide), fun w => absurd w (by decide), fun _ => kreg 112 3 (fun i => (nI i).toInt64 <<< ((16 : Int32).toInt64 &&& 63)) _ (Or.inr ⟨rfl, rfl⟩) (by decide) (rfl) (fun i z => ⟨fun w => absurd w (by decide), fun _ => ⟨fun w => absurd w (by decide), fun _ => z⟩⟩), fun w => absurd w (by decide), fun n65 n66 n68 n77 n80 n97 n98 n100 => absurd rfl n98⟩
  · subst hc
    exact ⟨fun w => absurd w (by decide), fun w => absurd w (by decide), fun w => absurd w (by decide), fun w => absurd w (by decide), fun _ => kreg 112 3 (fun i => nbr ((nI i).toInt64)) _ (Or.inr ⟨rfl, rfl⟩) (by decide) (by have e : ∀ i, nbr ((nI i).toInt64) = (nI i).toInt64 <<< ((32 : Int32).toInt64 &&& 63) := fun i => nbr_eq _; simp only [e]; rfl) (fun i z => z), fun w => absurd w (by decide), fun w => absurd w (by decide), fun w => absurd w (by decide), fun n65 n66 n68 n77 n80 n97 n98 n100 => absurd rfl n80⟩
  · subst hc
    exact ⟨fun w => absurd w (by decide), fun w => absurd w (by decide), fun w => absurd w (by decide), fun w => absurd w (by decide), fun w => absurd w (by decide), fun w => absurd w (by decide), fun w => absurd w (by decide), fun w => absurd w (by decide), fun _ _ _ _ _ _ _ _ => ⟨fun w => absurd w (by decide), fun _ => kam 0 (by decide) (by rw [hj.2 rfl]; rfl) rfl⟩⟩
  · subst hc
    exact ⟨fun w => absurd w (by decide), fun w => absurd w (by decide), fun w => absurd w (by decide), fun w => absurd w (by decide), fun w => absurd w (by decide), fun w => absurd w (by decide), fun w => absurd w (by decide), fun w => absurd w (by decide), fun _ _ _ _ _ _ _ _ => ⟨fun _ => kam 1 (by decide) (by rw [hj.1 rfl]; rfl) rfl, fun w => absurd rfl w⟩⟩
  · exact absurd hc hc7
theorem em_part1 {c : Int32} {v : Int64} {o : Option Nat} {e : Nat} (hs : s < 2) (hl : l < 64) (hc : isMN c) (hc7 : ¬ c = 77) (ho : isAm c → o = none) (hj : (c = 71 → jmp e = true) ∧ (c = 78 → jmp e = false)) (h : ME L T σ0 s a l W A E n (fb || nbB1 (tkK L) (tkV L) e o) σ) (hm : MM (tkK L) (tkV L) A l e v o σ) (h27 : mI σ 27 = 0)
    (k0 : partS (tkK L) (tkV L) (flC c) (a, v, o) = none → ∀ τ, MR σ0 s τ → post 0 τ)
    (k1 : ∀ b u o' τ, partS (tkK L) (tkV L) (flC c) (a, v, o) = some (b, u, o') → ME L T σ0 s b l W A E n (fb || nbB1 (tkK L) (tkV L) e o') τ → MM (tkK L) (tkV L) A l e u o' τ → (isAm c → isB (mI τ 27) ∧ (mI τ 27 = 0 ↔ nmB (tkK L) o' = false)) → (¬ isAm c → mI τ 27 = 0 ∧ o' = o) → post 1 τ) : wp_X9_readPart post c σ := by
  have kreg : ∀ (x : Int32) (m : Nat) (r : Nat → Int64) (Q : MS → Prop), ((x = 114 ∧ m = 15) ∨ (x = 112 ∧ m = 3)) → ¬ isAm c → partS (tkK L) (tkV L) (flC c) (a, v, o) = (regS (tkK L) (tkV L) x m a).map (fun i => (a + 1, v ||| r i, o)) → (∀ i, post 1 (wJ (wI (wI σ 25 (nI i)) 9 (mI σ 9 + 1)) 28 (mJ σ 28 ||| r i)) → Q (wI (wI σ 25 (nI i)) 9 (mI σ 9 + 1))) → wp_X9_readRegister (fun r_1 σ_2 => (r_1 = 0 → (post 0 σ_2)) ∧ (¬ r_1 = 0 → (Q σ_2))) x σ := by
    intro x m r Q hx hna hp hQ
    rw [hp] at k0 k1
    refine em_readRegister hx h (fun q τ w => ⟨fun _ => k0 (by rw [q]; rfl) τ w, fun z => absurd rfl z⟩) (fun i hi him hk => ⟨fun z => absurd z (by decide), fun _ => hQ i ?_⟩)
    refine k1 (a + 1) (v ||| r i) o _ (by rw [hi]; rfl) (me_adv (σ := wI σ 25 (nI i)) h (by rw [hk]; decide) (by rw [hk]; decide)) ⟨?_, hm.2⟩ (fun z => absurd z hna) (fun _ => ⟨h27, rfl⟩)
    show mJ σ 28 ||| r i = _
    rw [hm.1, wmS_or]
  have kam : ∀ x1 : Int32, isAm c → x1 = bI (jmp e = true) → partS (tkK L) (tkV L) (flC c) (a, v, o) = (pasS (tkK L) a).map (fun b => (b, v, some a)) → wB_X9_readPart_267 post x1 σ := by
    intro x1 hac hx hp
    have hon := ho hac
    subst hon
    rw [hp] at k0 k1
    have h : ME L T σ0 s a l W A E n fb σ := by
      have h := h
      rw [show (fb || nbB1 (tkK L) (tkV L) e none) = fb from Bool.or_false fb] at h
      exact h
    have hm1 : mJ σ 28 = v := hm.1
    refine em_num0 hs hx hl h (fun q τ w => ⟨fun _ => k0 (by rw [q]; rfl) τ w, fun z => absurd rfl z⟩) (fun q τ g e28 e27 e26 => ⟨fun z => absurd z (by decide), fun _ => ⟨fun _ => ?_, fun z => absurd e27 z⟩⟩) (fun q τ g e28 e27 hw => ⟨fun z => absurd z (by decide), fun _ => ⟨fun z => absurd (e27.symm.trans z) (by decide), fun _ => ?_⟩⟩)
    · have hne : ¬ tkK L (amA (tkK L) a) = 1 := by rw [q]; decide
      refine k1 (amA (tkK L) a + 1) v (some a) (wJ τ 28 (mJ τ 28 ||| nbr (mJ τ 26))) (by rw [show pasS (tkK L) a = some (amA (tkK L) a + 1) from if_pos (Or.inr q)]; rfl) g ⟨?_, fun q' hq' h1 => ?_⟩ (fun _ => ⟨Or.inl e27, fun _ => decide_eq_false hne, fun _ => e27⟩) (fun z => absurd hac z)
      · show mJ τ 28 ||| nbr (mJ τ 26) = _
        rw [e28, e26, hm1]
        exact (if_neg hne).symm
      · cases hq'; exact absurd h1 hne
    · refine k1 (amA (tkK L) a + 1) v (some a) (wJ τ 28 (mJ τ 28 ||| 0)) (by rw [show pasS (tkK L) a = some (amA (tkK L) a + 1) from if_pos (Or.inl q)]; rfl) ?_ ⟨?_, fun q' hq' h1 => ?_⟩ (fun _ => ⟨Or.inr e27, fun z => absurd (e27.symm.trans z) (by decide), fun z => by rw [show nmB (tkK L) (some a) = true from decide_eq_true q] at z; cases z⟩) (fun z => absurd hac z)
      · rw [show nbB1 (tkK L) (tkV L) e (some a) = false from if_pos q, Bool.or_false]
        exact g
      · show mJ τ 28 ||| 0 = _
        rw [e28, hm1, or0]
        exact (if_pos q).symm
      · cases hq'; exact hw
  rcases hc with hc | hc | hc | hc | hc | hc | hc | hc | hc | hc
  · subst hc
    exact ⟨fun w => absurd w (by decide), fun w => absurd w (by decide), fun _ => kreg 114 15 (fun i => (nI i).toInt64 <<< ((8 : Int32).toInt64 &&& 63)) _ (Or.inl ⟨rfl, rfl⟩) (by decide) (rfl) (fun i z => ⟨fun _ => z, fun w => absurd rfl w⟩), fun w => absurd w (by decide), fun w => absurd w (by decide), fun w => absurd w (by decide), fun w => absurd w (by decide), fun w => absurd w (by decide), fun n65 n66 n68 n77 n80 n97 n98 n100 => absurd rfl n68⟩
  · subst hc
    exact ⟨fun _ => kreg 114 15 (fun i => (nI i).toInt64 <<< ((12 : Int32).toInt64 &&& 63)) _ (Or.inl ⟨rfl, rfl⟩) (by decide) (rfl) (fun i z => ⟨fun w => absurd w (by decide), fun _ => ⟨fun _ => z, fun w => absurd rfl w⟩⟩), fun w => absurd w (by decide), fun w => absurd w (by decide), fun w => absurd w (by decide), fun w => absurd w (by decide), fun w => absurd w (by decide), fun w => absurd w (by decide), fun w => absurd w (by decide), fun n65 n66 n68 n77 n80 n97 n98 n100 => absurd rfl n65⟩
  · subst hc
    exact ⟨fun w => absurd w (by decide), fun _ => kreg 114 15 (fun i => (nI i).toInt64 <<< ((16 : Int32).toInt64 &&& 63)) _ (Or.inl ⟨rfl, rfl⟩) (by decide) (rfl) (fun i z => ⟨fun w => absurd w (by decide), fun _ => ⟨fun w => absurd w (by decide), fun _ => z⟩⟩), fun w => absurd w (by decide), fun w => absurd w (by decide), fun w => absurd w (by decide), fun w => absurd w (by decide), fun w => absurd w (by decide), fun w => absurd w (by decide), fun n65 n66 n68 n77 n80 n97 n98 n100 => absurd rfl n66⟩
  · subst hc
    exact ⟨fun w => absurd w (by decide), fun w => absurd w (by decide), fun w => absurd w (by decide), fun w => absurd w (by decide), fun w => absurd w (by decide), fun w => absurd w (by decide), fun w => absurd w (by decide), fun _ => kreg 112 3 (fun i => (nI i).toInt64 <<< ((8 : Int32).toInt64 &&& 63)) _ (Or.inr ⟨rfl, rfl⟩) (by decide) (rfl) (fun i z => ⟨fun _ => z, fun w => absurd rfl w⟩), fun n65 n66 n68 n77 n80 n97 n98 n100 => absurd rfl n100⟩
  · subst hc
    exact ⟨fun w => absurd w (by decide), fun w => absurd w (by decide), fun w => absurd w (by decide), fun w => absurd w (by decide), fun w => absurd w (by decide), fun _ => kreg 112 3 (fun i => (nI i).toInt64 <<< ((12 : Int32).toInt64 &&& 63)) _ (Or.inr ⟨rfl, rfl⟩) (by decide) (rfl) (fun i z => ⟨fun w => absurd w (by decide), fun _ => ⟨fun _ => z, fun w => absurd rfl w⟩⟩), fun w => absurd w (by decide), fun w => absurd w (by decide), fun n65 n66 n68 n77 n80 n97 n98 n100 => absurd rfl n97⟩
  · subst hc
    exact ⟨fun w => absurd w (by decide), fun w => absurd w (by decide), fun w => absurd w (by decide), fun w => absurd w (by decide), fun w => absurd w (by decide), fun w => absurd w (by decide), fun _ => kreg 112 3 (fun i => (nI i).toInt64 <<< ((16 : Int32).toInt64 &&& 63)) _ (Or.inr ⟨rfl, rfl⟩) (by decide) (rfl) (fun i z => ⟨fun w => absurd w (by decide), fun _ => ⟨fun w => absurd w (by decide), fun _ => z⟩⟩), fun w => absurd w (by decide), fun n65 n66 n68 n77 n80 n97 n98 n100 => absurd rfl n98⟩
  · subst hc
    exact ⟨fun w => absurd w (by decide), fun w => absurd w (by decide), fun w => absurd w (by decide), fun w => absurd w (by decide), fun _ => kreg 112 3 (fun i => nbr ((nI i).toInt64)) _ (Or.inr ⟨rfl, rfl⟩) (by decide) (by have e : ∀ i, nbr ((nI i).toInt64) = (nI i).toInt64 <<< ((32 : Int32).toInt64 &&& 63) := fun i => nbr_eq _; simp only [e]; rfl) (fun i z => z), fun w => absurd w (by decide), fun w => absurd w (by decide), fun w => absurd w (by decide), fun n65 n66 n68 n77 n80 n97 n98 n100 => absurd rfl n80⟩
  · subst hc
    exact ⟨fun w => absurd w (by decide), fun w => absurd w (by decide), fun w => absurd w (by decide), fun w => absurd w (by decide), fun w => absurd w (by decide), fun w => absurd w (by decide), fun w => absurd w (by decide), fun w => absurd w (by decide), fun _ _ _ _ _ _ _ _ => ⟨fun w => absurd w (by decide), fun _ => kam 0 (by decide) (by rw [hj.2 rfl]; rfl) rfl⟩⟩
  · subst hc
    exact ⟨fun w => absurd w (by decide), fun w => absurd w (by decide), fun w => absurd w (by decide), fun w => absurd w (by decide), fun w => absurd w (by decide), fun w => absurd w (by decide), fun w => absurd w (by decide), fun w => absurd w (by decide), fun _ _ _ _ _ _ _ _ => ⟨fun _ => kam 1 (by decide) (by rw [hj.1 rfl]; rfl) rfl, fun w => absurd rfl w⟩⟩
  · exact absurd hc hc7
theorem sg40 : isSg 40 := by decide
theorem sg43 : isSg 43 := by decide
theorem sg41 : isSg 41 := by decide
theorem sg44 : isSg 44 := by decide
theorem sg59 : isSg 59 := by decide
theorem part_sg {K : Nat → Int32} {V : Nat → Int64} {x : Int32} (h1 : ¬ (x = 110 ∨ x = 116)) (h2 : shC x = (-1)) (w : WS) : partS K V x w = if K w.1 = x then some (w.1 + 1, w.2.1, w.2.2) else none := by
  unfold partS; rw [if_neg h1, if_pos h2]
theorem em_part {c : Int32} {v : Int64} {o : Option Nat} {e : Nat} (hs : s < 2) (hl : l < 64) (hc : isMN c) (ho : isAm c → o = none) (hj : (c = 71 → jmp e = true) ∧ (c = 78 → jmp e = false) ∧ (c = 77 → jmp e = false)) (h : ME L T σ0 s a l W A E n (fb || nbB1 (tkK L) (tkV L) e o) σ) (hm : MM (tkK L) (tkV L) A l e v o σ) (h27 : mI σ 27 = 0)
    (k0 : partsS (tkK L) (tkV L) (flP c) (a, v, o) = none → ∀ τ, MR σ0 s τ → post 0 τ)
    (k1 : ∀ b u o' τ, partsS (tkK L) (tkV L) (flP c) (a, v, o) = some (b, u, o') → ME L T σ0 s b l W A E n (fb || nbB1 (tkK L) (tkV L) e o') τ → MM (tkK L) (tkV L) A l e u o' τ → (isAm c → isB (mI τ 27) ∧ (mI τ 27 = 0 ↔ nmB (tkK L) o' = false)) → (¬ isAm c → mI τ 27 = 0 ∧ o' = o) → post 1 τ) : wp_X9_readPart post c σ := by
  by_cases c7 : c = 77
  · subst c7
    have ef : flP 77 = [40, 97, 43, 110, 41] := rfl
    rw [ef] at k0 k1
    have hon := ho (Or.inr (Or.inr rfl))
    subst hon
    have s1 : ∀ w : WS, partsS (tkK L) (tkV L) [40, 97, 43, 110, 41] w = (partS (tkK L) (tkV L) 40 w).bind (partsS (tkK L) (tkV L) [97, 43, 110, 41]) := fun _ => rfl
    have s2 : ∀ w : WS, partsS (tkK L) (tkV L) [97, 43, 110, 41] w = (partS (tkK L) (tkV L) 97 w).bind (partsS (tkK L) (tkV L) [43, 110, 41]) := fun _ => rfl
    have s3 : ∀ w : WS, partsS (tkK L) (tkV L) [43, 110, 41] w = (partS (tkK L) (tkV L) 43 w).bind (partsS (tkK L) (tkV L) [110, 41]) := fun _ => rfl
    have s4 : ∀ w : WS, partsS (tkK L) (tkV L) [110, 41] w = (partS (tkK L) (tkV L) 110 w).bind (partsS (tkK L) (tkV L) [41]) := fun _ => rfl
    have s5 : ∀ w : WS, partsS (tkK L) (tkV L) [41] w = (partS (tkK L) (tkV L) 41 w).bind some := fun _ => rfl
    have p40 := part_sg (K := tkK L) (V := tkV L) (x := 40) (by decide) (by decide)
    have p43 := part_sg (K := tkK L) (V := tkV L) (x := 43) (by decide) (by decide)
    have p41 := part_sg (K := tkK L) (V := tkV L) (x := 41) (by decide) (by decide)
    refine ⟨fun w => absurd w (by decide), fun w => absurd w (by decide), fun w => absurd w (by decide), fun _ => ?_, fun w => absurd w (by decide), fun w => absurd w (by decide), fun w => absurd w (by decide), fun w => absurd w (by decide), fun _ _ _ n77 => absurd rfl n77⟩
    refine em_want sg40 h (fun q τ r => ⟨fun _ => k0 (by rw [s1, p40, if_neg q]; rfl) τ r, fun z => absurd rfl z⟩) (fun q g => ⟨fun z => absurd z (by decide), fun _ => ?_⟩)
    have t1 : partsS (tkK L) (tkV L) [40, 97, 43, 110, 41] (a, v, none) = partsS (tkK L) (tkV L) [97, 43, 110, 41] (a + 1, v, none) := by rw [s1, p40, if_pos q]; rfl
    rw [t1, s2] at k0 k1
    refine em_part0 (c := 65) (o := none) (fb := fb) hs hl (by decide) (by decide) (fun w => absurd w (by decide)) ⟨fun w => absurd w (by decide), fun w => absurd w (by decide)⟩ g hm h27 (fun q τ r => ⟨fun _ => k0 (by rw [show partS (tkK L) (tkV L) 97 (a + 1, v, none) = none from q]; rfl) τ r, fun z => absurd rfl z⟩) (fun b u o' τ q g hm _ h27 => ⟨fun z => absurd z (by decide), fun _ => ?_⟩)
    obtain ⟨e27, hoo⟩ := h27 (by decide)
    subst hoo
    rw [show partS (tkK L) (tkV L) 97 (a + 1, v, none) = some (b, u, none) from q] at k0 k1
    have t3 : (some (b, u, (none : Option Nat))).bind (partsS (tkK L) (tkV L) [43, 110, 41]) = partsS (tkK L) (tkV L) [43, 110, 41] (b, u, none) := rfl
    rw [t3, s3] at k0 k1
    refine em_want sg43 g (fun q τ r => ⟨fun _ => k0 (by rw [p43, if_neg q]; rfl) τ r, fun z => absurd rfl z⟩) (fun q g => ⟨fun z => absurd z (by decide), fun _ => ?_⟩)
    rw [p43, if_pos q] at k0 k1
    have t4 : (some (b + 1, u, (none : Option Nat))).bind (partsS (tkK L) (tkV L) [110, 41]) = partsS (tkK L) (tkV L) [110, 41] (b + 1, u, none) := rfl
    rw [t4, s4] at k0 k1
    refine em_part0 (c := 78) (o := none) (fb := fb) hs hl (by decide) (by decide) (fun _ => rfl) ⟨fun w => absurd w (by decide), fun _ => hj.2.2 rfl⟩ g hm e27 (fun q τ r => ⟨fun _ => k0 (by rw [show partS (tkK L) (tkV L) 110 (b + 1, u, none) = none from q]; rfl) τ r, fun z => absurd rfl z⟩) (fun b' u' o' τ q g hm h27 _ => ⟨fun z => absurd z (by decide), fun _ => ?_⟩)
    rw [show partS (tkK L) (tkV L) 110 (b + 1, u, none) = some (b', u', o') from q] at k0 k1
    have t5 : (some (b', u', o')).bind (partsS (tkK L) (tkV L) [41]) = partsS (tkK L) (tkV L) [41] (b', u', o') := rfl
    rw [t5, s5, p41] at k0 k1
    exact em_want sg41 g (fun q τ r => ⟨Or.inl rfl, k0 (by rw [if_neg q]; rfl) τ r⟩) (fun q g => ⟨Or.inr rfl, k1 (b' + 1) u' o' _ (by rw [if_pos q]; rfl) g hm (fun _ => h27 (by decide)) (fun z => absurd (Or.inr (Or.inr rfl)) z)⟩)
  · have ef : flP c = [flC c] := if_neg c7
    have s1 : ∀ w : WS, partsS (tkK L) (tkV L) [flC c] w = partS (tkK L) (tkV L) (flC c) w := fun w => by
      show (partS (tkK L) (tkV L) (flC c) w).bind some = _
      cases partS (tkK L) (tkV L) (flC c) w <;> rfl
    rw [ef, s1] at k0 k1
    exact em_part1 hs hl hc c7 ho ⟨hj.1, hj.2.1⟩ h hm h27 k0 k1
end MPB
