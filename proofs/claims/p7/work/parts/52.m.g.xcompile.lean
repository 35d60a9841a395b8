/-! the class's compile makes what the TOKENS mean -/
def okA (K : Nat → Int32) (o : Option Nat) : Prop := ∀ q, o = some q → K (amA K q) = 1 ∨ K (amA K q) = 2
def OKS (K : Nat → Int32) (s : ST) : Prop := ∀ k, k < s.2.1 → okA K (s.2.2.2.1 k)
section OKA
variable {K : Nat → Int32} {V : Nat → Int64}
theorem part_ok {c : Int32} {w w' : WS} (h : partS K V c w = some w') (ho : okA K w.2.2) : okA K w'.2.2 := by
  unfold partS at h
  split at h
  · obtain ⟨b, hb, e⟩ := Option.map_eq_some_iff.mp h
    rw [← e]
    intro q hq
    cases hq
    exact (pas_of hb).1
  · split at h
    · split at h
      · cases h; exact ho
      · cases h
    · obtain ⟨b, hb, e⟩ := Option.map_eq_some_iff.mp h
      rw [← e]; exact ho
theorem parts_ok : ∀ (cs : List Int32) {w w' : WS}, partsS K V cs w = some w' → okA K w.2.2 → okA K w'.2.2 := by
  intro cs
  induction cs with
  | nil => intro w w' h ho; cases h; exact ho
  | cons c cs ih =>
    intro w w' h ho
    obtain ⟨u, hu, e⟩ := Option.bind_eq_some_iff.mp h
    exact ih e (part_ok hu ho)
theorem cst_of {s s' : ST} (h : cstS K V s = some s') : ∃ b, pasS K (s.1 + 2) = some b ∧ K b = 59 ∧ s' = (b + 1, s.2.1, s.2.2.1, s.2.2.2.1, s.2.2.2.2.1, tellS (noteS s.2.2.2.2.2 (amBad K V false s.2.2.2.2.2 (s.1 + 2))) (V s.1) (amVal K V s.2.2.2.2.2 (s.1 + 2))) := by
  obtain ⟨b, hb, e⟩ := Option.bind_eq_some_iff.mp h
  by_cases q : K b = 59
  · rw [if_pos q] at e; cases e; exact ⟨b, hb, q, rfl⟩
  · rw [if_neg q] at e; cases e
theorem word_of {g a : Nat} {s s' : ST} (h : wordS K V g a s = some s') : ∃ e w, wrdS K V g a s.2.1 = some (e, w) ∧ K w.1 = 59 ∧ s' = putS e w s := by
  obtain ⟨⟨e, w⟩, hw, q⟩ := Option.bind_eq_some_iff.mp h
  by_cases c : K w.1 = 59
  · rw [if_pos c] at q; cases q; exact ⟨e, w, hw, c, rfl⟩
  · rw [if_neg c] at q; cases q
theorem stm_ok {s s' : ST} (h : stmS K V s = some s') (ho : OKS K s) : OKS K s' := by
  unfold stmS at h
  split at h
  · obtain ⟨b, -, -, e⟩ := cst_of h
    rw [e]; exact ho
  · dsimp only at h
    split at h
    · cases h; exact ho
    · obtain ⟨g, -, hw⟩ := Option.bind_eq_some_iff.mp h
      obtain ⟨e, w, hw2, -, rfl⟩ := word_of hw
      intro k hk
      have hk : k < s.2.1 + 1 := hk
      show okA K (if k = s.2.1 then w.2.2 else s.2.2.2.1 k)
      by_cases q : k = s.2.1
      · rw [if_pos q]; exact parts_ok _ (wrd_of hw2).2.2.2 (fun q z => by cases z)
      · rw [if_neg q]; exact ho k (by omega)
end OKA
section XPI
variable {L : List Tok} {σ0 σ : XS} {a l : Nat} {W : Nat → Int64} {A : Nat → Option Nat} {E : Nat → Nat} {n : NS} {post : Int32 → XS → Prop}
theorem spx_amountPart {post : Int32 → Prop} {e : Nat} (he : e < 53) (h : post (if e = 36 ∨ e = 37 then 116 else 110)) : wp_X2_amountPart post e := by
  have k1 : (e = 36 ∨ e = 37) → wB_X2_isJump_14 (fun r_1 => (r_1 = 0 → (wB_X2_amountPart_14 post 110)) ∧ (¬ r_1 = 0 → (wB_X2_amountPart_14 post 116))) := fun q => by
    rw [if_pos q] at h
    exact ⟨Or.inr rfl, fun z => absurd z (by decide), fun _ => ⟨(pk_charN (q := 116) (by decide)).1, h⟩⟩
  refine ⟨he, he, fun q => k1 (Or.inl q), fun q => ⟨he, fun q2 => k1 (Or.inr q2), fun q2 => ⟨Or.inl rfl, fun _ => ?_, fun z => absurd rfl z⟩⟩⟩
  rw [if_neg (fun z => z.elim q q2)] at h
  exact ⟨(pk_charN (q := 110) (by decide)).1, h⟩
/-- the WORDS whose N has been told, then the others -/
def filW (K : Nat → Int32) (V : Nat → Int64) (s : ST) (j : Nat) : Nat → Int64 := fun k => if k < j then finW K V s k else s.2.2.1 k
theorem xe_fill {post : XS → Prop} (ho : OKS (tkK L) (a, l, W, A, E, n)) (h : XE L σ0 a l W A E n σ) (k : ∀ b τ, XE L σ0 b l (finW (tkK L) (tkV L) (a, l, W, A, E, n)) A E (noteS n (anyBad (tkK L) (tkV L) (a, l, W, A, E, n) l)) τ → post τ) : wp_X3_fillAmounts post σ := by
  have hl := h.2.2.2.1.1
  have main : ∀ (d j b : Nat) (τ : XS), j + d = l → XE L σ0 b l (filW (tkK L) (tkV L) (a, l, W, A, E, n) j) A E (noteS n (anyBad (tkK L) (tkV L) (a, l, W, A, E, n) j)) τ → wL_X3_fillAmounts_2 post (d + 1) (nI j) τ := by
    intro d
    induction d with
    | zero =>
      intro j b τ hj g
      have hjl : j = l := by omega
      subst hjl
      refine ⟨fun _ => k b τ ⟨g.1, g.2.1, g.2.2.1, g.2.2.2.1, fun i hi => ?_, g.2.2.2.2.2⟩, fun z => absurd (by rw [g.2.2.2.1.2]; exact nI_le (by omega) (by omega)) z⟩
      have := g.2.2.2.2.1 i hi
      unfold filW at this
      rw [if_pos hi] at this
      exact this
    | succ d ih =>
      intro j b τ hj g
      have ij : vp_in (nI j) 64 := vp_in_nI (by omega) (by decide)
      have ej : (nI j).toNatClampNeg = j := nI_clamp (by omega)
      obtain ⟨w1, w2, w3, w4⟩ := g.2.2.2.2.1 j (by omega)
      have w1 : xL τ 3 j = W j := by rw [w1]; exact if_neg (Nat.lt_irrefl j)
      refine ⟨fun z => absurd z (by rw [g.2.2.2.1.2]; exact nI_ge (by omega) (by omega)), fun _ => ⟨ij, ?_⟩⟩
      rw [ej, w2]
      have k60 : ∀ b τ, XE L σ0 b l (filW (tkK L) (tkV L) (a, l, W, A, E, n) (j + 1)) A E (noteS n (anyBad (tkK L) (tkV L) (a, l, W, A, E, n) (j + 1))) τ → wB_X3_fillAmounts_60 post (wL_X3_fillAmounts_2 post (d + 1)) (nI j) τ := fun b τ g u hu => by rw [hu, nI_1]; exact ih (j + 1) b τ (by omega) g
      cases hA : A j with
      | none =>
        refine ⟨fun _ => k60 b τ ?_, fun z => absurd rfl z⟩
        have ea : anyBad (tkK L) (tkV L) (a, l, W, A, E, n) (j + 1) = anyBad (tkK L) (tkV L) (a, l, W, A, E, n) j := by
          show (anyBad (tkK L) (tkV L) (a, l, W, A, E, n) j || (match A j with
            | none => false
            | some q => amBad (tkK L) (tkV L) (decide (E j = 36 ∨ E j = 37)) n q)) = _
          rw [hA]; exact Bool.or_false _
        rw [ea]
        refine ⟨g.1, g.2.1, g.2.2.1, g.2.2.2.1, fun i hi => ?_, g.2.2.2.2.2⟩
        have hh := g.2.2.2.2.1 i hi
        refine ⟨?_, hh.2⟩
        rw [hh.1]
        unfold filW
        by_cases q : i < j
        · rw [if_pos q, if_pos (by omega)]
        · rw [if_neg q]
          by_cases q2 : i = j
          · subst q2
            rw [if_pos (by omega)]
            unfold finW
            show W i = (match A i with
              | none => W i
              | some q => _)
            rw [hA]
          · rw [if_neg (by omega)]
      | some q =>
        have hq : tkK L (amA (tkK L) q) = 1 ∨ tkK L (amA (tkK L) q) = 2 := ho j (by show j < l; omega) q hA
        have hlt := tk_lt (L := L) (a := amA (tkK L) q) (by rcases hq with e | e <;> rw [e] <;> decide)
        have hA1 := amA_le (tkK L) q
        have hL := g.1.1
        refine ⟨fun z => absurd z (nI_ne1 (by omega)), fun _ => ⟨ij, fun z => (by rw [w3] at z; cases z), fun e he => ⟨ij, ij, ij, fun z => (by rw [w3] at z; cases z), fun e9 he9 => ?_⟩⟩⟩
        rw [w3] at he9
        cases he9
        refine ⟨w4, spx_amountPart w4 ?_⟩
        have hcc : (if E j = 36 ∨ E j = 37 then (116 : Int32) else 110) = 110 ∨ (if E j = 36 ∨ E j = 37 then (116 : Int32) else 110) = 116 := by
          by_cases z : E j = 36 ∨ E j = 37
          · exact Or.inr (if_pos z)
          · exact Or.inl (if_neg z)
        have hdec : decide ((if E j = 36 ∨ E j = 37 then (116 : Int32) else 110) = 116) = decide (E j = 36 ∨ E j = 37) := by
          by_cases z : E j = 36 ∨ E j = 37
          · rw [if_pos z, decide_eq_true z]; rfl
          · rw [if_neg z, decide_eq_false z]; rfl
        refine xe_amountAt hcc (by omega) hq g (fun τ' g' => ⟨ij, k60 (amA (tkK L) q + 1) _ ?_⟩)
        rw [hdec] at g'
        rw [noteS_or] at g'
        have ea : anyBad (tkK L) (tkV L) (a, l, W, A, E, n) (j + 1) = (anyBad (tkK L) (tkV L) (a, l, W, A, E, n) j || amBad (tkK L) (tkV L) (decide (E j = 36 ∨ E j = 37)) n q) := by
          show (anyBad (tkK L) (tkV L) (a, l, W, A, E, n) j || (match A j with
            | none => false
            | some q => amBad (tkK L) (tkV L) (decide (E j = 36 ∨ E j = 37)) n q)) = _
          rw [hA]
        rw [ea, w1]
        refine ⟨g'.1, g'.2.1, g'.2.2.1, g'.2.2.2.1, fun i hi => ?_, g'.2.2.2.2.2⟩
        have hh := g'.2.2.2.2.1 i hi
        refine ⟨?_, hh.2⟩
        rw [xL_yL, if_pos rfl]
        unfold vp_updL
        by_cases q2 : i = j
        · subst q2
          rw [if_pos rfl]
          unfold filW finW
          rw [if_pos (by omega)]
          show _ = (match A i with
            | none => W i
            | some q => _)
          rw [hA]
          rfl
        · rw [if_neg q2, hh.1]
          unfold filW
          by_cases q3 : i < j
          · rw [if_pos q3, if_pos (by omega)]
          · rw [if_neg q3, if_neg (by omega)]
  refine ⟨l + 1, main l 0 a σ (by omega) ?_⟩
  have e0 : noteS n (anyBad (tkK L) (tkV L) (a, l, W, A, E, n) 0) = n := noteS_false n
  rw [e0]
  exact h
/-- what parse leaves behind where nothing is refused -/
def XOk (K : Nat → Int32) (V : Nat → Int64) (σ0 : XS) (s : ST) (τ : XS) : Prop := XFr σ0 τ ∧ (s.2.1 ≤ 64 ∧ xI τ 1 = nI s.2.1) ∧ (∀ k, k < s.2.1 → xL τ 3 k = finW K V s k) ∧ XNm s.2.2.2.2.2 τ
theorem xe_parse {t : Nat} {f : Nat → Int32} (ht : t ≤ 700) (hX : XG t σ) (hf : ∀ i, i < t → xA σ 0 i = f i) (hc : ∀ i, i < t → ∃ m, m < 127 ∧ f i = nI m) (k0 : outS (toks f t) = none → ∀ τ, XFr σ τ → isB 0 → post 0 τ) (k1 : ∀ s τ, outS (toks f t) = some s → XOk (tkK (toks f t)) (tkV (toks f t)) σ s τ → isB 1 → post 1 τ) : wp_X3_parse post σ := by
  refine spx_scan (f := f) ht hX.2.1 hf hc (fun τ hS h5 hT hL => ?_)
  generalize hLq : toks f t = L at *
  have hV : XV L τ := by
    refine ⟨hL, by rw [hT.1, List.length_append]; rfl, fun i hi => ?_⟩
    have hh := hT.2 i (by rw [List.length_append]; show i < L.length + 1; omega)
    have e : (L ++ [((0 : Int32), (0 : Int64))]).getD i (0, 0) = L.getD i (0, 0) := by
      by_cases q : i < L.length
      · exact getD_lt L _ q
      · rw [show i = L.length by omega, getD_eq, getD_ge L (Nat.le_refl _)]
    unfold tkK tkV at hh ⊢
    rw [e] at hh
    exact hh
  have hF : XFr σ τ := ⟨hS.1 0 (by decide) (by decide), hS.1 7 (by decide) (by decide), hS.1 8 (by decide) (by decide), hS.2.1 0 (by decide) (by decide), hS.2.1 4 (by decide) (by decide), hS.2.1 5 (by decide) (by decide), hS.2.2.1 4 (by decide), hS.2.2.1 5 (by decide), hS.2.2.1 6 (by decide), hS.2.2.2 1, fun i e he => hX.2.2.1 i e (by rw [hS.2.2.2 0] at he; exact he), fun i => by rw [hS.2.1 3 (by decide) (by decide)]; exact hX.2.2.2 i⟩
  have g0 : XE L σ 0 0 (fun _ => 0) (fun _ => none) (fun _ => 0) (0, fun _ => 0, fun _ => 0, false) τ := ⟨hV, hF, ⟨Nat.zero_le _, h5⟩, ⟨by omega, hS.1 1 (by decide) (by decide)⟩, fun k hk => absurd hk (Nat.not_lt_zero k), ⟨by show 0 ≤ 350; omega, hS.1 6 (by decide) (by decide), fun i hi => absurd hi (Nat.not_lt_zero i)⟩, ⟨fun _ => rfl, fun _ => hS.1 2 (by decide) (by decide)⟩⟩
  have kbad : ∀ τ, XR σ τ → outS L = none → wB_X3_parse_66 post 0 τ := fun τ r q => ⟨fun _ => ⟨fun z => absurd z r.2, fun _ => ⟨Or.inl rfl, k0 q τ r.1 (Or.inl rfl)⟩⟩, fun z => absurd rfl z⟩
  have kok : ∀ a l W A E n τ, prsS (tkK L) (tkV L) 700 s0S = some (a, l, W, A, E, n) → OKS (tkK L) (a, l, W, A, E, n) → XE L σ a l W A E n τ → wB_X3_parse_66 post 1 τ := by
    intro a l W A E n τ hq ho g
    refine ⟨fun z => absurd z (by decide), fun _ => xe_fill ho g (fun b τ g => ?_)⟩
    have eo : outS L = if n.2.2.2 || anyBad (tkK L) (tkV L) (a, l, W, A, E, n) l then none else some (a, l, W, A, E, n) := by
      unfold outS
      rw [hq]; rfl
    have h7 := g.2.2.2.2.2.2
    have h7 : xI τ 2 = 0 ↔ (n.2.2.2 || anyBad (tkK L) (tkV L) (a, l, W, A, E, n) l) = false := h7
    refine ⟨fun z => ⟨Or.inr rfl, k1 (a, l, W, A, E, n) τ ?_ ⟨g.2.1, g.2.2.2.1, fun k hk => (g.2.2.2.2.1 k hk).1, g.2.2.2.2.2.1⟩ (Or.inr rfl)⟩, fun z => ⟨Or.inl rfl, k0 ?_ τ g.2.1 (Or.inl rfl)⟩⟩
    · rw [eo, h7.mp z]; rfl
    · rw [eo]
      cases hb : (n.2.2.2 || anyBad (tkK L) (tkV L) (a, l, W, A, E, n) l) with
      | true => rfl
      | false => exact absurd (h7.mpr hb) z
  have main : ∀ (d j a l : Nat) (W : Nat → Int64) (A : Nat → Option Nat) (E : Nat → Nat) (n : NS) (τ : XS), j + d = 700 → prsS (tkK L) (tkV L) 700 s0S = prsS (tkK L) (tkV L) d (a, l, W, A, E, n) → 2 * n.1 ≤ a → OKS (tkK L) (a, l, W, A, E, n) → XE L σ a l W A E n τ → wL_X3_parse_34 post (d + 2) 1 (nI j) τ := by
    intro d
    induction d with
    | zero =>
      intro j a l W A E n τ hj hq hn ho g
      exact ⟨fun _ => kok a l W A E n τ hq ho g, fun z => absurd (show (700 : Int32) ≤ nI j by rw [show j = 700 by omega]; decide) z⟩
    | succ d ih =>
      intro j a l W A E n τ hj hq hn ho g
      have hq : prsS (tkK L) (tkV L) 700 s0S = if tkK L a = 0 then some (a, l, W, A, E, n) else (stmS (tkK L) (tkV L) (a, l, W, A, E, n)).bind (prsS (tkK L) (tkV L) d) := hq
      refine ⟨fun z => absurd z (nI_ge (a := j) (b := 700) (by omega) (by decide)), fun _ => ⟨fun z => absurd z (by decide), fun _ => xe_kind g ⟨fun q => kok a l W A E n τ (by rw [hq, if_pos q]) ho g, fun q => ?_⟩⟩⟩
      rw [if_neg q] at hq
      refine xe_takeStatement hn g (fun hs τ r _ => fun w hw => ?_) (fun b l' W' A' E' m τ hs hm g _ => fun w hw => ?_)
      · have hb := kbad τ r (by unfold outS; rw [hq, hs]; rfl)
        exact ⟨fun _ => hb, fun _ => ⟨fun _ => hb, fun z => absurd rfl z⟩⟩
      · rw [hw, nI_1]
        exact ih (j + 1) b l' W' A' E' m τ (by omega) (by rw [hq, hs]; rfl) hm (stm_ok hs ho) g
  exact ⟨702, main 700 0 0 0 _ _ _ _ τ rfl rfl (Nat.le_refl 0) (fun k hk => absurd hk (Nat.not_lt_zero k)) g0⟩
/-- the kernel, its NAMES and what is kept of each WORD are as before -/
def XKs (σ τ : XS) : Prop := xI τ 7 = xI σ 7 ∧ xI τ 8 = xI σ 8 ∧ xA τ 4 = xA σ 4 ∧ xA τ 5 = xA σ 5 ∧ xL τ 4 = xL σ 4 ∧ xL τ 5 = xL σ 5 ∧ xL τ 6 = xL σ 6 ∧ xQ τ 1 = xQ σ 1
/-- the kernel is of these WORDS and NAMES -/
def XKn (l : Nat) (F : Nat → Int64) (n : NS) (τ : XS) : Prop := xI τ 8 = nI l ∧ (∀ k, k < l → xL τ 6 k = F k) ∧ xI τ 7 = nI n.1 ∧ ∀ i, i < n.1 → xL τ 4 i = n.2.1 i ∧ xL τ 5 i = n.2.2.1 i
theorem xe_become {post : XS → Prop} {F : Nat → Int64} (hl : l ≤ 64) (h : XB 0 (yI σ 8 0)) (hF : ∀ k, k < l → xL σ 3 k = F k) (hN : XNm n σ) (k : ∀ τ, XB l τ → (∀ k, k < l → xL τ 6 k = F k) → XNm n τ → post τ) : wp_X0_become post (nI l) σ := by
  have main : ∀ (d j : Nat) (τ : XS), j + d = l → XB j τ → (∀ k, k < l → xL τ 3 k = F k) → (∀ k, k < j → xL τ 6 k = F k) → XNm n τ → wL_X0_become_7 post (d + 1) (nI l) (nI j) τ := by
    intro d
    induction d with
    | zero =>
      intro j τ hj g hF hD hN
      have : j = l := by omega
      subst this
      exact ⟨fun _ => k τ g hD hN, fun z => absurd (nI_le (by omega) (by omega)) z⟩
    | succ d ih =>
      intro j τ hj g hF hD hN
      refine ⟨fun z => absurd z (nI_ge (by omega) (by omega)), fun _ => ⟨fun z => absurd z (nI_ge (a := j) (b := 64) (by omega) (by decide)), fun _ => ⟨vp_in_nI (by omega) (by decide), ?_⟩⟩⟩
      rw [nI_clamp (by omega), hF j (by omega)]
      refine sf_put g.1 (Nat.le_refl j) (by omega) (by omega) (fun o a b ho u hu => ?_)
      rw [hu, nI_1]
      refine ih (j + 1) _ (by omega) ⟨by show nI (max j (j + 1)) = _; rw [Nat.max_eq_right (by omega)], g.2.1, xq_put ho g.2.2.1, g.2.2.2.1, g.2.2.2.2.1, g.2.2.2.2.2.1, g.2.2.2.2.2.2⟩ (fun k hk => ?_) (fun k hk => ?_) hN
      · exact hF k hk
      · rw [xL_yI, xL_yA, xL_yA, xL_yQ, xL_yL, if_pos rfl]
        unfold vp_updL
        by_cases q : k = j
        · rw [if_pos q, q]
        · rw [if_neg q]; exact hD k (by omega)
  exact ⟨l + 1, main l 0 _ (by omega) h hF (fun k hk => absurd hk (Nat.not_lt_zero k)) hN⟩
theorem xe_compile {t : Nat} {f : Nat → Int32} {postX : XS → Prop} (ht : t ≤ 700) (hX : XG t σ) (hf : ∀ i, i < t → xA σ 0 i = f i) (hc : ∀ i, i < t → ∃ m, m < 127 ∧ f i = nI m) (k0 : outS (toks f t) = none → ∀ τ, XG 0 τ → XKs σ τ → postX τ) (k1 : ∀ s τ, outS (toks f t) = some s → s.2.1 ≤ 64 → s.2.2.2.2.2.1 ≤ 350 → XG 0 τ → XKn s.2.1 (finW (tkK (toks f t)) (tkV (toks f t)) s) s.2.2.2.2.2 τ → post (nI s.2.1) τ) : wp_X8_compile post postX σ := by
  refine xe_parse ht hX hf hc (fun q τ F _ => ⟨fun _ => ?_, fun z => absurd rfl z⟩) (fun s τ q h _ => ⟨fun z => absurd z (by decide), fun _ => ?_⟩)
  · obtain ⟨f1, f2, f3, f4, f5, f6, f7, f8, f9, f10, f11⟩ := F
    refine k0 q _ ⟨⟨?_, ?_, ?_⟩, rfl, f11⟩ ⟨f2, f3, f5, f6, f7, f8, f9, f10⟩
    · show ∃ c, c ≤ 64 ∧ xI τ 8 = nI c; rw [f3]; exact hX.1.1
    · show ∃ c, c ≤ 350 ∧ xI τ 7 = nI c; rw [f2]; exact hX.1.2.1
    · show ∀ i e, xQ τ 1 i = some e → e < 53; rw [f10]; exact hX.1.2.2
  · obtain ⟨⟨f1, f2, f3, f4, f5, f6, f7, f8, f9, f10, f11⟩, ⟨hl, e1⟩, hW, hN⟩ := h
    rw [e1]
    refine xe_become (F := finW (tkK (toks f t)) (tkV (toks f t)) s) (n := s.2.2.2.2.2) hl ⟨rfl, ?_, ?_, rfl, ⟨_, hN.1, hN.2.1⟩, f11.1, f11.2⟩ hW hN (fun τ g hD hN => ?_)
    · show ∃ c, c ≤ 350 ∧ xI τ 7 = nI c; rw [f2]; exact hX.1.2.1
    · show ∀ i e, xQ τ 1 i = some e → e < 53; rw [f10]; exact hX.1.2.2
    obtain ⟨hc, e6, hn⟩ := hN
    have h1 : ¬ xI τ 6 < 0 := by rw [e6]; exact nI_pos (by omega)
    have z0 : (0 : Int32).toNatClampNeg = 0 := rfl
    have ecl : (xI τ 6).toNatClampNeg = s.2.2.2.2.2.1 := by rw [e6, nI_clamp (by omega)]
    have h2 : (0 : Int32).toNatClampNeg + (xI τ 6).toNatClampNeg ≤ 350 := by rw [ecl]; omega
    have h0 : ¬ (0 : Int32) < 0 := by decide
    refine ⟨h0, h0, h1, h2, h2, h0, h0, h1, h2, h2, ?_⟩
    show post (xI τ 8) _
    rw [g.1]
    refine k1 s _ q hl hc ⟨⟨⟨_, hl, g.1⟩, ⟨_, hc, e6⟩, g.2.2.1⟩, g.2.2.2.1, g.2.2.2.2.2.1, g.2.2.2.2.2.2⟩ ⟨g.1, hD, e6, fun i hi => ?_⟩
    rw [ecl, z0]
    have e4 : xL (yLs (yLs (yI τ 7 (xI τ 6)) 4 (va_cpy (xL τ 1) (xL τ 4) 0 0 s.2.2.2.2.2.1)) 5 (va_cpy (xL τ 2) (xL τ 5) 0 0 s.2.2.2.2.2.1)) 4 = va_cpy (xL τ 1) (xL τ 4) 0 0 s.2.2.2.2.2.1 := by
      rw [xL_yLs, if_neg (by decide), xL_yLs, if_pos rfl]
    have e5 : xL (yLs (yLs (yI τ 7 (xI τ 6)) 4 (va_cpy (xL τ 1) (xL τ 4) 0 0 s.2.2.2.2.2.1)) 5 (va_cpy (xL τ 2) (xL τ 5) 0 0 s.2.2.2.2.2.1)) 5 = va_cpy (xL τ 2) (xL τ 5) 0 0 s.2.2.2.2.2.1 := by
      rw [xL_yLs, if_pos rfl]
    rw [e4, e5, pk_cpy_in (Nat.zero_le i) (by omega), pk_cpy_in (Nat.zero_le i) (by omega), Nat.zero_add, Nat.sub_zero]
    exact hn i hi
end XPI
