/-! the reference's compile makes what the TOKENS mean -/
section NAB
variable (K : Nat → Int32) (V : Nat → Int64)
def naB1 (e : Nat) (n : NS) (o : Option Nat) : Bool := match o with
  | none => false
  | some q => if K (amA K q) = 1 then amBad K V (jmp e) n q else false
def naB (A : Nat → Option Nat) (E : Nat → Nat) (n : NS) : Nat → Bool
  | 0 => false
  | k + 1 => naB A E n k || naB1 K V (E k) n (A k)
end NAB
theorem or4 (a b c d : Bool) : ((a || b) || (c || d)) = ((a || c) || (b || d)) := by cases a <;> cases b <;> cases c <;> cases d <;> rfl
theorem amV_num' {K : Nat → Int32} {V : Nat → Int64} {n : NS} {a : Nat} (h : ¬ K (amA K a) = 1) : amVal K V n a = amN K V a ∧ (amR K V n a).isNone = false := by
  have e : amR K V n a = some (V (amA K a)) := by unfold amR; rw [if_neg h]
  unfold amVal amN
  rw [e]
  exact ⟨rfl, rfl⟩
theorem any_split {K : Nat → Int32} {V : Nat → Int64} {a l : Nat} {W : Nat → Int64} {A : Nat → Option Nat} {E : Nat → Nat} {n : NS} : ∀ k, anyBad K V (a, l, W, A, E, n) k = (nbB K V A E k || naB K V A E n k) := by
  intro k
  induction k with
  | zero => rfl
  | succ k ih =>
    show (anyBad K V (a, l, W, A, E, n) k || (match A k with
      | none => false
      | some q => amBad K V (decide (E k = 36 ∨ E k = 37)) n q)) = ((nbB K V A E k || nbB1 K V (E k) (A k)) || (naB K V A E n k || naB1 K V (E k) n (A k)))
    rw [ih, ← or4]
    congr 1
    cases hA : A k with
    | none => rfl
    | some q =>
      show amBad K V (jmp (E k)) n q = ((if K (amA K q) = 1 then false else !(inR (jmp (E k)) (amN K V q))) || (if K (amA K q) = 1 then amBad K V (jmp (E k)) n q else false))
      by_cases c : K (amA K q) = 1
      · rw [if_pos c, if_pos c, Bool.false_or]
      · rw [if_neg c, if_neg c, Bool.or_false]
        obtain ⟨e1, e2⟩ := amV_num' (V := V) (n := n) c
        unfold amBad
        rw [e1, e2, Bool.false_or]
theorem stm_gt {K : Nat → Int32} {V : Nat → Int64} {s s' : ST} (h : stmS K V s = some s') : s.1 < s'.1 := by
  have hlab : ∀ (d a : Nat) (x : Int64) (n : NS), a ≤ (labS K V d a x n).1 := by
    intro d
    induction d with
    | zero => intro a x n; exact Nat.le_refl a
    | succ d ih =>
      intro a x n
      unfold labS
      split
      · have := ih (a + 2) x (tellS n (V a) x)
        omega
      · exact Nat.le_refl a
  unfold stmS at h
  split at h
  · obtain ⟨b, hb, -, e⟩ := cst_of h
    have h1 := (pas_of hb).2
    have h2 := amA_le K (s.1 + 2)
    rw [e]
    show s.1 < b + 1
    omega
  · have hl := hlab 350 s.1 (nI s.2.1).toInt64 s.2.2.2.2.2
    dsimp only at h
    split at h
    · cases h
      show s.1 < (labS K V 350 s.1 (nI s.2.1).toInt64 s.2.2.2.2.2).1 + 1
      omega
    · obtain ⟨⟨c, g⟩, hg, hw⟩ := Option.bind_eq_some_iff.mp h
      obtain ⟨e, w, hw2, -, rfl⟩ := word_of hw
      have h1 := grd_ge hg
      have h2 := wrd_ge hw2
      show s.1 < w.1 + 1
      have h2 : c < w.1 := h2
      omega
/-- while NAMES that waited are told -/
def RS (K : Nat → Int32) (V : Nat → Int64) (σ0 : MS) (s a l : Nat) (W : Nat → Int64) (A : Nat → Option Nat) (E : Nat → Nat) (n : NS) (k : Nat) (fb : Bool) (τ : MS) : Prop := MFr σ0 s τ ∧ mI τ 13 = nI l ∧ MNm s n τ ∧ mI τ 18 = nI (wcS K A l) ∧ (∀ j, j < l → ∀ q, A j = some q → K (amA K q) = 1 → WT K V (wcS K A j) j q (E j) τ) ∧ (mI τ 3 = 0 ↔ fb = false) ∧ (fb = false → ∀ j, j < l → mL τ 12 j = if j < k then finW K V (a, l, W, A, E, n) j else wmS K V (W j) (A j))
section MPD
variable {L : List Tok} {T : Nat} {σ0 σ : MS} {s a l : Nat} {W : Nat → Int64} {A : Nat → Option Nat} {E : Nat → Nat} {n : NS} {fb : Bool} {post : Int32 → MS → Prop}
theorem rs_note {K : Nat → Int32} {V : Nat → Int64} {k : Nat} {τ : MS} (h : RS K V σ0 s a l W A E n k fb σ) (hn : NoteOf σ τ) : RS K V σ0 s a l W A E n k true τ := by
  obtain ⟨n1, n2, n3, n4, n5⟩ := hn
  obtain ⟨h1, h2, h3, h4, h5, h6, h7⟩ := h
  unfold MFr GI at h1
  unfold MNm at h3
  unfold WT at h5
  unfold RS MFr GI MNm WT
  simp only [n3, n4, n1 14 (by decide) (by decide), n1 2 (by decide) (by decide), n1 11 (by decide) (by decide), n1 13 (by decide) (by decide), n1 18 (by decide) (by decide)]
  exact ⟨h1, h2, h3, h4, h5, ⟨fun z => absurd z n5, fun z => by cases z⟩, fun z => by cases z⟩
theorem fin_w {K : Nat → Int32} {V : Nat → Int64} {k : Nat} (h : ∀ q, A k = some q → ¬ K (amA K q) = 1) : finW K V (a, l, W, A, E, n) k = wmS K V (W k) (A k) := by
  show (match A k with
    | none => W k
    | some q => W k ||| (amVal K V n q <<< ((32 : Int32).toInt64 &&& 63))) = wmS K V (W k) (A k)
  cases hA : A k with
  | none => rfl
  | some q =>
    have c := h q hA
    show W k ||| (amVal K V n q <<< ((32 : Int32).toInt64 &&& 63)) = (if K (amA K q) = 1 then W k else W k ||| nbr (amN K V q))
    rw [if_neg c, (amV_num' (V := V) (n := n) c).1]
    unfold nbr
    rw [nbr_eq]
theorem em_resolve {K : Nat → Int32} {V : Nat → Int64} {post : MS → Prop} (hs : s < 2) (hl : l ≤ 64) (h : RS K V σ0 s a l W A E n 0 fb σ) (kk : ∀ τ, RS K V σ0 s a l W A E n l (fb || naB K V A E n l) τ → post τ) : wp_X9_resolve post σ := by
  have main : ∀ (d k : Nat) (τ : MS), k + d = l → RS K V σ0 s a l W A E n k (fb || naB K V A E n k) τ → wL_X9_resolve_2 post (wcS K A l - wcS K A k + 1) (nI (wcS K A k)) τ := by
    intro d
    induction d with
    | zero =>
      intro k τ hk g
      have : k = l := by omega
      subst this
      exact ⟨fun _ => kk τ g, fun z => absurd (by rw [g.2.2.2.1]; exact nI_le (Nat.le_refl _) (by have := wcS_le K A k; omega)) z⟩
    | succ d ih =>
      intro k τ hk g
      by_cases hnm : ∃ q, A k = some q ∧ K (amA K q) = 1
      · obtain ⟨q, hA, hq⟩ := hnm
        have enm : nmB K (A k) = true := by rw [hA]; exact decide_eq_true hq
        have ew : wcS K A (k + 1) = wcS K A k + 1 := by
          show wcS K A k + (if nmB K (A k) then 1 else 0) = _
          rw [enm]; rfl
        have hlt := wcS_lt enm l (by omega)
        have hle := wcS_le K A l
        have eb : naB1 K V (E k) n (A k) = amBad K V (jmp (E k)) n q := by rw [hA]; exact if_pos hq
        have efb : (fb || naB K V A E n (k + 1)) = ((fb || naB K V A E n k) || amBad K V (jmp (E k)) n q) := by
          show (fb || (naB K V A E n k || naB1 K V (E k) n (A k))) = _
          rw [eb, Bool.or_assoc]
        have ir : vp_in (nI (wcS K A k)) 64 := vp_in_nI (by omega) (by decide)
        have er : (nI (wcS K A k)).toNatClampNeg = wcS K A k := nI_clamp (by omega)
        have hwt := g.2.2.2.2.1 k (by omega) q hA hq
        have eR : amR K V n q = (nFind n (V (amA K q))).map n.2.2.1 := by unfold amR; rw [if_pos hq]
        have hA2 : amBad K V (jmp (E k)) n q = ((amR K V n q).isNone || !(inR (jmp (E k)) (amVal K V n q))) := rfl
        have hA1 : amVal K V n q = if K q = 45 then -((amR K V n q).getD 0) else (amR K V n q).getD 0 := rfl
        have e20 : mL τ 20 (wcS K A k) = V (amA K q) := hwt.2.1
        have efin : finW K V (a, l, W, A, E, n) k = W k ||| nbr (amVal K V n q) := by
          show (match A k with
            | none => W k
            | some q => W k ||| (amVal K V n q <<< ((32 : Int32).toInt64 &&& 63))) = _
          rw [hA]
          unfold nbr
          rw [nbr_eq]
        have ewm : wmS K V (W k) (A k) = W k := by rw [hA]; exact if_pos hq
        have hmono : wcS K A k + 1 ≤ wcS K A l := hlt
        have ef : wcS K A l - wcS K A k + 1 = (wcS K A l - wcS K A (k + 1) + 1) + 1 := by rw [ew]; omega
        rw [ef]
        have k131 : ∀ τ, RS K V σ0 s a l W A E n (k + 1) (fb || naB K V A E n (k + 1)) τ → wB_X9_resolve_131 post (wL_X9_resolve_2 post (wcS K A l - wcS K A (k + 1) + 1)) (nI (wcS K A k)) τ := fun τ g y hy => by
          rw [hy, nI_1, ← ew]
          exact ih (k + 1) τ (by omega) g
        have k113 : ∀ (f : Bool) (τ' : MS), RS K V σ0 s a l W A E n k f τ' → (fb || naB K V A E n (k + 1)) = f → wB_X9_resolve_113 post (wL_X9_resolve_2 post (wcS K A l - wcS K A (k + 1) + 1)) (nI (wcS K A k)) (amVal K V n q) τ' := by
          intro f τ' g' hf
          have hw' := g'.2.2.2.2.1 k (by omega) q hA hq
          unfold wB_X9_resolve_113
          rw [er, hw'.1, nI_clamp (show k < 2 ^ 31 by omega)]
          refine ⟨ir, vp_in_nI (by omega) (by decide), vp_in_nI (by omega) (by decide), k131 _ ?_⟩
          rw [hf]
          refine ⟨g'.1, g'.2.1, g'.2.2.1, g'.2.2.2.1, g'.2.2.2.2.1, g'.2.2.2.2.2.1, fun z j hj => ?_⟩
          have hh := g'.2.2.2.2.2.2 z
          rw [mL_wL, if_pos rfl]
          unfold vp_updL
          by_cases c : j = k
          · rw [if_pos c, c, if_pos (by omega), hh k (by omega), if_neg (by omega), ewm, efin]
            rfl
          · rw [if_neg c, hh j hj]
            by_cases c2 : j < k
            · rw [if_pos c2, if_pos (by omega)]
            · rw [if_neg c2, if_neg (by omega)]
        have k102 : ¬ inR (jmp (E k)) (amVal K V n q) = true → wB_X9_resolve_102 post (wL_X9_resolve_2 post (wcS K A l - wcS K A (k + 1) + 1)) (nI (wcS K A k)) (amVal K V n q) τ := fun z => ⟨ir, em_note (by decide) (fun τ' hτ => k113 true τ' (rs_note g hτ) (by rw [efb, hA2, bnot_true z, Bool.or_true, Bool.or_true]))⟩
        have k71 : (amR K V n q).isNone = false → wB_X9_resolve_71 post (wL_X9_resolve_2 post (wcS K A l - wcS K A (k + 1) + 1)) (nI (wcS K A k)) (amVal K V n q) τ := by
          intro hsome
          have kok : inR (jmp (E k)) (amVal K V n q) = true → wB_X9_resolve_113 post (wL_X9_resolve_2 post (wcS K A l - wcS K A (k + 1) + 1)) (nI (wcS K A k)) (amVal K V n q) τ := fun z => k113 _ τ g (by rw [efb, hA2, hsome, z]; exact Bool.or_false _)
          have h24 := hwt.2.2.2
          refine sp_isInt ?_
          by_cases c : inR false (amVal K V n q) = true
          · rw [bI_pos c]
            refine ⟨fun z => absurd z (by decide), fun _ => ⟨ir, ?_⟩⟩
            rw [er]
            refine ⟨fun z => kok (by rw [h24.mp z]; exact c), fun z => ?_⟩
            have hj : jmp (E k) = true := by
              cases hj : jmp (E k) with
              | true => rfl
              | false => exact absurd (h24.mpr hj) z
            rw [hj] at k102 kok
            exact ⟨fun y => k102 (fun w => (goal_iff.mp w).1 y), fun y => ⟨fun y2 => kok (goal_iff.mpr ⟨y, y2⟩), fun y2 => k102 (fun w => y2 (goal_iff.mp w).2)⟩⟩
          · rw [bI_neg c]
            refine ⟨fun _ => k102 (fun w => c ?_), fun z => absurd rfl z⟩
            cases hj : jmp (E k) with
            | false => rw [hj] at w; exact w
            | true => rw [hj] at w; exact inR_goal w
        have e14 : (1 : Int32) - mI τ 14 = nI (1 - s) := by rw [g.1.1.1]; exact one_s hs
        show wB_X9_resolve_2 post _ (nI (wcS K A k)) τ
        unfold wB_X9_resolve_2
        rw [e14, er, e20]
        have hc := g.2.2.1.1
        refine ⟨fun z => absurd z (by rw [g.2.2.2.1]; exact nI_ge hlt (by omega)), fun _ => ⟨ir, em_find hs g.2.2.1 (fun hn => ⟨fun _ => ⟨ir, em_note (by decide) (fun τ' hτ => k131 τ' ?_)⟩, fun z => absurd rfl z⟩) (fun j hj hjn => ⟨fun z => absurd z (nI_ne1 (by omega)), fun _ => ⟨ir, ?_, ?_⟩⟩)⟩⟩
        · have r := rs_note g hτ
          rw [hn] at eR
          have eR : amR K V n q = none := eR
          have ebt : (fb || naB K V A E n (k + 1)) = true := by rw [efb, hA2, eR]; exact Bool.or_true _
          rw [ebt]
          exact ⟨r.1, r.2.1, r.2.2.1, r.2.2.2.1, r.2.2.2.2.1, r.2.2.2.2.2.1, fun z => by cases z⟩
        · intro z
          rw [hj] at eR
          have eR : amR K V n q = some (n.2.2.1 j) := eR
          have ev : mL τ 17 (nI (400 * (1 - s) + j)).toNatClampNeg = amVal K V n q := by
            rw [nI_clamp (by omega), (g.2.2.1.2.2 j hjn).2, hA1, if_neg (hwt.2.2.1.mp z), eR]; rfl
          rw [ev]
          exact ⟨vp_in_nI (by omega) (by decide), k71 (by rw [eR]; rfl)⟩
        · intro z
          rw [hj] at eR
          have eR : amR K V n q = some (n.2.2.1 j) := eR
          have c45 : K q = 45 := by
            by_cases c : K q = 45
            · exact c
            · exact absurd (hwt.2.2.1.mpr c) z
          have ev : -(mL τ 17 (nI (400 * (1 - s) + j)).toNatClampNeg) = amVal K V n q := by
            rw [nI_clamp (by omega), (g.2.2.1.2.2 j hjn).2, hA1, if_pos c45, eR]; rfl
          rw [ev]
          exact ⟨vp_in_nI (by omega) (by decide), k71 (by rw [eR]; rfl)⟩
      · have e1 : naB1 K V (E k) n (A k) = false := by
          cases hA : A k with
          | none => rfl
          | some q => exact if_neg (fun z => hnm ⟨q, hA, z⟩)
        have e2 : nmB K (A k) = false := by
          cases hA : A k with
          | none => rfl
          | some q => exact decide_eq_false (fun z => hnm ⟨q, hA, z⟩)
        have ew : wcS K A (k + 1) = wcS K A k := by
          show wcS K A k + (if nmB K (A k) then 1 else 0) = _
          rw [e2]; rfl
        have efb : (fb || naB K V A E n (k + 1)) = (fb || naB K V A E n k) := by
          show (fb || (naB K V A E n k || naB1 K V (E k) n (A k))) = _
          rw [e1, Bool.or_false]
        have := ih (k + 1) τ (by omega) (by
          rw [efb]
          refine ⟨g.1, g.2.1, g.2.2.1, g.2.2.2.1, g.2.2.2.2.1, g.2.2.2.2.2.1, fun z j hj => ?_⟩
          rw [g.2.2.2.2.2.2 z j hj]
          by_cases c : j < k
          · rw [if_pos c, if_pos (by omega)]
          · rw [if_neg c]
            by_cases c2 : j = k
            · rw [c2, if_pos (by omega)]
              exact (fin_w (fun q hA z => hnm ⟨q, hA, z⟩)).symm
            · rw [if_neg (by omega)])
        rw [ew] at this
        exact this
  exact ⟨_, main l 0 σ (by omega) (by rw [show (fb || naB K V A E n 0) = fb from Bool.or_false fb]; exact h)⟩
theorem toks_kind (f : Nat → Int32) (t : Nat) : ∀ i, i < (toks f t).length → ¬ tkK (toks f t) i = 0 := by
  have main : ∀ (d p : Nat), ∀ x, x ∈ toksS f t d p → ¬ x.1 = 0 := by
    intro d
    induction d with
    | zero => intro p x hx; cases hx
    | succ d ih =>
      intro p x hx
      unfold toksS at hx
      split at hx
      · split at hx
        · rcases List.mem_cons.mp hx with e | e
          · rw [e]; unfold tokN; split
            · show ¬ (3 : Int32) = 0; decide
            · show ¬ (1 : Int32) = 0; decide
          · exact ih _ x e
        · split at hx
          · rcases List.mem_cons.mp hx with e | e
            · rw [e]; unfold tokD; split
              · show ¬ (3 : Int32) = 0; decide
              · show ¬ (2 : Int32) = 0; decide
            · exact ih _ x e
          · split at hx
            · exact ih _ x hx
            · rcases List.mem_cons.mp hx with e | e
              · rw [e]
                show ¬ (if isSg (f p) then f p else 3) = 0
                by_cases c : isSg (f p)
                · rw [if_pos c]; exact (sg_ne c).1
                · rw [if_neg c]; decide
              · exact ih _ x e
      · cases hx
  intro i hi
  unfold tkK
  rw [List.getD_eq_getElem?_getD, List.getElem?_eq_getElem hi]
  exact main 700 0 _ (List.getElem_mem hi)
theorem toks_len (f : Nat → Int32) (t : Nat) : (toks f t).length ≤ 700 := by
  have main : ∀ (d p : Nat), (toksS f t d p).length ≤ d := by
    intro d
    induction d with
    | zero => intro p; exact Nat.le_refl 0
    | succ d ih =>
      intro p
      unfold toksS
      split
      · split
        · exact Nat.succ_le_succ (ih _)
        · split
          · exact Nat.succ_le_succ (ih _)
          · split
            · exact Nat.le_succ_of_le (ih _)
            · exact Nat.succ_le_succ (ih _)
      · exact Nat.zero_le _
  exact main 700 0
/-- the reference's kernel and NAMES, of side s -/
def MKn (s l : Nat) (F : Nat → Int64) (n : NS) (τ : MS) : Prop := mI τ 11 = nI l ∧ (∀ k, k < l → mL τ 10 k = F k) ∧ mA τ 15 s = nI n.1 ∧ ∀ i, i < n.1 → mL τ 16 (400 * s + i) = n.2.1 i ∧ mL τ 17 (400 * s + i) = n.2.2.1 i
theorem em_compile {t : Nat} {f : Nat → Int32} (hs : s < 2) (ht : t ≤ 700) (h : GI s t σ) (hf : ∀ i, i < t → mA σ 1 i = f i) (k0 : outS (toks f t) = none → ∀ τ, MFr σ s τ → mI τ 0 = 1 → post 0 τ) (k1 : ∀ st τ, outS (toks f t) = some st → st.2.1 ≤ 64 → st.2.2.2.2.2.1 ≤ 350 → GI (1 - s) 0 τ → mI τ 0 = 0 → MKn (1 - s) st.2.1 (finW (tkK (toks f t)) (tkV (toks f t)) st) st.2.2.2.2.2 τ → post (nI st.2.1) τ) : wp_X9_compile post σ := by
  refine spm_tokenize (σ := wI (wI σ 3 0) 4 0) (f := f) ht h.2.1 hf (fun T τ hT hTL hS hco e6 hbad hno => ?_)
  have hLk := toks_kind f t
  have hL7 : (toks f t).length ≤ 700 := toks_len f t
  generalize hLq : toks f t = L at *
  have e14 : mI τ 14 = nI s := by rw [hS.1 14 (by decide)]; exact h.1
  have e1 : (1 : Int32) - mI τ 14 = nI (1 - s) := by rw [e14]; exact one_s hs
  rw [e1, nI_clamp (by omega)]
  refine ⟨vp_in_nI (by omega) (by decide), ?_⟩
  have hA : ∀ k, k ≠ 6 → k ≠ 7 → mA τ k = mA σ k := fun k h6 h7 => by rw [hS.2.2.1 k h6 h7]; rfl
  have hLL : ∀ k, k ≠ 8 → mL τ k = mL σ k := fun k h8 => by rw [hS.2.2.2 k h8]; rfl
  -- the end
  have k80 : ∀ (st : ST) (b : Bool) τ, st.2.1 ≤ 64 → st.2.2.2.2.2.1 ≤ 350 → MFr σ s τ → mI τ 13 = nI st.2.1 → MNm s st.2.2.2.2.2 τ → (mI τ 3 = 0 ↔ b = false) → (b = true → outS L = none) → (b = false → outS L = some st ∧ ∀ j, j < st.2.1 → mL τ 12 j = finW (tkK L) (tkV L) st j) → wB_X9_compile_80 post τ := by
    intro st b τ hl hn F e13 hN h3 hb1 hb0
    refine ⟨fun z => ?_, fun z => k0 (hb1 (by
      cases hb : b with
      | true => rfl
      | false => exact absurd (h3.mpr hb) z)) _ F rfl⟩
    obtain ⟨ho, hW⟩ := hb0 (h3.mp z)
    have main : ∀ (d j : Nat) (τ : MS), j + d = st.2.1 → mI τ 11 = nI st.2.1 → GI (1 - s) 0 τ → mI τ 0 = 0 → MNm s st.2.2.2.2.2 τ → (∀ k, k < st.2.1 → mL τ 12 k = finW (tkK L) (tkV L) st k) → (∀ k, k < j → mL τ 10 k = finW (tkK L) (tkV L) st k) → wL_X9_compile_118 post (d + 1) (nI j) τ := by
      intro d
      induction d with
      | zero =>
        intro j τ hj e11 g e0 hN hW hK
        refine ⟨fun _ => ?_, fun z => absurd (by rw [e11]; exact nI_le (by omega) (by omega)) z⟩
        rw [e11]
        exact k1 st τ ho hl hn g e0 ⟨e11, fun k hk => hK k (by omega), hN.2.1, hN.2.2⟩
      | succ d ih =>
        intro j τ hj e11 g e0 hN hW hK
        refine ⟨fun z => absurd z (by rw [e11]; exact nI_ge (by omega) (by omega)), fun _ => ⟨vp_in_nI (by omega) (by decide), vp_in_nI (by omega) (by decide), fun y hy => ?_⟩⟩
        rw [hy, nI_1, nI_clamp (by omega), hW j (by omega)]
        refine ih (j + 1) _ (by omega) e11 g e0 hN (fun k hk => hW k hk) (fun k hk => ?_)
        rw [mL_wL, if_pos rfl]
        unfold vp_updL
        by_cases c : k = j
        · rw [if_pos c, c]
        · rw [if_neg c]; exact hK k (by omega)
    refine ⟨st.2.1 + 1, main st.2.1 0 _ (by omega) e13 ⟨?_, F.1.2.1, ⟨_, hl, e13⟩, F.1.2.2.2.1, F.1.2.2.2.2⟩ rfl hN hW (fun k hk => absurd hk (Nat.not_lt_zero k))⟩
    show (1 : Int32) - mI τ 14 = _
    rw [F.1.1]; exact one_s hs
  have kok : ∀ b l W A E n τ, prsS (tkK L) (tkV L) 700 s0S = some (b, l, W, A, E, n) → ME L T σ s b l W A E n (n.2.2.2 || nbB (tkK L) (tkV L) A E l) τ → wB_X9_compile_72 post 1 τ := by
    intro b l W A E n τ hq g
    have eo : outS L = if n.2.2.2 || anyBad (tkK L) (tkV L) (b, l, W, A, E, n) l then none else some (b, l, W, A, E, n) := by
      unfold outS
      rw [hq]; rfl
    have efb : ((n.2.2.2 || nbB (tkK L) (tkV L) A E l) || naB (tkK L) (tkV L) A E n l) = (n.2.2.2 || anyBad (tkK L) (tkV L) (b, l, W, A, E, n) l) := by
      rw [any_split, Bool.or_assoc]
    refine ⟨fun z => absurd z (by decide), fun _ => em_resolve (a := b) (W := W) hs g.2.2.2.1.1 ⟨g.2.1, g.2.2.2.1.2, g.2.2.2.2.2.1, g.2.2.2.2.2.2.1, fun j hj q hA h1 => (g.2.2.2.2.1 j hj).2 q hA h1, g.2.2.2.2.2.2.2, fun _ j hj => ?_⟩ (fun τ r => ?_)⟩
    · rw [if_neg (Nat.not_lt_zero j)]; exact (g.2.2.2.2.1 j hj).1
    · rw [efb] at r
      refine k80 (b, l, W, A, E, n) _ τ g.2.2.2.1.1 g.2.2.2.2.2.1.1 r.1 r.2.1 r.2.2.1 r.2.2.2.2.2.1 (fun z => by rw [eo, z]; rfl) (fun z => ⟨by rw [eo, z]; rfl, fun j hj => ?_⟩)
      rw [r.2.2.2.2.2.2 z j hj, if_pos hj]
  have main : ∀ (d b l : Nat) (W : Nat → Int64) (A : Nat → Option Nat) (E : Nat → Nat) (n : NS) (τ : MS), L.length ≤ b + d → prsS (tkK L) (tkV L) 700 s0S = prsS (tkK L) (tkV L) d (b, l, W, A, E, n) → 2 * n.1 ≤ b → ME L T σ s b l W A E n (n.2.2.2 || nbB (tkK L) (tkV L) A E l) τ → wL_X9_compile_48 post (d + 2) 1 τ := by
    intro d
    induction d with
    | zero =>
      intro b l W A E n τ hd hq hn g
      obtain ⟨i9, e9⟩ := me_in g
      have h0 := tk_0 g.1 g.2.2.1.1
      have z0 : tkK L b = 0 := by unfold tkK; rw [getD_ge L (by omega)]
      show wB_X9_compile_48 post _ 1 τ
      unfold wB_X9_compile_48
      rw [e9]
      exact ⟨fun z => absurd z (by decide), fun _ => ⟨i9, fun _ => kok b l W A E n τ hq g, fun z => absurd (h0.mpr z0) z⟩⟩
    | succ d ih =>
      intro b l W A E n τ hd hq hn g
      have hq : prsS (tkK L) (tkV L) 700 s0S = if tkK L b = 0 then some (b, l, W, A, E, n) else (stmS (tkK L) (tkV L) (b, l, W, A, E, n)).bind (prsS (tkK L) (tkV L) d) := hq
      obtain ⟨i9, e9⟩ := me_in g
      have h0 := tk_0 g.1 g.2.2.1.1
      show wB_X9_compile_48 post _ 1 τ
      unfold wB_X9_compile_48
      rw [e9]
      refine ⟨fun z => absurd z (by decide), fun _ => ⟨i9, fun z => kok b l W A E n τ (by rw [hq, if_pos (h0.mp z)]) g, fun z => ?_⟩⟩
      rw [if_neg (fun w => z (h0.mpr w))] at hq
      refine em_readStatement hs hn g (fun hs' τ r => ?_) (fun b' l' W' A' E' m τ hs' hm g' => ?_)
      · have hnone : outS L = none := by unfold outS; rw [hq, hs']; rfl
        exact ⟨fun _ => ⟨fun _ => ⟨fun y => absurd y r.2, fun _ => k0 hnone _ r.1 rfl⟩, fun y => absurd rfl y⟩, fun y => absurd rfl y⟩
      · have hgt := stm_gt hs'
        have hgt : b < b' := hgt
        exact ih b' l' W' A' E' m τ (by omega) (by rw [hq, hs']; rfl) hm g'
  have e15 : mA (wA (wI (wI (wI (wI τ 2 0) 9 0) 13 0) 18 0) 15 (1 - s) 0) 15 = upd (mA σ 15) (1 - s) 0 := by
    rw [mA_wA, if_pos rfl]
    show upd (mA τ 15) _ _ = _
    rw [hA 15 (by decide) (by decide)]
  refine ⟨702, main 700 0 0 (fun _ => 0) (fun _ => none) (fun _ => 0) (0, fun _ => 0, fun _ => 0, false) _ (by omega) rfl (Nat.le_refl 0) ⟨⟨hL7, hTL, hco, e6, hbad, hno, hLk⟩, ⟨⟨e14, rfl, ?_, fun i => ⟨?_, ?_⟩, fun q hq => ?_⟩, ?_, ?_, ?_, fun i hi => ⟨?_, ?_⟩⟩, ⟨⟨Nat.zero_le _, ?_⟩, rfl⟩, ⟨by omega, rfl⟩, fun k hk => absurd hk (Nat.not_lt_zero k), ⟨by show 0 ≤ 350; omega, ?_, fun i hi => absurd hi (Nat.not_lt_zero i)⟩, rfl, ⟨fun _ => rfl, fun _ => ?_⟩⟩⟩
  · show ∃ z, z ≤ 64 ∧ mI τ 11 = nI z
    rw [hS.1 11 (by decide)]; exact h.2.2.1
  · show vp_in (mA τ 19 i) 65
    rw [hA 19 (by decide) (by decide)]; exact (h.2.2.2.1 i).1
  · show isB (mA τ 31 i)
    rw [hA 31 (by decide) (by decide)]; exact (h.2.2.2.1 i).2
  · rw [e15]
    by_cases e : q = 1 - s
    · rw [e, pk_us]; exact ⟨0, by omega, rfl⟩
    · rw [pk_un e]; exact h.2.2.2.2 q hq
  · show mI τ 11 = mI σ 11
    rw [hS.1 11 (by decide)]; rfl
  · show mL τ 10 = mL σ 10
    exact hLL 10 (by decide)
  · rw [e15, pk_un (by omega)]
  · show mL τ 16 _ = _
    rw [hLL 16 (by decide)]
  · show mL τ 17 _ = _
    rw [hLL 17 (by decide)]
  · rcases hbad with z | z
    · rcases Nat.eq_zero_or_pos T with y | y
      · exact Or.inr z
      · exact Or.inl y
    · exact Or.inl z.1
  · rw [e15, pk_us]; rfl
  · show mI τ 3 = 0
    rw [hS.1 3 (by decide)]; rfl
end MPD
