/-! what a TEXT is, as one meaning for both: its TOKENS -/
abbrev isSm (c : Int32) : Prop := ¬ c < 97 ∧ ¬ 122 < c
abbrev isDg (c : Int32) : Prop := ¬ c < 48 ∧ ¬ 57 < c
abbrev isSg (c : Int32) : Prop := c = 59 ∨ c = 58 ∨ c = 44 ∨ c = 64 ∨ c = 33 ∨ c = 61 ∨ c = 45 ∨ c = 40 ∨ c = 41 ∨ c = 43
abbrev Tok : Type := Int32 × Int64
def nmF (f : Nat → Int32) : Nat → Nat → Int64 → Nat × Int64
  | 0, j, v => (j, v)
  | d + 1, j, v => if isSm (f j) ∨ isDg (f j) then nmF f d (j + 1) ((v <<< ((8 : Int32).toInt64 &&& 63)) ||| (f j).toInt64) else (j, v)
def dgF (f : Nat → Int32) (p : Nat) : Nat → Nat → Int64 → Nat × Int64
  | 0, j, v => (j, v)
  | d + 1, j, v => if isDg (f j) then dgF f p d (j + 1) (if j - p < 10 then v * 10 + (f j - 48).toInt64 else v) else (j, v)
def tokN (f : Nat → Int32) (t p : Nat) : Tok := if 8 < (nmF f (t - p) p 0).1 - p then (3, 0) else (1, (nmF f (t - p) p 0).2)
def tokD (f : Nat → Int32) (t p : Nat) : Tok := if 10 < (dgF f p (t - p) p 0).1 - p ∨ 2147483648 < (dgF f p (t - p) p 0).2 then (3, 0) else (2, (dgF f p (t - p) p 0).2)
def toksS (f : Nat → Int32) (t : Nat) : Nat → Nat → List Tok
  | 0, _ => []
  | d + 1, p => if p < t then (if isSm (f p) then tokN f t p :: toksS f t d (nmF f (t - p) p 0).1 else if isDg (f p) then tokD f t p :: toksS f t d (dgF f p (t - p) p 0).1 else if f p = 32 then toksS f t d (p + 1) else (if isSg (f p) then f p else 3, 0) :: toksS f t d (p + 1)) else []
def toks (f : Nat → Int32) (t : Nat) : List Tok := toksS f t 700 0
def tkK (L : List Tok) (i : Nat) : Int32 := (L.getD i (0, 0)).1
def tkV (L : List Tok) (i : Nat) : Int64 := (L.getD i (0, 0)).2
theorem getD_lt (L : List Tok) (x : Tok) {i : Nat} (h : i < L.length) : (L ++ [x]).getD i (0, 0) = L.getD i (0, 0) := by
  rw [List.getD_eq_getElem?_getD, List.getD_eq_getElem?_getD, List.getElem?_append_left h]
theorem getD_eq (L : List Tok) (x : Tok) : (L ++ [x]).getD L.length (0, 0) = x := by
  rw [List.getD_eq_getElem?_getD, List.getElem?_append_right (Nat.le_refl _), Nat.sub_self]
  rfl
theorem getD_ge (L : List Tok) {i : Nat} (h : L.length ≤ i) : L.getD i (0, 0) = (0, 0) := by
  rw [List.getD_eq_getElem?_getD, List.getElem?_eq_none h]
  rfl
theorem nmF_ge (f : Nat → Int32) : ∀ (d j : Nat) (v : Int64), j ≤ (nmF f d j v).1 ∧ (nmF f d j v).1 ≤ j + d := by
  intro d
  induction d with
  | zero => intro j v; exact ⟨Nat.le_refl _, Nat.le_refl _⟩
  | succ d ih =>
    intro j v
    unfold nmF
    split
    · have := ih (j + 1) ((v <<< ((8 : Int32).toInt64 &&& 63)) ||| (f j).toInt64); omega
    · exact ⟨Nat.le_refl _, by show j ≤ j + (d + 1); omega⟩
theorem dgF_ge (f : Nat → Int32) (p : Nat) : ∀ (d j : Nat) (v : Int64), j ≤ (dgF f p d j v).1 ∧ (dgF f p d j v).1 ≤ j + d := by
  intro d
  induction d with
  | zero => intro j v; exact ⟨Nat.le_refl _, Nat.le_refl _⟩
  | succ d ih =>
    intro j v
    unfold dgF
    split
    · have := ih (j + 1) (if j - p < 10 then v * 10 + (f j - 48).toInt64 else v); omega
    · exact ⟨Nat.le_refl _, by show j ≤ j + (d + 1); omega⟩
theorem nmF_gt (f : Nat → Int32) {d j : Nat} {v : Int64} (hd : 0 < d) (h : isSm (f j)) : j < (nmF f d j v).1 := by
  obtain ⟨d, rfl⟩ : ∃ e, d = e + 1 := ⟨d - 1, by omega⟩
  unfold nmF
  rw [if_pos (Or.inl h)]
  have := nmF_ge f d (j + 1) ((v <<< ((8 : Int32).toInt64 &&& 63)) ||| (f j).toInt64)
  omega
theorem dgF_gt (f : Nat → Int32) (p : Nat) {d j : Nat} {v : Int64} (hd : 0 < d) (h : isDg (f j)) : j < (dgF f p d j v).1 := by
  obtain ⟨d, rfl⟩ : ∃ e, d = e + 1 := ⟨d - 1, by omega⟩
  unfold dgF
  rw [if_pos h]
  have := dgF_ge f p d (j + 1) (if j - p < 10 then v * 10 + (f j - 48).toInt64 else v)
  omega
/-! the class's TOKENS are these -/
theorem spx_isDigit {post : Int32 → Prop} {x : Int32} (h : post (bI (isDg x))) : wp_X6_isDigit post x := by
  unfold bI at h
  refine ⟨fun c => ⟨Or.inl rfl, ?_⟩, fun c => ⟨fun c2 => ⟨Or.inl rfl, ?_⟩, fun c2 => ⟨Or.inr rfl, ?_⟩⟩⟩
  · rw [if_neg (fun z => z.1 c)] at h; exact h
  · rw [if_neg (fun z => z.2 c2)] at h; exact h
  · rw [if_pos ⟨c, c2⟩] at h; exact h
theorem spx_isSmall {post : Int32 → Prop} {x : Int32} (h : post (bI (isSm x))) : wp_X6_isSmall post x := by
  unfold bI at h
  refine ⟨fun c => ⟨Or.inl rfl, ?_⟩, fun c => ⟨fun c2 => ⟨Or.inl rfl, ?_⟩, fun c2 => ⟨Or.inr rfl, ?_⟩⟩⟩
  · rw [if_neg (fun z => z.1 c)] at h; exact h
  · rw [if_neg (fun z => z.2 c2)] at h; exact h
  · rw [if_pos ⟨c, c2⟩] at h; exact h
theorem bI_pos {p : Prop} [Decidable p] (h : p) : bI p = 1 := if_pos h
theorem bI_neg {p : Prop} [Decidable p] (h : ¬ p) : bI p = 0 := if_neg h
/-- SIGNS.indexOf: whether it is one of them -/
theorem spx_signs {post : Int32 → Prop} {m : Nat} (hm : m < 127) (h0 : ¬ isSg (nI m) → ∀ r, r < 0 → post r) (h1 : isSg (nI m) → ∀ r, ¬ r < 0 → post r) : wp_J0_indexOf_0f7a4 post 71 (nI m) := by
  have he : (71 : Nat) < nX := by decide
  have e8 : (nI m).toInt8.toInt32 = nI m := co_dec (N := 127) (P := fun m => (nI m).toInt8.toInt32 = nI m) (by decide +kernel) hm
  have hlen : lenX.getD 71 0 = 10 := by decide +kernel
  have hb : ∀ j, j < 10 → (bytX.getD 71 []).getD j 0 = ([59, 58, 44, 64, 33, 61, 45, 40, 41, 43] : List Int32).getD j 0 := by decide +kernel
  have hin : ∀ j, j < 10 → isSg (([59, 58, 44, 64, 33, 61, 45, 40, 41, 43] : List Int32).getD j 0) := by decide +kernel
  have hout : isSg (nI m) → ∃ j, j < 10 ∧ ([59, 58, 44, 64, 33, 61, 45, 40, 41, 43] : List Int32).getD j 0 = nI m := by
    intro q
    rcases q with e | e | e | e | e | e | e | e | e | e
    · exact ⟨0, by omega, e.symm⟩
    · exact ⟨1, by omega, e.symm⟩
    · exact ⟨2, by omega, e.symm⟩
    · exact ⟨3, by omega, e.symm⟩
    · exact ⟨4, by omega, e.symm⟩
    · exact ⟨5, by omega, e.symm⟩
    · exact ⟨6, by omega, e.symm⟩
    · exact ⟨7, by omega, e.symm⟩
    · exact ⟨8, by omega, e.symm⟩
    · exact ⟨9, by omega, e.symm⟩
  have main : ∀ (d j : Nat), j + d = 10 → (∀ i, i < j → ¬ ([59, 58, 44, 64, 33, 61, 45, 40, 41, 43] : List Int32).getD i 0 = nI m) → wL_J1_indexOfChar_4cfef_7 post (d + 1) 71 (nI 10) (nI m) (nI j) := by
    intro d
    induction d with
    | zero =>
      intro j hj hno
      refine ⟨fun _ => h0 (fun q => ?_) _ (by decide), fun z => absurd (nI_le (by omega) (by omega)) z⟩
      obtain ⟨i, hi, e⟩ := hout q
      exact hno i (by omega) e
    | succ d ih =>
      intro j hj hno
      have ej : (nI j).toNatClampNeg = j := nI_clamp (by omega)
      refine ⟨fun z => absurd z (nI_ge (by omega) (by decide)), fun _ => ⟨he, by rw [hlen]; exact vp_in_nI (by omega) (by decide), fun e => ?_, fun ne => fun z hz => ?_⟩⟩
      · rw [ej, hb j (by omega)] at e
        exact h1 (by rw [← e]; exact hin j (by omega)) _ (nI_pos (by omega))
      · rw [ej, hb j (by omega)] at ne
        rw [hz, nI_1]
        exact ih (j + 1) (by omega) (fun i hi => by
          rcases Nat.lt_or_ge i j with q | q
          · exact hno i q
          · rw [show i = j by omega]; exact ne)
  refine ⟨he, he, fun z => absurd z (by decide), fun _ => ⟨he, fun _ => ⟨Or.inr rfl, fun z => absurd z (by decide), fun _ => ⟨he, he, x_len he ?_⟩⟩, fun z => absurd rfl z⟩⟩
  rw [hlen]
  have p0 : ¬ nI m < 0 := nI_pos (by omega)
  have p255 : ¬ 255 < nI m := nI_nlt (a := 255) (b := m) (by omega) (by decide)
  have eL : Int32.ofNat (lenX.getD 71 0) = nI 10 := by rw [hlen]; rfl
  refine ⟨fun z => absurd z p0, fun _ => ⟨fun z => absurd z p255, fun _ => ⟨Or.inr rfl, fun z => absurd z (by decide), fun _ => ⟨fun z => absurd z (by decide), fun _ => ⟨he, ?_⟩⟩⟩⟩⟩
  rw [eL]
  refine ⟨fun z => absurd z (by decide), fun _ => ⟨fun _ => fun x hx => ⟨11, ?_⟩, fun z => absurd (by decide) z⟩⟩
  rw [hx, e8]
  exact main 10 0 rfl (fun i hi => by omega)
/-- the TOKENS so far -/
def TKX (L : List Tok) (σ : XS) : Prop := xI σ 4 = nI L.length ∧ ∀ i, i < L.length → xA σ 1 i = tkK L i ∧ (¬ tkK L i = 3 → xL σ 0 i = tkV L i)
/-- all but the TOKENS is as it was -/
def XSame (σ0 σ : XS) : Prop := (∀ k, k ≠ 4 → k ≠ 5 → xI σ k = xI σ0 k) ∧ (∀ k, k ≠ 1 → k ≠ 2 → xA σ k = xA σ0 k) ∧ (∀ k, k ≠ 0 → xL σ k = xL σ0 k) ∧ ∀ k, xQ σ k = xQ σ0 k
theorem XSame.refl (σ : XS) : XSame σ σ := ⟨fun _ _ _ => rfl, fun _ _ _ => rfl, fun _ _ => rfl, fun _ => rfl⟩
section XTX
variable {σ0 σ : XS} {t : Nat} {L : List Tok}
theorem spx_put {post : XS → Prop} {x y : Int32} {v u : Int64} (hS : XSame σ0 σ) (h : TKX L σ) (hL : L.length ≤ 700) (hv : ¬ x = 3 → v = u) (k : ∀ τ, XSame σ0 τ → TKX (L ++ [(x, u)]) τ → post τ) : wp_X6_put post x y v σ := by
  have e4 := h.1
  have i4 : vp_in (xI σ 4) 701 := by rw [e4]; exact vp_in_nI (by omega) (by decide)
  refine ⟨fun _ => ⟨i4, i4, i4, ?_⟩, fun z => absurd (by rw [e4]; exact nI_le (a := L.length) (b := 700) hL (by decide)) z⟩
  have ec : (xI σ 4).toNatClampNeg = L.length := by rw [e4, nI_clamp (by omega)]
  rw [ec]
  refine k _ ⟨fun j h4 h5 => ?_, fun j h1 h2 => ?_, fun j hj => ?_, fun j => ?_⟩ ⟨?_, fun i hi => ?_⟩
  · rw [xI_yI, if_neg h4, xI_yL, xI_yA, xI_yA]; exact hS.1 j h4 h5
  · rw [xA_yI, xA_yL, xA_yA, if_neg h2, xA_yA, if_neg h1]; exact hS.2.1 j h1 h2
  · rw [xL_yI, xL_yL, if_neg hj, xL_yA, xL_yA]; exact hS.2.2.1 j hj
  · rw [xQ_yI, xQ_yL, xQ_yA, xQ_yA]; exact hS.2.2.2 j
  · show xI σ 4 + 1 = _
    rw [e4, nI_1, List.length_append]; rfl
  · have eA : xA (yI (yL (yA (yA σ 1 L.length x) 2 L.length y) 0 L.length v) 4 (xI σ 4 + 1)) 1 = upd (xA σ 1) L.length x := by
      rw [xA_yI, xA_yL, xA_yA, if_neg (by decide), xA_yA, if_pos rfl]
    have eL : xL (yI (yL (yA (yA σ 1 L.length x) 2 L.length y) 0 L.length v) 4 (xI σ 4 + 1)) 0 = vp_updL (xL σ 0) L.length v := by
      rw [xL_yI, xL_yL, if_pos rfl, xL_yA, xL_yA]
    rw [eA, eL]
    unfold tkK tkV
    rw [List.length_append] at hi
    have hi : i < L.length + 1 := hi
    by_cases e : i = L.length
    · subst e
      rw [getD_eq, pk_us]
      exact ⟨rfl, fun q => by unfold vp_updL; rw [if_pos rfl]; exact hv q⟩
    · rw [getD_lt L _ (by omega), pk_un e]
      refine ⟨(h.2 i (by omega)).1, fun q => ?_⟩
      unfold vp_updL
      rw [if_neg e]
      exact (h.2 i (by omega)).2 q
variable {f : Nat → Int32}
theorem spx_takeName {post : Int32 → XS → Prop} {p : Nat} (ht : t ≤ 700) (hp : p < t) (hS : XSame σ0 σ) (h0 : xI σ0 0 = nI t) (hf : ∀ i, i < t → xA σ0 0 i = f i) (h : TKX L σ) (hL : L.length ≤ 700) (k : ∀ τ, XSame σ0 τ → TKX (L ++ [tokN f t p]) τ → post (nI (nmF f (t - p) p 0).1) τ) : wp_X6_takeName post (nI p) σ := by
  have e0 : xI σ 0 = nI t := by rw [hS.1 0 (by decide) (by decide)]; exact h0
  have ef : ∀ i, i < t → xA σ 0 i = f i := fun i hi => by rw [hS.2.1 0 (by decide) (by decide)]; exact hf i hi
  have main : ∀ (d j : Nat) (v : Int64), j + d = t → p ≤ j → nmF f (t - p) p 0 = nmF f d j v → wL_X6_takeName_5 post (d + 1) (nI p) v (nI j) σ := by
    intro d
    induction d with
    | zero =>
      intro j v hj hpj hq
      have k72 : wB_X6_takeName_72 post (nI p) v (nI j) σ := by
        have hr : nmF f (t - p) p 0 = (j, v) := hq
        rw [hr] at k
        have hd : nI j - nI p = nI (j - p) := pk_sub hpj
        refine ⟨fun q => ?_, fun q => ?_⟩
        · rw [hd] at q
          have q : 8 < j - p := (nI_ltI (a := 8) (by decide) (by omega)).mp q
          have et : tokN f t p = (3, 0) := by unfold tokN; rw [hr]; exact if_pos q
          exact spx_put hS h hL (fun z => absurd rfl z) (fun τ hS h => k τ hS (by rw [et]; exact h))
        · rw [hd] at q
          have q : ¬ 8 < j - p := fun z => q ((nI_ltI (a := 8) (by decide) (by omega)).mpr z)
          have et : tokN f t p = (1, v) := by unfold tokN; rw [hr]; exact if_neg q
          exact spx_put hS h hL (fun _ => rfl) (fun τ hS h => k τ hS (by rw [et]; exact h))
      exact ⟨fun _ => k72, fun z => absurd (by rw [e0]; exact nI_le (by omega) (by omega)) z⟩
    | succ d ih =>
      intro j v hj hpj hq
      have ij : vp_in (nI j) 700 := vp_in_nI (by omega) (by decide)
      have ej : (nI j).toNatClampNeg = j := nI_clamp (by omega)
      have k72 : ¬ (isSm (f j) ∨ isDg (f j)) → wB_X6_takeName_72 post (nI p) v (nI j) σ := by
        intro hno
        have hr : nmF f (t - p) p 0 = (j, v) := by rw [hq]; unfold nmF; exact if_neg hno
        rw [hr] at k
        have hd : nI j - nI p = nI (j - p) := pk_sub hpj
        refine ⟨fun q => ?_, fun q => ?_⟩
        · rw [hd] at q
          have q : 8 < j - p := (nI_ltI (a := 8) (by decide) (by omega)).mp q
          have et : tokN f t p = (3, 0) := by unfold tokN; rw [hr]; exact if_pos q
          exact spx_put hS h hL (fun z => absurd rfl z) (fun τ hS h => k τ hS (by rw [et]; exact h))
        · rw [hd] at q
          have q : ¬ 8 < j - p := fun z => q ((nI_ltI (a := 8) (by decide) (by omega)).mpr z)
          have et : tokN f t p = (1, v) := by unfold tokN; rw [hr]; exact if_neg q
          exact spx_put hS h hL (fun _ => rfl) (fun τ hS h => k τ hS (by rw [et]; exact h))
      have k49 : (isSm (f j) ∨ isDg (f j)) → wB_X6_takeName_49 post (wL_X6_takeName_5 post (d + 1)) (nI p) v (nI j) σ := by
        intro hy
        refine ⟨ij, fun u hu w hw => ?_⟩
        rw [hw, nI_1]
        refine ih (j + 1) u (by omega) (by omega) ?_
        rw [hq, hu, ej, ef j (by omega)]
        show (if isSm (f j) ∨ isDg (f j) then _ else _) = _
        rw [if_pos hy]
      refine ⟨fun z => absurd z (by rw [e0]; exact nI_ge (by omega) (by omega)), fun _ => ⟨ij, ?_⟩⟩
      rw [ej, ef j (by omega)]
      refine spx_isSmall ?_
      by_cases c1 : isSm (f j)
      · rw [bI_pos c1]; exact ⟨fun z => absurd z (by decide), fun _ => k49 (Or.inl c1)⟩
      · rw [bI_neg c1]
        refine ⟨fun _ => ⟨ij, spx_isDigit ?_⟩, fun z => absurd rfl z⟩
        by_cases c2 : isDg (f j)
        · rw [bI_pos c2]; exact ⟨fun z => absurd z (by decide), fun _ => k49 (Or.inr c2)⟩
        · rw [bI_neg c2]; exact ⟨fun _ => k72 (fun q => q.elim c1 c2), fun z => absurd rfl z⟩
  exact ⟨t - p + 1, main (t - p) p 0 (by omega) (Nat.le_refl p) rfl⟩
theorem spx_takeNumber {post : Int32 → XS → Prop} {p : Nat} (ht : t ≤ 700) (hp : p < t) (hS : XSame σ0 σ) (h0 : xI σ0 0 = nI t) (hf : ∀ i, i < t → xA σ0 0 i = f i) (h : TKX L σ) (hL : L.length ≤ 700) (k : ∀ τ, XSame σ0 τ → TKX (L ++ [tokD f t p]) τ → post (nI (dgF f p (t - p) p 0).1) τ) : wp_X6_takeNumber post (nI p) σ := by
  have e0 : xI σ 0 = nI t := by rw [hS.1 0 (by decide) (by decide)]; exact h0
  have ef : ∀ i, i < t → xA σ 0 i = f i := fun i hi => by rw [hS.2.1 0 (by decide) (by decide)]; exact hf i hi
  have fin : ∀ (j : Nat) (v : Int64), p ≤ j → j ≤ t → dgF f p (t - p) p 0 = (j, v) → wB_X6_takeNumber_69 post (nI p) v (nI j) σ := by
    intro j v hpj hjt hr
    rw [hr] at k
    have hd : nI j - nI p = nI (j - p) := pk_sub hpj
    have kb : (10 < j - p ∨ 2147483648 < v) → wB_X6_takeNumber_90 post (nI p) v (nI j) σ := fun q => ⟨fun _ => by
      have et : tokD f t p = (3, 0) := by unfold tokD; rw [hr]; exact if_pos q
      exact spx_put hS h hL (fun z => absurd rfl z) (fun τ hS h => k τ hS (by rw [et]; exact h)), fun z => absurd rfl z⟩
    refine ⟨fun q => ?_, fun q => ⟨fun q2 => kb (Or.inr q2), fun q2 => ⟨fun z => absurd z (by decide), fun _ => ?_⟩⟩⟩
    · rw [hd] at q
      exact kb (Or.inl ((nI_ltI (a := 10) (by decide) (by omega)).mp q))
    · rw [hd] at q
      have q : ¬ 10 < j - p := fun z => q ((nI_ltI (a := 10) (by decide) (by omega)).mpr z)
      have et : tokD f t p = (2, v) := by unfold tokD; rw [hr]; exact if_neg (fun z => z.elim q q2)
      exact spx_put hS h hL (fun _ => rfl) (fun τ hS h => k τ hS (by rw [et]; exact h))
  have main : ∀ (d j : Nat) (v : Int64), j + d = t → p ≤ j → dgF f p (t - p) p 0 = dgF f p d j v → wL_X6_takeNumber_5 post (d + 1) (nI p) v (nI j) σ := by
    intro d
    induction d with
    | zero =>
      intro j v hj hpj hq
      exact ⟨fun _ => fin j v hpj (by omega) hq, fun z => absurd (by rw [e0]; exact nI_le (by omega) (by omega)) z⟩
    | succ d ih =>
      intro j v hj hpj hq
      have ij : vp_in (nI j) 700 := vp_in_nI (by omega) (by decide)
      have ej : (nI j).toNatClampNeg = j := nI_clamp (by omega)
      have hd : nI j - nI p = nI (j - p) := pk_sub hpj
      have e10 : (10 ≤ nI j - nI p) ↔ ¬ j - p < 10 := by
        rw [hd]
        constructor
        · intro z y
          exact nI_ge (a := j - p) (b := 10) y (by decide) z
        · intro z
          exact nI_le (a := 10) (b := j - p) (by omega) (by omega)
      refine ⟨fun z => absurd z (by rw [e0]; exact nI_ge (by omega) (by omega)), fun _ => ⟨ij, ?_⟩⟩
      rw [ej, ef j (by omega)]
      refine spx_isDigit ?_
      by_cases c1 : isDg (f j)
      · have k63 : ∀ u, u = (if j - p < 10 then v * 10 + (f j - 48).toInt64 else v) → wB_X6_takeNumber_63 post (wL_X6_takeNumber_5 post (d + 1)) (nI p) u (nI j) σ := fun u hu w hw => by
          rw [hw, nI_1]
          refine ih (j + 1) u (by omega) (by omega) ?_
          rw [hq, hu]
          show (if isDg (f j) then _ else _) = _
          rw [if_pos c1]
        rw [bI_pos c1]
        refine ⟨fun z => absurd z (by decide), fun _ => ⟨fun q => k63 v (if_neg (e10.mp q)).symm, fun q => ⟨ij, fun u hu => k63 u ?_⟩⟩⟩
        rw [if_pos (by
          rcases Nat.lt_or_ge (j - p) 10 with r | r
          · exact r
          · exact absurd (e10.mpr (by omega)) q)]
        exact hu
      · rw [bI_neg c1]
        refine ⟨fun _ => fin j v hpj (by omega) ?_, fun z => absurd rfl z⟩
        rw [hq]
        exact if_neg c1
  exact ⟨t - p + 1, main (t - p) p 0 (by omega) (Nat.le_refl p) rfl⟩
theorem spx_scan {post : XS → Prop} (ht : t ≤ 700) (h0 : xI σ 0 = nI t) (hf : ∀ i, i < t → xA σ 0 i = f i) (hc : ∀ i, i < t → ∃ m, m < 127 ∧ f i = nI m) (k : ∀ τ, XSame σ τ → xI τ 5 = 0 → TKX (toks f t ++ [(0, 0)]) τ → (toks f t).length ≤ 700 → post τ) : wp_X6_scan post σ := by
  have k104 : ∀ L τ, L.length ≤ 700 → L = toks f t → XSame σ τ → TKX L τ → wB_X6_scan_104 post τ := fun L τ hL e hS h => spx_put (u := 0) hS h hL (fun _ => rfl) (fun τ hS h => k _ ⟨fun j h4 h5 => by rw [xI_yI, if_neg h5]; exact hS.1 j h4 h5, hS.2.1, hS.2.2.1, hS.2.2.2⟩ rfl (by rw [← e]; exact h) (by rw [← e]; exact hL))
  have main : ∀ (d j p : Nat) (L : List Tok) (τ : XS), j + d = 700 → p ≤ t → t ≤ p + d → L.length ≤ p → L ++ toksS f t d p = toks f t → XSame σ τ → TKX L τ → wL_X6_scan_9 post (d + 1) (nI p) (nI j) τ := by
    intro d
    induction d with
    | zero =>
      intro j p L τ hj hp hpd hL he hS h
      have : L = toks f t := by rw [← he]; exact (List.append_nil L).symm
      exact ⟨fun _ => k104 L τ (by omega) this hS h, fun z => absurd (show (700 : Int32) ≤ nI j by rw [show j = 700 by omega]; decide) z⟩
    | succ d ih =>
      intro j p L τ hj hp hpd hL he hS h
      have e0 : xI τ 0 = nI t := by rw [hS.1 0 (by decide) (by decide)]; exact h0
      refine ⟨fun z => absurd z (nI_ge (a := j) (b := 700) (by omega) (by decide)), fun _ => ⟨fun z => ?_, fun z => ?_⟩⟩
      · rw [e0] at z
        have hpt : p = t := by
          rcases Nat.lt_or_ge p t with q | q
          · exact absurd z (nI_ge q (by omega))
          · omega
        have : L = toks f t := by
          rw [← he]
          show L = L ++ (if p < t then _ else [])
          rw [if_neg (by omega)]
          exact (List.append_nil L).symm
        exact k104 L τ (by omega) this hS h
      · rw [e0] at z
        have hpt : p < t := nI_nle' (by omega) z
        have ep : (nI p).toNatClampNeg = p := nI_clamp (by omega)
        obtain ⟨m, hm, em⟩ := hc p hpt
        have k98 : ∀ q L τ, p < q → q ≤ t → L.length ≤ q → L ++ toksS f t d q = toks f t → XSame σ τ → TKX L τ → wB_X6_scan_98 post (wL_X6_scan_9 post (d + 1)) (nI q) (nI j) τ := fun q L τ h1 h2 hL he hS h w hw => by
          rw [hw, nI_1]
          exact ih (j + 1) q L τ (by omega) h2 (by omega) hL he hS h
        refine ⟨vp_in_nI (by omega) (by decide), fun c hcq => ?_⟩
        rw [ep, hS.2.1 0 (by decide) (by decide), hf p hpt] at hcq
        rw [hcq]
        have hun : toksS f t (d + 1) p = (if isSm (f p) then tokN f t p :: toksS f t d (nmF f (t - p) p 0).1 else if isDg (f p) then tokD f t p :: toksS f t d (dgF f p (t - p) p 0).1 else if f p = 32 then toksS f t d (p + 1) else (if isSg (f p) then f p else 3, 0) :: toksS f t d (p + 1)) := if_pos hpt
        refine spx_isSmall ?_
        by_cases c1 : isSm (f p)
        · rw [bI_pos c1]
          rw [if_pos c1] at hun
          have h1 := nmF_gt f (d := t - p) (v := 0) (by omega) c1
          have h2 := nmF_ge f (t - p) p 0
          refine ⟨fun z => absurd z (by decide), fun _ => spx_takeName ht hpt hS h0 hf h (by omega) (fun τ hS h => k98 _ _ τ h1 (by omega) (by rw [List.length_append]; show L.length + 1 ≤ _; omega) ?_ hS h)⟩
          rw [← he, hun, List.append_assoc]; rfl
        · rw [bI_neg c1]
          rw [if_neg c1] at hun
          refine ⟨fun _ => spx_isDigit ?_, fun z => absurd rfl z⟩
          by_cases c2 : isDg (f p)
          · rw [bI_pos c2]
            rw [if_pos c2] at hun
            have h1 := dgF_gt f p (d := t - p) (v := 0) (by omega) c2
            have h2 := dgF_ge f p (t - p) p 0
            refine ⟨fun z => absurd z (by decide), fun _ => spx_takeNumber ht hpt hS h0 hf h (by omega) (fun τ hS h => k98 _ _ τ h1 (by omega) (by rw [List.length_append]; show L.length + 1 ≤ _; omega) ?_ hS h)⟩
            rw [← he, hun, List.append_assoc]; rfl
          · rw [bI_neg c2]
            rw [if_neg c2] at hun
            have k95 : ∀ L τ, L.length ≤ p + 1 → L ++ toksS f t d (p + 1) = toks f t → XSame σ τ → TKX L τ → wB_X6_scan_95 post (wL_X6_scan_9 post (d + 1)) (nI p) (nI j) τ := fun L τ hL he hS h w hw => by
              rw [hw, nI_1]
              exact k98 (p + 1) L τ (by omega) (by omega) hL he hS h
            refine ⟨fun _ => ⟨fun e32 => ?_, fun n32 => ⟨by decide, ?_⟩⟩, fun z => absurd rfl z⟩
            · rw [if_pos e32] at hun
              exact k95 L τ (by omega) (by rw [← he, hun]) hS h
            · rw [if_neg n32] at hun
              have k90 : ∀ v, v = (if isSg (f p) then f p else 3) → wB_X6_scan_90 post (wL_X6_scan_9 post (d + 1)) (nI p) (nI j) v τ := fun v hv => spx_put (u := 0) hS h (by omega) (fun _ => rfl) (fun τ hS h => k95 _ τ (by rw [List.length_append]; show L.length + 1 ≤ _; omega) (by rw [← he, hun, List.append_assoc, hv]; rfl) hS h)
              rw [em]
              refine spx_signs hm (fun ns r hr => ⟨fun _ => k90 3 ?_, fun z => absurd hr z⟩) (fun sg r hr => ⟨fun z => absurd z hr, fun _ => k90 (nI m) ?_⟩)
              · rw [em, if_neg ns]
              · rw [em, if_pos sg]
  refine ⟨701, main 700 0 0 [] (yI σ 4 0) rfl (by omega) (by omega) (Nat.le_refl 0) rfl ⟨fun k h4 _ => ?_, fun k _ _ => rfl, fun k _ => rfl, fun k => rfl⟩ ⟨rfl, fun i hi => absurd hi (Nat.not_lt_zero i)⟩⟩
  rw [xI_yI, if_neg h4]
end XTX
