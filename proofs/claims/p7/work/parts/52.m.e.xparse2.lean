/-! the class's parser: WORDS, statements, the whole -/
def P5 (P : XS → Prop) : Prop := ∀ v τ, P τ → P (yI τ 5 v)
section XPF
variable {L : List Tok} {σ0 σ : XS} {a l : Nat} {W : Nat → Int64} {A : Nat → Option Nat} {E : Nat → Nat} {n : NS} {post : Int32 → XS → Prop} {P : XS → Prop}
theorem xp_advance {post : XS → Prop} (hP : P5 P) (p : P σ) (h : XE L σ0 a l W A E n σ) (hk : ¬ tkK L a = 0) (k : ∀ τ, XE L σ0 (a + 1) l W A E n τ → P τ → post τ) : wp_X6_advance post σ := by
  have := tk_lt hk
  exact k _ (xe_go h (by omega) (by rw [(xe_at h).1, nI_1])) (hP _ _ p)
theorem xp_passAmount (hP : P5 P) (p : P σ) (h : XE L σ0 a l W A E n σ) (k0 : pasS (tkK L) a = none → ∀ b τ, XE L σ0 b l W A E n τ → P τ → post 0 τ) (k1 : ∀ b τ, pasS (tkK L) a = some b → XE L σ0 b l W A E n τ → P τ → post 1 τ) : wp_X3_passAmount post σ := by
  have k19 : ∀ τ, XE L σ0 (amA (tkK L) a) l W A E n τ → P τ → wB_X3_passAmount_19 post τ := fun τ g p => by
    have k43 : (tkK L (amA (tkK L) a) = 1 ∨ tkK L (amA (tkK L) a) = 2) → wB_X3_passAmount_43 post τ := fun q => xp_advance hP p g (by rcases q with e | e <;> rw [e] <;> decide) (fun τ g p => k1 _ τ (if_pos q) g p)
    exact xe_kind g ⟨fun q => k43 (Or.inl q), fun q => xe_kind g ⟨fun q2 => k43 (Or.inr q2), fun q2 => k0 (if_neg (fun z => z.elim q q2)) _ τ g p⟩⟩
  exact xe_kind h ⟨fun q => xp_advance hP p h (by rw [q]; decide) (fun τ g p => k19 τ (by rw [show amA (tkK L) a = a + 1 from if_pos q]; exact g) p), fun q => k19 σ (by rw [show amA (tkK L) a = a from if_neg q]; exact h) p⟩
theorem xe_numbered {x : Int32} {m : Nat} (hm : m ≤ 15) (h : XE L σ0 a l W A E n σ) (k0 : regS (tkK L) (tkV L) x m a = none → post (-1) σ) (k1 : ∀ i, regS (tkK L) (tkV L) x m a = some i → i ≤ m → ¬ tkK L a = 0 → post (nI i) σ) : wp_X6_numbered post x (nI m) σ := by
  refine xe_kind h ⟨fun q => ?_, fun q => k0 (by unfold regS; exact if_neg q)⟩
  have er : regS (tkK L) (tkV L) x m a = regF x (tkV L a) (m + 1) 0 := if_pos q
  rw [er] at k0 k1
  have main : ∀ (d j : Nat), j + d = m + 1 → regF x (tkV L a) (m + 1) 0 = regF x (tkV L a) d j → wL_X6_numbered_12 post (d + 1) x (nI m) (nI j) σ := by
    intro d
    induction d with
    | zero => intro j hj hq; exact ⟨fun _ => k0 hq, fun z => absurd (nI_lt (show m < j by omega) (by omega)) z⟩
    | succ d ih =>
      intro j hj hq
      refine ⟨fun z => absurd z (Int32.not_lt.mpr (nI_le (by omega) (by omega))), fun _ => xe_value h (by rw [q]; decide) ?_⟩
      have fin : (tkV L a = kyC x j → post (nI j) σ) ∧ (¬ tkV L a = kyC x j → ∀ y : Int32, y = nI j + 1 → wL_X6_numbered_12 post (d + 1) x (nI m) y σ) := ⟨fun e => k1 j (by rw [hq]; exact if_pos e) (by omega) (by rw [q]; decide), fun e y hy => by rw [hy, nI_1]; exact ih (j + 1) (by omega) (by rw [hq]; exact if_neg e)⟩
      unfold kyC at fin
      intro u hu
      refine ⟨fun c => ?_, fun c => ?_⟩
      · rw [if_pos c] at fin; rw [hu]; exact fin
      · rw [if_neg c] at fin; rw [hu]; exact fin
  exact ⟨m + 2, main (m + 1) 0 (by omega) rfl⟩
theorem shF {c : Int32} (h : ¬ shC c = (-1)) (n1 : ¬ c = 110) (n2 : ¬ c = 116) : isRg c ∨ (c = 68 ∨ c = 65 ∨ c = 66 ∨ c = 113) := by
  unfold shC at h
  by_cases e1 : c = 100
  · exact Or.inl (Or.inl e1)
  by_cases e2 : c = 68
  · exact Or.inr (Or.inl e2)
  by_cases e3 : c = 97
  · exact Or.inl (Or.inr (Or.inl e3))
  by_cases e4 : c = 65
  · exact Or.inr (Or.inr (Or.inl e4))
  by_cases e5 : c = 98
  · exact Or.inl (Or.inr (Or.inr e5))
  by_cases e6 : c = 66
  · exact Or.inr (Or.inr (Or.inr (Or.inl e6)))
  by_cases e7 : c = 113
  · exact Or.inr (Or.inr (Or.inr (Or.inr e7)))
  rw [if_neg e1, if_neg e2, if_neg e3, if_neg e4, if_neg e5, if_neg e6, if_neg e7, if_neg n1, if_neg n2] at h
  exact absurd rfl h
theorem shift_ne (c : Int32) (hc : isRg c ∨ (c = 68 ∨ c = 65 ∨ c = 66 ∨ c = 113)) {i : Nat} (hi : i ≤ 15) : ¬ ((nI i).toInt64 <<< ((shC c).toInt64 &&& 63)) = (-1) := by
  rcases hc with (e | e | e) | e | e | e | e <;> subst e
  · exact co_dec (N := 16) (P := fun i => ¬ ((nI i).toInt64 <<< ((shC 100).toInt64 &&& 63)) = (-1)) (by decide +kernel) (by omega)
  · exact co_dec (N := 16) (P := fun i => ¬ ((nI i).toInt64 <<< ((shC 97).toInt64 &&& 63)) = (-1)) (by decide +kernel) (by omega)
  · exact co_dec (N := 16) (P := fun i => ¬ ((nI i).toInt64 <<< ((shC 98).toInt64 &&& 63)) = (-1)) (by decide +kernel) (by omega)
  · exact co_dec (N := 16) (P := fun i => ¬ ((nI i).toInt64 <<< ((shC 68).toInt64 &&& 63)) = (-1)) (by decide +kernel) (by omega)
  · exact co_dec (N := 16) (P := fun i => ¬ ((nI i).toInt64 <<< ((shC 65).toInt64 &&& 63)) = (-1)) (by decide +kernel) (by omega)
  · exact co_dec (N := 16) (P := fun i => ¬ ((nI i).toInt64 <<< ((shC 66).toInt64 &&& 63)) = (-1)) (by decide +kernel) (by omega)
  · exact co_dec (N := 16) (P := fun i => ¬ ((nI i).toInt64 <<< ((shC 113).toInt64 &&& 63)) = (-1)) (by decide +kernel) (by omega)
theorem mostRP {post : Int32 → Prop} {c : Int32} (hc : isRg c ∨ (c = 68 ∨ c = 65 ∨ c = 66 ∨ c = 113)) (h : post (nI (if isRg c then 15 else 3))) : wp_X2_mostOf post c := by
  refine spx_isRegister ?_
  by_cases q : isRg c
  · rw [if_pos q] at h
    rw [bI_pos q]
    exact ⟨fun z => absurd z (by decide), fun _ => h⟩
  · rw [if_neg q] at h
    rw [bI_neg q]
    refine ⟨fun _ => spx_isPredicate ?_, fun z => absurd rfl z⟩
    rw [bI_pos (hc.resolve_left q)]
    exact ⟨fun z => absurd z (by decide), fun _ => h⟩
/-- what is noted of the WORD that is being read -/
def SL (l : Nat) (o : Option Nat) (e : Nat) (σ : XS) : Prop := xA σ 3 l = amI o ∧ xQ σ 0 l = some e
theorem sl5 {o : Option Nat} {e : Nat} : P5 (SL l o e) := fun _ _ p => p
theorem fr_slotA {v : Int32} (hv : v = (-1) ∨ ∃ m, m ≤ 1000000 ∧ v = nI m) (h : XFr σ0 σ) : XFr σ0 (yA σ 3 l v) := by
  obtain ⟨h1, h2, h3, h4, h5, h6, h7, h8, h9, h10, h11⟩ := h
  refine ⟨h1, h2, h3, ?_, ?_, ?_, h7, h8, h9, h10, h11.1, fun i => ?_⟩
  · rw [xA_yA, if_neg (by decide)]; exact h4
  · rw [xA_yA, if_neg (by decide)]; exact h5
  · rw [xA_yA, if_neg (by decide)]; exact h6
  · rw [xA_yA, if_pos rfl]
    by_cases e : i = l
    · rw [e, pk_us]; exact hv
    · rw [pk_un e]; exact h11.2 i
theorem fr_slotQ {e : Nat} (he : e < 53) (h : XFr σ0 σ) : XFr σ0 (yQ σ 0 l (some e)) := by
  obtain ⟨h1, h2, h3, h4, h5, h6, h7, h8, h9, h10, h11⟩ := h
  refine ⟨h1, h2, h3, h4, h5, h6, h7, h8, h9, ?_, fun i e' he' => ?_, h11.2⟩
  · rw [xQ_yQ, if_neg (by decide)]; exact h10
  · rw [xQ_yQ, if_pos rfl] at he'
    unfold va_up at he'
    by_cases q : i = l
    · rw [if_pos q] at he'; cases he'; exact he
    · rw [if_neg q] at he'; exact h11.1 i e' he'
theorem xe_slotA {v : Int32} (hv : v = (-1) ∨ ∃ m, m ≤ 1000000 ∧ v = nI m) (h : XE L σ0 a l W A E n σ) : XE L σ0 a l W A E n (yA σ 3 l v) := by
  refine ⟨h.1, fr_slotA hv h.2.1, h.2.2.1, h.2.2.2.1, fun k hk => ?_, h.2.2.2.2.2⟩
  have := h.2.2.2.2.1 k hk
  refine ⟨this.1, ?_, this.2.2⟩
  rw [xA_yA, if_pos rfl, pk_un (by omega)]
  exact this.2.1
theorem xe_slotQ {e : Nat} (he : e < 53) (h : XE L σ0 a l W A E n σ) : XE L σ0 a l W A E n (yQ σ 0 l (some e)) := by
  refine ⟨h.1, fr_slotQ he h.2.1, h.2.2.1, h.2.2.2.1, fun k hk => ?_, h.2.2.2.2.2⟩
  have := h.2.2.2.2.1 k hk
  refine ⟨this.1, this.2.1, ?_, this.2.2.2⟩
  rw [xQ_yQ, if_pos rfl]
  unfold va_up
  rw [if_neg (by omega)]
  exact this.2.2.1
theorem or0 (v : Int64) : v ||| 0 = v := Int64.or_zero
theorem xe_takePart {post : Int64 → XS → Prop} {c : Int32} {v : Int64} {o : Option Nat} {e : Nat} (hc : ¬ c = 0) (hl : l < 64) (h : XE L σ0 a l W A E n σ) (p : SL l o e σ) (k0 : partS (tkK L) (tkV L) c (a, v, o) = none → ∀ b τ, XE L σ0 b l W A E n τ → post (-1) τ) (k1 : ∀ b u o' r τ, partS (tkK L) (tkV L) c (a, v, o) = some (b, u, o') → u = v ||| r → ¬ r = (-1) → XE L σ0 b l W A E n τ → SL l o' e τ → post r τ) : wp_X3_takePart post c σ := by
  have e1 : xI σ 1 = nI l := h.2.2.2.1.2
  have k12 : (c = 110 ∨ c = 116) → wB_X3_takePart_12 post σ := fun q => by
    have ep : partS (tkK L) (tkV L) c (a, v, o) = (pasS (tkK L) a).map (fun b => (b, v, some a)) := if_pos q
    rw [ep] at k0 k1
    refine ⟨by rw [e1]; exact vp_in_nI hl (by decide), ?_⟩
    rw [e1, nI_clamp (by omega), (xe_at h).1]
    refine xp_passAmount (P := SL l (some a) e) sl5 ⟨by rw [xA_yA, if_pos rfl, pk_us]; rfl, p.2⟩ (xe_slotA (Or.inr ⟨a, by have := xe_at h; omega, rfl⟩) h) (fun hn b τ g _ => ⟨fun _ => k0 (by rw [hn]; rfl) b τ g, fun z => absurd rfl z⟩) (fun b τ hs g p => ⟨fun z => absurd z (by decide), fun _ => k1 b v (some a) 0 τ (by rw [hs]; rfl) (or0 v).symm (by decide) g p⟩)
  refine ⟨fun q => k12 (Or.inl q), fun n1 => ⟨fun q => k12 (Or.inr q), fun n2 => spx_shiftOf ⟨fun q => ?_, fun q => ?_⟩⟩⟩
  · have ep : partS (tkK L) (tkV L) c (a, v, o) = (if tkK L a = c then some (a + 1, v, o) else none) := by
      unfold partS; rw [if_neg (fun z => z.elim n1 n2), if_pos q]
    rw [ep] at k0 k1
    refine xe_kind h ⟨fun z => ?_, fun z => ⟨fun _ => k0 (if_neg z) a σ h, fun w => absurd rfl w⟩⟩
    refine ⟨fun w => absurd w (by decide), fun _ => xp_advance (P := SL l o e) sl5 p h (by rw [z]; exact hc) (fun τ g p => k1 (a + 1) v o 0 τ (if_pos z) (or0 v).symm (by decide) g p)⟩
  · have hf := shF q n1 n2
    have ep : partS (tkK L) (tkV L) c (a, v, o) = (regS (tkK L) (tkV L) (if isRg c then 114 else 112) (if isRg c then 15 else 3) a).map (fun i => (a + 1, v ||| ((nI i).toInt64 <<< ((shC c).toInt64 &&& 63)), o)) := by
      unfold partS; rw [if_neg (fun z => z.elim n1 n2), if_neg q]
    rw [ep] at k0 k1
    have k71 : ∀ x : Int32, x = (if isRg c then 114 else 112) → wB_X3_takePart_71 post c x σ := fun x hx => by
      refine mostRP hf (xe_numbered (by split <;> omega) h (fun hn => ⟨fun _ => ⟨fun _ => k0 (by rw [← hx, hn]; rfl) a σ h, fun z => absurd rfl z⟩, fun z => absurd rfl z⟩) (fun i hi him hne => ?_))
      have hi15 : i ≤ 15 := by
        by_cases z : isRg c
        · rw [if_pos z] at him; exact him
        · rw [if_neg z] at him; omega
      refine ⟨fun z => absurd z (nI_ne1 (by omega)), fun _ => spx_shiftOf ⟨fun z => absurd z (shift_ne c hf hi15), fun _ => xp_advance (P := SL l o e) sl5 p h hne (fun τ g p => k1 (a + 1) _ o _ τ (by rw [← hx, hi]; rfl) rfl (shift_ne c hf hi15) g p)⟩⟩
    refine spx_isRegister ?_
    by_cases z : isRg c
    · rw [bI_pos z]; exact ⟨fun w => absurd w (by decide), fun _ => k71 114 (if_pos z).symm⟩
    · rw [bI_neg z]; exact ⟨fun _ => k71 112 (if_neg z).symm, fun w => absurd rfl w⟩
theorem xe_takeSign {x : Int32} (hx : ¬ x = 0) (h : XE L σ0 a l W A E n σ) (k0 : ¬ tkK L a = x → ∀ τ, XR σ0 τ → isB 0 → post 0 τ) (k1 : tkK L a = x → ∀ τ, XE L σ0 (a + 1) l W A E n τ → post 1 τ) : wp_X3_takeSign post x σ :=
  xe_kind h ⟨fun q => xe_advance h (by rw [q]; exact hx) (fun τ g => k1 q τ g), fun q => xe_refuse h (fun τ g => ⟨Or.inl rfl, k0 q τ g (Or.inl rfl)⟩)⟩
theorem xe_refuseNoWord {x : Int32} (h : XE L σ0 a l W A E n σ) (k : ∀ τ, XR σ0 τ → post 0 τ) : wp_X3_refuseNoWord post x σ := by
  have k34 : ∀ b τ, XE L σ0 b l W A E n τ → wB_X3_refuseNoWord_34 post τ := fun b τ g => xe_refuse g (fun τ g => ⟨Or.inl rfl, k τ g⟩)
  exact ⟨fun _ => xe_kind h ⟨fun q => xe_follower h ⟨fun _ => xe_advance h (by rw [q]; decide) (fun τ g => k34 _ τ g), fun _ => k34 _ σ h⟩, fun _ => k34 _ σ h⟩, fun _ => k34 _ σ h⟩
theorem xe_named {post : Option Nat → Prop} {v : Int64} (h0 : wdS v = none → post none) (h1 : ∀ e, wdS v = some e → e < 53 → post (some e)) : wp_X2_named post v := by
  have main : ∀ (d j : Nat), j + d = 53 → wdS v = wdF v d j → wL_X2_named_2 post (d + 1) v (nI j) := by
    intro d
    induction d with
    | zero => intro j hj hq; exact ⟨fun _ => h0 hq, fun z => absurd (show (53 : Int32) ≤ nI j by rw [show j = 53 by omega]; decide) z⟩
    | succ d ih =>
      intro j hj hq
      have e : (nI j).toNatClampNeg = j := nI_clamp (by omega)
      refine ⟨fun z => absurd z (nI_ge (a := j) (b := 53) (by omega) (by decide)), fun _ => ⟨vp_in_nI (by omega) (by decide), by rw [e]; omega, ?_⟩⟩
      rw [e]
      refine ⟨fun q => ⟨vp_in_nI (by omega) (by decide), h1 j (by rw [hq]; exact if_pos q) (by omega)⟩, fun q x hx => ?_⟩
      rw [hx, nI_1]
      exact ih (j + 1) (by omega) (by rw [hq]; exact if_neg q)
  exact ⟨54, main 53 0 rfl rfl⟩
theorem chX_drop (e : Nat) {j : Nat} (h : j < lenX.getD (pxI e) 0) : (chX e).drop j = pcX e j :: (chX e).drop (j + 1) := by
  have hl : j < (chX e).length := by unfold chX; rw [List.length_map, List.length_range]; exact h
  rw [List.drop_eq_getElem_cons hl]
  congr 1
  simp [chX]
theorem chX_end (e : Nat) {j : Nat} (h : lenX.getD (pxI e) 0 ≤ j) : (chX e).drop j = [] := by
  apply List.drop_eq_nil_of_le
  unfold chX
  rw [List.length_map, List.length_range]
  exact h
theorem pc_ne0 : ∀ e, e < 53 → ∀ j, j < lenX.getD (pxI e) 0 → ¬ pcX e j = 0 := by decide +kernel
theorem xe_takeWord {g : Nat} (h : XE L σ0 a l W A E n σ) (k0 : wrdS (tkK L) (tkV L) g a l = none → ∀ τ, XR σ0 τ → post 0 τ) (k1 : ∀ e w τ, wrdS (tkK L) (tkV L) g a l = some (e, w) → XE L σ0 w.1 (l + 1) (vp_updL W l w.2.1) (fun k => if k = l then w.2.2 else A k) (fun k => if k = l then e else E k) n τ → post 1 τ) : wp_X3_takeWord post (nI g) σ := by
  have kno : wrdS (tkK L) (tkV L) g a l = none → wB_X3_takeWord_25 post (nI g) none σ := fun q => ⟨fun _ => xe_refuseNoWord h (fun τ r => ⟨Or.inl rfl, k0 q τ r⟩), fun e he => by cases he⟩
  have hl := h.2.2.2.1.1
  have hl1 : xI σ 1 = nI l := h.2.2.2.1.2
  refine xe_kind h ⟨fun q => xe_value h (by rw [q]; decide) (xe_named (fun hn => ⟨fun _ => kno ?_, fun e z => by cases z⟩) (fun e he he53 => ⟨fun z => (by cases z), fun e' z => ?_⟩)), fun q => kno (by unfold wrdS; exact if_neg q)⟩
  · unfold wrdS; rw [if_pos q, hn]
  cases z
  have ew : wrdS (tkK L) (tkV L) g a l = (if l < 64 then (partsS (tkK L) (tkV L) (chX e) (a + 1, opB e ||| ((nI g).toInt64 <<< ((20 : Int32).toInt64 &&& 63)), none)).map (fun w => (e, w)) else none) := by
    unfold wrdS; rw [if_pos q, he]
  rw [ew] at k0 k1
  refine ⟨fun z => (by cases z), fun e' z => ?_⟩
  cases z
  refine ⟨fun z => ?_, fun z => xe_refuse h (fun τ r => ⟨Or.inl rfl, k0 (if_neg (fun w => z (by rw [hl1]; exact nI_lt (b := 64) w (by decide)))) τ r⟩)⟩
  have hlt : l < 64 := by
    rw [hl1] at z
    exact (nI_ltI (a := l) (b := 64) (by omega) (by decide)).mp z
  rw [if_pos hlt] at k0 k1
  have hpx := px_lt he53
  have hlen := px_len e he53
  have main : ∀ (d j b : Nat) (v : Int64) (o : Option Nat) (τ : XS), j + d = lenX.getD (pxI e) 0 → partsS (tkK L) (tkV L) (chX e) (a + 1, opB e ||| ((nI g).toInt64 <<< ((20 : Int32).toInt64 &&& 63)), none) = partsS (tkK L) (tkV L) ((chX e).drop j) (b, v, o) → XE L σ0 b l W A E n τ → SL l o e τ → wL_X3_takeWord_91 post (d + 1) (some e) v (nI j) τ := by
    intro d
    induction d with
    | zero =>
      intro j b v o τ hj hq g p
      rw [chX_end e (by omega)] at hq
      have hq : partsS (tkK L) (tkV L) (chX e) (a + 1, opB e ||| ((nI _).toInt64 <<< ((20 : Int32).toInt64 &&& 63)), none) = some (b, v, o) := hq
      refine ⟨fun z => (by cases z), fun e' he' => ?_⟩
      cases he'
      have g1 : xI τ 1 = nI l := g.2.2.2.1.2
      refine ⟨he53, hpx, x_len hpx ⟨fun _ => ⟨by rw [g1]; exact vp_in_nI hlt (by decide), ?_⟩, fun z => absurd (nI_le (by omega) (by omega)) z⟩⟩
      refine k1 e (b, v, o) _ (by rw [hq]; rfl) ?_
      rw [g1, nI_clamp (by omega), nI_1]
      refine ⟨g.1, g.2.1, g.2.2.1, ⟨by omega, rfl⟩, fun k hk => ?_, g.2.2.2.2.2⟩
      have e3 : xL (yI (yL τ 3 l v) 1 (nI (l + 1))) 3 = vp_updL (xL τ 3) l v := by rw [xL_yI, xL_yL, if_pos rfl]
      rw [e3]
      unfold vp_updL
      dsimp only
      by_cases hkl : k = l
      · subst hkl
        rw [if_pos rfl, if_pos rfl, if_pos rfl, if_pos rfl]
        exact ⟨rfl, p.1, p.2, he53⟩
      · rw [if_neg hkl, if_neg hkl, if_neg hkl, if_neg hkl]
        exact g.2.2.2.2.1 k (by omega)
    | succ d ih =>
      intro j b v o τ hj hq g p
      rw [chX_drop e (by omega)] at hq
      refine ⟨fun z => (by cases z), fun e' he' => ?_⟩
      cases he'
      have ej : (nI j).toNatClampNeg = j := nI_clamp (by omega)
      refine ⟨he53, hpx, x_len hpx ⟨fun z => absurd z (nI_ge (by omega) (by omega)), fun _ => ⟨he53, hpx, vp_in_nI (by omega) (by omega), fun r hr => ?_⟩⟩⟩
      rw [ej] at hr
      have hr : r = pcX e j := hr
      rw [hr]
      refine xe_takePart (v := v) (pc_ne0 e he53 j (by omega)) hlt g p (fun hn b τ g => ⟨fun _ => xe_refuse g (fun τ r => ⟨Or.inl rfl, k0 (by
          rw [hq]
          show ((partS (tkK L) (tkV L) (pcX e j) _).bind _).map _ = none
          rw [hn]; rfl) τ r⟩), fun z => absurd rfl z⟩) (fun b u o' r τ hs hu hne g p => ⟨fun z => absurd z hne, fun _ => fun u' hu' w hw => ?_⟩)
      rw [hw, nI_1, hu', ← hu]
      refine ih (j + 1) b u o' τ (by omega) ?_ g p
      rw [hq]
      show (partS (tkK L) (tkV L) (pcX e j) _).bind _ = _
      rw [hs]; rfl
  refine xe_advance h (by rw [q]; decide) (fun τ g => ?_)
  have g1 : xI τ 1 = nI l := g.2.2.2.1.2
  have i1 : vp_in (xI τ 1) 64 := by rw [g1]; exact vp_in_nI hlt (by decide)
  refine ⟨he53, i1, i1, he53, fun v hv => ⟨_, main (lenX.getD (pxI e) 0) 0 (a + 1) v none _ (by omega) (by rw [hv]; rfl) ?_ ?_⟩⟩
  · rw [g1, nI_clamp (by omega)]
    exact xe_slotA (Or.inl rfl) (xe_slotQ he53 g)
  · rw [g1, nI_clamp (by omega)]
    refine ⟨by rw [xA_yA, if_pos rfl, pk_us]; rfl, ?_⟩
    rw [xQ_yA, xQ_yQ, if_pos rfl]
    unfold va_up
    exact if_pos rfl
end XPF
