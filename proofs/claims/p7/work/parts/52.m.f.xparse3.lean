/-! the class's parser: statements, the whole -/
section XPG
variable {L : List Tok} {σ0 σ : XS} {a l : Nat} {W : Nat → Int64} {A : Nat → Option Nat} {E : Nat → Nat} {n : NS} {post : Int32 → XS → Prop}
theorem regS_le {K : Nat → Int32} {V : Nat → Int64} {x : Int32} {m a i : Nat} (h : regS K V x m a = some i) : i ≤ m := by
  unfold regS at h
  by_cases q : K a = 1
  · rw [if_pos q] at h
    have main : ∀ (d j : Nat), regF x (V a) d j = some i → i < j + d := by
      intro d
      induction d with
      | zero => intro j z; cases z
      | succ d ih =>
        intro j z
        unfold regF at z
        by_cases c : V a = kyC x j
        · rw [if_pos c] at z; cases z; omega
        · rw [if_neg c] at z; have := ih (j + 1) z; omega
    have := main (m + 1) 0 h
    omega
  · rw [if_neg q] at h; cases h
theorem xe_takeGuard (hk : tkK L a = 64) (h : XE L σ0 a l W A E n σ) (k0 : grdS (tkK L) (tkV L) a = none → ∀ b τ, XE L σ0 b l W A E n τ → post (-1) τ) (k1 : ∀ b g τ, grdS (tkK L) (tkV L) a = some (b, g) → g ≤ 15 → XE L σ0 b l W A E n τ → post (nI g) τ) : wp_X3_takeGuard post σ := by
  have k32 : ∀ (c b : Nat) τ, c ≤ 12 → grdS (tkK L) (tkV L) a = (regS (tkK L) (tkV L) 112 3 b).map (fun i => (b + 1, c + i)) → XE L σ0 b l W A E n τ → wB_X3_takeGuard_32 post (nI c) τ := fun c b τ hc hq g => by
    refine xe_numbered (m := 3) (by omega) g (fun hn => ⟨fun _ => k0 (by rw [hq, hn]; rfl) b τ g, fun z => absurd rfl z⟩) (fun i hi him hne => ⟨fun z => absurd z (nI_ne1 (by omega)), fun _ => xe_advance g hne (fun τ g => ?_)⟩)
    rw [nI_add]
    exact k1 (b + 1) (c + i) τ (by rw [hq, hi]; rfl) (by omega) g
  have e0 : grdS (tkK L) (tkV L) a = (if tkK L (a + 1) = 33 then (regS (tkK L) (tkV L) 112 3 (a + 2)).map (fun i => (a + 3, 12 + i)) else (regS (tkK L) (tkV L) 112 3 (a + 1)).map (fun i => (a + 2, 8 + i))) := if_pos hk
  exact xe_advance h (by rw [hk]; decide) (fun τ g => xe_kind g ⟨fun q => xe_advance g (by rw [q]; decide) (fun τ g => k32 12 (a + 2) τ (by omega) (by rw [e0, if_pos q]) g), fun q => k32 8 (a + 1) τ (by omega) (by rw [e0, if_neg q]) g⟩)
theorem tellS_1 (n : NS) (v x : Int64) : (tellS n v x).1 ≤ n.1 + 1 := by
  unfold tellS
  split
  · exact Nat.le_succ _
  · exact Nat.le_refl _
theorem pas_of {K : Nat → Int32} {a b : Nat} (h : pasS K a = some b) : (K (amA K a) = 1 ∨ K (amA K a) = 2) ∧ b = amA K a + 1 := by
  unfold pasS at h
  by_cases q : K (amA K a) = 1 ∨ K (amA K a) = 2
  · rw [if_pos q] at h; cases h; exact ⟨q, rfl⟩
  · rw [if_neg q] at h; cases h
end XPG
/-! where a WORD ends is behind where it begins -/
section XGE
variable {K : Nat → Int32} {V : Nat → Int64}
theorem amA_ge (s : Nat) : s ≤ amA K s := (amA_le K s).1
theorem part_ge {c : Int32} {w w' : WS} (h : partS K V c w = some w') : w.1 < w'.1 := by
  unfold partS at h
  split at h
  · obtain ⟨b, hb, e⟩ := Option.map_eq_some_iff.mp h
    have := (pas_of hb).2
    have h2 := amA_ge (K := K) w.1
    rw [← e]
    show w.1 < b
    omega
  · split at h
    · split at h
      · cases h; exact Nat.lt_succ_self _
      · cases h
    · obtain ⟨b, hb, e⟩ := Option.map_eq_some_iff.mp h
      rw [← e]; exact Nat.lt_succ_self _
theorem parts_ge : ∀ (cs : List Int32) {w w' : WS}, partsS K V cs w = some w' → w.1 ≤ w'.1 := by
  intro cs
  induction cs with
  | nil => intro w w' h; cases h; exact Nat.le_refl _
  | cons c cs ih =>
    intro w w' h
    obtain ⟨u, hu, e⟩ := Option.bind_eq_some_iff.mp h
    have := part_ge hu
    have := ih e
    omega
theorem wrd_of {g a l e : Nat} {w : WS} (h : wrdS K V g a l = some (e, w)) : K a = 1 ∧ wdS (V a) = some e ∧ l < 64 ∧ partsS K V (chX e) (a + 1, opB e ||| ((nI g).toInt64 <<< ((20 : Int32).toInt64 &&& 63)), none) = some w := by
  unfold wrdS at h
  by_cases q : K a = 1
  · rw [if_pos q] at h
    cases he : wdS (V a) with
    | none => rw [he] at h; cases h
    | some e' =>
      rw [he] at h
      by_cases q2 : l < 64
      · have h : (if l < 64 then (partsS K V (chX e') (a + 1, opB e' ||| ((nI g).toInt64 <<< ((20 : Int32).toInt64 &&& 63)), none)).map (fun w => (e', w)) else none) = some (e, w) := h
        rw [if_pos q2] at h
        obtain ⟨u, hu, ee⟩ := Option.map_eq_some_iff.mp h
        cases ee
        exact ⟨q, rfl, q2, hu⟩
      · have h : (if l < 64 then (partsS K V (chX e') (a + 1, opB e' ||| ((nI g).toInt64 <<< ((20 : Int32).toInt64 &&& 63)), none)).map (fun w => (e', w)) else none) = some (e, w) := h
        rw [if_neg q2] at h; cases h
  · rw [if_neg q] at h; cases h
theorem wrd_ge {g a l e : Nat} {w : WS} (h : wrdS K V g a l = some (e, w)) : a < w.1 := by
  have := parts_ge _ (wrd_of h).2.2.2
  show a < w.1
  have e : (a + 1, opB e ||| ((nI g).toInt64 <<< ((20 : Int32).toInt64 &&& 63)), (none : Option Nat)).1 = a + 1 := rfl
  omega
theorem grd_ge {a b g : Nat} (h : grdS K V a = some (b, g)) : a ≤ b := by
  unfold grdS at h
  split at h
  · split at h
    · obtain ⟨i, hi, e⟩ := Option.map_eq_some_iff.mp h
      cases e; omega
    · obtain ⟨i, hi, e⟩ := Option.map_eq_some_iff.mp h
      cases e; omega
  · cases h; exact Nat.le_refl _
end XGE
section XPH
variable {L : List Tok} {σ0 σ : XS} {a l : Nat} {W : Nat → Int64} {A : Nat → Option Nat} {E : Nat → Nat} {n : NS} {post : Int32 → XS → Prop}
theorem xe_takeConstant (hk : tkK L a = 1) (hk1 : tkK L (a + 1) = 61) (hn : 2 * n.1 ≤ a) (h : XE L σ0 a l W A E n σ) (k0 : cstS (tkK L) (tkV L) (a, l, W, A, E, n) = none → ∀ τ, XR σ0 τ → post 0 τ) (k1 : ∀ b m τ, cstS (tkK L) (tkV L) (a, l, W, A, E, n) = some (b, l, W, A, E, m) → 2 * m.1 ≤ b → XE L σ0 b l W A E m τ → post 1 τ) : wp_X3_takeConstant post σ := by
  have hL := h.1.1
  have hlt := tk_lt (L := L) (a := a) (by rw [hk]; decide)
  refine xe_value h (by rw [hk]; decide) (xe_place h (fun p => xe_advance h (by rw [hk]; decide) (fun τ g => xe_advance g (by rw [hk1]; decide) (fun τ g => ?_))))
  refine xp_passAmount (P := fun _ => True) (fun _ _ _ => trivial) trivial g (fun q b τ' g' _ => ⟨fun _ => xe_refuse g' (fun τ r => ⟨Or.inl rfl, k0 (by
    show (pasS (tkK L) (a + 2)).bind _ = none
    rw [show pasS (tkK L) (a + 2) = none from q]; rfl) τ r⟩), fun z => absurd rfl z⟩) (fun b τ' q g' _ => ⟨fun z => absurd z (by decide), fun _ => ?_⟩)
  have q : pasS (tkK L) (a + 2) = some b := q
  obtain ⟨hK, hb⟩ := pas_of q
  have hA := amA_le (tkK L) (a + 2)
  rw [show xI τ 5 = nI (a + 2) from (xe_at g).1]
  refine xe_amountAt (Or.inl rfl) (show a + 2 ≤ L.length by have := (xe_at g).2.1; omega) hK g' (fun τ g => xe_tellName g ?_ (fun τ g => ?_))
  · show (noteS n _).1 < 350
    show n.1 < 350
    omega
  have ed : decide ((110 : Int32) = 116) = false := by decide
  rw [ed, ← hb] at g
  have ec : cstS (tkK L) (tkV L) (a, l, W, A, E, n) = if tkK L b = 59 then some (b + 1, l, W, A, E, tellS (noteS n (amBad (tkK L) (tkV L) false n (a + 2))) (tkV L a) (amVal (tkK L) (tkV L) n (a + 2))) else none := by
    show (pasS (tkK L) (a + 2)).bind _ = _
    rw [q]; rfl
  refine xe_takeSign (by decide) g (fun z τ r hb => ⟨hb, k0 (by rw [ec, if_neg z]) τ r⟩) (fun z τ g => ⟨Or.inr rfl, k1 (b + 1) _ τ (by rw [ec, if_pos z]) ?_ g⟩)
  have := tellS_1 (noteS n (amBad (tkK L) (tkV L) false n (a + 2))) (tkV L a) (amVal (tkK L) (tkV L) n (a + 2))
  have e : (noteS n (amBad (tkK L) (tkV L) false n (a + 2))).1 = n.1 := rfl
  omega
theorem xe_takeStatement (hn : 2 * n.1 ≤ a) (h : XE L σ0 a l W A E n σ) (k0 : stmS (tkK L) (tkV L) (a, l, W, A, E, n) = none → ∀ τ, XR σ0 τ → isB 0 → post 0 τ) (k1 : ∀ b l' W' A' E' m τ, stmS (tkK L) (tkV L) (a, l, W, A, E, n) = some (b, l', W', A', E', m) → 2 * m.1 ≤ b → XE L σ0 b l' W' A' E' m τ → isB 1 → post 1 τ) : wp_X3_takeStatement post σ := by
  have hL := h.1.1
  by_cases hc : tkK L a = 1 ∧ tkK L (a + 1) = 61
  · have es : stmS (tkK L) (tkV L) (a, l, W, A, E, n) = cstS (tkK L) (tkV L) (a, l, W, A, E, n) := if_pos hc
    rw [es] at k0 k1
    exact xe_kind h ⟨fun _ => xe_follower h ⟨fun _ => xe_takeConstant hc.1 hc.2 hn h (fun q τ r => ⟨Or.inl rfl, k0 q τ r (Or.inl rfl)⟩) (fun b m τ q hm g => ⟨Or.inr rfl, k1 b l W A E m τ q hm g (Or.inr rfl)⟩), fun z => absurd hc.2 z⟩, fun z => absurd hc.1 z⟩
  -- behind the LABELS
  have k103 : ∀ (b : Nat) (m : NS) τ, labS (tkK L) (tkV L) 350 a (nI l).toInt64 n = (b, m) → 2 * m.1 ≤ b → XE L σ0 b l W A E m τ → wB_X3_takeStatement_103 post τ := by
    intro b m τ hr hm g
    have es : stmS (tkK L) (tkV L) (a, l, W, A, E, n) = (if tkK L b = 59 then some (b + 1, l, W, A, E, m) else (grdS (tkK L) (tkV L) b).bind (fun g => wordS (tkK L) (tkV L) g.2 g.1 (b, l, W, A, E, m))) := by
      unfold stmS
      rw [if_neg hc]
      show (let r := labS (tkK L) (tkV L) 350 a (nI l).toInt64 n; _) = _
      rw [hr]
    have k142 : ∀ (c gd : Nat) τ, gd ≤ 15 → stmS (tkK L) (tkV L) (a, l, W, A, E, n) = wordS (tkK L) (tkV L) gd c (b, l, W, A, E, m) → b ≤ c → XE L σ0 c l W A E m τ → wB_X3_takeStatement_142 post (nI gd) τ := by
      intro c gd τ hgd hq hbc g
      refine ⟨fun z => absurd z (nI_ne1 (by omega)), fun _ => xe_takeWord g (fun hn τ r => ⟨fun _ => ⟨Or.inl rfl, k0 (by
        rw [hq]
        show (wrdS (tkK L) (tkV L) gd c l).bind _ = none
        rw [hn]; rfl) τ r (Or.inl rfl)⟩, fun z => absurd rfl z⟩) (fun e w τ hs g => ⟨fun z => absurd z (by decide), fun _ => ?_⟩)⟩
      have ew : stmS (tkK L) (tkV L) (a, l, W, A, E, n) = if tkK L w.1 = 59 then some (putS e w (b, l, W, A, E, m)) else none := by
        rw [hq]
        show (wrdS (tkK L) (tkV L) gd c l).bind _ = _
        rw [hs]; rfl
      refine xe_takeSign (by decide) g (fun z τ r hb => ⟨fun _ => ⟨Or.inl rfl, k0 (by rw [ew, if_neg z]) τ r hb⟩, fun w => absurd rfl w⟩) (fun z τ g => ⟨fun w => absurd w (by decide), fun _ => ⟨Or.inr rfl, k1 _ _ _ _ _ _ τ (by rw [ew, if_pos z]; rfl) ?_ g (Or.inr rfl)⟩⟩)
      have := wrd_ge hs
      show 2 * m.1 ≤ w.1 + 1
      omega
    refine xe_kind g ⟨fun q => xe_takeSign (by decide) g (fun z => absurd q z) (fun z τ g => ⟨Or.inr rfl, k1 _ _ _ _ _ _ τ (by rw [es, if_pos q]) (by omega) g (Or.inr rfl)⟩), fun q => ?_⟩
    rw [if_neg q] at es
    refine xe_kind g ⟨fun q2 => xe_takeGuard q2 g (fun hn b' τ g => ⟨fun _ => xe_refuse g (fun τ r => ⟨Or.inl rfl, k0 (by rw [es, hn]; rfl) τ r (Or.inl rfl)⟩), fun z => absurd rfl z⟩) (fun c gd τ hs hg g => k142 c gd τ hg (by rw [es, hs]; rfl) (grd_ge hs) g), fun q2 => k142 b 0 τ (by omega) (by rw [es]; unfold grdS; rw [if_neg q2]; rfl) (Nat.le_refl b) g⟩
  have main : ∀ (d j b : Nat) (m : NS) (τ : XS), j + d = 350 → labS (tkK L) (tkV L) 350 a (nI l).toInt64 n = labS (tkK L) (tkV L) d b (nI l).toInt64 m → 2 * m.1 ≤ b → XE L σ0 b l W A E m τ → wL_X3_takeStatement_30 post (d + 1) (nI j) τ := by
    intro d
    induction d with
    | zero => intro j b m τ hj hq hm g; exact ⟨fun _ => k103 b m τ hq hm g, fun z => absurd (show (350 : Int32) ≤ nI j by rw [show j = 350 by omega]; decide) z⟩
    | succ d ih =>
      intro j b m τ hj hq hm g
      have kno : ¬ (tkK L b = 1 ∧ tkK L (b + 1) = 58) → wB_X3_takeStatement_103 post τ := fun z => k103 b m τ (by rw [hq]; exact if_neg z) hm g
      refine ⟨fun z => absurd z (nI_ge (a := j) (b := 350) (by omega) (by decide)), fun _ => xe_kind g ⟨fun q => xe_follower g ⟨fun q2 => ?_, fun q2 => kno (fun z => q2 z.2)⟩, fun q => kno (fun z => q z.1)⟩⟩
      have hb := tk_lt (L := L) (a := b) (by rw [q]; decide)
      refine xe_value g (by rw [q]; decide) (xe_place g (fun p => xe_tellName g (by omega) (fun τ' g' => xe_advance g' (by rw [q]; decide) (fun τ' g' => xe_advance g' (by rw [q2]; decide) (fun τ' g' => fun u hu => ?_)))))
      rw [hu, nI_1]
      rw [show xI τ 1 = nI l from g.2.2.2.1.2] at g'
      refine ih (j + 1) (b + 2) _ τ' (by omega) (by rw [hq]; exact if_pos ⟨q, q2⟩) ?_ g'
      have := tellS_1 m (tkV L b) (nI l).toInt64
      omega
  have k28 : wB_X3_takeStatement_28 post σ := ⟨351, main 350 0 a n σ rfl rfl hn h⟩
  exact xe_kind h ⟨fun q => xe_follower h ⟨fun q2 => absurd ⟨q, q2⟩ hc, fun _ => k28⟩, fun _ => k28⟩
end XPH
