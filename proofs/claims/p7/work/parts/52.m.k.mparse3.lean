/-! the reference's parser: WORDS, statements, the whole -/
theorem parts_app (K : Nat → Int32) (V : Nat → Int64) (ys : List Int32) : ∀ (xs : List Int32) (w : WS), partsS K V (xs ++ ys) w = (partsS K V xs w).bind (partsS K V ys) := by
  intro xs
  induction xs with
  | nil => intro w; rfl
  | cons c xs ih =>
    intro w
    show (partS K V c w).bind (partsS K V (xs ++ ys)) = ((partS K V c w).bind (partsS K V xs)).bind (partsS K V ys)
    cases partS K V c w with
    | none => rfl
    | some u => exact ih u
theorem wcS_cg (K : Nat → Int32) (A : Nat → Option Nat) (o : Option Nat) (l : Nat) : ∀ k, k ≤ l → wcS K (fun j => if j = l then o else A j) k = wcS K A k := by
  intro k
  induction k with
  | zero => intro _; rfl
  | succ k ih =>
    intro hk
    show wcS K (fun j => if j = l then o else A j) k + (if nmB K (if k = l then o else A k) then 1 else 0) = wcS K A k + (if nmB K (A k) then 1 else 0)
    rw [ih (by omega), if_neg (show ¬ k = l by omega)]
theorem nbB_cg (K : Nat → Int32) (V : Nat → Int64) (A : Nat → Option Nat) (E : Nat → Nat) (o : Option Nat) (e l : Nat) : ∀ k, k ≤ l → nbB K V (fun j => if j = l then o else A j) (fun j => if j = l then e else E j) k = nbB K V A E k := by
  intro k
  induction k with
  | zero => intro _; rfl
  | succ k ih =>
    intro hk
    show (nbB K V (fun j => if j = l then o else A j) (fun j => if j = l then e else E j) k || nbB1 K V (if k = l then e else E k) (if k = l then o else A k)) = (nbB K V A E k || nbB1 K V (E k) (A k))
    rw [ih (by omega), if_neg (show ¬ k = l by omega), if_neg (show ¬ k = l by omega)]
theorem nbB_put (K : Nat → Int32) (V : Nat → Int64) (A : Nat → Option Nat) (E : Nat → Nat) (o : Option Nat) (e l : Nat) : nbB K V (fun j => if j = l then o else A j) (fun j => if j = l then e else E j) (l + 1) = (nbB K V A E l || nbB1 K V e o) := by
  show (nbB K V (fun j => if j = l then o else A j) (fun j => if j = l then e else E j) l || nbB1 K V (if l = l then e else E l) (if l = l then o else A l)) = _
  rw [nbB_cg K V A E o e l l (Nat.le_refl l), if_pos rfl, if_pos rfl]
section MPC
variable {L : List Tok} {T : Nat} {σ0 σ : MS} {s a l : Nat} {W : Nat → Int64} {A : Nat → Option Nat} {E : Nat → Nat} {n : NS} {fb : Bool} {post : Int32 → MS → Prop}
theorem me_word {e : Nat} {v : Int64} {o : Option Nat} {u y : Int32} (hl : l < 64) (h : ME L T σ0 s a l W A E n fb σ) (hm : MM (tkK L) (tkV L) A l e v o σ) (hu : u = nI (l + 1)) (hy : y = nI (wcS (tkK L) A l + (if nmB (tkK L) o then 1 else 0))) : ME L T σ0 s a (l + 1) (vp_updL W l v) (fun k => if k = l then o else A k) (fun k => if k = l then e else E k) n fb (wI (wI (wL σ 12 l (mJ σ 28)) 13 u) 18 y) := by
  obtain ⟨h1, h2, h3, h4, h5, h6, h7, h8⟩ := h
  refine ⟨h1, h2, h3, ⟨by omega, hu⟩, fun k hk => ?_, h6, ?_, h8⟩
  · have e12 : mL (wI (wI (wL σ 12 l (mJ σ 28)) 13 u) 18 y) 12 = vp_updL (mL σ 12) l (mJ σ 28) := by rw [mL_wI, mL_wI, mL_wL, if_pos rfl]
    rw [e12, wcS_cg (tkK L) A o l k (by omega)]
    unfold vp_updL
    dsimp only
    by_cases q : k = l
    · subst q
      rw [if_pos rfl, if_pos rfl, if_pos rfl, if_pos rfl]
      exact ⟨hm.1, hm.2⟩
    · rw [if_neg q, if_neg q, if_neg q, if_neg q]
      exact h5 k (by omega)
  · show y = _
    rw [hy]
    show _ = nI (wcS (tkK L) (fun k => if k = l then o else A k) l + (if nmB (tkK L) (if l = l then o else A l) then 1 else 0))
    rw [wcS_cg (tkK L) A o l l (Nat.le_refl l), if_pos rfl]
theorem em_readWord {w g : Nat} (hw : w < 53) (hs : s < 2) (ha : tkK L a = 1) (hwd : wdS (tkV L a) = some (pm w)) (h : ME L T σ0 s a l W A E n fb σ) (k0 : wrdS (tkK L) (tkV L) g a l = none → ∀ τ, MR σ0 s τ → post 0 τ) (k1 : ∀ u τ, wrdS (tkK L) (tkV L) g a l = some (pm w, u) → ME L T σ0 s u.1 (l + 1) (vp_updL W l u.2.1) (fun k => if k = l then u.2.2 else A k) (fun k => if k = l then pm w else E k) n (fb || nbB1 (tkK L) (tkV L) (pm w) u.2.2) τ → post 1 τ) : wp_X9_readWord post (nI w) (nI g).toInt64 σ := by
  have ew : wrdS (tkK L) (tkV L) g a l = (if l < 64 then (partsS (tkK L) (tkV L) (chX (pm w)) (a + 1, opB (pm w) ||| ((nI g).toInt64 <<< ((20 : Int32).toInt64 &&& 63)), none)).map (fun u => (pm w, u)) else none) := by
    unfold wrdS; rw [if_pos ha, hwd]
  rw [ew] at k0 k1
  have e13 : mI σ 13 = nI l := h.2.2.2.1.2
  have hl64 := h.2.2.2.1.1
  refine ⟨fun q => em_refuse h (fun τ r => ⟨Or.inl rfl, k0 (if_neg ?_) τ r⟩), fun q => ?_⟩
  · intro hl
    rw [e13] at q
    have h2 := congrArg Int32.toNatClampNeg q
    rw [nI_clamp (by omega)] at h2
    have e64 : (64 : Int32).toNatClampNeg = 64 := rfl
    omega
  have hl : l < 64 := by
    rcases Nat.lt_or_ge l 64 with z | z
    · exact z
    · exact absurd (by rw [e13, show l = 64 by omega]; rfl) q
  rw [if_pos hl, pm_ch w hw] at k0 k1
  generalize hP : partsS (tkK L) (tkV L) (flR w 4 0) (a + 1, opB (pm w) ||| ((nI g).toInt64 <<< ((20 : Int32).toInt64 &&& 63)), none) = P at k0 k1
  have k147 : ∀ b v o x4 τ, P = some (b, v, o) → (x4 = 0 ↔ nmB (tkK L) o = false) → ME L T σ0 s b l W A E n (fb || nbB1 (tkK L) (tkV L) (pm w) o) τ → MM (tkK L) (tkV L) A l (pm w) v o τ → wB_X9_readWord_147 post x4 τ := by
    intro b v o x4 τ hq h4 g hm
    have g13 : mI τ 13 = nI l := g.2.2.2.1.2
    have g18 : mI τ 18 = nI (wcS (tkK L) A l) := g.2.2.2.2.2.2.1
    unfold wB_X9_readWord_147 wB_X9_readWord_185
    rw [g13, nI_clamp (by omega), nI_1, g18]
    refine ⟨vp_in_nI (by omega) (by decide), fun z => k1 (b, v, o) _ (by rw [hq]; rfl) (me_word hl g hm rfl ?_), fun z => k1 (b, v, o) _ (by rw [hq]; rfl) (me_word hl g hm rfl ?_)⟩
    · rw [h4.mp z]; exact nI_add _ 0
    · have : nmB (tkK L) o = true := by
        cases hb : nmB (tkK L) o with
        | true => rfl
        | false => exact absurd (h4.mpr hb) z
      rw [this]; exact nI_add _ 1
  have main : ∀ (d j b : Nat) (v : Int64) (o : Option Nat) (x4 : Int32) (τ : MS), j + d = 4 → P = partsS (tkK L) (tkV L) (flR w d j) (b, v, o) → (o = none ∨ ∃ k, k < j ∧ isAm (partC w k)) → (x4 = 0 ↔ nmB (tkK L) o = false) → ME L T σ0 s b l W A E n (fb || nbB1 (tkK L) (tkV L) (pm w) o) τ → MM (tkK L) (tkV L) A l (pm w) v o τ → mI τ 27 = 0 → wL_X9_readWord_69 post (d + 1) (nI w) x4 (nI j) τ := by
    intro d
    induction d with
    | zero =>
      intro j b v o x4 τ hj hq hO h4 g hm h27
      exact ⟨fun _ => k147 b v o x4 τ hq h4 g hm, fun z => absurd (show (4 : Int32) ≤ nI j by rw [show j = 4 by omega]; decide) z⟩
    | succ d ih =>
      intro j b v o x4 τ hj hq hO h4 g hm h27
      have hj4 : j < 4 := by omega
      refine ⟨fun z => absurd z (nI_ge (a := j) (b := 4) hj4 (by decide)), fun _ => sp_part hw hj4 ⟨fun q => k147 b v o x4 τ ?_ h4 g hm, fun q => ?_⟩⟩
      · rw [hq]
        show partsS (tkK L) (tkV L) (if partC w j = 46 then [] else _) _ = _
        rw [if_pos q]; rfl
      have hmn : isMN (partC w j) := (part_mn w hw j hj4).resolve_left q
      have hun : flR w (d + 1) j = (if j = 0 then [] else [44]) ++ flP (partC w j) ++ flR w d (j + 1) := if_neg q
      rw [hun] at hq
      have ho : isAm (partC w j) → o = none := fun z => by
        rcases hO with e | ⟨k, hk, hak⟩
        · exact e
        · exact absurd z (part_once w hw j hj4 k hk hak)
      have k102 : ∀ b τ, P = (partsS (tkK L) (tkV L) (flP (partC w j)) (b, v, o)).bind (partsS (tkK L) (tkV L) (flR w d (j + 1))) → ME L T σ0 s b l W A E n (fb || nbB1 (tkK L) (tkV L) (pm w) o) τ → MM (tkK L) (tkV L) A l (pm w) v o τ → mI τ 27 = 0 → wB_X9_readWord_102 post (wL_X9_readWord_69 post (d + 1)) (nI w) x4 (nI j) τ := by
        intro b τ hq g hm h27
        refine sp_part hw hj4 (em_part hs hl hmn ho (part_jmp w hw j hj4) g hm h27 (fun z τ r => ⟨fun _ => k0 (by rw [hq, z]; rfl) τ r, fun y => absurd rfl y⟩) (fun b' u o' τ' hz g' hm' hA hB => ⟨fun y => absurd y (by decide), fun _ => ?_⟩))
        have hq' : P = partsS (tkK L) (tkV L) (flR w d (j + 1)) (b', u, o') := by rw [hq, hz]; rfl
        have hO' : o' = none ∨ ∃ k, k < j + 1 ∧ isAm (partC w k) := by
          by_cases c : isAm (partC w j)
          · exact Or.inr ⟨j, by omega, c⟩
          · rw [(hB c).2]
            rcases hO with e | ⟨k, hk, hak⟩
            · exact Or.inl e
            · exact Or.inr ⟨k, by omega, hak⟩
        have k134 : ∀ t0 : Int32, (t0 = 0 ↔ nmB (tkK L) o' = false) → wB_X9_readWord_134 post (wL_X9_readWord_69 post (d + 1)) (nI w) (nI j) t0 τ' := fun t0 ht y hy => by
          rw [hy, nI_1]
          exact ih (j + 1) b' u o' t0 (wI τ' 27 0) (by omega) hq' hO' ht g' hm' rfl
        by_cases c : isAm (partC w j)
        · have hon := ho c
          have h40 : x4 = 0 := h4.mpr (by rw [hon]; rfl)
          obtain ⟨-, h27'⟩ := hA c
          refine ⟨fun _ => ⟨fun z => k134 0 ⟨fun _ => h27'.mp z, fun _ => rfl⟩, fun z => k134 1 ⟨fun y => absurd y (by decide), fun y => absurd (h27'.mpr y) z⟩⟩, fun z => absurd h40 z⟩
        · obtain ⟨h27', hoo⟩ := hB c
          refine ⟨fun z4 => ⟨fun _ => k134 0 ⟨fun _ => by rw [hoo]; exact h4.mp z4, fun _ => rfl⟩, fun z => absurd h27' z⟩, fun z4 => k134 1 ⟨fun y => absurd y (by decide), fun y => absurd (h4.mpr (by rw [← hoo]; exact y)) z4⟩⟩
      refine ⟨fun z => ?_, fun z => ?_⟩
      · have hj0 : j = 0 := by
          rcases Nat.eq_zero_or_pos j with y | y
          · exact y
          · exact absurd z (nI_ge (a := 0) (b := j) y (by omega))
        rw [if_pos hj0] at hq
        exact k102 b τ (by rw [hq]; exact parts_app _ _ _ (flP (partC w j)) _) g hm h27
      · have hj0 : ¬ j = 0 := fun y => z (by rw [y]; decide)
        rw [if_neg hj0] at hq
        have hq2 : P = ((if tkK L b = 44 then some (b + 1, v, o) else none).bind (partsS (tkK L) (tkV L) (flP (partC w j)))).bind (partsS (tkK L) (tkV L) (flR w d (j + 1))) := by
          rw [hq, parts_app, parts_app]
          have e44 := part_sg (K := tkK L) (V := tkV L) (x := 44) (by decide) (by decide) (b, v, o)
          show ((partsS (tkK L) (tkV L) [44] (b, v, o)).bind _).bind _ = _
          show ((((partS (tkK L) (tkV L) 44 (b, v, o)).bind some)).bind _).bind _ = _
          rw [e44]
          by_cases c : tkK L b = 44
          · rw [if_pos c]; rfl
          · rw [if_neg c]; rfl
        refine em_want sg44 g (fun c τ r => ⟨fun _ => k0 (by rw [hq2, if_neg c]; rfl) τ r, fun y => absurd rfl y⟩) (fun c g' => ⟨fun y => absurd y (by decide), fun _ => k102 (b + 1) _ (by rw [hq2, if_pos c]; rfl) g' hm h27⟩)
  have hop := pm_op w hw
  have hT : T = T := rfl
  have g1 : ME L T σ0 s (a + 1) l W A E n (fb || nbB1 (tkK L) (tkV L) (pm w) none) (wI σ 9 (mI σ 9 + 1)) := by
    rw [show (fb || nbB1 (tkK L) (tkV L) (pm w) none) = fb from Bool.or_false fb]
    exact me_adv h (by rw [ha]; decide) (by rw [ha]; decide)
  have k54 : ∀ t0 : Int64, t0 = (if ¬ nI w ≤ 21 ∧ ¬ 29 ≤ nI w then nbr (nI w - 22).toInt64 else 0) → wB_X9_readWord_54 post (nI w) t0 ((opC w).toInt64 ||| ((nI g).toInt64 <<< ((20 : Int32).toInt64 &&& 63))) (wI σ 9 (mI σ 9 + 1)) := fun t0 ht => by
    refine ⟨5, main 4 0 (a + 1) (opB (pm w) ||| ((nI g).toInt64 <<< ((20 : Int32).toInt64 &&& 63))) none 0 _ rfl hP.symm (Or.inl rfl) ⟨fun _ => rfl, fun _ => rfl⟩ g1 ⟨?_, fun q hq => by cases hq⟩ rfl⟩
    show ((opC w).toInt64 ||| ((nI g).toInt64 <<< ((20 : Int32).toInt64 &&& 63))) ||| t0 = opB (pm w) ||| ((nI g).toInt64 <<< ((20 : Int32).toInt64 &&& 63))
    rw [hop, ← ht, Int64.or_assoc, Int64.or_assoc, Int64.or_comm t0]
  refine sp_opOf hw (sp_isTold ?_)
  by_cases c : ¬ nI w ≤ 21 ∧ ¬ 29 ≤ nI w
  · rw [bI_pos c]
    exact ⟨fun z => absurd z (by decide), fun _ => k54 _ (by rw [if_pos c]; rfl)⟩
  · rw [bI_neg c]
    exact ⟨fun _ => k54 0 (by rw [if_neg c]), fun z => absurd rfl z⟩
theorem tell_flag (n : NS) (v x : Int64) : (tellS n v x).2.2.2 = (n.2.2.2 || (nFind n v).isSome) := by
  unfold tellS
  cases h : (nFind n v).isSome with
  | true => rw [if_pos rfl, Bool.or_true]
  | false => rw [if_neg (by decide), Bool.or_false]
theorem me_tnote {b : Bool} {v x : Int64} (h : ME L T σ0 s a l W A E (tellS n v x) fb σ) : ME L T σ0 s a l W A E (tellS (noteS n b) v x) fb σ := by
  obtain ⟨h1, h2, h3, h4, h5, h6, h7, h8⟩ := h
  refine ⟨h1, h2, h3, h4, h5, ?_, h7, h8⟩
  have e : nFind (noteS n b) v = nFind n v := rfl
  unfold tellS at h6 ⊢
  rw [e]
  cases hq : (nFind n v).isSome with
  | true => rw [hq] at h6; exact h6
  | false => rw [hq] at h6; exact h6
theorem or_rc (a b c : Bool) : ((a || b) || c) = ((a || c) || b) := by cases a <;> cases b <;> cases c <;> rfl
theorem cst_fb {K : Nat → Int32} {V : Nat → Int64} (f bd fd nb : Bool) : (((f || nb) || bd) || fd) = (((f || bd) || fd) || nb) := by cases f <;> cases bd <;> cases fd <;> cases nb <;> rfl
theorem em_readStatement (hs : s < 2) (hn : 2 * n.1 ≤ a) (h : ME L T σ0 s a l W A E n (n.2.2.2 || nbB (tkK L) (tkV L) A E l) σ) (k0 : stmS (tkK L) (tkV L) (a, l, W, A, E, n) = none → ∀ τ, MR σ0 s τ → post 0 τ) (k1 : ∀ b l' W' A' E' m τ, stmS (tkK L) (tkV L) (a, l, W, A, E, n) = some (b, l', W', A', E', m) → 2 * m.1 ≤ b → ME L T σ0 s b l' W' A' E' m (m.2.2.2 || nbB (tkK L) (tkV L) A' E' l') τ → post 1 τ) : wp_X9_readStatement post σ := by
  have hL := h.1.1
  obtain ⟨i9, e9⟩ := me_in h
  obtain ⟨hk1, hv1⟩ := tk_12 h.1 h.2.2.1.1 (x := 1) (Or.inl rfl)
  by_cases hc : tkK L a = 1 ∧ tkK L (a + 1) = 61
  · -- a constant
    have es : stmS (tkK L) (tkV L) (a, l, W, A, E, n) = cstS (tkK L) (tkV L) (a, l, W, A, E, n) := if_pos hc
    rw [es] at k0 k1
    unfold wp_X9_readStatement
    rw [e9]
    refine ⟨i9, fun _ => em_isNext (by decide) hc.1 h (fun z => absurd hc.2 z) (fun _ => ⟨fun z => absurd z (by decide), fun _ x1 hx1 => ?_⟩), fun z => absurd (hk1.mpr hc.1) z⟩
    have hp1 := pb_name h.1 h.2.2.1.1 hc.1
    have hp2 := pb_next h.1 hp1.1 (by rw [hc.2]; decide) (by rw [hc.2]; decide)
    have g2 : ME L T σ0 s (a + 2) l W A E n (n.2.2.2 || nbB (tkK L) (tkV L) A E l) (wI σ 9 (mI σ 9 + 2)) := me_go h hp2.1 (by rw [h.2.2.1.2]; exact nI_add a 2)
    have hx1 : x1 = nI a := by rw [hx1]; exact h.2.2.1.2
    have hT := me_T h
    have i1 : vp_in x1 702 := by rw [hx1]; exact vp_in_nI (by omega) (by decide)
    have ex1 : x1.toNatClampNeg = a := by rw [hx1, nI_clamp (by omega)]
    refine em_num1 hs g2 (fun q τ r => ⟨fun _ => k0 (by
      show (pasS (tkK L) (a + 2)).bind _ = none
      rw [q]; rfl) τ r, fun z => absurd rfl z⟩) (fun hK τ g e26 => ⟨fun z => absurd z (by decide), fun _ => ⟨i1, i1, ?_⟩⟩)
    have eb : pasS (tkK L) (a + 2) = some (amA (tkK L) (a + 2) + 1) := if_pos hK
    have hA2 := amA_le (tkK L) (a + 2)
    have ev : mL τ 8 x1.toNatClampNeg = tkV L a := by
      rw [ex1]
      exact (g.1.2.2.1 a hp1.2).2.1 (Or.inl hc.1)
    rw [ev, e26]
    have hlt := tk_lt (L := L) (a := a) (by rw [hc.1]; decide)
    refine em_tell hs (by omega) g (fun τ g => ?_)
    have g := me_tnote (b := amBad (tkK L) (tkV L) false n (a + 2)) g
    have ec : cstS (tkK L) (tkV L) (a, l, W, A, E, n) = if tkK L (amA (tkK L) (a + 2) + 1) = 59 then some (amA (tkK L) (a + 2) + 1 + 1, l, W, A, E, tellS (noteS n (amBad (tkK L) (tkV L) false n (a + 2))) (tkV L a) (amVal (tkK L) (tkV L) n (a + 2))) else none := by
      show (pasS (tkK L) (a + 2)).bind _ = _
      rw [eb]; rfl
    refine em_want sg59 g (fun z τ r => ⟨Or.inl rfl, k0 (by rw [ec, if_neg z]) τ r⟩) (fun z g => ⟨Or.inr rfl, k1 _ _ _ _ _ _ _ (by rw [ec, if_pos z]) ?_ ?_⟩)
    · have := tellS_1 (noteS n (amBad (tkK L) (tkV L) false n (a + 2))) (tkV L a) (amVal (tkK L) (tkV L) n (a + 2))
      have e : (noteS n (amBad (tkK L) (tkV L) false n (a + 2))).1 = n.1 := rfl
      omega
    · rw [tell_flag]
      have e1 : (noteS n (amBad (tkK L) (tkV L) false n (a + 2))).2.2.2 = (n.2.2.2 || amBad (tkK L) (tkV L) false n (a + 2)) := rfl
      have e2 : nFind (noteS n (amBad (tkK L) (tkV L) false n (a + 2))) (tkV L a) = nFind n (tkV L a) := rfl
      rw [e1, e2, ← cst_fb (K := tkK L) (V := tkV L)]
      exact g
  -- behind the LABELS
  have k137 : ∀ (b : Nat) (m : NS) τ, labS (tkK L) (tkV L) 350 a (nI l).toInt64 n = (b, m) → 2 * m.1 ≤ b → ME L T σ0 s b l W A E m (m.2.2.2 || nbB (tkK L) (tkV L) A E l) τ → wB_X9_readStatement_137 post τ := by
    intro b m τ hr hm g
    have es : stmS (tkK L) (tkV L) (a, l, W, A, E, n) = (if tkK L b = 59 then some (b + 1, l, W, A, E, m) else (grdS (tkK L) (tkV L) b).bind (fun g => wordS (tkK L) (tkV L) g.2 g.1 (b, l, W, A, E, m))) := by
      unfold stmS
      rw [if_neg hc]
      show (let r := labS (tkK L) (tkV L) 350 a (nI l).toInt64 n; _) = _
      rw [hr]
    have k210 : ∀ (c gd : Nat) τ, stmS (tkK L) (tkV L) (a, l, W, A, E, n) = wordS (tkK L) (tkV L) gd c (b, l, W, A, E, m) → b ≤ c → ME L T σ0 s c l W A E m (m.2.2.2 || nbB (tkK L) (tkV L) A E l) τ → wB_X9_readStatement_210 post (nI gd).toInt64 τ := by
      intro c gd τ hq hbc g
      obtain ⟨i9, e9⟩ := me_in g
      obtain ⟨hk1, hv1⟩ := tk_12 g.1 g.2.2.1.1 (x := 1) (Or.inl rfl)
      have knone : wrdS (tkK L) (tkV L) gd c l = none → stmS (tkK L) (tkV L) (a, l, W, A, E, n) = none := fun z => by
        rw [hq]
        show (wrdS (tkK L) (tkV L) gd c l).bind _ = none
        rw [z]; rfl
      unfold wB_X9_readStatement_210
      rw [e9]
      refine ⟨i9, fun z => ⟨i9, sp_wordOf ?_⟩, fun z => em_refuse g (fun τ r => ⟨Or.inl rfl, k0 (knone (by unfold wrdS; exact if_neg (fun w => z (hk1.mpr w)))) τ r⟩)⟩
      have z := hk1.mp z
      rw [hv1 z]
      rcases word_eq (tkV L c) with ⟨e1, e2⟩ | ⟨w, hw, e1, e2⟩
      · rw [e1]
        have hnn := knone (by unfold wrdS; rw [if_pos z, e2])
        have r0 : wB_X9_readStatement_274 post τ := em_refuse g (fun τ r => ⟨Or.inl rfl, k0 hnn τ r⟩)
        have r1 : wB_X9_readStatement_264 post τ := em_refuse (post := fun r s => isB r ∧ post r s) (me_adv g (by rw [z]; decide) (by rw [z]; decide)) (fun τ r => ⟨Or.inl rfl, k0 hnn τ r⟩)
        exact ⟨fun _ => em_isNext (by decide) z g (fun _ => ⟨fun _ => em_isNext (by decide) z g (fun _ => ⟨fun _ => r0, fun y => absurd rfl y⟩) (fun _ => ⟨fun y => absurd y (by decide), fun _ => r1⟩), fun y => absurd rfl y⟩) (fun _ => ⟨fun y => absurd y (by decide), fun _ => r1⟩), fun y => absurd rfl y⟩
      · rw [e1]
        refine ⟨fun y => absurd y (nI_ne1 (by omega)), fun _ => em_readWord hw hs z e2 g (fun hn τ r => ⟨fun _ => ⟨Or.inl rfl, k0 (knone hn) τ r⟩, fun y => absurd rfl y⟩) (fun u τ hu g => ⟨fun y => absurd y (by decide), fun _ => ?_⟩)⟩
        have ew : stmS (tkK L) (tkV L) (a, l, W, A, E, n) = if tkK L u.1 = 59 then some (putS (pm w) u (b, l, W, A, E, m)) else none := by
          rw [hq]
          show (wrdS (tkK L) (tkV L) gd c l).bind _ = _
          rw [hu]; rfl
        have hge := wrd_ge hu
        refine em_want sg59 g (fun y τ r => ⟨fun _ => ⟨Or.inl rfl, k0 (by rw [ew, if_neg y]) τ r⟩, fun y => absurd rfl y⟩) (fun y g => ⟨fun x => absurd x (by decide), fun _ => ⟨Or.inr rfl, k1 _ _ _ _ _ _ _ (by rw [ew, if_pos y]) ?_ ?_⟩⟩)
        · show 2 * m.1 ≤ u.1 + 1
          omega
        · show ME L T σ0 s (u.1 + 1) (l + 1) (vp_updL W l u.2.1) (fun k => if k = l then u.2.2 else A k) (fun k => if k = l then pm w else E k) m (m.2.2.2 || nbB (tkK L) (tkV L) (fun k => if k = l then u.2.2 else A k) (fun k => if k = l then pm w else E k) (l + 1)) _
          rw [nbB_put, ← Bool.or_assoc]
          exact g
    have k184 : ¬ tkK L b = 64 → ∀ τ, ME L T σ0 s b l W A E m (m.2.2.2 || nbB (tkK L) (tkV L) A E l) τ → wB_X9_readStatement_184 post 0 τ := by
      intro n64 τ g
      obtain ⟨i9, e9⟩ := me_in g
      obtain ⟨hk1, hv1⟩ := tk_12 g.1 g.2.2.1.1 (x := 1) (Or.inl rfl)
      have eg : grdS (tkK L) (tkV L) b = some (b, 0) := if_neg n64
      rw [eg] at es
      unfold wB_X9_readStatement_184
      rw [e9]
      refine ⟨fun _ => ⟨i9, fun z => ?_, fun z => ?_⟩, fun z => absurd rfl z⟩
      · have z := hk1.mp z
        rw [if_neg (by rw [z]; decide)] at es
        exact k210 b 0 τ es (Nat.le_refl b) g
      · refine em_want sg59 g (fun y τ r => ⟨Or.inl rfl, k0 ?_ τ r⟩) (fun y g => ⟨Or.inr rfl, k1 _ _ _ _ _ _ _ (by rw [es, if_pos y]) (by omega) g⟩)
        rw [es, if_neg y]
        show wordS (tkK L) (tkV L) 0 b (b, l, W, A, E, m) = none
        show (wrdS (tkK L) (tkV L) 0 b l).bind _ = none
        unfold wrdS
        rw [if_neg (fun w => z (hk1.mpr w))]; rfl
    refine em_takes (by decide) g (fun q => ⟨fun _ => k184 q τ g, fun z => absurd rfl z⟩) (fun q g => ⟨fun z => absurd z (by decide), fun _ => ?_⟩)
    have es2 : stmS (tkK L) (tkV L) (a, l, W, A, E, n) = (grdS (tkK L) (tkV L) b).bind (fun g => wordS (tkK L) (tkV L) g.2 g.1 (b, l, W, A, E, m)) := by rw [es, if_neg (by rw [q]; decide)]
    have eg : grdS (tkK L) (tkV L) b = (if tkK L (b + 1) = 33 then (regS (tkK L) (tkV L) 112 3 (b + 2)).map (fun i => (b + 3, 12 + i)) else (regS (tkK L) (tkV L) 112 3 (b + 1)).map (fun i => (b + 2, 8 + i))) := if_pos q
    have k177 : ∀ (c gd : Nat) (t0 : Int32) τ, 8 ≤ gd → gd ≤ 15 → t0 + mI τ 25 = nI gd → stmS (tkK L) (tkV L) (a, l, W, A, E, n) = wordS (tkK L) (tkV L) gd c (b, l, W, A, E, m) → b ≤ c → ME L T σ0 s c l W A E m (m.2.2.2 || nbB (tkK L) (tkV L) A E l) τ → wB_X9_readStatement_177 post t0 τ := by
      intro c gd t0 τ h8 h15 ht hq hbc g x hx
      rw [ht] at hx
      rw [hx]
      have hne : ¬ (nI gd).toInt64 = 0 := co_dec (N := 16) (P := fun gd => 8 ≤ gd → ¬ (nI gd).toInt64 = 0) (by decide +kernel) (show gd < 16 by omega) h8
      exact ⟨fun z => absurd z hne, fun _ => k210 c gd τ hq hbc g⟩
    refine em_takes (by decide) g (fun q2 => ?_) (fun q2 g => ?_)
    · rw [if_neg q2] at eg
      refine em_readRegister (m := 3) (Or.inr ⟨rfl, rfl⟩) g (fun hn τ r => ⟨fun _ => k0 (by rw [es2, eg, hn]; rfl) τ r, fun z => absurd rfl z⟩) (fun i hi him hk => ⟨fun z => absurd z (by decide), fun _ => ⟨fun _ => ?_, fun z => absurd rfl z⟩⟩)
      exact k177 (b + 2) (8 + i) 8 _ (by omega) (by omega) (nI_add 8 i) (by rw [es2, eg, hi]; rfl) (by omega) (me_adv (σ := wI (wI τ 9 (mI τ 9 + 1)) 25 (nI i)) g (by rw [hk]; decide) (by rw [hk]; decide))
    · rw [if_pos q2] at eg
      refine em_readRegister (m := 3) (Or.inr ⟨rfl, rfl⟩) g (fun hn τ r => ⟨fun _ => k0 (by rw [es2, eg, hn]; rfl) τ r, fun z => absurd rfl z⟩) (fun i hi him hk => ⟨fun z => absurd z (by decide), fun _ => ⟨fun z => absurd z (by decide), fun _ => ?_⟩⟩)
      exact k177 (b + 3) (12 + i) 12 _ (by omega) (by omega) (nI_add 12 i) (by rw [es2, eg, hi]; rfl) (by omega) (me_adv (σ := wI _ 25 (nI i)) g (by rw [hk]; decide) (by rw [hk]; decide))
  have main : ∀ (d b : Nat) (m : NS) (τ : MS), L.length ≤ b + 2 * d → labS (tkK L) (tkV L) 350 a (nI l).toInt64 n = labS (tkK L) (tkV L) d b (nI l).toInt64 m → 2 * m.1 ≤ b → ME L T σ0 s b l W A E m (m.2.2.2 || nbB (tkK L) (tkV L) A E l) τ → wL_X9_readStatement_75 post (d + 1) τ := by
    intro d
    induction d with
    | zero =>
      intro b m τ hd hq hm g
      obtain ⟨i9, e9⟩ := me_in g
      obtain ⟨hk1, hv1⟩ := tk_12 g.1 g.2.2.1.1 (x := 1) (Or.inl rfl)
      show wB_X9_readStatement_75 post _ τ
      unfold wB_X9_readStatement_75
      rw [e9]
      exact ⟨i9, fun z => absurd (tk_lt (L := L) (a := b) (by rw [hk1.mp z]; decide)) (by omega), fun _ => k137 b m τ hq hm g⟩
    | succ d ih =>
      intro b m τ hd hq hm g
      obtain ⟨i9, e9⟩ := me_in g
      obtain ⟨hk1, hv1⟩ := tk_12 g.1 g.2.2.1.1 (x := 1) (Or.inl rfl)
      have kno : ¬ (tkK L b = 1 ∧ tkK L (b + 1) = 58) → wB_X9_readStatement_137 post τ := fun z => k137 b m τ (by rw [hq]; exact if_neg z) hm g
      show wB_X9_readStatement_75 post _ τ
      unfold wB_X9_readStatement_75
      rw [e9]
      refine ⟨i9, fun z => ?_, fun z => kno (fun w => z (hk1.mpr w.1))⟩
      have z := hk1.mp z
      refine em_isNext (by decide) z g (fun y => ⟨fun _ => kno (fun w => y w.2), fun x => absurd rfl x⟩) (fun y => ⟨fun x => absurd x (by decide), fun _ => ⟨i9, i9, ?_⟩⟩)
      have hb := tk_lt (L := L) (a := b) (by rw [z]; decide)
      rw [e9, hv1 z, show mI τ 13 = nI l from g.2.2.2.1.2]
      refine em_tell hs (by omega) g (fun τ' g' => ?_)
      have hp1 := pb_name g.1 g.2.2.1.1 z
      have hp2 := pb_next g.1 hp1.1 (by rw [y]; decide) (by rw [y]; decide)
      have g2 : ME L T σ0 s (b + 2) l W A E (tellS m (tkV L b) (nI l).toInt64) ((tellS m (tkV L b) (nI l).toInt64).2.2.2 || nbB (tkK L) (tkV L) A E l) (wI τ' 9 (mI τ' 9 + 2)) := by
        rw [tell_flag, or_rc]
        exact me_go g' hp2.1 (by rw [g'.2.2.1.2]; exact nI_add b 2)
      refine ih (b + 2) _ _ (by omega) (by rw [hq]; exact if_pos ⟨z, y⟩) ?_ g2
      have := tellS_1 m (tkV L b) (nI l).toInt64
      omega
  have k75 : ∃ f, wL_X9_readStatement_75 post f σ := ⟨351, main 350 a n σ (by omega) rfl hn h⟩
  unfold wp_X9_readStatement
  rw [e9]
  exact ⟨i9, fun z => em_isNext (by decide) (hk1.mp z) h (fun y => ⟨fun _ => k75, fun x => absurd rfl x⟩) (fun y => absurd ⟨hk1.mp z, y⟩ hc), fun _ => k75⟩
end MPC
