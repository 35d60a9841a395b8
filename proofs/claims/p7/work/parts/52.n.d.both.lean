/-! both programs side by side: what stands between calls, and that each call keeps it -/
/-- the reference holds the same TAPE, WORDS and NAMES as the class -/
def RG (σ : XS) (s t : Nat) : GhT := fun tp sz kn nc nm mn => (∀ i, i < t → xA σ 0 i = tp i ∧ ∃ m, m < 127 ∧ tp i = nI m) ∧ (∃ c, c ≤ 64 ∧ xI σ 8 = nI c ∧ sz = nI c ∧ ∀ k, k < c → xL σ 6 k = kn k ∧ ckX σ k) ∧ ∃ n, n ≤ 350 ∧ xI σ 7 = nI n ∧ nc s = nI n ∧ ∀ i, i < n → xL σ 4 i = nm (400 * s + i) ∧ xL σ 5 i = mn (400 * s + i)
def II (σ : XS) (β : BS) (τ : MS) : Prop := ∃ s t, s < 2 ∧ t ≤ 700 ∧ XG t σ ∧ BG β ∧ GJ (RG σ s t) s t τ
theorem ty_le {w : Int64} {n : Int32} {t : Nat} (ht : t ≤ 700) (h : tyTakes w n t) : t + n.toNatClampNeg ≤ 700 := by
  obtain ⟨h1, h8, h7, -⟩ := h
  have hp : ¬ n < 0 := fun z => h1 (by
    rw [Int32.lt_iff_toInt_lt] at z ⊢
    have e0 : (0 : Int32).toInt = 0 := rfl
    have e1 : (1 : Int32).toInt = 1 := rfl
    omega)
  obtain ⟨k, hk, rfl⟩ := nI_of hp
  have hk8 : k ≤ 8 := by
    rcases Nat.lt_or_ge 8 k with r | r
    · exact absurd (nI_lt r hk) h8
    · exact r
  rw [nI_clamp hk]
  rw [nI_add] at h7
  exact (nI_leI (by omega) (by decide)).mp h7
theorem gi_typed {s t n : Nat} {τ : MS} {w : Int64} (h : GI s t τ) : GI s (t + n) (mTyped (wI τ 0 0) t n w) := ⟨h.1, rfl, h.2.2.1, h.2.2.2.1, h.2.2.2.2⟩
theorem tApp_rel {f g : Nat → Int32} {t n : Nat} {w : Int64} (h : ∀ i, i < t → f i = g i ∧ ∃ m, m < 127 ∧ g i = nI m) (hb : ∀ k, k < n → byOk w k) : ∀ i, i < t + n → tApp f t n w i = tApp g t n w i ∧ ∃ m, m < 127 ∧ tApp g t n w i = nI m := by
  intro i hi
  unfold tApp
  by_cases c : t ≤ i ∧ i < t + n
  · rw [if_pos c, if_pos c]
    have hk := hb (n - 1 - (i - t)) (by omega)
    have h0 : ¬ byteAt w (n - 1 - (i - t)) < 0 := fun z => hk.1 (by
      rw [Int32.lt_iff_toInt_lt] at z ⊢
      have e0 : (0 : Int32).toInt = 0 := rfl
      have e1 : (32 : Int32).toInt = 32 := rfl
      omega)
    obtain ⟨m, hm, e⟩ := nI_of2 (M := 126) (n := 126) rfl h0 hk.2
    exact ⟨rfl, m, by omega, e⟩
  · rw [if_neg c, if_neg c]
    exact h i (by omega)
section BOTH
variable {σ : XS} {β : BS} {τ : MS}
theorem bo_type {w : Int64} {n : Int32} {P : Int32 → XS → Int32 → MS → Prop} (h : II σ β τ) (k : ∀ r σ' τ', II σ' β τ' → P r σ' r τ') : wp_X8_type (fun r1 u1 => wp_X9_type (fun r2 u2 => P r1 u1 r2 u2) w n τ) w n σ := by
  obtain ⟨s, t, hs, ht, hX, hB, hG, hR⟩ := h
  refine sx_type hX.2.1 ht (fun no => sp_type hG.2.1 ht (fun _ => k 0 _ _ ⟨s, t, hs, ht, hX, hB, hG, hR⟩) (fun y => absurd y no)) (fun y => sp_type hG.2.1 ht (fun no => absurd y no) (fun _ => k 1 _ _ ⟨s, t + n.toNatClampNeg, hs, ty_le ht y, xg_typed hX, hB, gi_typed hG, ?_⟩))
  have e1 : xA (xTyped σ t n.toNatClampNeg w) 0 = tApp (xA σ 0) t n.toNatClampNeg w := by
    unfold xTyped; rw [xA_yI, xA_yAs, if_pos rfl]
  have e2 : mA (mTyped (wI τ 0 0) t n.toNatClampNeg w) 1 = tApp (mA τ 1) t n.toNatClampNeg w := by
    unfold mTyped; rw [mA_wI, mA_wAs, if_pos rfl, mA_wI]
  unfold gh RG
  rw [e1, e2]
  exact ⟨tApp_rel hR.1 y.2.2.2, hR.2.1, hR.2.2⟩
theorem bo_compile {P : Int32 → XS → Int32 → MS → Prop} {PX : XS → Int32 → MS → Prop} (h : II σ β τ) (k : ∀ r σ' τ', mI τ' 0 = 0 → II σ' β τ' → P r σ' r τ') (kx : ∀ σ' r τ', mI τ' 0 = 1 → II σ' β τ' → PX σ' r τ') : wp_X8_compile (fun r1 u1 => wp_X9_compile (fun r2 u2 => P r1 u1 r2 u2) τ) (fun u1 => wp_X9_compile (fun r2 u2 => PX u1 r2 u2) τ) σ := by
  obtain ⟨s, t, hs, ht, hX, hB, hG, hR⟩ := h
  have hf : ∀ i, i < t → xA σ 0 i = mA τ 1 i := fun i hi => (hR.1 i hi).1
  have hc : ∀ i, i < t → ∃ m, m < 127 ∧ mA τ 1 i = nI m := fun i hi => (hR.1 i hi).2
  refine xe_compileC ht hX hf hc (fun q σ' g ks => em_compile hs ht hG (fun _ _ => rfl) (fun _ τ' F e0 => kx _ _ _ e0 ⟨s, 0, hs, by omega, g, hB, F.1, ?_⟩) (fun st τ' ho => absurd (q.symm.trans ho) (fun z => by cases z))) (fun st σ' q hl hn g K => em_compile hs ht hG (fun _ _ => rfl) (fun ho => absurd (ho.symm.trans q) (fun z => by cases z)) (fun st' τ' ho _ _ g' e0 K' => ?_))
  · obtain ⟨k7, k8, k4, k5, l4, l5, l6, q1⟩ := ks
    obtain ⟨-, f11, f10, f15, fn⟩ := F
    obtain ⟨-, ⟨c, hc, c1, c2, c3⟩, n, hn, n1, n2, n3⟩ := hR
    unfold gh RG
    have hck : ∀ k, ckX σ k → ckX σ' k := fun k h => by unfold ckX; rw [l6, q1, k4, k5]; exact h
    rw [k8, l6, k7, l4, l5, f11, f10, f15]
    refine ⟨fun i hi => absurd hi (Nat.not_lt_zero i), ⟨c, hc, c1, c2, fun k hk => ⟨(c3 k hk).1, hck k (c3 k hk).2⟩⟩, n, hn, n1, n2, fun i hi => ?_⟩
    obtain ⟨a1, a2⟩ := fn i (by omega)
    rw [a1, a2]
    exact n3 i hi
  · have e : st = st' := Option.some.inj (q.symm.trans ho)
    subst e
    obtain ⟨⟨x8, x6, x7, x45⟩, xC⟩ := K
    obtain ⟨m11, m10, m15, m67⟩ := K'
    refine k _ _ _ e0 ⟨1 - s, 0, by omega, by omega, g, hB, g', fun i hi => absurd hi (Nat.not_lt_zero i), ⟨_, hl, x8, m11, fun k hk => ⟨(x6 k hk).trans (m10 k hk).symm, xC k hk⟩⟩, _, hn, x7, m15, fun i hi => ?_⟩
    obtain ⟨a1, a2⟩ := x45 i hi
    obtain ⟨b1, b2⟩ := m67 i hi
    exact ⟨a1.trans b1.symm, a2.trans b2.symm⟩
theorem bo_set {x : Int32} {w : Int64} {P : Int32 → XS → Int32 → MS → Prop} (h : II σ β τ) (k : ∀ r σ' τ', II σ' β τ' → P r σ' r τ') : wp_X8_set (fun r1 u1 => wp_X9_set (fun r2 u2 => P r1 u1 r2 u2) x w τ) x w σ := by
  obtain ⟨s, t, hs, ht, hX, hB, hG, hR⟩ := id h
  obtain ⟨r1, ⟨c, hc, c1, c2, c3⟩, r3⟩ := id hR
  have c2 : mI τ 11 = nI c := c2
  have hk : ∀ r, P r σ r (wI τ 0 0) := fun r => k r _ _ ⟨s, t, hs, ht, hX, hB, hG, hR⟩
  by_cases q1 : x < 0
  · exact ⟨fun _ => ⟨fun _ => hk 0, fun z => absurd q1 z⟩, fun z => absurd q1 z⟩
  obtain ⟨j, hj, rfl⟩ := nI_of q1
  by_cases q2 : c < j
  · exact ⟨fun z => absurd z q1, fun _ => ⟨fun _ => ⟨fun z => absurd z q1, fun _ => ⟨fun _ => hk 0, fun z => absurd (by rw [c2]; exact nI_lt q2 hj) z⟩⟩, fun z => absurd (by rw [c1]; exact nI_lt q2 hj) z⟩⟩
  have nx : ¬ xI σ 8 < nI j := by rw [c1]; exact Int32.not_lt.mpr (nI_le (by omega) (by omega))
  have nm : ¬ mI τ 11 < nI j := by rw [c2]; exact Int32.not_lt.mpr (nI_le (by omega) (by omega))
  by_cases q3 : j < 64
  · refine ⟨fun z => absurd z q1, fun _ => ⟨fun z => absurd z nx, fun _ => ⟨fun _ => ?_, fun z => absurd (nI_lt (b := 64) q3 (by decide)) z⟩⟩⟩
    refine xe_put c1 (by omega) q3 hc (fun o a b ho ha hb => ?_)
    have hX' : XG t (yI (yA (yA (yQ (yL σ 6 j w) 1 j o) 4 j a) 5 j b) 8 (nI (max c (j + 1)))) := ⟨⟨⟨max c (j + 1), by omega, rfl⟩, hX.1.2.1, xq_put (isOf_lt ho) hX.1.2.2⟩, hX.2.1, hX.2.2.1, hX.2.2.2⟩
    have fin : ∀ v : Int32, v = nI (max c (j + 1)) → P 1 (yI (yA (yA (yQ (yL σ 6 j w) 1 j o) 4 j a) 5 j b) 8 (nI (max c (j + 1)))) 1 (wI (wL (wI τ 0 0) 10 j w) 11 v) := by
      intro v hv
      refine k 1 _ _ ⟨s, t, hs, ht, hX', hB, ⟨hG.1, hG.2.1, ⟨max c (j + 1), by omega, hv⟩, hG.2.2.2.1, hG.2.2.2.2⟩, ?_⟩
      refine ⟨r1, ⟨max c (j + 1), by omega, rfl, hv, fun i hi => ⟨?_, ck_put ho ha hb (fun q => (c3 i (by omega)).2)⟩⟩, r3⟩
      rw [mL_wI, mL_wL, if_pos rfl, xL_yI, xL_yA, xL_yA, xL_yQ, xL_yL, if_pos rfl]
      unfold vp_updL
      by_cases e : i = j
      · rw [if_pos e, if_pos e]
      · rw [if_neg e, if_neg e]
        exact (c3 i (by omega)).1
    refine ⟨fun z => absurd z q1, fun _ => ⟨fun z => absurd z nm, fun _ => ⟨fun z => ?_, fun _ => ⟨vp_in_nI (by omega) (by decide), fun z => ?_, fun z => ?_⟩⟩⟩⟩
    · have : j = 64 := (nI_eq (b := 64) hj (by decide)).mp z
      omega
    · rw [c2] at z
      have e : j = c := (nI_eq hj (by omega)).mp z
      unfold wB_X9_set_50
      rw [nI_clamp hj, c2]
      exact fin _ (by rw [nI_1, show max c (j + 1) = c + 1 by omega])
    · rw [c2] at z
      have e : j ≠ c := fun q => z (by rw [q])
      unfold wB_X9_set_50
      rw [nI_clamp hj, c2]
      exact fin _ (by rw [show max c (j + 1) = c by omega]; exact nI_add c 0)
  · have e64 : j = 64 := by omega
    subst e64
    exact ⟨fun z => absurd z q1, fun _ => ⟨fun z => absurd z nx, fun _ => ⟨fun z => absurd z (by decide), fun _ => ⟨fun z => absurd z q1, fun _ => ⟨fun z => absurd z nm, fun _ => ⟨fun _ => hk 0, fun z => absurd rfl z⟩⟩⟩⟩⟩⟩
theorem bo_word {x : Int32} {P : Int64 → XS → Int64 → MS → Prop} {PX : XS → Int64 → MS → Prop} (h : II σ β τ) (k : ∀ r τ', mI τ' 0 = 0 → II σ β τ' → P r σ r τ') (kx : ∀ r τ', mI τ' 0 = 1 → II σ β τ' → PX σ r τ') : wp_X8_word (fun r1 u1 => wp_X9_word (fun r2 u2 => P r1 u1 r2 u2) x τ) (fun u1 => wp_X9_word (fun r2 u2 => PX u1 r2 u2) x τ) x σ := by
  obtain ⟨s, t, hs, ht, hX, hB, hG, hR⟩ := id h
  obtain ⟨r1, ⟨c, hc, c1, c2, c3⟩, r3⟩ := id hR
  have c2 : mI τ 11 = nI c := c2
  have c3 : ∀ k, k < c → xL σ 6 k = mL τ 10 k := fun k hk => (c3 k hk).1
  have hk : ∀ v : Int32, II σ β (wI τ 0 v) := fun v => ⟨s, t, hs, ht, hX, hB, hG, hR⟩
  have bad : (x < 0 ∨ nI c ≤ x) → wp_X9_word (fun r2 u2 => PX σ r2 u2) x τ := fun q => by
    have f : isB 0 ∧ ((0 : Int32) = 0 → wB_X9_word_14 (fun r2 u2 => PX σ r2 u2) x 1 τ) ∧ (¬ (0 : Int32) = 0 → wB_X9_word_14 (fun r2 u2 => PX σ r2 u2) x 0 τ) := ⟨Or.inl rfl, fun _ => ⟨fun z => absurd z (by decide), fun _ => kx _ _ rfl (hk 1)⟩, fun z => absurd rfl z⟩
    exact ⟨fun _ => f, fun z => ⟨fun _ => f, fun z2 => absurd (by rw [c2]; exact q.resolve_left z) z2⟩⟩
  refine ⟨fun z => ⟨Or.inl rfl, fun _ => bad (Or.inl z), fun z => absurd rfl z⟩, fun z => ⟨fun z2 => ⟨Or.inl rfl, fun _ => bad (Or.inr (by rw [c1] at z2; exact z2)), fun z => absurd rfl z⟩, fun z2 => ⟨Or.inr rfl, fun z => absurd z (by decide), fun _ => ?_⟩⟩⟩
  obtain ⟨j, hj, rfl⟩ := nI_of z
  rw [c1] at z2
  have hlt : j < c := by
    rcases Nat.lt_or_ge j c with r | r
    · exact r
    · exact absurd (nI_le r hj) z2
  have iv : vp_in (nI j) 64 := vp_in_nI (by omega) (by decide)
  refine ⟨iv, fun q => absurd q z, fun _ => ⟨fun q => absurd (by rw [c2] at q; exact q) z2, fun _ => ⟨Or.inr rfl, fun q => absurd q (by decide), fun _ => ⟨fun _ => ⟨iv, ?_⟩, fun q => absurd rfl q⟩⟩⟩⟩
  rw [nI_clamp hj, c3 j hlt]
  exact k _ _ rfl (hk 0)
theorem xe_names {post : Int32 → XS → Prop} {v : Int64} {n : NS} (hn : n.1 ≤ 350) (e : xI σ 7 = nI n.1) (hN : ∀ i, i < n.1 → xL σ 4 i = n.2.1 i) (h0 : nFind n v = none → post (-1) σ) (h1 : ∀ j, nFind n v = some j → j < n.1 → post (nI j) σ) : wp_X1_find_names post v σ := by
  have main : ∀ (d j : Nat), j + d = n.1 → nFind n v = nfF n.2.1 v d j → wL_X1_find_names_2 post (d + 1) v (nI j) σ := by
    intro d
    induction d with
    | zero => intro j hj hq; exact ⟨fun _ => h0 hq, fun z => absurd (by rw [e]; exact nI_le (by omega) (by omega)) z⟩
    | succ d ih =>
      intro j hj hq
      have ej : (nI j).toNatClampNeg = j := nI_clamp (by omega)
      refine ⟨fun z => absurd z (by rw [e]; exact nI_ge (by omega) (by omega)), fun _ => ⟨vp_in_nI (by omega) (by decide), fun e => ?_, fun e => fun x hx => ?_⟩⟩
      · rw [ej, hN j (by omega)] at e
        exact h1 j (by rw [hq]; exact if_pos e) (by omega)
      · rw [ej, hN j (by omega)] at e
        rw [hx, nI_1]
        exact ih (j + 1) (by omega) (by rw [hq]; exact if_neg e)
  exact ⟨n.1 + 1, main n.1 0 (by omega) rfl⟩
theorem bo_name {x : Int64} {P : Int32 → XS → Int32 → MS → Prop} {PX : XS → Int32 → MS → Prop} (h : II σ β τ) (k : ∀ r τ', mI τ' 0 = 0 → II σ β τ' → P r σ r τ') (kx : ∀ r τ', mI τ' 0 = 1 → II σ β τ' → PX σ r τ') : wp_X8_name (fun r1 u1 => wp_X9_name (fun r2 u2 => P r1 u1 r2 u2) x τ) (fun u1 => wp_X9_name (fun r2 u2 => PX u1 r2 u2) x τ) x σ := by
  obtain ⟨s, t, hs, ht, hX, hB, hG, hR⟩ := id h
  obtain ⟨r1, r2, n, hn, n1, n2, n3⟩ := id hR
  have n2 : mA τ 15 s = nI n := n2
  have hk : ∀ v : Int32, II σ β (wI τ 0 v) := fun v => ⟨s, t, hs, ht, hX, hB, hG, hR⟩
  have e2 : 1 - (1 - s) = s := by omega
  have hN : MNm (1 - s) (n, xL σ 4, xL σ 5, false) τ := by
    unfold MNm
    rw [e2]
    exact ⟨hn, n2, fun i hi => ⟨(n3 i hi).1.symm, (n3 i hi).2.symm⟩⟩
  have fm : ∀ {post : Int32 → MS → Prop}, (nFind (n, xL σ 4, xL σ 5, false) x = none → wB_X9_name_21 post (-1) 1 τ) → (∀ j, nFind (n, xL σ 4, xL σ 5, false) x = some j → j < n → wB_X9_name_21 post (nI (400 * s + j)) 0 τ) → wp_X9_name post x τ := by
    intro post g0 g1
    unfold wp_X9_name
    have := em_find (s := 1 - s) (v := x) (post := fun r_1 σ_2 => (r_1 = (-1) → (wB_X9_name_21 post r_1 1 σ_2)) ∧ (¬ r_1 = (-1) → (wB_X9_name_21 post r_1 0 σ_2))) (by omega) hN (fun q => ⟨fun _ => g0 q, fun z => absurd rfl z⟩) (fun j q hj => by
      have hj : j < n := hj
      rw [e2]
      exact ⟨fun z => absurd z (nI_ne1 (by omega)), fun _ => g1 j q hj⟩)
    rw [e2] at this
    rw [hG.1]
    exact this
  refine xe_names (n := (n, xL σ 4, xL σ 5, false)) hn n1 (fun _ _ => rfl) (fun q => ⟨fun _ => fm (fun _ => ⟨fun _ => kx _ _ rfl (hk 1), fun z => absurd rfl z⟩) (fun j q2 _ => absurd (q.symm.trans q2) (fun z => by cases z)), fun z => absurd rfl z⟩) (fun j q hj => ?_)
  have hj : j < n := hj
  refine ⟨fun z => absurd z (nI_ne1 (by omega)), fun _ => ⟨vp_in_nI (by omega) (by decide), fm (fun q2 => absurd (q2.symm.trans q) (fun z => by cases z)) (fun j' q2 _ => ?_)⟩⟩
  have e : j = j' := Option.some.inj (q.symm.trans q2)
  subst e
  refine ⟨fun z => absurd z (nI_ne1 (by omega)), fun _ => ⟨vp_in_nI (by omega) (by decide), ?_⟩⟩
  rw [nI_clamp (by omega), nI_clamp (by omega), (n3 j hj).2]
  exact k _ _ rfl (hk 0)
/-! the other calls, where nothing is compared -/
theorem bo_fault {x : Int32} {P : Int32 → XS → Int32 → MS → Prop} (h : II σ β τ) (k : ∀ r r' τ', II σ β τ' → P r σ r' τ') : wp_X8_fault (fun r1 u1 => wp_X9_fault (fun r2 u2 => P r1 u1 r2 u2) x τ) x σ := by
  obtain ⟨s, t, hs, ht, hX, hB, hG⟩ := h
  exact sx_fault (fun r => sm_fault hG (fun b τ' g => k _ _ _ ⟨s, t, hs, ht, hX, hB, g⟩))
theorem bo_letter {x i : Int32} {P : Int32 → XS × BS → Int32 → MS → Prop} (h : II σ β τ) (k : ∀ r r' γ τ', II σ γ τ' → P r (σ, γ) r' τ') : wp_X8_letter (fun r1 u1 => wp_X9_letter (fun r2 u2 => P r1 u1 r2 u2) x i τ) x i σ β := by
  obtain ⟨s, t, hs, ht, hX, hB, hG⟩ := h
  exact sx_letter hX.1 hB (fun r γ g => sm_letter hG (fun b τ' g' => k _ _ _ _ ⟨s, t, hs, ht, hX, g, g'⟩))
theorem bo_way {x i : Int32} {P : Int32 → XS → Int32 → MS → Prop} (h : II σ β τ) (k : ∀ r r' τ', II σ β τ' → P r σ r' τ') : wp_X8_way (fun r1 u1 => wp_X9_way (fun r2 u2 => P r1 u1 r2 u2) x i τ) x i σ := by
  obtain ⟨s, t, hs, ht, hX, hB, hG⟩ := h
  exact sx_way hX.1 (fun r => sm_way hG (fun b τ' g => k _ _ _ ⟨s, t, hs, ht, hX, hB, g⟩))
theorem bo_reached {x : Int32} {P : Int32 → XS → Int32 → MS → Prop} (h : II σ β τ) (k : ∀ r r' τ', II σ β τ' → P r σ r' τ') : wp_X8_reached (fun r1 u1 => wp_X9_reached (fun r2 u2 => P r1 u1 r2 u2) x τ) x σ := by
  obtain ⟨s, t, hs, ht, hX, hB, hG⟩ := h
  obtain ⟨z, hz, hQ⟩ := hG.q
  exact sx_reached hX.1 (fun r _ => sm_reached hz hQ (fun τ' g => k _ _ _ ⟨s, t, hs, ht, hX, hB, g.1⟩) (fun b τ' _ _ g => k _ _ _ ⟨s, t, hs, ht, hX, hB, g.1⟩))
theorem bo_live {x i : Int32} {P : Int32 → XS → Int32 → MS → Prop} (h : II σ β τ) (k : ∀ r r' τ', II σ β τ' → P r σ r' τ') : wp_X8_live (fun r1 u1 => wp_X9_live (fun r2 u2 => P r1 u1 r2 u2) x i τ) x i σ := by
  obtain ⟨s, t, hs, ht, hX, hB, hG⟩ := h
  obtain ⟨z, hz, hQ⟩ := hG.q
  exact sx_live hX.1 (fun r _ => sm_live hz hQ (fun b τ' _ g => k _ _ _ ⟨s, t, hs, ht, hX, hB, g.1⟩))
theorem bo_meet {x : Int32} {P : Int32 → XS → Int32 → MS → Prop} (h : II σ β τ) (k : ∀ r r' τ', II σ β τ' → P r σ r' τ') : wp_X8_meet (fun r1 u1 => wp_X9_meet (fun r2 u2 => P r1 u1 r2 u2) x τ) x σ := by
  obtain ⟨s, t, hs, ht, hX, hB, hG⟩ := h
  obtain ⟨z, hz, hQ⟩ := hG.q
  exact sx_meet hX.1 (fun r => sm_meet hz hQ (fun b τ' g => k _ _ _ ⟨s, t, hs, ht, hX, hB, g.1⟩))
theorem bo_total {x : Int32} {P : Int32 → XS → Int32 → MS → Prop} (h : II σ β τ) (k : ∀ r r' τ', II σ β τ' → P r σ r' τ') : wp_X8_total (fun r1 u1 => wp_X9_total (fun r2 u2 => P r1 u1 r2 u2) x τ) x σ := by
  obtain ⟨s, t, hs, ht, hX, hB, hG⟩ := h
  obtain ⟨z, hz, hQ⟩ := hG.q
  exact sx_total hX.1 (fun r => sm_total hs hz hQ (fun b τ' g => k _ _ _ ⟨s, t, hs, ht, hX, hB, g.1⟩))
end BOTH
