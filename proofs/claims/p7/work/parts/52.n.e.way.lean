/-! WAYS on, by the class and by the reference -/
def oI (o : Option Nat) (z : Int32) : Int32 := match o with
  | none => z
  | some t => nI t
abbrev lst (e : Nat) : Prop := e = 0 ∨ e = 1 ∨ e = 38
def gB (x : Int64) : Bool := !decide (((x >>> ((20 : Int32).toInt64 &&& 63)) &&& 15) = 0)
theorem gB_t {x : Int64} (h : gd x) : gB x = true := by unfold gB; rw [decide_eq_false h]; rfl
theorem gB_f {x : Int64} (h : ¬ gd x) : gB x = false := by
  have h : ((x >>> ((20 : Int32).toInt64 &&& 63)) &&& 15) = 0 := Classical.byContradiction h
  unfold gB; rw [decide_eq_true h]; rfl
theorem gB_gd {x : Int64} : gB x = true ↔ gd x := ⟨fun h => Classical.byContradiction (fun z => by rw [gB_f z] at h; cases h), gB_t⟩
def wy0 (o : Option Nat) (x : Int64) (k : Nat) : Option Nat := match o with
  | none => none
  | some e => if jmp e = true then some (fN x).toNatClampNeg else if lst e ∧ gB x = false then none else some (k + 1)
def wy1 (o : Option Nat) (x : Int64) (k : Nat) : Option Nat := match o with
  | none => none
  | some e => if jmp e = true ∧ gB x = true then some (k + 1) else none
theorem xe_isJump {post : Int32 → Prop} {e : Nat} (he : e < 53) (h1 : jmp e = true → post 1) (h0 : jmp e = false → post 0) : wp_X2_isJump post e := by
  refine ⟨he, fun q => ⟨Or.inr rfl, h1 (decide_eq_true (Or.inl q))⟩, fun q => ⟨he, fun q2 => ⟨Or.inr rfl, h1 (decide_eq_true (Or.inr q2))⟩, fun q2 => ⟨Or.inl rfl, h0 (decide_eq_false (fun z => z.elim q q2))⟩⟩⟩
theorem xe_isLast {post : Int32 → Prop} {e : Nat} (he : e < 53) (h1 : lst e → post 1) (h0 : ¬ lst e → post 0) : wp_X2_isLast post e := by
  refine ⟨he, fun q => ⟨Or.inr rfl, h1 (Or.inl q)⟩, fun q => ⟨he, fun q2 => ⟨Or.inr rfl, h1 (Or.inr (Or.inl q2))⟩, fun q2 => ⟨he, fun q3 => ⟨Or.inr rfl, h1 (Or.inr (Or.inr q3))⟩, fun q3 => ⟨Or.inl rfl, h0 (fun z => z.elim q (fun z => z.elim q2 q3))⟩⟩⟩⟩
theorem jmp_to {e : Nat} {x : Int64} (he : e < 53) (hm : mkP e x) (hj : jmp e = true) : ∃ t, t ≤ 63 ∧ fN x = nI t := by
  have ht : hX e 116 = true := by
    rcases (of_decide_eq_true hj : e = 36 ∨ e = 37) with q | q <;> rw [q] <;> decide +kernel
  obtain ⟨j, hj, ej⟩ := hX_iff.mp ht
  have ho := hm.2.2.1 j hj
  rw [ej] at ho
  have h2 := ((okX_let (c := 116) (by decide)).mp (ho.resolve_left (by decide))).2.2.2.1 rfl
  obtain ⟨t, ht, e⟩ := nI_of2 (M := 63) (n := 63) rfl h2.1 h2.2
  exact ⟨t, ht, e⟩
theorem wy0_le {o : Option Nat} {x : Int64} {k t : Nat} (ho : isOf x o) (hk : k < 64) (h : wy0 o x k = some t) : t ≤ 64 := by
  cases o with
  | none => cases h
  | some e =>
    unfold wy0 at h
    dsimp only at h
    split at h
    · rename_i q
      obtain ⟨t', ht', e'⟩ := jmp_to ho.1 ho.2.1 q
      rw [e', nI_clamp (by omega)] at h
      cases h; omega
    · split at h
      · cases h
      · cases h; omega
theorem wy1_eq {o : Option Nat} {x : Int64} {k t : Nat} (h : wy1 o x k = some t) : t = k + 1 := by
  cases o with
  | none => cases h
  | some e =>
    unfold wy1 at h
    dsimp only at h
    split at h
    · cases h; rfl
    · cases h
section WX
variable {σ : XS} {c k : Nat} {post : Int32 → XS → Prop}
theorem xe_hasT (hc : c ≤ 64) (e : xI σ 8 = nI c) (hk : k < c) (h : post 1 σ) : wp_X0_has post (nI k) σ :=
  ⟨fun z => absurd z (nI_pos (by omega)), fun _ => ⟨fun z => absurd z (by rw [e]; exact nI_ge hk (by omega)), fun _ => ⟨Or.inr rfl, h⟩⟩⟩
theorem xe_hasF {v : Int32} (hc : c ≤ 64) (e : xI σ 8 = nI c) (hn : ∀ j, j < c → ¬ v = nI j) (h : post 0 σ) : wp_X0_has post v σ := by
  refine ⟨fun _ => ⟨Or.inl rfl, h⟩, fun z => ⟨fun _ => ⟨Or.inl rfl, h⟩, fun z2 => ?_⟩⟩
  obtain ⟨j, hj, rfl⟩ := nI_of z
  rw [e] at z2
  have hlt : j < c := by
    rcases Nat.lt_or_ge j c with r | r
    · exact r
    · exact absurd (nI_le r hj) z2
  exact absurd rfl (hn j hlt)
/-- either it is a PLACE or none -/
theorem xe_hasC {v : Int32} (hc : c ≤ 64) (e : xI σ 8 = nI c) (h1 : ∀ j, j < c → v = nI j → post 1 σ) (h0 : (∀ j, j < c → ¬ v = nI j) → post 0 σ) : wp_X0_has post v σ := by
  rcases Classical.em (∃ j, j < c ∧ v = nI j) with ⟨j, hj, q⟩ | q
  · rw [q]; exact xe_hasT hc e hj (h1 j hj q)
  · have hn : ∀ j, j < c → ¬ v = nI j := fun j hj z => q ⟨j, hj, z⟩
    exact xe_hasF hc e hn (h0 hn)
theorem xe_first (hc : c ≤ 64) (e : xI σ 8 = nI c) (hk : k < c) (hck : ckX σ k) (h : post (oI (wy0 (xQ σ 1 k) (xL σ 6 k) k) (-1)) σ) : wp_X7_first post (nI k) σ := by
  have hv : vp_in (nI k) 64 := vp_in_nI (by omega) (by decide)
  have ho := hck.1
  refine xe_hasT hc e hk ⟨fun z => absurd z (by decide), fun _ => ?_⟩
  rw [nI_clamp (by omega)]
  generalize hq : xQ σ 1 k = o at *
  cases o with
  | none => exact ⟨hv, fun _ => h, fun e z => by cases z⟩
  | some a =>
    refine ⟨hv, fun z => (by cases z), fun _ _ => ⟨hv, fun z => (by cases z), fun a' z => ?_⟩⟩
    cases z
    unfold wy0 at h
    dsimp only at h
    refine ⟨ho.1, xe_isJump ho.1 (fun hj => ⟨fun z => absurd z (by decide), fun _ => ⟨hv, spx_fld ?_⟩⟩) (fun hj => ⟨fun _ => ⟨hv, fun z => (by cases z), fun a' z => ?_⟩, fun z => absurd rfl z⟩)⟩
    · rw [if_pos hj] at h
      obtain ⟨t, ht, e'⟩ := jmp_to ho.1 ho.2.1 hj
      have e2 : fldX 116 (xL σ 6 k) = oI (some (fN (xL σ 6 k)).toNatClampNeg) (-1) := by
        show fN (xL σ 6 k) = nI (fN (xL σ 6 k)).toNatClampNeg
        rw [e', nI_clamp (by omega)]
      rw [e2]; exact h
    · cases z
      rw [if_neg (by rw [hj]; decide)] at h
      refine ⟨ho.1, xe_isLast ho.1 (fun hl => ⟨fun z => absurd z (by decide), fun _ => ⟨hv, xe_guarded (fun hg => ⟨fun _ => ?_, fun z => absurd rfl z⟩) (fun hg => ⟨fun z => absurd z (by decide), fun _ => ?_⟩)⟩⟩) (fun hl => ⟨fun _ => ?_, fun z => absurd rfl z⟩)⟩
      · rw [if_pos ⟨hl, gB_f hg⟩] at h; exact h
      · rw [if_neg (fun z => by rw [gB_t hg] at z; cases z.2)] at h
        show post (nI k + 1) σ
        rw [nI_1]; exact h
      · rw [if_neg (fun z => hl z.1)] at h
        show post (nI k + 1) σ
        rw [nI_1]; exact h
theorem xe_second (hc : c ≤ 64) (e : xI σ 8 = nI c) (hk : k < c) (hck : ckX σ k) (h : post (oI (wy1 (xQ σ 1 k) (xL σ 6 k) k) (-1)) σ) : wp_X7_second post (nI k) σ := by
  have hv : vp_in (nI k) 64 := vp_in_nI (by omega) (by decide)
  have ho := hck.1
  refine xe_hasT hc e hk ⟨fun z => absurd z (by decide), fun _ => ?_⟩
  rw [nI_clamp (by omega)]
  generalize hq : xQ σ 1 k = o at *
  cases o with
  | none => exact ⟨hv, fun _ => h, fun e z => by cases z⟩
  | some a =>
    refine ⟨hv, fun z => (by cases z), fun _ _ => ⟨hv, fun z => (by cases z), fun a' z => ?_⟩⟩
    cases z
    unfold wy1 at h
    dsimp only at h
    refine ⟨ho.1, xe_isJump ho.1 (fun hj => ⟨fun z => absurd z (by decide), fun _ => ⟨hv, xe_guarded (fun hg => ⟨fun _ => ?_, fun z => absurd rfl z⟩) (fun hg => ⟨fun z => absurd z (by decide), fun _ => ?_⟩)⟩⟩) (fun hj => ⟨fun _ => ?_, fun z => absurd rfl z⟩)⟩
    · rw [if_neg (fun z => by rw [gB_f hg] at z; cases z.2)] at h; exact h
    · rw [if_pos ⟨hj, gB_t hg⟩] at h
      show post (nI k + 1) σ
      rw [nI_1]; exact h
    · rw [if_neg (fun z => by rw [hj] at z; cases z.1)] at h; exact h
theorem xe_firstF {v : Int32} (hc : c ≤ 64) (e : xI σ 8 = nI c) (hn : ∀ j, j < c → ¬ v = nI j) (h : post (-1) σ) : wp_X7_first post v σ := xe_hasF hc e hn ⟨fun _ => h, fun z => absurd rfl z⟩
theorem xe_secondF {v : Int32} (hc : c ≤ 64) (e : xI σ 8 = nI c) (hn : ∀ j, j < c → ¬ v = nI j) (h : post (-1) σ) : wp_X7_second post v σ := xe_hasF hc e hn ⟨fun _ => h, fun z => absurd rfl z⟩
end WX
/-! the reference -/
theorem pm_way : ∀ w, w < 53 → ((opC w = 40 ∨ opC w = 41) ↔ jmp (pm w) = true) ∧ ((opC w = 0 ∨ opC w = 42) ↔ lst (pm w)) := by decide +kernel
theorem b15w : ∀ i, i < 64 → bt 15 i = decide (i < 4) := by decide +kernel
theorem fG_gd {x : Int64} : fG x ≤ 0 ↔ ¬ gd x := by
  have h1 := f32_iff x 0 ((20 : Int32).toInt64 &&& 63) 15 (s := 20) (k := 4) (by decide) (by omega) (by omega) b15
  have h2 := f64_iff x 0 ((20 : Int32).toInt64 &&& 63) 15 (s := 20) (k := 4) (by decide) (by omega) b15w
  have z1 : (((0 : Int64) >>> ((20 : Int32).toInt64 &&& 63)) &&& 15).toInt32 = 0 := by decide
  have z2 : ((0 : Int64) >>> ((20 : Int32).toInt64 &&& 63)) &&& 15 = 0 := by decide
  rw [z1] at h1
  rw [z2] at h2
  have h3 : fG x = 0 ↔ ((x >>> ((20 : Int32).toInt64 &&& 63)) &&& 15) = 0 := h1.trans h2.symm
  obtain ⟨j, hj, e⟩ := fG_nib x
  have h4 : fG x ≤ 0 ↔ fG x = 0 := by
    rw [e]
    have : ∀ j, j < 16 → (nI j ≤ 0 ↔ nI j = 0) := by decide +kernel
    exact this j hj
  rw [h4, h3]
  exact ⟨fun z y => y z, fun z => Classical.byContradiction z⟩
section WM
variable {τ : MS} {k : Nat} {x : Int64} {o : Option Nat} {post : Int32 → MS → Prop}
theorem em_guarded (hk : k < 64) (hx : mL τ 10 k = x) (h0 : ¬ gd x → post 0 τ) (h1 : gd x → post 1 τ) : wp_X9_isGuarded post (nI k) τ := by
  unfold wp_X9_isGuarded
  rw [nI_clamp (by omega), hx]
  exact ⟨vp_in_nI hk (by decide), fun q => ⟨Or.inl rfl, h0 (fG_gd.mp q)⟩, fun q => ⟨Or.inr rfl, h1 (Classical.byContradiction (fun z => q (fG_gd.mpr z)))⟩⟩
theorem em_way0 (hk : k < 64) (hx : mL τ 10 k = x) (ho : isOf x o) (h : post (oI (wy0 o x k) (-2)) τ) : wp_X9_wayOf post (nI k) 0 τ := by
  have hv : vp_in (nI k) 64 := vp_in_nI hk (by decide)
  unfold wp_X9_wayOf
  rw [nI_clamp (by omega), hx]
  refine ⟨hv, em_listed (fun g => ⟨fun _ => ?_, fun z => absurd rfl z⟩) (fun w hw g => ⟨fun z => absurd z (nI_ne1 (by omega)), fun _ => sp_opOf hw ?_⟩)⟩
  · rw [isOf_inj ho g] at h; exact h
  · rw [isOf_inj ho g] at h
    obtain ⟨p1, p2⟩ := pm_way w hw
    unfold wy0 at h
    dsimp only at h
    have kj : (opC w = 40 ∨ opC w = 41) → wB_X9_wayOf_38 post (nI k) 0 (opC w) τ := fun q => ⟨fun z => absurd z (by decide), fun _ => ⟨fun _ => ⟨hv, ?_⟩, fun z => absurd rfl z⟩⟩
    · refine ⟨fun q => kj (Or.inl q), fun q1 => ⟨fun q => kj (Or.inr q), fun q2 => ⟨fun _ => ?_, fun z => absurd rfl z⟩⟩⟩
      have hj : ¬ jmp (pm w) = true := fun z => (p1.mpr z).elim q1 q2
      rw [if_neg hj] at h
      have k81 : lst (pm w) → wB_X9_wayOf_81 post (nI k) 0 0 τ := fun hl => em_guarded hk hx (fun hg => ⟨fun _ => ?_, fun z => absurd rfl z⟩) (fun hg => ⟨fun z => absurd z (by decide), fun _ => ⟨fun _ => ⟨fun _ => ?_, fun z => absurd rfl z⟩, fun z => absurd rfl z⟩⟩)
      · refine ⟨fun z => k81 (p2.mp (Or.inl z)), fun z1 => ⟨fun _ => ⟨fun z => k81 (p2.mp (Or.inr z)), fun z2 => ⟨fun _ => ?_, fun z => absurd rfl z⟩⟩, fun z => absurd rfl z⟩⟩
        rw [if_neg (fun z => (p2.mpr z.1).elim z1 z2)] at h
        show post (nI k + 1) τ
        rw [nI_1]; exact h
      · rw [if_pos ⟨hl, gB_f hg⟩] at h; exact h
      · rw [if_neg (fun z => by rw [gB_t hg] at z; cases z.2)] at h
        show post (nI k + 1) τ
        rw [nI_1]; exact h
    · rw [if_pos (p1.mp q)] at h
      obtain ⟨t, ht, e'⟩ := jmp_to g.1 g.2.1 (p1.mp q)
      show post (fN (mL τ 10 (nI k).toNatClampNeg)) τ
      rw [nI_clamp (by omega), hx]
      have e2 : fN x = oI (some (fN x).toNatClampNeg) (-2) := by
        show fN x = nI (fN x).toNatClampNeg
        rw [e', nI_clamp (by omega)]
      rw [e2]; exact h
theorem em_way1 (hk : k < 64) (hx : mL τ 10 k = x) (ho : isOf x o) (h : post (oI (wy1 o x k) (-2)) τ) : wp_X9_wayOf post (nI k) 1 τ := by
  have hv : vp_in (nI k) 64 := vp_in_nI hk (by decide)
  unfold wp_X9_wayOf
  rw [nI_clamp (by omega), hx]
  refine ⟨hv, em_listed (fun g => ⟨fun _ => ?_, fun z => absurd rfl z⟩) (fun w hw g => ⟨fun z => absurd z (nI_ne1 (by omega)), fun _ => sp_opOf hw ?_⟩)⟩
  · rw [isOf_inj ho g] at h; exact h
  · rw [isOf_inj ho g] at h
    obtain ⟨p1, p2⟩ := pm_way w hw
    unfold wy1 at h
    dsimp only at h
    have k81 : jmp (pm w) = true → wB_X9_wayOf_81 post (nI k) 1 1 τ := fun hj => em_guarded hk hx (fun hg => ⟨fun _ => (by rw [if_neg (fun z => by rw [gB_f hg] at z; cases z.2)] at h; exact h), fun z => absurd rfl z⟩) (fun hg => ⟨fun z => absurd z (by decide), fun _ => ⟨fun z => absurd z (by decide), fun _ => ⟨fun _ => (by
      rw [if_pos ⟨hj, gB_t hg⟩] at h
      show post (nI k + 1) τ
      rw [nI_1]; exact h), fun z => absurd rfl z⟩⟩⟩)
    have kj : (opC w = 40 ∨ opC w = 41) → wB_X9_wayOf_38 post (nI k) 1 (opC w) τ := fun q => ⟨fun z => absurd z (by decide), fun _ => ⟨fun z => absurd z (by decide), fun _ => ⟨fun _ => k81 (p1.mp q), fun _ => ⟨fun z => absurd z (by decide), fun _ => k81 (p1.mp q)⟩⟩⟩⟩
    refine ⟨fun q => kj (Or.inl q), fun q1 => ⟨fun q => kj (Or.inr q), fun q2 => ⟨fun _ => ?_, fun z => absurd rfl z⟩⟩⟩
    have hj : ¬ jmp (pm w) = true := fun z => (p1.mpr z).elim q1 q2
    rw [if_neg (fun z => hj z.1)] at h
    have h : post (-2) τ := h
    have k81' : wB_X9_wayOf_81 post (nI k) 1 0 τ := em_guarded hk hx (fun hg => ⟨fun _ => h, fun z => absurd rfl z⟩) (fun hg => ⟨fun z => absurd z (by decide), fun _ => ⟨fun _ => ⟨fun z => absurd z (by decide), fun _ => h⟩, fun z => absurd rfl z⟩⟩)
    exact ⟨fun _ => k81', fun _ => ⟨fun _ => ⟨fun _ => k81', fun _ => ⟨fun z => absurd z (by decide), fun _ => h⟩⟩, fun z => absurd rfl z⟩⟩
theorem em_placeT {z : Nat} (hz : z ≤ 64) (e : mI τ 11 = nI z) (hk : k < z) (h : post 1 τ) : wp_X9_isPlace post (nI k) τ :=
  ⟨fun q => absurd q (nI_pos (by omega)), fun _ => ⟨fun q => absurd q (by rw [e]; exact nI_ge hk (by omega)), fun _ => ⟨Or.inr rfl, h⟩⟩⟩
theorem em_placeF {z : Nat} {v : Int32} (hz : z ≤ 64) (e : mI τ 11 = nI z) (hn : ∀ j, j < z → ¬ v = nI j) (h : post 0 τ) : wp_X9_isPlace post v τ := by
  refine ⟨fun _ => ⟨Or.inl rfl, h⟩, fun q => ⟨fun _ => ⟨Or.inl rfl, h⟩, fun q2 => ?_⟩⟩
  obtain ⟨j, hj, rfl⟩ := nI_of q
  rw [e] at q2
  have hlt : j < z := by
    rcases Nat.lt_or_ge j z with r | r
    · exact r
    · exact absurd (nI_le r hj) q2
  exact absurd rfl (hn j hlt)
end WM
theorem oI_2 {o : Option Nat} (h : ∀ t, o = some t → t ≤ 64) : (o = none ∧ oI o (-2) = -2 ∧ oI o (-1) = -1) ∨ (¬ oI o (-2) = -2 ∧ oI o (-2) = oI o (-1)) := by
  cases o with
  | none => exact Or.inl ⟨rfl, rfl, rfl⟩
  | some t =>
    refine Or.inr ⟨fun z => ?_, rfl⟩
    have := h t rfl
    exact nI_pos (n := t) (by omega) (by rw [show nI t = -2 from z]; decide)
section BW
variable {σ : XS} {β : BS} {τ : MS}
theorem be_way {x i : Int32} {P : Int32 → XS → Int32 → MS → Prop} (h : II σ β τ) (k : ∀ r τ', II σ β τ' → P r σ r τ') : wp_X8_way (fun r1 u1 => wp_X9_way (fun r2 u2 => P r1 u1 r2 u2) x i τ) x i σ := by
  obtain ⟨s, t, hs, ht, hX, hB, hG, hR⟩ := id h
  obtain ⟨r1, ⟨c, hc, c1, c2, c3⟩, r3⟩ := id hR
  have c2 : mI (wI τ 0 0) 11 = nI c := c2
  have c3 : ∀ k, k < c → mL (wI τ 0 0) 10 k = xL σ 6 k ∧ ckX σ k := fun k hk => ⟨(c3 k hk).1.symm, (c3 k hk).2⟩
  have hk : II σ β (wI τ 0 0) := ⟨s, t, hs, ht, hX, hB, hG, hR⟩
  rcases Classical.em (∃ j, j < c ∧ x = nI j) with ⟨j, hj, rfl⟩ | q
  · obtain ⟨hx, hck⟩ := c3 j hj
    by_cases i0 : i = 0
    · subst i0
      refine ⟨fun _ => xe_first hc c1 hj hck ?_, fun z => absurd rfl z⟩
      refine em_placeT hc c2 hj ⟨fun z => absurd z (by decide), fun _ => ⟨fun z => absurd z (by decide), fun _ => ⟨fun _ => em_way0 (by omega) hx hck.1 ?_, fun z => absurd (by decide) z⟩⟩⟩
      rcases oI_2 (fun t ht => wy0_le hck.1 (show j < 64 by omega) ht) with ⟨-, e2, e1⟩ | ⟨ne, e⟩
      · rw [e2, e1]; exact ⟨fun _ => k _ _ hk, fun z => absurd rfl z⟩
      · rw [← e]; exact ⟨fun z => absurd z ne, fun _ => k _ _ hk⟩
    by_cases i1 : i = 1
    · subst i1
      refine ⟨fun z => absurd z (by decide), fun _ => ⟨fun _ => xe_second hc c1 hj hck ?_, fun z => absurd rfl z⟩⟩
      refine em_placeT hc c2 hj ⟨fun z => absurd z (by decide), fun _ => ⟨fun z => absurd z (by decide), fun _ => ⟨fun _ => em_way1 (by omega) hx hck.1 ?_, fun z => absurd (by decide) z⟩⟩⟩
      rcases oI_2 (o := wy1 (xQ σ 1 j) (xL σ 6 j) j) (fun t ht => by rw [wy1_eq ht]; omega) with ⟨-, e2, e1⟩ | ⟨ne, e⟩
      · rw [e2, e1]; exact ⟨fun _ => k _ _ hk, fun z => absurd rfl z⟩
      · rw [← e]; exact ⟨fun z => absurd z ne, fun _ => k _ _ hk⟩
    · refine ⟨fun z => absurd z i0, fun _ => ⟨fun z => absurd z i1, fun _ => em_placeT hc c2 hj ⟨fun z => absurd z (by decide), fun _ => ⟨fun _ => k _ _ hk, fun n0 => ⟨fun n1 => ?_, fun _ => k _ _ hk⟩⟩⟩⟩⟩
      obtain ⟨m, hm, e⟩ := nI_of2 (M := 1) (n := 1) rfl n0 n1
      rcases (show m = 0 ∨ m = 1 by omega) with q | q
      · rw [q] at e; exact absurd e i0
      · rw [q] at e; exact absurd e i1
  · have hn : ∀ j, j < c → ¬ x = nI j := fun j hj z => q ⟨j, hj, z⟩
    have hm : wp_X9_way (fun r2 u2 => P (-1) σ r2 u2) x i τ := em_placeF hc c2 hn ⟨fun _ => k _ _ hk, fun z => absurd rfl z⟩
    exact ⟨fun _ => xe_firstF hc c1 hn hm, fun _ => ⟨fun _ => xe_secondF hc c1 hn hm, fun _ => hm⟩⟩
end BW
