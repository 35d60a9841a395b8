/-! each call on the new objects: the class's answer is the reference's -/
theorem has0 {post : Int32 → XS → Prop} {k : Int32} {σ : XS} (h : xI σ 8 = 0) (hp : post 0 σ) : wp_X0_has post k σ :=
  ⟨fun _ => ⟨Or.inl rfl, hp⟩, fun c => ⟨fun _ => ⟨Or.inl rfl, hp⟩, fun z => absurd (by rw [h]; exact Int32.not_lt.mp c) z⟩⟩
theorem isPlace0 {post : Int32 → MS → Prop} {k : Int32} {τ : MS} (h : mI τ 11 = 0) (hp : post 0 τ) : wp_X9_isPlace post k τ :=
  ⟨fun _ => ⟨Or.inl rfl, hp⟩, fun c => ⟨fun _ => ⟨Or.inl rfl, hp⟩, fun z => absurd (by rw [h]; exact Int32.not_lt.mp c) z⟩⟩
theorem bitOf0 {post : Int64 → XS → Prop} {k : Int32} {σ : XS} (h : xI σ 8 = 0) (hp : post 0 σ) : wp_X0_bitOf post k σ := has0 h ⟨fun _ => hp, fun z => absurd rfl z⟩
theorem first0 {post : Int32 → XS → Prop} {k : Int32} {σ : XS} (h : xI σ 8 = 0) (hp : post (-1) σ) : wp_X7_first post k σ := has0 h ⟨fun _ => hp, fun z => absurd rfl z⟩
theorem second0 {post : Int32 → XS → Prop} {k : Int32} {σ : XS} (h : xI σ 8 = 0) (hp : post (-1) σ) : wp_X7_second post k σ := has0 h ⟨fun _ => hp, fun z => absurd rfl z⟩
theorem walk0 {post : Int64 → XS → Prop} {k : Int32} {y : Int64} {σ : XS} (h : xI σ 8 = 0) (hp : post 0 σ) : wp_X7_walk post k y σ :=
  bitOf0 h (fun x hx => ⟨1, fun z => absurd z (by decide), fun _ => ⟨fun _ => hp, fun z => absurd (by rw [hx, Int64.zero_and]) z⟩⟩)
theorem having_o0 {post : Int64 → XS → Prop} {r : Int32} {σ : XS} (h : xI σ 8 = 0) (hp : post 0 σ) : wp_X0_overwritersOf post r σ := ⟨1, fun _ => hp, fun z => absurd (by rw [h]; decide) z⟩
theorem having_r0 {post : Int64 → XS → Prop} {r : Int32} {σ : XS} (h : xI σ 8 = 0) (hp : post 0 σ) : wp_X0_readersOf post r σ := ⟨1, fun _ => hp, fun z => absurd (by rw [h]; decide) z⟩
theorem spread0_2 {post : MS → Prop} {a b : Int32} (hp : ∀ τ', mI τ' 11 = 0 → mI τ' 0 = 0 → post τ') : ∀ (d k : Nat) (τ : MS), k + d = 64 → mI τ 11 = 0 → mI τ 0 = 0 → wL_X9_spread_2 post (d + 1) a b (nI k) τ := by
  intro d
  induction d with
  | zero =>
    intro k τ hk h h0
    refine ⟨fun _ => isPlace0 h ⟨fun _ => ?_, fun z => absurd rfl z⟩, fun z => absurd (show (64 : Int32) ≤ nI k by rw [show k = 64 by omega]; decide) z⟩
    exact ⟨2, fun z => absurd z (by decide), fun _ => ⟨1, fun _ => ⟨fun _ => hp τ h h0, fun z => absurd rfl z⟩, fun z => absurd (by rw [h]; decide) z⟩⟩
  | succ d ih =>
    intro k τ hk h h0
    exact ⟨fun z => absurd z (nI_ge (a := k) (b := 64) (by omega) (by decide)), fun _ => ⟨vp_in_nI (by omega) (by decide), fun x hx => by rw [hx, nI_1]; exact ih (k + 1) _ (by omega) h h0⟩⟩
theorem spread0 {post : MS → Prop} {a b : Int32} {τ : MS} (h : mI τ 11 = 0) (h0 : mI τ 0 = 0) (hp : ∀ τ', mI τ' 11 = 0 → mI τ' 0 = 0 → post τ') : wp_X9_spread post a b τ := ⟨65, spread0_2 hp 64 0 τ (by omega) h h0⟩
abbrev T9 : XS → MS → Prop := fun _ _ => True
section S0
variable {xs : Nat → Int32} {x4 : Int32} {f : Nat → Int64}
theorem s0_0 : lc_0 (fun _ _ => True) xs x4 x0 m0 f := by
  unfold lc_0
  refine sx_type (t := 0) rfl (by omega) (fun z => ?_) (fun z => ?_)
  · exact sp_type (t := 0) rfl (by omega) (fun _ => ⟨rfl, trivial⟩) (fun q => absurd q z)
  · exact sp_type (t := 0) rfl (by omega) (fun q => absurd z q) (fun _ => ⟨rfl, trivial⟩)
theorem m0_compile {post : Int32 → MS → Prop} (hp : ∀ τ, mI τ 0 = 0 → mI τ 11 = 0 → post (mI τ 11) τ) : wp_X9_compile post m0 := by
  unfold wp_X9_compile
  refine ⟨1, fun z => absurd z (by decide), fun _ => ⟨fun _ => ?_, fun z => absurd (by decide) z⟩⟩
  refine ⟨by unfold vp_in; decide, by unfold vp_in; decide, by unfold vp_in; decide, ?_⟩
  refine ⟨by unfold vp_in; decide, 1, fun z => absurd z (by decide), fun _ => ⟨by unfold vp_in; decide, fun _ => ?_, fun z => absurd (by decide) z⟩⟩
  refine ⟨fun z => absurd z (by decide), fun _ => ⟨1, fun _ => ?_, fun z => absurd (by decide) z⟩⟩
  exact ⟨fun _ => ⟨1, fun _ => hp _ rfl rfl, fun z => absurd (by decide) z⟩, fun z => absurd (by decide) z⟩
theorem x0_compile {post : Int32 → XS → Prop} {postX : XS → Prop} (hp : ∀ σ, xI σ 8 = 0 → post (xI σ 8) σ) : wp_X8_compile post postX x0 := by
  unfold wp_X8_compile wp_X3_parse
  refine ⟨1, fun z => absurd z (by decide), fun _ => ⟨fun _ => ⟨fun _ => ⟨by unfold vp_in; decide, by unfold vp_in; decide, by unfold vp_in; decide, ?_⟩, fun z => absurd (by decide) z⟩, fun z => absurd (by decide) z⟩⟩
  refine ⟨1, fun z => absurd z (by decide), fun _ => ⟨fun z => absurd z (by decide), fun _ => ?_⟩⟩
  refine ⟨fun z => absurd z (by decide), fun _ => ⟨by unfold vp_in; decide, fun _ => ?_, fun z => absurd (by decide) z⟩⟩
  refine ⟨fun z => absurd z (by decide), fun _ => ⟨1, fun _ => ?_, fun z => absurd (by decide) z⟩⟩
  refine ⟨fun _ => ⟨Or.inr rfl, fun z => absurd z (by decide), fun _ => ⟨1, fun _ => ?_, fun z => absurd (by decide) z⟩⟩, fun z => absurd (by decide) z⟩
  exact ⟨by decide, by decide, by decide, by decide, by decide, by decide, by decide, by decide, by decide, by decide, hp _ rfl⟩
theorem s0_1 : lc_1 (fun _ _ => True) xs x4 x0 m0 f := by
  unfold lc_1
  refine x0_compile (fun σ h => ?_)
  unfold lp_1
  refine m0_compile (fun τ h0 h11 => ?_)
  exact ⟨h0, fun _ => by rw [h, h11]; rfl, trivial⟩
theorem s0_2 : lc_2 (fun _ _ => True) xs x4 x0 m0 f := by
  unfold lc_2
  exact ⟨fun c => ⟨fun _ => ⟨rfl, trivial⟩, fun z => absurd c z⟩, fun c => ⟨fun c1 => ⟨fun z => absurd z c, fun _ => ⟨fun _ => ⟨rfl, trivial⟩, fun z => absurd c1 z⟩⟩, fun c1 => ⟨fun z => absurd z c, fun _ => ⟨fun z => absurd z c1, fun _ => ⟨rfl, trivial⟩⟩⟩⟩⟩
theorem s0_3 : lc_3 (fun _ _ => True) xs x4 x0 m0 f := by
  unfold lc_3
  generalize xs (x4 + 1).toNatClampNeg = k
  by_cases c1 : k < 0
  · exact ⟨fun _ => ⟨fun _ => ⟨rfl, trivial⟩, fun z => absurd c1 z⟩, fun z => absurd c1 z⟩
  by_cases c2 : (0 : Int32) < k
  · exact ⟨fun z => absurd z c1, fun _ => ⟨fun _ => ⟨fun z => absurd z c1, fun _ => ⟨fun _ => ⟨rfl, trivial⟩, fun z => absurd c2 z⟩⟩, fun z => absurd c2 z⟩⟩
  have e : k = nI 0 := Int32.le_antisymm (Int32.not_lt.mp c2) (Int32.not_lt.mp c1)
  rw [e]
  refine ⟨fun z => absurd z (by decide), fun _ => ⟨fun z => absurd z (by decide), fun _ => ⟨fun _ => ?_, fun z => absurd (by decide) z⟩⟩⟩
  refine sf_put (k := 0) (c := 0) rfl (by omega) (by omega) (by omega) (fun o a b _ => ?_)
  exact ⟨fun z => absurd z (by decide), fun _ => ⟨fun z => absurd z (by decide), fun _ => ⟨fun z => absurd z (by decide), fun _ => ⟨by unfold vp_in; decide, fun _ => ⟨rfl, trivial⟩, fun _ => ⟨rfl, trivial⟩⟩⟩⟩⟩
theorem s0_4 : lc_4 (fun _ _ => True) xs x4 x0 m0 f := by
  unfold lc_4
  refine has0 rfl ⟨fun _ => ?_, fun z => absurd rfl z⟩
  unfold lp_4
  exact isPlace0 rfl ⟨fun _ => ⟨fun z => absurd z (by decide), fun _ => ⟨rfl, fun z => absurd z (by decide), trivial⟩⟩, fun z => absurd rfl z⟩
theorem s0_5 : lc_5 (fun _ _ => True) xs x4 x0 m0 f := by
  unfold lc_5
  exact has0 rfl ⟨fun _ => isPlace0 rfl ⟨fun _ => ⟨rfl, trivial⟩, fun z => absurd rfl z⟩, fun z => absurd rfl z⟩
theorem s0_6 : lc_6 (fun _ _ => True) xs x4 x0 m0 f := by
  unfold lc_6
  refine ⟨1, fun _ => ⟨fun _ => ?_, fun z => absurd rfl z⟩, fun z => absurd (by decide) z⟩
  unfold lp_6
  intro x hx
  rw [hx]
  exact ⟨1, by unfold vp_in; decide, fun _ => ⟨fun _ => ⟨fun _ => ⟨rfl, fun z => absurd z (by decide), trivial⟩, fun z => absurd rfl z⟩, fun z => absurd rfl z⟩, fun z => absurd (by decide) z⟩
theorem s0_7 : lc_7 (fun _ _ => True) xs x4 x0 m0 f := by
  unfold lc_7
  have k : wp_X9_way (fun r2 u2 => (-1) = r2 ∧ True) (xs (x4 + 1).toNatClampNeg) (xs (x4 + 2).toNatClampNeg) m0 := isPlace0 rfl ⟨fun _ => ⟨rfl, trivial⟩, fun z => absurd rfl z⟩
  exact ⟨fun _ => first0 rfl k, fun _ => ⟨fun _ => second0 rfl k, fun _ => k⟩⟩
theorem s0_8 : lc_8 (fun _ _ => True) xs x4 x0 m0 f := by
  unfold lc_8
  exact walk0 rfl (bitOf0 rfl ⟨fun _ => ⟨Or.inl rfl, isPlace0 rfl ⟨fun _ => ⟨rfl, trivial⟩, fun z => absurd rfl z⟩⟩, fun z => absurd (by decide) z⟩)
theorem s0_9 : lc_9 (fun _ _ => True) xs x4 x0 m0 f := by
  unfold lc_9
  have k : wp_X9_live (fun r2 u2 => 0 = r2 ∧ True) (xs (x4 + 1).toNatClampNeg) (xs (x4 + 2).toNatClampNeg) m0 := isPlace0 rfl ⟨fun _ => ⟨rfl, trivial⟩, fun z => absurd rfl z⟩
  exact ⟨fun _ => k, fun _ => ⟨fun _ => having_o0 rfl (walk0 rfl (having_r0 rfl ⟨fun _ => ⟨Or.inl rfl, Or.inl rfl, k⟩, fun z => absurd (by decide) z⟩)), fun _ => k⟩⟩
theorem s0_10 : lc_10 (fun _ _ => True) xs x4 x0 m0 f := by
  unfold lc_10
  have k : wp_X9_meet (fun r2 u2 => (-1) = r2 ∧ True) (xs (x4 + 1).toNatClampNeg) m0 := isPlace0 rfl ⟨fun _ => ⟨fun _ => ⟨rfl, trivial⟩, fun z => absurd rfl z⟩, fun z => absurd rfl z⟩
  exact second0 rfl ⟨fun _ => ⟨fun _ => k, fun z => absurd rfl z⟩, fun z => absurd rfl z⟩
theorem s0_11 : lc_11 (fun _ _ => True) xs x4 x0 m0 f := by
  unfold lc_11
  generalize xs (x4 + 1).toNatClampNeg = k
  refine ⟨fun c => ?_, fun c => ?_, fun c => ?_, fun c => ?_, fun c0 c1 c2 c3 => ?_⟩
  · rw [c]
    exact ⟨fun _ => ⟨rfl, trivial⟩, fun z => absurd z (by decide), fun z => absurd z (by decide), fun z => absurd z (by decide), fun z => absurd rfl z⟩
  · rw [c]
    refine walk0 rfl ?_
    intro a1 h1 a2 h2 a3 h3 a4 h4 a5 h5 a6 h6
    have e : a6.toInt32 &&& 127 = 0 := by
      rw [h6, h5, h4, h3, h2, h1]; decide
    rw [e]
    exact ⟨fun z => absurd z (by decide), fun _ => spread0 rfl rfl (fun τ h _ => ⟨1, fun _ => ⟨rfl, trivial⟩, fun z => absurd (by rw [h]; decide) z⟩), fun z => absurd z (by decide), fun z => absurd z (by decide), fun _ z => absurd rfl z⟩
  · rw [c]
    exact ⟨fun z => absurd z (by decide), fun z => absurd z (by decide), fun _ => ⟨by unfold vp_in; decide, rfl, trivial⟩, fun z => absurd z (by decide), fun _ _ z => absurd rfl z⟩
  · rw [c]
    refine ⟨1, fun _ => ?_, fun z => absurd (by decide) z⟩
    exact ⟨fun z => absurd z (by decide), fun z => absurd z (by decide), fun z => absurd z (by decide), fun _ => ⟨1, fun _ => ⟨rfl, trivial⟩, fun z => absurd (by decide) z⟩, fun _ _ _ z => absurd rfl z⟩
  · exact ⟨fun z => absurd z c0, fun z => absurd z c1, fun z => absurd z c2, fun z => absurd z c3, fun _ _ _ _ => ⟨rfl, trivial⟩⟩
end S0
