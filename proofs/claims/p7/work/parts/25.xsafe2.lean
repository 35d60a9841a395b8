/-! the class's questions: they end, whatever the kernel is -/
abbrev XI (σ : XS) : Prop := (∃ c : Nat, c ≤ 64 ∧ xI σ 8 = nI c) ∧ (∃ n : Nat, n ≤ 350 ∧ xI σ 7 = nI n) ∧ ∀ (i e : Nat), xQ σ 1 i = some e → e < 53
theorem sx_has {post : Int32 → XS → Prop} {k : Int32} {σ : XS} (h : XI σ) (h0 : post 0 σ) (h1 : vp_in k 64 → post 1 σ) : wp_X0_has post k σ := by
  obtain ⟨⟨c, hc, e⟩, -, -⟩ := h
  refine ⟨fun _ => ⟨Or.inl rfl, h0⟩, fun q => ⟨fun _ => ⟨Or.inl rfl, h0⟩, fun z => ⟨Or.inr rfl, h1 ?_⟩⟩⟩
  obtain ⟨j, hj, rfl⟩ := nI_of q
  rw [e] at z
  have hlt : j < c := by
    rcases Nat.lt_or_ge j c with r | r
    · exact r
    · exact absurd (nI_le r hj) z
  exact vp_in_nI (by omega) (by decide)
theorem sx_bitOf {post : Int64 → XS → Prop} {k : Int32} {σ : XS} (h : XI σ) (hp : ∀ r, post r σ) : wp_X0_bitOf post k σ := sx_has h ⟨fun _ => hp _, fun z => absurd rfl z⟩ (fun _ => ⟨fun z => absurd z (by decide), fun _ => hp _⟩)
theorem sf_isJump {post : Int32 → Prop} {e : Nat} (he : e < 53) (h : ∀ r, isB r → post r) : wp_X2_isJump post e :=
  ⟨he, fun _ => ⟨Or.inr rfl, h _ (Or.inr rfl)⟩, fun _ => ⟨he, fun _ => ⟨Or.inr rfl, h _ (Or.inr rfl)⟩, fun _ => ⟨Or.inl rfl, h _ (Or.inl rfl)⟩⟩⟩
theorem sf_isLast {post : Int32 → Prop} {e : Nat} (he : e < 53) (h : ∀ r, isB r → post r) : wp_X2_isLast post e :=
  ⟨he, fun _ => ⟨Or.inr rfl, h _ (Or.inr rfl)⟩, fun _ => ⟨he, fun _ => ⟨Or.inr rfl, h _ (Or.inr rfl)⟩, fun _ => ⟨he, fun _ => ⟨Or.inr rfl, h _ (Or.inr rfl)⟩, fun _ => ⟨Or.inl rfl, h _ (Or.inl rfl)⟩⟩⟩⟩
theorem sx_first {post : Int32 → XS → Prop} {k : Int32} {σ : XS} (h : XI σ) (hp : ∀ r, post r σ) : wp_X7_first post k σ := by
  refine sx_has h ⟨fun _ => hp _, fun z => absurd rfl z⟩ (fun hv => ⟨fun z => absurd z (by decide), fun _ => ⟨hv, fun _ => hp _, fun e he => ⟨hv, fun z => (by rw [he] at z; cases z), fun e7 he7 => ?_⟩⟩⟩)
  have h7 := h.2.2 _ _ he7
  exact ⟨h7, sf_isJump h7 (fun r _ => ⟨fun _ => ⟨hv, fun z => (by rw [he] at z; cases z), fun e12 he12 => ⟨h.2.2 _ _ he12, sf_isLast (h.2.2 _ _ he12) (fun q _ => ⟨fun _ => hp _, fun _ => ⟨hv, sf_isGuarded (fun b _ => ⟨fun _ => hp _, fun _ => hp _⟩)⟩⟩)⟩⟩, fun _ => ⟨hv, sf_fieldOf (fun v => hp v)⟩⟩)⟩
theorem sx_second {post : Int32 → XS → Prop} {k : Int32} {σ : XS} (h : XI σ) (hp : ∀ r, post r σ) : wp_X7_second post k σ := by
  refine sx_has h ⟨fun _ => hp _, fun z => absurd rfl z⟩ (fun hv => ⟨fun z => absurd z (by decide), fun _ => ⟨hv, fun _ => hp _, fun e he => ⟨hv, fun z => (by rw [he] at z; cases z), fun e7 he7 => ?_⟩⟩⟩)
  have h7 := h.2.2 _ _ he7
  exact ⟨h7, sf_isJump h7 (fun r _ => ⟨fun _ => hp _, fun _ => ⟨hv, sf_isGuarded (fun b _ => ⟨fun _ => hp _, fun _ => hp _⟩)⟩⟩)⟩
theorem sf_bitCount {post : Int32 → Prop} {x : Int64} (h : ∀ r, post r) : wp_J13_bitCount_95d88 post x := fun _ _ _ _ _ _ _ _ _ _ _ _ => h _
theorem sx_walk_23 {post : Int64 → XS → Prop} {σ : XS} (h : XI σ) (hp : ∀ r, post r σ) : ∀ (d j : Nat) (x2 x4 x6 : Int64), j + d = 64 → wL_X7_walk_23 post (d + 1) x2 x4 x6 (nI j) σ := by
  intro d
  induction d with
  | zero =>
    intro j x2 x4 x6 hj
    exact ⟨fun _ => hp _, fun z => absurd (show (64 : Int32) ≤ nI j by rw [show j = 64 by omega]; decide) z⟩
  | succ d ih =>
    intro j x2 x4 x6 hj
    refine ⟨fun _ => hp _, fun _ => ⟨fun _ => hp _, fun _ => fun a _ => sf_bitCount (fun r => sx_first h (fun r7 => sx_bitOf h (fun r9 => sx_second h (fun r11 => sx_bitOf h (fun r13 => ?_)))))⟩⟩
    intro a1 _ a2 _ a3 _ a4 h4
    rw [h4, nI_1]
    exact ih (j + 1) x2 a2 a3 (by omega)
theorem sx_walk {post : Int64 → XS → Prop} {k : Int32} {y : Int64} {σ : XS} (h : XI σ) (hp : ∀ r, post r σ) : wp_X7_walk post k y σ := sx_bitOf h (fun r => fun x _ => ⟨65, sx_walk_23 h hp 64 0 y r x (by omega)⟩)
theorem sx_isEnd {post : Int32 → XS → Prop} {k : Int32} {σ : XS} (h : XI σ) (hp : ∀ r, isB r → post r σ) : wp_X7_isEnd post k σ := by
  have p0 : isB 0 ∧ post 0 σ := ⟨Or.inl rfl, hp _ (Or.inl rfl)⟩
  have p1 : isB 1 ∧ post 1 σ := ⟨Or.inr rfl, hp _ (Or.inr rfl)⟩
  have k28 : wB_X7_isEnd_28 post k σ := ⟨fun _ => sx_first h (fun r => sx_has h ⟨fun _ => p1, fun z => absurd rfl z⟩ (fun _ => ⟨fun z => absurd z (by decide), fun _ => p0⟩)), fun z => absurd rfl z⟩
  exact sx_second h (fun r => ⟨fun _ => k28, fun _ => sx_second h (fun q => sx_has h ⟨fun _ => ⟨fun z => absurd z (by decide), fun _ => p1⟩, fun z => absurd rfl z⟩ (fun _ => ⟨fun z => absurd z (by decide), fun _ => k28⟩))⟩)
theorem sx_hasEnd {post : Int32 → XS → Prop} {y : Int64} {σ : XS} (h : XI σ) (hp : ∀ r, isB r → post r σ) : wp_X7_hasEnd post y σ := by
  obtain ⟨c, hc, e⟩ := id h.1
  have main : ∀ (d j : Nat), j + d = c → wL_X7_hasEnd_2 post (d + 1) y (nI j) σ := by
    intro d
    induction d with
    | zero => intro j hj; exact ⟨fun _ => hp _ (Or.inl rfl), fun z => absurd (by rw [e]; exact nI_le (by omega) (by omega)) z⟩
    | succ d ih =>
      intro j hj
      have k : wB_X7_hasEnd_38 post (wL_X7_hasEnd_2 post (d + 1)) y (nI j) σ := fun x hx => by rw [hx, nI_1]; exact ih (j + 1) (by omega)
      exact ⟨fun _ => hp _ (Or.inl rfl), fun _ => sx_bitOf h (fun r => ⟨fun _ => k, fun _ => sx_isEnd h (fun q _ => ⟨fun _ => k, fun _ => hp _ (Or.inr rfl)⟩)⟩)⟩
  exact ⟨c + 1, main c 0 (by omega)⟩
theorem sx_throughAll {post : Int64 → XS → Prop} {k : Int32} {σ : XS} (h : XI σ) (hp : ∀ r, post r σ) : wp_X7_throughAll post k σ := by
  obtain ⟨c, hc, e⟩ := id h.1
  have main : ∀ (d j : Nat) (x2 : Int64), j + d = c → wL_X7_throughAll_5 post (d + 1) k x2 (nI j) σ := by
    intro d
    induction d with
    | zero => intro j x2 hj; exact ⟨fun _ => hp _, fun z => absurd (by rw [e]; exact nI_le (by omega) (by omega)) z⟩
    | succ d ih =>
      intro j x2 hj
      have kk : ∀ y : Int64, wB_X7_throughAll_60 post (wL_X7_throughAll_5 post (d + 1)) k y (nI j) σ := fun y x hx => by rw [hx, nI_1]; exact ih (j + 1) y (by omega)
      exact ⟨fun _ => hp _, fun _ => sx_bitOf h (fun r => ⟨fun _ => kk _, fun _ => sx_walk h (fun q => sx_hasEnd h (fun b _ => ⟨fun _ => fun y _ => kk y, fun _ => kk _⟩))⟩)⟩
  exact ⟨c + 1, main c 0 0 (by omega)⟩
theorem sx_meetOf {post : Int32 → XS → Prop} {k : Int32} {σ : XS} (h : XI σ) (hp : ∀ r, post r σ) : wp_X7_meetOf post k σ := by
  obtain ⟨c, hc, e⟩ := id h.1
  have main : ∀ (d j : Nat) (x3 : Int64), j + d = c → wL_X7_meetOf_74 post (d + 1) k x3 (nI j) σ := by
    intro d
    induction d with
    | zero => intro j x3 hj; exact ⟨fun _ => hp _, fun z => absurd (by rw [e]; exact nI_le (by omega) (by omega)) z⟩
    | succ d ih =>
      intro j x3 hj
      have kk : wB_X7_meetOf_124 post (wL_X7_meetOf_74 post (d + 1)) k x3 (nI j) σ := fun x hx => by rw [hx, nI_1]; exact ih (j + 1) x3 (by omega)
      exact ⟨fun _ => hp _, fun _ => sx_bitOf h (fun r => ⟨fun _ => kk, fun _ => sx_walk h (fun q => ⟨fun _ => hp _, fun _ => kk⟩)⟩)⟩
  have k27 : ∀ t : Int32, wB_X7_meetOf_27 post k t σ := fun t => ⟨fun _ => hp _, fun _ => sx_walk h (fun r => sx_bitOf h (fun q => ⟨fun _ => hp _, fun _ => sx_walk h (fun w => sx_hasEnd h (fun b _ => ⟨fun _ => hp _, fun _ => sx_throughAll h (fun v => ⟨c + 1, main c 0 v (by omega)⟩)⟩))⟩))⟩
  exact sx_second h (fun r => ⟨fun _ => k27 0, fun _ => sx_first h (fun a => sx_second h (fun b => ⟨fun _ => k27 0, fun _ => k27 1⟩))⟩)
theorem sx_having_r {post : Int64 → XS → Prop} {r : Int32} {σ : XS} (h : XI σ) (hp : ∀ v, post v σ) : wp_X0_readersOf post r σ := by
  obtain ⟨c, hc, e⟩ := id h.1
  have main : ∀ (d j : Nat) (x3 : Int64), j + d = c → wL_X0_having_r_5 (fun r_1 σ_2 => post r_1 σ_2) (d + 1) r x3 (nI j) σ := by
    intro d
    induction d with
    | zero => intro j x3 hj; exact ⟨fun _ => hp _, fun z => absurd (by rw [e]; exact nI_le (by omega) (by omega)) z⟩
    | succ d ih =>
      intro j x3 hj
      have kk : ∀ y : Int64, wB_X0_having_r_41 (fun r_1 σ_2 => post r_1 σ_2) (wL_X0_having_r_5 (fun r_1 σ_2 => post r_1 σ_2) (d + 1)) r y (nI j) σ := fun y x hx => by rw [hx, nI_1]; exact ih (j + 1) y (by omega)
      exact ⟨fun _ => hp _, fun _ => ⟨fun _ => hp _, fun _ => ⟨vp_in_nI (by omega) (by decide), fun _ => kk _, fun _ => sx_bitOf h (fun v => fun y _ => kk y)⟩⟩⟩
  exact ⟨c + 1, main c 0 0 (by omega)⟩
theorem sx_having_o {post : Int64 → XS → Prop} {r : Int32} {σ : XS} (h : XI σ) (hp : ∀ v, post v σ) : wp_X0_overwritersOf post r σ := by
  obtain ⟨c, hc, e⟩ := id h.1
  have main : ∀ (d j : Nat) (x3 : Int64), j + d = c → wL_X0_having_o_5 (fun r_1 σ_2 => post r_1 σ_2) (d + 1) r x3 (nI j) σ := by
    intro d
    induction d with
    | zero => intro j x3 hj; exact ⟨fun _ => hp _, fun z => absurd (by rw [e]; exact nI_le (by omega) (by omega)) z⟩
    | succ d ih =>
      intro j x3 hj
      have kk : ∀ y : Int64, wB_X0_having_o_41 (fun r_1 σ_2 => post r_1 σ_2) (wL_X0_having_o_5 (fun r_1 σ_2 => post r_1 σ_2) (d + 1)) r y (nI j) σ := fun y x hx => by rw [hx, nI_1]; exact ih (j + 1) y (by omega)
      exact ⟨fun _ => hp _, fun _ => ⟨fun _ => hp _, fun _ => ⟨vp_in_nI (by omega) (by decide), fun _ => kk _, fun _ => sx_bitOf h (fun v => fun y _ => kk y)⟩⟩⟩
  exact ⟨c + 1, main c 0 0 (by omega)⟩
theorem sx_unmade {post : Int32 → XS → Prop} {σ : XS} (h : XI σ) (hp : ∀ r, post r σ) : wp_X0_unmade post σ := by
  obtain ⟨c, hc, e⟩ := id h.1
  have main : ∀ (d j : Nat) (x1 : Int32), j + d = c → wL_X0_unmade_4 post (d + 1) x1 (nI j) σ := by
    intro d
    induction d with
    | zero => intro j x1 hj; exact ⟨fun _ => hp _, fun z => absurd (by rw [e]; exact nI_le (by omega) (by omega)) z⟩
    | succ d ih =>
      intro j x1 hj
      have kk : ∀ y : Int32, wB_X0_unmade_24 post (wL_X0_unmade_4 post (d + 1)) y (nI j) σ := fun y x hx => by rw [hx, nI_1]; exact ih (j + 1) y (by omega)
      exact ⟨fun _ => hp _, fun _ => ⟨vp_in_nI (by omega) (by decide), fun _ => fun y _ => kk y, fun _ _ => kk _⟩⟩
  exact ⟨c + 1, main c 0 0 (by omega)⟩
theorem sx_find {post : Int32 → XS → Prop} {w : Int64} {σ : XS} (h : XI σ) (h0 : post (-1) σ) (h1 : ∀ r, vp_in r 350 → post r σ) : wp_X1_find_names post w σ := by
  obtain ⟨c, hc, e⟩ := id h.2.1
  have main : ∀ (d j : Nat), j + d = c → wL_X1_find_names_2 post (d + 1) w (nI j) σ := by
    intro d
    induction d with
    | zero => intro j hj; exact ⟨fun _ => h0, fun z => absurd (by rw [e]; exact nI_le (by omega) (by omega)) z⟩
    | succ d ih =>
      intro j hj
      exact ⟨fun _ => h0, fun _ => ⟨vp_in_nI (by omega) (by decide), fun _ => h1 _ (vp_in_nI (by omega) (by decide)), fun _ => fun x hx => by rw [hx, nI_1]; exact ih (j + 1) (by omega)⟩⟩
  exact ⟨c + 1, main c 0 (by omega)⟩
/-! the class's calls but letter and compile -/
theorem sx_fault {post : Int32 → XS → Prop} {k : Int32} {σ : XS} (hp : ∀ r, post r σ) : wp_X8_fault post k σ := ⟨fun _ => hp _, fun _ => ⟨fun _ => hp _, fun _ => hp _⟩⟩
theorem sx_way {post : Int32 → XS → Prop} {k i : Int32} {σ : XS} (h : XI σ) (hp : ∀ r, post r σ) : wp_X8_way post k i σ := ⟨fun _ => sx_first h hp, fun _ => ⟨fun _ => sx_second h hp, fun _ => hp _⟩⟩
theorem sx_reached {post : Int32 → XS → Prop} {k : Int32} {σ : XS} (h : XI σ) (hp : ∀ r, isB r → post r σ) : wp_X8_reached post k σ := sx_walk h (fun r => sx_bitOf h (fun q => ⟨fun _ => ⟨Or.inl rfl, hp _ (Or.inl rfl)⟩, fun _ => ⟨Or.inr rfl, hp _ (Or.inr rfl)⟩⟩))
theorem sx_live {post : Int32 → XS → Prop} {k r : Int32} {σ : XS} (h : XI σ) (hp : ∀ r, isB r → post r σ) : wp_X8_live post k r σ :=
  ⟨fun _ => hp _ (Or.inl rfl), fun _ => ⟨fun _ => sx_having_o h (fun a => sx_walk h (fun b => sx_having_r h (fun c => ⟨fun _ => ⟨Or.inl rfl, Or.inl rfl, hp _ (Or.inl rfl)⟩, fun _ => ⟨Or.inr rfl, Or.inr rfl, hp _ (Or.inr rfl)⟩⟩))), fun _ => hp _ (Or.inl rfl)⟩⟩
theorem sx_meet {post : Int32 → XS → Prop} {k : Int32} {σ : XS} (h : XI σ) (hp : ∀ r, post r σ) : wp_X8_meet post k σ := sx_meetOf h hp
theorem sx_total {post : Int32 → XS → Prop} {k : Int32} {σ : XS} (h : XI σ) (hp : ∀ r, post r σ) : wp_X8_total post k σ := ⟨fun _ => hp _, fun _ => sx_walk h (fun r => sf_bitCount (fun q => hp q)), fun _ => hp _, fun _ => sx_unmade h hp, fun _ _ _ _ => hp _⟩
theorem sx_word {post : Int64 → XS → Prop} {postX : XS → Prop} {k : Int32} {σ : XS} (h : XI σ) (hp : ∀ r, post r σ) (hx : postX σ) : wp_X8_word post postX k σ := sx_has h ⟨fun _ => hx, fun z => absurd rfl z⟩ (fun hv => ⟨fun z => absurd z (by decide), fun _ => ⟨hv, hp _⟩⟩)
theorem sx_name {post : Int32 → XS → Prop} {postX : XS → Prop} {w : Int64} {σ : XS} (h : XI σ) (hp : ∀ r, post r σ) (hx : postX σ) : wp_X8_name post postX w σ := by
  refine sx_find h ⟨fun _ => hx, fun z => absurd rfl z⟩ (fun r hr => ⟨fun _ => hx, fun _ => ⟨hr, hp _⟩⟩)
/-- set: either nothing changes, or WORD k does -/
theorem sx_set {post : Int32 → XS → Prop} {k : Int32} {w : Int64} {σ : XS} (h : XI σ) (h0 : post 0 σ) (h1 : ∀ σ', XI σ' → (∀ j, j ≠ 8 → xI σ' j = xI σ j) → post 1 σ') : wp_X8_set post k w σ := by
  obtain ⟨c, hc, e⟩ := id h.1
  by_cases q1 : k < 0
  · exact ⟨fun _ => h0, fun z => absurd q1 z⟩
  obtain ⟨j, hj, rfl⟩ := nI_of q1
  by_cases q2 : c < j
  · exact ⟨fun z => absurd z q1, fun _ => ⟨fun _ => h0, fun z => absurd (by rw [e]; exact nI_lt q2 hj) z⟩⟩
  by_cases q3 : j < 64
  · refine ⟨fun z => absurd z q1, fun _ => ⟨fun z => absurd z (by rw [e]; exact Int32.not_lt.mpr (nI_le (by omega) (by omega))), fun _ => ⟨fun _ => ?_, fun z => absurd (nI_lt (b := 64) q3 (by decide)) z⟩⟩⟩
    refine sf_put e (by omega) q3 hc (fun o a b ho => h1 _ ⟨⟨max c (j + 1), by omega, rfl⟩, h.2.1, ?_⟩ (fun i hi => ?_))
    · intro i e' he'
      have e1 : xQ (yI (yA (yA (yQ (yL σ 6 j w) 1 j o) 4 j a) 5 j b) 8 (nI (max c (j + 1)))) 1 i = va_up (xQ σ 1) j o i := by
        rw [xQ_yI, xQ_yA, xQ_yA, xQ_yQ, if_pos rfl, xQ_yL]
      rw [e1] at he'
      unfold va_up at he'
      by_cases hi : i = j
      · rw [if_pos hi] at he'; exact ho e' he'
      · rw [if_neg hi] at he'; exact h.2.2 i e' he'
    · rw [xI_yI, if_neg hi, xI_yA, xI_yA, xI_yQ, xI_yL]
  · exact ⟨fun z => absurd z q1, fun _ => ⟨fun _ => h0, fun _ => ⟨fun z => absurd z (Int32.not_lt.mpr (nI_le (a := 64) (by omega) hj)), fun _ => h0⟩⟩⟩
