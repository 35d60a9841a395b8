/-! the class's words: what ends with any answer -/
theorem sf_shiftOf {post : Int32 → Prop} {x : Int32} (h : ∀ r, post r) : wp_X2_shiftOf post x := by
  unfold wp_X2_shiftOf
  repeat' (first | exact h _ | refine ⟨fun _ => ?_, fun _ => ?_⟩)
theorem sf_isRegister {post : Int32 → Prop} {x : Int32} (h : ∀ r, isB r → post r) : wp_X2_isRegister post x := by
  unfold wp_X2_isRegister
  repeat' (first | exact ⟨Or.inl rfl, h _ (Or.inl rfl)⟩ | exact ⟨Or.inr rfl, h _ (Or.inr rfl)⟩ | refine ⟨fun _ => ?_, fun _ => ?_⟩)
theorem sf_isPredicate {post : Int32 → Prop} {x : Int32} (h : ∀ r, isB r → post r) : wp_X2_isPredicate post x := by
  unfold wp_X2_isPredicate
  repeat' (first | exact ⟨Or.inl rfl, h _ (Or.inl rfl)⟩ | exact ⟨Or.inr rfl, h _ (Or.inr rfl)⟩ | refine ⟨fun _ => ?_, fun _ => ?_⟩)
theorem sf_isGuarded {post : Int32 → Prop} {x : Int64} (h : ∀ r, isB r → post r) : wp_X2_isGuarded post x := by
  unfold wp_X2_isGuarded
  repeat' (first | exact ⟨Or.inl rfl, h _ (Or.inl rfl)⟩ | exact ⟨Or.inr rfl, h _ (Or.inr rfl)⟩ | refine ⟨fun _ => ?_, fun _ => ?_⟩)
theorem sf_leastOf {post : Int32 → Prop} {x : Int32} (h : ∀ r, post r) : wp_X2_leastOf post x := ⟨fun _ => h _, fun _ => h _⟩
theorem sf_mostOf {post : Int32 → Prop} {x : Int32} (h : ∀ r, post r) : wp_X2_mostOf post x := by
  unfold wp_X2_mostOf
  refine sf_isRegister (fun r _ => ⟨fun _ => sf_isPredicate (fun q _ => ⟨fun _ => ⟨fun _ => h _, fun _ => h _⟩, fun _ => h _⟩), fun _ => h _⟩)
theorem sf_fieldOf {post : Int32 → Prop} {x : Int32} {w : Int64} (h : ∀ r, post r) : wp_X2_fieldOf post x w := by
  unfold wp_X2_fieldOf
  exact sf_shiftOf (fun r => ⟨fun _ => h _, fun _ => ⟨fun _ => h _, fun _ => h _⟩⟩)
theorem sf_bitOf {post : Int32 → Prop} {x : Int32} {w : Int64} (h : ∀ r, post r) : wp_X2_bitOf post x w := by
  unfold wp_X2_bitOf
  exact sf_isPredicate (fun b _ => ⟨fun _ => sf_fieldOf (fun r => h _), fun _ => sf_fieldOf (fun r => h _)⟩)
theorem x_len {post : Int32 → Prop} {e : Nat} (he : e < nX) (h : post (nI (lenX.getD e 0))) : wp_J0_length_8abf5 post e := by
  refine ⟨he, he, he, fun z => absurd z (by decide), fun _ => ⟨he, rfl, ?_⟩⟩
  have e0 : (Int32.ofNat (lenX.getD e 0)) >>> ((0 : Int32) &&& 31) = nI (lenX.getD e 0) := by
    rw [show (0 : Int32) &&& 31 = 0 by decide, Int32.shiftRight_zero]
    rfl
  show post ((Int32.ofNat (lenX.getD e 0)) >>> ((0 : Int32) &&& 31))
  rw [e0]
  exact h
theorem px_lt {e : Nat} (he : e < 53) : pxI e < nX := co_dec (N := 53) (P := fun e => pxI e < nX) (by decide +kernel) he
theorem sf_hasCodeOf {post : Int32 → Prop} {e : Nat} {w : Int64} (he : e < 53) (h : ∀ r, isB r → post r) : wp_X2_hasCodeOf post e w :=
  ⟨he, fun _ => ⟨Or.inr rfl, h _ (Or.inr rfl)⟩, fun _ => ⟨Or.inl rfl, h _ (Or.inl rfl)⟩⟩
theorem sf_makes_32 {post : Int32 → Prop} {e : Nat} {w : Int64} (he : e < 53) (h : ∀ r, isB r → post r) : ∀ (d j : Nat) (x : Int64), j + d = lenX.getD (pxI e) 0 → wL_X2_makes_32 post (d + 1) e w x (nI j) := by
  have hp := px_lt he
  have hL := lenX_lt (pxI e)
  intro d
  induction d with
  | zero =>
    intro j x hj
    refine ⟨he, hp, x_len hp ⟨fun _ => ⟨fun _ => ⟨Or.inr rfl, h _ (Or.inr rfl)⟩, fun _ => ⟨Or.inl rfl, h _ (Or.inl rfl)⟩⟩, fun z => absurd (nI_le (by omega) (by omega)) z⟩⟩
  | succ d ih =>
    intro j x hj
    have k : ∀ y : Int64, wB_X2_makes_129 post (wL_X2_makes_32 post (d + 1)) e w y (nI j) := fun y z hz => by
      rw [hz, nI_1]
      exact ih (j + 1) y (by omega)
    refine ⟨he, hp, x_len hp ⟨fun z => absurd z (nI_ge (by omega) hL), fun _ => ⟨he, hp, vp_in_nI (by omega) hL, fun c _ => ?_⟩⟩⟩
    exact sf_shiftOf (fun r => sf_fieldOf (fun v => ⟨fun _ => k _, fun _ => sf_leastOf (fun a => ⟨fun _ => h _ (Or.inl rfl), fun _ => sf_mostOf (fun b => ⟨fun _ => ⟨fun _ => fun y _ => k y, fun _ => fun y _ => k y⟩, fun _ => h _ (Or.inl rfl)⟩)⟩)⟩))
theorem sf_makes {post : Int32 → Prop} {e : Nat} {w : Int64} (he : e < 53) (h : ∀ r, isB r → post r) : wp_X2_makes post e w := by
  have k : wB_X2_makes_17 post e w := ⟨he, fun x _ => ⟨lenX.getD (pxI e) 0 + 1, sf_makes_32 he h _ 0 x (by omega)⟩⟩
  exact ⟨fun _ => k, fun _ => ⟨fun _ => k, fun _ => h _ (Or.inl rfl)⟩⟩
theorem sf_of_2 {post : Option Nat → Prop} {w : Int64} (hn : post none) (hs : ∀ e, e < 53 → post (some e)) : ∀ (d j : Nat), j + d = 53 → wL_X2_of_2 post (d + 1) w (nI j) := by
  intro d
  induction d with
  | zero =>
    intro j hj
    exact ⟨fun _ => hn, fun z => absurd (show (53 : Int32) ≤ nI j by rw [show j = 53 by omega]; decide) z⟩
  | succ d ih =>
    intro j hj
    have he : (nI j).toNatClampNeg < 53 := by rw [nI_clamp (by omega)]; omega
    have k : wB_X2_of_40 post (wL_X2_of_2 post (d + 1)) w (nI j) := fun z hz => by
      rw [hz, nI_1]
      exact ih (j + 1) (by omega)
    exact ⟨fun z => absurd z (nI_ge (a := j) (b := 53) (by omega) (by decide)), fun _ => ⟨vp_in_nI (by omega) (by decide), he, sf_hasCodeOf he (fun r _ => ⟨fun _ => k, fun _ => ⟨vp_in_nI (by omega) (by decide), he, sf_makes he (fun q _ => ⟨fun _ => k, fun _ => ⟨vp_in_nI (by omega) (by decide), hs _ he⟩⟩)⟩⟩)⟩⟩
theorem sf_of {post : Option Nat → Prop} {w : Int64} (hn : post none) (hs : ∀ e, e < 53 → post (some e)) : wp_X2_of post w := ⟨54, sf_of_2 hn hs 53 0 (by omega)⟩
theorem sf_reads_26 {post : Int32 → Prop} {w : Int64} {e : Nat} (he : e < 53) (h : ∀ r, post r) : ∀ (d j : Nat) (x : Int32), j + d = lenX.getD (pxI e) 0 → wL_X2_readsOf_26 post (d + 1) e w x (nI j) := by
  have hp := px_lt he
  have hL := lenX_lt (pxI e)
  intro d
  induction d with
  | zero =>
    intro j x hj
    exact ⟨he, hp, x_len hp ⟨fun _ => ⟨he, fun _ => sf_bitOf (fun _ => h _), fun _ => h _⟩, fun z => absurd (nI_le (by omega) (by omega)) z⟩⟩
  | succ d ih =>
    intro j x hj
    have k93 : ∀ y : Int32, wB_X2_readsOf_93 post (wL_X2_readsOf_26 post (d + 1)) e w y (nI j) := fun y z hz => by
      rw [hz, nI_1]; exact ih (j + 1) y (by omega)
    have k84 : ∀ y c : Int32, wB_X2_readsOf_84 post (wL_X2_readsOf_26 post (d + 1)) e w y (nI j) c := fun y c => sf_bitOf (fun r => fun z _ => k93 z)
    refine ⟨he, hp, x_len hp ⟨fun z => absurd z (nI_ge (by omega) hL), fun _ => ⟨he, hp, vp_in_nI (by omega) hL, fun c _ => ?_⟩⟩⟩
    repeat' (first | exact k84 _ _ | exact k93 _ | refine ⟨fun _ => ?_, fun _ => ?_⟩)
theorem sf_readsOf {post : Int32 → Prop} {w : Int64} {e : Nat} (he : e < 53) (h : ∀ r, post r) : wp_X2_readsOf post e w :=
  sf_isGuarded (fun r _ => ⟨fun _ => ⟨_, sf_reads_26 he h _ 0 _ (Nat.zero_add _)⟩, fun _ => ⟨_, sf_reads_26 he h _ 0 _ (Nat.zero_add _)⟩⟩)
theorem sf_idxChar {post : Int32 → Prop} {e : Nat} {c : Int32} (he : e < nX) (h : ∀ r, post r) : ∀ (d j : Nat), j + d = lenX.getD e 0 → wL_J1_indexOfChar_4cfef_7 post (d + 1) e (nI (lenX.getD e 0)) c (nI j) := by
  have hL := lenX_lt e
  intro d
  induction d with
  | zero => intro j hj; exact ⟨fun _ => h _, fun z => absurd (nI_le (by omega) (by omega)) z⟩
  | succ d ih =>
    intro j hj
    exact ⟨fun z => absurd z (nI_ge (by omega) hL), fun _ => ⟨he, vp_in_nI (by omega) hL, fun _ => h _, fun _ => fun z hz => by rw [hz, nI_1]; exact ih (j + 1) (by omega)⟩⟩
theorem sf_indexOf {post : Int32 → Prop} {e : Nat} {c : Int32} (he : e < nX) (h : ∀ r, post r) : wp_J0_indexOf_0f7a4 post e c := by
  have hL := lenX_lt e
  refine ⟨he, he, fun z => absurd z (by decide), fun _ => ⟨he, fun _ => ⟨Or.inr rfl, fun z => absurd z (by decide), fun _ => ⟨he, he, x_len he ?_⟩⟩, fun z => absurd rfl z⟩⟩
  have k : wp_J9_max_7cf53 (fun r_3 => e < nX ∧ (wp_J9_min_7cf53 (fun r_6 => (r_3 < r_6 → (wp_J1_indexOfChar_4cfef (fun r_8 => wB_J0_indexOf_7cf53_36 (fun r_1 => post r_1) r_8) e c r_3 r_6)) ∧ (¬ r_3 < r_6 → (wB_J0_indexOf_7cf53_36 (fun r_1 => post r_1) (-1)))) (nI (lenX.getD e 0)) (Int32.ofNat (lenX.getD e 0)))) 0 0 := by
    have k2 : wp_J1_indexOfChar_4cfef (fun r_8 => wB_J0_indexOf_7cf53_36 (fun r_1 => post r_1) r_8) e c 0 (nI (lenX.getD e 0)) := fun x _ => ⟨_, sf_idxChar he (fun r => h r) _ 0 (Nat.zero_add _)⟩
    refine ⟨fun z => absurd z (by decide), fun _ => ⟨he, fun z => absurd z (Int32.lt_irrefl), fun _ => ⟨fun _ => k2, fun _ => h _⟩⟩⟩
  refine ⟨fun _ => ⟨Or.inl rfl, fun _ => h _, fun z => absurd rfl z⟩, fun _ => ⟨fun _ => ⟨Or.inl rfl, fun _ => h _, fun z => absurd rfl z⟩, fun _ => ⟨Or.inr rfl, fun z => absurd z (by decide), fun _ => k⟩⟩⟩
theorem sf_writesOf {post : Int32 → Prop} {w : Int64} {e : Nat} (he : e < 53) (h : ∀ r, post r) : wp_X2_writesOf post e w :=
  have hp := px_lt he
  ⟨he, hp, sf_indexOf hp (fun r => ⟨fun _ => ⟨he, hp, sf_indexOf hp (fun q => ⟨fun _ => h _, fun _ => sf_bitOf (fun b => h b)⟩)⟩, fun _ => sf_bitOf (fun b => h b)⟩)⟩
/-- WORD k becomes w, whatever its masks are -/
theorem sf_put {post : XS → Prop} {w : Int64} {σ : XS} {k c : Nat} (hc : xI σ 8 = nI c) (hk : k ≤ c) (hk64 : k < 64) (hc64 : c ≤ 64)
    (h : ∀ (o : Option Nat) (a b : Int32), (∀ e, o = some e → e < 53) → post (yI (yA (yA (yQ (yL σ 6 k w) 1 k o) 4 k a) 5 k b) 8 (nI (max c (k + 1))))) : wp_X0_put post (nI k) w σ := by
  have hv : vp_in (nI k) 64 := vp_in_nI hk64 (by decide)
  have e1 : (nI k).toNatClampNeg = k := nI_clamp (by omega)
  have k88 : ∀ (o : Option Nat) (a b : Int32), (∀ e, o = some e → e < 53) → wB_X0_put_88 post (nI k) b (nI k) (yA (yQ (yL σ 6 (nI k).toNatClampNeg w) 1 (nI k).toNatClampNeg o) 4 (nI k).toNatClampNeg a) := fun o a b ho => by
    have hp := h o a b ho
    unfold wB_X0_put_88
    rw [e1]
    refine ⟨hv, ?_⟩
    have e8 : xI (yA (yQ (yL σ 6 k w) 1 k o) 4 k a) 8 = nI c := hc
    rw [e8, nI_1]
    unfold wp_J9_max_7cf53
    refine ⟨fun z => ?_, fun z => ?_⟩
    · have : c < k + 1 := by
        rcases Nat.lt_or_ge c (k + 1) with q | q
        · exact q
        · exact absurd z (Int32.not_lt.mpr (nI_le q (by omega)))
      rw [show max c (k + 1) = k + 1 by omega] at hp
      exact hp
    · have : k + 1 ≤ c := by
        rcases Nat.lt_or_ge c (k + 1) with q | q
        · exact absurd (nI_lt q (by omega)) z
        · exact q
      rw [show max c (k + 1) = c by omega] at hp
      exact hp
  refine ⟨fun z => absurd z (nI_pos (by omega)), fun _ => ⟨fun z => absurd z (by rw [hc]; exact Int32.not_lt.mpr (nI_le hk (by omega))), fun _ => ⟨fun _ => ?_, fun z => absurd (nI_lt (b := 64) hk64 (by decide)) z⟩⟩⟩
  refine sf_of ⟨fun _ => ⟨hv, hv, ⟨fun _ => ⟨hv, k88 none 0 0 (fun e z => by cases z)⟩, fun e z => by cases z⟩⟩, fun e z => by cases z⟩
    (fun e he => ⟨fun z => (by cases z), fun e' z => ?_⟩)
  cases z
  exact ⟨hv, he, hv, he, sf_readsOf he (fun a => ⟨fun z => (by cases z), fun e' z => (by
    cases z
    exact ⟨hv, sf_isGuarded (fun g _ => ⟨fun _ => ⟨he, sf_writesOf he (fun b => k88 (some e) a b (fun e' z => by cases z; exact he))⟩, fun _ => k88 (some e) a 0 (fun e' z => by cases z; exact he)⟩)⟩)⟩)⟩
