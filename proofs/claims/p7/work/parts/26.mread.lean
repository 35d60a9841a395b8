/-! the reference: what stands between calls, and while a TEXT is read -/
theorem nI_ne1 {n : Nat} (h : n < 2 ^ 31) : ¬ nI n = (-1 : Int32) := fun z => nI_pos h (by rw [z]; decide)
theorem one_s {s : Nat} (hs : s < 2) : (1 : Int32) - nI s = nI (1 - s) := pk_sub (a := 1) (b := s) (by omega)
def GI (s t : Nat) (σ : MS) : Prop := mI σ 14 = nI s ∧ mI σ 2 = nI t ∧ (∃ z, z ≤ 64 ∧ mI σ 11 = nI z) ∧ (∀ i, vp_in (mA σ 19 i) 65 ∧ isB (mA σ 31 i)) ∧ ∀ q, q < 2 → ∃ c, c ≤ 400 ∧ mA σ 15 q = nI c
def PS (T s a l w c : Nat) (σ : MS) : Prop := GI s 0 σ ∧ mA σ 6 T = 0 ∧ mI σ 9 = nI a ∧ mI σ 13 = nI l ∧ mI σ 18 = nI w ∧ mA σ 15 (1 - s) = nI c
section MR
variable {T s a l w c : Nat} {σ : MS} {post : Int32 → MS → Prop}
theorem ps_in (hT : T ≤ 700) (h : PS T s a l w c σ) (ha : a ≤ T) : vp_in (mI σ 9) 702 := by rw [h.2.2.1]; exact vp_in_nI (by omega) (by decide)
theorem ps_in1 (hT : T ≤ 700) (h : PS T s a l w c σ) (ha : a ≤ T) : vp_in (mI σ 9 + 1) 702 := by rw [h.2.2.1, nI_1]; exact vp_in_nI (by omega) (by decide)
theorem ps_kind (hT : T ≤ 700) (h : PS T s a l w c σ) (ha : a ≤ T) {x : Int32} (k : mA σ 6 (mI σ 9).toNatClampNeg = x) (hx : ¬ x = 0) : a < T := by
  rcases Nat.lt_or_ge a T with q | q
  · exact q
  · exfalso
    apply hx
    rw [← k, h.2.2.1, nI_clamp (by omega), show a = T by omega]
    exact h.2.1
theorem ps_kind1 (hT : T ≤ 700) (h : PS T s a l w c σ) (ha : a < T) {x : Int32} (k : mA σ 6 (mI σ 9 + 1).toNatClampNeg = x) (hx : ¬ x = 0) : a + 1 < T := by
  rcases Nat.lt_or_ge (a + 1) T with q | q
  · exact q
  · exfalso
    apply hx
    rw [← k, h.2.2.1, nI_1, nI_clamp (by omega), show a + 1 = T by omega]
    exact h.2.1
theorem ps_at {v : Int32} {a' : Nat} (h : PS T s a l w c σ) (e : v = nI a') : PS T s a' l w c (wI σ 9 v) := ⟨h.1, h.2.1, e, h.2.2.2⟩
theorem ps_adv (h : PS T s a l w c σ) : PS T s (a + 1) l w c (wI σ 9 (mI σ 9 + 1)) := ps_at h (by rw [h.2.2.1, nI_1])
theorem ps_adv2 (h : PS T s a l w c σ) : PS T s (a + 2) l w c (wI σ 9 (mI σ 9 + 2)) := ps_at h (by rw [h.2.2.1]; exact nI_add a 2)
theorem sm_note {post : MS → Prop} {x y : Int32} (h : post σ) (h2 : post (wI (wI σ 3 x) 4 y)) : wp_X9_note post x y σ :=
  ⟨fun _ => h, fun _ => ⟨fun _ => h2, fun _ => ⟨fun _ => h, fun _ => ⟨fun _ => ⟨fun _ => h2, fun _ => h⟩, fun _ => h2⟩⟩⟩⟩
theorem sm_noteP {post : MS → Prop} {x y : Int32} (h : PS T s a l w c σ) (k : ∀ τ, PS T s a l w c τ → post τ) : wp_X9_note post x y σ := sm_note (k _ h) (k _ h)
theorem sm_refuse (hT : T ≤ 700) (h : PS T s a l w c σ) (ha : a ≤ T) (k : ∀ τ, PS T s a l w c τ → post 0 τ) : wp_X9_refuse post σ := ⟨ps_in hT h ha, k _ h⟩
theorem sm_is {x : Int32} (hT : T ≤ 700) (h : PS T s a l w c σ) (ha : a ≤ T) (h0 : post 0 σ) (h1 : a < T → post 1 σ) : wp_X9_is post x σ :=
  ⟨ps_in hT h ha, fun k => ⟨ps_in hT h ha, fun _ => ⟨Or.inr rfl, h1 (ps_kind hT h ha k (by decide))⟩, fun _ => ⟨Or.inl rfl, h0⟩⟩, fun _ => ⟨Or.inl rfl, h0⟩⟩
theorem sm_isNext {x : Int32} (hT : T ≤ 700) (h : PS T s a l w c σ) (ha : a < T) (h0 : post 0 σ) (h1 : a + 1 < T → post 1 σ) : wp_X9_isNext post x σ :=
  ⟨ps_in1 hT h (by omega), fun k => ⟨ps_in1 hT h (by omega), fun _ => ⟨Or.inr rfl, h1 (ps_kind1 hT h ha k (by decide))⟩, fun _ => ⟨Or.inl rfl, h0⟩⟩, fun _ => ⟨Or.inl rfl, h0⟩⟩
theorem sm_takes {x : Int32} (hT : T ≤ 700) (h : PS T s a l w c σ) (ha : a ≤ T) (h0 : post 0 σ) (h1 : ∀ τ, a < T → PS T s (a + 1) l w c τ → post 1 τ) : wp_X9_takes post x σ :=
  sm_is hT h ha ⟨fun _ => ⟨Or.inl rfl, h0⟩, fun z => absurd rfl z⟩ (fun q => ⟨fun z => absurd z (by decide), fun _ => ⟨Or.inr rfl, h1 _ q (ps_adv h)⟩⟩)
theorem sm_takes' {x : Int32} (hT : T ≤ 700) (h : PS T s a l w c σ) (ha : a ≤ T) (k : ∀ r b τ, isB r → a ≤ b → b ≤ T → PS T s b l w c τ → post r τ) : wp_X9_takes post x σ :=
  sm_takes hT h ha (k 0 a σ (Or.inl rfl) (by omega) ha h) (fun τ q g => k 1 (a + 1) τ (Or.inr rfl) (by omega) (by omega) g)
theorem sm_want {x : Int32} (hT : T ≤ 700) (h : PS T s a l w c σ) (ha : a ≤ T) (h0 : ∀ τ, PS T s a l w c τ → post 0 τ) (h1 : ∀ τ, a < T → PS T s (a + 1) l w c τ → post 1 τ) : wp_X9_want post x σ :=
  sm_takes hT h ha ⟨fun _ => sm_refuse hT h ha (fun τ q => ⟨fun _ => ⟨Or.inl rfl, h0 _ q⟩, fun z => absurd rfl z⟩), fun z => absurd rfl z⟩ (fun τ q g => ⟨fun z => absurd z (by decide), fun _ => ⟨Or.inr rfl, h1 _ q g⟩⟩)
theorem sm_find {q : Nat} {v : Int64} (hq : q < 2) (h : ∃ c, c ≤ 400 ∧ mA σ 15 q = nI c) (h0 : post (-1) σ) (h1 : ∀ r, vp_in r 800 → ¬ r = (-1) → post r σ) : wp_X9_find post (nI q) v σ := by
  obtain ⟨c, hc, e⟩ := h
  intro x hx
  have hm : (400 : Int32) * nI q = nI (400 * q) := pk_mul 400 q
  rw [hm] at hx
  have main : ∀ (d j : Nat), j + d = c → wL_X9_find_7 post (d + 1) (nI q) v (nI (400 * q + j)) σ := by
    intro d
    induction d with
    | zero =>
      intro j hj
      refine ⟨vp_in_nI hq (by decide), fun _ => h0, fun z => absurd ?_ z⟩
      rw [nI_clamp (by omega), e, hm, nI_add]
      exact nI_le (by omega) (by omega)
    | succ d ih =>
      intro j hj
      refine ⟨vp_in_nI hq (by decide), fun _ => h0, fun _ => ⟨vp_in_nI (by omega) (by decide), fun _ => h1 _ (vp_in_nI (by omega) (by decide)) (nI_ne1 (by omega)), fun _ => fun y hy => ?_⟩⟩
      rw [hy, nI_1]
      exact ih (j + 1) (by omega)
  rw [hx]
  exact ⟨c + 1, main c 0 (by omega)⟩
theorem ps_one (hs : s < 2) (h : PS T s a l w c σ) : (1 : Int32) - mI σ 14 = nI (1 - s) := by rw [h.1.1]; exact one_s hs
theorem ps_names (hs : s < 2) (hc : c < 400) (h : PS T s a l w c σ) {v : Int32} (hv : v = nI (c + 1)) : PS T s a l w (c + 1) (wA σ 15 (1 - s) v) := by
  refine ⟨⟨h.1.1, h.1.2.1, h.1.2.2.1, h.1.2.2.2.1, fun q hq => ?_⟩, h.2.1, h.2.2.1, h.2.2.2.1, h.2.2.2.2.1, ?_⟩
  · rw [mA_wA, if_pos rfl]
    by_cases e : q = 1 - s
    · rw [e, pk_us]; exact ⟨c + 1, by omega, hv⟩
    · rw [pk_un e]; exact h.1.2.2.2.2 q hq
  · rw [mA_wA, if_pos rfl, pk_us, hv]
theorem sm_tell21 {post : MS → Prop} {x y : Int64} (hs : s < 2) (hc : c < 400) (h : PS T s a l w c σ) (k : ∀ τ b, b ≤ c + 1 → PS T s a l w b τ → post τ) : wB_X9_tell_21 post x y σ := by
  have e := ps_one hs h
  have hc1 : mA σ 15 (1 - s) = nI c := h.2.2.2.2.2
  unfold wB_X9_tell_21
  rw [e]
  refine ⟨vp_in_nI (by omega) (by decide), fun z hz => ?_⟩
  have hz : z = nI (400 * (1 - s) + c) := by
    rw [hz, nI_clamp (by omega), hc1, show (400 : Int32) * nI (1 - s) = nI (400 * (1 - s)) from pk_mul 400 (1 - s), nI_add]
  have hi : vp_in z 800 := by rw [hz]; exact vp_in_nI (by omega) (by decide)
  refine sm_find (by omega) ⟨c, by omega, hc1⟩ ⟨fun _ => ⟨hi, hi, ?_, ?_, ?_⟩, fun z => absurd rfl z⟩ (fun r _ hr => ⟨fun z => absurd z hr, fun _ => k _ c (by omega) h⟩)
  · rw [e]; exact vp_in_nI (by omega) (by decide)
  · rw [e]; exact vp_in_nI (by omega) (by decide)
  · rw [e, nI_clamp (by omega)]
    refine k _ (c + 1) (by omega) (ps_names (σ := wL (wL σ 16 z.toNatClampNeg x) 17 z.toNatClampNeg y) hs hc h ?_)
    rw [hc1, nI_1]
theorem sm_tell {post : MS → Prop} {x y : Int64} {z : Int32} (hs : s < 2) (hc : c < 400) (h : PS T s a l w c σ) (k : ∀ τ b, b ≤ c + 1 → PS T s a l w b τ → post τ) : wp_X9_tell post x z y σ := by
  have e := ps_one hs h
  unfold wp_X9_tell
  rw [e]
  exact sm_find (by omega) (h.1.2.2.2.2 _ (by omega)) ⟨fun _ => sm_tell21 hs hc h k, fun z => absurd rfl z⟩ (fun r _ hr => ⟨fun z => absurd z hr, fun _ => sm_noteP h (fun τ g => sm_tell21 hs hc g k)⟩)
theorem sm_readRegister {x : Int32} (hT : T ≤ 700) (h : PS T s a l w c σ) (ha : a ≤ T) (h0 : ∀ τ, PS T s a l w c τ → post 0 τ) (h1 : ∀ τ, a < T → PS T s (a + 1) l w c τ → post 1 τ) : wp_X9_readRegister post x σ := by
  have r0 : ∀ x4 x7, wB_X9_readRegister_142 post x4 x7 0 σ := fun x4 x7 => ⟨fun _ => sm_refuse hT h ha (fun τ q => ⟨Or.inl rfl, h0 _ q⟩), fun z => absurd rfl z⟩
  have r1 : a < T → ∀ x4 x7, wB_X9_readRegister_142 post x4 x7 1 σ := fun q x4 x7 => ⟨fun z => absurd z (by decide), fun _ => ⟨fun _ => h1 _ q (ps_adv (σ := wI σ 25 x4) h), fun _ => h1 _ q (ps_adv (σ := wI σ 25 (10 + x4)) h)⟩⟩
  have r132 : a < T → ∀ x4 x7, wB_X9_readRegister_132 post x4 x7 σ := fun q x4 x7 => ⟨fun _ => r0 _ _, fun _ => r1 q _ _⟩
  have r100 : ∀ x1 x4 x6 t0, wB_X9_readRegister_100 post x1 x4 x6 t0 σ := fun x1 x4 x6 t0 => ⟨ps_in hT h ha, fun k => ⟨fun _ => r132 (ps_kind hT h ha k (by decide)) _ _, fun _ => ⟨fun _ => r1 (ps_kind hT h ha k (by decide)) _ _, fun _ => ⟨fun _ => r1 (ps_kind hT h ha k (by decide)) _ _, fun _ => r132 (ps_kind hT h ha k (by decide)) _ _⟩⟩⟩, fun _ => r0 _ _⟩
  have r59 : ∀ x1 x2 x4 x5 t0, wB_X9_readRegister_59 post x1 x2 x4 x5 t0 σ := fun x1 x2 x4 x5 t0 => ⟨fun _ => ⟨fun _ => ⟨fun _ => ⟨fun _ => r100 _ _ _ _, fun _ => ⟨fun _ => r100 _ _ _ _, fun _ => r100 _ _ _ _⟩⟩, fun _ => r100 _ _ _ _⟩, fun _ => r100 _ _ _ _⟩, fun _ => r100 _ _ _ _⟩
  exact ⟨ps_in hT h ha, fun x2 _ x4 _ x5 _ => ⟨fun _ => ⟨fun _ => r59 _ _ _ _ _, fun _ => ⟨fun _ => r59 _ _ _ _ _, fun _ => r59 _ _ _ _ _⟩⟩, fun _ => r59 _ _ _ _ _⟩⟩
theorem sm_isInt {post : Int32 → Prop} {x : Int64} (h : ∀ r, isB r → post r) : wp_X9_isInt post x := ⟨fun _ => ⟨Or.inl rfl, h _ (Or.inl rfl)⟩, fun _ => ⟨fun _ => ⟨Or.inl rfl, h _ (Or.inl rfl)⟩, fun _ => ⟨Or.inr rfl, h _ (Or.inr rfl)⟩⟩⟩
theorem ps_wait {i : Nat} {v : Int32} (h : PS T s a l w c σ) (hv : vp_in v 65) : PS T s a l w c (wA σ 19 i v) := by
  refine ⟨⟨h.1.1, h.1.2.1, h.1.2.2.1, fun j => ?_, h.1.2.2.2.2⟩, h.2.1, h.2.2.1, h.2.2.2.1, h.2.2.2.2.1, h.2.2.2.2.2⟩
  refine ⟨?_, (h.1.2.2.2.1 j).2⟩
  rw [mA_wA, if_pos rfl]
  by_cases e : j = i
  · rw [e, pk_us]; exact hv
  · rw [pk_un e]; exact (h.1.2.2.2.1 j).1
theorem sm_readNumber {x1 x2 : Int32} (hT : T ≤ 700) (hs : s < 2) (hl : l ≤ 64) (hw : x2 = 0 → w < 64) (h : PS T s a l w c σ) (ha : a ≤ T) (h0 : ∀ b τ, a ≤ b → b ≤ T → PS T s b l w c τ → post 0 τ) (h1 : ∀ b τ, a < b → b ≤ T → PS T s b l w c τ → post 1 τ) : wp_X9_readNumber post x1 x2 σ := by
  refine ⟨ps_in hT h ha, fun x3 _ => sm_takes' hT h ha (fun r b τ hr hab hbT g => ?_)⟩
  have i9 : vp_in (mI τ 9) 702 := ps_in hT g hbT
  have k112 : b < T → ∀ τ, PS T s b l w c τ → wB_X9_readNumber_112 post τ := fun q τ g => h1 (b + 1) _ (by omega) (by omega) (ps_adv g)
  have k106 : b < T → ∀ τ, PS T s b l w c τ → wB_X9_readNumber_106 post x3 τ := fun q τ g => sm_noteP g (fun τ' g' => k112 q τ' g')
  have k69 : b < T → ∀ t0 τ, PS T s b l w c τ → wB_X9_readNumber_69 post x1 x3 t0 τ := fun q t0 τ g => sm_isInt (fun r _ => ⟨fun _ => k106 q _ g, fun _ => ⟨fun _ => k112 q _ g, fun _ => ⟨fun _ => k106 q _ g, fun _ => ⟨fun _ => k112 q _ g, fun _ => k106 q _ g⟩⟩⟩⟩)
  have k221 : b < T → ∀ t0 τ, PS T s b l w c τ → wB_X9_readNumber_221 post x3 t0 τ := fun q t0 τ g => sm_isInt (fun r _ => ⟨fun _ => sm_noteP (σ := wJ τ 26 t0) g (fun τ' g' => k112 q τ' g'), fun _ => k112 q _ g⟩)
  have k187 : b < T → ∀ r16 τ, (¬ r16 = (-1) → vp_in r16 800) → PS T s b l w c τ → wB_X9_readNumber_187 post x3 r r16 τ := fun q r16 τ hv g => ⟨fun _ => k221 q _ _ g, fun z => ⟨fun _ => ⟨hv z, k221 q _ _ g⟩, fun _ => ⟨hv z, k221 q _ _ g⟩⟩⟩
  refine ⟨i9, fun k => ?_, fun _ => ⟨i9, fun k => ?_, fun _ => ?_⟩⟩
  · have q := ps_kind hT g hbT k (by decide)
    exact ⟨fun _ => ⟨i9, k69 q _ _ g⟩, fun _ => ⟨i9, k69 q _ _ g⟩⟩
  · have q := ps_kind hT g hbT k (by decide)
    refine ⟨fun z => ?_, fun _ => ⟨i9, ?_⟩⟩
    · have i18 : vp_in (mI τ 18) 64 := by rw [g.2.2.2.2.1]; exact vp_in_nI (hw z) (by decide)
      have i13 : vp_in (mI τ 13) 65 := by rw [g.2.2.2.1]; exact vp_in_nI (by omega) (by decide)
      exact ⟨i18, i9, i18, i9, i18, i18, i18, i18, k112 q _ (ps_wait (σ := wI (wJ (wI τ 27 0) 26 0) 27 1) g i13)⟩
    · rw [ps_one hs g]
      exact sm_find (σ := wJ (wI τ 27 0) 26 0) (by omega) (g.1.2.2.2.2 _ (by omega)) ⟨fun _ => ⟨i9, sm_noteP (σ := wJ (wI τ 27 0) 26 0) g (fun τ' g' => k187 q _ τ' (fun z => absurd rfl z) g')⟩, fun z => absurd rfl z⟩ (fun r' hv hr => ⟨fun z => absurd z hr, fun _ => k187 q _ _ (fun _ => hv) g⟩)
  · exact sm_refuse (σ := wJ (wI τ 27 0) 26 0) hT g hbT (fun τ' g' => ⟨Or.inl rfl, h0 b τ' hab hbT g'⟩)
end MR
