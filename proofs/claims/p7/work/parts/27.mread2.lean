/-! the reference's reading of a TEXT goes through -/
section MR
variable {T s a l w c : Nat} {σ : MS} {post : Int32 → MS → Prop}
theorem sm_readPart0 {x : Int32} (hT : T ≤ 700) (hs : s < 2) (hl : l ≤ 64) (hw : w < 64) (hx : ¬ x = 77) (h : PS T s a l w c σ) (ha : a ≤ T) (h0 : ∀ b τ, a ≤ b → b ≤ T → PS T s b l w c τ → post 0 τ) (h1 : ∀ b τ, a < b → b ≤ T → PS T s b l w c τ → post 1 τ) : wp_X9_readPart_0 post x σ := by
  have k267 : ∀ t0, wB_X9_readPart_0_267 post t0 σ := fun t0 => sm_readNumber hT hs hl (fun _ => hw) h ha (fun b τ l1 l2 g => ⟨fun _ => h0 b τ l1 l2 g, fun z => absurd rfl z⟩) (fun b τ l1 l2 g => ⟨fun z => absurd z (by decide), fun _ => ⟨fun _ => h1 b (wJ τ 28 _) l1 l2 g, fun _ => h1 b (wJ τ 28 _) l1 l2 g⟩⟩)
  exact ⟨fun _ => sm_readRegister hT h ha (fun τ g => ⟨fun _ => h0 a τ (Nat.le_refl a) ha g, fun z => absurd rfl z⟩) (fun τ q g => ⟨fun z => absurd z (by decide), fun _ => ⟨fun _ => h1 (a + 1) _ (by omega) (by omega) g, fun _ => ⟨fun _ => h1 (a + 1) _ (by omega) (by omega) g, fun _ => h1 (a + 1) _ (by omega) (by omega) g⟩⟩⟩), fun _ => sm_readRegister hT h ha (fun τ g => ⟨fun _ => h0 a τ (Nat.le_refl a) ha g, fun z => absurd rfl z⟩) (fun τ q g => ⟨fun z => absurd z (by decide), fun _ => ⟨fun _ => h1 (a + 1) _ (by omega) (by omega) g, fun _ => ⟨fun _ => h1 (a + 1) _ (by omega) (by omega) g, fun _ => h1 (a + 1) _ (by omega) (by omega) g⟩⟩⟩), fun _ => sm_readRegister hT h ha (fun τ g => ⟨fun _ => h0 a τ (Nat.le_refl a) ha g, fun z => absurd rfl z⟩) (fun τ q g => ⟨fun z => absurd z (by decide), fun _ => ⟨fun _ => h1 (a + 1) _ (by omega) (by omega) g, fun _ => ⟨fun _ => h1 (a + 1) _ (by omega) (by omega) g, fun _ => h1 (a + 1) _ (by omega) (by omega) g⟩⟩⟩), fun z => absurd z hx, fun _ => sm_readRegister hT h ha (fun τ g => ⟨fun _ => h0 a τ (Nat.le_refl a) ha g, fun z => absurd rfl z⟩) (fun τ q g => ⟨fun z => absurd z (by decide), fun _ => h1 (a + 1) (wJ τ 28 _) (by omega) (by omega) g⟩), fun _ => sm_readRegister hT h ha (fun τ g => ⟨fun _ => h0 a τ (Nat.le_refl a) ha g, fun z => absurd rfl z⟩) (fun τ q g => ⟨fun z => absurd z (by decide), fun _ => ⟨fun _ => h1 (a + 1) _ (by omega) (by omega) g, fun _ => ⟨fun _ => h1 (a + 1) _ (by omega) (by omega) g, fun _ => h1 (a + 1) _ (by omega) (by omega) g⟩⟩⟩), fun _ => sm_readRegister hT h ha (fun τ g => ⟨fun _ => h0 a τ (Nat.le_refl a) ha g, fun z => absurd rfl z⟩) (fun τ q g => ⟨fun z => absurd z (by decide), fun _ => ⟨fun _ => h1 (a + 1) _ (by omega) (by omega) g, fun _ => ⟨fun _ => h1 (a + 1) _ (by omega) (by omega) g, fun _ => h1 (a + 1) _ (by omega) (by omega) g⟩⟩⟩), fun _ => sm_readRegister hT h ha (fun τ g => ⟨fun _ => h0 a τ (Nat.le_refl a) ha g, fun z => absurd rfl z⟩) (fun τ q g => ⟨fun z => absurd z (by decide), fun _ => ⟨fun _ => h1 (a + 1) _ (by omega) (by omega) g, fun _ => ⟨fun _ => h1 (a + 1) _ (by omega) (by omega) g, fun _ => h1 (a + 1) _ (by omega) (by omega) g⟩⟩⟩), fun _ _ _ _ _ _ _ _ => ⟨fun _ => k267 1, fun _ => k267 0⟩⟩
theorem sm_readPart {x : Int32} (hT : T ≤ 700) (hs : s < 2) (hl : l ≤ 64) (hw : w < 64) (h : PS T s a l w c σ) (ha : a ≤ T) (h0 : ∀ b τ, a ≤ b → b ≤ T → PS T s b l w c τ → post 0 τ) (h1 : ∀ b τ, a < b → b ≤ T → PS T s b l w c τ → post 1 τ) : wp_X9_readPart post x σ := by
  have k267 : ∀ t0, wB_X9_readPart_267 post t0 σ := fun t0 => sm_readNumber hT hs hl (fun _ => hw) h ha (fun b τ l1 l2 g => ⟨fun _ => h0 b τ l1 l2 g, fun z => absurd rfl z⟩) (fun b τ l1 l2 g => ⟨fun z => absurd z (by decide), fun _ => ⟨fun _ => h1 b (wJ τ 28 _) l1 l2 g, fun _ => h1 b (wJ τ 28 _) l1 l2 g⟩⟩)
  refine ⟨fun _ => sm_readRegister hT h ha (fun τ g => ⟨fun _ => h0 a τ (Nat.le_refl a) ha g, fun z => absurd rfl z⟩) (fun τ q g => ⟨fun z => absurd z (by decide), fun _ => ⟨fun _ => h1 (a + 1) _ (by omega) (by omega) g, fun _ => ⟨fun _ => h1 (a + 1) _ (by omega) (by omega) g, fun _ => h1 (a + 1) _ (by omega) (by omega) g⟩⟩⟩), fun _ => sm_readRegister hT h ha (fun τ g => ⟨fun _ => h0 a τ (Nat.le_refl a) ha g, fun z => absurd rfl z⟩) (fun τ q g => ⟨fun z => absurd z (by decide), fun _ => ⟨fun _ => h1 (a + 1) _ (by omega) (by omega) g, fun _ => ⟨fun _ => h1 (a + 1) _ (by omega) (by omega) g, fun _ => h1 (a + 1) _ (by omega) (by omega) g⟩⟩⟩), fun _ => sm_readRegister hT h ha (fun τ g => ⟨fun _ => h0 a τ (Nat.le_refl a) ha g, fun z => absurd rfl z⟩) (fun τ q g => ⟨fun z => absurd z (by decide), fun _ => ⟨fun _ => h1 (a + 1) _ (by omega) (by omega) g, fun _ => ⟨fun _ => h1 (a + 1) _ (by omega) (by omega) g, fun _ => h1 (a + 1) _ (by omega) (by omega) g⟩⟩⟩), fun _ => ?_, fun _ => sm_readRegister hT h ha (fun τ g => ⟨fun _ => h0 a τ (Nat.le_refl a) ha g, fun z => absurd rfl z⟩) (fun τ q g => ⟨fun z => absurd z (by decide), fun _ => h1 (a + 1) (wJ τ 28 _) (by omega) (by omega) g⟩), fun _ => sm_readRegister hT h ha (fun τ g => ⟨fun _ => h0 a τ (Nat.le_refl a) ha g, fun z => absurd rfl z⟩) (fun τ q g => ⟨fun z => absurd z (by decide), fun _ => ⟨fun _ => h1 (a + 1) _ (by omega) (by omega) g, fun _ => ⟨fun _ => h1 (a + 1) _ (by omega) (by omega) g, fun _ => h1 (a + 1) _ (by omega) (by omega) g⟩⟩⟩), fun _ => sm_readRegister hT h ha (fun τ g => ⟨fun _ => h0 a τ (Nat.le_refl a) ha g, fun z => absurd rfl z⟩) (fun τ q g => ⟨fun z => absurd z (by decide), fun _ => ⟨fun _ => h1 (a + 1) _ (by omega) (by omega) g, fun _ => ⟨fun _ => h1 (a + 1) _ (by omega) (by omega) g, fun _ => h1 (a + 1) _ (by omega) (by omega) g⟩⟩⟩), fun _ => sm_readRegister hT h ha (fun τ g => ⟨fun _ => h0 a τ (Nat.le_refl a) ha g, fun z => absurd rfl z⟩) (fun τ q g => ⟨fun z => absurd z (by decide), fun _ => ⟨fun _ => h1 (a + 1) _ (by omega) (by omega) g, fun _ => ⟨fun _ => h1 (a + 1) _ (by omega) (by omega) g, fun _ => h1 (a + 1) _ (by omega) (by omega) g⟩⟩⟩), fun _ _ _ _ _ _ _ _ => ⟨fun _ => k267 1, fun _ => k267 0⟩⟩
  refine sm_want hT h ha (fun τ g => ⟨fun _ => h0 a τ (Nat.le_refl a) ha g, fun z => absurd rfl z⟩) (fun τ q g => ⟨fun z => absurd z (by decide), fun _ => ?_⟩)
  refine sm_readPart0 hT hs hl hw (by decide) g (by omega) (fun b τ l1 l2 g => ⟨fun _ => h0 b τ (by omega) l2 g, fun z => absurd rfl z⟩) (fun b τ l1 l2 g => ⟨fun z => absurd z (by decide), fun _ => ?_⟩)
  refine sm_want hT g l2 (fun τ g => ⟨fun _ => h0 b τ (by omega) l2 g, fun z => absurd rfl z⟩) (fun τ q g => ⟨fun z => absurd z (by decide), fun _ => ?_⟩)
  refine sm_readPart0 hT hs hl hw (by decide) g (by omega) (fun b τ l1 l2 g => ⟨fun _ => h0 b τ (by omega) l2 g, fun z => absurd rfl z⟩) (fun b' τ l1' l2' g => ⟨fun z => absurd z (by decide), fun _ => ?_⟩)
  exact sm_want hT g l2' (fun τ g => ⟨Or.inl rfl, h0 b' τ (by omega) l2' g⟩) (fun τ q g => ⟨Or.inr rfl, h1 (b' + 1) τ (by omega) (by omega) g⟩)
theorem ps_word {u v : Int32} {v' : Nat} (g : PS T s a l w c σ) (hu : u = nI (l + 1)) (hv : v = nI v') : PS T s a (l + 1) v' c (wI (wI σ 13 u) 18 v) := ⟨g.1, g.2.1, g.2.2.1, hu, hv, g.2.2.2.2.2⟩
theorem sm_readWord {x : Nat} {y : Int64} (hx : x < 53) (hT : T ≤ 700) (hs : s < 2) (hl : l ≤ 64) (hwl : w ≤ l) (h : PS T s a l w c σ) (ha : a < T) (h0 : ∀ b τ, a ≤ b → b ≤ T → PS T s b l w c τ → post 0 τ) (h1 : ∀ b v τ, a < b → b ≤ T → v ≤ w + 1 → PS T s b (l + 1) v c τ → l < 64 → post 1 τ) : wp_X9_readWord post (nI x) y σ := by
  refine ⟨fun _ => sm_refuse hT h (by omega) (fun τ g => ⟨Or.inl rfl, h0 a τ (Nat.le_refl a) (by omega) g⟩), fun hn => ?_⟩
  have hl' : l < 64 := by
    rcases Nat.lt_or_ge l 64 with q | q
    · exact q
    · exact absurd (by rw [h.2.2.2.1, show l = 64 by omega]; rfl) hn
  have k147 : ∀ x4 b τ, a < b → b ≤ T → PS T s b l w c τ → wB_X9_readWord_147 post x4 τ := fun x4 b τ l1 l2 g => ⟨by rw [g.2.2.2.1]; exact vp_in_nI (by omega) (by decide),
    fun _ => h1 b w _ l1 l2 (by omega) (ps_word (σ := wL τ 12 (mI τ 13).toNatClampNeg (mJ τ 28)) g (by rw [g.2.2.2.1, nI_1]) (by rw [g.2.2.2.2.1]; exact nI_add w 0)) hl',
    fun _ => h1 b (w + 1) _ l1 l2 (by omega) (ps_word (σ := wL τ 12 (mI τ 13).toNatClampNeg (mJ τ 28)) g (by rw [g.2.2.2.1, nI_1]) (by rw [g.2.2.2.2.1]; exact nI_add w 1)) hl'⟩
  have main : ∀ (d j b : Nat) (x4 : Int32) (τ : MS), j + d = 4 → a < b → b ≤ T → PS T s b l w c τ → wL_X9_readWord_69 post (d + 1) (nI x) x4 (nI j) τ := by
    intro d
    induction d with
    | zero =>
      intro j b x4 τ hj l1 l2 g
      exact ⟨fun _ => k147 x4 b τ l1 l2 g, fun z => absurd (show (4 : Int32) ≤ nI j by rw [show j = 4 by omega]; decide) z⟩
    | succ d ih =>
      intro j b x4 τ hj l1 l2 g
      have hj4 : j < 4 := by omega
      have k134 : ∀ t0 b τ, a < b → b ≤ T → PS T s b l w c τ → wB_X9_readWord_134 post (wL_X9_readWord_69 post (d + 1)) (nI x) (nI j) t0 τ := fun t0 b τ l1 l2 g => fun z hz => by
        rw [hz, nI_1]
        exact ih (j + 1) b t0 (wI τ 27 0) (by omega) l1 l2 g
      have k102 : ∀ b τ, a < b → b ≤ T → PS T s b l w c τ → wB_X9_readWord_102 post (wL_X9_readWord_69 post (d + 1)) (nI x) x4 (nI j) τ := fun b τ l1 l2 g => sp_part hx hj4 (sm_readPart hT hs hl (by omega) g l2 (fun b' τ' l1' l2' g' => ⟨fun _ => h0 b' τ' (by omega) l2' g', fun z => absurd rfl z⟩) (fun b' τ' l1' l2' g' => ⟨fun z => absurd z (by decide), fun _ => ⟨fun _ => ⟨fun _ => k134 _ b' τ' (by omega) l2' g', fun _ => k134 _ b' τ' (by omega) l2' g'⟩, fun _ => k134 _ b' τ' (by omega) l2' g'⟩⟩))
      refine ⟨fun _ => k147 x4 b τ l1 l2 g, fun _ => sp_part hx hj4 ⟨fun _ => k147 x4 b τ l1 l2 g, fun _ => ⟨fun _ => k102 b τ l1 l2 g, fun _ => ?_⟩⟩⟩
      exact sm_want hT g l2 (fun τ g => ⟨fun _ => h0 b τ (by omega) l2 g, fun z => absurd rfl z⟩) (fun τ q g => ⟨fun z => absurd z (by decide), fun _ => k102 (b + 1) τ (by omega) (by omega) g⟩)
  have k54 : ∀ t0 t1, wB_X9_readWord_54 post (nI x) t0 t1 (wI σ 9 (mI σ 9 + 1)) := fun t0 t1 => ⟨5, main 4 0 (a + 1) 0 _ rfl (by omega) (by omega) (ps_adv h)⟩
  exact sp_opOf hx (sp_isTold ⟨fun _ => k54 _ _, fun _ => k54 _ _⟩)
theorem woF_r (v : Int64) : ∀ (d j : Nat), j + d = 53 → woF v d j = (-1) ∨ ∃ x, x < 53 ∧ woF v d j = nI x := by
  intro d
  induction d with
  | zero => intro j _; exact Or.inl rfl
  | succ d ih =>
    intro j hj
    unfold woF
    by_cases e : spC j = v
    · rw [if_pos e]; exact Or.inr ⟨j, by omega, rfl⟩
    · rw [if_neg e]; exact ih (j + 1) (by omega)
theorem wordC_r (v : Int64) : wordC v = (-1) ∨ ∃ x, x < 53 ∧ wordC v = nI x := woF_r v 53 0 rfl
theorem sm_readStatement (hT : T ≤ 700) (hs : s < 2) (hl : l ≤ 64) (hwl : w ≤ l) (hc : 2 * c ≤ a) (h : PS T s a l w c σ) (ha : a ≤ T) (h0 : ∀ b l' w' c' τ, b ≤ T → w' ≤ l' → l' ≤ 64 → 2 * c' ≤ 700 → PS T s b l' w' c' τ → post 0 τ) (h1 : ∀ b l' w' c' τ, a < b → b ≤ T → w' ≤ l' → l' ≤ 64 → 2 * c' ≤ b → PS T s b l' w' c' τ → post 1 τ) : wp_X9_readStatement post σ := by
  have r0 : ∀ b c' τ, b ≤ T → 2 * c' ≤ 700 → PS T s b l w c' τ → wB_X9_readStatement_274 post τ := fun b c' τ l2 hc' g => sm_refuse hT g l2 (fun τ g => ⟨Or.inl rfl, h0 b l w c' τ l2 hwl hl hc' g⟩)
  have k210 : ∀ x1 b c' τ, a ≤ b → b ≤ T → 2 * c' ≤ b → PS T s b l w c' τ → wB_X9_readStatement_210 post x1 τ := by
    intro x1 b c' τ l1 l2 hc' g
    refine ⟨ps_in hT g l2, fun k => ⟨ps_in hT g l2, sp_wordOf ?_⟩, fun _ => r0 b c' τ l2 (by omega) g⟩
    have q := ps_kind hT g l2 k (by decide)
    rcases wordC_r (mL τ 8 (mI τ 9).toNatClampNeg) with e | ⟨x, hx, e⟩
    · rw [e]
      have r1 : wB_X9_readStatement_264 post τ := r0 (b + 1) c' _ (by omega) (by omega) (ps_adv g)
      exact ⟨fun _ => sm_isNext hT g q ⟨fun _ => sm_isNext hT g q ⟨fun _ => r0 b c' τ l2 (by omega) g, fun z => absurd rfl z⟩ (fun _ => ⟨fun z => absurd z (by decide), fun _ => r1⟩), fun z => absurd rfl z⟩ (fun _ => ⟨fun z => absurd z (by decide), fun _ => r1⟩), fun z => absurd rfl z⟩
    · rw [e]
      refine ⟨fun z => absurd z (nI_ne1 (by omega)), fun _ => sm_readWord hx hT hs hl hwl g q (fun b' τ' l1' l2' g' => ⟨fun _ => ⟨Or.inl rfl, h0 b' l w c' τ' l2' hwl hl (by omega) g'⟩, fun z => absurd rfl z⟩) (fun b' v τ' l1' l2' hv g' hl64 => ⟨fun z => absurd z (by decide), fun _ => ?_⟩)⟩
      exact sm_want hT g' l2' (fun τ g => ⟨fun _ => ⟨Or.inl rfl, h0 b' (l + 1) v c' τ l2' (by omega) (by omega) (by omega) g⟩, fun z => absurd rfl z⟩) (fun τ q g => ⟨fun z => absurd z (by decide), fun _ => ⟨Or.inr rfl, h1 (b' + 1) (l + 1) v c' τ (by omega) (by omega) (by omega) (by omega) (by omega) g⟩⟩)
  have k184 : ∀ x1 b c' τ, a ≤ b → b ≤ T → 2 * c' ≤ b → PS T s b l w c' τ → wB_X9_readStatement_184 post x1 τ := fun x1 b c' τ l1 l2 hc' g =>
    ⟨fun _ => ⟨ps_in hT g l2, fun _ => k210 x1 b c' τ l1 l2 hc' g, fun _ => sm_want hT g l2 (fun τ g => ⟨Or.inl rfl, h0 b l w c' τ l2 hwl hl (by omega) g⟩) (fun τ q g => ⟨Or.inr rfl, h1 (b + 1) l w c' τ (by omega) (by omega) hwl hl (by omega) g⟩)⟩, fun _ => k210 x1 b c' τ l1 l2 hc' g⟩
  have k137 : ∀ b c' τ, a ≤ b → b ≤ T → 2 * c' ≤ b → PS T s b l w c' τ → wB_X9_readStatement_137 post τ := fun b c' τ l1 l2 hc' g =>
    sm_takes hT g l2 ⟨fun _ => k184 0 b c' τ l1 l2 hc' g, fun z => absurd rfl z⟩ (fun τ q g => ⟨fun z => absurd z (by decide), fun _ => sm_takes' hT g (by omega) (fun r b' τ' _ l1' l2' g' => sm_readRegister hT g' l2' (fun τ g => ⟨fun _ => h0 b' l w c' τ l2' hwl hl (by omega) g, fun z => absurd rfl z⟩) (fun τ q g => ⟨fun z => absurd z (by decide), fun _ => ⟨fun _ => fun x _ => k184 x (b' + 1) c' τ (by omega) (by omega) (by omega) g, fun _ => fun x _ => k184 x (b' + 1) c' τ (by omega) (by omega) (by omega) g⟩⟩))⟩)
  have main : ∀ (d b c' : Nat) (τ : MS), T ≤ b + d → a ≤ b → b ≤ T → 2 * c' ≤ b → PS T s b l w c' τ → wL_X9_readStatement_75 post (d + 1) τ := by
    intro d
    induction d with
    | zero =>
      intro b c' τ hd l1 l2 hc' g
      exact ⟨ps_in hT g l2, fun k => absurd (ps_kind hT g l2 k (by decide)) (by omega), fun _ => k137 b c' τ l1 l2 hc' g⟩
    | succ d ih =>
      intro b c' τ hd l1 l2 hc' g
      refine ⟨ps_in hT g l2, fun k => ?_, fun _ => k137 b c' τ l1 l2 hc' g⟩
      have q := ps_kind hT g l2 k (by decide)
      exact sm_isNext hT g q ⟨fun _ => k137 b c' τ l1 l2 hc' g, fun z => absurd rfl z⟩ (fun q1 => ⟨fun z => absurd z (by decide), fun _ => ⟨ps_in hT g l2, ps_in hT g l2, sm_tell hs (by omega) g (fun τ c'' h'' g => ih (b + 2) c'' _ (by omega) (by omega) (by omega) (by omega) (ps_adv2 g))⟩⟩)
  refine ⟨ps_in hT h ha, fun k => ?_, fun _ => ⟨_, main T a c σ (by omega) (Nat.le_refl a) ha hc h⟩⟩
  have q := ps_kind hT h ha k (by decide)
  refine sm_isNext hT h q ⟨fun _ => ⟨_, main T a c σ (by omega) (Nat.le_refl a) ha hc h⟩, fun z => absurd rfl z⟩ (fun q1 => ⟨fun z => absurd z (by decide), fun _ x1 hx1 => ?_⟩)
  have i1 : vp_in x1 702 := by rw [hx1]; exact ps_in hT h ha
  refine sm_readNumber hT hs hl (fun z => absurd z (by decide)) (ps_adv2 h) (by omega) (fun b τ l1 l2 g => ⟨fun _ => h0 b l w c τ l2 hwl hl (by omega) g, fun z => absurd rfl z⟩) (fun b τ l1 l2 g => ⟨fun z => absurd z (by decide), fun _ => ⟨i1, i1, sm_tell hs (by omega) g (fun τ c'' h'' g => ?_)⟩⟩)
  exact sm_want hT g l2 (fun τ g => ⟨Or.inl rfl, h0 b l w c'' τ l2 hwl hl (by omega) g⟩) (fun τ q g => ⟨Or.inr rfl, h1 (b + 1) l w c'' τ (by omega) (by omega) hwl hl (by omega) g⟩)
theorem sm_resolve {post : MS → Prop} (hs : s < 2) (hw : w ≤ 64) (h : PS T s a l w c σ) (k : ∀ τ, PS T s a l w c τ → post τ) : wp_X9_resolve post σ := by
  have main : ∀ (d j : Nat) (τ : MS), j + d = w → PS T s a l w c τ → wL_X9_resolve_2 post (d + 1) (nI j) τ := by
    intro d
    induction d with
    | zero => intro j τ hj g; exact ⟨fun _ => k τ g, fun z => absurd (by rw [g.2.2.2.2.1]; exact nI_le (by omega) (by omega)) z⟩
    | succ d ih =>
      intro j τ hj g
      have ij : vp_in (nI j) 64 := vp_in_nI (by omega) (by decide)
      have k131 : ∀ τ, PS T s a l w c τ → wB_X9_resolve_131 post (wL_X9_resolve_2 post (d + 1)) (nI j) τ := fun τ g => fun y hy => by rw [hy, nI_1]; exact ih (j + 1) τ (by omega) g
      have k113 : ∀ x τ, PS T s a l w c τ → wB_X9_resolve_113 post (wL_X9_resolve_2 post (d + 1)) (nI j) x τ := fun x τ g => ⟨ij, (g.1.2.2.2.1 _).1, (g.1.2.2.2.1 _).1, k131 _ g⟩
      have k102 : ∀ x τ, PS T s a l w c τ → wB_X9_resolve_102 post (wL_X9_resolve_2 post (d + 1)) (nI j) x τ := fun x τ g => ⟨ij, sm_noteP g (fun τ g => k113 x τ g)⟩
      have k71 : ∀ x τ, PS T s a l w c τ → wB_X9_resolve_71 post (wL_X9_resolve_2 post (d + 1)) (nI j) x τ := fun x τ g => sm_isInt (fun r _ => ⟨fun _ => k102 x τ g, fun _ => ⟨ij, fun _ => k113 x τ g, fun _ => ⟨fun _ => k102 x τ g, fun _ => ⟨fun _ => k113 x τ g, fun _ => k102 x τ g⟩⟩⟩⟩)
      refine ⟨fun _ => k τ g, fun _ => ⟨ij, ?_⟩⟩
      rw [ps_one hs g]
      exact sm_find (by omega) (g.1.2.2.2.2 _ (by omega)) ⟨fun _ => ⟨ij, sm_noteP g (fun τ g => k131 τ g)⟩, fun z => absurd rfl z⟩ (fun r hv hr => ⟨fun z => absurd z hr, fun _ => ⟨ij, fun _ => ⟨hv, k71 _ τ g⟩, fun _ => ⟨hv, k71 _ τ g⟩⟩⟩)
  exact ⟨w + 1, main w 0 σ (by omega) h⟩
end MR
