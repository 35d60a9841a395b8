/-! the reference's TOKENS, and compile -/
section MK
variable {s t : Nat} {σ : MS}
def TS (s t n : Nat) (σ : MS) : Prop := GI s t σ ∧ mI σ 5 = nI n
theorem sp_isLetter {post : Int32 → Prop} {x : Int32} (h : post (bI (¬ x < 97 ∧ ¬ 122 < x))) : wp_X9_isLetter post x := by
  unfold bI at h
  refine ⟨fun c => ⟨Or.inl rfl, ?_⟩, fun c => ⟨fun c2 => ⟨Or.inl rfl, ?_⟩, fun c2 => ⟨Or.inr rfl, ?_⟩⟩⟩
  · rw [if_neg (fun z => z.1 c)] at h; exact h
  · rw [if_neg (fun z => z.2 c2)] at h; exact h
  · rw [if_pos ⟨c, c2⟩] at h; exact h
theorem sm_isSign {post : Int32 → Prop} {x : Int32} (h : ∀ r, post r) : wp_X9_isSign post x :=
  ⟨fun _ => ⟨Or.inr rfl, h 1⟩, fun _ => ⟨fun _ => ⟨Or.inr rfl, h 1⟩, fun _ => ⟨fun _ => ⟨Or.inr rfl, h 1⟩, fun _ => ⟨fun _ => ⟨Or.inr rfl, h 1⟩, fun _ => ⟨fun _ => ⟨Or.inr rfl, h 1⟩, fun _ => ⟨fun _ => ⟨Or.inr rfl, h 1⟩, fun _ => ⟨fun _ => ⟨Or.inr rfl, h 1⟩, fun _ => ⟨fun _ => ⟨Or.inr rfl, h 1⟩, fun _ => ⟨fun _ => ⟨Or.inr rfl, h 1⟩, fun _ => ⟨fun _ => ⟨Or.inr rfl, h 1⟩, fun _ => ⟨Or.inl rfl, h 0⟩⟩⟩⟩⟩⟩⟩⟩⟩⟩⟩
theorem sm_see {post : Int32 → MS → Prop} {b : Nat} (ht : t ≤ 700) (h : GI s t σ) (hb : b ≤ t) (h0 : post 0 σ) (h1 : b < t → post (mA σ 1 b) σ) : wp_X9_see post (nI b) σ := by
  refine ⟨fun _ => h0, fun z => ?_⟩
  have hlt : b < t := by
    rcases Nat.lt_or_ge b t with q | q
    · exact q
    · exact absurd (by rw [h.2.1]; exact nI_le q (by omega)) z
  refine ⟨vp_in_nI (by omega) (by decide), ?_⟩
  show post (mA σ 1 (nI b).toNatClampNeg) σ
  rw [nI_clamp (by omega)]
  exact h1 hlt
theorem sm_token {post : MS → Prop} {x y : Int32} {v : Int64} {n : Nat} (hn : n < 702) (h : TS s t n σ) (k : ∀ τ, TS s t (n + 1) τ → mA τ 6 n = x → post τ) : wp_X9_token post x y v σ := by
  have i5 : vp_in (mI σ 5) 702 := by rw [h.2]; exact vp_in_nI hn (by decide)
  refine ⟨i5, i5, i5, k _ ⟨h.1, ?_⟩ ?_⟩
  · show mI σ 5 + 1 = _
    rw [h.2, nI_1]
  · rw [h.2, nI_clamp (by omega)]
    show upd (mA σ 6) n x n = x
    exact pk_us
theorem sm_tokenize {post : MS → Prop} (ht : t ≤ 700) (h : GI s t σ) (k : ∀ T τ, T ≤ 700 → GI s t τ → mA τ 6 T = 0 → post τ) : wp_X9_tokenize post σ := by
  have k289 : ∀ n τ, n ≤ 700 → TS s t n τ → wB_X9_tokenize_289 post τ := fun n τ hn g => sm_token (by omega) g (fun τ g e => k n τ hn g.1 e)
  have main : ∀ (d b n : Nat) (x2 : Int32) (τ : MS), t ≤ b + d → b ≤ t → n ≤ b → TS s t n τ → wL_X9_tokenize_9 post (d + 1) (nI b) x2 τ := by
    intro d
    induction d with
    | zero =>
      intro b n x2 τ hd hb hn g
      exact ⟨fun _ => k289 n τ (by omega) g, fun _ => ⟨fun _ => k289 n τ (by omega) g, fun z => absurd (by rw [g.1.2.1]; exact nI_le (by omega) (by omega)) z⟩⟩
    | succ d ih =>
      intro b n x2 τ hd hb hn g
      refine ⟨fun _ => k289 n τ (by omega) g, fun _ => ⟨fun _ => k289 n τ (by omega) g, fun z => ?_⟩⟩
      have hlt : b < t := by
        rcases Nat.lt_or_ge b t with q | q
        · exact q
        · exact absurd (by rw [g.1.2.1]; exact nI_le q (by omega)) z
      have ib : vp_in (nI b) 700 := vp_in_nI (by omega) (by decide)
      have hk : ∀ b' n' x2 τ, b < b' → b' ≤ t → n' ≤ b' → TS s t n' τ → wL_X9_tokenize_9 post (d + 1) (nI b') x2 τ := fun b' n' x2 τ l1 l2 l3 g => ih b' n' x2 τ (by omega) l2 l3 g
      have k258 : ∀ b' n' τ, b < b' → b' ≤ t → n' ≤ b' → TS s t n' τ → wB_X9_tokenize_258 post (wL_X9_tokenize_9 post (d + 1)) (nI b') τ := by
        intro b' n' τ l1 l2 l3 g
        refine ⟨fun _ => hk b' n' 1 τ l1 l2 l3 g, fun z => ⟨?_, fun _ => hk b' n' 0 τ l1 l2 l3 g, fun _ => hk b' n' 1 τ l1 l2 l3 g⟩⟩
        rw [g.2] at z ⊢
        obtain ⟨m, rfl⟩ : ∃ m, n' = m + 1 := ⟨n' - 1, by
          have : n' ≠ 0 := fun e => z (by rw [e]; rfl)
          omega⟩
        rw [nI_pred]
        exact vp_in_nI (by omega) (by decide)
      have k244 : ∀ x, wB_X9_tokenize_244 post (wL_X9_tokenize_9 post (d + 1)) (nI b) (nI b) x τ := fun x => ⟨ib, sm_token (by omega) g (fun τ g _ => fun y hy => by
        rw [hy, nI_1]
        exact k258 (b + 1) (n + 1) τ (by omega) (by omega) (by omega) g)⟩
      have k127 : ∀ b' x3 x4 x, b < b' → b' ≤ t → wB_X9_tokenize_127 post (wL_X9_tokenize_9 post (d + 1)) (nI b') x3 x4 x τ := fun b' x3 x4 x l1 l2 => sm_token (by omega) g (fun τ g _ => k258 b' (n + 1) τ l1 l2 (by omega) g)
      have k217 : ∀ b' x3 x4 x, b < b' → b' ≤ t → wB_X9_tokenize_217 post (wL_X9_tokenize_9 post (d + 1)) (nI b') x3 x4 x τ := fun b' x3 x4 x l1 l2 => sm_token (by omega) g (fun τ g _ => k258 b' (n + 1) τ l1 l2 (by omega) g)
      -- digits
      have dig : ∀ (e b' : Nat) (x3 : Int32) (x4 : Int64), t ≤ b' + e → b < b' → b' ≤ t → wL_X9_tokenize_55 post (wL_X9_tokenize_9 post (d + 1)) (e + 1) (nI b') x3 x4 τ := by
        intro e
        induction e with
        | zero =>
          intro b' x3 x4 he l1 l2
          exact sm_see ht g.1 l2 (sp_isDigit ⟨fun _ => ⟨fun _ => k127 b' _ _ _ l1 l2, fun _ => ⟨fun _ => k127 b' _ _ _ l1 l2, fun _ => k127 b' _ _ _ l1 l2⟩⟩, fun z => absurd rfl z⟩) (fun q => absurd q (by omega))
        | succ e ih2 =>
          intro b' x3 x4 he l1 l2
          refine sm_see ht g.1 l2 (sp_isDigit ⟨fun _ => ⟨fun _ => k127 b' _ _ _ l1 l2, fun _ => ⟨fun _ => k127 b' _ _ _ l1 l2, fun _ => k127 b' _ _ _ l1 l2⟩⟩, fun z => absurd rfl z⟩) (fun q => ?_)
          have k96 : ∀ v, wB_X9_tokenize_96 post (wL_X9_tokenize_9 post (d + 1)) (wL_X9_tokenize_55 post (wL_X9_tokenize_9 post (d + 1)) (e + 1)) (nI b') x3 v τ := fun v y hy => by
            rw [hy, nI_1]
            exact ih2 (b' + 1) x3 v (by omega) (by omega) (by omega)
          exact sp_isDigit ⟨fun _ => ⟨fun _ => k127 b' _ _ _ l1 l2, fun _ => ⟨fun _ => k127 b' _ _ _ l1 l2, fun _ => k127 b' _ _ _ l1 l2⟩⟩, fun _ => ⟨fun _ => k96 _, fun _ => sm_see ht g.1 l2 (k96 _) (fun _ => k96 _)⟩⟩
      have dig0 : ¬ bI (¬ mA τ 1 b < 48 ∧ ¬ 57 < mA τ 1 b) = 0 → ∃ n, wL_X9_tokenize_55 post (wL_X9_tokenize_9 post (d + 1)) n (nI b) (nI b) 0 τ := by
        intro hd0
        refine ⟨t + 2, ?_⟩
        have k96 : ∀ v, wB_X9_tokenize_96 post (wL_X9_tokenize_9 post (d + 1)) (wL_X9_tokenize_55 post (wL_X9_tokenize_9 post (d + 1)) (t + 1)) (nI b) (nI b) v τ := fun v y hy => by
          rw [hy, nI_1]
          exact dig t (b + 1) (nI b) v (by omega) (by omega) (by omega)
        have see1 : ∀ {P : Int32 → MS → Prop}, P (mA τ 1 b) τ → wp_X9_see P (nI b) τ := fun {P} hP => ⟨fun q => absurd q (by rw [g.1.2.1]; exact nI_ge hlt (by omega)), fun _ => ⟨ib, by
          show P (mA τ 1 (nI b).toNatClampNeg) τ
          rw [nI_clamp (by omega)]
          exact hP⟩⟩
        exact see1 (sp_isDigit ⟨fun z => absurd z hd0, fun _ => ⟨fun _ => k96 _, fun _ => see1 (k96 _)⟩⟩)
      -- letters
      have ltr : ∀ (e b' : Nat) (x3 : Int32) (x4 : Int64), t ≤ b' + e → b < b' → b' ≤ t → wL_X9_tokenize_148 post (wL_X9_tokenize_9 post (d + 1)) (e + 1) (nI b') x3 x4 τ := by
        intro e
        induction e with
        | zero =>
          intro b' x3 x4 he l1 l2
          exact sm_see ht g.1 l2 (sp_isLetter ⟨fun _ => sm_see ht g.1 l2 (sp_isDigit ⟨fun _ => ⟨fun _ => k217 b' _ _ _ l1 l2, fun _ => k217 b' _ _ _ l1 l2⟩, fun z => absurd rfl z⟩) (fun q => absurd q (by omega)), fun z => absurd rfl z⟩) (fun q => absurd q (by omega))
        | succ e ih2 =>
          intro b' x3 x4 he l1 l2
          have k170 : b' < t → wB_X9_tokenize_170 post (wL_X9_tokenize_9 post (d + 1)) (wL_X9_tokenize_148 post (wL_X9_tokenize_9 post (d + 1)) (e + 1)) (nI b') x3 x4 τ := by
            intro q
            have k195 : ∀ v, wB_X9_tokenize_195 post (wL_X9_tokenize_9 post (d + 1)) (wL_X9_tokenize_148 post (wL_X9_tokenize_9 post (d + 1)) (e + 1)) (nI b') x3 v τ := fun v y hy => by
              rw [hy, nI_1]
              exact ih2 (b' + 1) x3 v (by omega) (by omega) (by omega)
            exact ⟨fun _ => k195 _, fun _ => sm_see ht g.1 l2 (k195 _) (fun _ => k195 _)⟩
          have kd : wp_X9_see (fun r_25 σ_26 => wp_X9_isDigit (fun r_27 => (r_27 = 0 → (((nI b' - x3) ≤ 8 → (wB_X9_tokenize_217 post (wL_X9_tokenize_9 post (d + 1)) (nI b') x3 x4 1 σ_26)) ∧ (¬ (nI b' - x3) ≤ 8 → (wB_X9_tokenize_217 post (wL_X9_tokenize_9 post (d + 1)) (nI b') x3 x4 4 σ_26)))) ∧ (¬ r_27 = 0 → (wB_X9_tokenize_170 post (wL_X9_tokenize_9 post (d + 1)) (wL_X9_tokenize_148 post (wL_X9_tokenize_9 post (d + 1)) (e + 1)) (nI b') x3 x4 σ_26))) r_25) (nI b') τ :=
            sm_see ht g.1 l2 (sp_isDigit ⟨fun _ => ⟨fun _ => k217 b' _ _ _ l1 l2, fun _ => k217 b' _ _ _ l1 l2⟩, fun z => absurd rfl z⟩) (fun q => sp_isDigit ⟨fun _ => ⟨fun _ => k217 b' _ _ _ l1 l2, fun _ => k217 b' _ _ _ l1 l2⟩, fun _ => k170 q⟩)
          exact sm_see ht g.1 l2 (sp_isLetter ⟨fun _ => kd, fun z => absurd rfl z⟩) (fun q => sp_isLetter ⟨fun _ => kd, fun _ => k170 q⟩)
      have ltr0 : ¬ bI (¬ mA τ 1 b < 97 ∧ ¬ 122 < mA τ 1 b) = 0 → ∃ n, wL_X9_tokenize_148 post (wL_X9_tokenize_9 post (d + 1)) n (nI b) (nI b) 0 τ := by
        intro hd0
        refine ⟨t + 2, ?_⟩
        have k195 : ∀ v, wB_X9_tokenize_195 post (wL_X9_tokenize_9 post (d + 1)) (wL_X9_tokenize_148 post (wL_X9_tokenize_9 post (d + 1)) (t + 1)) (nI b) (nI b) v τ := fun v y hy => by
          rw [hy, nI_1]
          exact ltr t (b + 1) (nI b) v (by omega) (by omega) (by omega)
        have see1 : ∀ {P : Int32 → MS → Prop}, P (mA τ 1 b) τ → wp_X9_see P (nI b) τ := fun {P} hP => ⟨fun q => absurd q (by rw [g.1.2.1]; exact nI_ge hlt (by omega)), fun _ => ⟨ib, by
          show P (mA τ 1 (nI b).toNatClampNeg) τ
          rw [nI_clamp (by omega)]
          exact hP⟩⟩
        exact see1 (sp_isLetter ⟨fun z => absurd z hd0, fun _ => ⟨fun _ => k195 _, fun _ => see1 (k195 _)⟩⟩)
      refine ⟨ib, fun _ y hy => ?_, fun _ => ⟨ib, ?_⟩⟩
      · rw [hy, nI_1]
        exact k258 (b + 1) n τ (by omega) (by omega) (by omega) g
      · rw [nI_clamp (by omega)]
        exact sp_isDigit ⟨fun _ => ⟨ib, sp_isLetter ⟨fun _ => ⟨ib, sm_isSign (fun r => ⟨fun _ => k244 _, fun _ => k244 _⟩)⟩, ltr0⟩⟩, dig0⟩
  exact ⟨t + 1, main t 0 0 1 _ (by omega) (by omega) (by omega) ⟨h, rfl⟩⟩
theorem sm_compile {post : Int32 → MS → Prop} (hs : s < 2) (ht : t ≤ 700) (h : GI s t σ) (k : ∀ r s' τ, s' < 2 → GI s' 0 τ → post r τ) : wp_X9_compile post σ := by
  refine sm_tokenize (σ := wI (wI σ 3 0) 4 0) ht h (fun T τ hT g e6 => ?_)
  have e1 : (1 : Int32) - mI τ 14 = nI (1 - s) := by rw [g.1]; exact one_s hs
  rw [e1, nI_clamp (by omega)]
  refine ⟨vp_in_nI (by omega) (by decide), ?_⟩
  have k80 : ∀ b l w c τ, w ≤ l → l ≤ 64 → PS T s b l w c τ → wB_X9_compile_80 post τ := by
    intro b l w c τ hw hl g
    refine ⟨fun _ => ?_, fun _ => k _ s (wI τ 0 1) hs g.1⟩
    have main : ∀ (d j : Nat) (τ : MS), j + d = l → mI τ 11 = nI l → GI (1 - s) 0 τ → wL_X9_compile_118 post (d + 1) (nI j) τ := by
      intro d
      induction d with
      | zero => intro j τ hj e g; exact ⟨fun _ => k _ (1 - s) τ (by omega) g, fun z => absurd (by rw [e]; exact nI_le (by omega) (by omega)) z⟩
      | succ d ih =>
        intro j τ hj e g
        refine ⟨fun _ => k _ (1 - s) τ (by omega) g, fun _ => ⟨vp_in_nI (by omega) (by decide), vp_in_nI (by omega) (by decide), fun y hy => ?_⟩⟩
        rw [hy, nI_1]
        exact ih (j + 1) _ (by omega) e g
    refine ⟨l + 1, main l 0 _ (by omega) g.2.2.2.1 ⟨ps_one hs g, g.1.2.1, ⟨l, hl, g.2.2.2.1⟩, g.1.2.2.2.1, g.1.2.2.2.2⟩⟩
  have k72 : ∀ b l w c x τ, w ≤ l → l ≤ 64 → PS T s b l w c τ → wB_X9_compile_72 post x τ := fun b l w c x τ hw hl g => ⟨fun _ => k80 b l w c τ hw hl g, fun _ => sm_resolve hs (by omega) g (fun τ g => k80 b l w c τ hw hl g)⟩
  have main : ∀ (d b l w c : Nat) (τ : MS), T ≤ b + d → b ≤ T → w ≤ l → l ≤ 64 → 2 * c ≤ b → PS T s b l w c τ → wL_X9_compile_48 post (d + 2) 1 τ := by
    intro d
    induction d with
    | zero =>
      intro b l w c τ hd hb hw hl hc g
      refine ⟨fun z => absurd z (by decide), fun _ => ⟨ps_in hT g hb, fun _ => k72 b l w c _ τ hw hl g, fun z => absurd (ps_kind hT g hb rfl z) (by omega)⟩⟩
    | succ d ih =>
      intro b l w c τ hd hb hw hl hc g
      refine ⟨fun z => absurd z (by decide), fun _ => ⟨ps_in hT g hb, fun _ => k72 b l w c _ τ hw hl g, fun _ => ?_⟩⟩
      refine sm_readStatement hT hs hl hw hc g hb (fun b' l' w' c' τ l2 h1 h2 h3 g => ⟨fun _ => k72 b' l' w' c' _ τ h1 h2 g, fun z => absurd rfl z⟩) (fun b' l' w' c' τ l1 l2 h1 h2 h3 g => ih b' l' w' c' τ (by omega) l2 h1 h2 h3 g)
  refine ⟨T + 2, main T 0 0 0 0 _ (by omega) (by omega) (by omega) (by omega) (by omega) ⟨⟨g.1, rfl, g.2.2.1, g.2.2.2.1, fun q hq => ?_⟩, e6, rfl, rfl, rfl, ?_⟩⟩
  · rw [mA_wA, if_pos rfl]
    by_cases e : q = 1 - s
    · rw [e, pk_us]; exact ⟨0, by omega, rfl⟩
    · rw [pk_un e]; exact g.2.2.2.2 q hq
  · rw [mA_wA, if_pos rfl, pk_us]; rfl
end MK
