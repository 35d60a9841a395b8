/-! the reference's other calls go through -/
section MX
variable {s t z : Nat} {σ : MS} {post : Int32 → MS → Prop} {G : GhT}
theorem sm_reads {x r : Int32} (hv : vp_in x 64) (h : ∀ b, isB b → post b σ) : wp_X9_reads post x r σ := by
  have p1 : post 1 σ := h 1 (Or.inr rfl)
  have b0 : isB 0 ∧ post 0 σ := ⟨Or.inl rfl, h 0 (Or.inl rfl)⟩
  have b1 : isB 1 ∧ post 1 σ := ⟨Or.inr rfl, p1⟩
  refine ⟨hv, fun y _ => ?_⟩
  have k50 : ∀ w, w < 53 → wB_X9_reads_50 post r y (nI w) σ := by
    intro w hw
    have fin : wp_X9_opOf (fun r_5  => (r_5 = 57 → (wp_X9_d (fun r_8  => (r_8 = r → (wB_X9_reads_192 post 1 σ)) ∧ (¬ r_8 = r → (wB_X9_reads_191 post σ))) y)) ∧ (¬ r_5 = 57 → (wB_X9_reads_191 post σ))) (nI w) := sp_opOf hw ⟨fun _ => ⟨fun _ => b1, fun _ => b0⟩, fun _ => b0⟩
    have main : ∀ (d j : Nat), j + d = 4 → wL_X9_reads_53 post (d + 1) r y (nI w) (nI j) σ := by
      intro d
      induction d with
      | zero => intro j hj; exact ⟨fun _ => fin, fun q => absurd (show (4 : Int32) ≤ nI j by rw [show j = 4 by omega]; decide) q⟩
      | succ d ih =>
        intro j hj
        have k163 : wB_X9_reads_163 post (wL_X9_reads_53 post (d + 1)) r y (nI w) (nI j) σ := fun u hu => by rw [hu, nI_1]; exact ih (j + 1) (by omega)
        have k143 : ∀ x7, wB_X9_reads_143 post (wL_X9_reads_53 post (d + 1)) r y (nI w) (nI j) x7 σ := fun _ => ⟨fun _ => ⟨fun _ => p1, fun _ => k163⟩, fun _ => k163⟩
        have k125 : ∀ x7, wB_X9_reads_125 post (wL_X9_reads_53 post (d + 1)) r y (nI w) (nI j) x7 σ := fun _ => ⟨fun _ => ⟨fun _ => p1, fun _ => k143 _⟩, fun _ => k143 _⟩
        have k107 : ∀ x7, wB_X9_reads_107 post (wL_X9_reads_53 post (d + 1)) r y (nI w) (nI j) x7 σ := fun _ => ⟨fun _ => ⟨fun _ => p1, fun _ => k125 _⟩, fun _ => k125 _⟩
        have k90 : ∀ x7, wB_X9_reads_90 post (wL_X9_reads_53 post (d + 1)) r y (nI w) (nI j) x7 σ := fun _ => ⟨fun _ => ⟨fun _ => p1, fun _ => k107 _⟩, fun _ => k107 _⟩
        have k82 : ∀ x7, wB_X9_reads_82 post (wL_X9_reads_53 post (d + 1)) r y (nI w) (nI j) x7 σ := fun _ => ⟨fun _ => p1, fun _ => k90 _⟩
        exact ⟨fun _ => fin, fun _ => sp_part hw (show j < 4 by omega) ⟨fun _ => k82 _, fun _ => ⟨fun _ => k82 _, fun _ => k90 _⟩⟩⟩
    exact ⟨5, main 4 0 rfl⟩
  exact sm_listed ⟨fun _ => h 0 (Or.inl rfl), fun q => absurd rfl q⟩ (fun w hw => ⟨fun _ => h 0 (Or.inl rfl), fun _ => ⟨fun _ => k50 w hw, fun _ => sm_isGuarded hv (fun _ _ => ⟨fun _ => k50 w hw, fun _ => ⟨fun _ => p1, fun _ => k50 w hw⟩⟩)⟩⟩)
theorem sm_writes {x r : Int32} (hv : vp_in x 64) (h : ∀ b, isB b → post b σ) : wp_X9_writes post x r σ := by
  have p0 : post 0 σ := h 0 (Or.inl rfl)
  have p1 : post 1 σ := h 1 (Or.inr rfl)
  have k28 : ∀ w, w < 53 → ∃ n, wL_X9_writes_28 post n x r (nI w) 0 σ := by
    intro w hw
    have main : ∀ (d j : Nat), j + d = 4 → wL_X9_writes_28 post (d + 1) x r (nI w) (nI j) σ := by
      intro d
      induction d with
      | zero => intro j hj; exact ⟨fun _ => p0, fun q => absurd (show (4 : Int32) ≤ nI j by rw [show j = 4 by omega]; decide) q⟩
      | succ d ih =>
        intro j hj
        have k87 : wB_X9_writes_87 post (wL_X9_writes_28 post (d + 1)) x r (nI w) (nI j) σ := fun u hu => by rw [hu, nI_1]; exact ih (j + 1) (by omega)
        have k58 : wB_X9_writes_58 post (wL_X9_writes_28 post (d + 1)) x r (nI w) (nI j) σ := sp_part hw (show j < 4 by omega) ⟨fun _ => ⟨hv, ⟨fun _ => p1, fun _ => k87⟩⟩, fun _ => k87⟩
        exact ⟨fun _ => p0, fun _ => sp_part hw (show j < 4 by omega) ⟨fun _ => ⟨hv, ⟨fun _ => p1, fun _ => k58⟩⟩, fun _ => k58⟩⟩
    exact ⟨5, main 4 0 rfl⟩
  exact ⟨hv, sm_listed ⟨fun _ => p0, fun q => absurd rfl q⟩ (fun w hw => ⟨fun _ => p0, fun _ => sm_isGuarded hv (fun _ _ => ⟨fun _ => k28 w hw, fun _ => p0⟩)⟩)⟩
theorem narB {v : Int32} (h : isB v) : isB (vp_nar .boolean v) := by
  rcases h with e | e
  · rw [e]; exact Or.inl (by decide)
  · rw [e]; exact Or.inr (by decide)
theorem sm_live {x r : Int32} (hz : z ≤ 64) (h : QI G s t z σ) (k : ∀ b τ, isB b → QI G s t z τ → post b τ) : wp_X9_live post x r σ := by
  have p0 : ∀ τ, QI G s t z τ → post 0 τ := fun τ g => k 0 τ (Or.inl rfl) g
  have k57 : ∀ (d : Nat) (τ : MS) (x3 : Int32), QI G s t z τ → (x3 = 0 ∨ zs (mA τ 31) 64 < d) → wL_X9_live_57 post (d + 1) r x3 τ := by
    intro d
    induction d with
    | zero => intro τ x3 g h3; exact ⟨fun _ => p0 τ g, fun q => h3.elim (fun e => absurd e q) (fun e => absurd e (by omega))⟩
    | succ d ih =>
      intro τ x3 g h3
      refine ⟨fun _ => p0 τ g, fun q => ?_⟩
      have hle : zs (mA τ 31) 64 ≤ d := h3.elim (fun e => absurd e q) (fun e => by omega)
      have k66 : ∀ (e j : Nat) (x3 : Int32) (τ : MS), j + e = z → QI G s t z τ → zs (mA τ 31) 64 ≤ d → (x3 = 0 ∨ zs (mA τ 31) 64 < d) → wL_X9_live_66 post (wL_X9_live_57 post (d + 1)) (e + 1) r x3 (nI j) τ := by
        intro e
        induction e with
        | zero =>
          intro j x3 τ hj g hd h3
          exact ⟨fun _ => ih τ x3 g h3, fun q => absurd (by rw [g.2]; exact nI_le (by omega) (by omega)) q⟩
        | succ e ih2 =>
          intro j x3 τ hj g hd h3
          have ij : vp_in (nI j) 64 := vp_in_nI (by omega) (by decide)
          have k172 : ∀ x3 τ, QI G s t z τ → zs (mA τ 31) 64 ≤ d → (x3 = 0 ∨ zs (mA τ 31) 64 < d) → wB_X9_live_172 post (wL_X9_live_57 post (d + 1)) (wL_X9_live_66 post (wL_X9_live_57 post (d + 1)) (e + 1)) r x3 (nI j) τ := fun x3 τ g hd h3 u hu => by
            rw [hu, nI_1]
            exact ih2 (j + 1) x3 τ (by omega) g hd h3
          refine ⟨fun _ => ih τ x3 g h3, fun _ => ⟨ij, fun _ => k172 x3 τ g hd h3, fun _ => sm_reads ij (fun b _ => ⟨fun _ => ⟨3, ?_⟩, fun _ => k 1 τ (Or.inr rfl) g⟩)⟩⟩
          have k103 : ∀ (m i : Nat) (x3 : Int32) (τ : MS), i + m = 2 → QI G s t z τ → zs (mA τ 31) 64 ≤ d → (x3 = 0 ∨ zs (mA τ 31) 64 < d) → wL_X9_live_103 post (wL_X9_live_57 post (d + 1)) (wL_X9_live_66 post (wL_X9_live_57 post (d + 1)) (e + 1)) (m + 1) r x3 (nI j) (nI i) τ := by
            intro m
            induction m with
            | zero =>
              intro i x3 τ hi g hd h3
              exact ⟨fun _ => k172 x3 τ g hd h3, fun q => absurd (show (2 : Int32) ≤ nI i by rw [show i = 2 by omega]; decide) q⟩
            | succ m ih3 =>
              intro i x3 τ hi g hd h3
              have k166 : ∀ x3 τ, QI G s t z τ → zs (mA τ 31) 64 ≤ d → (x3 = 0 ∨ zs (mA τ 31) 64 < d) → wB_X9_live_166 post (wL_X9_live_57 post (d + 1)) (wL_X9_live_66 post (wL_X9_live_57 post (d + 1)) (e + 1)) (wL_X9_live_103 post (wL_X9_live_57 post (d + 1)) (wL_X9_live_66 post (wL_X9_live_57 post (d + 1)) (e + 1)) (m + 1)) r x3 (nI j) (nI i) τ := fun x3 τ g hd h3 u hu => by
                rw [hu, nI_1]
                exact ih3 (i + 1) x3 τ (by omega) g hd h3
              refine ⟨fun _ => k172 x3 τ g hd h3, fun _ => sm_writes ij (fun b _ => ⟨fun _ => sm_wayOf ij (fun q => ⟨fun _ => k166 _ _ g hd h3, fun _ => sm_isPlace hz g.2 ⟨fun _ => k166 _ _ g hd h3, fun q => absurd rfl q⟩ (fun j' hj' hr => ⟨fun q => absurd q (by decide), fun _ => ?_⟩)⟩), fun _ => k172 x3 τ g hd h3⟩)⟩
              have ir : vp_in q 64 := by rw [hr]; exact vp_in_nI (by omega) (by decide)
              refine ⟨ir, fun q0 => ⟨ir, ?_⟩, fun _ => k166 _ _ g hd h3⟩
              have e31 : mA (wA τ 31 q.toNatClampNeg 1) 31 = upd (mA τ 31) q.toNatClampNeg 1 := by rw [mA_wA, if_pos rfl]
              have hr' : q.toNatClampNeg = j' := by rw [hr, nI_clamp (by omega)]
              have hz1 : zs (mA (wA τ 31 q.toNatClampNeg 1) 31) 64 + 1 = zs (mA τ 31) 64 := by rw [e31]; exact zs_upd _ _ q0 64 (by omega)
              exact k166 1 _ (qi_come g (Or.inr rfl)) (by omega) (Or.inr (by omega))
          exact k103 2 0 x3 τ rfl g hd h3
      exact ⟨z + 1, k66 z 0 0 τ (by omega) g hle (Or.inl rfl)⟩
  have main : ∀ (d j : Nat) (τ : MS), j + d = 64 → QI G s t z τ → wL_X9_live_27 post (d + 1) x r (nI j) τ := by
    intro d
    have fin : ∀ τ, QI G s t z τ → ∃ n, wL_X9_live_57 post n r 1 τ := fun τ g => ⟨66, k57 65 τ 1 g (Or.inr (by have := zs_le (mA τ 31) 64; omega))⟩
    induction d with
    | zero => intro j τ hj g; exact ⟨fun _ => fin τ g, fun q => absurd (show (64 : Int32) ≤ nI j by rw [show j = 64 by omega]; decide) q⟩
    | succ d ih =>
      intro j τ hj g
      have k48 : ∀ v, isB v → wB_X9_live_48 post (wL_X9_live_27 post (d + 1)) x r (nI j) v (nI j) τ := fun v hv => ⟨vp_in_nI (by omega) (by decide), fun u hu => by rw [hu, nI_1]; exact ih (j + 1) _ (by omega) (qi_come g (narB hv))⟩
      exact ⟨fun _ => fin τ g, fun _ => ⟨fun _ => k48 1 (Or.inr rfl), fun _ => k48 0 (Or.inl rfl)⟩⟩
  exact sm_isPlace (σ := wI σ 0 0) hz h.2 ⟨fun _ => p0 _ h, fun q => absurd rfl q⟩ (fun j hj hx => ⟨fun q => absurd q (by decide), fun _ => ⟨fun _ => p0 _ h, fun _ => ⟨fun _ => ⟨65, main 64 0 _ rfl h⟩, fun _ => p0 _ h⟩⟩⟩)
theorem sm_ends {x y : Int32} (hz : z ≤ 64) (h : QI G s t z σ) (k : ∀ b τ, isB b → QI G s t z τ → post b τ) : wp_X9_ends post x y σ := by
  refine sm_spread hz h (fun τ g => ?_)
  have p0 : post 0 τ := k 0 τ (Or.inl rfl) g
  have p1 : post 1 τ := k 1 τ (Or.inr rfl) g
  have main : ∀ (d j : Nat), j + d = z → wL_X9_ends_8 post (d + 1) (nI j) τ := by
    intro d
    induction d with
    | zero => intro j hj; exact ⟨fun _ => p0, fun q => absurd (by rw [g.2]; exact nI_le (by omega) (by omega)) q⟩
    | succ d ih =>
      intro j hj
      have ij : vp_in (nI j) 64 := vp_in_nI (by omega) (by decide)
      have k84 : wB_X9_ends_84 post (wL_X9_ends_8 post (d + 1)) (nI j) τ := fun u hu => by rw [hu, nI_1]; exact ih (j + 1) (by omega)
      have k44 : ∀ (m i : Nat), i + m = 2 → wL_X9_ends_44 post (wL_X9_ends_8 post (d + 1)) (m + 1) (nI j) (nI i) τ := by
        intro m
        induction m with
        | zero => intro i hi; exact ⟨fun _ => k84, fun q => absurd (show (2 : Int32) ≤ nI i by rw [show i = 2 by omega]; decide) q⟩
        | succ m ih3 =>
          intro i hi
          have k78 : wB_X9_ends_78 post (wL_X9_ends_8 post (d + 1)) (wL_X9_ends_44 post (wL_X9_ends_8 post (d + 1)) (m + 1)) (nI j) (nI i) τ := fun u hu => by rw [hu, nI_1]; exact ih3 (i + 1) (by omega)
          exact ⟨fun _ => k84, fun _ => sm_wayOf ij (fun r => ⟨fun _ => k78, fun _ => sm_wayOf ij (fun r' => sm_isPlace hz g.2 ⟨fun _ => p1, fun q => absurd rfl q⟩ (fun _ _ _ => ⟨fun q => absurd q (by decide), fun _ => k78⟩))⟩)⟩
      exact ⟨fun _ => p0, fun _ => ⟨ij, fun _ => k84, fun _ => sm_wayOf ij (fun r => ⟨fun _ => p1, fun _ => ⟨3, k44 2 0 rfl⟩⟩)⟩⟩
  exact ⟨z + 1, main z 0 (by omega)⟩
theorem sm_isFirst {x y : Int32} (hz : z ≤ 64) (hy : vp_in y 64) (h : QI G s t z σ) (k : ∀ b τ, isB b → QI G s t z τ → post b τ) : wp_X9_isFirst post x y σ := by
  have main : ∀ (d j : Nat) (τ : MS), j + d = z → QI G s t z τ → wL_X9_isFirst_2 post (d + 1) x y (nI j) τ := by
    intro d
    induction d with
    | zero => intro j τ hj g; exact ⟨fun _ => k 1 τ (Or.inr rfl) g, fun q => absurd (by rw [g.2]; exact nI_le (by omega) (by omega)) q⟩
    | succ d ih =>
      intro j τ hj g
      have k49 : ∀ τ, QI G s t z τ → wB_X9_isFirst_49 post (wL_X9_isFirst_2 post (d + 1)) x y (nI j) τ := fun τ g u hu => by rw [hu, nI_1]; exact ih (j + 1) τ (by omega) g
      exact ⟨fun _ => k 1 τ (Or.inr rfl) g, fun _ => ⟨fun _ => k49 τ g, fun _ => ⟨fun _ => k49 τ g, fun _ => sm_ends hz g (fun b τ _ g => ⟨fun _ => sm_spread hz g (fun τ g => ⟨hy, fun _ => k 0 τ (Or.inl rfl) g, fun _ => k49 τ g⟩), fun _ => k49 τ g⟩)⟩⟩⟩
  exact ⟨z + 1, main z 0 σ (by omega) h⟩
theorem sm_meet {x : Int32} (hz : z ≤ 64) (h : QI G s t z σ) (k : ∀ r τ, QI G s t z τ → post r τ) : wp_X9_meet post x σ := by
  have main : ∀ (d j : Nat) (τ : MS), j + d = z → QI G s t z τ → wL_X9_meet_55 post (d + 1) x (nI j) τ := by
    intro d
    induction d with
    | zero => intro j τ hj g; exact ⟨fun _ => k _ τ g, fun q => absurd (by rw [g.2]; exact nI_le (by omega) (by omega)) q⟩
    | succ d ih =>
      intro j τ hj g
      have ij : vp_in (nI j) 64 := vp_in_nI (by omega) (by decide)
      have k93 : ∀ τ, QI G s t z τ → wB_X9_meet_93 post (wL_X9_meet_55 post (d + 1)) x (nI j) τ := fun τ g u hu => by rw [hu, nI_1]; exact ih (j + 1) τ (by omega) g
      exact ⟨fun _ => k _ τ g, fun _ => ⟨fun _ => k93 τ g, fun _ => sm_ends hz g (fun b τ _ g => ⟨fun _ => sm_isFirst hz ij g (fun b τ _ g => ⟨fun _ => k93 τ g, fun _ => k _ τ g⟩), fun _ => k93 τ g⟩)⟩⟩
  refine sm_reached hz h (fun τ g => ⟨fun _ => k _ τ g, fun q => absurd rfl q⟩) (fun r τ _ hv g => ⟨fun _ => k _ τ g, fun _ => sm_wayOf hv (fun a => sm_wayOf hv (fun b => ⟨fun _ => k _ τ g, fun _ => ⟨fun _ => k _ τ g, fun _ => ⟨fun _ => k _ τ g, fun _ => sm_ends hz g (fun b τ _ g => ⟨fun _ => k _ τ g, fun _ => ⟨z + 1, main z 0 τ (by omega) g⟩⟩)⟩⟩⟩))⟩)
theorem sm_total {x : Int32} (hs : s < 2) (hz : z ≤ 64) (h : QI G s t z σ) (k : ∀ r τ, QI G s t z τ → post r τ) : wp_X9_total post x σ := by
  refine ⟨fun _ => k _ _ h, fun _ => sm_spread (σ := wI σ 0 0) hz h (fun τ g => ?_), fun _ => ⟨by rw [h.1.1.1]; exact vp_in_nI hs (by decide), k _ _ h⟩, fun _ => ?_, fun _ _ _ _ => k _ _ h⟩
  · have main : ∀ (d j : Nat) (v : Int32), j + d = z → wL_X9_total_53 post (d + 1) v (nI j) τ := by
      intro d
      induction d with
      | zero => intro j v hj; exact ⟨fun _ => k _ τ g, fun q => absurd (by rw [g.2]; exact nI_le (by omega) (by omega)) q⟩
      | succ d ih =>
        intro j v hj
        have k76 : ∀ a b, wB_X9_total_76 post (wL_X9_total_53 post (d + 1)) (nI j) a b τ := fun a b u _ u2 hu => by rw [hu, nI_1]; exact ih (j + 1) u (by omega)
        exact ⟨fun _ => k _ τ g, fun _ => ⟨vp_in_nI (by omega) (by decide), fun _ => k76 _ _, fun _ => k76 _ _⟩⟩
    exact ⟨z + 1, main z 0 0 (by omega)⟩
  · have main : ∀ (d j : Nat) (v : Int32), j + d = z → wL_X9_total_98 post (d + 1) v (nI j) (wI σ 0 0) := by
      intro d
      induction d with
      | zero => intro j v hj; exact ⟨fun _ => k _ _ h, fun q => absurd (show mI (wI σ 0 0) 11 ≤ nI j from (show mI σ 11 ≤ nI j by rw [h.2]; exact nI_le (by omega) (by omega))) q⟩
      | succ d ih =>
        intro j v hj
        have k125 : ∀ a b, wB_X9_total_125 post (wL_X9_total_98 post (d + 1)) (nI j) a b (wI σ 0 0) := fun a b u _ u2 hu => by rw [hu, nI_1]; exact ih (j + 1) u (by omega)
        exact ⟨fun _ => k _ _ h, fun _ => ⟨vp_in_nI (by omega) (by decide), sm_listed ⟨fun _ => k125 _ _, fun _ => k125 _ _⟩ (fun w hw => ⟨fun _ => k125 _ _, fun _ => k125 _ _⟩)⟩⟩
    exact ⟨z + 1, main z 0 0 (by omega)⟩
theorem sm_set {x : Int32} {y : Int64} (h : GI s t σ) (k : ∀ b τ, isB b → GI s t τ → post b τ) : wp_X9_set post x y σ := by
  obtain ⟨z, hz, e⟩ := id h.2.2.1
  refine ⟨fun _ => k 0 _ (Or.inl rfl) h, fun q1 => ⟨fun _ => k 0 _ (Or.inl rfl) h, fun q2 => ⟨fun _ => k 0 _ (Or.inl rfl) h, fun q3 => ?_⟩⟩⟩
  obtain ⟨j, hj, rfl⟩ := nI_of q1
  rw [e] at q2
  have h1 : j ≤ z := by
    rcases Nat.lt_or_ge z j with r | r
    · exact absurd (nI_lt r hj) q2
    · exact r
  have h2 : j ≠ 64 := fun r => q3 (by rw [r]; rfl)
  refine ⟨vp_in_nI (by omega) (by decide), fun q4 => ?_, fun _ => ?_⟩
  · rw [e] at q4
    have hz' : j = z := (nI_eq hj (by omega)).mp q4
    exact k 1 _ (Or.inr rfl) ⟨h.1, h.2.1, ⟨z + 1, by omega, by show mI σ 11 + 1 = _; rw [e, nI_1]⟩, h.2.2.2.1, h.2.2.2.2⟩
  · exact k 1 _ (Or.inr rfl) ⟨h.1, h.2.1, ⟨z, hz, by show mI σ 11 + 0 = _; rw [e]; exact nI_add z 0⟩, h.2.2.2.1, h.2.2.2.2⟩
theorem sm_word {post : Int64 → MS → Prop} {x : Int32} (h : GJ G s t σ) (k : ∀ b τ, GJ G s t τ → post b τ) : wp_X9_word post x σ := by
  obtain ⟨z, hz, -, e⟩ := h.q
  exact sm_isPlace hz e ⟨fun _ => ⟨fun q => absurd q (by decide), fun _ => k _ _ h⟩, fun q => absurd rfl q⟩ (fun j hj hx => ⟨fun q => absurd q (by decide), fun _ => ⟨fun _ => ⟨by rw [hx]; exact vp_in_nI (by omega) (by decide), k _ _ h⟩, fun q => absurd rfl q⟩⟩)
theorem sm_name {x : Int64} (hs : s < 2) (h : GJ G s t σ) (k : ∀ b τ, GJ G s t τ → post b τ) : wp_X9_name post x σ := by
  have k21 : ∀ r v, (¬ r = (-1) → vp_in r 800) → wB_X9_name_21 post r v σ := fun r v hv => ⟨fun _ => k _ _ h, fun q => ⟨hv q, k _ _ h⟩⟩
  unfold wp_X9_name
  rw [h.1.1]
  exact sm_find hs (h.1.2.2.2.2 s hs) ⟨fun _ => k21 _ _ (fun q => absurd rfl q), fun q => absurd rfl q⟩ (fun r hv _ => ⟨fun _ => k21 _ _ (fun _ => hv), fun _ => k21 _ _ (fun _ => hv)⟩)
theorem sm_fault {x : Int32} (h : GJ G s t σ) (k : ∀ b τ, GJ G s t τ → post b τ) : wp_X9_fault post x σ := ⟨fun _ => k _ _ h, fun _ => ⟨fun _ => k _ _ h, fun _ => k _ _ h⟩⟩
end MX
