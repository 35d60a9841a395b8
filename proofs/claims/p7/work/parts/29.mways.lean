/-! the reference's questions go through -/
theorem sm_fits {post : Int32 → Prop} {w : Nat} {x : Int64} (hw : w < 53) (h : ∀ r, isB r → post r) : wp_X9_fits post (nI w) x := by
  have p0 : post 0 := h 0 (Or.inl rfl)
  have b0 : isB 0 ∧ post 0 := ⟨Or.inl rfl, p0⟩
  have b1 : isB 1 ∧ post 1 := ⟨Or.inr rfl, h 1 (Or.inr rfl)⟩
  have k351 : ∀ x6, wB_X9_fits_351 post x x6 := fun _ => ⟨fun _ => ⟨fun _ => b1, fun _ => b0⟩, fun _ => b1⟩
  have k339 : ∀ x5 x6, wB_X9_fits_339 post x x5 x6 := fun _ _ => ⟨fun _ => ⟨fun _ => k351 _, fun _ => b0⟩, fun _ => k351 _⟩
  have k327 : ∀ x4 x5 x6, wB_X9_fits_327 post x x4 x5 x6 := fun _ _ _ => ⟨fun _ => ⟨fun _ => k339 _ _, fun _ => b0⟩, fun _ => k339 _ _⟩
  have main : ∀ (d j : Nat) (x3 x4 x5 x6 : Int32), j + d = 4 → wL_X9_fits_79 post (d + 1) (nI w) x x3 x4 x5 x6 (nI j) := by
    intro d
    induction d with
    | zero => intro j x3 x4 x5 x6 hj; exact ⟨fun _ => ⟨fun _ => ⟨fun _ => k327 _ _ _, fun _ => b0⟩, fun _ => k327 _ _ _⟩, fun z => absurd (show (4 : Int32) ≤ nI j by rw [show j = 4 by omega]; decide) z⟩
    | succ d ih =>
      intro j x3 x4 x5 x6 hj
      have k310 : ∀ x3 x4 x5 x6, wB_X9_fits_310 post (wL_X9_fits_79 post (d + 1)) (nI w) x x3 x4 x5 x6 (nI j) := fun x3 x4 x5 x6 y hy => by rw [hy, nI_1]; exact ih (j + 1) x3 x4 x5 x6 (by omega)
      have k286 : ∀ x3 x4 x5 x6 x8, wB_X9_fits_286 post (wL_X9_fits_79 post (d + 1)) (nI w) x x3 x4 x5 x6 (nI j) x8 := fun _ _ _ _ _ => ⟨fun _ => ⟨fun _ => p0, fun _ => ⟨fun _ => k310 _ _ _ _, fun _ => p0⟩⟩, fun _ => k310 _ _ _ _⟩
      have k263 : ∀ x3 x4 x5 x6 x8, wB_X9_fits_263 post (wL_X9_fits_79 post (d + 1)) (nI w) x x3 x4 x5 x6 (nI j) x8 := fun _ _ _ _ _ => ⟨fun _ => ⟨fun _ => p0, fun _ => ⟨fun _ => p0, fun _ => k286 _ _ _ _ _⟩⟩, fun _ => k286 _ _ _ _ _⟩
      have k246 : ∀ x3 x4 x5 x6 x8, wB_X9_fits_246 post (wL_X9_fits_79 post (d + 1)) (nI w) x x3 x4 x5 x6 (nI j) x8 := fun _ _ _ _ _ => ⟨fun _ => ⟨fun _ => k263 _ _ _ _ _, fun _ => p0⟩, fun _ => k263 _ _ _ _ _⟩
      have k231 : ∀ x3 x4 x5 x6 x8, wB_X9_fits_231 post (wL_X9_fits_79 post (d + 1)) (nI w) x x3 x4 x5 x6 (nI j) x8 := fun _ _ _ _ _ => ⟨fun _ => ⟨fun _ => p0, fun _ => k246 _ _ _ _ _⟩, fun _ => k246 _ _ _ _ _⟩
      have k214 : ∀ x3 x4 x5 x8 t0, wB_X9_fits_214 post (wL_X9_fits_79 post (d + 1)) (nI w) x x3 x4 x5 (nI j) x8 t0 := fun _ _ _ _ _ => ⟨fun _ => ⟨fun _ => p0, fun _ => k231 _ _ _ _ _⟩, fun _ => k231 _ _ _ _ _⟩
      have k174 : ∀ x3 x4 x6 x8 t0, wB_X9_fits_174 post (wL_X9_fits_79 post (d + 1)) (nI w) x x3 x4 x6 (nI j) x8 t0 := fun _ _ _ _ _ => ⟨fun _ => ⟨fun _ => k214 _ _ _ _ _, fun _ => ⟨fun _ => k214 _ _ _ _ _, fun _ => ⟨fun _ => k214 _ _ _ _ _, fun _ => ⟨fun _ => k214 _ _ _ _ _, fun _ => k214 _ _ _ _ _⟩⟩⟩⟩, fun _ => k214 _ _ _ _ _⟩
      have k148 : ∀ x3 x5 x6 x8 t0, wB_X9_fits_148 post (wL_X9_fits_79 post (d + 1)) (nI w) x x3 x5 x6 (nI j) x8 t0 := fun _ _ _ _ _ => ⟨fun _ => ⟨fun _ => k174 _ _ _ _ _, fun _ => ⟨fun _ => k174 _ _ _ _ _, fun _ => k174 _ _ _ _ _⟩⟩, fun _ => k174 _ _ _ _ _⟩
      have k116 : ∀ x4 x5 x6 x8 t0, wB_X9_fits_116 post (wL_X9_fits_79 post (d + 1)) (nI w) x x4 x5 x6 (nI j) x8 t0 := fun _ _ _ _ _ => ⟨fun _ => ⟨fun _ => k148 _ _ _ _ _, fun _ => ⟨fun _ => k148 _ _ _ _ _, fun _ => ⟨fun _ => k148 _ _ _ _ _, fun _ => k148 _ _ _ _ _⟩⟩⟩, fun _ => k148 _ _ _ _ _⟩
      exact ⟨fun _ => ⟨fun _ => ⟨fun _ => k327 _ _ _, fun _ => b0⟩, fun _ => k327 _ _ _⟩, fun _ => sp_part hw (show j < 4 by omega) ⟨fun _ => ⟨fun _ => k116 _ _ _ _ _, fun _ => ⟨fun _ => k116 _ _ _ _ _, fun _ => k116 _ _ _ _ _⟩⟩, fun _ => k116 _ _ _ _ _⟩⟩
  have k76 : ∀ x6, wB_X9_fits_76 post (nI w) x 0 0 0 x6 := fun x6 => ⟨5, main 4 0 0 0 0 x6 rfl⟩
  have k42 : wB_X9_fits_42 post (nI w) x := sp_isTold (sp_isTold ⟨fun _ => k76 _, fun _ => ⟨fun _ => k76 _, fun _ => p0⟩⟩)
  exact sp_opOf hw ⟨fun _ => ⟨fun _ => ⟨fun _ => k42, fun _ => ⟨fun _ => k42, fun _ => p0⟩⟩, fun _ => p0⟩, fun _ => p0⟩
theorem sm_listed {post : Int32 → Prop} {x : Int64} (h0 : post (-1)) (h1 : ∀ w, w < 53 → post (nI w)) : wp_X9_listed post x := by
  have main : ∀ (d j : Nat), j + d = 53 → wL_X9_listed_2 post (d + 1) x (nI j) := by
    intro d
    induction d with
    | zero => intro j hj; exact ⟨fun _ => h0, fun z => absurd (show (53 : Int32) ≤ nI j by rw [show j = 53 by omega]; decide) z⟩
    | succ d ih =>
      intro j hj
      exact ⟨fun _ => h0, fun _ => sm_fits (show j < 53 by omega) (fun r _ => ⟨fun _ => fun y hy => by rw [hy, nI_1]; exact ih (j + 1) (by omega), fun _ => h1 j (by omega)⟩)⟩
  exact ⟨54, main 53 0 rfl⟩
section MW
variable {s t z : Nat} {σ : MS}
/-- of the reference's state: tape, size, kernel, names' counts, names, means -/
abbrev GhT : Type := (Nat → Int32) → Int32 → (Nat → Int64) → (Nat → Int32) → (Nat → Int64) → (Nat → Int64) → Prop
/-- what no call but type, set and compile changes: TAPE, size, kernel, NAMES -/
def gh (G : GhT) (σ : MS) : Prop := G (mA σ 1) (mI σ 11) (mL σ 10) (mA σ 15) (mL σ 16) (mL σ 17)
def GJ (G : GhT) (s t : Nat) (σ : MS) : Prop := GI s t σ ∧ gh G σ
def QI (G : GhT) (s t z : Nat) (σ : MS) : Prop := GJ G s t σ ∧ mI σ 11 = nI z
variable {G : GhT}
theorem GJ.q (h : GJ G s t σ) : ∃ z, z ≤ 64 ∧ QI G s t z σ := by
  obtain ⟨z, hz, e⟩ := h.1.2.2.1
  exact ⟨z, hz, h, e⟩
theorem sm_isPlace {post : Int32 → MS → Prop} {x : Int32} (hz : z ≤ 64) (e : mI σ 11 = nI z) (h0 : post 0 σ) (h1 : ∀ j, j < z → x = nI j → post 1 σ) : wp_X9_isPlace post x σ := by
  refine ⟨fun _ => ⟨Or.inl rfl, h0⟩, fun q => ⟨fun _ => ⟨Or.inl rfl, h0⟩, fun q2 => ⟨Or.inr rfl, ?_⟩⟩⟩
  obtain ⟨j, hj, rfl⟩ := nI_of q
  rw [e] at q2
  refine h1 j ?_ rfl
  rcases Nat.lt_or_ge j z with r | r
  · exact r
  · exact absurd (nI_le r hj) q2
theorem sm_isGuarded {post : Int32 → MS → Prop} {x : Int32} (hv : vp_in x 64) (h : ∀ r, isB r → post r σ) : wp_X9_isGuarded post x σ := ⟨hv, ⟨fun _ => ⟨Or.inl rfl, h _ (Or.inl rfl)⟩, fun _ => ⟨Or.inr rfl, h _ (Or.inr rfl)⟩⟩⟩
theorem sm_wayOf {post : Int32 → MS → Prop} {x i : Int32} (hv : vp_in x 64) (h : ∀ r, post r σ) : wp_X9_wayOf post x i σ := by
  have k100 : ∀ t0 t1, wB_X9_wayOf_100 post x t0 t1 σ := fun _ _ => ⟨fun _ => h _, fun _ => h _⟩
  have k81 : ∀ x5, wB_X9_wayOf_81 post x i x5 σ := fun _ => sm_isGuarded hv (fun _ _ => ⟨fun _ => h _, fun _ => ⟨fun _ => k100 _ _, fun _ => k100 _ _⟩⟩)
  have k64 : ∀ x4 x5, wB_X9_wayOf_64 post x i x4 x5 σ := fun _ _ => ⟨fun _ => k81 _, fun _ => ⟨fun _ => ⟨fun _ => k81 _, fun _ => ⟨fun _ => h _, fun _ => h _⟩⟩, fun _ => k81 _⟩⟩
  have k43 : ∀ x4 t0, wB_X9_wayOf_43 post x i x4 t0 σ := fun _ _ => ⟨fun _ => k64 _ _, fun _ => ⟨fun _ => ⟨hv, h _⟩, fun _ => k64 _ _⟩⟩
  exact ⟨hv, sm_listed ⟨fun _ => h _, fun z => absurd rfl z⟩ (fun w hw => ⟨fun _ => h _, fun _ => sp_opOf hw ⟨fun _ => k43 _ _, fun _ => ⟨fun _ => k43 _ _, fun _ => k43 _ _⟩⟩⟩)⟩
theorem sm_way {post : Int32 → MS → Prop} {x i : Int32} (h : GJ G s t σ) (k : ∀ r τ, GJ G s t τ → post r τ) : wp_X9_way post x i σ := by
  obtain ⟨z, hz, -, e⟩ := h.q
  refine sm_isPlace (σ := wI σ 0 0) hz e ⟨fun _ => k _ _ h, fun z => absurd rfl z⟩ (fun j hj hx => ⟨fun z => absurd z (by decide), fun _ => ⟨fun _ => k _ _ h, fun _ => ⟨fun _ => ?_, fun _ => k _ _ h⟩⟩⟩)
  exact sm_wayOf (by rw [hx]; exact vp_in_nI (by omega) (by decide)) (fun r => ⟨fun _ => k _ _ h, fun _ => k _ _ h⟩)
/-- how many are still 0 -/
def zs (f : Nat → Int32) : Nat → Nat
  | 0 => 0
  | n + 1 => zs f n + (if f n = 0 then 1 else 0)
theorem zs_le (f : Nat → Int32) : ∀ n, zs f n ≤ n := by
  intro n
  induction n with
  | zero => exact Nat.le_refl 0
  | succ n ih =>
    show zs f n + (if f n = 0 then 1 else 0) ≤ n + 1
    split <;> omega
theorem zs_out (f : Nat → Int32) (i : Nat) (v : Int32) : ∀ n, n ≤ i → zs (upd f i v) n = zs f n := by
  intro n
  induction n with
  | zero => intro _; rfl
  | succ n ih =>
    intro h
    show zs (upd f i v) n + (if upd f i v n = 0 then 1 else 0) = zs f n + (if f n = 0 then 1 else 0)
    rw [ih (by omega), pk_un (show n ≠ i by omega)]
theorem zs_upd (f : Nat → Int32) (i : Nat) (h0 : f i = 0) : ∀ n, i < n → zs (upd f i 1) n + 1 = zs f n := by
  intro n
  induction n with
  | zero => intro h; omega
  | succ n ih =>
    intro h
    show zs (upd f i 1) n + (if upd f i 1 n = 0 then 1 else 0) + 1 = zs f n + (if f n = 0 then 1 else 0)
    by_cases e : n = i
    · subst e
      rw [zs_out f n 1 n (Nat.le_refl n), pk_us, h0, if_neg (by decide), if_pos rfl]
    · rw [pk_un e, ← ih (by omega)]
      omega
theorem gi_come {i : Nat} {v : Int32} (h : GJ G s t σ) (hv : isB v) : GJ G s t (wA σ 31 i v) := by
  obtain ⟨h, hG⟩ := h
  refine ⟨⟨h.1, h.2.1, h.2.2.1, fun j => ⟨(h.2.2.2.1 j).1, ?_⟩, h.2.2.2.2⟩, hG⟩
  rw [mA_wA, if_pos rfl]
  by_cases e : j = i
  · rw [e, pk_us]; exact hv
  · rw [pk_un e]; exact (h.2.2.2.1 j).2
theorem qi_come {i : Nat} {v : Int32} (h : QI G s t z σ) (hv : isB v) : QI G s t z (wA σ 31 i v) := ⟨gi_come h.1 hv, h.2⟩
theorem sm_spread {post : MS → Prop} {x y : Int32} (hz : z ≤ 64) (h : QI G s t z σ) (k : ∀ τ, QI G s t z τ → post τ) : wp_X9_spread post x y σ := by
  have k43 : ∀ (d : Nat) (τ : MS) (x3 : Int32), QI G s t z τ → (x3 = 0 ∨ zs (mA τ 31) 64 < d) → wL_X9_spread_43 post (d + 1) y x3 τ := by
    intro d
    induction d with
    | zero => intro τ x3 g h3; exact ⟨fun _ => k τ g, fun q => h3.elim (fun e => absurd e q) (fun e => absurd e (by omega))⟩
    | succ d ih =>
      intro τ x3 g h3
      refine ⟨fun _ => k τ g, fun q => ?_⟩
      have hle : zs (mA τ 31) 64 ≤ d := h3.elim (fun e => absurd e q) (fun e => by omega)
      have k52 : ∀ (e j : Nat) (x3 : Int32) (τ : MS), j + e = z → QI G s t z τ → zs (mA τ 31) 64 ≤ d → (x3 = 0 ∨ zs (mA τ 31) 64 < d) → wL_X9_spread_52 post (wL_X9_spread_43 post (d + 1)) (e + 1) y x3 (nI j) τ := by
        intro e
        induction e with
        | zero =>
          intro j x3 τ hj g hd h3
          exact ⟨fun _ => ih τ x3 g h3, fun q => absurd (by rw [g.2]; exact nI_le (by omega) (by omega)) q⟩
        | succ e ih2 =>
          intro j x3 τ hj g hd h3
          refine ⟨fun _ => ih τ x3 g h3, fun _ => ⟨3, ?_⟩⟩
          have ij : vp_in (nI j) 64 := vp_in_nI (by omega) (by decide)
          have k64 : ∀ (m i : Nat) (x3 : Int32) (τ : MS), i + m = 2 → QI G s t z τ → zs (mA τ 31) 64 ≤ d → (x3 = 0 ∨ zs (mA τ 31) 64 < d) → wL_X9_spread_64 post (wL_X9_spread_43 post (d + 1)) (wL_X9_spread_52 post (wL_X9_spread_43 post (d + 1)) (e + 1)) (m + 1) y x3 (nI j) (nI i) τ := by
            intro m
            induction m with
            | zero =>
              intro i x3 τ hi g hd h3
              refine ⟨fun _ => fun u hu => ?_, fun q => absurd (show (2 : Int32) ≤ nI i by rw [show i = 2 by omega]; decide) q⟩
              rw [hu, nI_1]
              exact ih2 (j + 1) x3 τ (by omega) g hd h3
            | succ m ih3 =>
              intro i x3 τ hi g hd h3
              have k139 : wB_X9_spread_139 post (wL_X9_spread_43 post (d + 1)) (wL_X9_spread_52 post (wL_X9_spread_43 post (d + 1)) (e + 1)) y x3 (nI j) τ := fun u hu => by
                rw [hu, nI_1]
                exact ih2 (j + 1) x3 τ (by omega) g hd h3
              have k133 : ∀ x3 τ, QI G s t z τ → zs (mA τ 31) 64 ≤ d → (x3 = 0 ∨ zs (mA τ 31) 64 < d) → wB_X9_spread_133 post (wL_X9_spread_43 post (d + 1)) (wL_X9_spread_52 post (wL_X9_spread_43 post (d + 1)) (e + 1)) (wL_X9_spread_64 post (wL_X9_spread_43 post (d + 1)) (wL_X9_spread_52 post (wL_X9_spread_43 post (d + 1)) (e + 1)) (m + 1)) y x3 (nI j) (nI i) τ := fun x3 τ g hd h3 u hu => by
                rw [hu, nI_1]
                exact ih3 (i + 1) x3 τ (by omega) g hd h3
              refine ⟨fun _ => k139, fun _ => ⟨ij, fun _ => k139, fun _ => sm_wayOf ij (fun r => ⟨fun _ => k133 _ _ g hd h3, fun _ => sm_isPlace hz g.2 ⟨fun _ => k133 _ _ g hd h3, fun q => absurd rfl q⟩ (fun j' hj' hr => ⟨fun q => absurd q (by decide), fun _ => ⟨fun _ => k133 _ _ g hd h3, fun _ => ?_⟩⟩)⟩)⟩⟩
              have ir : vp_in r 64 := by rw [hr]; exact vp_in_nI (by omega) (by decide)
              refine ⟨ir, fun q0 => ⟨ir, ?_⟩, fun _ => k133 _ _ g hd h3⟩
              have e31 : mA (wA τ 31 r.toNatClampNeg 1) 31 = upd (mA τ 31) r.toNatClampNeg 1 := by rw [mA_wA, if_pos rfl]
              have hr' : r.toNatClampNeg = j' := by rw [hr, nI_clamp (by omega)]
              have hz1 : zs (mA (wA τ 31 r.toNatClampNeg 1) 31) 64 + 1 = zs (mA τ 31) 64 := by rw [e31]; exact zs_upd _ _ q0 64 (by omega)
              exact k133 1 _ (qi_come g (Or.inr rfl)) (by omega) (Or.inr (by omega))
          exact k64 2 0 x3 τ rfl g hd h3
      exact ⟨z + 1, k52 z 0 0 τ (by omega) g hle (Or.inl rfl)⟩
  have k41 : ∀ τ, QI G s t z τ → wB_X9_spread_41 post y τ := fun τ g => ⟨66, k43 65 τ 1 g (Or.inr (by have := zs_le (mA τ 31) 64; omega))⟩
  have main : ∀ (d j : Nat) (τ : MS), j + d = 64 → QI G s t z τ → wL_X9_spread_2 post (d + 1) x y (nI j) τ := by
    intro d
    have fin : ∀ τ, QI G s t z τ → wp_X9_isPlace (fun r_1 σ_2 => (r_1 = 0 → (wB_X9_spread_41 post y σ_2)) ∧ (¬ r_1 = 0 → ((x = y → (wB_X9_spread_41 post y σ_2)) ∧ (¬ x = y → (vp_in x 64 ∧ (wB_X9_spread_41 post y (wA σ_2 31 x.toNatClampNeg 1))))))) x τ := fun τ g => sm_isPlace hz g.2 ⟨fun _ => k41 τ g, fun q => absurd rfl q⟩ (fun j hj hx => ⟨fun q => absurd q (by decide), fun _ => ⟨fun _ => k41 τ g, fun _ => ⟨by rw [hx]; exact vp_in_nI (by omega) (by decide), k41 _ (qi_come g (Or.inr rfl))⟩⟩⟩)
    induction d with
    | zero => intro j τ hj g; exact ⟨fun _ => fin τ g, fun q => absurd (show (64 : Int32) ≤ nI j by rw [show j = 64 by omega]; decide) q⟩
    | succ d ih =>
      intro j τ hj g
      exact ⟨fun _ => fin τ g, fun _ => ⟨vp_in_nI (by omega) (by decide), fun u hu => by rw [hu, nI_1]; exact ih (j + 1) _ (by omega) (qi_come g (Or.inl rfl))⟩⟩
  exact ⟨65, main 64 0 σ rfl h⟩
theorem sm_reached {post : Int32 → MS → Prop} {x : Int32} (hz : z ≤ 64) (h : QI G s t z σ) (k0 : ∀ τ, QI G s t z τ → post 0 τ) (k1 : ∀ r τ, isB r → vp_in x 64 → QI G s t z τ → post r τ) : wp_X9_reached post x σ := by
  refine sm_isPlace (σ := wI σ 0 0) hz h.2 ⟨fun _ => k0 _ h, fun q => absurd rfl q⟩ (fun j hj hx => ⟨fun q => absurd q (by decide), fun _ => sm_spread (σ := wI σ 0 0) hz h (fun τ g => ?_)⟩)
  have ix : vp_in x 64 := by rw [hx]; exact vp_in_nI (by omega) (by decide)
  exact ⟨ix, (g.1.1.2.2.2.1 _).2, k1 _ τ (g.1.1.2.2.2.1 _).2 ix g⟩
end MW
