/-! the class's compile goes through -/
def XC (l : Nat) (σ : XS) : Prop := XI σ ∧ (∃ n, n ≤ 701 ∧ xI σ 4 = nI n) ∧ xI σ 1 = nI l ∧ (∃ c, c ≤ 350 ∧ xI σ 6 = nI c) ∧ (∀ i e, xQ σ 0 i = some e → e < 53) ∧ ∀ i, xA σ 3 i = (-1) ∨ ∃ m, m ≤ 1000000 ∧ xA σ 3 i = nI m
def XP (B l : Nat) (σ : XS) : Prop := XC l σ ∧ ∃ a, a ≤ B ∧ xI σ 5 = nI a
section XK
variable {B l t : Nat} {σ : XS} {post : Int32 → XS → Prop}
theorem XP.mono {B' : Nat} (h : XP B l σ) (hb : B ≤ B') : XP B' l σ := by
  obtain ⟨h1, a, ha, e⟩ := h
  exact ⟨h1, a, by omega, e⟩
theorem nI_nle' {a b : Nat} (ha : a < 2 ^ 31) (h : ¬ nI b ≤ nI a) : a < b := by
  rcases Nat.lt_or_ge a b with q | q
  · exact q
  · exact absurd (nI_le q ha) h
/-- where the look is, in words -/
theorem sx_at (hB : B ≤ 1000900) (h : XP B l σ) (q : ¬ xI σ 4 ≤ xI σ 5) : vp_in (xI σ 5) 701 := by
  obtain ⟨⟨-, ⟨n, hn, e4⟩, -⟩, a, ha, e5⟩ := h
  rw [e4, e5] at q
  have := nI_nle' (by omega) q
  rw [e5]
  exact vp_in_nI (by omega) (by decide)
theorem sx_kind (hB : B ≤ 1000900) (h : XP B l σ) (k : ∀ r, post r σ) : wp_X6_kind post σ := ⟨fun _ => k _, fun q => ⟨sx_at hB h q, k _⟩⟩
theorem sx_place (hB : B ≤ 1000900) (h : XP B l σ) (k : ∀ r, post r σ) : wp_X6_place post σ := ⟨fun _ => k _, fun q => ⟨sx_at hB h q, k _⟩⟩
theorem sx_value {post : Int64 → XS → Prop} (hB : B ≤ 1000900) (h : XP B l σ) (k : ∀ r, post r σ) : wp_X6_value post σ := ⟨fun _ => k _, fun q => ⟨sx_at hB h q, k _⟩⟩
theorem sx_follower (hB : B ≤ 1000900) (h : XP B l σ) (k : ∀ r, post r σ) : wp_X6_follower post σ := by
  refine ⟨fun _ => k _, fun q => ⟨?_, k _⟩⟩
  obtain ⟨⟨-, ⟨n, hn, e4⟩, -⟩, a, ha, e5⟩ := h
  rw [e4, e5, nI_1] at q
  have := nI_nle' (by omega) q
  rw [e5, nI_1]
  exact vp_in_nI (by omega) (by decide)
theorem sx_advance {post : XS → Prop} (h : XP B l σ) (k : ∀ τ, XP (B + 1) l τ → post τ) : wp_X6_advance post σ := by
  obtain ⟨h1, a, ha, e⟩ := h
  exact k _ ⟨h1, a + 1, by omega, by show xI σ 5 + 1 = _; rw [e, nI_1]⟩
theorem sx_noteFault {post : XS → Prop} {x y : Int32} (h : XP B l σ) (k : ∀ τ, XP B l τ → post τ) : wp_X3_noteFault post x y σ := ⟨fun _ => k _ h, fun _ => ⟨fun _ => k _ h, fun _ => k _ h⟩⟩
theorem sx_refuse (hB : B ≤ 1000900) (h : XP B l σ) (k : ∀ τ, XP B l τ → post 0 τ) : wp_X3_refuse post σ := sx_place (σ := yI σ 2 1) hB h (fun r => k _ h)
theorem sx_goTo {post : XS → Prop} {x : Int32} {M : Nat} (hM : M ≤ 1000000) (hx : x = (-1) ∨ ∃ m, m ≤ M ∧ x = nI m) (h : XP B l σ) (k : ∀ τ, XP M l τ → post τ) : wp_X6_goTo post x σ := by
  refine ⟨fun _ => k _ ⟨h.1, 0, by omega, rfl⟩, fun q => ?_⟩
  rcases hx with e | ⟨m, hm, e⟩
  · exact absurd (by rw [e]; decide) q
  · exact k _ ⟨h.1, m, hm, e⟩
theorem sx_findT {v : Int64} (h : XP B l σ) (h0 : post (-1) σ) (h1 : ∀ r, vp_in r 350 → ¬ r = (-1) → post r σ) : wp_X1_find_told post v σ := by
  obtain ⟨c, hc, e⟩ := h.1.2.2.2.1
  have main : ∀ (d j : Nat), j + d = c → wL_X1_find_told_2 post (d + 1) v (nI j) σ := by
    intro d
    induction d with
    | zero => intro j hj; exact ⟨fun _ => h0, fun z => absurd (by rw [e]; exact nI_le (by omega) (by omega)) z⟩
    | succ d ih =>
      intro j hj
      exact ⟨fun _ => h0, fun _ => ⟨vp_in_nI (by omega) (by decide), fun _ => h1 _ (vp_in_nI (by omega) (by decide)) (nI_ne1 (by omega)), fun _ => fun x hx => by rw [hx, nI_1]; exact ih (j + 1) (by omega)⟩⟩
  exact ⟨c + 1, main c 0 (by omega)⟩
theorem sx_tellT {x y : Int64} (h : XP B l σ) (k : ∀ r τ, XP B l τ → post r τ) : wp_X1_tell_told post x y σ := by
  refine sx_findT h ⟨fun _ => ⟨fun q => ?_, fun _ => k _ _ h⟩, fun z => absurd rfl z⟩ (fun r _ hr => ⟨fun z => absurd z hr, fun _ => k _ _ h⟩)
  obtain ⟨c, hc, e⟩ := h.1.2.2.2.1
  have hlt : c < 350 := by
    rw [e] at q
    exact (nI_ltI (a := c) (b := 350) (by omega) (by decide)).mp q
  have hv : vp_in (xI σ 6) 350 := by rw [e]; exact vp_in_nI hlt (by decide)
  exact ⟨hv, hv, k _ _ ⟨⟨h.1.1, h.1.2.1, h.1.2.2.1, ⟨c + 1, by omega, by show xI σ 6 + 1 = _; rw [e, nI_1]⟩, h.1.2.2.2.2.1, h.1.2.2.2.2.2⟩, h.2⟩⟩
theorem sx_valueOfName {post : Int64 → XS → Prop} (hB : B ≤ 1000900) (h : XP B l σ) (k : ∀ r τ, XP B l τ → post r τ) : wp_X3_valueOfName post σ :=
  sx_value hB h (fun v => sx_findT h ⟨fun _ => sx_place hB h (fun p => sx_noteFault h (fun τ g => k _ τ g)), fun z => absurd rfl z⟩ (fun r hv hr => ⟨fun z => absurd z hr, fun _ => ⟨hv, k _ _ h⟩⟩))
theorem sx_amountAt {post : Int64 → XS → Prop} {x y : Int32} {M : Nat} (hM : M ≤ 1000000) (hx : x = (-1) ∨ ∃ m, m ≤ M ∧ x = nI m) (h : XP B l σ) (k : ∀ r τ, XP (M + 2) l τ → post r τ) : wp_X3_amountAt post x y σ := by
  have k91 : ∀ x3 v τ, XP (M + 2) l τ → wB_X3_amountAt_91 post y x3 v τ := fun x3 v τ g => sf_leastOf (fun a => ⟨fun _ => sx_noteFault g (fun τ g => k _ τ g), fun _ => sf_mostOf (fun b => ⟨fun _ => k _ τ g, fun _ => sx_noteFault g (fun τ g => k _ τ g)⟩)⟩)
  have k72 : ∀ x3 x4 v τ, XP (M + 1) l τ → wB_X3_amountAt_72 post y x3 x4 v τ := fun x3 x4 v τ g => sx_advance g (fun τ g => ⟨fun _ => k91 x3 v τ g, fun _ => fun u _ => k91 x3 u τ g⟩)
  have k47 : ∀ x3 x4 τ, XP (M + 1) l τ → wB_X3_amountAt_47 post y x3 x4 τ := fun x3 x4 τ g => sx_kind (by omega) g (fun r => ⟨fun _ => sx_valueOfName (by omega) g (fun v τ g => k72 x3 x4 v τ g), fun _ => sx_value (by omega) g (fun v => k72 x3 x4 v τ g)⟩)
  have k33 : ∀ x3 t0 τ, XP M l τ → wB_X3_amountAt_33 post y x3 t0 τ := fun x3 t0 τ g => ⟨fun _ => k47 x3 t0 τ (g.mono (by omega)), fun _ => sx_advance g (fun τ g => k47 x3 t0 τ g)⟩
  exact sx_goTo hM hx h (fun τ g => sx_place (by omega) g (fun p => sx_kind (by omega) g (fun r => ⟨fun _ => k33 p 1 τ g, fun _ => k33 p 0 τ g⟩)))
theorem sx_amountPart {post : Int32 → Prop} {e : Nat} (he : e < 53) (h : ∀ r, post r) : wp_X2_amountPart post e := ⟨he, sf_isJump he (fun r _ => ⟨fun _ => ⟨(pk_charN (q := 110) (by decide)).1, h _⟩, fun _ => ⟨(pk_charN (q := 116) (by decide)).1, h _⟩⟩)⟩
theorem sx_fillAmounts {post : XS → Prop} (hl : l ≤ 64) (hB : B ≤ 1000002) (h : XP B l σ) (k : ∀ τ, XP 1000002 l τ → post τ) : wp_X3_fillAmounts post σ := by
  have main : ∀ (d j : Nat) (τ : XS), j + d = l → XP 1000002 l τ → wL_X3_fillAmounts_2 post (d + 1) (nI j) τ := by
    intro d
    induction d with
    | zero => intro j τ hj g; exact ⟨fun _ => k τ g, fun z => absurd (by rw [g.1.2.2.1]; exact nI_le (by omega) (by omega)) z⟩
    | succ d ih =>
      intro j τ hj g
      have ij : vp_in (nI j) 64 := vp_in_nI (by omega) (by decide)
      have k60 : ∀ τ, XP 1000002 l τ → wB_X3_fillAmounts_60 post (wL_X3_fillAmounts_2 post (d + 1)) (nI j) τ := fun τ g u hu => by rw [hu, nI_1]; exact ih (j + 1) τ (by omega) g
      refine ⟨fun _ => k τ g, fun _ => ⟨ij, fun _ => k60 τ g, fun _ => ⟨ij, fun _ => k60 τ g, fun e he => ⟨ij, ij, ij, fun z => ?_, fun e9 he9 => ?_⟩⟩⟩⟩
      · rw [he] at z; cases z
      · have h9 := g.1.2.2.2.2.1 _ _ he9
        exact ⟨h9, sx_amountPart h9 (fun r => sx_amountAt (M := 1000000) (by omega) (g.1.2.2.2.2.2 _) g (fun v τ g => ⟨ij, k60 _ g⟩))⟩
  exact ⟨l + 1, main l 0 σ (by omega) (h.mono hB)⟩
theorem sx_passAmount (hB : B ≤ 1000800) (h : XP B l σ) (k : ∀ r τ, isB r → XP (B + 2) l τ → post r τ) : wp_X3_passAmount post σ := by
  have k43 : ∀ τ, XP (B + 1) l τ → wB_X3_passAmount_43 post τ := fun τ g => sx_advance g (fun τ g => k 1 τ (Or.inr rfl) g)
  have k19 : ∀ τ, XP (B + 1) l τ → wB_X3_passAmount_19 post τ := fun τ g => sx_kind (by omega) g (fun r => ⟨fun _ => k43 τ g, fun _ => sx_kind (by omega) g (fun r => ⟨fun _ => k43 τ g, fun _ => k 0 τ (Or.inl rfl) (g.mono (by omega))⟩)⟩)
  exact sx_kind (by omega) h (fun r => ⟨fun _ => sx_advance h (fun τ g => k19 τ g), fun _ => k19 σ (h.mono (by omega))⟩)
theorem sx_takeSign {x : Int32} (hB : B ≤ 1000800) (h : XP B l σ) (k : ∀ r τ, isB r → XP (B + 1) l τ → post r τ) : wp_X3_takeSign post x σ :=
  sx_kind (by omega) h (fun r => ⟨fun _ => sx_advance h (fun τ g => k 1 τ (Or.inr rfl) g), fun _ => sx_refuse (by omega) h (fun τ g => ⟨Or.inl rfl, k 0 τ (Or.inl rfl) (g.mono (by omega))⟩)⟩)
theorem sx_tellName {post : XS → Prop} {x y : Int64} {z : Int32} (h : XP B l σ) (k : ∀ τ, XP B l τ → post τ) : wp_X3_tellName post x z y σ := sx_tellT h (fun r τ g => ⟨fun _ => sx_noteFault g (fun τ g => k τ g), fun _ => k τ g⟩)
theorem sx_takeConstant (hB : B ≤ 999000) (h : XP B l σ) (k : ∀ r τ, isB r → XP (B + 10) l τ → post r τ) : wp_X3_takeConstant post σ := by
  refine sx_value (by omega) h (fun v => sx_place (by omega) h (fun p => sx_advance h (fun τ g => sx_advance g (fun τ g => ?_))))
  obtain ⟨a, ha, e5⟩ := g.2
  refine sx_passAmount (by omega) g (fun r τ' _ g' => ⟨fun _ => sx_refuse (by omega) g' (fun τ g => ⟨Or.inl rfl, k 0 τ (Or.inl rfl) (g.mono (by omega))⟩), fun _ => sx_amountAt (M := B + 2) (by omega) (Or.inr ⟨a, by omega, e5⟩) g' (fun v τ g => sx_tellName g (fun τ g => sx_takeSign (by omega) g (fun r τ hr g => ⟨hr, k r τ hr (g.mono (by omega))⟩)))⟩)
theorem sx_numbered {x : Int32} {m : Nat} (hm : m ≤ 15) (hB : B ≤ 1000800) (h : XP B l σ) (k : ∀ r, post r σ) : wp_X6_numbered post x (nI m) σ := by
  have main : ∀ (d j : Nat), j + d = m + 1 → wL_X6_numbered_12 post (d + 1) x (nI m) (nI j) σ := by
    intro d
    induction d with
    | zero => intro j hj; exact ⟨fun _ => k _, fun z => absurd (nI_lt (show m < j by omega) (by omega)) z⟩
    | succ d ih =>
      intro j hj
      have nx : ∀ y : Int32, y = nI j + 1 → wL_X6_numbered_12 post (d + 1) x (nI m) y σ := fun y hy => by rw [hy, nI_1]; exact ih (j + 1) (by omega)
      exact ⟨fun _ => k _, fun _ => sx_value (by omega) h (fun v => fun u _ => ⟨fun _ => ⟨fun _ => k _, fun _ => nx⟩, fun _ => ⟨fun _ => k _, fun _ => nx⟩⟩)⟩
  exact sx_kind (by omega) h (fun r => ⟨fun _ => ⟨m + 2, main (m + 1) 0 (by omega)⟩, fun _ => k _⟩)
theorem sx_takeGuard (hB : B ≤ 1000000) (h : XP B l σ) (k : ∀ r τ, XP (B + 3) l τ → post r τ) : wp_X3_takeGuard post σ := by
  have k32 : ∀ v τ, XP (B + 2) l τ → wB_X3_takeGuard_32 post v τ := fun v τ g => sx_numbered (m := 3) (by omega) (by omega) g (fun r => ⟨fun _ => k _ τ (g.mono (by omega)), fun _ => sx_advance g (fun τ g => k _ τ g)⟩)
  exact sx_advance h (fun τ g => sx_kind (by omega) g (fun r => ⟨fun _ => sx_advance g (fun τ g => k32 _ τ g), fun _ => k32 _ τ (g.mono (by omega))⟩))
theorem sx_refuseNoWord {x : Int32} (hB : B ≤ 1000000) (h : XP B l σ) (k : ∀ τ, XP (B + 1) l τ → post 0 τ) : wp_X3_refuseNoWord post x σ := by
  have k34 : ∀ τ, XP (B + 1) l τ → wB_X3_refuseNoWord_34 post τ := fun τ g => sx_refuse (by omega) g (fun τ g => ⟨Or.inl rfl, k τ g⟩)
  have h' := h.mono (show B ≤ B + 1 by omega)
  exact ⟨fun _ => sx_kind (by omega) h (fun r => ⟨fun _ => sx_follower (by omega) h (fun r => ⟨fun _ => sx_advance h (fun τ g => k34 τ g), fun _ => k34 σ h'⟩), fun _ => k34 σ h'⟩), fun _ => k34 σ h'⟩
def isF (x : Int32) : Prop := x = 100 ∨ x = 68 ∨ x = 97 ∨ x = 65 ∨ x = 98 ∨ x = 66 ∨ x = 113
theorem sx_shiftOf {post : Int32 → Prop} {x : Int32} (n1 : ¬ x = 110) (n2 : ¬ x = 116) (h0 : post (-1)) (h1 : isF x → ∀ r, post r) : wp_X2_shiftOf post x :=
  ⟨fun e => h1 (Or.inl e) _, fun _ => ⟨fun e => h1 (Or.inr (Or.inl e)) _, fun _ => ⟨fun e => h1 (Or.inr (Or.inr (Or.inl e))) _, fun _ => ⟨fun e => h1 (Or.inr (Or.inr (Or.inr (Or.inl e)))) _, fun _ => ⟨fun e => h1 (Or.inr (Or.inr (Or.inr (Or.inr (Or.inl e))))) _, fun _ => ⟨fun e => h1 (Or.inr (Or.inr (Or.inr (Or.inr (Or.inr (Or.inl e)))))) _, fun _ => ⟨fun e => h1 (Or.inr (Or.inr (Or.inr (Or.inr (Or.inr (Or.inr e)))))) _, fun _ => ⟨fun e => absurd e n1, fun _ => ⟨fun e => absurd e n2, fun _ => h0⟩⟩⟩⟩⟩⟩⟩⟩⟩
theorem sx_mostOf {post : Int32 → Prop} {x : Int32} (hx : isF x) (h : ∀ m, m ≤ 15 → post (nI m)) : wp_X2_mostOf post x := by
  have p15 : post 15 := h 15 (by omega)
  have p3 : post 3 := h 3 (by omega)
  have pr : ∀ z : Int32, isB z ∧ ((z = 0 → ((x = 116 → (wB_X2_mostOf_32 post 63)) ∧ (¬ x = 116 → (wB_X2_mostOf_32 post 2147483647)))) ∧ (¬ z = 0 → (post 3))) → True := fun _ _ => trivial
  have reg : ∀ {P : Int32 → Prop}, (isB 1 ∧ P 1) → (x = 100 ∨ x = 97 ∨ x = 98) → wp_X2_isRegister P x := fun {P} hp hx => ⟨fun _ => hp, fun n1 => ⟨fun _ => hp, fun n2 => ⟨fun _ => hp, fun n3 => by
    rcases hx with e | e | e
    · exact absurd e n1
    · exact absurd e n2
    · exact absurd e n3⟩⟩⟩
  have nreg : ∀ {P : Int32 → Prop}, (isB 0 ∧ P 0) → (x = 68 ∨ x = 65 ∨ x = 66 ∨ x = 113) → wp_X2_isRegister P x := fun {P} hp hx => ⟨fun e => by rw [e] at hx; exact absurd hx (by decide), fun _ => ⟨fun e => by rw [e] at hx; exact absurd hx (by decide), fun _ => ⟨fun e => by rw [e] at hx; exact absurd hx (by decide), fun _ => hp⟩⟩⟩
  have pre : ∀ {P : Int32 → Prop}, (isB 1 ∧ P 1) → (x = 68 ∨ x = 65 ∨ x = 66 ∨ x = 113) → wp_X2_isPredicate P x := fun {P} hp hx => ⟨fun _ => hp, fun n1 => ⟨fun _ => hp, fun n2 => ⟨fun _ => hp, fun n3 => ⟨fun _ => hp, fun n4 => by
    rcases hx with e | e | e | e
    · exact absurd e n1
    · exact absurd e n2
    · exact absurd e n3
    · exact absurd e n4⟩⟩⟩⟩
  have hb : (x = 100 ∨ x = 97 ∨ x = 98) ∨ (x = 68 ∨ x = 65 ∨ x = 66 ∨ x = 113) := by
    rcases hx with e | e | e | e | e | e | e
    · exact Or.inl (Or.inl e)
    · exact Or.inr (Or.inl e)
    · exact Or.inl (Or.inr (Or.inl e))
    · exact Or.inr (Or.inr (Or.inl e))
    · exact Or.inl (Or.inr (Or.inr e))
    · exact Or.inr (Or.inr (Or.inr (Or.inl e)))
    · exact Or.inr (Or.inr (Or.inr (Or.inr e)))
  rcases hb with hb | hb
  · exact reg ⟨Or.inr rfl, fun z => absurd z (by decide), fun _ => p15⟩ hb
  · exact nreg ⟨Or.inl rfl, fun _ => pre ⟨Or.inr rfl, fun z => absurd z (by decide), fun _ => p3⟩ hb, fun z => absurd rfl z⟩ hb
theorem xc_amount {i : Nat} {v : Int32} (hv : v = (-1) ∨ ∃ m, m ≤ 1000000 ∧ v = nI m) (h : XC l σ) : XC l (yA σ 3 i v) := by
  refine ⟨h.1, h.2.1, h.2.2.1, h.2.2.2.1, h.2.2.2.2.1, fun j => ?_⟩
  rw [xA_yA, if_pos rfl]
  by_cases e : j = i
  · rw [e, pk_us]; exact hv
  · rw [pk_un e]; exact h.2.2.2.2.2 j
theorem sx_takePart {post : Int64 → XS → Prop} {x : Int32} (hl : l < 64) (hB : B ≤ 999900) (h : XP B l σ) (k : ∀ r τ, XP (B + 3) l τ → post r τ) : wp_X3_takePart post x σ := by
  have k12 : wB_X3_takePart_12 post σ := by
    obtain ⟨a, ha, e5⟩ := h.2
    refine ⟨by rw [h.1.2.2.1]; exact vp_in_nI hl (by decide), ?_⟩
    exact sx_passAmount (by omega) (show XP B l (yA σ 3 (xI σ 1).toNatClampNeg (xI σ 5)) from ⟨xc_amount (Or.inr ⟨a, by omega, e5⟩) h.1, h.2⟩) (fun r τ _ g => ⟨fun _ => k _ τ (g.mono (by omega)), fun _ => k _ τ (g.mono (by omega))⟩)
  have k119 : ∀ v, wB_X3_takePart_119 post v σ := fun v => ⟨fun _ => k _ σ (h.mono (by omega)), fun _ => sx_advance h (fun τ g => k _ τ (g.mono (by omega)))⟩
  refine ⟨fun _ => k12, fun n1 => ⟨fun _ => k12, fun n2 => ?_⟩⟩
  refine sx_shiftOf n1 n2 ⟨fun _ => sx_kind (by omega) h (fun r => ⟨fun _ => k119 _, fun _ => k119 _⟩), fun z => absurd rfl z⟩ (fun hx r => ⟨fun _ => sx_kind (by omega) h (fun r => ⟨fun _ => k119 _, fun _ => k119 _⟩), fun _ => ?_⟩)
  have k71 : ∀ t0, wB_X3_takePart_71 post x t0 σ := fun t0 => sx_mostOf hx (fun m hm => sx_numbered hm (by omega) h (fun r => ⟨fun _ => k119 _, fun _ => sf_shiftOf (fun q => k119 _)⟩))
  exact sf_isRegister (fun r _ => ⟨fun _ => k71 _, fun _ => k71 _⟩)
theorem px_len : ∀ e, e < 53 → lenX.getD (pxI e) 0 ≤ 20 := by decide +kernel
theorem sx_named {post : Option Nat → Prop} {w : Int64} (hn : post none) (hs : ∀ e, e < 53 → post (some e)) : wp_X2_named post w := by
  have main : ∀ (d j : Nat), j + d = 53 → wL_X2_named_2 post (d + 1) w (nI j) := by
    intro d
    induction d with
    | zero => intro j hj; exact ⟨fun _ => hn, fun z => absurd (show (53 : Int32) ≤ nI j by rw [show j = 53 by omega]; decide) z⟩
    | succ d ih =>
      intro j hj
      have e : (nI j).toNatClampNeg = j := nI_clamp (by omega)
      refine ⟨fun _ => hn, fun _ => ⟨vp_in_nI (by omega) (by decide), by rw [e]; omega, fun _ => ⟨vp_in_nI (by omega) (by decide), by rw [e]; exact hs j (by omega)⟩, fun _ => fun x hx => ?_⟩⟩
      rw [hx, nI_1]
      exact ih (j + 1) (by omega)
  exact ⟨54, main 53 0 rfl⟩
theorem xc_op {i e : Nat} (he : e < 53) (h : XC l σ) : XC l (yQ σ 0 i (some e)) := by
  refine ⟨⟨h.1.1, h.1.2.1, fun i' e' he' => h.1.2.2 i' e' he'⟩, h.2.1, h.2.2.1, h.2.2.2.1, fun j e' he' => ?_, h.2.2.2.2.2⟩
  rw [xQ_yQ, if_pos rfl] at he'
  unfold va_up at he'
  by_cases q : j = i
  · rw [if_pos q] at he'; cases he'; exact he
  · rw [if_neg q] at he'; exact h.2.2.2.2.1 j e' he'
theorem sx_takeWord {x : Int32} (hl : l ≤ 64) (hB : B ≤ 999000) (h : XP B l σ) (k : ∀ r l' τ, isB r → l' ≤ 64 → XP (B + 70) l' τ → post r τ) : wp_X3_takeWord post x σ := by
  have kno : wB_X3_takeWord_25 post x none σ := ⟨fun _ => sx_refuseNoWord (by omega) h (fun τ g => ⟨Or.inl rfl, k 0 l τ (Or.inl rfl) hl (g.mono (by omega))⟩), fun e he => by cases he⟩
  have kso : ∀ e, e < 53 → wB_X3_takeWord_25 post x (some e) σ := by
    intro e he
    refine ⟨fun z => (by cases z), fun e' he' => ?_⟩
    cases he'
    refine ⟨fun q => ?_, fun _ => sx_refuse (by omega) h (fun τ g => ⟨Or.inl rfl, k 0 l τ (Or.inl rfl) hl (g.mono (by omega))⟩)⟩
    have hlt : l < 64 := by
      rw [h.1.2.2.1] at q
      exact (nI_ltI (a := l) (b := 64) (by omega) (by decide)).mp q
    refine sx_advance h (fun τ g => ?_)
    have i1 : vp_in (xI τ 1) 64 := by rw [g.1.2.2.1]; exact vp_in_nI hlt (by decide)
    have hpx := px_lt he
    have hlen := px_len e he
    have main : ∀ (d j b : Nat) (v : Int64) (τ : XS), j + d = lenX.getD (pxI e) 0 → b + 3 * d ≤ B + 70 → XP b l τ → wL_X3_takeWord_91 post (d + 1) (some e) v (nI j) τ := by
      intro d
      induction d with
      | zero =>
        intro j b v τ hj hb g
        refine ⟨fun z => (by cases z), fun e' he' => ?_⟩
        cases he'
        refine ⟨he, hpx, x_len hpx ⟨fun _ => ⟨by rw [g.1.2.2.1]; exact vp_in_nI hlt (by decide), ?_⟩, fun z => absurd (nI_le (by omega) (by omega)) z⟩⟩
        exact k 1 (l + 1) _ (Or.inr rfl) (by omega) ⟨⟨g.1.1, g.1.2.1, by show xI τ 1 + 1 = _; rw [g.1.2.2.1, nI_1], g.1.2.2.2⟩, (g.mono (show b ≤ B + 70 by omega)).2⟩
      | succ d ih =>
        intro j b v τ hj hb g
        refine ⟨fun z => (by cases z), fun e' he' => ?_⟩
        cases he'
        refine ⟨he, hpx, x_len hpx ⟨fun z => absurd z (nI_ge (by omega) (by omega)), fun _ => ⟨he, hpx, vp_in_nI (by omega) (by omega), fun r _ => ?_⟩⟩⟩
        refine sx_takePart hlt (by omega) g (fun r τ g => ⟨fun _ => sx_refuse (by omega) g (fun τ g => ⟨Or.inl rfl, k 0 l τ (Or.inl rfl) hl (g.mono (by omega))⟩), fun _ => fun u _ w hw => ?_⟩)
        rw [hw, nI_1]
        exact ih (j + 1) (b + 3) u τ (by omega) (by omega) g
    refine ⟨he, i1, i1, he, fun v _ => ⟨_, main (lenX.getD (pxI e) 0) 0 (B + 1) v _ (by omega) (by omega) ⟨xc_amount (Or.inl rfl) (xc_op he g.1), g.2⟩⟩⟩
  exact sx_kind (by omega) h (fun r => ⟨fun _ => sx_value (by omega) h (fun v => sx_named ⟨fun _ => kno, fun e z => by cases z⟩ (fun e he => ⟨fun z => (by cases z), fun e' z => by cases z; exact kso e he⟩)), fun _ => kno⟩)
theorem sx_takeStatement (hl : l ≤ 64) (hB : B ≤ 998000) (h : XP B l σ) (k : ∀ r l' τ, isB r → l' ≤ 64 → XP (B + 800) l' τ → post r τ) : wp_X3_takeStatement post σ := by
  have k142 : ∀ v τ, XP (B + 703) l τ → wB_X3_takeStatement_142 post v τ := fun v τ g => ⟨fun _ => sx_refuse (by omega) g (fun τ g => ⟨Or.inl rfl, k 0 l τ (Or.inl rfl) hl (g.mono (by omega))⟩), fun _ => sx_takeWord hl (by omega) g (fun r l' τ hr hl' g => ⟨fun _ => ⟨Or.inl rfl, k 0 l' τ (Or.inl rfl) hl' (g.mono (by omega))⟩, fun _ => sx_takeSign (by omega) g (fun r τ hr g => ⟨fun _ => ⟨Or.inl rfl, k 0 l' τ (Or.inl rfl) hl' (g.mono (by omega))⟩, fun _ => ⟨Or.inr rfl, k 1 l' τ (Or.inr rfl) hl' (g.mono (by omega))⟩⟩)⟩)⟩
  have k103 : ∀ τ, XP (B + 700) l τ → wB_X3_takeStatement_103 post τ := fun τ g => sx_kind (by omega) g (fun r => ⟨fun _ => sx_takeSign (by omega) g (fun r τ hr g => ⟨hr, k r l τ hr hl (g.mono (by omega))⟩), fun _ => sx_kind (by omega) g (fun r => ⟨fun _ => sx_takeGuard (by omega) g (fun r τ g => k142 r τ g), fun _ => k142 0 τ (g.mono (by omega))⟩)⟩)
  have main : ∀ (d j b : Nat) (τ : XS), j + d = 350 → b + 2 * d ≤ B + 700 → XP b l τ → wL_X3_takeStatement_30 post (d + 1) (nI j) τ := by
    intro d
    induction d with
    | zero => intro j b τ hj hb g; exact ⟨fun _ => k103 τ (g.mono (by omega)), fun z => absurd (show (350 : Int32) ≤ nI j by rw [show j = 350 by omega]; decide) z⟩
    | succ d ih =>
      intro j b τ hj hb g
      have k' := k103 τ (g.mono (by omega))
      refine ⟨fun _ => k', fun _ => sx_kind (by omega) g (fun r => ⟨fun _ => sx_follower (by omega) g (fun r => ⟨fun _ => sx_value (by omega) g (fun v => sx_place (by omega) g (fun p => sx_tellName g (fun τ g => sx_advance g (fun τ g => sx_advance g (fun τ g => fun u hu => ?_))))), fun _ => k'⟩), fun _ => k'⟩)⟩
      rw [hu, nI_1]
      exact ih (j + 1) (b + 2) τ (by omega) (by omega) g
  have k28 : wB_X3_takeStatement_28 post σ := ⟨351, main 350 0 B σ rfl (by omega) h⟩
  exact sx_kind (by omega) h (fun r => ⟨fun _ => sx_follower (by omega) h (fun r => ⟨fun _ => sx_takeConstant (by omega) h (fun r τ hr g => ⟨hr, k r l τ hr hl (g.mono (by omega))⟩), fun _ => k28⟩), fun _ => k28⟩)
/-! TOKENS -/
theorem sx_isDigit {post : Int32 → Prop} {x : Int32} (h : ∀ r, post r) : wp_X6_isDigit post x := ⟨fun _ => ⟨Or.inl rfl, h _⟩, fun _ => ⟨fun _ => ⟨Or.inl rfl, h _⟩, fun _ => ⟨Or.inr rfl, h _⟩⟩⟩
theorem sx_isSmall {post : Int32 → Prop} {x : Int32} (h : ∀ r, post r) : wp_X6_isSmall post x := ⟨fun _ => ⟨Or.inl rfl, h _⟩, fun _ => ⟨fun _ => ⟨Or.inl rfl, h _⟩, fun _ => ⟨Or.inr rfl, h _⟩⟩⟩
def XT (t : Nat) (σ : XS) : Prop := XC 0 σ ∧ xI σ 0 = nI t
theorem sx_put {post : XS → Prop} {x y : Int32} {v : Int64} (h : XT t σ) (k : ∀ τ, XT t τ → post τ) : wp_X6_put post x y v σ := by
  refine ⟨fun q => ?_, fun _ => k σ h⟩
  obtain ⟨n, hn, e⟩ := h.1.2.1
  have hle : n ≤ 700 := by
    rw [e] at q
    exact (nI_leI (a := n) (b := 700) (by omega) (by decide)).mp q
  have hv : vp_in (xI σ 4) 701 := by rw [e]; exact vp_in_nI (by omega) (by decide)
  exact ⟨hv, hv, hv, k _ ⟨⟨h.1.1, ⟨n + 1, by omega, by show xI σ 4 + 1 = _; rw [e, nI_1]⟩, h.1.2.2⟩, h.2⟩⟩
theorem sx_takeName {b : Nat} (ht : t ≤ 700) (hb : b ≤ t) (h : XT t σ) (k : ∀ c τ, c ≤ t → XT t τ → post (nI c) τ) : wp_X6_takeName post (nI b) σ := by
  have main : ∀ (d j : Nat) (v : Int64), j + d = t → wL_X6_takeName_5 post (d + 1) (nI b) v (nI j) σ := by
    intro d
    induction d with
    | zero =>
      intro j v hj
      have k72 : wB_X6_takeName_72 post (nI b) v (nI j) σ := ⟨fun _ => sx_put h (fun τ g => k j τ (by omega) g), fun _ => sx_put h (fun τ g => k j τ (by omega) g)⟩
      exact ⟨fun _ => k72, fun z => absurd (by rw [h.2]; exact nI_le (by omega) (by omega)) z⟩
    | succ d ih =>
      intro j v hj
      have ij : vp_in (nI j) 700 := vp_in_nI (by omega) (by decide)
      have k72 : wB_X6_takeName_72 post (nI b) v (nI j) σ := ⟨fun _ => sx_put h (fun τ g => k j τ (by omega) g), fun _ => sx_put h (fun τ g => k j τ (by omega) g)⟩
      have k49 : wB_X6_takeName_49 post (wL_X6_takeName_5 post (d + 1)) (nI b) v (nI j) σ := ⟨ij, fun u _ w hw => by rw [hw, nI_1]; exact ih (j + 1) u (by omega)⟩
      exact ⟨fun _ => k72, fun _ => ⟨ij, sx_isSmall (fun r => ⟨fun _ => ⟨ij, sx_isDigit (fun r => ⟨fun _ => k72, fun _ => k49⟩)⟩, fun _ => k49⟩)⟩⟩
  exact ⟨t - b + 1, main (t - b) b 0 (by omega)⟩
theorem sx_takeNumber {b : Nat} (ht : t ≤ 700) (hb : b ≤ t) (h : XT t σ) (k : ∀ c τ, c ≤ t → XT t τ → post (nI c) τ) : wp_X6_takeNumber post (nI b) σ := by
  have main : ∀ (d j : Nat) (v : Int64), j + d = t → wL_X6_takeNumber_5 post (d + 1) (nI b) v (nI j) σ := by
    intro d
    induction d with
    | zero =>
      intro j v hj
      have k91 : ∀ q, wB_X6_takeNumber_91 post (nI b) v (nI j) q σ := fun q => ⟨fun _ => sx_put h (fun τ g => k j τ (by omega) g), fun _ => sx_put h (fun τ g => k j τ (by omega) g)⟩
      exact ⟨fun _ => ⟨fun _ => k91 _, fun _ => ⟨fun _ => k91 _, fun _ => k91 _⟩⟩, fun z => absurd (by rw [h.2]; exact nI_le (by omega) (by omega)) z⟩
    | succ d ih =>
      intro j v hj
      have ij : vp_in (nI j) 700 := vp_in_nI (by omega) (by decide)
      have k91 : ∀ q, wB_X6_takeNumber_91 post (nI b) v (nI j) q σ := fun q => ⟨fun _ => sx_put h (fun τ g => k j τ (by omega) g), fun _ => sx_put h (fun τ g => k j τ (by omega) g)⟩
      have k69 : wB_X6_takeNumber_69 post (nI b) v (nI j) σ := ⟨fun _ => k91 _, fun _ => ⟨fun _ => k91 _, fun _ => k91 _⟩⟩
      have k63 : ∀ u, wB_X6_takeNumber_63 post (wL_X6_takeNumber_5 post (d + 1)) (nI b) u (nI j) σ := fun u w hw => by rw [hw, nI_1]; exact ih (j + 1) u (by omega)
      exact ⟨fun _ => k69, fun _ => ⟨ij, sx_isDigit (fun r => ⟨fun _ => k69, fun _ => ⟨fun _ => k63 _, fun _ => ⟨ij, fun u _ => k63 u⟩⟩⟩)⟩⟩
  exact ⟨t - b + 1, main (t - b) b 0 (by omega)⟩
theorem sx_scan {post : XS → Prop} (ht : t ≤ 700) (h : XT t (yI σ 4 0)) (k : ∀ τ, XP 0 0 τ → post τ) : wp_X6_scan post σ := by
  have k104 : ∀ τ, XT t τ → wB_X6_scan_104 post τ := fun τ g => sx_put g (fun τ g => k _ ⟨g.1, 0, by omega, rfl⟩)
  have main : ∀ (d j b : Nat) (τ : XS), j + d = 700 → b ≤ t → XT t τ → wL_X6_scan_9 post (d + 1) (nI b) (nI j) τ := by
    intro d
    induction d with
    | zero => intro j b τ hj hb g; exact ⟨fun _ => k104 τ g, fun z => absurd (show (700 : Int32) ≤ nI j by rw [show j = 700 by omega]; decide) z⟩
    | succ d ih =>
      intro j b τ hj hb g
      refine ⟨fun _ => k104 τ g, fun _ => ⟨fun _ => k104 τ g, fun z => ?_⟩⟩
      rw [g.2] at z
      have hlt : b < t := nI_nle' (by omega) z
      have k98 : ∀ c τ, c ≤ t → XT t τ → wB_X6_scan_98 post (wL_X6_scan_9 post (d + 1)) (nI c) (nI j) τ := fun c τ hc g w hw => by rw [hw, nI_1]; exact ih (j + 1) c τ (by omega) hc g
      have k95 : ∀ τ, XT t τ → wB_X6_scan_95 post (wL_X6_scan_9 post (d + 1)) (nI b) (nI j) τ := fun τ g w hw => by rw [hw, nI_1]; exact k98 (b + 1) τ (by omega) g
      have k90 : ∀ v, wB_X6_scan_90 post (wL_X6_scan_9 post (d + 1)) (nI b) (nI j) v τ := fun v => sx_put g (fun τ g => k95 τ g)
      exact ⟨vp_in_nI (by omega) (by decide), fun c _ => sx_isSmall (fun r => ⟨fun _ => sx_isDigit (fun r => ⟨fun _ => ⟨fun _ => k95 τ g, fun _ => ⟨by decide, sf_indexOf (by decide) (fun r => ⟨fun _ => k90 _, fun _ => k90 _⟩)⟩⟩, fun _ => sx_takeNumber ht hb g (fun c τ hc g => k98 c τ hc g)⟩), fun _ => sx_takeName ht hb g (fun c τ hc g => k98 c τ hc g)⟩)⟩
  exact ⟨701, main 700 0 0 _ rfl (by omega) h⟩
/-- what stands between calls -/
def XG (t : Nat) (σ : XS) : Prop := XI σ ∧ xI σ 0 = nI t ∧ (∀ i e, xQ σ 0 i = some e → e < 53) ∧ ∀ i, xA σ 3 i = (-1) ∨ ∃ m, m ≤ 1000000 ∧ xA σ 3 i = nI m
theorem sx_parse (ht : t ≤ 700) (h : XG t σ) (k : ∀ r l τ, isB r → l ≤ 64 → XP 1000002 l τ → post r τ) : wp_X3_parse post σ := by
  refine sx_scan ht (show XT t (yI (yI (yI (yI (yI σ 1 0) 6 0) 2 0) 3 0) 4 0) from ⟨⟨h.1, ⟨0, by omega, rfl⟩, rfl, ⟨0, by omega, rfl⟩, h.2.2.1, h.2.2.2⟩, h.2.1⟩) (fun τ g => ?_)
  · have k74 : ∀ l τ, l ≤ 64 → XP 1000002 l τ → wB_X3_parse_74 post τ := fun l τ hl g => ⟨fun _ => ⟨Or.inr rfl, k 1 l τ (Or.inr rfl) hl g⟩, fun _ => ⟨Or.inl rfl, k 0 l τ (Or.inl rfl) hl g⟩⟩
    have k66 : ∀ b l v τ, b ≤ 1000002 → l ≤ 64 → XP b l τ → wB_X3_parse_66 post v τ := fun b l v τ hb hl g => ⟨fun _ => k74 l τ hl (g.mono hb), fun _ => sx_fillAmounts hl hb g (fun τ g => k74 l τ hl g)⟩
    have main : ∀ (d j l : Nat) (v : Int32) (τ : XS), j + d = 700 → l ≤ 64 → XP (800 * j) l τ → wL_X3_parse_34 post (d + 1) v (nI j) τ := by
      intro d
      induction d with
      | zero => intro j l v τ hj hl g; exact ⟨fun _ => k66 _ l v τ (by omega) hl g, fun z => absurd (show (700 : Int32) ≤ nI j by rw [show j = 700 by omega]; decide) z⟩
      | succ d ih =>
        intro j l v τ hj hl g
        have k' := k66 _ l v τ (by omega) hl g
        refine ⟨fun _ => k', fun _ => ⟨fun _ => k', fun _ => sx_kind (by omega) g (fun r => ⟨fun _ => k', fun _ => sx_takeStatement hl (by omega) g (fun r l' τ _ hl' g => fun w hw => ?_)⟩)⟩⟩
        rw [hw, nI_1]
        exact ih (j + 1) l' r τ (by omega) hl' (g.mono (by omega))
    exact ⟨701, main 700 0 0 1 τ rfl (by omega) g⟩
def XB (j : Nat) (σ : XS) : Prop := xI σ 8 = nI j ∧ (∃ n, n ≤ 350 ∧ xI σ 7 = nI n) ∧ (∀ i e, xQ σ 1 i = some e → e < 53) ∧ xI σ 0 = 0 ∧ (∃ c, c ≤ 350 ∧ xI σ 6 = nI c) ∧ (∀ i e, xQ σ 0 i = some e → e < 53) ∧ ∀ i, xA σ 3 i = (-1) ∨ ∃ m, m ≤ 1000000 ∧ xA σ 3 i = nI m
theorem xq_put {w : Int64} {j : Nat} {o : Option Nat} {a b v : Int32} (ho : ∀ e, o = some e → e < 53) (h : ∀ i e, xQ σ 1 i = some e → e < 53) : ∀ i e, xQ (yI (yA (yA (yQ (yL σ 6 j w) 1 j o) 4 j a) 5 j b) 8 v) 1 i = some e → e < 53 := by
  intro i e he
  have e1 : xQ (yI (yA (yA (yQ (yL σ 6 j w) 1 j o) 4 j a) 5 j b) 8 v) 1 i = va_up (xQ σ 1) j o i := by
    rw [xQ_yI, xQ_yA, xQ_yA, xQ_yQ, if_pos rfl, xQ_yL]
  rw [e1] at he
  unfold va_up at he
  by_cases hi : i = j
  · rw [if_pos hi] at he; exact ho e he
  · rw [if_neg hi] at he; exact h i e he
theorem sx_become {post : XS → Prop} (hl : l ≤ 64) (h : XB 0 (yI σ 8 0)) (k : ∀ j τ, j ≤ 64 → XB j τ → post τ) : wp_X0_become post (nI l) σ := by
  have main : ∀ (d j : Nat) (τ : XS), j + d = l → XB j τ → wL_X0_become_7 post (d + 1) (nI l) (nI j) τ := by
    intro d
    induction d with
    | zero => intro j τ hj g; exact ⟨fun _ => k j τ (by omega) g, fun z => absurd (nI_le (by omega) (by omega)) z⟩
    | succ d ih =>
      intro j τ hj g
      refine ⟨fun _ => k j τ (by omega) g, fun _ => ⟨fun _ => k j τ (by omega) g, fun _ => ⟨vp_in_nI (by omega) (by decide), ?_⟩⟩⟩
      refine sf_put g.1 (Nat.le_refl j) (by omega) (by omega) (fun o a b ho u hu => ?_)
      rw [hu, nI_1]
      exact ih (j + 1) _ (by omega) ⟨by show nI (max j (j + 1)) = _; rw [Nat.max_eq_right (by omega)], g.2.1, xq_put ho g.2.2.1, g.2.2.2.1, g.2.2.2.2.1, g.2.2.2.2.2.1, g.2.2.2.2.2.2⟩
  exact ⟨l + 1, main l 0 _ (by omega) h⟩
theorem sx_compile {postX : XS → Prop} (ht : t ≤ 700) (h : XG t σ) (k : ∀ r τ, XG 0 τ → post r τ) (kx : ∀ τ, XG 0 τ → postX τ) : wp_X8_compile post postX σ := by
  refine sx_parse ht h (fun r l τ _ hl g => ⟨fun _ => kx _ ⟨g.1.1, rfl, g.1.2.2.2.2.1, g.1.2.2.2.2.2⟩, fun _ => ?_⟩)
  rw [g.1.2.2.1]
  refine sx_become hl ⟨rfl, g.1.1.2.1, g.1.1.2.2, rfl, g.1.2.2.2.1, g.1.2.2.2.2.1, g.1.2.2.2.2.2⟩ (fun j τ hj g => ?_)
  obtain ⟨c, hc, e⟩ := g.2.2.2.2.1
  have h1 : ¬ xI τ 6 < 0 := by rw [e]; exact nI_pos (by omega)
  have h2 : (0 : Int32).toNatClampNeg + (xI τ 6).toNatClampNeg ≤ 350 := by
    rw [e, nI_clamp (by omega)]
    have : (0 : Int32).toNatClampNeg = 0 := rfl
    omega
  have h0 : ¬ (0 : Int32) < 0 := by decide
  exact ⟨h0, h0, h1, h2, h2, h0, h0, h1, h2, h2, k _ _ ⟨⟨⟨j, hj, g.1⟩, ⟨c, hc, e⟩, g.2.2.1⟩, g.2.2.2.1, g.2.2.2.2.2.1, g.2.2.2.2.2.2⟩⟩
theorem sx_set' {k : Int32} {w : Int64} (h : XG t σ) (h1 : ∀ b τ, isB b → XG t τ → post b τ) : wp_X8_set post k w σ := by
  obtain ⟨c, hc, e⟩ := id h.1.1
  have h0 : post 0 σ := h1 0 σ (Or.inl rfl) h
  by_cases q1 : k < 0
  · exact ⟨fun _ => h0, fun z => absurd q1 z⟩
  obtain ⟨j, hj, rfl⟩ := nI_of q1
  by_cases q2 : c < j
  · exact ⟨fun z => absurd z q1, fun _ => ⟨fun _ => h0, fun z => absurd (by rw [e]; exact nI_lt q2 hj) z⟩⟩
  by_cases q3 : j < 64
  · refine ⟨fun z => absurd z q1, fun _ => ⟨fun z => absurd z (by rw [e]; exact Int32.not_lt.mpr (nI_le (by omega) (by omega))), fun _ => ⟨fun _ => ?_, fun z => absurd (nI_lt (b := 64) q3 (by decide)) z⟩⟩⟩
    exact sf_put e (by omega) q3 hc (fun o a b ho => h1 1 _ (Or.inr rfl) ⟨⟨⟨max c (j + 1), by omega, rfl⟩, h.1.2.1, xq_put ho h.1.2.2⟩, h.2.1, h.2.2.1, h.2.2.2⟩)
  · exact ⟨fun z => absurd z q1, fun _ => ⟨fun _ => h0, fun _ => ⟨fun z => absurd z (Int32.not_lt.mpr (nI_le (a := 64) (by omega) hj)), fun _ => h0⟩⟩⟩
theorem xg_typed {n : Nat} {w : Int64} (h : XG t σ) : XG (t + n) (xTyped σ t n w) := ⟨h.1, rfl, h.2.2.1, h.2.2.2⟩
end XK
