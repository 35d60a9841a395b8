/-! the class's compile, with what is kept of each WORD -/
def ckX (σ : XS) (k : Nat) : Prop := isOf (xL σ 6 k) (xQ σ 1 k) ∧ rdOk (xQ σ 1 k) (xL σ 6 k) (xA σ 4 k) ∧ owOk (xQ σ 1 k) (xL σ 6 k) (xA σ 5 k)
theorem ck_put {σ : XS} {j k : Nat} {w : Int64} {o : Option Nat} {a b v : Int32} (ho : isOf w o) (ha : rdOk o w a) (hb : owOk o w b) (h : k ≠ j → ckX σ k) : ckX (yI (yA (yA (yQ (yL σ 6 j w) 1 j o) 4 j a) 5 j b) 8 v) k := by
  have e6 : xL (yI (yA (yA (yQ (yL σ 6 j w) 1 j o) 4 j a) 5 j b) 8 v) 6 = vp_updL (xL σ 6) j w := by rw [xL_yI, xL_yA, xL_yA, xL_yQ, xL_yL, if_pos rfl]
  have e1 : xQ (yI (yA (yA (yQ (yL σ 6 j w) 1 j o) 4 j a) 5 j b) 8 v) 1 = va_up (xQ σ 1) j o := by rw [xQ_yI, xQ_yA, xQ_yA, xQ_yQ, if_pos rfl, xQ_yL]
  have e4 : xA (yI (yA (yA (yQ (yL σ 6 j w) 1 j o) 4 j a) 5 j b) 8 v) 4 = upd (xA σ 4) j a := by rw [xA_yI, xA_yA, if_neg (by decide), xA_yA, if_pos rfl, xA_yQ, xA_yL]
  have e5 : xA (yI (yA (yA (yQ (yL σ 6 j w) 1 j o) 4 j a) 5 j b) 8 v) 5 = upd (xA σ 5) j b := by rw [xA_yI, xA_yA, if_pos rfl, xA_yA, if_neg (by decide), xA_yQ, xA_yL]
  unfold ckX
  rw [e6, e1, e4, e5]
  by_cases q : k = j
  · rw [q, pk_uLs, pk_us, pk_us]
    have eo : va_up (xQ σ 1) j o j = o := by unfold va_up; rw [if_pos rfl]
    rw [eo]
    exact ⟨ho, ha, hb⟩
  · have eo : va_up (xQ σ 1) j o k = xQ σ 1 k := by unfold va_up; rw [if_neg q]
    rw [pk_uLn q, pk_un q, pk_un q, eo]
    exact h q
def XKc (l : Nat) (F : Nat → Int64) (n : NS) (τ : XS) : Prop := XKn l F n τ ∧ ∀ k, k < l → ckX τ k
section XPJ
variable {L : List Tok} {σ0 σ : XS} {a l : Nat} {W : Nat → Int64} {A : Nat → Option Nat} {E : Nat → Nat} {n : NS} {post : Int32 → XS → Prop}
theorem xe_becomeC {post : XS → Prop} {F : Nat → Int64} (hl : l ≤ 64) (h : XB 0 (yI σ 8 0)) (hF : ∀ k, k < l → xL σ 3 k = F k) (hN : XNm n σ) (k : ∀ τ, XB l τ → (∀ k, k < l → xL τ 6 k = F k) → (∀ k, k < l → ckX τ k) → XNm n τ → post τ) : wp_X0_become post (nI l) σ := by
  have main : ∀ (d j : Nat) (τ : XS), j + d = l → XB j τ → (∀ k, k < l → xL τ 3 k = F k) → (∀ k, k < j → xL τ 6 k = F k) → (∀ k, k < j → ckX τ k) → XNm n τ → wL_X0_become_7 post (d + 1) (nI l) (nI j) τ := by
    intro d
    induction d with
    | zero =>
      intro j τ hj g hF hD hC hN
      have : j = l := by omega
      subst this
      exact ⟨fun _ => k τ g hD hC hN, fun z => absurd (nI_le (by omega) (by omega)) z⟩
    | succ d ih =>
      intro j τ hj g hF hD hC hN
      refine ⟨fun z => absurd z (nI_ge (by omega) (by omega)), fun _ => ⟨fun z => absurd z (nI_ge (a := j) (b := 64) (by omega) (by decide)), fun _ => ⟨vp_in_nI (by omega) (by decide), ?_⟩⟩⟩
      rw [nI_clamp (by omega), hF j (by omega)]
      refine xe_put g.1 (Nat.le_refl j) (by omega) (by omega) (fun o a b ho ha hb u hu => ?_)
      rw [hu, nI_1]
      refine ih (j + 1) _ (by omega) ⟨by show nI (max j (j + 1)) = _; rw [Nat.max_eq_right (by omega)], g.2.1, xq_put (isOf_lt ho) g.2.2.1, g.2.2.2.1, g.2.2.2.2.1, g.2.2.2.2.2.1, g.2.2.2.2.2.2⟩ (fun k hk => ?_) (fun k hk => ?_) (fun k hk => ck_put ho ha hb (fun q => hC k (by omega))) hN
      · exact hF k hk
      · rw [xL_yI, xL_yA, xL_yA, xL_yQ, xL_yL, if_pos rfl]
        unfold vp_updL
        by_cases q : k = j
        · rw [if_pos q, q]
        · rw [if_neg q]; exact hD k (by omega)
  exact ⟨l + 1, main l 0 _ (by omega) h hF (fun k hk => absurd hk (Nat.not_lt_zero k)) (fun k hk => absurd hk (Nat.not_lt_zero k)) hN⟩
theorem xe_compileC {t : Nat} {f : Nat → Int32} {postX : XS → Prop} (ht : t ≤ 700) (hX : XG t σ) (hf : ∀ i, i < t → xA σ 0 i = f i) (hc : ∀ i, i < t → ∃ m, m < 127 ∧ f i = nI m) (k0 : outS (toks f t) = none → ∀ τ, XG 0 τ → XKs σ τ → postX τ) (k1 : ∀ s τ, outS (toks f t) = some s → s.2.1 ≤ 64 → s.2.2.2.2.2.1 ≤ 350 → XG 0 τ → XKc s.2.1 (finW (tkK (toks f t)) (tkV (toks f t)) s) s.2.2.2.2.2 τ → post (nI s.2.1) τ) : wp_X8_compile post postX σ := by
  refine xe_parse ht hX hf hc (fun q τ F _ => ⟨fun _ => ?_, fun z => absurd rfl z⟩) (fun s τ q h _ => ⟨fun z => absurd z (by decide), fun _ => ?_⟩)
  · obtain ⟨f1, f2, f3, f4, f5, f6, f7, f8, f9, f10, f11⟩ := F
    refine k0 q _ ⟨⟨?_, ?_, ?_⟩, rfl, f11⟩ ⟨f2, f3, f5, f6, f7, f8, f9, f10⟩
    · show ∃ c, c ≤ 64 ∧ xI τ 8 = nI c; rw [f3]; exact hX.1.1
    · show ∃ c, c ≤ 350 ∧ xI τ 7 = nI c; rw [f2]; exact hX.1.2.1
    · show ∀ i e, xQ τ 1 i = some e → e < 53; rw [f10]; exact hX.1.2.2
  · obtain ⟨⟨f1, f2, f3, f4, f5, f6, f7, f8, f9, f10, f11⟩, ⟨hl, e1⟩, hW, hN⟩ := h
    rw [e1]
    refine xe_becomeC (F := finW (tkK (toks f t)) (tkV (toks f t)) s) (n := s.2.2.2.2.2) hl ⟨rfl, ?_, ?_, rfl, ⟨_, hN.1, hN.2.1⟩, f11.1, f11.2⟩ hW hN (fun τ g hD hC hN => ?_)
    · show ∃ c, c ≤ 350 ∧ xI τ 7 = nI c; rw [f2]; exact hX.1.2.1
    · show ∀ i e, xQ τ 1 i = some e → e < 53; rw [f10]; exact hX.1.2.2
    obtain ⟨hc, e6, hn⟩ := hN
    have h1 : ¬ xI τ 6 < 0 := by rw [e6]; exact nI_pos (by omega)
    have z0 : (0 : Int32).toNatClampNeg = 0 := rfl
    have ecl : (xI τ 6).toNatClampNeg = s.2.2.2.2.2.1 := by rw [e6, nI_clamp (by omega)]
    have h2 : (0 : Int32).toNatClampNeg + (xI τ 6).toNatClampNeg ≤ 350 := by rw [ecl]; omega
    have h0 : ¬ (0 : Int32) < 0 := by decide
    refine ⟨h0, h0, h1, h2, h2, h0, h0, h1, h2, h2, ?_⟩
    show post (xI τ 8) _
    rw [g.1]
    refine k1 s _ q hl hc ⟨⟨⟨_, hl, g.1⟩, ⟨_, hc, e6⟩, g.2.2.1⟩, g.2.2.2.1, g.2.2.2.2.2.1, g.2.2.2.2.2.2⟩ ⟨⟨g.1, hD, e6, fun i hi => ?_⟩, fun k hk => hC k hk⟩
    rw [ecl, z0]
    have e4 : xL (yLs (yLs (yI τ 7 (xI τ 6)) 4 (va_cpy (xL τ 1) (xL τ 4) 0 0 s.2.2.2.2.2.1)) 5 (va_cpy (xL τ 2) (xL τ 5) 0 0 s.2.2.2.2.2.1)) 4 = va_cpy (xL τ 1) (xL τ 4) 0 0 s.2.2.2.2.2.1 := by
      rw [xL_yLs, if_neg (by decide), xL_yLs, if_pos rfl]
    have e5 : xL (yLs (yLs (yI τ 7 (xI τ 6)) 4 (va_cpy (xL τ 1) (xL τ 4) 0 0 s.2.2.2.2.2.1)) 5 (va_cpy (xL τ 2) (xL τ 5) 0 0 s.2.2.2.2.2.1)) 5 = va_cpy (xL τ 2) (xL τ 5) 0 0 s.2.2.2.2.2.1 := by
      rw [xL_yLs, if_pos rfl]
    rw [e4, e5, pk_cpy_in (Nat.zero_le i) (by omega), pk_cpy_in (Nat.zero_le i) (by omega), Nat.zero_add, Nat.sub_zero]
    exact hn i hi
end XPJ
