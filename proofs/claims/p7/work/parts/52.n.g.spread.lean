/-! what WAYS come to: the reference -/
def Sp (σ : XS) (c : Nat) (v y : Int32) : Nat → Prop := Cl (fun b => b < c ∧ v = nI b ∧ ¬ v = y) (fun a b => nx σ c a b ∧ ¬ nI b = y)
theorem Sp_lt {σ : XS} {c : Nat} {v y : Int32} : ∀ b, Sp σ c v y b → b < c := Cl_ind (fun b h => h.1) (fun a b _ _ e => e.1.1)
section SM
variable {σ : XS} {τ : MS} {s t c : Nat}
theorem qi_w (hc : c ≤ 64) (h : QI (RG σ s t) s t c τ) : ∀ k, k < c → mL τ 10 k = xL σ 6 k ∧ ckX σ k := by
  obtain ⟨⟨-, hR⟩, e2⟩ := h
  obtain ⟨-, ⟨c', hc', -, e, hw⟩, -⟩ := hR
  have e : mI τ 11 = nI c' := e
  have : c' = c := (nI_eq (by omega) (by omega)).mp (e.symm.trans e2)
  subst this
  exact fun k hk => ⟨(hw k hk).1.symm, (hw k hk).2⟩
theorem qi_b (h : QI (RG σ s t) s t c τ) (i : Nat) : isB (mA τ 31 i) := (h.1.1.2.2.2.1 i).2
theorem come_upd {i : Nat} {v : Int32} : mA (wA τ 31 i v) 31 = upd (mA τ 31) i v := by rw [mA_wA, if_pos rfl]
theorem sp_edge {o : Option Nat} {K : Int32 → MS → Prop} {x3 y : Int32} (hc : c ≤ 64) (h : QI (RG σ s t) s t c τ) (ho : ∀ b, o = some b → b ≤ 64) (hsame : (∀ b, b < c → o = some b → ¬ nI b = y → mA τ 31 b = 1) → K x3 τ) (hnew : ∀ b, b < c → o = some b → ¬ nI b = y → mA τ 31 b = 0 → K 1 (wA τ 31 b 1)) : (oI o (-2) < 0 → K x3 τ) ∧ (¬ oI o (-2) < 0 → (wp_X9_isPlace (fun r_8 σ_9 => (r_8 = 0 → (K x3 σ_9)) ∧ (¬ r_8 = 0 → ((oI o (-2) = y → (K x3 σ_9)) ∧ (¬ oI o (-2) = y → (vp_in (oI o (-2)) 64 ∧ (((mA σ_9 31 (oI o (-2)).toNatClampNeg) = 0 → (vp_in (oI o (-2)) 64 ∧ (K 1 (wA σ_9 31 (oI o (-2)).toNatClampNeg 1)))) ∧ (¬ (mA σ_9 31 (oI o (-2)).toNatClampNeg) = 0 → (K x3 σ_9)))))))) (oI o (-2)) τ)) := by
  cases o with
  | none => exact ⟨fun _ => hsame (fun b _ z => by cases z), fun z => absurd (show (-2 : Int32) < 0 by decide) z⟩
  | some b =>
    have hb := ho b rfl
    refine ⟨fun z => absurd z (nI_pos (n := b) (by omega)), fun _ => ?_⟩
    show wp_X9_isPlace (fun r_8 σ_9 => (r_8 = 0 → (K x3 σ_9)) ∧ (¬ r_8 = 0 → ((nI b = y → (K x3 σ_9)) ∧ (¬ nI b = y → (vp_in (nI b) 64 ∧ (((mA σ_9 31 (nI b).toNatClampNeg) = 0 → (vp_in (nI b) 64 ∧ (K 1 (wA σ_9 31 (nI b).toNatClampNeg 1)))) ∧ (¬ (mA σ_9 31 (nI b).toNatClampNeg) = 0 → (K x3 σ_9)))))))) (nI b) τ
    rw [nI_clamp (by omega)]
    by_cases q : b < c
    · have iv : vp_in (nI b) 64 := vp_in_nI (by omega) (by decide)
      refine em_placeT hc h.2 q ⟨fun z => absurd z (by decide), fun _ => ⟨fun z => hsame (fun b' _ e n => ?_), fun n => ⟨iv, fun z => ⟨iv, hnew b q rfl n z⟩, fun z => hsame (fun b' _ e _ => ?_)⟩⟩⟩
      · cases e; exact absurd z n
      · cases e; exact (qi_b h b).resolve_left z
    · exact em_placeF hc h.2 (fun j hj z => q (by rw [(nI_eq (by omega) (by omega)).mp z]; exact hj)) ⟨fun _ => hsame (fun b' hb' e _ => by cases e; exact absurd hb' q), fun z => absurd rfl z⟩
theorem em_spread {post : MS → Prop} {v y : Int32} (hc : c ≤ 64) (h : QI (RG σ s t) s t c τ) (k : ∀ τ', QI (RG σ s t) s t c τ' → (∀ b, b < c → (mA τ' 31 b = 1 ↔ Sp σ c v y b)) → post τ') : wp_X9_spread post v y τ := by
  have n10 : ¬ (1 : Int32) = 0 := by decide
  have up1 : ∀ (τ : MS) (b b' : Nat), mA τ 31 b' = 1 → mA (wA τ 31 b 1) 31 b' = 1 := fun τ b b' z => by
    rw [come_upd]
    by_cases q : b' = b
    · rw [q, pk_us]
    · rw [pk_un q]; exact z
  have k43 : ∀ (d : Nat) (τ : MS) (x3 : Int32), QI (RG σ s t) s t c τ → (∀ b, b < c → mA τ 31 b = 1 → Sp σ c v y b) → (∀ b, b < c → v = nI b → ¬ v = y → mA τ 31 b = 1) → (x3 = 0 → ∀ a, a < c → mA τ 31 a = 1 → ∀ b, nx σ c a b → ¬ nI b = y → mA τ 31 b = 1) → (x3 = 0 ∨ zs (mA τ 31) 64 < d) → wL_X9_spread_43 post (d + 1) y x3 τ := by
    intro d
    have fin : ∀ (τ : MS), QI (RG σ s t) s t c τ → (∀ b, b < c → mA τ 31 b = 1 → Sp σ c v y b) → (∀ b, b < c → v = nI b → ¬ v = y → mA τ 31 b = 1) → (∀ a, a < c → mA τ 31 a = 1 → ∀ b, nx σ c a b → ¬ nI b = y → mA τ 31 b = 1) → post τ := fun τ g s1 s2 s3 => k τ g (fun b hb => ⟨s1 b hb, fun r => (Cl_ind (P := fun b => b < c ∧ mA τ 31 b = 1) (fun b q => ⟨q.1, s2 b q.1 q.2.1 q.2.2⟩) (fun a b _ q z => ⟨z.1.1, s3 a q.1 q.2 b z.1 z.2⟩) b r).2⟩)
    induction d with
    | zero => intro τ x3 g s1 s2 s3 h3; exact ⟨fun z => fin τ g s1 s2 (s3 z), fun q => h3.elim (fun e => absurd e q) (fun e => absurd e (by omega))⟩
    | succ d ih =>
      intro τ x3 g s1 s2 s3 h3
      refine ⟨fun z => fin τ g s1 s2 (s3 z), fun q => ?_⟩
      have hle : zs (mA τ 31) 64 ≤ d := h3.elim (fun e => absurd e q) (fun e => by omega)
      have k52 : ∀ (e j : Nat) (x3 : Int32) (τ : MS), j + e = c → QI (RG σ s t) s t c τ → (∀ b, b < c → mA τ 31 b = 1 → Sp σ c v y b) → (∀ b, b < c → v = nI b → ¬ v = y → mA τ 31 b = 1) → (x3 = 0 → ∀ a, a < j → mA τ 31 a = 1 → ∀ b, nx σ c a b → ¬ nI b = y → mA τ 31 b = 1) → zs (mA τ 31) 64 ≤ d → (x3 = 0 ∨ zs (mA τ 31) 64 < d) → wL_X9_spread_52 post (wL_X9_spread_43 post (d + 1)) (e + 1) y x3 (nI j) τ := by
        intro e
        induction e with
        | zero =>
          intro j x3 τ hj g s1 s2 s3 hd h3
          exact ⟨fun _ => ih τ x3 g s1 s2 (fun z a ha => s3 z a (by omega)) h3, fun q => absurd (by rw [g.2]; exact nI_le (by omega) (by omega)) q⟩
        | succ e ih2 =>
          intro j x3 τ hj g s1 s2 s3 hd h3
          have hjc : j < c := by omega
          refine ⟨fun z => absurd z (by rw [g.2]; exact nI_ge hjc (by omega)), fun _ => ⟨3, ?_⟩⟩
          have ij : vp_in (nI j) 64 := vp_in_nI (by omega) (by decide)
          have ej : (nI j).toNatClampNeg = j := nI_clamp (by omega)
          -- past both WAYS
          have k139 : ∀ (x3 : Int32) (τ : MS), QI (RG σ s t) s t c τ → (∀ b, b < c → mA τ 31 b = 1 → Sp σ c v y b) → (∀ b, b < c → v = nI b → ¬ v = y → mA τ 31 b = 1) → (x3 = 0 → ∀ a, a < j + 1 → mA τ 31 a = 1 → ∀ b, nx σ c a b → ¬ nI b = y → mA τ 31 b = 1) → zs (mA τ 31) 64 ≤ d → (x3 = 0 ∨ zs (mA τ 31) 64 < d) → wB_X9_spread_139 post (wL_X9_spread_43 post (d + 1)) (wL_X9_spread_52 post (wL_X9_spread_43 post (d + 1)) (e + 1)) y x3 (nI j) τ := fun x3 τ g s1 s2 s3 hd h3 u hu => by
            rw [hu, nI_1]
            exact ih2 (j + 1) x3 τ (by omega) g s1 s2 s3 hd h3
          have nocome : ∀ (x3 : Int32) (τ : MS), (x3 = 0 → ∀ a, a < j → mA τ 31 a = 1 → ∀ b, nx σ c a b → ¬ nI b = y → mA τ 31 b = 1) → mA τ 31 j = 0 → (x3 = 0 → ∀ a, a < j + 1 → mA τ 31 a = 1 → ∀ b, nx σ c a b → ¬ nI b = y → mA τ 31 b = 1) := fun x3 τ s3 z q a ha ca => by
            rcases Nat.lt_or_ge a j with y | y
            · exact s3 q a y ca
            · rw [show a = j by omega, z] at ca; cases ca
          -- behind the first WAY
          have k1 : ∀ (x3 : Int32) (τ : MS), QI (RG σ s t) s t c τ → (∀ b, b < c → mA τ 31 b = 1 → Sp σ c v y b) → (∀ b, b < c → v = nI b → ¬ v = y → mA τ 31 b = 1) → (x3 = 0 → (∀ a, a < j → mA τ 31 a = 1 → ∀ b, nx σ c a b → ¬ nI b = y → mA τ 31 b = 1) ∧ ∀ b, b < c → wy0 (xQ σ 1 j) (xL σ 6 j) j = some b → ¬ nI b = y → mA τ 31 b = 1) → zs (mA τ 31) 64 ≤ d → (x3 = 0 ∨ zs (mA τ 31) 64 < d) → wL_X9_spread_64 post (wL_X9_spread_43 post (d + 1)) (wL_X9_spread_52 post (wL_X9_spread_43 post (d + 1)) (e + 1)) 2 y x3 (nI j) 1 τ := by
            intro x3 τ g s1 s2 s3 hd h3
            have hw := qi_w hc g j hjc
            refine ⟨fun z => absurd z (by decide), fun _ => ⟨ij, ?_⟩⟩
            rw [ej]
            refine ⟨fun z => k139 x3 τ g s1 s2 (nocome x3 τ (fun q => (s3 q).1) z) hd h3, fun z => em_way1 (by omega) hw.1 hw.2.1 ?_⟩
            have cj : mA τ 31 j = 1 := (qi_b g j).resolve_left z
            have k2 : ∀ (x3 : Int32) (τ : MS), QI (RG σ s t) s t c τ → (∀ b, b < c → mA τ 31 b = 1 → Sp σ c v y b) → (∀ b, b < c → v = nI b → ¬ v = y → mA τ 31 b = 1) → (x3 = 0 → ∀ a, a < j + 1 → mA τ 31 a = 1 → ∀ b, nx σ c a b → ¬ nI b = y → mA τ 31 b = 1) → zs (mA τ 31) 64 ≤ d → (x3 = 0 ∨ zs (mA τ 31) 64 < d) → wB_X9_spread_133 post (wL_X9_spread_43 post (d + 1)) (wL_X9_spread_52 post (wL_X9_spread_43 post (d + 1)) (e + 1)) (wL_X9_spread_64 post (wL_X9_spread_43 post (d + 1)) (wL_X9_spread_52 post (wL_X9_spread_43 post (d + 1)) (e + 1)) 1) y x3 (nI j) 1 τ := fun x3 τ g s1 s2 s3 hd h3 u hu => by
              rw [hu]
              exact ⟨fun _ => k139 x3 τ g s1 s2 s3 hd h3, fun q => absurd (by decide) q⟩
            refine sp_edge (K := fun x3 τ => wB_X9_spread_133 post (wL_X9_spread_43 post (d + 1)) (wL_X9_spread_52 post (wL_X9_spread_43 post (d + 1)) (e + 1)) (wL_X9_spread_64 post (wL_X9_spread_43 post (d + 1)) (wL_X9_spread_52 post (wL_X9_spread_43 post (d + 1)) (e + 1)) 1) y x3 (nI j) 1 τ) hc g (fun b hb => by rw [wy1_eq hb]; omega) (fun hb => k2 x3 τ g s1 s2 (fun q a ha ca b hn ny => ?_) hd h3) (fun b hb eb nb zb => ?_)
            · rcases Nat.lt_or_ge a j with w | w
              · exact (s3 q).1 a w ca b hn ny
              · rw [show a = j by omega] at hn
                rcases hn.2 with w | w
                · exact (s3 q).2 b hn.1 w ny
                · exact hb b hn.1 w ny
            · have hz1 : zs (mA (wA τ 31 b 1) 31) 64 + 1 = zs (mA τ 31) 64 := by rw [come_upd]; exact zs_upd _ _ zb 64 (by omega)
              refine k2 1 _ (qi_come g (Or.inr rfl)) (fun b' hb' cb' => ?_) (fun b' hb' z1 z2 => up1 τ b b' (s2 b' hb' z1 z2)) (fun z => absurd z n10) (by omega) (Or.inr (by omega))
              rw [come_upd] at cb'
              by_cases w : b' = b
              · rw [w]; exact Cl_s (s1 j hjc cj) ⟨⟨hb, Or.inr eb⟩, nb⟩
              · rw [pk_un w] at cb'; exact s1 b' hb' cb'
          have hw := qi_w hc g j hjc
          refine ⟨fun z => absurd z (by decide), fun _ => ⟨ij, ?_⟩⟩
          rw [ej]
          refine ⟨fun z => k139 x3 τ g s1 s2 (nocome x3 τ s3 z) hd h3, fun z => em_way0 (by omega) hw.1 hw.2.1 ?_⟩
          have cj : mA τ 31 j = 1 := (qi_b g j).resolve_left z
          have k133 : ∀ (x3 : Int32) (τ : MS), QI (RG σ s t) s t c τ → (∀ b, b < c → mA τ 31 b = 1 → Sp σ c v y b) → (∀ b, b < c → v = nI b → ¬ v = y → mA τ 31 b = 1) → (x3 = 0 → (∀ a, a < j → mA τ 31 a = 1 → ∀ b, nx σ c a b → ¬ nI b = y → mA τ 31 b = 1) ∧ ∀ b, b < c → wy0 (xQ σ 1 j) (xL σ 6 j) j = some b → ¬ nI b = y → mA τ 31 b = 1) → zs (mA τ 31) 64 ≤ d → (x3 = 0 ∨ zs (mA τ 31) 64 < d) → wB_X9_spread_133 post (wL_X9_spread_43 post (d + 1)) (wL_X9_spread_52 post (wL_X9_spread_43 post (d + 1)) (e + 1)) (wL_X9_spread_64 post (wL_X9_spread_43 post (d + 1)) (wL_X9_spread_52 post (wL_X9_spread_43 post (d + 1)) (e + 1)) 2) y x3 (nI j) 0 τ := fun x3 τ g s1 s2 s3 hd h3 u hu => by
            rw [hu]
            exact k1 x3 τ g s1 s2 s3 hd h3
          refine sp_edge (K := fun x3 τ => wB_X9_spread_133 post (wL_X9_spread_43 post (d + 1)) (wL_X9_spread_52 post (wL_X9_spread_43 post (d + 1)) (e + 1)) (wL_X9_spread_64 post (wL_X9_spread_43 post (d + 1)) (wL_X9_spread_52 post (wL_X9_spread_43 post (d + 1)) (e + 1)) 2) y x3 (nI j) 0 τ) hc g (fun b hb => wy0_le hw.2.1 (by omega) hb) (fun hb => k133 x3 τ g s1 s2 (fun q => ⟨s3 q, hb⟩) hd h3) (fun b hb eb nb zb => ?_)
          have hz1 : zs (mA (wA τ 31 b 1) 31) 64 + 1 = zs (mA τ 31) 64 := by rw [come_upd]; exact zs_upd _ _ zb 64 (by omega)
          refine k133 1 _ (qi_come g (Or.inr rfl)) (fun b' hb' cb' => ?_) (fun b' hb' z1 z2 => up1 τ b b' (s2 b' hb' z1 z2)) (fun z => absurd z n10) (by omega) (Or.inr (by omega))
          rw [come_upd] at cb'
          by_cases w : b' = b
          · rw [w]; exact Cl_s (s1 j hjc cj) ⟨⟨hb, Or.inl eb⟩, nb⟩
          · rw [pk_un w] at cb'; exact s1 b' hb' cb'
      exact ⟨c + 1, k52 c 0 0 τ (by omega) g s1 s2 (fun _ a ha => absurd ha (Nat.not_lt_zero a)) hle (Or.inl rfl)⟩
  have k41 : ∀ τ, QI (RG σ s t) s t c τ → (∀ b, b < c → mA τ 31 b = 1 → Sp σ c v y b) → (∀ b, b < c → v = nI b → ¬ v = y → mA τ 31 b = 1) → wB_X9_spread_41 post y τ := fun τ g s1 s2 => ⟨66, k43 65 τ 1 g s1 s2 (fun z => absurd z n10) (Or.inr (by have := zs_le (mA τ 31) 64; omega))⟩
  have fin : ∀ τ, QI (RG σ s t) s t c τ → (∀ b, b < 64 → mA τ 31 b = 0) → wp_X9_isPlace (fun r_1 σ_2 => (r_1 = 0 → (wB_X9_spread_41 post y σ_2)) ∧ (¬ r_1 = 0 → ((v = y → (wB_X9_spread_41 post y σ_2)) ∧ (¬ v = y → (vp_in v 64 ∧ (wB_X9_spread_41 post y (wA σ_2 31 v.toNatClampNeg 1))))))) v τ := by
    intro τ g z0
    have hz : ∀ b, b < c → mA τ 31 b = 1 → Sp σ c v y b := fun b hb z => by rw [z0 b (by omega)] at z; cases z
    rcases Classical.em (∃ j, j < c ∧ v = nI j) with ⟨j, hj, q⟩ | q
    · rw [q] at hz k41 ⊢
      refine em_placeT hc g.2 hj ⟨fun z => absurd z (by decide), fun _ => ⟨fun z => k41 τ g hz (fun b _ _ n => absurd z n), fun n => ⟨vp_in_nI (by omega) (by decide), ?_⟩⟩⟩
      rw [nI_clamp (by omega)]
      refine k41 _ (qi_come g (Or.inr rfl)) (fun b hb cb => ?_) (fun b hb e _ => ?_)
      · rw [come_upd] at cb
        by_cases w : b = j
        · rw [w]; exact Cl_0 ⟨hj, rfl, n⟩
        · rw [pk_un w] at cb; exact hz b hb cb
      · rw [← (nI_eq (by omega) (by omega)).mp e, come_upd, pk_us]
    · have hn : ∀ j, j < c → ¬ v = nI j := fun j hj z => q ⟨j, hj, z⟩
      exact em_placeF hc g.2 hn ⟨fun _ => k41 τ g hz (fun b hb e _ => absurd e (hn b hb)), fun z => absurd rfl z⟩
  have main : ∀ (d j : Nat) (τ : MS), j + d = 64 → QI (RG σ s t) s t c τ → (∀ b, b < j → mA τ 31 b = 0) → wL_X9_spread_2 post (d + 1) v y (nI j) τ := by
    intro d
    induction d with
    | zero => intro j τ hj g z0; exact ⟨fun _ => fin τ g (fun b hb => z0 b (by omega)), fun q => absurd (show (64 : Int32) ≤ nI j by rw [show j = 64 by omega]; decide) q⟩
    | succ d ih =>
      intro j τ hj g z0
      refine ⟨fun z => absurd z (nI_ge (a := j) (b := 64) (by omega) (by decide)), fun _ => ⟨vp_in_nI (by omega) (by decide), fun u hu => ?_⟩⟩
      rw [hu, nI_1, nI_clamp (by omega)]
      refine ih (j + 1) _ (by omega) (qi_come g (Or.inl rfl)) (fun b hb => ?_)
      rw [come_upd]
      by_cases w : b = j
      · rw [w, pk_us]
      · rw [pk_un w]; exact z0 b (by omega)
  exact ⟨65, main 64 0 τ rfl h (fun b hb => absurd hb (Nat.not_lt_zero b))⟩
end SM
/-! reached -/
theorem XW_Sp {σ : XS} {c : Nat} {v : Int32} (hc : c ≤ 64) (hv : ¬ v = -1) (b : Nat) : XW σ c v 0 b ↔ Sp σ c v (-1) b := by
  constructor
  · exact Cl_ind (P := Sp σ c v (-1)) (fun b h => Cl_0 ⟨h.1, h.2, hv⟩) (fun a b ha h e => Cl_s h ⟨e.2, fun z => by
      have hb := e.2.1
      exact nI_ne1 (n := b) (by omega) z⟩) b
  · exact Cl_ind (P := XW σ c v 0) (fun b h => Cl_0 ⟨h.1, h.2.1⟩) (fun a b ha h e => Cl_s h ⟨bt_0 a, e.1⟩) b
section BR
variable {σ : XS} {β : BS} {τ : MS}
theorem be_reached {x : Int32} {P : Int32 → XS → Int32 → MS → Prop} (h : II σ β τ) (k : ∀ r τ', II σ β τ' → P r σ r τ') : wp_X8_reached (fun r1 u1 => wp_X9_reached (fun r2 u2 => P r1 u1 r2 u2) x τ) x σ := by
  obtain ⟨s, t, hs, ht, hX, hB, hG⟩ := id h
  obtain ⟨r1, ⟨c, hc, c1, c2, c3⟩, r3⟩ := id hG.2
  have hQ : QI (RG σ s t) s t c (wI τ 0 0) := ⟨hG, c2⟩
  have hck : ∀ k, k < c → ckX σ k := fun k hk => (c3 k hk).2
  have hk : ∀ τ', QI (RG σ s t) s t c τ' → II σ β τ' := fun τ' g => ⟨s, t, hs, ht, hX, hB, g.1⟩
  refine xe_walk hc c1 hck (fun r hr => xe_bitV hc c1 (fun q hq => ?_))
  rcases Classical.em (∃ j, j < c ∧ x = nI j) with ⟨j, hj, rfl⟩ | nq
  · have hb : bt (r &&& q) j = true ↔ XW σ c 0 0 j := by
      rw [bt_and, Bool.and_eq_true, hr j (by omega), hq j (by omega)]
      exact ⟨fun z => z.1, fun z => ⟨z, hj, rfl⟩⟩
    have hm : ∀ v : Int32, (∀ u : Int32, isB u → (u = 1 ↔ XW σ c 0 0 j) → u = v) → wp_X9_reached (fun r2 u2 => P v σ r2 u2) (nI j) τ := fun v hv => by
      refine em_placeT hc hQ.2 hj ⟨fun z => absurd z (by decide), fun _ => em_spread hc hQ (fun τ' g hcm => ?_)⟩
      rw [nI_clamp (by omega)]
      refine ⟨vp_in_nI (by omega) (by decide), qi_b g j, ?_⟩
      have e := hv (mA τ' 31 j) (qi_b g j) ((hcm j hj).trans (XW_Sp hc (by decide) j).symm)
      rw [e]
      exact k v τ' (hk τ' g)
    refine ⟨fun z => ⟨Or.inl rfl, hm 0 (fun u hu e => ?_)⟩, fun z => ⟨Or.inr rfl, hm 1 (fun u hu e => ?_)⟩⟩
    · have hn : ¬ XW σ c 0 0 j := fun w => by
        have := hb.mpr w
        rw [z, bt_0] at this; cases this
      exact hu.resolve_right (fun w => hn (e.mp w))
    · have hy : XW σ c 0 0 j := by
        refine hb.mp (Classical.byContradiction (fun w => z (bt_ext (fun i hi => ?_))))
        rw [bt_0]
        by_cases ij : i = j
        · rw [ij]; exact bfalse w
        · rw [bt_and]
          have : bt q i = false := bfalse (fun y => ij ((nI_eq (by omega) (by omega)).mp ((hq i hi).mp y).2).symm)
          rw [this, Bool.and_false]
      exact e.mpr hy
  · have hn : ∀ j, j < c → ¬ x = nI j := fun j hj z => nq ⟨j, hj, z⟩
    have hm : wp_X9_reached (fun r2 u2 => P 0 σ r2 u2) x τ := em_placeF hc hQ.2 hn ⟨fun _ => k 0 _ (hk _ hQ), fun z => absurd rfl z⟩
    refine ⟨fun _ => ⟨Or.inl rfl, hm⟩, fun z => absurd (bt_ext (fun i hi => ?_)) z⟩
    rw [bt_0, bt_and]
    have : bt q i = false := bfalse (fun y => hn i ((hq i hi).mp y).1 ((hq i hi).mp y).2)
    rw [this, Bool.and_false]
end BR
