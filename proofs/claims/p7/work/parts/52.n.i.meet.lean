/-! where WAYS meet -/
/-- PLACE a is an END or has one behind it -/
def isE (σ : XS) (c a : Nat) : Prop := (∀ b, b < c → ¬ wy0 (xQ σ 1 a) (xL σ 6 a) a = some b) ∨ ∃ b, wy1 (xQ σ 1 a) (xL σ 6 a) a = some b ∧ ¬ b < c
/-- from v some WAYS come to an END without y -/
def EN (σ : XS) (c : Nat) (v y : Int32) : Prop := ∃ b, Sp σ c v y b ∧ isE σ c b
/-- without PLACE m no WAYS from j come to an END -/
def Th (σ : XS) (c j m : Nat) : Prop := m < c ∧ ¬ m = j ∧ ¬ EN σ c (nI j) (nI m)
/-- of such PLACES m comes first -/
def Fm (σ : XS) (c j m : Nat) : Prop := Th σ c j m ∧ ∀ q, Th σ c j q → ¬ q = m → Sp σ c (nI j) (nI q) m
section MG
variable {σ : XS} {c j : Nat}
theorem nI_ne {a b : Nat} (ha : a < 2 ^ 31) (hb : b < 2 ^ 31) (h : ¬ a = b) : ¬ nI a = nI b := fun z => h ((nI_eq ha hb).mp z)
theorem Sp_ne {v : Int32} {m : Nat} : ∀ b, Sp σ c v (nI m) b → ¬ b = m := Cl_ind (fun b h z => h.2.2 (by rw [h.2.1, z])) (fun a b _ _ e z => e.2 (by rw [z]))
theorem Sp_0 {m : Nat} (hc : c ≤ 64) (hj : j < c) (hm : m < c) (h : ¬ m = j) : Sp σ c (nI j) (nI m) j := Cl_0 ⟨hj, rfl, nI_ne (by omega) (by omega) (fun z => h z.symm)⟩
theorem Sp_s {m a b : Nat} (hc : c ≤ 64) (hm : m < c) (h : Sp σ c (nI j) (nI m) a) (e : nx σ c a b) (n : ¬ b = m) : Sp σ c (nI j) (nI m) b := Cl_s h ⟨e, nI_ne (by have := e.1; omega) (by omega) n⟩
/-- the class's walk around m -/
theorem XW_m {m : Nat} (hc : c ≤ 64) (hj : j < c) (hm : m < c) (hne : ¬ m = j) (b : Nat) : (XW σ c (nI j) (bk m) b ∧ ¬ b = m) ↔ Sp σ c (nI j) (nI m) b := by
  constructor
  · rintro ⟨h, n⟩
    have := Cl_ind (P := fun b => b = m ∨ Sp σ c (nI j) (nI m) b) (fun b h => Or.inr (Cl_0 ⟨h.1, h.2, nI_ne (by omega) (by omega) (fun z => hne z.symm)⟩)) (fun a b ha q e => ?_) b h
    · exact this.resolve_left n
    · have hac := XW_lt a ha
      have ham : ¬ a = m := fun z => by
        have := e.1
        rw [bt_bk m (by omega) a (by omega), decide_eq_true z] at this; cases this
      by_cases w : b = m
      · exact Or.inl w
      · exact Or.inr (Sp_s hc hm (q.resolve_left ham) e.2 w)
  · intro h
    refine ⟨?_, Sp_ne b h⟩
    refine Cl_ind (P := XW σ c (nI j) (bk m)) (fun b h => Cl_0 ⟨h.1, h.2.1⟩) (fun a b ha q e => Cl_s q ⟨?_, e.1⟩) b h
    have hac := Sp_lt a ha
    rw [bt_bk m (by omega) a (by omega)]
    exact decide_eq_false (Sp_ne a ha)
theorem mt_A {p q : Nat} (hc : c ≤ 64) (hj : j < c) (hp : Th σ c j p) (hq : Th σ c j q) (n : ¬ q = p) (h0 : EN σ c (nI j) (-1)) : Sp σ c (nI j) (nI q) p ∨ Sp σ c (nI j) (nI p) q := by
  refine Classical.byContradiction (fun z => ?_)
  have n1 : ¬ Sp σ c (nI j) (nI q) p := fun w => z (Or.inl w)
  have n2 : ¬ Sp σ c (nI j) (nI p) q := fun w => z (Or.inr w)
  obtain ⟨b0, hb0, he⟩ := h0
  have := Cl_ind (P := fun b => Sp σ c (nI j) (nI p) b ∧ Sp σ c (nI j) (nI q) b) (fun b h => by
    have e : b = j := ((nI_eq (by omega) (by omega)).mp h.2.1).symm
    rw [e]
    exact ⟨Sp_0 hc hj hp.1 hp.2.1, Sp_0 hc hj hq.1 hq.2.1⟩) (fun a b _ h e => by
    have bp : ¬ b = p := fun w => n1 (by rw [w] at e; exact Sp_s hc hq.1 h.2 e.1 (fun y => n y.symm))
    have bq : ¬ b = q := fun w => n2 (by rw [w] at e; exact Sp_s hc hp.1 h.1 e.1 n)
    exact ⟨Sp_s hc hp.1 h.1 e.1 bp, Sp_s hc hq.1 h.2 e.1 bq⟩) b0 hb0
  exact hp.2.2 ⟨b0, this.1, he⟩
theorem mt_B {p q : Nat} (hc : c ≤ 64) (hj : j < c) (hp : Th σ c j p) (hq : Th σ c j q) (h0 : EN σ c (nI j) (-1)) (h1 : Sp σ c (nI j) (nI q) p) (h2 : Sp σ c (nI j) (nI p) q) : False := by
  obtain ⟨b0, hb0, he⟩ := h0
  have := Cl_ind (P := fun b => Sp σ c (nI j) (nI p) b ∨ Sp σ c (nI j) (nI q) b) (fun b h => by
    have e : b = j := ((nI_eq (by omega) (by omega)).mp h.2.1).symm
    rw [e]
    exact Or.inl (Sp_0 hc hj hp.1 hp.2.1)) (fun a b _ h e => by
    rcases h with h | h
    · by_cases w : b = p
      · rw [w]; exact Or.inr h1
      · exact Or.inl (Sp_s hc hp.1 h e.1 w)
    · by_cases w : b = q
      · rw [w]; exact Or.inl h2
      · exact Or.inr (Sp_s hc hq.1 h e.1 w)) b0 hb0
  rcases this with w | w
  · exact hp.2.2 ⟨b0, w, he⟩
  · exact hq.2.2 ⟨b0, w, he⟩
theorem mt_C {m : Nat} (hc : c ≤ 64) (hj : j < c) (hm : Th σ c j m) (h0 : EN σ c (nI j) (-1)) : XW σ c (nI j) (bk m) m := by
  refine Classical.byContradiction (fun z => ?_)
  obtain ⟨b0, hb0, he⟩ := h0
  have := Cl_ind (P := Sp σ c (nI j) (nI m)) (fun b h => by
    have e : b = j := ((nI_eq (by omega) (by omega)).mp h.2.1).symm
    rw [e]
    exact Sp_0 hc hj hm.1 hm.2.1) (fun a b _ h e => by
    refine Sp_s hc hm.1 h e.1 (fun w => z ?_)
    rw [w] at e
    have ha := (XW_m hc hj hm.1 hm.2.1 a).mpr h
    have hac := Sp_lt a h
    refine Cl_s ha.1 ⟨?_, e.1⟩
    rw [bt_bk m (by have := hm.1; omega) a (by omega)]
    exact decide_eq_false ha.2) b0 hb0
  exact hm.2.2 ⟨b0, this, he⟩
/-- the class's question for the first is the reference's -/
theorem mt_first {m : Nat} (hc : c ≤ 64) (hj : j < c) (h0 : EN σ c (nI j) (-1)) (hm : Th σ c j m) : (∀ b, b < 64 → ((XW σ c (nI j) (bk m) b ∧ Th σ c j b) ↔ b = m)) ↔ Fm σ c j m := by
  constructor
  · intro h
    refine ⟨hm, fun q hq n => ?_⟩
    rcases mt_A hc hj hm hq n h0 with w | w
    · exact w
    · have hx := (XW_m hc hj hm.1 hm.2.1 q).mpr w
      have hq64 : q < 64 := by have := hq.1; omega
      exact absurd ((h q hq64).mp ⟨hx.1, hq⟩) n
  · intro h b hb
    constructor
    · rintro ⟨z1, z2⟩
      refine Classical.byContradiction (fun n => ?_)
      exact mt_B hc hj hm z2 h0 (h.2 b z2 n) ((XW_m hc hj hm.1 hm.2.1 b).mp ⟨z1, n⟩)
    · intro e
      rw [e]
      exact ⟨mt_C hc hj hm h0, hm⟩
end MG
/-- what meet answers -/
def Mt (σ : XS) (c j : Nat) (r : Int32) : Prop := ((∃ t, wy1 (xQ σ 1 j) (xL σ 6 j) j = some t ∧ ¬ wy0 (xQ σ 1 j) (xL σ 6 j) j = some t) ∧ Sp σ c 0 (-1) j ∧ EN σ c (nI j) (-1) ∧ ((∃ m, m < c ∧ r = nI m ∧ Fm σ c j m ∧ ∀ q, q < m → ¬ Fm σ c j q) ∨ (r = -1 ∧ ∀ q, q < c → ¬ Fm σ c j q))) ∨ (¬ ((∃ t, wy1 (xQ σ 1 j) (xL σ 6 j) j = some t ∧ ¬ wy0 (xQ σ 1 j) (xL σ 6 j) j = some t) ∧ Sp σ c 0 (-1) j ∧ EN σ c (nI j) (-1)) ∧ r = -1)
theorem Mt_inj {σ : XS} {c j : Nat} {r r' : Int32} (h : Mt σ c j r) (g : Mt σ c j r') : r = r' := by
  rcases h with ⟨a1, a2, a3, h⟩ | ⟨n, h⟩
  · rcases g with ⟨-, -, -, g⟩ | ⟨n, -⟩
    · rcases h with ⟨m, hm, e, f, l⟩ | ⟨e, l⟩
      · rcases g with ⟨m', hm', e', f', l'⟩ | ⟨e', l'⟩
        · have : m = m' := by
            rcases Nat.lt_trichotomy m m' with q | q | q
            · exact absurd f (l' m q)
            · exact q
            · exact absurd f' (l m' q)
          rw [e, e', this]
        · exact absurd f (l' m hm)
      · rcases g with ⟨m', hm', e', f', l'⟩ | ⟨e', l'⟩
        · exact absurd f' (l m' hm')
        · rw [e, e']
    · exact absurd ⟨a1, a2, a3⟩ n
  · rcases g with ⟨a1, a2, a3, -⟩ | ⟨-, g⟩
    · exact absurd ⟨a1, a2, a3⟩ n
    · rw [h, g]
/-! the class -/
section MX1
variable {σ : XS} {c j : Nat}
theorem oI_eq {o : Option Nat} {b : Nat} (ho : ∀ t, o = some t → t ≤ 64) (hb : b ≤ 64) : oI o (-1) = nI b ↔ o = some b := by
  cases o with
  | none => exact ⟨fun z => absurd (show nI b = -1 from z.symm) (nI_ne1 (by omega)), fun z => by cases z⟩
  | some t =>
    have := ho t rfl
    exact ⟨fun z => by rw [(nI_eq (by omega) (by omega)).mp (show nI t = nI b from z)], fun z => by cases z; rfl⟩
theorem xe_isEnd {post : Int32 → XS → Prop} {k : Nat} (hc : c ≤ 64) (e : xI σ 8 = nI c) (hk : k < c) (hck : ckX σ k) (h1 : isE σ c k → post 1 σ) (h0 : ¬ isE σ c k → post 0 σ) : wp_X7_isEnd post (nI k) σ := by
  have l0 : ∀ t, wy0 (xQ σ 1 k) (xL σ 6 k) k = some t → t ≤ 64 := fun t ht => wy0_le hck.1 (by omega) ht
  have k28 : (∀ b, wy1 (xQ σ 1 k) (xL σ 6 k) k = some b → b < c) → wB_X7_isEnd_28 post (nI k) σ := fun hin => ⟨fun _ => xe_first hc e hk hck (xe_hasC hc e (fun b hb q => ⟨fun z => absurd z (by decide), fun _ => ⟨Or.inl rfl, h0 (fun w => ?_)⟩⟩) (fun hn => ⟨fun _ => ⟨Or.inr rfl, h1 (Or.inl (fun b hb q => hn b hb (by rw [q]; rfl)))⟩, fun z => absurd rfl z⟩)), fun z => absurd rfl z⟩
  · refine xe_second hc e hk hck ?_
    cases hw : wy1 (xQ σ 1 k) (xL σ 6 k) k with
    | none => exact ⟨fun _ => k28 (fun b z => by rw [hw] at z; cases z), fun z => absurd rfl z⟩
    | some t =>
      have ht := wy1_eq hw
      refine ⟨fun z => absurd (show nI t = -1 from z) (nI_ne1 (by omega)), fun _ => xe_second hc e hk hck ?_⟩
      rw [hw]
      refine xe_hasC hc e (fun b hb q => ⟨fun z => absurd z (by decide), fun _ => k28 (fun b' z => ?_)⟩) (fun hn => ⟨fun _ => ⟨fun z => absurd z (by decide), fun _ => ⟨Or.inr rfl, h1 (Or.inr ⟨t, hw, fun z => hn t z rfl⟩)⟩⟩, fun z => absurd rfl z⟩)
      rw [hw] at z
      cases z
      rw [(nI_eq (by omega) (by omega)).mp (show nI t = nI b from q)]; exact hb
  · rcases w with w | ⟨b', w1, w2⟩
    · exact w b hb ((oI_eq l0 (by omega)).mp q)
    · exact w2 (hin b' w1)
theorem xe_hasEnd {post : Int32 → XS → Prop} {y : Int64} (hc : c ≤ 64) (e : xI σ 8 = nI c) (hck : ∀ k, k < c → ckX σ k) (h1 : (∃ b, b < c ∧ bt y b = true ∧ isE σ c b) → post 1 σ) (h0 : (¬ ∃ b, b < c ∧ bt y b = true ∧ isE σ c b) → post 0 σ) : wp_X7_hasEnd post y σ := by
  have bz : ∀ k, k < c → (y &&& bk k = 0 ↔ bt y k = false) := fun k hk => by
    constructor
    · intro z
      have : bt (y &&& bk k) k = false := by rw [z, bt_0]
      rw [bt_and, bt_bk k (by omega) k (by omega), decide_eq_true rfl, Bool.and_true] at this
      exact this
    · intro z
      refine bt_ext (fun i hi => ?_)
      rw [bt_0, bt_and, bt_bk k (by omega) i hi]
      by_cases q : i = k
      · rw [q, z]; rfl
      · rw [decide_eq_false q, Bool.and_false]
  have main : ∀ (d k : Nat), k + d = c → (∀ b, b < k → ¬ (bt y b = true ∧ isE σ c b)) → wL_X7_hasEnd_2 post (d + 1) y (nI k) σ := by
    intro d
    induction d with
    | zero => intro k hk hn; exact ⟨fun _ => h0 (fun ⟨b, hb, z⟩ => hn b (by omega) z), fun z => absurd (by rw [e]; exact nI_le (by omega) (by omega)) z⟩
    | succ d ih =>
      intro k hk hn
      have hkc : k < c := by omega
      have k38 : ¬ (bt y k = true ∧ isE σ c k) → wB_X7_hasEnd_38 post (wL_X7_hasEnd_2 post (d + 1)) y (nI k) σ := fun z u hu => by
        rw [hu, nI_1]
        refine ih (k + 1) (by omega) (fun b hb => ?_)
        rcases Nat.lt_or_ge b k with w | w
        · exact hn b w
        · rw [show b = k by omega]; exact z
      refine ⟨fun z => absurd z (by rw [e]; exact nI_ge hkc (by omega)), fun _ => xe_bitK hc e hkc ⟨fun z => k38 (fun w => ?_), fun z => xe_isEnd hc e hkc (hck k hkc) (fun he => ⟨fun z => absurd z (by decide), fun _ => h1 ⟨k, hkc, ?_, he⟩⟩) (fun he => ⟨fun _ => k38 (fun w => he w.2), fun z => absurd rfl z⟩)⟩⟩
      · rw [(bz k hkc).mp z] at w; cases w.1
      · cases w : bt y k with
        | true => rfl
        | false => exact absurd ((bz k hkc).mpr w) z
  exact ⟨c + 1, main c 0 (by omega) (fun b hb => absurd hb (Nat.not_lt_zero b))⟩
theorem xe_through {post : Int64 → XS → Prop} (hc : c ≤ 64) (e : xI σ 8 = nI c) (hck : ∀ k, k < c → ckX σ k) (hj : j < c) (h : ∀ y : Int64, (∀ b, b < 64 → (bt y b = true ↔ Th σ c j b)) → post y σ) : wp_X7_throughAll post (nI j) σ := by
  have main : ∀ (d m : Nat) (y : Int64), m + d = c → (∀ b, b < 64 → (bt y b = true ↔ (b < m ∧ Th σ c j b))) → wL_X7_throughAll_5 post (d + 1) (nI j) y (nI m) σ := by
    intro d
    induction d with
    | zero =>
      intro m y hm hy
      refine ⟨fun _ => h y (fun b hb => ?_), fun z => absurd (by rw [e]; exact nI_le (by omega) (by omega)) z⟩
      rw [hy b hb]
      exact ⟨fun z => z.2, fun z => ⟨by have := z.1; omega, z⟩⟩
    | succ d ih =>
      intro m y hm hy
      have hmc : m < c := by omega
      have k60 : ∀ y' : Int64, (∀ b, b < 64 → (bt y' b = true ↔ (b < m + 1 ∧ Th σ c j b))) → wB_X7_throughAll_60 post (wL_X7_throughAll_5 post (d + 1)) (nI j) y' (nI m) σ := fun y' hy' u hu => by
        rw [hu, nI_1]; exact ih (m + 1) y' (by omega) hy'
      have same : ¬ Th σ c j m → ∀ b, b < 64 → (bt y b = true ↔ (b < m + 1 ∧ Th σ c j b)) := fun n b hb => by
        rw [hy b hb]
        refine ⟨fun z => ⟨by omega, z.2⟩, fun z => ⟨?_, z.2⟩⟩
        rcases Nat.lt_or_ge b m with w | w
        · exact w
        · exact absurd (by rw [show m = b by omega]; exact z.2) n
      refine ⟨fun z => absurd z (by rw [e]; exact nI_ge hmc (by omega)), fun _ => xe_bitK hc e hmc ⟨fun q => k60 y (same (fun z => z.2.1 ((nI_eq (by omega) (by omega)).mp q))), fun q => xe_walk hc e hck (fun w hw => xe_hasEnd hc e hck (fun he => ⟨fun z => absurd z (by decide), fun _ => k60 y (same (fun z => z.2.2 ?_))⟩) (fun he => ⟨fun _ => fun y' hy' => k60 y' (fun b hb => ?_), fun z => absurd rfl z⟩))⟩⟩
      · obtain ⟨b, hb, hbt, hE⟩ := he
        have hmj : ¬ m = j := fun z => q (by rw [z])
        rw [bt_and, bt_not _ (by omega), bt_bk m (by omega) b (by omega), Bool.and_eq_true, Bool.not_eq_true', hw b (by omega), decide_eq_false_iff_not] at hbt
        exact ⟨b, (XW_m hc hj hmc hmj b).mp hbt, hE⟩
      · have hmj : ¬ m = j := fun z => q (by rw [z])
        have hT : Th σ c j m := ⟨hmc, hmj, fun ⟨b, hb, hE⟩ => he ⟨b, Sp_lt b hb, by
          have hlt := Sp_lt b hb
          rw [bt_and, bt_not _ (by omega), bt_bk m (by omega) b (by omega), Bool.and_eq_true, Bool.not_eq_true', hw b (by omega), decide_eq_false_iff_not]
          exact (XW_m hc hj hmc hmj b).mpr hb, hE⟩⟩
        rw [hy', bt_or, Bool.or_eq_true, hy b hb, bt_bk m (by omega) b hb, decide_eq_true_eq]
        constructor
        · rintro (z | z)
          · exact ⟨by omega, z.2⟩
          · rw [z]; exact ⟨by omega, hT⟩
        · intro z
          rcases Nat.lt_or_ge b m with w | w
          · exact Or.inl ⟨w, z.2⟩
          · exact Or.inr (by omega)
  exact ⟨c + 1, main c 0 0 (by omega) (fun b hb => by rw [bt_0]; exact ⟨fun z => (by cases z), fun z => absurd z.1 (Nat.not_lt_zero b)⟩)⟩
theorem xe_meet {post : Int32 → XS → Prop} (hc : c ≤ 64) (e : xI σ 8 = nI c) (hck : ∀ k, k < c → ckX σ k) (hj : j < c) (h : ∀ r, Mt σ c j r → post r σ) : wp_X8_meet post (nI j) σ := by
  have l0 : ∀ t, wy0 (xQ σ 1 j) (xL σ 6 j) j = some t → t ≤ 64 := fun t ht => wy0_le (hck j hj).1 (by omega) ht
  have no : ¬ ((∃ t, wy1 (xQ σ 1 j) (xL σ 6 j) j = some t ∧ ¬ wy0 (xQ σ 1 j) (xL σ 6 j) j = some t) ∧ Sp σ c 0 (-1) j ∧ EN σ c (nI j) (-1)) → post (-1) σ := fun z => h (-1) (Or.inr ⟨z, rfl⟩)
  have n01 : ¬ (0 : Int32) = -1 := by decide
  have k27 : (∃ t, wy1 (xQ σ 1 j) (xL σ 6 j) j = some t ∧ ¬ wy0 (xQ σ 1 j) (xL σ 6 j) j = some t) → wB_X7_meetOf_27 (fun r_1 σ_2 => post r_1 σ_2) (nI j) 1 σ := by
    intro hw
    refine ⟨fun z => absurd z (by decide), fun _ => xe_walk hc e hck (fun r3 h3 => xe_bitK hc e hj ⟨fun z => no (fun w => ?_), fun z => xe_walk hc e hck (fun r7 h7 => xe_hasEnd hc e hck (fun he => ⟨fun z => absurd z (by decide), fun _ => ?_⟩) (fun he => ⟨fun _ => no (fun w => ?_), fun z => absurd rfl z⟩))⟩)⟩
    · have hb := (h3 j (by omega)).mpr ((XW_Sp hc n01 j).mpr w.2.1)
      have : bt (r3 &&& bk j) j = true := by rw [bt_and, hb, bt_bk j (by omega) j (by omega), decide_eq_true rfl]; rfl
      rw [z, bt_0] at this; cases this
    · have hr : Sp σ c 0 (-1) j := by
        refine (XW_Sp hc n01 j).mp ((h3 j (by omega)).mp (Classical.byContradiction (fun w => z (bt_ext (fun i hi => ?_)))))
        rw [bt_0, bt_and, bt_bk j (by omega) i hi]
        by_cases q : i = j
        · rw [q, bfalse w]; rfl
        · rw [decide_eq_false q, Bool.and_false]
      have hE : EN σ c (nI j) (-1) := by
        obtain ⟨b, hb, hbt, hE⟩ := he
        exact ⟨b, (XW_Sp hc (nI_ne1 (by omega)) b).mp ((h7 b (by omega)).mp hbt), hE⟩
      refine xe_through hc e hck hj (fun y hy => ?_)
      have main : ∀ (d m : Nat), m + d = c → (∀ q, q < m → ¬ Fm σ c j q) → wL_X7_meetOf_74 (fun r_1 σ_2 => post r_1 σ_2) (d + 1) (nI j) y (nI m) σ := by
        intro d
        induction d with
        | zero => intro m hm hn; exact ⟨fun _ => h (-1) (Or.inl ⟨hw, hr, hE, Or.inr ⟨rfl, fun q hq => hn q (by omega)⟩⟩), fun z => absurd (by rw [e]; exact nI_le (by omega) (by omega)) z⟩
        | succ d ih =>
          intro m hm hn
          have hmc : m < c := by omega
          have k124 : ¬ Fm σ c j m → wB_X7_meetOf_124 (fun r_1 σ_2 => post r_1 σ_2) (wL_X7_meetOf_74 (fun r_1 σ_2 => post r_1 σ_2) (d + 1)) (nI j) y (nI m) σ := fun z u hu => by
            rw [hu, nI_1]
            refine ih (m + 1) (by omega) (fun q hq => ?_)
            rcases Nat.lt_or_ge q m with w | w
            · exact hn q w
            · rw [show q = m by omega]; exact z
          refine ⟨fun z => absurd z (by rw [e]; exact nI_ge hmc (by omega)), fun _ => xe_bitK hc e hmc ⟨fun z => k124 (fun w => ?_), fun z => xe_walk hc e hck (fun r16 h16 => ?_)⟩⟩
          · have hb := (hy m (by omega)).mpr w.1
            have : bt (y &&& bk m) m = true := by rw [bt_and, hb, bt_bk m (by omega) m (by omega), decide_eq_true rfl]; rfl
            rw [z, bt_0] at this; cases this
          · have hT : Th σ c j m := by
              refine (hy m (by omega)).mp (Classical.byContradiction (fun w => z (bt_ext (fun i hi => ?_))))
              rw [bt_0, bt_and, bt_bk m (by omega) i hi]
              by_cases q : i = m
              · rw [q, bfalse w]; rfl
              · rw [decide_eq_false q, Bool.and_false]
            have key : (r16 &&& y = bk m) ↔ Fm σ c j m := by
              rw [← mt_first hc hj hE hT]
              constructor
              · intro w b hb
                have : bt (r16 &&& y) b = bt (bk m) b := by rw [w]
                rw [bt_and, bt_bk m (by omega) b hb] at this
                rw [← h16 b hb, ← hy b hb, ← Bool.and_eq_true, this, decide_eq_true_eq]
              · intro w
                refine bt_ext (fun b hb => ?_)
                rw [bt_and, bt_bk m (by omega) b hb]
                have := w b hb
                rw [← h16 b hb, ← hy b hb, ← Bool.and_eq_true] at this
                by_cases q : b = m
                · rw [decide_eq_true q]; exact this.mpr q
                · rw [decide_eq_false q]; exact bfalse (fun u => q (this.mp u))
            exact ⟨fun w => h (nI m) (Or.inl ⟨hw, hr, hE, Or.inl ⟨m, hmc, rfl, key.mp w, hn⟩⟩), fun w => k124 (fun u => w (key.mpr u))⟩
      exact ⟨c + 1, main c 0 (by omega) (fun q hq => absurd hq (Nat.not_lt_zero q))⟩
    · obtain ⟨b, hb, hE⟩ := w.2.2
      have hlt := Sp_lt b hb
      exact he ⟨b, hlt, (h7 b (by omega)).mpr ((XW_Sp hc (nI_ne1 (by omega)) b).mpr hb), hE⟩
  refine xe_second hc e hj (hck j hj) ?_
  cases hw : wy1 (xQ σ 1 j) (xL σ 6 j) j with
  | none => exact ⟨fun _ => ⟨fun _ => no (fun w => by obtain ⟨⟨t, ht, -⟩, -⟩ := w; rw [hw] at ht; cases ht), fun z => absurd rfl z⟩, fun z => absurd rfl z⟩
  | some t =>
    have ht := wy1_eq hw
    refine ⟨fun z => absurd (show nI t = -1 from z) (nI_ne1 (by omega)), fun _ => xe_first hc e hj (hck j hj) (xe_second hc e hj (hck j hj) ?_)⟩
    rw [hw]
    show (oI (wy0 (xQ σ 1 j) (xL σ 6 j) j) (-1) = nI t → _) ∧ (¬ oI (wy0 (xQ σ 1 j) (xL σ 6 j) j) (-1) = nI t → _)
    rw [oI_eq l0 (by omega)]
    exact ⟨fun z => ⟨fun _ => no (fun w => by obtain ⟨⟨t', ht', n'⟩, -⟩ := w; rw [hw] at ht'; cases ht'; exact n' z), fun z => absurd rfl z⟩, fun z => k27 ⟨t, hw, z⟩⟩
end MX1
/-! the reference -/
section MM1
variable {σ : XS} {τ : MS} {s t c j : Nat}
theorem oI2_eq {o : Option Nat} (ho : ∀ t, o = some t → t ≤ 64) : oI o (-2) = -2 ↔ o = none := by
  cases o with
  | none => exact ⟨fun _ => rfl, fun _ => rfl⟩
  | some t =>
    have := ho t rfl
    exact ⟨fun z => absurd (show nI t < 0 by rw [show nI t = -2 from z]; decide) (nI_pos (by omega)), fun z => by cases z⟩
theorem em_ends {post : Int32 → MS → Prop} {v y : Int32} (hc : c ≤ 64) (h : QI (RG σ s t) s t c τ) (h1 : ∀ τ', QI (RG σ s t) s t c τ' → EN σ c v y → post 1 τ') (h0 : ∀ τ', QI (RG σ s t) s t c τ' → ¬ EN σ c v y → post 0 τ') : wp_X9_ends post v y τ := by
  refine em_spread hc h (fun τ g hcm => ?_)
  have main : ∀ (d k : Nat), k + d = c → (∀ b, b < k → ¬ (Sp σ c v y b ∧ isE σ c b)) → wL_X9_ends_8 post (d + 1) (nI k) τ := by
    intro d
    induction d with
    | zero => intro k hk hn; exact ⟨fun _ => h0 τ g (fun ⟨b, hb, z⟩ => hn b (by have := Sp_lt b hb; omega) ⟨hb, z⟩), fun z => absurd (by rw [g.2]; exact nI_le (by omega) (by omega)) z⟩
    | succ d ih =>
      intro k hk hn
      have hkc : k < c := by omega
      have hw := qi_w hc g k hkc
      have l0 : ∀ t, wy0 (xQ σ 1 k) (xL σ 6 k) k = some t → t ≤ 64 := fun t ht => wy0_le hw.2.1 (by omega) ht
      have l1 : ∀ t, wy1 (xQ σ 1 k) (xL σ 6 k) k = some t → t ≤ 64 := fun t ht => by rw [wy1_eq ht]; omega
      have k84 : ¬ (Sp σ c v y k ∧ isE σ c k) → wB_X9_ends_84 post (wL_X9_ends_8 post (d + 1)) (nI k) τ := fun z u hu => by
        rw [hu, nI_1]
        refine ih (k + 1) (by omega) (fun b hb => ?_)
        rcases Nat.lt_or_ge b k with w | w
        · exact hn b w
        · rw [show b = k by omega]; exact z
      refine ⟨fun z => absurd z (by rw [g.2]; exact nI_ge hkc (by omega)), fun _ => ⟨vp_in_nI (by omega) (by decide), ?_⟩⟩
      rw [nI_clamp (by omega)]
      refine ⟨fun z => k84 (fun w => ?_), fun z => em_way0 (by omega) hw.1 hw.2.1 ?_⟩
      · have := (hcm k hkc).mpr w.1
        rw [z] at this; cases this
      have hS : Sp σ c v y k := (hcm k hkc).mp ((qi_b g k).resolve_left z)
      have yes : isE σ c k → post 1 τ := fun he => h1 τ g ⟨k, hS, he⟩
      rw [oI2_eq l0]
      refine ⟨fun q => yes (Or.inl (fun b _ w => by rw [q] at w; cases w)), fun q => ⟨3, ?_⟩⟩
      have k2 : (∃ b, b < c ∧ wy0 (xQ σ 1 k) (xL σ 6 k) k = some b) → (∀ b, wy1 (xQ σ 1 k) (xL σ 6 k) k = some b → b < c) → wB_X9_ends_78 post (wL_X9_ends_8 post (d + 1)) (wL_X9_ends_44 post (wL_X9_ends_8 post (d + 1)) 1) (nI k) 1 τ := fun a1 a2 u hu => by
        rw [hu]
        refine ⟨fun _ => k84 (fun w => ?_), fun q => absurd (by decide) q⟩
        obtain ⟨b, hb, eb⟩ := a1
        exact w.2.elim (fun w => w b hb eb) (fun ⟨b', w1, w2⟩ => w2 (a2 b' w1))
      have k1 : (∃ b, b < c ∧ wy0 (xQ σ 1 k) (xL σ 6 k) k = some b) → wB_X9_ends_78 post (wL_X9_ends_8 post (d + 1)) (wL_X9_ends_44 post (wL_X9_ends_8 post (d + 1)) 2) (nI k) 0 τ := fun a1 u hu => by
        rw [hu]
        refine ⟨fun z => absurd z (by decide), fun _ => em_way1 (by omega) hw.1 hw.2.1 ?_⟩
        rw [oI2_eq l1]
        refine ⟨fun q => k2 a1 (fun b w => by rw [q] at w; cases w), fun q => em_way1 (by omega) hw.1 hw.2.1 ?_⟩
        cases hb : wy1 (xQ σ 1 k) (xL σ 6 k) k with
        | none => exact absurd hb q
        | some b =>
          by_cases hbc : b < c
          · exact em_placeT hc g.2 hbc ⟨fun z => absurd z (by decide), fun _ => k2 a1 (fun b' w => by rw [hb] at w; cases w; exact hbc)⟩
          · have h64 := l1 b hb
            exact em_placeF hc g.2 (fun i hi w => hbc (by rw [(nI_eq (by omega) (by omega)).mp (show nI b = nI i from w)]; exact hi)) ⟨fun _ => yes (Or.inr ⟨b, hb, hbc⟩), fun z => absurd rfl z⟩
      refine ⟨fun z => absurd z (by decide), fun _ => em_way0 (by omega) hw.1 hw.2.1 ?_⟩
      rw [oI2_eq l0]
      refine ⟨fun w => absurd w q, fun _ => em_way0 (by omega) hw.1 hw.2.1 ?_⟩
      cases hb : wy0 (xQ σ 1 k) (xL σ 6 k) k with
      | none => exact absurd hb q
      | some b =>
        by_cases hbc : b < c
        · exact em_placeT hc g.2 hbc ⟨fun z => absurd z (by decide), fun _ => k1 ⟨b, hbc, hb⟩⟩
        · have h64 := l0 b hb
          exact em_placeF hc g.2 (fun i hi w => hbc (by rw [(nI_eq (by omega) (by omega)).mp (show nI b = nI i from w)]; exact hi)) ⟨fun _ => yes (Or.inl (fun b' hb' w => by rw [hb] at w; cases w; exact hbc hb')), fun z => absurd rfl z⟩
  exact ⟨c + 1, main c 0 (by omega) (fun b hb => absurd hb (Nat.not_lt_zero b))⟩
theorem em_isFirst {post : Int32 → MS → Prop} {p : Nat} (hc : c ≤ 64) (hj : j < c) (hp : p < c) (h : QI (RG σ s t) s t c τ) (h1 : ∀ τ', QI (RG σ s t) s t c τ' → (∀ q, Th σ c j q → ¬ q = p → Sp σ c (nI j) (nI q) p) → post 1 τ') (h0 : ∀ τ', QI (RG σ s t) s t c τ' → ¬ (∀ q, Th σ c j q → ¬ q = p → Sp σ c (nI j) (nI q) p) → post 0 τ') : wp_X9_isFirst post (nI j) (nI p) τ := by
  have main : ∀ (d k : Nat) (τ : MS), k + d = c → QI (RG σ s t) s t c τ → (∀ q, q < k → Th σ c j q → ¬ q = p → Sp σ c (nI j) (nI q) p) → wL_X9_isFirst_2 post (d + 1) (nI j) (nI p) (nI k) τ := by
    intro d
    induction d with
    | zero => intro k τ hk g hn; exact ⟨fun _ => h1 τ g (fun q hq => hn q (by have := hq.1; omega) hq), fun z => absurd (by rw [g.2]; exact nI_le (by omega) (by omega)) z⟩
    | succ d ih =>
      intro k τ hk g hn
      have hkc : k < c := by omega
      have k49 : ∀ τ', QI (RG σ s t) s t c τ' → (Th σ c j k → ¬ k = p → Sp σ c (nI j) (nI k) p) → wB_X9_isFirst_49 post (wL_X9_isFirst_2 post (d + 1)) (nI j) (nI p) (nI k) τ' := fun τ' g' z u hu => by
        rw [hu, nI_1]
        refine ih (k + 1) τ' (by omega) g' (fun q hq => ?_)
        rcases Nat.lt_or_ge q k with w | w
        · exact hn q w
        · rw [show q = k by omega]; exact z
      refine ⟨fun z => absurd z (by rw [g.2]; exact nI_ge hkc (by omega)), fun _ => ⟨fun q => k49 τ g (fun w => absurd ((nI_eq (by omega) (by omega)).mp q) w.2.1), fun q1 => ⟨fun q => k49 τ g (fun _ w => absurd ((nI_eq (by omega) (by omega)).mp q) w), fun q2 => em_ends hc g (fun τ' g' he => ⟨fun z => absurd z (by decide), fun _ => k49 τ' g' (fun w => absurd he w.2.2)⟩) (fun τ' g' he => ⟨fun _ => em_spread hc g' (fun τ2 g2 hcm => ?_), fun z => absurd rfl z⟩)⟩⟩⟩
      have kj : ¬ k = j := fun z => q1 (by rw [z])
      have kp : ¬ k = p := fun z => q2 (by rw [z])
      rw [nI_clamp (by omega)]
      refine ⟨vp_in_nI (by omega) (by decide), fun z => h0 τ2 g2 (fun w => ?_), fun z => k49 τ2 g2 (fun _ _ => (hcm p hp).mp ((qi_b g2 p).resolve_left z))⟩
      have := (hcm p hp).mpr (w k ⟨hkc, kj, he⟩ kp)
      rw [z] at this; cases this
  exact ⟨c + 1, main c 0 τ (by omega) h (fun q hq => absurd hq (Nat.not_lt_zero q))⟩
theorem wy1_0 {o : Option Nat} {x : Int64} {k a : Nat} (h : wy1 o x k = some a) : ∃ b, wy0 o x k = some b := by
  cases o with
  | none => cases h
  | some e =>
    unfold wy1 at h
    dsimp only at h
    split at h
    · rename_i q
      exact ⟨_, by unfold wy0; dsimp only; rw [if_pos q.1]⟩
    · cases h
theorem em_meet {post : Int32 → MS → Prop} (hc : c ≤ 64) (hj : j < c) (h : QI (RG σ s t) s t c τ) (hp : ∀ r τ', QI (RG σ s t) s t c τ' → Mt σ c j r → post r τ') : wp_X9_meet post (nI j) τ := by
  have no : ∀ τ', QI (RG σ s t) s t c τ' → ¬ ((∃ t, wy1 (xQ σ 1 j) (xL σ 6 j) j = some t ∧ ¬ wy0 (xQ σ 1 j) (xL σ 6 j) j = some t) ∧ Sp σ c 0 (-1) j ∧ EN σ c (nI j) (-1)) → post (-1) τ' := fun τ' g z => hp (-1) τ' g (Or.inr ⟨z, rfl⟩)
  have h' : QI (RG σ s t) s t c (wI τ 0 0) := h
  refine em_placeT hc h'.2 hj ⟨fun z => absurd z (by decide), fun _ => em_spread hc h' (fun τ g hcm => ?_)⟩
  rw [nI_clamp (by omega)]
  refine ⟨vp_in_nI (by omega) (by decide), qi_b g j, fun z => no τ g (fun w => ?_), fun z => ?_⟩
  · have := (hcm j hj).mpr w.2.1
    rw [z] at this; cases this
  have hr : Sp σ c 0 (-1) j := (hcm j hj).mp ((qi_b g j).resolve_left z)
  have hw := qi_w hc g j hj
  have l0 : ∀ t, wy0 (xQ σ 1 j) (xL σ 6 j) j = some t → t ≤ 64 := fun t ht => wy0_le hw.2.1 (by omega) ht
  have l1 : ∀ t, wy1 (xQ σ 1 j) (xL σ 6 j) j = some t → t ≤ 64 := fun t ht => by rw [wy1_eq ht]; omega
  refine em_way0 (by omega) hw.1 hw.2.1 (em_way1 (by omega) hw.1 hw.2.1 ?_)
  rw [oI2_eq l0, oI2_eq l1]
  refine ⟨fun q => no τ g (fun w => ?_), fun q0 => ⟨fun q => no τ g (fun w => ?_), fun q1 => ⟨fun q => no τ g (fun w => ?_), fun q2 => ?_⟩⟩⟩
  · obtain ⟨⟨t', ht', -⟩, -⟩ := w
    obtain ⟨b, hb⟩ := wy1_0 ht'
    rw [q] at hb; cases hb
  · obtain ⟨⟨t', ht', -⟩, -⟩ := w
    rw [q] at ht'; cases ht'
  · obtain ⟨⟨t', ht', n'⟩, -⟩ := w
    cases h0 : wy0 (xQ σ 1 j) (xL σ 6 j) j with
    | none => exact q0 h0
    | some b =>
      rw [h0, ht'] at q
      have e1 := l0 b h0
      have e2 := l1 t' ht'
      exact n' (by rw [h0, (nI_eq (by omega) (by omega)).mp (show nI b = nI t' from q)])
  have hC : ∃ t, wy1 (xQ σ 1 j) (xL σ 6 j) j = some t ∧ ¬ wy0 (xQ σ 1 j) (xL σ 6 j) j = some t := by
    cases h1 : wy1 (xQ σ 1 j) (xL σ 6 j) j with
    | none => exact absurd h1 q1
    | some b => exact ⟨b, rfl, fun w => q2 (by rw [w, h1])⟩
  refine em_ends hc g (fun τ g hE => ⟨fun z => absurd z (by decide), fun _ => ?_⟩) (fun τ g hE => ⟨fun _ => no τ g (fun w => hE w.2.2), fun z => absurd rfl z⟩)
  have main : ∀ (d m : Nat) (τ : MS), m + d = c → QI (RG σ s t) s t c τ → (∀ q, q < m → ¬ Fm σ c j q) → wL_X9_meet_55 post (d + 1) (nI j) (nI m) τ := by
    intro d
    induction d with
    | zero => intro m τ hm g hn; exact ⟨fun _ => hp (-1) τ g (Or.inl ⟨hC, hr, hE, Or.inr ⟨rfl, fun q hq => hn q (by omega)⟩⟩), fun z => absurd (by rw [g.2]; exact nI_le (by omega) (by omega)) z⟩
    | succ d ih =>
      intro m τ hm g hn
      have hmc : m < c := by omega
      have k93 : ∀ τ', QI (RG σ s t) s t c τ' → ¬ Fm σ c j m → wB_X9_meet_93 post (wL_X9_meet_55 post (d + 1)) (nI j) (nI m) τ' := fun τ' g' z u hu => by
        rw [hu, nI_1]
        refine ih (m + 1) τ' (by omega) g' (fun q hq => ?_)
        rcases Nat.lt_or_ge q m with w | w
        · exact hn q w
        · rw [show q = m by omega]; exact z
      refine ⟨fun z => absurd z (by rw [g.2]; exact nI_ge hmc (by omega)), fun _ => ⟨fun q => k93 τ g (fun w => w.1.2.1 ((nI_eq (by omega) (by omega)).mp q)), fun q => em_ends hc g (fun τ' g' he => ⟨fun z => absurd z (by decide), fun _ => k93 τ' g' (fun w => w.1.2.2 he)⟩) (fun τ' g' he => ⟨fun _ => em_isFirst hc hj hmc g' (fun τ2 g2 hf => ⟨fun z => absurd z (by decide), fun _ => hp (nI m) τ2 g2 (Or.inl ⟨hC, hr, hE, Or.inl ⟨m, hmc, rfl, ⟨⟨hmc, fun z => q (by rw [z]), he⟩, hf⟩, hn⟩⟩)⟩) (fun τ2 g2 hf => ⟨fun _ => k93 τ2 g2 (fun w => hf w.2), fun z => absurd rfl z⟩), fun z => absurd rfl z⟩)⟩⟩
  exact ⟨c + 1, main c 0 τ (by omega) g (fun q hq => absurd hq (Nat.not_lt_zero q))⟩
end MM1
section BM
variable {σ : XS} {β : BS} {τ : MS}
theorem be_meet {x : Int32} {P : Int32 → XS → Int32 → MS → Prop} (h : II σ β τ) (k : ∀ r τ', II σ β τ' → P r σ r τ') : wp_X8_meet (fun r1 u1 => wp_X9_meet (fun r2 u2 => P r1 u1 r2 u2) x τ) x σ := by
  obtain ⟨s, t, hs, ht, hX, hB, hG⟩ := id h
  obtain ⟨r1, ⟨c, hc, c1, c2, c3⟩, r3⟩ := id hG.2
  have hQ : QI (RG σ s t) s t c τ := ⟨hG, c2⟩
  have hck : ∀ k, k < c → ckX σ k := fun k hk => (c3 k hk).2
  have hk : ∀ τ', QI (RG σ s t) s t c τ' → II σ β τ' := fun τ' g => ⟨s, t, hs, ht, hX, hB, g.1⟩
  rcases Classical.em (∃ j, j < c ∧ x = nI j) with ⟨j, hj, rfl⟩ | nq
  · refine xe_meet hc c1 hck hj (fun r hr => em_meet hc hj hQ (fun r' τ' g hr' => ?_))
    rw [Mt_inj hr' hr]
    exact k r τ' (hk τ' g)
  · have hn : ∀ j, j < c → ¬ x = nI j := fun j hj z => nq ⟨j, hj, z⟩
    have hQ' : QI (RG σ s t) s t c (wI τ 0 0) := hQ
    exact xe_secondF hc c1 hn ⟨fun _ => ⟨fun _ => em_placeF hc hQ'.2 hn ⟨fun _ => ⟨fun _ => k (-1) _ (hk _ hQ'), fun z => absurd rfl z⟩, fun z => absurd rfl z⟩, fun z => absurd rfl z⟩, fun z => absurd rfl z⟩
end BM
