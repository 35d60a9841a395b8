/-! sets of PLACES as longs, and what WAYS come to: the class -/
def cl (I : Nat → Prop) (E : Nat → Nat → Prop) : Nat → Nat → Prop
  | 0, b => I b
  | n + 1, b => cl I E n b ∨ ∃ a, cl I E n a ∧ E a b
def Cl (I : Nat → Prop) (E : Nat → Nat → Prop) (b : Nat) : Prop := ∃ n, cl I E n b
section CL
variable {I : Nat → Prop} {E : Nat → Nat → Prop}
theorem Cl_0 {b : Nat} (h : I b) : Cl I E b := ⟨0, h⟩
theorem Cl_s {a b : Nat} (h : Cl I E a) (e : E a b) : Cl I E b := by
  obtain ⟨n, h⟩ := h
  exact ⟨n + 1, Or.inr ⟨a, h, e⟩⟩
theorem Cl_ind {P : Nat → Prop} (h0 : ∀ b, I b → P b) (hs : ∀ a b, Cl I E a → P a → E a b → P b) : ∀ b, Cl I E b → P b := by
  have main : ∀ n b, cl I E n b → P b := by
    intro n
    induction n with
    | zero => intro b h; exact h0 b h
    | succ n ih =>
      intro b h
      rcases h with h | ⟨a, ha, e⟩
      · exact ih b h
      · exact hs a b ⟨n, ha⟩ (ih a ha) e
  intro b ⟨n, h⟩
  exact main n b h
end CL
def cn (f : Nat → Bool) : Nat → Nat
  | 0 => 0
  | n + 1 => cn f n + (if f n = true then 1 else 0)
theorem cn_le (f : Nat → Bool) : ∀ n, cn f n ≤ n := by
  intro n
  induction n with
  | zero => exact Nat.le_refl 0
  | succ n ih =>
    show cn f n + (if f n = true then 1 else 0) ≤ n + 1
    split <;> omega
theorem cn_full {f : Nat → Bool} : ∀ n, cn f n = n → ∀ b, b < n → f b = true := by
  intro n
  induction n with
  | zero => intro _ b hb; omega
  | succ n ih =>
    intro h b hb
    have h : cn f n + (if f n = true then 1 else 0) = n + 1 := h
    have hl := cn_le f n
    by_cases q : f n = true
    · rw [if_pos q] at h
      rcases Nat.lt_or_ge b n with y | y
      · exact ih (by omega) b y
      · rw [show b = n by omega]; exact q
    · rw [if_neg q] at h; omega
theorem cn_mono {f g : Nat → Bool} : ∀ n, (∀ b, b < n → f b = true → g b = true) → cn f n ≤ cn g n := by
  intro n
  induction n with
  | zero => intro _; exact Nat.le_refl 0
  | succ n ih =>
    intro h
    show cn f n + (if f n = true then 1 else 0) ≤ cn g n + (if g n = true then 1 else 0)
    have := ih (fun b hb => h b (by omega))
    by_cases q : f n = true
    · rw [if_pos q, if_pos (h n (by omega) q)]; omega
    · rw [if_neg q]; omega
theorem cn_grow {f g : Nat → Bool} {k : Nat} : ∀ n, k < n → (∀ b, b < n → f b = true → g b = true) → f k = false → g k = true → cn f n + 1 ≤ cn g n := by
  intro n
  induction n with
  | zero => intro h; omega
  | succ n ih =>
    intro hk h hf hg
    show cn f n + (if f n = true then 1 else 0) + 1 ≤ cn g n + (if g n = true then 1 else 0)
    by_cases e : k = n
    · subst e
      have := cn_mono (f := f) (g := g) k (fun b hb => h b (by omega))
      rw [if_neg (by rw [hf]; decide), if_pos hg]; omega
    · have := ih (by omega) (fun b hb => h b (by omega)) hf hg
      by_cases q : f n = true
      · rw [if_pos q, if_pos (h n (by omega) q)]; omega
      · rw [if_neg q]; omega
/-- PLACE k alone -/
def bk (k : Nat) : Int64 := (1 : Int64) <<< ((nI k).toInt64 &&& 63)
theorem bt_bk : ∀ k, k < 64 → ∀ i, i < 64 → bt (bk k) i = decide (i = k) := by decide +kernel
theorem bt_not (x : Int64) {i : Nat} (hi : i < 64) : bt (x ^^^ (-1)) i = !bt x i := by
  have h : ∀ i, i < 64 → bt (-1) i = true := by decide +kernel
  rw [bt_xor, h i hi]
  cases bt x i <;> rfl
theorem bt_some {x : Int64} (h : ¬ x = 0) : ∃ k, k < 64 ∧ bt x k = true ∧ ∀ j, j < k → bt x j = false := by
  have hex : ∃ k, k < 64 ∧ bt x k = true := Classical.byContradiction (fun z => h (bt_ext (fun i hi => by
    rw [bt_0]
    cases q : bt x i with
    | false => rfl
    | true => exact absurd ⟨i, hi, q⟩ z)))
  obtain ⟨k, ⟨hk, hb⟩, hl⟩ := pk_least (fun k => k < 64 ∧ bt x k = true) hex
  refine ⟨k, hk, hb, fun j hj => ?_⟩
  cases q : bt x j with
  | false => rfl
  | true => exact absurd ⟨by omega, q⟩ (hl j hj)
theorem low_bk {x : Int64} {k : Nat} (hk : k < 64) (hb : bt x k = true) (hl : ∀ j, j < k → bt x j = false) : x &&& (-x) = bk k := by
  refine bt_ext (fun i hi => ?_)
  have hn : bt (-x) i = (bt x i ^^ (decide (i < 64) && decide (∃ j, j < i ∧ bt x j = true))) := by
    show (-x).toBitVec.getLsbD i = _
    rw [Int64.toBitVec_neg, BitVec.getLsbD_neg]
  rw [bt_and, hn, bt_bk k hk i hi, decide_eq_true hi, Bool.true_and]
  rcases Nat.lt_trichotomy i k with q | q | q
  · rw [hl i q, decide_eq_false (show ¬ i = k by omega), Bool.false_and]
  · subst q
    have : decide (∃ j, j < i ∧ bt x j = true) = false := decide_eq_false (fun ⟨j, hj, e⟩ => by rw [hl j hj] at e; cases e)
    rw [hb, this, decide_eq_true rfl]; rfl
  · have : decide (∃ j, j < i ∧ bt x j = true) = true := decide_eq_true ⟨k, q, hb⟩
    rw [this, decide_eq_false (show ¬ i = k by omega)]
    cases bt x i <;> rfl
def bcF (x0 : Int64) : Int32 :=
  let x1 : Int64 := x0 - (((x0.toUInt64 >>> ((1 : Int32).toInt64.toUInt64 &&& Int64.toUInt64 63)).toInt64) &&& 6148914691236517205)
  let x2 : Int64 := (x1 &&& 3689348814741910323) + (((x1.toUInt64 >>> ((2 : Int32).toInt64.toUInt64 &&& Int64.toUInt64 63)).toInt64) &&& 3689348814741910323)
  let x3 : Int64 := (x2 + ((x2.toUInt64 >>> ((4 : Int32).toInt64.toUInt64 &&& Int64.toUInt64 63)).toInt64)) &&& 1085102592571150095
  let x4 : Int64 := x3 + ((x3.toUInt64 >>> ((8 : Int32).toInt64.toUInt64 &&& Int64.toUInt64 63)).toInt64)
  let x5 : Int64 := x4 + ((x4.toUInt64 >>> ((16 : Int32).toInt64.toUInt64 &&& Int64.toUInt64 63)).toInt64)
  let x6 : Int64 := x5 + ((x5.toUInt64 >>> ((32 : Int32).toInt64.toUInt64 &&& Int64.toUInt64 63)).toInt64)
  (x6.toInt32) &&& 127
theorem xe_bc {post : Int32 → Prop} {x : Int64} (h : post (bcF x)) : wp_J13_bitCount_95d88 post x := by
  intro a1 h1 a2 h2 a3 h3 a4 h4 a5 h5 a6 h6
  subst h1; subst h2; subst h3; subst h4; subst h5; subst h6
  exact h
theorem bc_bk : ∀ k, k < 64 → bcF (bk k - 1) = nI k := by decide +kernel
def nx (σ : XS) (c a b : Nat) : Prop := b < c ∧ (wy0 (xQ σ 1 a) (xL σ 6 a) a = some b ∨ wy1 (xQ σ 1 a) (xL σ 6 a) a = some b)
/-- what WAYS from v come to, not going on from y -/
def XW (σ : XS) (c : Nat) (v : Int32) (y : Int64) : Nat → Prop := Cl (fun b => b < c ∧ v = nI b) (fun a b => bt y a = false ∧ nx σ c a b)
theorem XW_lt {σ : XS} {c : Nat} {v : Int32} {y : Int64} : ∀ b, XW σ c v y b → b < c := Cl_ind (fun b h => h.1) (fun a b _ _ e => e.2.1)
section WK
variable {σ : XS} {c : Nat}
theorem xe_bitO {post : Int64 → XS → Prop} {o : Option Nat} (hc : c ≤ 64) (e : xI σ 8 = nI c) (ho : ∀ t, o = some t → t ≤ 64) (h : ∀ r : Int64, (∀ b, b < 64 → (bt r b = true ↔ (b < c ∧ o = some b))) → post r σ) : wp_X0_bitOf post (oI o (-1)) σ := by
  refine xe_hasC hc e (fun j hj q => ⟨fun z => absurd z (by decide), fun _ => h _ (fun b hb => ?_)⟩) (fun hn => ⟨fun _ => h 0 (fun b hb => ?_), fun z => absurd rfl z⟩)
  · have eo : o = some j := by
      cases o with
      | none => exact absurd (show nI j = -1 from q.symm) (nI_ne1 (by omega))
      | some t =>
        have := ho t rfl
        rw [(nI_eq (by omega) (by omega)).mp (show nI t = nI j from q)]
    show bt ((1 : Int64) <<< ((oI o (-1)).toInt64 &&& 63)) b = true ↔ _
    rw [q]
    show bt (bk j) b = true ↔ _
    rw [bt_bk j (by omega) b hb, eo, decide_eq_true_eq]
    exact ⟨fun z => ⟨by omega, by rw [z]⟩, fun z => (Option.some.inj z.2).symm⟩
  · rw [bt_0]
    exact ⟨fun z => (by cases z), fun z => absurd (show oI o (-1) = nI b by rw [z.2]; rfl) (hn b z.1)⟩
theorem xe_bitV {post : Int64 → XS → Prop} {v : Int32} (hc : c ≤ 64) (e : xI σ 8 = nI c) (h : ∀ r : Int64, (∀ b, b < 64 → (bt r b = true ↔ (b < c ∧ v = nI b))) → post r σ) : wp_X0_bitOf post v σ := by
  refine xe_hasC hc e (fun j hj q => ⟨fun z => absurd z (by decide), fun _ => h _ (fun b hb => ?_)⟩) (fun hn => ⟨fun _ => h 0 (fun b hb => ?_), fun z => absurd rfl z⟩)
  · show bt ((1 : Int64) <<< (v.toInt64 &&& 63)) b = true ↔ _
    rw [q]
    show bt (bk j) b = true ↔ _
    rw [bt_bk j (by omega) b hb, decide_eq_true_eq]
    exact ⟨fun z => ⟨by omega, by rw [z]⟩, fun z => ((nI_eq (by omega) (by omega)).mp z.2).symm⟩
  · rw [bt_0]
    exact ⟨fun z => (by cases z), fun z => absurd z.2 (hn b z.1)⟩
theorem xe_bitK {post : Int64 → XS → Prop} {k : Nat} (hc : c ≤ 64) (e : xI σ 8 = nI c) (hk : k < c) (h : post (bk k) σ) : wp_X0_bitOf post (nI k) σ := xe_hasT hc e hk ⟨fun z => absurd z (by decide), fun _ => h⟩
theorem bfalse {b : Bool} (h : ¬ b = true) : b = false := by
  cases b with
  | false => rfl
  | true => exact absurd rfl h
theorem xe_walk {post : Int64 → XS → Prop} {v : Int32} {y : Int64} (hc : c ≤ 64) (e : xI σ 8 = nI c) (hck : ∀ k, k < c → ckX σ k) (h : ∀ r : Int64, (∀ b, b < 64 → (bt r b = true ↔ XW σ c v y b)) → post r σ) : wp_X7_walk post v y σ := by
  have fin : ∀ (seen op : Int64), (∀ b, b < 64 → bt seen b = true → XW σ c v y b) → (∀ a, a < 64 → bt seen a = true → bt op a = false → bt y a = false → ∀ b, nx σ c a b → bt seen b = true) → (∀ b, b < c → v = nI b → bt seen b = true) → (∀ b, b < 64 → bt op b = false) → post seen σ := by
    intro seen op i1 i3 i4 i0
    refine h seen (fun b hb => ⟨i1 b hb, fun r => ?_⟩)
    refine (Cl_ind (P := fun b => b < 64 ∧ bt seen b = true) (fun b q => ⟨by omega, i4 b q.1 q.2⟩) (fun a b _ q z => ⟨by have := z.2.1; omega, ?_⟩) b r).2
    exact i3 a q.1 q.2 (i0 a q.1) z.1 b z.2
  have main : ∀ (d j : Nat) (seen op : Int64), j + d = 64 → (∀ b, b < 64 → bt seen b = true → XW σ c v y b) → (∀ b, b < 64 → bt op b = true → bt seen b = true ∧ bt y b = false) → (∀ a, a < 64 → bt seen a = true → bt op a = false → bt y a = false → ∀ b, nx σ c a b → bt seen b = true) → (∀ b, b < c → v = nI b → bt seen b = true) → j ≤ cn (fun b => bt seen b && !bt op b && !bt y b) 64 → wL_X7_walk_23 post (d + 1) y seen op (nI j) σ := by
    intro d
    induction d with
    | zero =>
      intro j seen op hj i1 i2 i3 i4 i5
      have hle := cn_le (fun b => bt seen b && !bt op b && !bt y b) 64
      have hall := cn_full (f := fun b => bt seen b && !bt op b && !bt y b) 64 (by omega)
      refine ⟨fun _ => fin seen op i1 i3 i4 (fun b hb => ?_), fun z => absurd (show (64 : Int32) ≤ nI j by rw [show j = 64 by omega]; decide) z⟩
      have := hall b hb
      simp only [Bool.and_eq_true, Bool.not_eq_true'] at this
      exact this.1.2
    | succ d ih =>
      intro j seen op hj i1 i2 i3 i4 i5
      refine ⟨fun z => absurd z (nI_ge (a := j) (b := 64) (by omega) (by decide)), fun _ => ⟨fun z => fin seen op i1 i3 i4 (fun b hb => by rw [z, bt_0]), fun hne => ?_⟩⟩
      obtain ⟨k, hk, hb, hl⟩ := bt_some hne
      intro lw hlw
      rw [low_bk hk hb hl] at hlw
      subst hlw
      have hkc : k < c := XW_lt k (i1 k hk (i2 k hk hb).1)
      refine xe_bc ?_
      rw [bc_bk k hk]
      refine xe_first hc e hkc (hck k hkc) (xe_bitO hc e (fun t ht => wy0_le (hck k hkc).1 hk ht) (fun r9 h9 => xe_second hc e hkc (hck k hkc) (xe_bitO hc e (fun t ht => by rw [wy1_eq ht]; omega) (fun r13 h13 => ?_))))
      intro fr hfr sn hsn on hon j' hj'
      have bf : ∀ b, b < 64 → (bt fr b = true ↔ (nx σ c k b ∧ bt seen b = false)) := fun b hb => by
        rw [hfr, bt_and, bt_or, bt_not _ hb, Bool.and_eq_true, Bool.or_eq_true, h9 b hb, h13 b hb, Bool.not_eq_true']
        exact ⟨fun ⟨z1, z2⟩ => ⟨z1.elim (fun q => ⟨q.1, Or.inl q.2⟩) (fun q => ⟨q.1, Or.inr q.2⟩), z2⟩, fun ⟨z1, z2⟩ => ⟨z1.2.elim (fun q => Or.inl ⟨z1.1, q⟩) (fun q => Or.inr ⟨z1.1, q⟩), z2⟩⟩
      have bs : ∀ b, b < 64 → (bt sn b = true ↔ (bt seen b = true ∨ bt fr b = true)) := fun b hb => by rw [hsn, bt_or, Bool.or_eq_true]
      have bo : ∀ b, b < 64 → (bt on b = true ↔ ((bt op b = true ∧ ¬ b = k) ∨ (bt fr b = true ∧ bt y b = false))) := fun b hb => by
        rw [hon, bt_or, bt_xor, bt_and, bt_not _ hb, bt_bk k hk b hb, Bool.or_eq_true, Bool.and_eq_true, Bool.not_eq_true']
        refine or_congr ?_ Iff.rfl
        by_cases q : b = k
        · subst q
          rw [decide_eq_true rfl]
          have : bt op b = true := by assumption
          rw [this]
          exact ⟨fun z => (by cases z), fun z => absurd rfl z.2⟩
        · rw [decide_eq_false q, Bool.xor_false]
          exact ⟨fun z => ⟨z, q⟩, fun z => z.1⟩
      have hyk := (i2 k hk hb).2
      have hsk := (i2 k hk hb).1
      rw [hj', nI_1]
      refine ih (j + 1) sn on (by omega) (fun b hb z => ?_) (fun b hb z => ?_) (fun a ha z1 z2 z3 b z4 => ?_) (fun b hb z => ?_) ?_
      · rcases (bs b hb).mp z with q | q
        · exact i1 b hb q
        · exact Cl_s (i1 k hk hsk) ⟨hyk, ((bf b hb).mp q).1⟩
      · rcases (bo b hb).mp z with q | q
        · exact ⟨(bs b hb).mpr (Or.inl (i2 b hb q.1).1), (i2 b hb q.1).2⟩
        · exact ⟨(bs b hb).mpr (Or.inr q.1), q.2⟩
      · have hb64 : b < 64 := by have := z4.1; omega
        by_cases q : a = k
        · subst q
          rw [bs b hb64]
          cases hs : bt seen b with
          | true => exact Or.inl rfl
          | false => exact Or.inr ((bf b hb64).mpr ⟨z4, hs⟩)
        · rcases (bs a ha).mp z1 with w | w
          · have hoa : bt op a = false := bfalse (fun u => by rw [(bo a ha).mpr (Or.inl ⟨u, q⟩)] at z2; cases z2)
            exact (bs b hb64).mpr (Or.inl (i3 a ha w hoa z3 b z4))
          · rw [(bo a ha).mpr (Or.inr ⟨w, z3⟩)] at z2; cases z2
      · exact (bs b (by omega)).mpr (Or.inl (i4 b hb z))
      · refine Nat.le_trans (Nat.succ_le_succ i5) (cn_grow (k := k) 64 hk (fun b hb z => ?_) ?_ ?_)
        · simp only [Bool.and_eq_true, Bool.not_eq_true'] at z ⊢
          refine ⟨⟨(bs b hb).mpr (Or.inl z.1.1), bfalse (fun u => ?_)⟩, z.2⟩
          rcases (bo b hb).mp u with q | q
          · rw [z.1.2] at q; cases q.1
          · have := ((bf b hb).mp q.1).2
            rw [z.1.1] at this; cases this
        · simp only [hb, Bool.not_true, Bool.and_false, Bool.false_and]
        · simp only [Bool.and_eq_true, Bool.not_eq_true']
          refine ⟨⟨(bs k hk).mpr (Or.inl hsk), bfalse (fun u => ?_)⟩, hyk⟩
          rcases (bo k hk).mp u with q | q
          · exact q.2 rfl
          · have := ((bf k hk).mp q.1).2
            rw [hsk] at this; cases this
  refine xe_bitV hc e (fun r hr x6 hx => ⟨65, main 64 0 r x6 (by omega) (fun b hb z => Cl_0 ((hr b hb).mp z)) (fun b hb z => ?_) (fun a ha z1 z2 z3 => ?_) (fun b hb z => (hr b (by omega)).mpr ⟨hb, z⟩) (Nat.zero_le _)⟩)
  · rw [hx, bt_and, bt_not _ hb, Bool.and_eq_true, Bool.not_eq_true'] at z; exact z
  · rw [hx, bt_and, bt_not _ ha, z1, z3] at z2; cases z2
end WK
