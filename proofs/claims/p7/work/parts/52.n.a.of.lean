/-! a long's fields; whether a TEXT makes it, by the reference and by the class -/
abbrev bt (x : Int64) (i : Nat) : Bool := x.toBitVec.getLsbD i
abbrev fD (x : Int64) : Int32 := ((x >>> ((8 : Int32).toInt64 &&& 63)) &&& 15).toInt32
abbrev fA (x : Int64) : Int32 := ((x >>> ((12 : Int32).toInt64 &&& 63)) &&& 15).toInt32
abbrev fB (x : Int64) : Int32 := ((x >>> ((16 : Int32).toInt64 &&& 63)) &&& 15).toInt32
abbrev fG (x : Int64) : Int32 := ((x >>> ((20 : Int32).toInt64 &&& 63)) &&& 15).toInt32
abbrev fZ (x : Int64) : Int64 := (x >>> ((24 : Int32).toInt64 &&& 63)) &&& 255
abbrev fN (x : Int64) : Int32 := (x >>> ((32 : Int32).toInt64 &&& 63)).toInt32
theorem bt_0 (i : Nat) : bt 0 i = false := by
  show (0 : Int64).toBitVec.getLsbD i = false
  rw [Int64.toBitVec_zero, BitVec.getLsbD_zero]
theorem bt_and (x y : Int64) (i : Nat) : bt (x &&& y) i = (bt x i && bt y i) := by
  show (x &&& y).toBitVec.getLsbD i = _
  rw [Int64.toBitVec_and, BitVec.getLsbD_and]
theorem bt_or (x y : Int64) (i : Nat) : bt (x ||| y) i = (bt x i || bt y i) := by
  show (x ||| y).toBitVec.getLsbD i = _
  rw [Int64.toBitVec_or, BitVec.getLsbD_or]
theorem bt_xor (x y : Int64) (i : Nat) : bt (x ^^^ y) i = (bt x i ^^ bt y i) := by
  show (x ^^^ y).toBitVec.getLsbD i = _
  rw [Int64.toBitVec_xor, BitVec.getLsbD_xor]
theorem bt_ext {x y : Int64} (h : ∀ i, i < 64 → bt x i = bt y i) : x = y := by
  apply Int64.toBitVec_inj.mp
  apply BitVec.eq_of_getLsbD_eq
  exact h
theorem bt_shr (x c : Int64) {s i : Nat} (hc : (c.toBitVec.smod 64).toNat = s) (hi : s + i < 64) : bt (x >>> c) i = bt x (s + i) := by
  show (x >>> c).toBitVec.getLsbD i = _
  rw [Int64.toBitVec_shiftRight, BitVec.sshiftRight_eq', BitVec.getLsbD_sshiftRight, hc, if_pos hi]
  have h1 : decide (64 ≤ i) = false := decide_eq_false (by omega)
  rw [h1]
  rfl
theorem bt_i32 (y : Int64) {i : Nat} (hi : i < 32) : y.toInt32.toBitVec.getLsbD i = bt y i := by
  rw [Int64.toBitVec_toInt32, BitVec.getLsbD_signExtend, if_pos (by omega), decide_eq_true hi, Bool.true_and]
theorem msk_iff (x b M : Int64) : (x ^^^ b) &&& M = 0 ↔ ∀ i, i < 64 → bt M i = true → bt x i = bt b i := by
  constructor
  · intro h i hi hM
    have e : bt ((x ^^^ b) &&& M) i = bt 0 i := by rw [h]
    rw [bt_and, bt_xor, hM, bt_0, Bool.and_true] at e
    revert e
    cases bt x i <;> cases bt b i <;> decide
  · intro h
    refine bt_ext (fun i hi => ?_)
    rw [bt_and, bt_xor, bt_0]
    cases hM : bt M i with
    | false => rw [Bool.and_false]
    | true => rw [h i hi hM, Bool.xor_self, Bool.false_and]
theorem f32_iff (x b c m : Int64) {s k : Nat} (hc : (c.toBitVec.smod 64).toNat = s) (hk : k ≤ 32) (hs : s + k ≤ 64) (hm : ∀ i, i < 32 → bt m i = decide (i < k)) : ((x >>> c) &&& m).toInt32 = ((b >>> c) &&& m).toInt32 ↔ ∀ i, s ≤ i → i < s + k → bt x i = bt b i := by
  constructor
  · intro h i h1 h2
    have e : ((x >>> c) &&& m).toInt32.toBitVec.getLsbD (i - s) = ((b >>> c) &&& m).toInt32.toBitVec.getLsbD (i - s) := by rw [h]
    rw [bt_i32 _ (by omega), bt_i32 _ (by omega), bt_and, bt_and, hm _ (by omega), decide_eq_true (by omega), Bool.and_true, Bool.and_true, bt_shr x c hc (by omega), bt_shr b c hc (by omega), show s + (i - s) = i by omega] at e
    exact e
  · intro h
    apply Int32.toBitVec_inj.mp
    apply BitVec.eq_of_getLsbD_eq
    intro i hi
    rw [bt_i32 _ hi, bt_i32 _ hi, bt_and, bt_and, hm _ hi]
    by_cases q : i < k
    · rw [bt_shr x c hc (by omega), bt_shr b c hc (by omega), h (s + i) (by omega) (by omega)]
    · rw [decide_eq_false q, Bool.and_false, Bool.and_false]
theorem f64_iff (x b c m : Int64) {s k : Nat} (hc : (c.toBitVec.smod 64).toNat = s) (hs : s + k ≤ 64) (hm : ∀ i, i < 64 → bt m i = decide (i < k)) : (x >>> c) &&& m = (b >>> c) &&& m ↔ ∀ i, s ≤ i → i < s + k → bt x i = bt b i := by
  constructor
  · intro h i h1 h2
    have e : bt ((x >>> c) &&& m) (i - s) = bt ((b >>> c) &&& m) (i - s) := by rw [h]
    rw [bt_and, bt_and, hm _ (by omega), decide_eq_true (by omega), Bool.and_true, Bool.and_true, bt_shr x c hc (by omega), bt_shr b c hc (by omega), show s + (i - s) = i by omega] at e
    exact e
  · intro h
    refine bt_ext (fun i hi => ?_)
    rw [bt_and, bt_and, hm _ hi]
    by_cases q : i < k
    · rw [bt_shr x c hc (by omega), bt_shr b c hc (by omega), h (s + i) (by omega) (by omega)]
    · rw [decide_eq_false q, Bool.and_false, Bool.and_false]
theorem b15 : ∀ i, i < 32 → bt 15 i = decide (i < 4) := by decide +kernel
theorem b255 : ∀ i, i < 64 → bt 255 i = decide (i < 8) := by decide +kernel
theorem fD_iff (x b : Int64) : fD x = fD b ↔ ∀ i, 8 ≤ i → i < 12 → bt x i = bt b i := f32_iff x b _ 15 (k := 4) (by decide) (by omega) (by omega) b15
theorem fA_iff (x b : Int64) : fA x = fA b ↔ ∀ i, 12 ≤ i → i < 16 → bt x i = bt b i := f32_iff x b _ 15 (k := 4) (by decide) (by omega) (by omega) b15
theorem fB_iff (x b : Int64) : fB x = fB b ↔ ∀ i, 16 ≤ i → i < 20 → bt x i = bt b i := f32_iff x b _ 15 (k := 4) (by decide) (by omega) (by omega) b15
theorem fZ_iff (x b : Int64) : fZ x = fZ b ↔ ∀ i, 24 ≤ i → i < 32 → bt x i = bt b i := f64_iff x b _ 255 (k := 8) (by decide) (by omega) b255
theorem fN_iff (x b : Int64) : fN x = fN b ↔ ∀ i, 32 ≤ i → i < 64 → bt x i = bt b i := by
  constructor
  · intro h i h1 h2
    have e : (fN x).toBitVec.getLsbD (i - 32) = (fN b).toBitVec.getLsbD (i - 32) := by rw [h]
    rw [bt_i32 _ (by omega), bt_i32 _ (by omega), bt_shr x _ (s := 32) (by decide) (by omega), bt_shr b _ (s := 32) (by decide) (by omega), show 32 + (i - 32) = i by omega] at e
    exact e
  · intro h
    apply Int32.toBitVec_inj.mp
    apply BitVec.eq_of_getLsbD_eq
    intro i hi
    rw [bt_i32 _ hi, bt_i32 _ hi, bt_shr x _ (s := 32) (by decide) (by omega), bt_shr b _ (s := 32) (by decide) (by omega), h (32 + i) (by omega) (by omega)]
theorem op64_iff (x b : Int64) : b &&& 255 = x &&& 255 ↔ ∀ i, i < 8 → bt x i = bt b i := by
  constructor
  · intro h i hi
    have e : bt (b &&& 255) i = bt (x &&& 255) i := by rw [h]
    rw [bt_and, bt_and, b255 i (by omega), decide_eq_true hi, Bool.and_true, Bool.and_true] at e
    exact e.symm
  · intro h
    refine bt_ext (fun i hi => ?_)
    rw [bt_and, bt_and, b255 i hi]
    by_cases q : i < 8
    · rw [h i q]
    · rw [decide_eq_false q, Bool.and_false, Bool.and_false]
theorem op32_iff (x b : Int64) : (b &&& 255).toInt32 = (x &&& 255).toInt32 ↔ ∀ i, i < 8 → bt x i = bt b i := by
  rw [← op64_iff]
  constructor
  · intro h
    obtain ⟨j, hj, e, -⟩ := low_of b
    obtain ⟨k, hk, e', -⟩ := low_of x
    have hh : ∀ j, j < 256 → (nI j).toInt64.toInt32 = nI j := by decide +kernel
    rw [e, e', hh j hj, hh k hk] at h
    rw [e, e', h]
  · intro h; rw [h]
/-! the reference -/
def fI (b : Bool) : Int32 := if b then 1 else 0
theorem fI_0 {b : Bool} (h : fI b = 0) : b = false := by
  cases b with
  | false => rfl
  | true => exact absurd h (by decide)
theorem fI_1 {b : Bool} (h : ¬ fI b = 0) : b = true := by
  cases b with
  | true => rfl
  | false => exact absurd rfl h
theorem fl2 {b : Bool} {p u v : Int32} {K : Int32 → Prop} (h : K (fI (b || (p == u || p == v)))) : (fI b = 0 → ((p = u → K 1) ∧ (¬ p = u → ((p = v → K 1) ∧ (¬ p = v → K 0))))) ∧ (¬ fI b = 0 → K 1) := by
  cases b with
  | true => exact ⟨fun z => absurd z (by decide), fun _ => h⟩
  | false =>
    refine ⟨fun _ => ⟨fun q => ?_, fun q => ⟨fun q2 => ?_, fun q2 => ?_⟩⟩, fun z => absurd rfl z⟩
    · rw [beq_iff_eq.mpr q] at h; exact h
    · rw [beq_iff_eq.mpr q2, beq_eq_false_iff_ne.mpr q] at h; exact h
    · rw [beq_eq_false_iff_ne.mpr q2, beq_eq_false_iff_ne.mpr q] at h; exact h
theorem fl3 {b : Bool} {p u v w : Int32} {K : Int32 → Prop} (h : K (fI (b || (p == u || (p == v || p == w))))) : (fI b = 0 → ((p = u → K 1) ∧ (¬ p = u → ((p = v → K 1) ∧ (¬ p = v → ((p = w → K 1) ∧ (¬ p = w → K 0))))))) ∧ (¬ fI b = 0 → K 1) := by
  cases b with
  | true => exact ⟨fun z => absurd z (by decide), fun _ => h⟩
  | false =>
    refine ⟨fun _ => ⟨fun q => ?_, fun q => ?_⟩, fun z => absurd rfl z⟩
    · rw [beq_iff_eq.mpr q] at h; exact h
    · rw [beq_eq_false_iff_ne.mpr q] at h
      exact (fl2 (b := false) h).1 rfl
theorem fl4 {b : Bool} {p u v w y : Int32} {K : Int32 → Prop} (h : K (fI (b || (p == u || (p == v || (p == w || p == y)))))) : (fI b = 0 → ((p = u → K 1) ∧ (¬ p = u → ((p = v → K 1) ∧ (¬ p = v → ((p = w → K 1) ∧ (¬ p = w → ((p = y → K 1) ∧ (¬ p = y → K 0))))))))) ∧ (¬ fI b = 0 → K 1) := by
  cases b with
  | true => exact ⟨fun z => absurd z (by decide), fun _ => h⟩
  | false =>
    refine ⟨fun _ => ⟨fun q => ?_, fun q => ?_⟩, fun z => absurd rfl z⟩
    · rw [beq_iff_eq.mpr q] at h; exact h
    · rw [beq_eq_false_iff_ne.mpr q] at h
      exact (fl3 (b := false) h).1 rfl
def flg (S : Int32 → Bool) (w : Nat) (b : Bool) : Nat → Bool
  | 0 => b
  | j + 1 => flg S w b j || S (partC w j)
def sD (p : Int32) : Bool := p == 68 || p == 100
def sA (p : Int32) : Bool := p == 65 || (p == 97 || p == 77)
def sB (p : Int32) : Bool := p == 66 || p == 98
def sN (p : Int32) : Bool := p == 78 || (p == 71 || (p == 77 || p == 80))
def tld (w : Nat) : Bool := decide (¬ nI w ≤ 21 ∧ ¬ 29 ≤ nI w)
def okM (p : Int32) (x : Int64) : Prop := (p = 100 → ¬ 3 < fD x) ∧ (p = 97 → ¬ 3 < fA x) ∧ (p = 98 → fB x ≤ 3) ∧ (p = 71 → ¬ fN x < 0 ∧ ¬ 63 < fN x) ∧ (p = 80 → ¬ fN x < 0 ∧ fN x ≤ 3)
def gOk (x : Int64) : Prop := fG x ≤ 0 ∨ 8 ≤ fG x
def fitP (w : Nat) (x : Int64) : Prop := opC w = (x &&& 255).toInt32 ∧ fZ x = 0 ∧ gOk x ∧ (tld w = true → fN x = nI w - 22) ∧ (∀ k, k < 4 → okM (partC w k) x) ∧ (flg sD w false 4 = true ∨ fD x = 0) ∧ (flg sA w false 4 = true ∨ fA x = 0) ∧ (flg sB w false 4 = true ∨ fB x = 0) ∧ (flg sN w (tld w) 4 = true ∨ fN x = 0)
theorem tld_bI (w : Nat) : bI (¬ nI w ≤ 21 ∧ ¬ 29 ≤ nI w) = fI (tld w) := by
  by_cases q : ¬ nI w ≤ 21 ∧ ¬ 29 ≤ nI w
  · rw [bI_pos q]; unfold tld; rw [decide_eq_true q]; rfl
  · rw [bI_neg q]; unfold tld; rw [decide_eq_false q]; rfl
theorem em_fits {post : Int32 → Prop} {w : Nat} {x : Int64} (hw : w < 53) (h1 : fitP w x → post 1) (h0 : ¬ fitP w x → post 0) : wp_X9_fits post (nI w) x := by
  have k42 : opC w = (x &&& 255).toInt32 → fZ x = 0 → gOk x → wB_X9_fits_42 post (nI w) x := by
    intro ho hz hg
    have k76 : (tld w = true → fN x = nI w - 22) → wB_X9_fits_76 post (nI w) x 0 0 0 (fI (tld w)) := by
      intro ht
      have main : ∀ (d j : Nat), j + d = 4 → (∀ k, k < j → okM (partC w k) x) → wL_X9_fits_79 post (d + 1) (nI w) x (fI (flg sD w false j)) (fI (flg sA w false j)) (fI (flg sB w false j)) (fI (flg sN w (tld w) j)) (nI j) := by
        intro d
        induction d with
        | zero =>
          intro j hj hok
          have hj4 : j = 4 := by omega
          subst hj4
          have f1 : (flg sD w false 4 = true ∨ fD x = 0) → (flg sA w false 4 = true ∨ fA x = 0) → (flg sB w false 4 = true ∨ fB x = 0) → (flg sN w (tld w) 4 = true ∨ fN x = 0) → isB 1 ∧ post 1 := fun a b c d => ⟨Or.inr rfl, h1 ⟨ho, hz, hg, ht, hok, a, b, c, d⟩⟩
          have f0 : ¬ fitP w x → isB 0 ∧ post 0 := fun z => ⟨Or.inl rfl, h0 z⟩
          have k351 : (flg sD w false 4 = true ∨ fD x = 0) → (flg sA w false 4 = true ∨ fA x = 0) → (flg sB w false 4 = true ∨ fB x = 0) → wB_X9_fits_351 post x (fI (flg sN w (tld w) 4)) := fun a b c => ⟨fun z => ⟨fun q => f1 a b c (Or.inr q), fun q => f0 (fun f => f.2.2.2.2.2.2.2.2.elim (fun y => absurd (y.symm.trans (fI_0 z)) (by decide)) q)⟩, fun z => f1 a b c (Or.inl (fI_1 z))⟩
          have k339 : (flg sD w false 4 = true ∨ fD x = 0) → (flg sA w false 4 = true ∨ fA x = 0) → wB_X9_fits_339 post x (fI (flg sB w false 4)) (fI (flg sN w (tld w) 4)) := fun a b => ⟨fun z => ⟨fun q => k351 a b (Or.inr q), fun q => f0 (fun f => f.2.2.2.2.2.2.2.1.elim (fun y => absurd (y.symm.trans (fI_0 z)) (by decide)) q)⟩, fun z => k351 a b (Or.inl (fI_1 z))⟩
          have k327 : (flg sD w false 4 = true ∨ fD x = 0) → wB_X9_fits_327 post x (fI (flg sA w false 4)) (fI (flg sB w false 4)) (fI (flg sN w (tld w) 4)) := fun a => ⟨fun z => ⟨fun q => k339 a (Or.inr q), fun q => f0 (fun f => f.2.2.2.2.2.2.1.elim (fun y => absurd (y.symm.trans (fI_0 z)) (by decide)) q)⟩, fun z => k339 a (Or.inl (fI_1 z))⟩
          exact ⟨fun _ => ⟨fun z => ⟨fun q => k327 (Or.inr q), fun q => f0 (fun f => f.2.2.2.2.2.1.elim (fun y => absurd (y.symm.trans (fI_0 z)) (by decide)) q)⟩, fun z => k327 (Or.inl (fI_1 z))⟩, fun z => absurd (by decide) z⟩
        | succ d ih =>
          intro j hj hok
          have b0 : ¬ okM (partC w j) x → post 0 := fun z => h0 (fun f => z (f.2.2.2.2.1 j (by omega)))
          have k310 : okM (partC w j) x → wB_X9_fits_310 post (wL_X9_fits_79 post (d + 1)) (nI w) x (fI (flg sD w false (j + 1))) (fI (flg sA w false (j + 1))) (fI (flg sB w false (j + 1))) (fI (flg sN w (tld w) (j + 1))) (nI j) := fun o u hu => by
            rw [hu, nI_1]
            refine ih (j + 1) (by omega) (fun k hk => ?_)
            rcases Nat.lt_or_ge k j with q | q
            · exact hok k q
            · rw [show k = j by omega]; exact o
          have k286 : ((partC w j) = 100 → ¬ 3 < fD x) → ((partC w j) = 97 → ¬ 3 < fA x) → ((partC w j) = 98 → fB x ≤ 3) → ((partC w j) = 71 → ¬ fN x < 0 ∧ ¬ 63 < fN x) → wB_X9_fits_286 post (wL_X9_fits_79 post (d + 1)) (nI w) x (fI (flg sD w false (j + 1))) (fI (flg sA w false (j + 1))) (fI (flg sB w false (j + 1))) (fI (flg sN w (tld w) (j + 1))) (nI j) (partC w j) := fun c1 c2 c3 c4 => ⟨fun z => ⟨fun q => b0 (fun o => (o.2.2.2.2 z).1 q), fun q1 => ⟨fun q2 => k310 ⟨c1, c2, c3, c4, fun _ => ⟨q1, q2⟩⟩, fun q => b0 (fun o => q (o.2.2.2.2 z).2)⟩⟩, fun z => k310 ⟨c1, c2, c3, c4, fun y => absurd y z⟩⟩
          have k263 : ((partC w j) = 100 → ¬ 3 < fD x) → ((partC w j) = 97 → ¬ 3 < fA x) → ((partC w j) = 98 → fB x ≤ 3) → wB_X9_fits_263 post (wL_X9_fits_79 post (d + 1)) (nI w) x (fI (flg sD w false (j + 1))) (fI (flg sA w false (j + 1))) (fI (flg sB w false (j + 1))) (fI (flg sN w (tld w) (j + 1))) (nI j) (partC w j) := fun c1 c2 c3 => ⟨fun z => ⟨fun q => b0 (fun o => (o.2.2.2.1 z).1 q), fun q1 => ⟨fun q => b0 (fun o => (o.2.2.2.1 z).2 q), fun q2 => k286 c1 c2 c3 (fun _ => ⟨q1, q2⟩)⟩⟩, fun z => k286 c1 c2 c3 (fun y => absurd y z)⟩
          have k246 : ((partC w j) = 100 → ¬ 3 < fD x) → ((partC w j) = 97 → ¬ 3 < fA x) → wB_X9_fits_246 post (wL_X9_fits_79 post (d + 1)) (nI w) x (fI (flg sD w false (j + 1))) (fI (flg sA w false (j + 1))) (fI (flg sB w false (j + 1))) (fI (flg sN w (tld w) (j + 1))) (nI j) (partC w j) := fun c1 c2 => ⟨fun z => ⟨fun q => k263 c1 c2 (fun _ => q), fun q => b0 (fun o => q (o.2.2.1 z))⟩, fun z => k263 c1 c2 (fun y => absurd y z)⟩
          have k231 : ((partC w j) = 100 → ¬ 3 < fD x) → wB_X9_fits_231 post (wL_X9_fits_79 post (d + 1)) (nI w) x (fI (flg sD w false (j + 1))) (fI (flg sA w false (j + 1))) (fI (flg sB w false (j + 1))) (fI (flg sN w (tld w) (j + 1))) (nI j) (partC w j) := fun c1 => ⟨fun z => ⟨fun q => b0 (fun o => o.2.1 z q), fun q => k246 c1 (fun _ => q)⟩, fun z => k246 c1 (fun y => absurd y z)⟩
          have k214 : wB_X9_fits_214 post (wL_X9_fits_79 post (d + 1)) (nI w) x (fI (flg sD w false (j + 1))) (fI (flg sA w false (j + 1))) (fI (flg sB w false (j + 1))) (nI j) (partC w j) (fI (flg sN w (tld w) (j + 1))) := ⟨fun z => ⟨fun q => b0 (fun o => o.1 z q), fun q => k231 (fun _ => q)⟩, fun z => k231 (fun y => absurd y z)⟩
          have k174 : wB_X9_fits_174 post (wL_X9_fits_79 post (d + 1)) (nI w) x (fI (flg sD w false (j + 1))) (fI (flg sA w false (j + 1))) (fI (flg sN w (tld w) j)) (nI j) (partC w j) (fI (flg sB w false (j + 1))) := fl4 (K := fun t => wB_X9_fits_214 post (wL_X9_fits_79 post (d + 1)) (nI w) x (fI (flg sD w false (j + 1))) (fI (flg sA w false (j + 1))) (fI (flg sB w false (j + 1))) (nI j) (partC w j) t) k214
          have k148 : wB_X9_fits_148 post (wL_X9_fits_79 post (d + 1)) (nI w) x (fI (flg sD w false (j + 1))) (fI (flg sB w false j)) (fI (flg sN w (tld w) j)) (nI j) (partC w j) (fI (flg sA w false (j + 1))) := fl2 (K := fun t => wB_X9_fits_174 post (wL_X9_fits_79 post (d + 1)) (nI w) x (fI (flg sD w false (j + 1))) (fI (flg sA w false (j + 1))) (fI (flg sN w (tld w) j)) (nI j) (partC w j) t) k174
          have k116 : wB_X9_fits_116 post (wL_X9_fits_79 post (d + 1)) (nI w) x (fI (flg sA w false j)) (fI (flg sB w false j)) (fI (flg sN w (tld w) j)) (nI j) (partC w j) (fI (flg sD w false (j + 1))) := fl3 (K := fun t => wB_X9_fits_148 post (wL_X9_fits_79 post (d + 1)) (nI w) x (fI (flg sD w false (j + 1))) (fI (flg sB w false j)) (fI (flg sN w (tld w) j)) (nI j) (partC w j) t) k148
          exact ⟨fun z => absurd z (nI_ge (a := j) (b := 4) (by omega) (by decide)), fun _ => sp_part hw (show j < 4 by omega) (fl2 (K := fun t => wB_X9_fits_116 post (wL_X9_fits_79 post (d + 1)) (nI w) x (fI (flg sA w false j)) (fI (flg sB w false j)) (fI (flg sN w (tld w) j)) (nI j) (partC w j) t) k116)⟩
      exact ⟨5, main 4 0 rfl (fun k hk => absurd hk (Nat.not_lt_zero k))⟩
    refine sp_isTold (sp_isTold ?_)
    rw [tld_bI]
    refine ⟨fun z => k76 (fun y => absurd (y.symm.trans (fI_0 z)) (by decide)), fun z => ⟨fun q => k76 (fun _ => q), fun q => h0 (fun f => q (f.2.2.2.1 (fI_1 z)))⟩⟩
  exact sp_opOf hw ⟨fun q1 => ⟨fun q2 => ⟨fun q3 => k42 q1 q2 (Or.inl q3), fun q3 => ⟨fun q4 => k42 q1 q2 (Or.inr q4), fun q4 => h0 (fun f => f.2.2.1.elim q3 q4)⟩⟩, fun q2 => h0 (fun f => q2 f.2.1)⟩, fun q1 => h0 (fun f => q1 f.1)⟩
/-! the class -/
def fldX (c : Int32) (x : Int64) : Int32 := if shC c = 32 then fN x else if shC c = (-1) then 0 else ((x >>> ((shC c).toInt64 &&& 63)) &&& 15).toInt32
theorem spx_fld {post : Int32 → Prop} {c : Int32} {x : Int64} (h : post (fldX c x)) : wp_X2_fieldOf post c x := by
  obtain ⟨h1, h2⟩ := ite_wp h
  refine spx_shiftOf ⟨fun q => h1 q, fun q => ?_⟩
  exact ite_wp (h2 q)
def leX (c : Int32) : Int32 := if c = 110 then (-2147483648) else 0
def moX (c : Int32) : Int32 := if c = 100 ∨ c = 97 ∨ c = 98 then 15 else if c = 68 ∨ c = 65 ∨ c = 66 ∨ c = 113 then 3 else if c = 116 then 63 else 2147483647
theorem spx_le {post : Int32 → Prop} {c : Int32} (h : post (leX c)) : wp_X2_leastOf post c := ite_wp h
theorem spx_mo {post : Int32 → Prop} {c : Int32} (h : post (moX c)) : wp_X2_mostOf post c := by
  obtain ⟨h1, h2⟩ := ite_wp h
  refine spx_isRegister ?_
  by_cases q : c = 100 ∨ c = 97 ∨ c = 98
  · rw [bI_pos q]; exact ⟨fun z => absurd z (by decide), fun _ => h1 q⟩
  · rw [bI_neg q]
    refine ⟨fun _ => spx_isPredicate ?_, fun z => absurd rfl z⟩
    obtain ⟨h3, h4⟩ := ite_wp (h2 q)
    by_cases q2 : c = 68 ∨ c = 65 ∨ c = 66 ∨ c = 113
    · rw [bI_pos q2]; exact ⟨fun z => absurd z (by decide), fun _ => h3 q2⟩
    · rw [bI_neg q2]
      exact ⟨fun _ => ite_wp (h4 q2), fun z => absurd rfl z⟩
def okX (c : Int32) (x : Int64) : Prop := ¬ fldX c x < leX c ∧ fldX c x ≤ moX c
def mkc (c : Int32) : Int64 := if shC c = (-1) then (-1) else if shC c = 32 then 4294967295 else ((15 : Int64) <<< ((shC c).toInt64 &&& 63)) ^^^ (-1)
def mmX (e : Nat) : Nat → Int64
  | 0 => (-15728641)
  | j + 1 => mmX e j &&& mkc (pcX e j)
abbrev lnX (e : Nat) : Nat := lenX.getD (pxI e) 0
def mkQ (e : Nat) (x : Int64) : Prop := gOk x ∧ (∀ j, j < lnX e → shC (pcX e j) = (-1) ∨ okX (pcX e j) x) ∧ (x ^^^ opB e) &&& mmX e (lnX e) = 0
def mkP (e : Nat) (x : Int64) : Prop := opB e &&& 255 = x &&& 255 ∧ mkQ e x
theorem and_m1 (y : Int64) : y &&& (-1) = y := by
  refine bt_ext (fun i hi => ?_)
  have h : ∀ i, i < 64 → bt (-1) i = true := by decide +kernel
  rw [bt_and, h i hi, Bool.and_true]
theorem xe_makes {post : Int32 → Prop} {e : Nat} {x : Int64} (he : e < 53) (h1 : mkQ e x → post 1) (h0 : ¬ mkQ e x → post 0) : wp_X2_makes post e x := by
  have hp := px_lt he
  have hL := px_len9 e he
  have hE : lnX e = lenX.getD (pxI e) 0 := rfl
  have main : gOk x → ∀ (d j : Nat), j + d = lnX e → (∀ i, i < j → shC (pcX e i) = (-1) ∨ okX (pcX e i) x) → wL_X2_makes_32 post (d + 1) e x ((x ^^^ opB e) &&& mmX e j) (nI j) := by
    intro hg d
    induction d with
    | zero =>
      intro j hj hok
      have hjl : j = lnX e := by omega
      refine ⟨he, hp, x_len hp ⟨fun _ => ⟨fun q => ⟨Or.inr rfl, h1 ⟨hg, fun i hi => hok i (by omega), by rw [← hjl]; exact q⟩⟩, fun q => ⟨Or.inl rfl, h0 (fun f => q (by rw [hjl]; exact f.2.2))⟩⟩, fun z => absurd (nI_le (by omega) (by omega)) z⟩⟩
    | succ d ih =>
      intro j hj hok
      refine ⟨he, hp, x_len hp ⟨fun z => absurd z (nI_ge (by omega) (by omega)), fun _ => ⟨he, hp, vp_in_nI (by omega) (by omega), fun c hc => ?_⟩⟩⟩
      rw [nI_clamp (by omega)] at hc
      have hc : c = pcX e j := hc
      subst hc
      have nx : ∀ m, m = mkc (pcX e j) → (shC (pcX e j) = (-1) ∨ okX (pcX e j) x) → wB_X2_makes_129 post (wL_X2_makes_32 post (d + 1)) e x (((x ^^^ opB e) &&& mmX e j) &&& m) (nI j) := fun m hm o u hu => by
        rw [hu, nI_1, Int64.and_assoc, hm]
        refine ih (j + 1) (by omega) (fun i hi => ?_)
        rcases Nat.lt_or_ge i j with q | q
        · exact hok i q
        · rw [show i = j by omega]; exact o
      have bad : ¬ shC (pcX e j) = (-1) → ¬ okX (pcX e j) x → post 0 := fun z y => h0 (fun f => (f.2.1 j (by omega)).elim z y)
      refine spx_shiftOf (spx_fld ⟨fun q => ?_, fun q => spx_le ⟨fun l => bad q (fun o => o.1 l), fun l => spx_mo ⟨fun m => ⟨fun s => ?_, fun s => ?_⟩, fun m => bad q (fun o => m o.2)⟩⟩⟩)
      · have := nx (-1) (by unfold mkc; rw [if_pos q]) (Or.inl q)
        rw [and_m1] at this
        exact this
      · intro y hy
        rw [hy]
        exact nx _ (by unfold mkc; rw [if_neg q, if_pos s]) (Or.inr ⟨l, m⟩)
      · intro y hy
        rw [hy]
        exact nx _ (by unfold mkc; rw [if_neg q, if_neg s]) (Or.inr ⟨l, m⟩)
  have k17 : gOk x → wB_X2_makes_17 post e x := fun hg => ⟨he, fun y hy => ⟨lnX e + 1, by rw [hy]; exact main hg (lnX e) 0 (by omega) (fun i hi => absurd hi (Nat.not_lt_zero i))⟩⟩
  exact ⟨fun q => k17 (Or.inl q), fun q => ⟨fun q2 => k17 (Or.inr q2), fun q2 => h0 (fun f => f.1.elim q q2)⟩⟩
/-- which Op a long is of: the first whose TEXT makes it -/
def isOf (x : Int64) : Option Nat → Prop
  | none => ∀ e, e < 53 → ¬ mkP e x
  | some e => e < 53 ∧ mkP e x ∧ ∀ f, f < e → ¬ mkP f x
theorem isOf_inj {x : Int64} {o p : Option Nat} (h : isOf x o) (g : isOf x p) : o = p := by
  cases o with
  | none =>
    cases p with
    | none => rfl
    | some e => exact absurd g.2.1 (h e g.1)
  | some e =>
    cases p with
    | none => exact absurd h.2.1 (g e h.1)
    | some f =>
      rcases Nat.lt_trichotomy e f with q | q | q
      · exact absurd h.2.1 (g.2.2 e q)
      · rw [q]
      · exact absurd g.2.1 (h.2.2 f q)
theorem xe_of {post : Option Nat → Prop} {x : Int64} (h : ∀ o, isOf x o → post o) : wp_X2_of post x := by
  have main : ∀ (d j : Nat), j + d = 53 → (∀ f, f < j → ¬ mkP f x) → wL_X2_of_2 post (d + 1) x (nI j) := by
    intro d
    induction d with
    | zero =>
      intro j hj hn
      exact ⟨fun _ => h none (fun e he => hn e (by omega)), fun z => absurd (show (53 : Int32) ≤ nI j by rw [show j = 53 by omega]; decide) z⟩
    | succ d ih =>
      intro j hj hn
      have ej : (nI j).toNatClampNeg = j := nI_clamp (by omega)
      have he : j < 53 := by omega
      have iv : vp_in (nI j) 53 := vp_in_nI he (by decide)
      have k : ¬ mkP j x → wB_X2_of_40 post (wL_X2_of_2 post (d + 1)) x (nI j) := fun z u hu => by
        rw [hu, nI_1]
        refine ih (j + 1) (by omega) (fun f hf => ?_)
        rcases Nat.lt_or_ge f j with q | q
        · exact hn f q
        · rw [show f = j by omega]; exact z
      refine ⟨fun z => absurd z (nI_ge (a := j) (b := 53) (by omega) (by decide)), fun _ => ?_⟩
      rw [ej]
      refine ⟨iv, he, he, fun q => ⟨Or.inr rfl, fun z => absurd z (by decide), fun _ => ⟨iv, he, xe_makes he (fun m => ⟨fun z => absurd z (by decide), fun _ => ⟨iv, h (some j) ⟨he, ⟨q, m⟩, hn⟩⟩⟩) (fun m => ⟨fun _ => k (fun f => m f.2), fun z => absurd rfl z⟩)⟩⟩, fun q => ⟨Or.inl rfl, fun _ => k (fun f => q f.1), fun z => absurd rfl z⟩⟩
  exact ⟨54, main 53 0 rfl (fun f hf => absurd hf (Nat.not_lt_zero f))⟩
/-! they are one -/
def hM (w : Nat) (p : Int32) : Bool := (List.range 4).any (fun k => partC w k == p)
def hX (e : Nat) (c : Int32) : Bool := (List.range (lnX e)).any (fun j => pcX e j == c)
theorem hM_iff {w : Nat} {p : Int32} : hM w p = true ↔ ∃ k, k < 4 ∧ partC w k = p := by
  unfold hM
  rw [List.any_eq_true]
  exact ⟨fun ⟨k, hk, e⟩ => ⟨k, List.mem_range.mp hk, beq_iff_eq.mp e⟩, fun ⟨k, hk, e⟩ => ⟨k, List.mem_range.mpr hk, beq_iff_eq.mpr e⟩⟩
theorem hX_iff {e : Nat} {c : Int32} : hX e c = true ↔ ∃ j, j < lnX e ∧ pcX e j = c := by
  unfold hX
  rw [List.any_eq_true]
  exact ⟨fun ⟨k, hk, e⟩ => ⟨k, List.mem_range.mp hk, beq_iff_eq.mp e⟩, fun ⟨k, hk, e⟩ => ⟨k, List.mem_range.mpr hk, beq_iff_eq.mpr e⟩⟩
theorem pm_has : ∀ w, w < 53 → hM w 100 = hX (pm w) 68 ∧ hM w 97 = hX (pm w) 65 ∧ hM w 98 = hX (pm w) 66 ∧ hM w 71 = hX (pm w) 116 ∧ hM w 80 = hX (pm w) 113 := by decide +kernel
theorem pm_b1 : ∀ w, w < 53 → opC w = (opB (pm w) &&& 255).toInt32 := by decide +kernel
theorem pm_b2 : ∀ w, w < 53 → fD (opB (pm w)) = 0 ∧ fA (opB (pm w)) = 0 ∧ fB (opB (pm w)) = 0 ∧ fZ (opB (pm w)) = 0 ∧ fN (opB (pm w)) = if tld w then nI w - 22 else 0 := by decide +kernel
theorem pm_mm : ∀ w, w < 53 → ∀ i, i < 64 → bt (mmX (pm w) (lnX (pm w))) i = (decide (i < 8) || (decide (8 ≤ i ∧ i < 12) && !flg sD w false 4) || (decide (12 ≤ i ∧ i < 16) && !flg sA w false 4) || (decide (16 ≤ i ∧ i < 20) && !flg sB w false 4) || decide (24 ≤ i ∧ i < 32) || (decide (32 ≤ i) && !flg sN w false 4)) := by decide +kernel
theorem pm_n : ∀ w, w < 53 → flg sN w (tld w) 4 = (tld w || flg sN w false 4) ∧ (tld w && flg sN w false 4) = false := by decide +kernel
theorem pm_un : ∀ w, w < 53 → ∀ v, v < 53 → opC w = opC v → w = v ∨ (tld w && tld v) = true ∨ (w = 0 ∧ v = 52) ∨ (w = 52 ∧ v = 0) := by decide +kernel
theorem tld_sub : ∀ w, w < 53 → ∀ v, v < 53 → nI w - 22 = nI v - 22 → w = v := by decide +kernel
theorem okX_let {c : Int32} {x : Int64} (hs : ¬ shC c = (-1)) : okX c x ↔ (c = 68 → fD x ≤ 3) ∧ (c = 65 → fA x ≤ 3) ∧ (c = 66 → fB x ≤ 3) ∧ (c = 116 → ¬ fN x < 0 ∧ fN x ≤ 63) ∧ (c = 113 → ¬ fN x < 0 ∧ fN x ≤ 3) := by
  have a8 := and15 (x >>> ((8 : Int32).toInt64 &&& 63))
  have a12 := and15 (x >>> ((12 : Int32).toInt64 &&& 63))
  have a16 := and15 (x >>> ((16 : Int32).toInt64 &&& 63))
  have lo : ∀ j, j < 16 → ¬ nI j < 0 ∧ nI j ≤ 15 := by decide +kernel
  have hD : ¬ fD x < 0 ∧ fD x ≤ 15 := by obtain ⟨j, hj, e⟩ := a8; show ¬ fD x < 0 ∧ fD x ≤ 15; rw [show fD x = nI j from e]; exact lo j hj
  have hA : ¬ fA x < 0 ∧ fA x ≤ 15 := by obtain ⟨j, hj, e⟩ := a12; rw [show fA x = nI j from e]; exact lo j hj
  have hB : ¬ fB x < 0 ∧ fB x ≤ 15 := by obtain ⟨j, hj, e⟩ := a16; rw [show fB x = nI j from e]; exact lo j hj
  have hN : ¬ fN x < (-2147483648) ∧ fN x ≤ 2147483647 := by
    have e1 : (-2147483648 : Int32).toInt = -2147483648 := by decide
    have e2 : (2147483647 : Int32).toInt = 2147483647 := by decide
    have h1 := (fN x).le_toInt
    have h2 := (fN x).toInt_lt
    constructor
    · rw [Int32.lt_iff_toInt_lt, e1]; omega
    · rw [Int32.le_iff_toInt_le, e2]; omega
  by_cases c1 : c = 100
  · subst c1; exact ⟨fun _ => ⟨fun z => absurd z (by decide), fun z => absurd z (by decide), fun z => absurd z (by decide), fun z => absurd z (by decide), fun z => absurd z (by decide)⟩, fun _ => hD⟩
  by_cases c2 : c = 68
  · subst c2; exact ⟨fun o => ⟨fun _ => o.2, fun z => absurd z (by decide), fun z => absurd z (by decide), fun z => absurd z (by decide), fun z => absurd z (by decide)⟩, fun o => ⟨hD.1, o.1 rfl⟩⟩
  by_cases c3 : c = 97
  · subst c3; exact ⟨fun _ => ⟨fun z => absurd z (by decide), fun z => absurd z (by decide), fun z => absurd z (by decide), fun z => absurd z (by decide), fun z => absurd z (by decide)⟩, fun _ => hA⟩
  by_cases c4 : c = 65
  · subst c4; exact ⟨fun o => ⟨fun z => absurd z (by decide), fun _ => o.2, fun z => absurd z (by decide), fun z => absurd z (by decide), fun z => absurd z (by decide)⟩, fun o => ⟨hA.1, o.2.1 rfl⟩⟩
  by_cases c5 : c = 98
  · subst c5; exact ⟨fun _ => ⟨fun z => absurd z (by decide), fun z => absurd z (by decide), fun z => absurd z (by decide), fun z => absurd z (by decide), fun z => absurd z (by decide)⟩, fun _ => hB⟩
  by_cases c6 : c = 66
  · subst c6; exact ⟨fun o => ⟨fun z => absurd z (by decide), fun z => absurd z (by decide), fun _ => o.2, fun z => absurd z (by decide), fun z => absurd z (by decide)⟩, fun o => ⟨hB.1, o.2.2.1 rfl⟩⟩
  by_cases c7 : c = 113
  · subst c7; exact ⟨fun o => ⟨fun z => absurd z (by decide), fun z => absurd z (by decide), fun z => absurd z (by decide), fun z => absurd z (by decide), fun _ => o⟩, fun o => o.2.2.2.2 rfl⟩
  by_cases c8 : c = 110
  · subst c8; exact ⟨fun _ => ⟨fun z => absurd z (by decide), fun z => absurd z (by decide), fun z => absurd z (by decide), fun z => absurd z (by decide), fun z => absurd z (by decide)⟩, fun _ => hN⟩
  by_cases c9 : c = 116
  · subst c9; exact ⟨fun o => ⟨fun z => absurd z (by decide), fun z => absurd z (by decide), fun z => absurd z (by decide), fun _ => o, fun z => absurd z (by decide)⟩, fun o => o.2.2.2.1 rfl⟩
  · exact absurd (by unfold shC; rw [if_neg c1, if_neg c2, if_neg c3, if_neg c4, if_neg c5, if_neg c6, if_neg c7, if_neg c8, if_neg c9]) hs
theorem ok_iff {w : Nat} {x : Int64} (hw : w < 53) : (∀ k, k < 4 → okM (partC w k) x) ↔ ∀ j, j < lnX (pm w) → shC (pcX (pm w) j) = (-1) ∨ okX (pcX (pm w) j) x := by
  obtain ⟨e1, e2, e3, e4, e5⟩ := pm_has w hw
  constructor
  · intro h j hj
    by_cases q : shC (pcX (pm w) j) = (-1)
    · exact Or.inl q
    refine Or.inr ((okX_let q).mpr ⟨fun z => ?_, fun z => ?_, fun z => ?_, fun z => ?_, fun z => ?_⟩)
    · obtain ⟨k, hk, e⟩ := hM_iff.mp (e1.trans (hX_iff.mpr ⟨j, hj, z⟩)); exact Int32.not_lt.mp ((h k hk).1 e)
    · obtain ⟨k, hk, e⟩ := hM_iff.mp (e2.trans (hX_iff.mpr ⟨j, hj, z⟩)); exact Int32.not_lt.mp ((h k hk).2.1 e)
    · obtain ⟨k, hk, e⟩ := hM_iff.mp (e3.trans (hX_iff.mpr ⟨j, hj, z⟩)); exact (h k hk).2.2.1 e
    · obtain ⟨k, hk, e⟩ := hM_iff.mp (e4.trans (hX_iff.mpr ⟨j, hj, z⟩)); have := (h k hk).2.2.2.1 e; exact ⟨this.1, Int32.not_lt.mp this.2⟩
    · obtain ⟨k, hk, e⟩ := hM_iff.mp (e5.trans (hX_iff.mpr ⟨j, hj, z⟩)); exact (h k hk).2.2.2.2 e
  · intro h k hk
    have get : ∀ (p c : Int32), hM w p = hX (pm w) c → ¬ shC c = (-1) → partC w k = p → okX c x := fun p c e hc z => by
      obtain ⟨j, hj, ej⟩ := hX_iff.mp (e.symm.trans (hM_iff.mpr ⟨k, hk, z⟩))
      have := h j hj
      rw [ej] at this
      exact this.resolve_left hc
    refine ⟨fun z => ?_, fun z => ?_, fun z => ?_, fun z => ?_, fun z => ?_⟩
    · exact Int32.not_lt.mpr (((okX_let (by decide)).mp (get _ _ e1 (by decide) z)).1 rfl)
    · exact Int32.not_lt.mpr (((okX_let (by decide)).mp (get _ _ e2 (by decide) z)).2.1 rfl)
    · exact ((okX_let (by decide)).mp (get _ _ e3 (by decide) z)).2.2.1 rfl
    · have := ((okX_let (by decide)).mp (get _ _ e4 (by decide) z)).2.2.2.1 rfl; exact ⟨this.1, Int32.not_lt.mpr this.2⟩
    · exact ((okX_let (by decide)).mp (get _ _ e5 (by decide) z)).2.2.2.2 rfl
theorem fit_iff {w : Nat} {x : Int64} (hw : w < 53) : fitP w x ↔ mkP (pm w) x := by
  obtain ⟨bD, bA, bB, bZ, bN⟩ := pm_b2 w hw
  obtain ⟨n1, n2⟩ := pm_n w hw
  have hmm := pm_mm w hw
  unfold fitP mkP mkQ
  rw [pm_b1 w hw, op32_iff, op64_iff, msk_iff, ok_iff hw]
  constructor
  · rintro ⟨ho, hz, hg, ht, hk, uD, uA, uB, uN⟩
    refine ⟨ho, hg, hk, fun i hi hb => ?_⟩
    rw [hmm i hi] at hb
    simp only [Bool.or_eq_true, Bool.and_eq_true, decide_eq_true_eq, Bool.not_eq_true'] at hb
    rcases hb with ((((hb | hb) | hb) | hb) | hb) | hb
    · exact ho i hb
    · exact (fD_iff x _).mp ((uD.resolve_left (by rw [hb.2]; decide)).trans bD.symm) i hb.1.1 hb.1.2
    · exact (fA_iff x _).mp ((uA.resolve_left (by rw [hb.2]; decide)).trans bA.symm) i hb.1.1 hb.1.2
    · exact (fB_iff x _).mp ((uB.resolve_left (by rw [hb.2]; decide)).trans bB.symm) i hb.1.1 hb.1.2
    · exact (fZ_iff x _).mp (hz.trans bZ.symm) i hb.1 hb.2
    · refine (fN_iff x _).mp ?_ i hb.1 hi
      rw [bN]
      cases t : tld w with
      | true => rw [if_pos rfl]; exact ht t
      | false =>
        rw [if_neg (by decide)]
        exact uN.resolve_left (by rw [n1, t, hb.2]; decide)
  · rintro ⟨ho, hg, hk, hm⟩
    have get : ∀ i, i < 64 → (decide (i < 8) || (decide (8 ≤ i ∧ i < 12) && !flg sD w false 4) || (decide (12 ≤ i ∧ i < 16) && !flg sA w false 4) || (decide (16 ≤ i ∧ i < 20) && !flg sB w false 4) || decide (24 ≤ i ∧ i < 32) || (decide (32 ≤ i) && !flg sN w false 4)) = true → bt x i = bt (opB (pm w)) i := fun i hi h => hm i hi ((hmm i hi).trans h)
    have gN : flg sN w false 4 = false → fN x = fN (opB (pm w)) := fun z => (fN_iff x _).mpr (fun i h1 h2 => get i h2 (by rw [z, decide_eq_true h1]; simp))
    refine ⟨ho, ?_, hg, fun t => ?_, hk, ?_, ?_, ?_, ?_⟩
    · rw [← bZ]; exact (fZ_iff x _).mpr (fun i h1 h2 => get i (by omega) (by rw [decide_eq_true (show 24 ≤ i ∧ i < 32 from ⟨h1, h2⟩)]; simp))
    · have z : flg sN w false 4 = false := by rw [t, Bool.true_and] at n2; exact n2
      rw [gN z, bN, t, if_pos rfl]
    · cases z : flg sD w false 4 with
      | true => exact Or.inl rfl
      | false => exact Or.inr (bD ▸ (fD_iff x _).mpr (fun i h1 h2 => get i (by omega) (by rw [z, decide_eq_true (show 8 ≤ i ∧ i < 12 from ⟨h1, h2⟩)]; simp)))
    · cases z : flg sA w false 4 with
      | true => exact Or.inl rfl
      | false => exact Or.inr (bA ▸ (fA_iff x _).mpr (fun i h1 h2 => get i (by omega) (by rw [z, decide_eq_true (show 12 ≤ i ∧ i < 16 from ⟨h1, h2⟩)]; simp)))
    · cases z : flg sB w false 4 with
      | true => exact Or.inl rfl
      | false => exact Or.inr (bB ▸ (fB_iff x _).mpr (fun i h1 h2 => get i (by omega) (by rw [z, decide_eq_true (show 16 ≤ i ∧ i < 20 from ⟨h1, h2⟩)]; simp)))
    · cases z : flg sN w false 4 with
      | true => exact Or.inl (by rw [n1, z, Bool.or_true])
      | false =>
        cases t : tld w with
        | true => exact Or.inl (by rw [t] at n1; rw [n1]; rfl)
        | false => exact Or.inr (by rw [gN z, bN, t]; rfl)
theorem fit_un {w v : Nat} {x : Int64} (hw : w < 53) (hv : v < 53) (h : fitP w x) (g : fitP v x) : w = v ∨ (w = 0 ∧ v = 52) ∨ (w = 52 ∧ v = 0) := by
  rcases pm_un w hw v hv (h.1.trans g.1.symm) with q | q | q
  · exact Or.inl q
  · rw [Bool.and_eq_true] at q
    exact Or.inl (tld_sub w hw v hv ((h.2.2.2.1 q.1).symm.trans (g.2.2.2.1 q.2)))
  · exact Or.inr q
/-- the reference's listed, told by the class's Op -/
theorem em_listed {post : Int32 → Prop} {x : Int64} (h0 : isOf x none → post (-1)) (h1 : ∀ w, w < 53 → isOf x (some (pm w)) → post (nI w)) : wp_X9_listed post x := by
  have main : ∀ (d j : Nat), j + d = 53 → (∀ v, v < j → ¬ fitP v x) → wL_X9_listed_2 post (d + 1) x (nI j) := by
    intro d
    induction d with
    | zero =>
      intro j hj hn
      refine ⟨fun _ => h0 (fun e he f => ?_), fun z => absurd (show (53 : Int32) ≤ nI j by rw [show j = 53 by omega]; decide) z⟩
      obtain ⟨w, hw, rfl⟩ := pm_sur e he
      exact hn w (by omega) ((fit_iff hw).mpr f)
    | succ d ih =>
      intro j hj hn
      refine ⟨fun z => absurd z (nI_ge (a := j) (b := 53) (by omega) (by decide)), fun _ => em_fits (show j < 53 by omega) (fun f => ⟨fun z => absurd z (by decide), fun _ => h1 j (by omega) ⟨pm_lt j (by omega), (fit_iff (by omega)).mp f, fun e he g => ?_⟩⟩) (fun f => ⟨fun _ => fun u hu => ?_, fun z => absurd rfl z⟩)⟩
      · obtain ⟨v, hv, rfl⟩ := pm_sur e (by have := pm_lt j (by omega); omega)
        have gv := (fit_iff hv).mpr g
        rcases fit_un (show j < 53 by omega) hv f gv with q | q | q
        · rw [q] at he; omega
        · rw [q.1, q.2] at he; exact absurd he (by decide)
        · exact hn v (by omega) gv
      · rw [hu, nI_1]
        refine ih (j + 1) (by omega) (fun v hv => ?_)
        rcases Nat.lt_or_ge v j with q | q
        · exact hn v q
        · rw [show v = j by omega]; exact f
  exact ⟨54, main 53 0 rfl (fun v hv => absurd hv (Nat.not_lt_zero v))⟩
