/-! how many bits a long has -/
def tn (x : Int64) : Nat := x.toBitVec.toNat
theorem tn_lt (x : Int64) : tn x < 2 ^ 64 := x.toBitVec.isLt
theorem tn_and (x y : Int64) : tn (x &&& y) = tn x &&& tn y := by
  unfold tn
  rw [Int64.toBitVec_and, BitVec.toNat_and]
theorem tn_add {x y : Int64} (h : tn x + tn y < 2 ^ 64) : tn (x + y) = tn x + tn y := by
  unfold tn at *
  rw [Int64.toBitVec_add, BitVec.toNat_add]
  exact Nat.mod_eq_of_lt h
theorem tn_sub {x y : Int64} (h : tn y ≤ tn x) : tn (x - y) = tn x - tn y := by
  have hx := tn_lt x
  unfold tn at *
  rw [Int64.toBitVec_sub, BitVec.toNat_sub]
  omega
theorem tn_ushr (x : Int64) (c : UInt64) (k : Nat) (hs : (c.toBitVec % 64).toNat = k) : tn ((x.toUInt64 >>> c).toInt64) = tn x / 2 ^ k := by
  have e : (x.toUInt64 >>> c).toInt64.toBitVec = x.toBitVec >>> k := by
    rw [← hs]
    exact UInt64.toBitVec_shiftRight _ _
  unfold tn
  rw [e, BitVec.toNat_ushiftRight, Nat.shiftRight_eq_div_pow]
/-- k bytes, the lowest first -/
def vl : Nat → (Nat → Nat) → Nat
  | 0, _ => 0
  | k + 1, b => b 0 + 256 * vl k (fun i => b (i + 1))
theorem vl8 (c : Nat → Nat) : vl 8 c = c 0 + 256 * (c 1 + 256 * (c 2 + 256 * (c 3 + 256 * (c 4 + 256 * (c 5 + 256 * (c 6 + 256 * (c 7 + 256 * 0))))))) := rfl
theorem land_256 {u m : Nat} (w M : Nat) (hu : u < 256) (hm : m < 256) : (u + 256 * w) &&& (m + 256 * M) = (u &&& m) + 256 * (w &&& M) := by
  have hum : u &&& m < 2 ^ 8 := Nat.and_lt_two_pow u hm
  apply Nat.eq_of_testBit_eq
  intro i
  rw [Nat.testBit_and, show u + 256 * w = 2 ^ 8 * w + u by omega, show m + 256 * M = 2 ^ 8 * M + m by omega, show (u &&& m) + 256 * (w &&& M) = 2 ^ 8 * (w &&& M) + (u &&& m) by omega]
  rw [Nat.testBit_two_pow_mul_add w (show u < 2 ^ 8 from hu), Nat.testBit_two_pow_mul_add M (show m < 2 ^ 8 from hm), Nat.testBit_two_pow_mul_add (w &&& M) hum]
  by_cases q : i < 8
  · rw [if_pos q, if_pos q, if_pos q, Nat.testBit_and]
  · rw [if_neg q, if_neg q, if_neg q, Nat.testBit_and]
def f1 (b : Nat) : Nat := b - (b / 2 &&& 85)
def f2 (b : Nat) : Nat := (b &&& 51) + (b / 4 &&& 51)
def f3 (b : Nat) : Nat := (b + b / 16) % 16
theorem t1_ok : ∀ b, b < 256 → ∀ r, r < 2 → (b / 2 + 128 * r) &&& 85 = b / 2 &&& 85 := by decide +kernel
theorem t2_ok : ∀ b, b < 256 → ∀ r, r < 4 → (b / 4 + 64 * r) &&& 51 = b / 4 &&& 51 := by decide +kernel
theorem t_all : ∀ b, b < 256 → f1 b < 256 ∧ f2 (f1 b) ≤ 68 ∧ f2 (f1 b) % 16 ≤ 4 ∧ f3 (f2 (f1 b)) = cn (fun j => b.testBit j) 8 := by decide +kernel
theorem s1_vl : ∀ (k : Nat) (b : Nat → Nat), (∀ i, b i < 256) → vl k b - (vl k b / 2 &&& vl k (fun _ => 85)) = vl k (fun i => f1 (b i)) ∧ (vl k b / 2 &&& vl k (fun _ => 85)) ≤ vl k b := by
  intro k
  induction k with
  | zero =>
    intro b hb
    show 0 - (0 / 2 &&& 0) = 0 ∧ (0 / 2 &&& 0) ≤ 0
    decide
  | succ k ih =>
    intro b hb
    obtain ⟨h1, h2⟩ := ih (fun i => b (i + 1)) (fun i => hb (i + 1))
    show (b 0 + 256 * vl k (fun i => b (i + 1))) - ((b 0 + 256 * vl k (fun i => b (i + 1))) / 2 &&& (85 + 256 * vl k (fun _ => 85))) = f1 (b 0) + 256 * vl k (fun i => f1 (b (i + 1))) ∧ _
    show _ ∧ ((b 0 + 256 * vl k (fun i => b (i + 1))) / 2 &&& (85 + 256 * vl k (fun _ => 85))) ≤ b 0 + 256 * vl k (fun i => b (i + 1))
    generalize vl k (fun i => b (i + 1)) = q at h1 h2 ⊢
    generalize vl k (fun _ => 85) = M at h1 h2 ⊢
    rw [← h1]
    have hb0 := hb 0
    have e : (b 0 + 256 * q) / 2 = (b 0 / 2 + 128 * (q % 2)) + 256 * (q / 2) := by omega
    have hl : b 0 / 2 &&& 85 ≤ b 0 / 2 := Nat.and_le_left
    rw [e, land_256 _ _ (by omega) (by omega), t1_ok (b 0) hb0 (q % 2) (by omega)]
    unfold f1
    omega
theorem s2_vl : ∀ (k : Nat) (b : Nat → Nat), (∀ i, b i < 256) → (vl k b &&& vl k (fun _ => 51)) + (vl k b / 4 &&& vl k (fun _ => 51)) = vl k (fun i => f2 (b i)) := by
  intro k
  induction k with
  | zero =>
    intro b hb
    show (0 &&& 0) + (0 / 4 &&& 0) = 0
    decide
  | succ k ih =>
    intro b hb
    have h1 := ih (fun i => b (i + 1)) (fun i => hb (i + 1))
    show ((b 0 + 256 * vl k (fun i => b (i + 1))) &&& (51 + 256 * vl k (fun _ => 51))) + ((b 0 + 256 * vl k (fun i => b (i + 1))) / 4 &&& (51 + 256 * vl k (fun _ => 51))) = f2 (b 0) + 256 * vl k (fun i => f2 (b (i + 1)))
    generalize vl k (fun i => b (i + 1)) = q at h1 ⊢
    generalize vl k (fun _ => 51) = M at h1 ⊢
    rw [← h1]
    have hb0 := hb 0
    have e : (b 0 + 256 * q) / 4 = (b 0 / 4 + 64 * (q % 4)) + 256 * (q / 4) := by omega
    rw [e, land_256 _ _ hb0 (by omega), land_256 _ _ (by omega) (by omega), t2_ok (b 0) hb0 (q % 4) (by omega)]
    unfold f2
    omega
theorem s3_vl : ∀ (k : Nat) (b : Nat → Nat), (∀ i, b i ≤ 68 ∧ b i % 16 ≤ 4) → (vl k b + vl k b / 16) &&& vl k (fun _ => 15) = vl k (fun i => f3 (b i)) := by
  intro k
  induction k with
  | zero =>
    intro b hb
    show (0 + 0 / 16) &&& 0 = 0
    decide
  | succ k ih =>
    intro b hb
    have h1 := ih (fun i => b (i + 1)) (fun i => hb (i + 1))
    have hm : vl k (fun i => b (i + 1)) % 16 ≤ 4 := by
      cases k with
      | zero => exact Nat.zero_le 4
      | succ k =>
        show (b 1 + 256 * vl k (fun i => b (i + 1 + 1))) % 16 ≤ 4
        have := (hb 1).2
        omega
    show ((b 0 + 256 * vl k (fun i => b (i + 1))) + (b 0 + 256 * vl k (fun i => b (i + 1))) / 16) &&& (15 + 256 * vl k (fun _ => 15)) = f3 (b 0) + 256 * vl k (fun i => f3 (b (i + 1)))
    generalize vl k (fun i => b (i + 1)) = q at h1 hm ⊢
    generalize vl k (fun _ => 15) = M at h1 ⊢
    rw [← h1]
    obtain ⟨hb0, -⟩ := hb 0
    have e : (b 0 + 256 * q) + (b 0 + 256 * q) / 16 = (b 0 + b 0 / 16 + 16 * (q % 16)) + 256 * (q + q / 16) := by omega
    rw [e, land_256 _ _ (by omega) (by omega)]
    have e2 : (b 0 + b 0 / 16 + 16 * (q % 16)) &&& 15 = f3 (b 0) := by
      have := Nat.and_two_pow_sub_one_eq_mod (b 0 + b 0 / 16 + 16 * (q % 16)) 4
      rw [show (15 : Nat) = 2 ^ 4 - 1 from rfl, this]
      unfold f3
      omega
    rw [e2]
theorem vl_dig : ∀ (k X : Nat), X < 256 ^ k → vl k (fun i => X / 256 ^ i % 256) = X := by
  intro k
  induction k with
  | zero => intro X h; have : X < 1 := h; show 0 = X; omega
  | succ k ih =>
    intro X h
    show X / 256 ^ 0 % 256 + 256 * vl k (fun i => X / 256 ^ (i + 1) % 256) = X
    have e : (fun i => X / 256 ^ (i + 1) % 256) = (fun i => X / 256 / 256 ^ i % 256) := by
      funext i
      rw [Nat.div_div_eq_div_mul, Nat.pow_succ, Nat.mul_comm]
    rw [e, ih (X / 256) (by rw [Nat.pow_succ] at h; omega), Nat.pow_zero, Nat.div_one]
    omega
theorem dv2 {p q r : Nat} (h : p + 256 * q < 65536) : (p + 256 * (q + 256 * r)) / 65536 = r := by omega
theorem dv3 {p q r s u : Nat} (h : p + 256 * (q + 256 * (r + 256 * s)) < 4294967296) : (p + 256 * (q + 256 * (r + 256 * (s + 256 * u)))) / 4294967296 = u := by omega
theorem sum_8 {c0 c1 c2 c3 c4 c5 c6 c7 u1 u2 u3 u4 u5 u6 u7 V a b t : Nat} (h0 : c0 ≤ 8) (h1 : c1 ≤ 8) (h2 : c2 ≤ 8) (h3 : c3 ≤ 8) (h4 : c4 ≤ 8) (h5 : c5 ≤ 8) (h6 : c6 ≤ 8) (h7 : c7 ≤ 8) (e7 : u7 = c7 + 256 * 0) (e6 : u6 = c6 + 256 * u7) (e5 : u5 = c5 + 256 * u6) (e4 : u4 = c4 + 256 * u5) (e3 : u3 = c3 + 256 * u4) (e2 : u2 = c2 + 256 * u3) (e1 : u1 = c1 + 256 * u2) (hV : V = c0 + 256 * u1) (ha : a = V + V / 256) (hb : b = a + a / 65536) (ht : t = b + b / 4294967296) : t % 128 = c0 + c1 + c2 + c3 + c4 + c5 + c6 + c7 ∧ V < 2305843009213693952 ∧ a < 4611686018427387904 ∧ b < 9223372036854775808 := by
  have d1 : V / 256 = u1 := by
    clear ha hb ht
    omega
  rw [d1] at ha
  have a1 : a = (c0 + c1) + 256 * ((c1 + c2) + 256 * (u2 + u3)) := by
    clear hb ht d1
    omega
  have d2 : a / 65536 = u2 + u3 := by rw [a1]; exact dv2 (by clear ha hb ht a1 d1; omega)
  rw [d2] at hb
  have b1 : b = (c0 + c1 + c2 + c3) + 256 * ((c1 + c2 + c3 + c4) + 256 * ((c2 + c3 + c4 + c5) + 256 * ((c3 + c4 + c5 + c6) + 256 * (u4 + u5 + u6 + u7)))) := by
    clear ht d1 d2 a1
    omega
  have d3 : b / 4294967296 = u4 + u5 + u6 + u7 := by rw [b1]; exact dv3 (by clear ha hb ht a1 b1 d1 d2; omega)
  rw [d3] at ht
  have t1 : t = (c0 + c1 + c2 + c3 + c4 + c5 + c6 + c7) + 256 * (u1 + u2 + u3 + u4 + u5 + u6 + u7) := by
    clear d1 d2 d3 a1 b1
    omega
  refine ⟨?_, ?_, ?_, ?_⟩
  · rw [t1]
    clear t1 d1 d2 d3 a1 b1 ha hb ht hV e1 e2 e3 e4 e5 e6 e7
    omega
  · clear t1 d1 d2 d3 a1 b1 ha hb ht
    omega
  · clear t1 d1 d2 d3 a1 b1 hb ht
    omega
  · clear t1 d1 d2 d3 a1 b1 ht
    omega
theorem cn_add (f : Nat → Bool) (n : Nat) : ∀ m, cn f (n + m) = cn f n + cn (fun j => f (n + j)) m := by
  intro m
  induction m with
  | zero => rfl
  | succ m ih =>
    show cn f (n + m) + (if f (n + m) = true then 1 else 0) = cn f n + (cn (fun j => f (n + j)) m + (if f (n + m) = true then 1 else 0))
    rw [ih]
    omega
theorem cn_cong {f g : Nat → Bool} : ∀ n, (∀ b, b < n → f b = g b) → cn f n = cn g n := by
  intro n
  induction n with
  | zero => intro _; rfl
  | succ n ih =>
    intro h
    show cn f n + (if f n = true then 1 else 0) = cn g n + (if g n = true then 1 else 0)
    rw [ih (fun b hb => h b (by omega)), h n (by omega)]
theorem bt_dig (x : Int64) (i j : Nat) (hj : j < 8) : (tn x / 256 ^ i % 256).testBit j = bt x (8 * i + j) := by
  rw [show (256 : Nat) = 2 ^ 8 from rfl, ← Nat.pow_mul, Nat.testBit_mod_two_pow, Nat.testBit_div_two_pow, decide_eq_true hj, Bool.true_and, Nat.add_comm j]
  rfl
theorem cn_dig (x : Int64) (i n : Nat) (hn : n = 8 * i) : cn (bt x) (n + 8) = cn (bt x) n + cn (fun j => (tn x / 256 ^ i % 256).testBit j) 8 := by
  rw [cn_add, hn]
  congr 1
  exact cn_cong 8 (fun j hj => (bt_dig x i j hj).symm)
theorem add_lt {p : Nat} (k : Nat) (h : p < 9223372036854775808) : p + p / k < 2 ^ 64 := by
  have := Nat.div_le_self p k
  omega
theorem bc_all (x : Int64) : bcF x = nI (cn (bt x) 64) := by
  have hx := tn_lt x
  have hb : ∀ i, tn x / 256 ^ i % 256 < 256 := fun i => Nat.mod_lt _ (by decide)
  have e8 : (256 : Nat) ^ 8 = 2 ^ 64 := by decide
  have hX : vl 8 (fun i => tn x / 256 ^ i % 256) = tn x := vl_dig 8 (tn x) (by rw [e8]; exact hx)
  have m5 : tn 6148914691236517205 = vl 8 (fun _ => 85) := by decide +kernel
  have m3 : tn 3689348814741910323 = vl 8 (fun _ => 51) := by decide +kernel
  have mF : tn 1085102592571150095 = vl 8 (fun _ => 15) := by decide +kernel
  obtain ⟨s1, s1l⟩ := s1_vl 8 (fun i => tn x / 256 ^ i % 256) hb
  rw [hX] at s1 s1l
  have s2 := s2_vl 8 (fun i => f1 (tn x / 256 ^ i % 256)) (fun i => (t_all _ (hb i)).1)
  have s3 := s3_vl 8 (fun i => f2 (f1 (tn x / 256 ^ i % 256))) (fun i => ⟨(t_all _ (hb i)).2.1, (t_all _ (hb i)).2.2.1⟩)
  have hle : ∀ i, f3 (f2 (f1 (tn x / 256 ^ i % 256))) ≤ 8 := fun i => by rw [(t_all _ (hb i)).2.2.2]; exact cn_le _ 8
  have hcn : ∀ i, f3 (f2 (f1 (tn x / 256 ^ i % 256))) = cn (fun j => (tn x / 256 ^ i % 256).testBit j) 8 := fun i => (t_all _ (hb i)).2.2.2
  unfold bcF
  dsimp only
  generalize e1 : x - (((x.toUInt64 >>> ((1 : Int32).toInt64.toUInt64 &&& Int64.toUInt64 63)).toInt64) &&& 6148914691236517205) = x1
  have n1 : tn x1 = vl 8 (fun i => f1 (tn x / 256 ^ i % 256)) := by
    have et : tn ((((x.toUInt64 >>> ((1 : Int32).toInt64.toUInt64 &&& Int64.toUInt64 63)).toInt64) &&& 6148914691236517205)) = (tn x / 2 &&& vl 8 (fun _ => 85)) := by
      rw [tn_and, tn_ushr _ _ 1 (by decide), m5]
    rw [← e1, tn_sub (by rw [et]; exact s1l), et]
    exact s1
  generalize e2 : (x1 &&& 3689348814741910323) + (((x1.toUInt64 >>> ((2 : Int32).toInt64.toUInt64 &&& Int64.toUInt64 63)).toInt64) &&& 3689348814741910323) = x2
  have n2 : tn x2 = vl 8 (fun i => f2 (f1 (tn x / 256 ^ i % 256))) := by
    have ea : tn (x1 &&& 3689348814741910323) = (tn x1 &&& vl 8 (fun _ => 51)) := by rw [tn_and, m3]
    have eb : tn (((x1.toUInt64 >>> ((2 : Int32).toInt64.toUInt64 &&& Int64.toUInt64 63)).toInt64) &&& 3689348814741910323) = (tn x1 / 4 &&& vl 8 (fun _ => 51)) := by rw [tn_and, tn_ushr _ _ 2 (by decide), m3]
    have ha : (tn x1 &&& vl 8 (fun _ => 51)) ≤ vl 8 (fun _ => 51) := Nat.and_le_right
    have hb : (tn x1 / 4 &&& vl 8 (fun _ => 51)) ≤ vl 8 (fun _ => 51) := Nat.and_le_right
    rw [← e2, tn_add (by rw [ea, eb]; exact Nat.lt_of_le_of_lt (Nat.add_le_add ha hb) (by decide +kernel)), ea, eb, n1]
    exact s2
  generalize e3 : (x2 + ((x2.toUInt64 >>> ((4 : Int32).toInt64.toUInt64 &&& Int64.toUInt64 63)).toInt64)) &&& 1085102592571150095 = x3
  have l2 : tn x2 < 9223372036854775808 := by
    rw [n2, ← s2]
    have ha : (vl 8 (fun i => f1 (tn x / 256 ^ i % 256)) &&& vl 8 (fun _ => 51)) ≤ vl 8 (fun _ => 51) := Nat.and_le_right
    have hb : (vl 8 (fun i => f1 (tn x / 256 ^ i % 256)) / 4 &&& vl 8 (fun _ => 51)) ≤ vl 8 (fun _ => 51) := Nat.and_le_right
    exact Nat.lt_of_le_of_lt (Nat.add_le_add ha hb) (by decide +kernel)
  have n3 : tn x3 = vl 8 (fun i => f3 (f2 (f1 (tn x / 256 ^ i % 256)))) := by
    have eb : tn ((x2.toUInt64 >>> ((4 : Int32).toInt64.toUInt64 &&& Int64.toUInt64 63)).toInt64) = tn x2 / 16 := tn_ushr _ _ 4 (by decide)
    rw [← e3, tn_and, tn_add (by rw [eb]; exact add_lt 16 l2), eb, mF, n2]
    exact s3
  generalize e4 : x3 + ((x3.toUInt64 >>> ((8 : Int32).toInt64.toUInt64 &&& Int64.toUInt64 63)).toInt64) = x4
  generalize e5 : x4 + ((x4.toUInt64 >>> ((16 : Int32).toInt64.toUInt64 &&& Int64.toUInt64 63)).toInt64) = x5
  generalize e6 : x5 + ((x5.toUInt64 >>> ((32 : Int32).toInt64.toUInt64 &&& Int64.toUInt64 63)).toInt64) = x6
  have hS := sum_8 (hle 0) (hle 1) (hle 2) (hle 3) (hle 4) (hle 5) (hle 6) (hle 7) (V := tn x3) rfl rfl rfl rfl rfl rfl rfl (n3.trans (vl8 _)) rfl rfl rfl
  have SV := hS.2.1
  have Sa := hS.2.2.1
  have Sb := hS.2.2.2
  have S1 := hS.1
  clear hS
  have q8 : tn ((x3.toUInt64 >>> ((8 : Int32).toInt64.toUInt64 &&& Int64.toUInt64 63)).toInt64) = tn x3 / 256 := tn_ushr _ _ 8 (by decide)
  have n4 : tn x4 = tn x3 + tn x3 / 256 := by
    rw [← e4, tn_add (by rw [q8]; exact add_lt 256 (Nat.lt_trans SV (by decide))), q8]
  have q16 : tn ((x4.toUInt64 >>> ((16 : Int32).toInt64.toUInt64 &&& Int64.toUInt64 63)).toInt64) = tn x4 / 65536 := tn_ushr _ _ 16 (by decide)
  have n5 : tn x5 = tn x4 + tn x4 / 65536 := by
    rw [← e5, tn_add (by rw [q16, n4]; exact add_lt 65536 (Nat.lt_trans Sa (by decide))), q16]
  have q32 : tn ((x5.toUInt64 >>> ((32 : Int32).toInt64.toUInt64 &&& Int64.toUInt64 63)).toInt64) = tn x5 / 4294967296 := tn_ushr _ _ 32 (by decide)
  have n6 : tn x6 = tn x5 + tn x5 / 4294967296 := by
    rw [← e6, tn_add (by rw [q32, n5, n4]; exact add_lt 4294967296 Sb), q32]
  have hlow : x6.toInt32.toBitVec.toNat % 2 ^ 7 = tn x6 % 128 := by
    have : x6.toInt32.toBitVec.toNat = tn x6 % 2 ^ 32 := by
      rw [Int64.toBitVec_toInt32, BitVec.signExtend_eq_setWidth_of_le _ (by omega), BitVec.toNat_setWidth]
      rfl
    rw [this, show (2 : Nat) ^ 7 = 128 from rfl]
    exact Nat.mod_mod_of_dvd _ (by decide)
  rw [pk_and x6.toInt32 (m := 127) 7 (by decide), hlow, n6, n5, n4, S1]
  have c1 := cn_dig x 0 0 rfl
  have c2 := cn_dig x 1 8 rfl
  have c3 := cn_dig x 2 16 rfl
  have c4 := cn_dig x 3 24 rfl
  have c5 := cn_dig x 4 32 rfl
  have c6 := cn_dig x 5 40 rfl
  have c7 := cn_dig x 6 48 rfl
  have c8 := cn_dig x 7 56 rfl
  have c0 : cn (bt x) 0 = 0 := rfl
  rw [show (64 : Nat) = 56 + 8 from rfl, c8, show (56 : Nat) = 48 + 8 from rfl, c7, show (48 : Nat) = 40 + 8 from rfl, c6, show (40 : Nat) = 32 + 8 from rfl, c5, show (32 : Nat) = 24 + 8 from rfl, c4, show (24 : Nat) = 16 + 8 from rfl, c3, show (16 : Nat) = 8 + 8 from rfl, c2, show (8 : Nat) = 0 + 8 from rfl, c1, c0]
  rw [hcn 0, hcn 1, hcn 2, hcn 3, hcn 4, hcn 5, hcn 6, hcn 7, Nat.zero_add]
theorem cn_out {f : Nat → Bool} {c : Nat} : ∀ d, (∀ b, c ≤ b → b < c + d → f b = false) → cn f (c + d) = cn f c := by
  intro d
  induction d with
  | zero => intro _; rfl
  | succ d ih =>
    intro h
    show cn f (c + d) + (if f (c + d) = true then 1 else 0) = cn f c
    rw [ih (fun b h1 h2 => h b h1 (by omega)), if_neg (by rw [h (c + d) (by omega) (by omega)]; decide)]
    rfl
/-! total -/
section BT
variable {σ : XS} {β : BS} {τ : MS}
theorem xe_unmade {post : Int32 → XS → Prop} {c : Nat} (hc : c ≤ 64) (e : xI σ 8 = nI c) (h : post (nI (cn (fun b => (xQ σ 1 b).isNone) c)) σ) : wp_X0_unmade post σ := by
  have main : ∀ (d j : Nat), j + d = c → wL_X0_unmade_4 post (d + 1) (nI (cn (fun b => (xQ σ 1 b).isNone) j)) (nI j) σ := by
    intro d
    induction d with
    | zero => intro j hj; exact ⟨fun _ => by rw [show j = c by omega]; exact h, fun z => absurd (by rw [e]; exact nI_le (by omega) (by omega)) z⟩
    | succ d ih =>
      intro j hj
      refine ⟨fun z => absurd z (by rw [e]; exact nI_ge (by omega) (by omega)), fun _ => ⟨vp_in_nI (by omega) (by decide), ?_⟩⟩
      rw [nI_clamp (by omega)]
      refine ⟨fun z => fun y hy u hu => ?_, fun e2 z => fun u hu => ?_⟩
      · rw [hu, hy, nI_1, nI_1]
        have := ih (j + 1) (by omega)
        have ec : cn (fun b => (xQ σ 1 b).isNone) (j + 1) = cn (fun b => (xQ σ 1 b).isNone) j + 1 := by
          show _ + (if (xQ σ 1 j).isNone = true then 1 else 0) = _
          rw [z]; rfl
        rw [ec] at this
        exact this
      · rw [hu, nI_1]
        have := ih (j + 1) (by omega)
        have ec : cn (fun b => (xQ σ 1 b).isNone) (j + 1) = cn (fun b => (xQ σ 1 b).isNone) j := by
          show _ + (if (xQ σ 1 j).isNone = true then 1 else 0) = _
          rw [z]; rfl
        rw [ec] at this
        exact this
  exact ⟨c + 1, main c 0 (by omega)⟩
theorem be_total {x : Int32} {P : Int32 → XS → Int32 → MS → Prop} (h : II σ β τ) (k : ∀ r τ', II σ β τ' → P r σ r τ') : wp_X8_total (fun r1 u1 => wp_X9_total (fun r2 u2 => P r1 u1 r2 u2) x τ) x σ := by
  obtain ⟨s, t, hs, ht, hX, hB, hG⟩ := id h
  obtain ⟨r1, ⟨c, hc, c1, c2, c3⟩, n, hn, n1, n2, n3⟩ := id hG.2
  have c2 : mI τ 11 = nI c := c2
  have n2 : mA τ 15 s = nI n := n2
  have hQ : QI (RG σ s t) s t c (wI τ 0 0) := ⟨hG, c2⟩
  have hck : ∀ k, k < c → ckX σ k := fun k hk => (c3 k hk).2
  have hk : ∀ τ', QI (RG σ s t) s t c τ' → II σ β τ' := fun τ' g => ⟨s, t, hs, ht, hX, hB, g.1⟩
  have k' : ∀ r, P r σ r (wI τ 0 0) := fun r => k r _ (hk _ hQ)
  refine ⟨fun x0 => ?_, fun x1 => ?_, fun x2 => ?_, fun x3 => ?_, fun a0 a1 a2 a3 => ?_⟩
  · subst x0
    refine ⟨fun _ => ?_, fun z => absurd z (by decide), fun z => absurd z (by decide), fun z => absurd z (by decide), fun z => absurd rfl z⟩
    rw [c1, c2]; exact k' _
  · subst x1
    refine xe_walk hc c1 hck (fun r hr => xe_bc ?_)
    refine ⟨fun z => absurd z (by decide), fun _ => em_spread hc hQ (fun τ' g hcm => ?_), fun z => absurd z (by decide), fun z => absurd z (by decide), fun _ z => absurd rfl z⟩
    have eb : ∀ b, b < c → bt r b = decide (mA τ' 31 b = 1) := fun b hb => by
      have h1 := hr b (by omega)
      have h2 := (XW_Sp (σ := σ) (c := c) (v := 0) hc (by decide) b).trans (hcm b hb).symm
      by_cases q : mA τ' 31 b = 1
      · rw [decide_eq_true q]; exact h1.mpr (h2.mpr q)
      · rw [decide_eq_false q]; exact bfalse (fun z => q (h2.mp (h1.mp z)))
    have ec : cn (bt r) 64 = cn (fun b => decide (mA τ' 31 b = 1)) c := by
      have e64 : 64 = c + (64 - c) := by omega
      rw [e64, cn_out (64 - c) (fun b h1 h2 => bfalse (fun z => by have := XW_lt b ((hr b (by omega)).mp z); omega))]
      exact cn_cong c eb
    rw [bc_all, ec]
    have main : ∀ (d j : Nat), j + d = c → wL_X9_total_53 (fun r2 u2 => P (nI (cn (fun b => decide (mA τ' 31 b = 1)) c)) σ r2 u2) (d + 1) (nI (cn (fun b => decide (mA τ' 31 b = 1)) j)) (nI j) τ' := by
      intro d
      induction d with
      | zero =>
        intro j hj
        refine ⟨fun _ => ?_, fun z => absurd (by rw [g.2]; exact nI_le (by omega) (by omega)) z⟩
        rw [show j = c by omega]
        exact k _ τ' (hk τ' g)
      | succ d ih =>
        intro j hj
        refine ⟨fun z => absurd z (by rw [g.2]; exact nI_ge (by omega) (by omega)), fun _ => ⟨vp_in_nI (by omega) (by decide), ?_⟩⟩
        rw [nI_clamp (by omega)]
        have this := ih (j + 1) (by omega)
        have ej : cn (fun b => decide (mA τ' 31 b = 1)) (j + 1) = cn (fun b => decide (mA τ' 31 b = 1)) j + (if decide (mA τ' 31 j = 1) = true then 1 else 0) := rfl
        rw [ej] at this
        refine ⟨fun z => fun y hy u hu => ?_, fun z => fun y hy u hu => ?_⟩
        · rw [decide_eq_false (by rw [z]; decide), if_neg (by decide), Nat.add_zero] at this
          rw [hu, hy, nI_1, show nI (cn (fun b => decide (mA τ' 31 b = 1)) j) + 0 = nI (cn (fun b => decide (mA τ' 31 b = 1)) j) from nI_add _ 0]
          exact this
        · rw [decide_eq_true ((qi_b g j).resolve_left z), if_pos rfl] at this
          rw [hu, hy, nI_1, nI_1]
          exact this
    exact ⟨c + 1, main c 0 (by omega)⟩
  · subst x2
    refine ⟨fun z => absurd z (by decide), fun z => absurd z (by decide), fun _ => ?_, fun z => absurd z (by decide), fun _ _ z => absurd rfl z⟩
    rw [hG.1.1, nI_clamp (by omega), n1, n2]
    exact ⟨vp_in_nI hs (by decide), k' _⟩
  · subst x3
    refine xe_unmade hc c1 ⟨fun z => absurd z (by decide), fun z => absurd z (by decide), fun z => absurd z (by decide), fun _ => ?_, fun _ _ _ z => absurd rfl z⟩
    have main : ∀ (d j : Nat), j + d = c → wL_X9_total_98 (fun r2 u2 => P (nI (cn (fun b => (xQ σ 1 b).isNone) c)) σ r2 u2) (d + 1) (nI (cn (fun b => (xQ σ 1 b).isNone) j)) (nI j) (wI τ 0 0) := by
      intro d
      induction d with
      | zero =>
        intro j hj
        refine ⟨fun _ => ?_, fun z => absurd (by rw [hQ.2]; exact nI_le (by omega) (by omega)) z⟩
        rw [show j = c by omega]
        exact k' _
      | succ d ih =>
        intro j hj
        have hw := qi_w hc hQ j (by omega)
        refine ⟨fun z => absurd z (by rw [hQ.2]; exact nI_ge (by omega) (by omega)), fun _ => ⟨vp_in_nI (by omega) (by decide), ?_⟩⟩
        rw [nI_clamp (by omega), hw.1]
        have this := ih (j + 1) (by omega)
        have ej : cn (fun b => (xQ σ 1 b).isNone) (j + 1) = cn (fun b => (xQ σ 1 b).isNone) j + (if (xQ σ 1 j).isNone = true then 1 else 0) := rfl
        rw [ej] at this
        refine em_listed (fun g => ⟨fun _ => fun y hy u hu => ?_, fun z => absurd rfl z⟩) (fun w hw' g => ⟨fun z => absurd z (nI_ne1 (by omega)), fun _ => fun y hy u hu => ?_⟩)
        · rw [isOf_inj hw.2.1 g] at this
          rw [hu, hy, nI_1, nI_1]
          exact this
        · rw [isOf_inj hw.2.1 g] at this
          rw [hu, hy, nI_1, show nI (cn (fun b => (xQ σ 1 b).isNone) j) + 0 = nI (cn (fun b => (xQ σ 1 b).isNone) j) from nI_add _ 0]
          exact this
    exact ⟨c + 1, main c 0 (by omega)⟩
  · exact ⟨fun z => absurd z a0, fun z => absurd z a1, fun z => absurd z a2, fun z => absurd z a3, fun _ _ _ _ => k' _⟩
end BT
