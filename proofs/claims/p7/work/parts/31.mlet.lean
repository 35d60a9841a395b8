/-! the reference's letters: none is said past the 60th -/
section ML
variable {s t : Nat} {σ : MS} {post : MS → Prop} {G : GhT}
def LI (G : GhT) (s t n : Nat) (σ : MS) : Prop := GJ G s t σ ∧ mI σ 30 = nI n
theorem sm_say {n : Nat} {x : Int32} (hn : n < 60) (h : LI G s t n σ) (k : ∀ τ, LI G s t (n + 1) τ → post τ) : wp_X9_say post x σ := by
  refine ⟨by rw [h.2]; exact vp_in_nI hn (by decide), k _ ⟨h.1, ?_⟩⟩
  show mI σ 30 + 1 = _
  rw [h.2, nI_1]
def tenP (j : Nat) : Int64 := lN (10 ^ j)
theorem ten_pos : ∀ j, j < 11 → ¬ tenP j ≤ 0 := by decide +kernel
theorem ten_ne : ∀ j, j < 11 → ¬ tenP j = 0 := by decide +kernel
theorem ten_div : ∀ j, j < 10 → tenP (j + 1) / 10 = tenP j := by decide +kernel
theorem ten_div0 : tenP 0 / 10 ≤ 0 := by decide +kernel
theorem ten_mul : ∀ j, j < 10 → tenP j * 10 = tenP (j + 1) := by decide +kernel
theorem say_50 {x : Int64} : ∀ (j n : Nat) (σ : MS), j < 11 → n + j < 60 → LI G s t n σ → (∀ τ, LI G s t (n + j + 1) τ → post τ) → wL_X9_sayNumber_50 post (j + 2) x (tenP j) σ := by
  intro j
  induction j with
  | zero =>
    intro n σ hj hn h k
    exact ⟨fun q => absurd q (ten_pos 0 hj), fun _ => ⟨ten_ne 0 hj, sm_say (by omega) h (fun τ g => fun y hy => by
      rw [hy]
      exact ⟨fun _ => k τ g, fun q => absurd ten_div0 q⟩)⟩⟩
  | succ j ih =>
    intro n σ hj hn h k
    exact ⟨fun q => absurd q (ten_pos (j + 1) hj), fun _ => ⟨ten_ne (j + 1) hj, sm_say (by omega) h (fun τ g => fun y hy => by
      rw [hy, ten_div j (by omega)]
      exact ih (n + 1) τ (by omega) (by omega) g (fun τ g => k τ (by rw [show n + (j + 1) + 1 = n + 1 + j + 1 by omega]; exact g)))⟩⟩
/-- a number below 10 to the m: at most m digits -/
theorem say_28 {m v n : Nat} (hm : m < 11) (hv : v < 10 ^ (m + 1)) (hn : n + m < 60) (h : LI G s t n σ) (k : ∀ τ q, q ≤ n + m + 1 → LI G s t q τ → post τ) : ∀ (d j : Nat), j + d = m → wL_X9_sayNumber_28 post (d + 1) (lN v) (tenP j) σ := by
  have hb : (10 : Nat) ^ (m + 1) ≤ 10 ^ 11 := Nat.pow_le_pow_right (by decide) (by omega)
  intro d
  induction d with
  | zero =>
    intro j hj
    have e : j = m := by omega
    subst e
    refine ⟨ten_ne j hm, fun _ => ⟨_, say_50 j n σ hm hn h (fun τ g => k τ _ (by omega) g)⟩, fun q => absurd ?_ q⟩
    have hb2 : (10 : Nat) ^ j ≤ 10 ^ 11 := Nat.pow_le_pow_right (by decide) (by omega)
    have hp : 0 < 10 ^ j := Nat.pow_pos (by decide)
    unfold tenP
    rw [pk_lDiv (by omega) hp (by omega)]
    have h9 : v / 10 ^ j ≤ 9 := by
      have : v / 10 ^ j < 10 := by
        rw [Nat.div_lt_iff_lt_mul hp, ← Nat.pow_succ']
        exact hv
      omega
    exact (pk_lLE (a := v / 10 ^ j) (b := 9) (by omega) (by decide)).mpr h9
  | succ d ih =>
    intro j hj
    refine ⟨ten_ne j (by omega), fun _ => ⟨_, say_50 j n σ (by omega) (by omega) h (fun τ g => k τ _ (by omega) g)⟩, fun _ y hy => ?_⟩
    rw [hy, ten_mul j (by omega)]
    exact ih (j + 1) (by omega)
theorem say_pos {m v n : Nat} (hm : m < 11) (hv : v < 10 ^ (m + 1)) (hn : n + m < 60) (h : LI G s t n σ) (k : ∀ τ q, q ≤ n + m + 1 → LI G s t q τ → post τ) : wp_X9_sayNumber post (lN v) σ := by
  have hb : (10 : Nat) ^ (m + 1) ≤ 10 ^ 11 := Nat.pow_le_pow_right (by decide) (by omega)
  have h0 : (0 : Int64) ≤ lN v := (pk_lLE (a := 0) (b := v) (by decide) (by omega)).mpr (by omega)
  exact ⟨fun _ => ⟨fun _ => ⟨m + 1, say_28 hm hv hn h k m 0 (by omega)⟩, fun q => absurd h0 q⟩, fun q => absurd h0 q⟩
theorem neg_of (r : Int32) (h : ¬ (0 : Int64) ≤ r.toInt64) : ∃ v : Nat, v < 10 ^ 10 ∧ - r.toInt64 = lN v := by
  have e1 : (r.toInt64).toInt = r.toInt := Int32.toInt_toInt64 r
  have l1 := Int32.le_toInt r
  have l2 : (r.toInt64).toInt < 0 := by
    rw [Int64.le_iff_toInt_le] at h
    have : (0 : Int64).toInt = 0 := rfl
    omega
  have e2 : (- r.toInt64).toInt = - r.toInt := by
    rw [Int64.toInt_neg, e1, Int.bmod_def]
    omega
  have hn : ¬ (- r.toInt64) < 0 := by
    rw [Int64.lt_iff_toInt_lt, e2]
    have : (0 : Int64).toInt = 0 := rfl
    omega
  obtain ⟨v, hv, e⟩ := pk_lOf hn
  refine ⟨v, ?_, e⟩
  rw [e, pk_lT hv] at e2
  have : (10 : Nat) ^ 10 = 10000000000 := rfl
  omega
theorem say_int {r : Int32} {n : Nat} (hn : n + 10 < 60) (h : LI G s t n σ) (k : ∀ τ q, q ≤ n + 11 → LI G s t q τ → post τ) : wp_X9_sayNumber post r.toInt64 σ := by
  by_cases c : (0 : Int64) ≤ r.toInt64
  · have hr : ¬ r < 0 := by
      rw [Int32.lt_iff_toInt_lt]
      rw [Int64.le_iff_toInt_le, Int32.toInt_toInt64] at c
      have e1 : (0 : Int64).toInt = 0 := rfl
      have e2 : (0 : Int32).toInt = 0 := rfl
      omega
    obtain ⟨j, hj, rfl⟩ := nI_of hr
    rw [nI_l hj]
    exact say_pos (m := 9) (by decide) (by have : (10 : Nat) ^ (9 + 1) = 10000000000 := rfl; omega) (by omega) h (fun τ q hq g => k τ q (by omega) g)
  · obtain ⟨v, hv, e⟩ := neg_of r c
    refine ⟨fun q => absurd q c, fun _ => sm_say (by omega) h (fun τ g => ⟨fun q => absurd q c, fun _ => ?_⟩)⟩
    rw [e]
    exact ⟨10, say_28 (m := 9) (by decide) hv (by omega) g (fun τ q hq g => k τ q (by omega) g) 9 0 rfl⟩
theorem and15 (y : Int64) : ∃ j : Nat, j < 16 ∧ (y &&& 15).toInt32 = nI j := by
  rw [Int64.toInt32_and]
  exact pk_andE y.toInt32 (m := (15 : Int64).toInt32) 4 (by decide)
theorem say_15 {y : Int64} {n : Nat} (hn : n + 1 < 60) (h : LI G s t n σ) (k : ∀ τ q, q ≤ n + 2 → LI G s t q τ → post τ) : wp_X9_sayNumber post (y &&& 15).toInt32.toInt64 σ := by
  obtain ⟨j, hj, e⟩ := and15 y
  rw [e, nI_l (by omega)]
  exact say_pos (m := 1) (by decide) (by omega) (by omega) h (fun τ q hq g => k τ q (by omega) g)
/-- what a part takes at most -/
def cst (p : Int32) : Nat := if p = 68 ∨ p = 65 ∨ p = 66 ∨ p = 100 ∨ p = 97 ∨ p = 98 then 3 else if p = 77 then 18 else 12
theorem sm_sayPart {p : Int32} {x : Int64} {n : Nat} (hn : n + cst p ≤ 60) (h : LI G s t n σ) (k : ∀ τ q, q ≤ n + cst p → LI G s t q τ → post τ) : wp_X9_sayPart post p x σ := by
  have hc : 3 ≤ cst p := by
    unfold cst
    split
    · omega
    · split <;> omega
  have k54 : ∀ τ b, b ≤ n + 1 → LI G s t b τ → wB_X9_sayPart_54 post p x τ := by
    intro τ b hb g
    have reg : ∀ y : Int64, wp_X9_sayNumber (fun σ => post σ) (y &&& 15).toInt32.toInt64 τ := fun y => say_15 (by omega) g (fun τ q hq g => k τ q (by omega) g)
    refine ⟨fun _ => reg _, fun n1 => ⟨fun _ => reg _, fun n2 => ⟨fun _ => reg _, fun n3 => ⟨fun _ => reg _, fun n4 => ⟨fun _ => reg _, fun n5 => ⟨fun _ => reg _, fun n6 => ?_⟩⟩⟩⟩⟩⟩
    have hno : ¬ (p = 68 ∨ p = 65 ∨ p = 66 ∨ p = 100 ∨ p = 97 ∨ p = 98) := fun q => by
      rcases q with q | q | q | q | q | q
      · exact n1 q
      · exact n3 q
      · exact n5 q
      · exact n2 q
      · exact n4 q
      · exact n6 q
    refine ⟨fun e => ?_, fun n7 => ?_⟩
    · have hc : cst p = 18 := by unfold cst; rw [if_neg hno, if_pos e]
      refine sm_say (by omega) g (fun τ g => sm_say (by omega) g (fun τ g => say_15 (by omega) g (fun τ q hq g => sm_say (by omega) g (fun τ g => say_int (by omega) g (fun τ q' hq' g => sm_say (by omega) g (fun τ g => k τ _ (by omega) g))))))
    · have hc : cst p = 12 := by unfold cst; rw [if_neg hno, if_neg n7]
      exact say_int (by omega) g (fun τ q hq g => k τ q (by omega) g)
  have k24 : ∀ τ, LI G s t n τ → wB_X9_sayPart_24 post p x τ := fun τ g => ⟨fun _ => sm_say (by omega) g (fun τ g => k54 τ _ (by omega) g), fun _ => ⟨fun _ => sm_say (by omega) g (fun τ g => k54 τ _ (by omega) g), fun _ => ⟨fun _ => sm_say (by omega) g (fun τ g => k54 τ _ (by omega) g), fun _ => ⟨fun _ => sm_say (by omega) g (fun τ g => k54 τ _ (by omega) g), fun _ => k54 τ n (by omega) g⟩⟩⟩⟩
  have k24' : (p = 68 ∨ p = 65 ∨ p = 66) → ∀ τ, LI G s t (n + 1) τ → wB_X9_sayPart_24 post p x τ := fun hp τ g => ⟨fun q => absurd q (by rcases hp with e | e | e <;> rw [e] <;> decide), fun _ => ⟨fun q => absurd q (by rcases hp with e | e | e <;> rw [e] <;> decide), fun _ => ⟨fun q => absurd q (by rcases hp with e | e | e <;> rw [e] <;> decide), fun _ => ⟨fun q => absurd q (by rcases hp with e | e | e <;> rw [e] <;> decide), fun _ => k54 τ _ (by omega) g⟩⟩⟩⟩
  exact ⟨fun e => sm_say (by omega) h (fun τ g => k24' (Or.inl e) τ g), fun _ => ⟨fun e => sm_say (by omega) h (fun τ g => k24' (Or.inr (Or.inl e)) τ g), fun _ => ⟨fun e => sm_say (by omega) h (fun τ g => k24' (Or.inr (Or.inr e)) τ g), fun _ => k24 σ h⟩⟩⟩
def csF (w : Nat) : Nat → Nat → Nat
  | 0, _ => 0
  | d + 1, j => if partC w j = 46 then 0 else 1 + cst (partC w j) + csF w d (j + 1)
theorem cs_le : ∀ w, w < 53 → csF w 4 0 ≤ 40 := by decide +kernel
theorem sm_write {x : Int64} (h : GJ G s t σ) (k : ∀ τ q, q ≤ 60 → LI G s t q τ → post τ) : wp_X9_write post x σ := by
  have k169 : ∀ n τ, n < 60 → LI G s t n τ → wB_X9_write_169 post τ := fun n τ hn g => sm_say hn g (fun τ g => k τ _ (by omega) g)
  have k116 : ∀ w n τ, w < 53 → n ≤ 15 → LI G s t n τ → wB_X9_write_116 post x (nI w) τ := by
    intro w n τ hw hn g
    have main : ∀ (d j n : Nat) (τ : MS), j + d = 4 → n + csF w d j < 60 → LI G s t n τ → wL_X9_write_119 post (d + 1) x (nI w) (nI j) τ := by
      intro d
      induction d with
      | zero => intro j n τ hj hn g; exact ⟨fun _ => k169 n τ (by omega) g, fun q => absurd (show (4 : Int32) ≤ nI j by rw [show j = 4 by omega]; decide) q⟩
      | succ d ih =>
        intro j n τ hj hn g
        have hj4 : j < 4 := by omega
        refine ⟨fun _ => k169 n τ (by omega) g, fun _ => sp_part hw hj4 ⟨fun _ => k169 n τ (by omega) g, fun ne => ?_⟩⟩
        have hs : csF w (d + 1) j = 1 + cst (partC w j) + csF w d (j + 1) := if_neg ne
        rw [hs] at hn
        have k149 : ∀ v, wB_X9_write_149 post (wL_X9_write_119 post (d + 1)) x (nI w) (nI j) v τ := fun v => sm_say (by omega) g (fun τ g => sp_part hw hj4 (sm_sayPart (by omega) g (fun τ q hq g => fun y hy => by
          rw [hy, nI_1]
          exact ih (j + 1) q τ (by omega) (by omega) g)))
        exact ⟨fun _ => k149 _, fun _ => k149 _⟩
    have := cs_le w hw
    exact ⟨5, main 4 0 n τ rfl (by omega) g⟩
  have k79 : ∀ w n τ, w < 53 → n ≤ 6 → LI G s t n τ → wB_X9_write_79 post x (nI w) τ := by
    intro w n τ hw hn g
    have main : ∀ (d j n : Nat) (τ : MS), j + d = 8 → n ≤ 6 + j → LI G s t n τ → wL_X9_write_82 post (d + 1) x (nI w) (nI j) τ := by
      intro d
      induction d with
      | zero => intro j n τ hj hn g; exact ⟨fun _ => k116 w n τ hw (by omega) g, fun q => absurd (show (8 : Int32) ≤ nI j by rw [show j = 8 by omega]; decide) q⟩
      | succ d ih =>
        intro j n τ hj hn g
        have hj8 : j < 8 := by omega
        exact ⟨fun _ => k116 w n τ hw (by omega) g, fun _ => sp_letterOf hw hj8 ⟨fun _ => k116 w n τ hw (by omega) g, fun _ => sp_letterOf hw hj8 (sm_say (by omega) g (fun τ g => fun y hy => by
          rw [hy, nI_1]
          exact ih (j + 1) (n + 1) τ (by omega) (by omega) g))⟩⟩
    exact ⟨9, main 8 0 n τ rfl (by omega) g⟩
  have h0 : LI G s t 0 (wI σ 30 0) := ⟨h, rfl⟩
  have k56 : ∀ w n τ, w < 53 → n ≤ 2 → LI G s t n τ → wB_X9_write_56 post x (nI w) τ := by
    intro w n τ hw hn g
    refine sm_say (by omega) g (fun τ g => ?_)
    show wp_X9_sayNumber _ ((((x >>> ((20 : Int32).toInt64 &&& 63)) &&& 15).toInt32 &&& 3).toInt64) τ
    obtain ⟨j, hj, e⟩ := pk_andE (((x >>> ((20 : Int32).toInt64 &&& 63)) &&& 15).toInt32) (m := 3) 2 (by decide)
    rw [e, nI_l (by omega)]
    exact say_pos (m := 0) (by decide) (by omega) (by omega) g (fun τ q hq g => sm_say (by omega) g (fun τ g => k79 w _ τ hw (by omega) g))
  refine sm_listed ⟨fun _ => sm_say (by omega) h0 (fun τ g => sm_say (by omega) g (fun τ g => k τ _ (by omega) g)), fun q => absurd rfl q⟩ (fun w hw => ⟨fun q => absurd q (nI_ne1 (by omega)), fun _ => ⟨fun _ => k79 w 0 _ hw (by omega) h0, fun _ => sm_say (by omega) h0 (fun τ g => ⟨fun _ => k56 w _ τ hw (by omega) g, fun _ => sm_say (by omega) g (fun τ g => k56 w _ τ hw (by omega) g)⟩)⟩⟩)
theorem sm_letter {post : Int32 → MS → Prop} {x i : Int32} (h : GJ G s t σ) (k : ∀ r τ, GJ G s t τ → post r τ) : wp_X9_letter post x i σ := by
  obtain ⟨z, hz, -, e⟩ := h.q
  refine sm_isPlace (σ := wI σ 0 0) hz e ⟨fun _ => k _ _ h, fun q => absurd rfl q⟩ (fun j hj hx => ⟨fun q => absurd q (by decide), fun _ => ⟨fun hi => ⟨by rw [hx]; exact vp_in_nI (by omega) (by decide), sm_write (σ := wI σ 0 0) h (fun τ n hn g => ⟨fun _ => k _ τ g.1, fun q => ⟨?_, k _ τ g.1⟩⟩)⟩, fun _ => k _ _ h⟩⟩)
  obtain ⟨m, hm, rfl⟩ := nI_of (Int32.not_lt.mpr hi)
  rw [g.2] at q
  refine vp_in_nI ?_ (by decide)
  rcases Nat.lt_or_ge m n with r | r
  · omega
  · exact absurd (nI_le r hm) q
end ML
