/-! the reference's tables: partsOf, part, opOf, letterOf, spelt, wordOf over the 53 words -/
def pt0 (x : Int32) : Int32 :=
  if 2 ≤ x then (if x = 2 then 1 else if 17 ≤ x then (if 21 ≤ x then (if x = 21 then 4 else if 29 ≤ x then (if 31 ≤ x then (if 33 ≤ x then (if 35 ≤ x then (if 38 ≤ x then (if x = 38 then 10 else if 42 ≤ x then (if 44 ≤ x then (if 46 ≤ x then (if 52 ≤ x then 17 else 16) else 15) else 14) else (11 + x) - 39) else 9) else 8) else 7) else 6) else 5) else 3) else 2) else 0
theorem ite_wp {α : Type} {c : Prop} [Decidable c] {a b : α} {post : α → Prop} (h : post (if c then a else b)) : (c → post a) ∧ (¬ c → post b) :=
  ⟨fun z => by rw [if_pos z] at h; exact h, fun z => by rw [if_neg z] at h; exact h⟩
theorem sp_partsOf {post : Int32 → Prop} {x : Int32} (h : post (pt0 x)) : wp_X9_partsOf post x := by
  obtain ⟨h1, h2⟩ := ite_wp h
  refine ⟨fun c => ?_, h2⟩
  obtain ⟨h3, h4⟩ := ite_wp (h1 c)
  refine ⟨h3, fun c => ?_⟩
  obtain ⟨h5, h6⟩ := ite_wp (h4 c)
  refine ⟨fun c => ?_, h6⟩
  obtain ⟨h7, h8⟩ := ite_wp (h5 c)
  refine ⟨fun c => ?_, h8⟩
  obtain ⟨h9, h10⟩ := ite_wp (h7 c)
  refine ⟨h9, fun c => ?_⟩
  obtain ⟨h11, h12⟩ := ite_wp (h10 c)
  refine ⟨fun c => ?_, h12⟩
  obtain ⟨h13, h14⟩ := ite_wp (h11 c)
  refine ⟨fun c => ?_, h14⟩
  obtain ⟨h15, h16⟩ := ite_wp (h13 c)
  refine ⟨fun c => ?_, h16⟩
  obtain ⟨h17, h18⟩ := ite_wp (h15 c)
  refine ⟨fun c => ?_, h18⟩
  obtain ⟨h19, h20⟩ := ite_wp (h17 c)
  refine ⟨fun c => ?_, h20⟩
  obtain ⟨h21, h22⟩ := ite_wp (h19 c)
  refine ⟨h21, fun c => ?_⟩
  obtain ⟨h23, h24⟩ := ite_wp (h22 c)
  refine ⟨fun c => ?_, h24⟩
  obtain ⟨h25, h26⟩ := ite_wp (h23 c)
  refine ⟨fun c => ?_, h26⟩
  obtain ⟨h27, h28⟩ := ite_wp (h25 c)
  refine ⟨fun c => ?_, h28⟩
  exact ite_wp (h27 c)
theorem part_in : ∀ w, w < 53 → ∀ k, k < 4 → vp_in ((5 * pt0 (nI w)) + nI k) (lenM.getD 0 0) := by unfold vp_in; decide +kernel
def partC (w k : Nat) : Int32 := sCh bytM 0 ((5 * pt0 (nI w)) + nI k).toNatClampNeg
theorem sp_part {post : Int32 → Prop} {w k : Nat} (hw : w < 53) (hk : k < 4) (h : post (partC w k)) : wp_X9_part post (nI w) (nI k) :=
  sp_partsOf ⟨part_in w hw k hk, fun r hr => by rw [hr]; exact h⟩
def opC (w : Nat) : Int32 := if 2 ≤ nI w then (if nI w = 52 then 0 else ((10 * (sCh bytM 1 (2 * nI w).toNatClampNeg - 48)) + sCh bytM 1 ((2 * nI w) + 1).toNatClampNeg) - 48) else nI w
theorem op_inA : ∀ w, w < 53 → ¬ nI w = 52 → vp_in (2 * nI w) (lenM.getD 1 0) ∧ vp_in ((2 * nI w) + 1) (lenM.getD 1 0) := by unfold vp_in; decide +kernel
theorem sp_opOf {post : Int32 → Prop} {w : Nat} (hw : w < 53) (h : post (opC w)) : wp_X9_opOf post (nI w) := by
  obtain ⟨h1, h2⟩ := ite_wp h
  refine ⟨fun c => ?_, h2⟩
  obtain ⟨h3, h4⟩ := ite_wp (h1 c)
  refine ⟨h3, fun c => ⟨(op_inA w hw c).1, fun r hr => ⟨(op_inA w hw c).2, fun q hq => ?_⟩⟩⟩
  rw [hr, hq]
  exact h4 c
def letC (w k : Nat) : Int32 := sCh bytM 2 ((8 * nI w) + nI k).toNatClampNeg
theorem let_in : ∀ w, w < 53 → ∀ k, k < 8 → vp_in ((8 * nI w) + nI k) (lenM.getD 2 0) := by unfold vp_in; decide +kernel
theorem sp_letterOf {post : Int32 → Prop} {w k : Nat} (hw : w < 53) (hk : k < 8) (h : post (letC w k)) : wp_X9_letterOf post (nI w) (nI k) :=
  ⟨let_in w hw k hk, fun r hr => by rw [hr]; exact h⟩
def spF (w : Nat) : Nat → Nat → Int64 → Int64
  | 0, _, v => v
  | d + 1, j, v => if letC w j = 32 then v else spF w d (j + 1) ((v <<< ((8 : Int32).toInt64 &&& 63)) ||| (letC w j).toInt64)
def spC (w : Nat) : Int64 := spF w 8 0 0
theorem spelt_4 {post : Int64 → Prop} {w : Nat} (hw : w < 53) : ∀ (d j : Nat) (v : Int64), j + d = 8 → post (spF w d j v) → ∃ n, wL_X9_spelt_4 post n (nI w) v (nI j) := by
  intro d
  induction d with
  | zero =>
    intro j v hj h
    refine ⟨1, fun _ => h, fun z => absurd (show (8 : Int32) ≤ nI j from ?_) z⟩
    rw [show j = 8 by omega]; decide
  | succ d ih =>
    intro j v hj h
    have hj8 : j < 8 := by omega
    obtain ⟨h1, h2⟩ := ite_wp h
    by_cases c : letC w j = 32
    · exact ⟨1, fun z => absurd z (nI_ge hj8 (by decide)), fun _ => sp_letterOf hw hj8 ⟨fun _ => h1 c, fun z => absurd c z⟩⟩
    · obtain ⟨n, hn⟩ := ih (j + 1) _ (by omega) (h2 c)
      refine ⟨n + 1, fun z => absurd z (nI_ge hj8 (by decide)), fun _ => sp_letterOf hw hj8 ⟨fun z => absurd z c, fun _ => sp_letterOf hw hj8 ?_⟩⟩
      intro x hx y hy
      rw [hx, hy, nI_1]
      exact hn
theorem sp_spelt {post : Int64 → Prop} {w : Nat} (hw : w < 53) (h : post (spC w)) : wp_X9_spelt post (nI w) := spelt_4 hw 8 0 0 rfl h
def woF (v : Int64) : Nat → Nat → Int32
  | 0, _ => -1
  | d + 1, j => if spC j = v then nI j else woF v d (j + 1)
def wordC (v : Int64) : Int32 := woF v 53 0
theorem wordOf_2 {post : Int32 → Prop} {v : Int64} : ∀ (d j : Nat), j + d = 53 → post (woF v d j) → ∃ n, wL_X9_wordOf_2 post n v (nI j) := by
  intro d
  induction d with
  | zero =>
    intro j hj h
    refine ⟨1, fun _ => h, fun z => absurd (show (53 : Int32) ≤ nI j from ?_) z⟩
    rw [show j = 53 by omega]; decide
  | succ d ih =>
    intro j hj h
    have hj8 : j < 53 := by omega
    obtain ⟨h1, h2⟩ := ite_wp h
    by_cases c : spC j = v
    · exact ⟨1, fun z => absurd z (nI_ge hj8 (by decide)), fun _ => sp_spelt hj8 ⟨fun _ => h1 c, fun z => absurd c z⟩⟩
    · obtain ⟨n, hn⟩ := ih (j + 1) (by omega) (h2 c)
      refine ⟨n + 1, fun z => absurd z (nI_ge hj8 (by decide)), fun _ => sp_spelt hj8 ⟨fun z => absurd z c, fun _ => ?_⟩⟩
      intro y hy
      rw [hy, nI_1]
      exact hn
theorem sp_wordOf {post : Int32 → Prop} {v : Int64} (h : post (wordC v)) : wp_X9_wordOf post v := wordOf_2 53 0 rfl h
def bI (p : Prop) [Decidable p] : Int32 := if p then 1 else 0
theorem isB_bI (p : Prop) [Decidable p] : isB (bI p) := by
  unfold bI
  split
  · exact Or.inr rfl
  · exact Or.inl rfl
theorem sp_isTold {post : Int32 → Prop} {x : Int32} (h : post (bI (¬ x ≤ 21 ∧ ¬ 29 ≤ x))) : wp_X9_isTold post x := by
  unfold bI at h
  refine ⟨fun c => ⟨Or.inl rfl, ?_⟩, fun c => ⟨fun c2 => ⟨Or.inl rfl, ?_⟩, fun c2 => ⟨Or.inr rfl, ?_⟩⟩⟩
  · rw [if_neg (fun z => z.1 c)] at h; exact h
  · rw [if_neg (fun z => z.2 c2)] at h; exact h
  · rw [if_pos ⟨c, c2⟩] at h; exact h
theorem sp_isDigit {post : Int32 → Prop} {x : Int32} (h : post (bI (¬ x < 48 ∧ ¬ 57 < x))) : wp_X9_isDigit post x := by
  unfold bI at h
  refine ⟨fun c => ⟨Or.inl rfl, ?_⟩, fun c => ⟨fun c2 => ⟨Or.inl rfl, ?_⟩, fun c2 => ⟨Or.inr rfl, ?_⟩⟩⟩
  · rw [if_neg (fun z => z.1 c)] at h; exact h
  · rw [if_neg (fun z => z.2 c2)] at h; exact h
  · rw [if_pos ⟨c, c2⟩] at h; exact h
