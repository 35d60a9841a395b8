/-! what states hold after writes -/
theorem mI_wI (σ : MS) (k : Nat) (v : Int32) (j : Nat) : mI (wI σ k v) j = if j = k then v else mI σ j := rfl
theorem mI_wJ (σ : MS) (k : Nat) (v : Int64) (j : Nat) : mI (wJ σ k v) j = mI σ j := rfl
theorem mI_wA (σ : MS) (k i : Nat) (v : Int32) (j : Nat) : mI (wA σ k i v) j = mI σ j := rfl
theorem mI_wL (σ : MS) (k i : Nat) (v : Int64) (j : Nat) : mI (wL σ k i v) j = mI σ j := rfl
theorem mJ_wI (σ : MS) (k : Nat) (v : Int32) (j : Nat) : mJ (wI σ k v) j = mJ σ j := rfl
theorem mJ_wJ (σ : MS) (k : Nat) (v : Int64) (j : Nat) : mJ (wJ σ k v) j = if j = k then v else mJ σ j := rfl
theorem mJ_wA (σ : MS) (k i : Nat) (v : Int32) (j : Nat) : mJ (wA σ k i v) j = mJ σ j := rfl
theorem mJ_wL (σ : MS) (k i : Nat) (v : Int64) (j : Nat) : mJ (wL σ k i v) j = mJ σ j := rfl
theorem mA_wI (σ : MS) (k : Nat) (v : Int32) (j : Nat) : mA (wI σ k v) j = mA σ j := rfl
theorem mA_wJ (σ : MS) (k : Nat) (v : Int64) (j : Nat) : mA (wJ σ k v) j = mA σ j := rfl
theorem mA_wL (σ : MS) (k i : Nat) (v : Int64) (j : Nat) : mA (wL σ k i v) j = mA σ j := rfl
theorem mA_wA (σ : MS) (k i : Nat) (v : Int32) (j : Nat) : mA (wA σ k i v) j = if j = k then upd (mA σ k) i v else mA σ j := by
  funext x
  show (if j = k then upd (σ.2.2.1 k) i v else σ.2.2.1 j) x = _
  by_cases h : j = k
  · rw [if_pos h, if_pos h]; rfl
  · rw [if_neg h, if_neg h]; rfl
theorem mL_wI (σ : MS) (k : Nat) (v : Int32) (j : Nat) : mL (wI σ k v) j = mL σ j := rfl
theorem mL_wJ (σ : MS) (k : Nat) (v : Int64) (j : Nat) : mL (wJ σ k v) j = mL σ j := rfl
theorem mL_wA (σ : MS) (k i : Nat) (v : Int32) (j : Nat) : mL (wA σ k i v) j = mL σ j := rfl
theorem mL_wL (σ : MS) (k i : Nat) (v : Int64) (j : Nat) : mL (wL σ k i v) j = if j = k then vp_updL (mL σ k) i v else mL σ j := by
  funext x
  show (if j = k then vp_updL (σ.2.2.2 k) i v else σ.2.2.2 j) x = _
  by_cases h : j = k
  · rw [if_pos h, if_pos h]; rfl
  · rw [if_neg h, if_neg h]; rfl
/-- two states are one when they hold the same -/
theorem MS_ext {σ τ : MS} (h1 : ∀ k, mI σ k = mI τ k) (h2 : ∀ k, mJ σ k = mJ τ k) (h3 : ∀ k i, mA σ k i = mA τ k i) (h4 : ∀ k i, mL σ k i = mL τ k i) : σ = τ := by
  obtain ⟨a, b, c, d⟩ := σ
  obtain ⟨a', b', c', d'⟩ := τ
  have e1 : a = a' := funext h1
  have e2 : b = b' := funext h2
  have e3 : c = c' := funext fun k => funext fun i => h3 k i
  have e4 : d = d' := funext fun k => funext fun i => h4 k i
  rw [e1, e2, e3, e4]
/-- a whole array anew -/
theorem mI_wAs (σ : MS) (k : Nat) (f : Nat → Int32) (j : Nat) : mI (wAs σ k f) j = mI σ j := rfl
theorem mJ_wAs (σ : MS) (k : Nat) (f : Nat → Int32) (j : Nat) : mJ (wAs σ k f) j = mJ σ j := rfl
theorem mL_wAs (σ : MS) (k : Nat) (f : Nat → Int32) (j : Nat) : mL (wAs σ k f) j = mL σ j := rfl
theorem mA_wAs (σ : MS) (k : Nat) (f : Nat → Int32) (j : Nat) : mA (wAs σ k f) j = if j = k then f else mA σ j := by
  funext x
  show (if j = k then f else σ.2.2.1 j) x = _
  by_cases h : j = k
  · rw [if_pos h, if_pos h]
  · rw [if_neg h, if_neg h]; rfl
theorem mI_wLs (σ : MS) (k : Nat) (f : Nat → Int64) (j : Nat) : mI (wLs σ k f) j = mI σ j := rfl
theorem mJ_wLs (σ : MS) (k : Nat) (f : Nat → Int64) (j : Nat) : mJ (wLs σ k f) j = mJ σ j := rfl
theorem mA_wLs (σ : MS) (k : Nat) (f : Nat → Int64) (j : Nat) : mA (wLs σ k f) j = mA σ j := rfl
theorem mL_wLs (σ : MS) (k : Nat) (f : Nat → Int64) (j : Nat) : mL (wLs σ k f) j = if j = k then f else mL σ j := by
  funext x
  show (if j = k then f else σ.2.2.2 j) x = _
  by_cases h : j = k
  · rw [if_pos h, if_pos h]
  · rw [if_neg h, if_neg h]; rfl
theorem nI_m1 (k : Nat) : nI (k + 1) - 1 = nI k := nI_pred k
theorem nI_neg1 : nI 0 - 1 < 0 := by decide
/-! type -/
/-- the k-th byte from below -/
def byteAt (w : Int64) (k : Nat) : Int32 := ((w >>> ((8 * nI k).toInt64 &&& 63)) &&& 255).toInt32
def byOk (w : Int64) (k : Nat) : Prop := ¬ byteAt w k < 32 ∧ byteAt w k ≤ 126
/-- n bytes behind the first t characters -/
def tApp (f : Nat → Int32) (t n : Nat) (w : Int64) : Nat → Int32 := fun j => if t ≤ j ∧ j < t + n then byteAt w (n - 1 - (j - t)) else f j
theorem tApp_0 (f : Nat → Int32) (t : Nat) (w : Int64) : tApp f t 0 w = f := by
  funext j
  unfold tApp
  rw [if_neg (by omega)]
theorem tApp_s (f : Nat → Int32) (t k : Nat) (w : Int64) : tApp (upd f t (byteAt w k)) (t + 1) k w = tApp f t (k + 1) w := by
  funext j
  unfold tApp
  by_cases h1 : t + 1 ≤ j ∧ j < t + 1 + k
  · rw [if_pos h1, if_pos (by omega), show k - 1 - (j - (t + 1)) = k + 1 - 1 - (j - t) by omega]
  · rw [if_neg h1]
    by_cases h2 : j = t
    · rw [if_pos (by omega), h2, pk_us, show k + 1 - 1 - (t - t) = k by omega]
    · rw [if_neg (by omega), pk_un h2]
def mTyped (σ : MS) (t n : Nat) (w : Int64) : MS := wI (wAs σ 1 (tApp (mA σ 1) t n w)) 2 (nI (t + n))
theorem mTyped_0 (σ : MS) (t : Nat) (w : Int64) (h : mI σ 2 = nI t) : mTyped σ t 0 w = σ := by
  refine MS_ext (fun k => ?_) (fun k => rfl) (fun k i => ?_) (fun k i => rfl)
  · unfold mTyped
    rw [mI_wI, mI_wAs]
    by_cases hk : k = 2
    · rw [if_pos hk, hk, h]; rfl
    · rw [if_neg hk]
  · unfold mTyped
    rw [mA_wI, mA_wAs, tApp_0]
    by_cases hk : k = 1
    · rw [if_pos hk, hk]
    · rw [if_neg hk]
theorem mTyped_s (σ : MS) (t k : Nat) (w : Int64) : mTyped (wI (wA σ 1 t (byteAt w k)) 2 (nI (t + 1))) (t + 1) k w = mTyped σ t (k + 1) w := by
  refine MS_ext (fun j => ?_) (fun j => rfl) (fun j i => ?_) (fun j i => rfl)
  · unfold mTyped
    simp only [mI_wI, mI_wAs, mI_wA]
    by_cases hj : j = 2
    · rw [if_pos hj, if_pos hj, show t + 1 + k = t + (k + 1) by omega]
    · rw [if_neg hj, if_neg hj, if_neg hj]
  · unfold mTyped
    simp only [mA_wI, mA_wAs, mA_wA]
    by_cases hj : j = 1
    · rw [if_pos hj, if_pos hj, if_pos trivial, tApp_s]
    · rw [if_neg hj, if_neg hj, if_neg hj]
theorem type_80 {post : Int32 → MS → Prop} {w : Int64} : ∀ (k : Nat) (σ : MS) (t : Nat), mI σ 2 = nI t → t + k ≤ 700 → post 1 (mTyped σ t k w) → ∃ n, wL_X9_type_80 post n w (nI k - 1) σ := by
  intro k
  induction k with
  | zero =>
    intro σ t ht h7 hp
    rw [mTyped_0 σ t w ht] at hp
    exact ⟨1, fun _ => hp, fun z => absurd nI_neg1 z⟩
  | succ k ih =>
    intro σ t ht h7 hp
    rw [← mTyped_s] at hp
    obtain ⟨n, hn⟩ := ih _ (t + 1) rfl (by omega) hp
    refine ⟨n + 1, fun z => absurd z (by rw [nI_m1]; exact nI_pos (by omega)), fun _ => ⟨?_, ?_⟩⟩
    · rw [ht]; exact vp_in_nI (by omega) (by omega)
    · intro x hx
      rw [hx, nI_m1, ht, nI_clamp (by omega), nI_1]
      have e : nI k + (-1) = nI k - 1 := by
        rw [Int32.sub_eq_add_neg]
      rw [e]
      exact hn
