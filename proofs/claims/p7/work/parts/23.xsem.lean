/-! reads and writes of the class's state (printed) -/
theorem xI_yA (σ : XS) (k i : Nat) (v : Int32) (j : Nat) : xI (yA σ k i v) j = xI σ j := rfl
theorem xI_yL (σ : XS) (k i : Nat) (v : Int64) (j : Nat) : xI (yL σ k i v) j = xI σ j := rfl
theorem xI_yQ (σ : XS) (k i : Nat) (v : Option Nat) (j : Nat) : xI (yQ σ k i v) j = xI σ j := rfl
theorem xI_yAs (σ : XS) (k : Nat) (f : Nat → Int32) (j : Nat) : xI (yAs σ k f) j = xI σ j := rfl
theorem xI_yLs (σ : XS) (k : Nat) (f : Nat → Int64) (j : Nat) : xI (yLs σ k f) j = xI σ j := rfl
theorem xI_yQs (σ : XS) (k : Nat) (f : Nat → Option Nat) (j : Nat) : xI (yQs σ k f) j = xI σ j := rfl
theorem xA_yI (σ : XS) (k : Nat) (v : Int32) (j : Nat) : xA (yI σ k v) j = xA σ j := rfl
theorem xA_yL (σ : XS) (k i : Nat) (v : Int64) (j : Nat) : xA (yL σ k i v) j = xA σ j := rfl
theorem xA_yQ (σ : XS) (k i : Nat) (v : Option Nat) (j : Nat) : xA (yQ σ k i v) j = xA σ j := rfl
theorem xA_yLs (σ : XS) (k : Nat) (f : Nat → Int64) (j : Nat) : xA (yLs σ k f) j = xA σ j := rfl
theorem xA_yQs (σ : XS) (k : Nat) (f : Nat → Option Nat) (j : Nat) : xA (yQs σ k f) j = xA σ j := rfl
theorem xL_yI (σ : XS) (k : Nat) (v : Int32) (j : Nat) : xL (yI σ k v) j = xL σ j := rfl
theorem xL_yA (σ : XS) (k i : Nat) (v : Int32) (j : Nat) : xL (yA σ k i v) j = xL σ j := rfl
theorem xL_yQ (σ : XS) (k i : Nat) (v : Option Nat) (j : Nat) : xL (yQ σ k i v) j = xL σ j := rfl
theorem xL_yAs (σ : XS) (k : Nat) (f : Nat → Int32) (j : Nat) : xL (yAs σ k f) j = xL σ j := rfl
theorem xL_yQs (σ : XS) (k : Nat) (f : Nat → Option Nat) (j : Nat) : xL (yQs σ k f) j = xL σ j := rfl
theorem xQ_yI (σ : XS) (k : Nat) (v : Int32) (j : Nat) : xQ (yI σ k v) j = xQ σ j := rfl
theorem xQ_yA (σ : XS) (k i : Nat) (v : Int32) (j : Nat) : xQ (yA σ k i v) j = xQ σ j := rfl
theorem xQ_yL (σ : XS) (k i : Nat) (v : Int64) (j : Nat) : xQ (yL σ k i v) j = xQ σ j := rfl
theorem xQ_yAs (σ : XS) (k : Nat) (f : Nat → Int32) (j : Nat) : xQ (yAs σ k f) j = xQ σ j := rfl
theorem xQ_yLs (σ : XS) (k : Nat) (f : Nat → Int64) (j : Nat) : xQ (yLs σ k f) j = xQ σ j := rfl
theorem xI_yI (σ : XS) (k : Nat) (v : Int32) (j : Nat) : xI (yI σ k v) j = if j = k then v else xI σ j := rfl
theorem xA_yA (σ : XS) (k i : Nat) (v : Int32) (j : Nat) : xA (yA σ k i v) j = if j = k then upd (xA σ k) i v else xA σ j := by
  funext x
  show (if j = k then upd (σ.2.1 k) i v else σ.2.1 j) x = _
  by_cases h : j = k
  · rw [if_pos h, if_pos h]; rfl
  · rw [if_neg h, if_neg h]; rfl
theorem xA_yAs (σ : XS) (k : Nat) (f : Nat → Int32) (j : Nat) : xA (yAs σ k f) j = if j = k then f else xA σ j := by
  funext x
  show (if j = k then f else σ.2.1 j) x = _
  by_cases h : j = k
  · rw [if_pos h, if_pos h]
  · rw [if_neg h, if_neg h]; rfl
theorem xL_yL (σ : XS) (k i : Nat) (v : Int64) (j : Nat) : xL (yL σ k i v) j = if j = k then vp_updL (xL σ k) i v else xL σ j := by
  funext x
  show (if j = k then vp_updL (σ.2.2.1 k) i v else σ.2.2.1 j) x = _
  by_cases h : j = k
  · rw [if_pos h, if_pos h]; rfl
  · rw [if_neg h, if_neg h]; rfl
theorem xL_yLs (σ : XS) (k : Nat) (f : Nat → Int64) (j : Nat) : xL (yLs σ k f) j = if j = k then f else xL σ j := by
  funext x
  show (if j = k then f else σ.2.2.1 j) x = _
  by_cases h : j = k
  · rw [if_pos h, if_pos h]
  · rw [if_neg h, if_neg h]; rfl
theorem xQ_yQ (σ : XS) (k i : Nat) (v : Option Nat) (j : Nat) : xQ (yQ σ k i v) j = if j = k then va_up (xQ σ k) i v else xQ σ j := by
  funext x
  show (if j = k then va_up (σ.2.2.2 k) i v else σ.2.2.2 j) x = _
  by_cases h : j = k
  · rw [if_pos h, if_pos h]; rfl
  · rw [if_neg h, if_neg h]; rfl
theorem xQ_yQs (σ : XS) (k : Nat) (f : Nat → Option Nat) (j : Nat) : xQ (yQs σ k f) j = if j = k then f else xQ σ j := by
  funext x
  show (if j = k then f else σ.2.2.2 j) x = _
  by_cases h : j = k
  · rw [if_pos h, if_pos h]
  · rw [if_neg h, if_neg h]; rfl
theorem XS_ext {σ τ : XS} (h1 : ∀ k, xI σ k = xI τ k) (h2 : ∀ k i, xA σ k i = xA τ k i) (h3 : ∀ k i, xL σ k i = xL τ k i) (h4 : ∀ k i, xQ σ k i = xQ τ k i) : σ = τ := by
  obtain ⟨a1, a2, a3, a4⟩ := σ
  obtain ⟨b1, b2, b3, b4⟩ := τ
  have e1 : a1 = b1 := funext h1
  have e2 : a2 = b2 := funext fun k => funext (h2 k)
  have e3 : a3 = b3 := funext fun k => funext (h3 k)
  have e4 : a4 = b4 := funext fun k => funext (h4 k)
  rw [e1, e2, e3, e4]
/-! type, of the class -/
def xTyped (σ : XS) (t n : Nat) (w : Int64) : XS := yI (yAs σ 0 (tApp (xA σ 0) t n w)) 0 (nI (t + n))
theorem xTyped_0 (σ : XS) (t : Nat) (w : Int64) (h : xI σ 0 = nI t) : xTyped σ t 0 w = σ := by
  refine XS_ext (fun k => ?_) (fun k i => ?_) (fun k i => rfl) (fun k i => rfl)
  · unfold xTyped
    rw [xI_yI, xI_yAs]
    by_cases hk : k = 0
    · rw [if_pos hk, hk, h]; rfl
    · rw [if_neg hk]
  · unfold xTyped
    rw [xA_yI, xA_yAs, tApp_0]
    by_cases hk : k = 0
    · rw [if_pos hk, hk]
    · rw [if_neg hk]
theorem xTyped_s (σ : XS) (t k : Nat) (w : Int64) : xTyped (yI (yA σ 0 t (byteAt w k)) 0 (nI (t + 1))) (t + 1) k w = xTyped σ t (k + 1) w := by
  refine XS_ext (fun j => ?_) (fun j i => ?_) (fun j i => rfl) (fun j i => rfl)
  · unfold xTyped
    simp only [xI_yI, xI_yAs, xI_yA]
    by_cases hj : j = 0
    · rw [if_pos hj, if_pos hj, show t + 1 + k = t + (k + 1) by omega]
    · rw [if_neg hj, if_neg hj, if_neg hj]
  · unfold xTyped
    simp only [xA_yI, xA_yAs, xA_yA]
    by_cases hj : j = 0
    · rw [if_pos hj, if_pos hj, if_pos trivial, tApp_s]
    · rw [if_neg hj, if_neg hj, if_neg hj]
theorem char_id (m : Nat) (h : m < 127) : vp_nar .char (((nI m).toUInt32 % 65536).toInt32) = nI m := co_dec (N := 127) (P := fun m => vp_nar .char (((nI m).toUInt32 % 65536).toInt32) = nI m) (by decide +kernel) h
theorem byte_id {w : Int64} {k : Nat} (h : byOk w k) : vp_nar .char (((byteAt w k).toUInt32 % 65536).toInt32) = byteAt w k := by
  have h0 : ¬ byteAt w k < 0 := fun z => h.1 (by
    rw [Int32.lt_iff_toInt_lt] at z ⊢
    have e0 : (0 : Int32).toInt = 0 := rfl
    have e1 : (32 : Int32).toInt = 32 := rfl
    omega)
  obtain ⟨m, hm, e⟩ := nI_of2 (M := 126) (n := 126) rfl h0 h.2
  rw [e]
  exact char_id m (by omega)
theorem append_69 {post : Int32 → XS → Prop} {w : Int64} : ∀ (k : Nat) (σ : XS) (t : Nat), xI σ 0 = nI t → t + k ≤ 700 → (∀ j, j < k → byOk w j) → post 1 (xTyped σ t k w) → wL_X5_append_69 post (k + 1) w (nI k - 1) σ := by
  intro k
  induction k with
  | zero =>
    intro σ t ht h7 hall hp
    rw [xTyped_0 σ t w ht] at hp
    exact ⟨fun _ => hp, fun z => absurd nI_neg1 z⟩
  | succ k ih =>
    intro σ t ht h7 hall hp
    rw [← xTyped_s] at hp
    have hn := ih _ (t + 1) rfl (by omega) (fun j hj => hall j (by omega)) hp
    refine ⟨fun z => absurd z (by rw [nI_m1]; exact nI_pos (by omega)), fun _ => ⟨?_, ?_⟩⟩
    · rw [ht]; exact vp_in_nI (by omega) (by omega)
    · intro x hx
      rw [hx, nI_m1, ht, nI_clamp (by omega), nI_1]
      have e : nI k + (-1) = nI k - 1 := by
        rw [Int32.sub_eq_add_neg]
      have e2 : ((w >>> ((8 * nI k).toInt64 &&& 63)) &&& 255).toInt32 = byteAt w k := rfl
      rw [e, e2, byte_id (hall k (by omega))]
      exact hn
theorem append_28 {post : Int32 → XS → Prop} {w : Int64} {n : Nat} (hn8 : n ≤ 8) {σ : XS} {t : Nat} (ht : xI σ 0 = nI t) (h7 : t + n ≤ 700)
    (hno : ¬ (∀ k, k < n → byOk w k) → post 0 σ) (hyes : (∀ k, k < n → byOk w k) → post 1 (xTyped σ t n w)) :
    ∀ (d k : Nat), k + d = n → (∀ j, j < k → byOk w j) → wL_X5_append_28 post (d + 1) w (nI n) (nI k) σ := by
  intro d
  induction d with
  | zero =>
    intro k hd hall
    have hkn : k = n := by omega
    refine ⟨fun _ => ?_, fun z => absurd (nI_le (by omega) (by omega)) z⟩
    intro x hx
    rw [hx]
    exact ⟨n + 1, append_69 n σ t ht h7 (fun j hj => hall j (by omega)) (hyes (fun j hj => hall j (by omega)))⟩
  | succ d ih =>
    intro k hd hall
    have hlt : k < n := by omega
    by_cases hb : byOk w k
    · have hf := ih (k + 1) (by omega) (fun j hj => by
        rcases Nat.lt_or_ge j k with h | h
        · exact hall j h
        · rw [show j = k by omega]; exact hb)
      refine ⟨fun z => absurd z (nI_ge hlt (by omega)), fun _ => ?_⟩
      refine ⟨fun z => absurd z hb.1, fun _ => ⟨fun _ => ?_, fun z => absurd hb.2 z⟩⟩
      intro y hy
      rw [hy, nI_1]
      exact hf
    · have hp := hno (fun z => hb (z k hlt))
      refine ⟨fun z => absurd z (nI_ge hlt (by omega)), fun _ => ?_⟩
      exact ⟨fun _ => hp, fun h1 => ⟨fun h2 => absurd ⟨h1, h2⟩ hb, fun _ => hp⟩⟩
theorem sx_type {post : Int32 → XS → Prop} {w : Int64} {n : Int32} {σ : XS} {t : Nat} (ht : xI σ 0 = nI t) (h7 : t ≤ 700)
    (hno : ¬ tyTakes w n t → post 0 σ) (hyes : tyTakes w n t → post 1 (xTyped σ t n.toNatClampNeg w)) : wp_X8_type post w n σ := by
  have hno' : ¬ tyTakes w n t → isB 0 ∧ post 0 σ := fun z => ⟨Or.inl rfl, hno z⟩
  have hyes' : tyTakes w n t → isB 1 ∧ post 1 (xTyped σ t n.toNatClampNeg w) := fun z => ⟨Or.inr rfl, hyes z⟩
  unfold wp_X8_type
  by_cases c1 : n < 1
  · exact ⟨fun _ => hno' (fun z => z.1 c1), fun z => absurd c1 z⟩
  by_cases c8 : 8 < n
  · exact ⟨fun z => absurd z c1, fun _ => ⟨fun _ => hno' (fun z => z.2.1 c8), fun z => absurd c8 z⟩⟩
  have hp : ¬ n < 0 := fun z => c1 (by
    rw [Int32.lt_iff_toInt_lt] at z ⊢
    have h0 : (0 : Int32).toInt = 0 := rfl
    have h1 : (1 : Int32).toInt = 1 := rfl
    omega)
  obtain ⟨k, hk, rfl⟩ := nI_of hp
  have hk8 : k ≤ 8 := by
    rcases Nat.lt_or_ge 8 k with h | h
    · exact absurd (nI_lt h hk) c8
    · exact h
  have e7 : (700 : Int32) - nI k = nI (700 - k) := by
    have hcase := (show k = 0 ∨ k = 1 ∨ k = 2 ∨ k = 3 ∨ k = 4 ∨ k = 5 ∨ k = 6 ∨ k = 7 ∨ k = 8 by omega)
    rcases hcase with rfl | rfl | rfl | rfl | rfl | rfl | rfl | rfl | rfl <;> decide
  have hr : (xI σ 0 ≤ 700 - nI k) ↔ t + k ≤ 700 := by
    rw [ht, e7, nI_leI (by omega) (by omega)]
    omega
  have hr2 : (nI t + nI k ≤ 700) ↔ t + k ≤ 700 := by
    rw [nI_add]
    exact nI_leI (b := 700) (by omega) (by decide)
  rw [nI_clamp hk] at hyes'
  refine ⟨fun z => absurd z c1, fun _ => ⟨fun z => absurd z c8, fun _ => ⟨fun hs => ?_, fun hs => hno' (fun z => hs (hr.mpr (hr2.mp z.2.2.1)))⟩⟩⟩
  have hs' := hr.mp hs
  exact ⟨k + 1, append_28 hk8 ht hs' (fun z => hno' (fun q => z (fun j hj => q.2.2.2 j (by rw [nI_clamp hk]; exact hj)))) (fun z => hyes' ⟨c1, c8, hr2.mpr hs', fun j hj => z j (by rw [nI_clamp hk] at hj; exact hj)⟩) k 0 (by omega) (fun j hj => by omega)⟩
