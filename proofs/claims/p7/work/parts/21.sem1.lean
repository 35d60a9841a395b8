/-! type, of the reference -/
theorem byteAt_nI (w : Int64) (k : Nat) : ((w >>> ((8 * nI k).toInt64 &&& 63)) &&& 255).toInt32 = byteAt w k := rfl
theorem type_33 {post : Int32 → MS → Prop} {w : Int64} {n : Nat} (hn8 : n ≤ 8) {σ : MS} {t : Nat} (ht : mI σ 2 = nI t) (h7 : t + n ≤ 700)
    (hno : ¬ (∀ k, k < n → byOk w k) → post 0 σ) (hyes : (∀ k, k < n → byOk w k) → post 1 (mTyped σ t n w)) :
    ∀ (d k : Nat), n - k = d → k ≤ n → (∀ j, j < k → byOk w j) → ∃ f, wL_X9_type_33 post f w (nI n) (nI k) σ := by
  intro d
  induction d with
  | zero =>
    intro k hd hk hall
    have hkn : k = n := by omega
    refine ⟨1, fun _ => ?_, fun z => absurd (nI_le (by omega) (by omega)) z⟩
    intro x hx
    rw [hx]
    exact type_80 n σ t ht h7 (hyes (fun j hj => hall j (by omega)))
  | succ d ih =>
    intro k hd hk hall
    have hlt : k < n := by omega
    by_cases hb : byOk w k
    · obtain ⟨f, hf⟩ := ih (k + 1) (by omega) (by omega) (fun j hj => by
        rcases Nat.lt_or_ge j k with h | h
        · exact hall j h
        · rw [show j = k by omega]; exact hb)
      refine ⟨f + 1, fun z => absurd z (nI_ge hlt (by omega)), fun _ => ?_⟩
      intro x hx
      have hx : x = byteAt w k := hx
      rw [hx]
      refine ⟨fun z => absurd z hb.1, fun _ => ⟨fun _ => ?_, fun z => absurd hb.2 z⟩⟩
      intro y hy
      rw [hy, nI_1]
      exact hf
    · have hp := hno (fun z => hb (z k hlt))
      refine ⟨1, fun z => absurd z (nI_ge hlt (by omega)), fun _ => ?_⟩
      intro x hx
      have hx : x = byteAt w k := hx
      rw [hx]
      refine ⟨fun _ => hp, fun h1 => ⟨fun h2 => absurd ⟨h1, h2⟩ hb, fun _ => hp⟩⟩
/-- what type takes: how many bytes, all of them printable, and room -/
def tyTakes (w : Int64) (n : Int32) (t : Nat) : Prop := ¬ n < 1 ∧ ¬ 8 < n ∧ (nI t + n ≤ 700) ∧ ∀ k : Nat, k < n.toNatClampNeg → byOk w k
theorem sp_type {post : Int32 → MS → Prop} {w : Int64} {n : Int32} {σ : MS} {t : Nat} (ht : mI σ 2 = nI t) (h7 : t ≤ 700)
    (hno : ¬ tyTakes w n t → post 0 (wI σ 0 0)) (hyes : tyTakes w n t → post 1 (mTyped (wI σ 0 0) t n.toNatClampNeg w)) : wp_X9_type post w n σ := by
  have e0 : mI (wI σ 0 0) 2 = nI t := ht
  refine ⟨fun c => hno (fun z => z.1 c), fun c1 => ⟨fun c => hno (fun z => z.2.1 c), fun c8 => ⟨fun c => ?_, fun c => hno (fun z => c (by rw [ht]; exact z.2.2.1))⟩⟩⟩
  have hp : ¬ n < 0 := fun z => c1 (by
    rw [Int32.lt_iff_toInt_lt] at z ⊢
    have h0 : (0 : Int32).toInt = 0 := rfl
    have h1 : (1 : Int32).toInt = 1 := rfl
    omega)
  obtain ⟨k, hk, rfl⟩ := nI_of hp
  have hk8 : k ≤ 8 := by
    rcases Nat.lt_or_ge 8 k with h | h
    · exact absurd (nI_lt h hk) c8
    · exact h
  have hs : t + k ≤ 700 := by
    rw [ht, nI_add] at c
    exact (nI_leI (by omega) (by decide)).mp c
  rw [nI_clamp hk] at hyes
  refine type_33 hk8 e0 hs (fun z => hno (fun q => z (fun j hj => q.2.2.2 j (by rw [nI_clamp hk]; exact hj)))) (fun z => hyes ⟨c1, c8, by rw [← ht]; exact c, fun j hj => z j (by rw [nI_clamp hk] at hj; exact hj)⟩) k 0 (by omega) (by omega) (fun j hj => by omega)
