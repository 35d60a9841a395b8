/-! what stands between the law's calls, and that each call keeps it -/
def II (σ : XS) (β : BS) (τ : MS) : Prop := ∃ s t, s < 2 ∧ t ≤ 700 ∧ XG t σ ∧ BG β ∧ GI s t τ
theorem II_0 (a : Nat) : II x0 (b0 a) m0 := by
  refine ⟨0, 0, by omega, by omega, ⟨⟨⟨0, by omega, rfl⟩, ⟨0, by omega, rfl⟩, fun i e z => (by cases z)⟩, rfl, fun i e z => (by cases z), fun i => Or.inr ⟨0, by omega, rfl⟩⟩, ⟨0, rfl, Nat.zero_le _, Or.inl rfl, sb_fit0⟩, rfl, rfl, ⟨0, by omega, rfl⟩, fun i => ⟨vp_in_nI (n := 0) (by decide) (by decide), Or.inl rfl⟩, fun q _ => ⟨0, by omega, rfl⟩⟩
theorem ty_le {w : Int64} {n : Int32} {t : Nat} (ht : t ≤ 700) (h : tyTakes w n t) : t + n.toNatClampNeg ≤ 700 := by
  obtain ⟨h1, h8, h7, -⟩ := h
  have hp : ¬ n < 0 := fun z => h1 (by
    rw [Int32.lt_iff_toInt_lt] at z ⊢
    have e0 : (0 : Int32).toInt = 0 := rfl
    have e1 : (1 : Int32).toInt = 1 := rfl
    omega)
  obtain ⟨k, hk, rfl⟩ := nI_of hp
  have hk8 : k ≤ 8 := by
    rcases Nat.lt_or_ge 8 k with r | r
    · exact absurd (nI_lt r hk) h8
    · exact r
  rw [nI_clamp hk]
  rw [nI_add] at h7
  exact (nI_leI (by omega) (by decide)).mp h7
theorem gi_typed {s t n : Nat} {τ : MS} {w : Int64} (h : GI s t τ) : GI s (t + n) (mTyped (wI τ 0 0) t n w) := ⟨h.1, rfl, h.2.2.1, h.2.2.2.1, h.2.2.2.2⟩
theorem II_step (xs : Nat → Int32) (x4 : Int32) (σ : XS) (β : BS) (τ : MS) (f : Nat → Int64) (h : II σ β τ) : lcAll II xs x4 σ β τ f := by
  obtain ⟨s, t, hs, ht, hX, hB, hG⟩ := h
  obtain ⟨z, hz, hQ⟩ := hG.q
  refine ⟨?_, ?_, ?_, ?_, ?_, ?_, ?_, ?_, ?_, ?_, ?_, ?_⟩
  · refine sx_type hX.2.1 ht (fun no => sp_type hG.2.1 ht (fun _ => ⟨rfl, s, t, hs, ht, hX, hB, hG⟩) (fun y => absurd y no)) (fun y => sp_type hG.2.1 ht (fun no => absurd y no) (fun _ => ⟨rfl, s, t + (xs (x4 + 3).toNatClampNeg).toNatClampNeg, hs, ty_le ht y, xg_typed hX, hB, gi_typed hG⟩))
  · exact sx_compile ht hX (fun r σ' g => sm_compile hs ht hG (fun r s' τ' hs' g' => ⟨s', 0, hs', by omega, g, hB, g'⟩)) (fun σ' g => sm_compile hs ht hG (fun r s' τ' hs' g' => ⟨s', 0, hs', by omega, g, hB, g'⟩))
  · exact sx_fault (fun r => sm_fault hG (fun b τ' g => ⟨s, t, hs, ht, hX, hB, g⟩))
  · exact sx_set' hX (fun b σ' _ g => sm_set hG (fun b τ' _ g' => ⟨s, t, hs, ht, g, hB, g'⟩))
  · exact sx_word hX.1 (fun r => sm_word hG (fun b τ' g => ⟨s, t, hs, ht, hX, hB, g⟩)) (sm_word hG (fun b τ' g => ⟨s, t, hs, ht, hX, hB, g⟩))
  · exact sx_letter hX.1 hB (fun r γ g => sm_letter hG (fun b τ' g' => ⟨s, t, hs, ht, hX, g, g'⟩))
  · exact sx_name hX.1 (fun r => sm_name hs hG (fun b τ' g => ⟨s, t, hs, ht, hX, hB, g⟩)) (sm_name hs hG (fun b τ' g => ⟨s, t, hs, ht, hX, hB, g⟩))
  · exact sx_way hX.1 (fun r => sm_way hG (fun b τ' g => ⟨s, t, hs, ht, hX, hB, g⟩))
  · exact sx_reached hX.1 (fun r _ => sm_reached hz hQ (fun τ' g => ⟨s, t, hs, ht, hX, hB, g.1⟩) (fun b τ' _ _ g => ⟨s, t, hs, ht, hX, hB, g.1⟩))
  · exact sx_live hX.1 (fun r _ => sm_live hz hQ (fun b τ' _ g => ⟨s, t, hs, ht, hX, hB, g.1⟩))
  · exact sx_meet hX.1 (fun r => sm_meet hz hQ (fun b τ' g => ⟨s, t, hs, ht, hX, hB, g.1⟩))
  · exact sx_total hX.1 (fun r => sm_total hs hz hQ (fun b τ' g => ⟨s, t, hs, ht, hX, hB, g.1⟩))
