/-! each call keeps what stands between the law's calls -/
theorem II_0 (a : Nat) : II x0 (b0 a) m0 := by
  refine ⟨0, 0, by omega, by omega, ⟨⟨⟨0, by omega, rfl⟩, ⟨0, by omega, rfl⟩, fun i e z => (by cases z)⟩, rfl, fun i e z => (by cases z), fun i => Or.inr ⟨0, by omega, rfl⟩⟩, ⟨0, rfl, Nat.zero_le _, Or.inl rfl, sb_fit0⟩, ⟨rfl, rfl, ⟨0, by omega, rfl⟩, fun i => ⟨vp_in_nI (n := 0) (by decide) (by decide), Or.inl rfl⟩, fun q _ => ⟨0, by omega, rfl⟩⟩, fun i hi => absurd hi (Nat.not_lt_zero i), ⟨0, by omega, rfl, rfl, fun k hk => absurd hk (Nat.not_lt_zero k)⟩, 0, by omega, rfl, rfl, fun i hi => absurd hi (Nat.not_lt_zero i)⟩
theorem II_step (xs : Nat → Int32) (x4 : Int32) (σ : XS) (β : BS) (τ : MS) (f : Nat → Int64) (h : II σ β τ) : lcAll II xs x4 σ β τ f := by
  refine ⟨?_, ?_, ?_, ?_, ?_, ?_, ?_, ?_, ?_, ?_, ?_, ?_⟩
  · exact bo_type h (fun r σ' τ' g => g)
  · exact bo_compile h (fun r σ' τ' e g => g) (fun σ' r τ' e g => g)
  · exact bo_fault h (fun r r' τ' g => g)
  · exact bo_set h (fun r σ' τ' g => g)
  · exact bo_word h (fun r τ' e g => g) (fun r τ' e g => g)
  · exact be_letter h (fun r γ τ' g => ⟨rfl, g⟩)
  · exact bo_name h (fun r τ' e g => g) (fun r τ' e g => g)
  · exact bo_way h (fun r r' τ' g => g)
  · exact bo_reached h (fun r r' τ' g => g)
  · exact bo_live h (fun r r' τ' g => g)
  · exact bo_meet h (fun r r' τ' g => g)
  · exact bo_total h (fun r r' τ' g => g)
