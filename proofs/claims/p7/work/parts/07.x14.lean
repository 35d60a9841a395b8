/-! ===== X8_total K ===== -/
def rm_X8_total : Room := { frames := 5, cells := 0, slots := 0, locals := 117 }
abbrev wgX8_total : List Cond := .code yX8_total cX8_total 2 (some .int) :: TB
def wp_X8_total (post : Int32 → XS → Prop) (x1 : Int32) (σ : XS) : Prop :=
  (x1 = 0 → (post (xI σ 8) σ)) ∧ (x1 = 1 → (wp_X7_fromStart (fun r_1 σ_2 => wp_J13_bitCount_95d88 (fun r_3  => post r_3 σ_2) r_1) σ)) ∧ (x1 = 2 → (post (xI σ 7) σ)) ∧ (x1 = 3 → (wp_X0_unmade (fun r_5 σ_6 => post r_5 σ_6) σ)) ∧ (¬ x1 = 0 → ¬ x1 = 1 → ¬ x1 = 2 → ¬ x1 = 3 → (post (-1) σ))
set_option maxHeartbeats 4000000 in
set_option maxRecDepth 100000 in
theorem k_X8_total {p : Program} {l : Launch} {e : Env} {s : State} {m : MethodId} {args : Array Value} {below : List Frame} {meth : Method} {c : Code} {A : Nat → Prop} {E : EnvT} {aK aV : Nat → Nat} {aO : Nat} {D : va_G} {cA : Nat → ClassId} {aE ad : Nat → Nat} (C : xCx p s m args meth c cX8_total 2 (some .int) wgX8_total RX8 E D cA A) (vM : eXs aK aV aE aO E) {post : Int32 → XS → Prop} :
    ∀ (x1 : Int32) (σ : XS) (H : Heap) (locs : List Loc) (ls : Array Slot), xG D cA aE ad A s σ H locs → lv_has ls 2 [(0, .ref (ad 0)), (1, .int x1)] → wp_X8_total post x1 σ → W p l e rm_X8_total s m args below meth c H locs 0 0 (MQ below (va_Qi post (xAt D cA aE ad A) A) args s 0 0 A) (F0 m 0 ls []) := by
  obtain ⟨hx, hb, hml, hr, hown, hts, hK, hA, hlk, hE, vE⟩ := id C
  intro x1 σ H locs ls hG hl hw
  obtain ⟨hP, hD, hS⟩ := id hG
  refine lv_iload_n hx hb dX8_total_0 rfl (lv_at hl 1 rfl) ?_
  obtain ⟨hw0, hw1, hw2, hw3, hw4⟩ := hw
  by_cases q_0 : x1 = 0
  · have hw := hw0 q_0
    refine lv_tableIn (tgt := 32) hx hb dX8_total_1 (by rw [q_0] <;> decide) (by rw [q_0] <;> decide) (by rw [q_0] <;> rfl) (by decide) ?_
    refine lv_aload_n hx hb dX8_total_32 rfl (lv_at hl 0 rfl) ?_
    refine va_get (D := D) (ci := 10) (v := .ref (ad 17)) (C := RX8) (T := TX8) (N := 6) hx hb hts (in_tb inX8) hown hK hP 0 rfl rfl 3 (by decide) (hts _ (List.mem_cons_of_mem _ tw_1_227)) (fun _ h9 => h9) rfl dX8_total_33 ?_
    refine va_get (D := D) (ci := 2) (v := .int (xI σ 8)) (C := RX0) (T := TX0) (N := 5) hx hb hts (in_tb inX0) hown hK hP 17 rfl rfl 4 (by decide) (hts _ (List.mem_cons_of_mem _ tw_1_158)) (fun _ h9 => h9) rfl dX8_total_36 ?_
    exact W.iret (v := xI σ 8) hx hb hr (fun t ht hW => ⟨⟨_, σ, rfl, hw, by rw [ht]; exact hP, va_K.moved hW.alike hK, hD⟩, hS.F ht⟩) hS.2.2 dX8_total_39 hlk
  by_cases q_1 : x1 = 1
  · have hw := hw1 q_1
    refine lv_tableIn (tgt := 40) hx hb dX8_total_1 (by rw [q_1] <;> decide) (by rw [q_1] <;> decide) (by rw [q_1] <;> rfl) (by decide) ?_
    refine lv_aload_n hx hb dX8_total_40 rfl (lv_at hl 0 rfl) ?_
    refine va_get (D := D) (ci := 10) (v := .ref (ad 22)) (C := RX8) (T := TX8) (N := 6) hx hb hts (in_tb inX8) hown hK hP 0 rfl rfl 4 (by decide) (hts _ (List.mem_cons_of_mem _ tw_1_228)) (fun _ h9 => h9) rfl dX8_total_41 ?_
    refine xV_l (As := []) (rest := []) C (met_X7_fromStart vE vM hw) (va_recv hK hP (ci := 9) (q0 := 22) rfl rfl) (cwV 0 hts (TB_G (TB_4 tw_4_68 tw_4_69 tw_4_70 tw_1_7) tw_4_71) rfl rfl rfl (by decide +kernel) ⟨by decide, by decide⟩) hP hD hS rfl hl.1 rfl (Nat.le_of_ble_eq_true rfl) dX8_total_44 ⟨by decide, by decide⟩ (fun r_1 σ_2 H locs hw hP hD hS => ?_)
    have hG : xG D cA aE ad A s σ_2 H locs := ⟨hP, hD, hS⟩
    refine xS_i (As := [.long r_1]) (rest := []) C (met_J13_bitCount_95d88 vE vM hw) (va_cwS 1 hts (TB_G (TB_3 tw_4_137 tw_4_83 tw_1_29) tw_4_84) rfl rfl rfl (by decide +kernel) ⟨by decide, by decide⟩) hP hD hS rfl hl.1 rfl (Nat.le_of_ble_eq_true rfl) dX8_total_47 ⟨by decide, by decide⟩ (fun r_3 H locs hw hP hS => ?_)
    have hG : xG D cA aE ad A s σ_2 H locs := ⟨hP, hD, hS⟩
    exact W.iret (v := r_3) hx hb hr (fun t ht hW => ⟨⟨_, σ_2, rfl, hw, by rw [ht]; exact hP, va_K.moved hW.alike hK, hD⟩, hS.F ht⟩) hS.2.2 dX8_total_50 hlk
  by_cases q_2 : x1 = 2
  · have hw := hw2 q_2
    refine lv_tableIn (tgt := 51) hx hb dX8_total_1 (by rw [q_2] <;> decide) (by rw [q_2] <;> decide) (by rw [q_2] <;> rfl) (by decide) ?_
    refine lv_aload_n hx hb dX8_total_51 rfl (lv_at hl 0 rfl) ?_
    refine va_get (D := D) (ci := 10) (v := .ref (ad 14)) (C := RX8) (T := TX8) (N := 6) hx hb hts (in_tb inX8) hown hK hP 0 rfl rfl 2 (by decide) (hts _ (List.mem_cons_of_mem _ tw_1_226)) (fun _ h9 => h9) rfl dX8_total_52 ?_
    refine va_get (D := D) (ci := 3) (v := .int (xI σ 7)) (C := RX1) (T := TX1) (N := 3) hx hb hts (in_tb inX1) hown hK hP 14 rfl rfl 2 (by decide) (hts _ (List.mem_cons_of_mem _ tw_1_75)) (fun _ h9 => h9) rfl dX8_total_55 ?_
    exact W.iret (v := xI σ 7) hx hb hr (fun t ht hW => ⟨⟨_, σ, rfl, hw, by rw [ht]; exact hP, va_K.moved hW.alike hK, hD⟩, hS.F ht⟩) hS.2.2 dX8_total_58 hlk
  by_cases q_3 : x1 = 3
  · have hw := hw3 q_3
    refine lv_tableIn (tgt := 59) hx hb dX8_total_1 (by rw [q_3] <;> decide) (by rw [q_3] <;> decide) (by rw [q_3] <;> rfl) (by decide) ?_
    refine lv_aload_n hx hb dX8_total_59 rfl (lv_at hl 0 rfl) ?_
    refine va_get (D := D) (ci := 10) (v := .ref (ad 17)) (C := RX8) (T := TX8) (N := 6) hx hb hts (in_tb inX8) hown hK hP 0 rfl rfl 3 (by decide) (hts _ (List.mem_cons_of_mem _ tw_1_227)) (fun _ h9 => h9) rfl dX8_total_60 ?_
    refine xV_i (As := []) (rest := []) C (met_X0_unmade vE vM hw) (va_recv hK hP (ci := 2) (q0 := 17) rfl rfl) (cwV 0 hts (TB_G (TB_4 tw_4_138 tw_4_139 tw_4_140 tw_1_6) tw_4_141) rfl rfl rfl (by decide +kernel) ⟨by decide, by decide⟩) hP hD hS rfl hl.1 rfl (Nat.le_of_ble_eq_true rfl) dX8_total_63 ⟨by decide, by decide⟩ (fun r_5 σ_6 H locs hw hP hD hS => ?_)
    have hG : xG D cA aE ad A s σ_6 H locs := ⟨hP, hD, hS⟩
    exact W.iret (v := r_5) hx hb hr (fun t ht hW => ⟨⟨_, σ_6, rfl, hw, by rw [ht]; exact hP, va_K.moved hW.alike hK, hD⟩, hS.F ht⟩) hS.2.2 dX8_total_66 hlk
  have hw := hw4 q_0 q_1 q_2 q_3
  refine lv_tableOut (tgt := 67) hx hb dX8_total_1 (by have z_0 := lv_neT q_0 (a := 0) (by decide); have z_1 := lv_neT q_1 (a := 1) (by decide); have z_2 := lv_neT q_2 (a := 2) (by decide); have z_3 := lv_neT q_3 (a := 3) (by decide); omega) (by decide) ?_
  refine lv_iconst (v := (-1)) hx hb dX8_total_67 (by decide) ?_
  exact W.iret (v := (-1)) hx hb hr (fun t ht hW => ⟨⟨_, σ, rfl, hw, by rw [ht]; exact hP, va_K.moved hW.alike hK, hD⟩, hS.F ht⟩) hS.2.2 dX8_total_68 hlk
set_option maxHeartbeats 4000000 in
set_option maxRecDepth 100000 in
theorem met_X8_total {l : Launch} {E : EnvT} (vE : EnvOk E) {D : va_G} {cA : Nat → ClassId} {aE ad : Nat → Nat} {σ : XS} {aK aV : Nat → Nat} {aO : Nat} (vM : eXs aK aV aE aO E) {sz : Nat} {x1 : Int32} {post : Int32 → XS → Prop} (hw : wp_X8_total post x1 σ) : Met l yX8_total wgX8_total rm_X8_total (va_Pc [.ref (ad 0), .int x1] (xPre E D cA aE ad sz σ)) (va_Qi post (xAt D cA aE ad (va_A (xW cA aE ad σ) sz)) (va_A (xW cA aE ad σ) sz)) 0 0 (va_A (xW cA aE ad σ) sz) := by
  refine Met.ofW (cc := cX8_total) (maxL := 2) (ret := (some .int)) (by decide +kernel) rfl ?_
  intro p e s m args below meth c s₁ B hml hv
  obtain ⟨rfl, hsz, hP, hK, hD0, hE⟩ := hv
  subst hsz
  have hD := hD0.self (sz := s.heap.size)
  generalize hAe : va_A (xW cA aE ad σ) s.heap.size = A at hD hE ⊢
  have hA : ∀ q : Nat, s.heap.size ≤ q → A q := fun q h => by rw [← hAe]; exact Or.inr h
  have hS : va_S A s.heap s.heap [] := va_S.rf
  have C : xCx p s m _ meth c cX8_total 2 (some .int) wgX8_total RX8 E D cA A := ⟨B.exec, B.bytes, hml, B.returns, findClass_of_methodNamed B.named, atoms_spec (ws := wgX8_total) B.pre, hK, hA, B.notSynchronized, hE, vE⟩
  have hG : xG D cA aE ad A s σ s.heap [] := ⟨hP, hD, hS⟩
  have hl := lv_entry ([.ref (ad 0), .int x1]) (n := 2) (Nat.le_of_ble_eq_true rfl)
  rw [lg_entry_eq]
  generalize (lg_sl ([.ref (ad 0), .int x1]) ++ List.replicate (2 - (lg_sl ([.ref (ad 0), .int x1])).length) Slot.unset).toArray = ls at hl ⊢
  have hl : lv_has ls 2 [(0, .ref (ad 0)), (1, .int x1)] := hl
  exact k_X8_total C vM x1 σ _ _ _ hG hl hw
