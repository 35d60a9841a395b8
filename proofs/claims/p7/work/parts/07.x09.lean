/-! ===== X3_takeConstant parser ===== -/
def rm_X3_takeConstant : Room := { frames := 3, cells := 0, slots := 0, locals := 72 }
abbrev wgX3_takeConstant : List Cond := .code yX3_takeConstant cX3_takeConstant 5 (some .boolean) :: TB
def wp_X3_takeConstant (post : Int32 → XS → Prop) (σ : XS) : Prop :=
  wp_X6_value (fun r_1 σ_2 => wp_X6_place (fun r_3 σ_4 => wp_X6_advance (fun σ_6 => wp_X6_advance (fun σ_8 => wp_X6_index (fun r_9 σ_10 => wp_X3_passAmount (fun r_11 σ_12 => (r_11 = 0 → (wp_X3_refuse (fun r_20 σ_21 => isB r_20 ∧ (post r_20 σ_21)) σ_12)) ∧ (¬ r_11 = 0 → (wp_X3_amountAt (fun r_13 σ_14 => wp_X3_tellName (fun σ_16 => wp_X3_takeSign (fun r_17 σ_18 => isB r_17 ∧ (post r_17 σ_18)) 59 σ_16) r_1 r_3 r_13 σ_14) r_9 110 σ_12))) σ_10) σ_8) σ_6) σ_4) σ_2) σ
set_option maxHeartbeats 4000000 in
set_option maxRecDepth 100000 in
theorem k_X3_takeConstant {p : Program} {l : Launch} {e : Env} {s : State} {m : MethodId} {args : Array Value} {below : List Frame} {meth : Method} {c : Code} {A : Nat → Prop} {E : EnvT} {aK aV : Nat → Nat} {aO : Nat} {D : va_G} {cA : Nat → ClassId} {aE ad : Nat → Nat} (C : xCx p s m args meth c cX3_takeConstant 5 (some .boolean) wgX3_takeConstant RX3 E D cA A) (vM : eXs aK aV aE aO E) {post : Int32 → XS → Prop} :
    ∀ (σ : XS) (H : Heap) (locs : List Loc) (ls : Array Slot), xG D cA aE ad A s σ H locs → lv_has ls 5 [(0, .ref (ad 3))] → wp_X3_takeConstant post σ → W p l e rm_X3_takeConstant s m args below meth c H locs 0 0 (MQ below (va_Qi post (xAt D cA aE ad A) A) args s 0 0 A) (F0 m 0 ls []) := by
  obtain ⟨hx, hb, hml, hr, hown, hts, hK, hA, hlk, hE, vE⟩ := id C
  intro σ H locs ls hG hl hw
  obtain ⟨hP, hD, hS⟩ := id hG
  refine lv_aload_n hx hb dX3_takeConstant_0 rfl (lv_at hl 0 rfl) ?_
  refine va_get (D := D) (ci := 5) (v := .ref (ad 4)) (C := RX3) (T := TX3) (N := 8) hx hb hts (in_tb inX3) hown hK hP 3 rfl rfl 0 (by decide) (hts _ (List.mem_cons_of_mem _ tw_1_110)) (fun _ h9 => h9) rfl dX3_takeConstant_1 ?_
  refine xV_l (As := []) (rest := []) C (met_X6_value vE vM hw) (va_recv hK hP (ci := 8) (q0 := 4) rfl rfl) (cwV 0 hts (TB_G (TB_4 tw_4_196 tw_4_197 tw_4_198 tw_1_5) tw_4_199) rfl rfl rfl (by decide +kernel) ⟨by decide, by decide⟩) hP hD hS rfl hl.1 rfl (Nat.le_of_ble_eq_true rfl) dX3_takeConstant_4 ⟨by decide, by decide⟩ (fun r_1 σ_2 H locs hw hP hD hS => ?_)
  have hG : xG D cA aE ad A s σ_2 H locs := ⟨hP, hD, hS⟩
  refine lv_lstore_n (lv' := [(1, .long r_1), (0, .ref (ad 3))]) hx hb dX3_takeConstant_7 rfl hl (by decide) rfl (fun ls hl => ?_)
  refine lv_aload_n hx hb dX3_takeConstant_8 rfl (lv_at hl 1 rfl) ?_
  refine va_get (D := D) (ci := 5) (v := .ref (ad 4)) (C := RX3) (T := TX3) (N := 8) hx hb hts (in_tb inX3) hown hK hP 3 rfl rfl 0 (by decide) (hts _ (List.mem_cons_of_mem _ tw_1_110)) (fun _ h9 => h9) rfl dX3_takeConstant_9 ?_
  refine xV_i (As := []) (rest := []) C (met_X6_place vE vM hw) (va_recv hK hP (ci := 8) (q0 := 4) rfl rfl) (cwV 0 hts (TB_G (TB_4 tw_4_200 tw_4_201 tw_4_202 tw_1_5) tw_4_203) rfl rfl rfl (by decide +kernel) ⟨by decide, by decide⟩) hP hD hS rfl hl.1 rfl (Nat.le_of_ble_eq_true rfl) dX3_takeConstant_12 ⟨by decide, by decide⟩ (fun r_3 σ_4 H locs hw hP hD hS => ?_)
  have hG : xG D cA aE ad A s σ_4 H locs := ⟨hP, hD, hS⟩
  refine lv_istore_n (lv' := [(3, .int r_3), (1, .long r_1), (0, .ref (ad 3))]) hx hb dX3_takeConstant_15 rfl hl (by decide) rfl (fun ls hl => ?_)
  refine lv_aload_n hx hb dX3_takeConstant_16 rfl (lv_at hl 2 rfl) ?_
  refine va_get (D := D) (ci := 5) (v := .ref (ad 4)) (C := RX3) (T := TX3) (N := 8) hx hb hts (in_tb inX3) hown hK hP 3 rfl rfl 0 (by decide) (hts _ (List.mem_cons_of_mem _ tw_1_110)) (fun _ h9 => h9) rfl dX3_takeConstant_17 ?_
  refine xV_v (As := []) (rest := []) C (met_X6_advance vE vM hw) (va_recv hK hP (ci := 8) (q0 := 4) rfl rfl) (cwV 0 hts (TB_G (TB_4 tw_4_204 tw_4_205 tw_4_206 tw_1_5) tw_4_207) rfl rfl rfl (by decide +kernel) ⟨by decide, by decide⟩) hP hD hS rfl hl.1 rfl (Nat.le_of_ble_eq_true rfl) dX3_takeConstant_20 ⟨by decide, by decide⟩ (fun σ_6 H locs hw hP hD hS => ?_)
  have hG : xG D cA aE ad A s σ_6 H locs := ⟨hP, hD, hS⟩
  refine lv_aload_n hx hb dX3_takeConstant_23 rfl (lv_at hl 2 rfl) ?_
  refine va_get (D := D) (ci := 5) (v := .ref (ad 4)) (C := RX3) (T := TX3) (N := 8) hx hb hts (in_tb inX3) hown hK hP 3 rfl rfl 0 (by decide) (hts _ (List.mem_cons_of_mem _ tw_1_110)) (fun _ h9 => h9) rfl dX3_takeConstant_24 ?_
  refine xV_v (As := []) (rest := []) C (met_X6_advance vE vM hw) (va_recv hK hP (ci := 8) (q0 := 4) rfl rfl) (cwV 0 hts (TB_G (TB_4 tw_4_204 tw_4_205 tw_4_206 tw_1_5) tw_4_207) rfl rfl rfl (by decide +kernel) ⟨by decide, by decide⟩) hP hD hS rfl hl.1 rfl (Nat.le_of_ble_eq_true rfl) dX3_takeConstant_27 ⟨by decide, by decide⟩ (fun σ_8 H locs hw hP hD hS => ?_)
  have hG : xG D cA aE ad A s σ_8 H locs := ⟨hP, hD, hS⟩
  refine lv_aload_n hx hb dX3_takeConstant_30 rfl (lv_at hl 2 rfl) ?_
  refine va_get (D := D) (ci := 5) (v := .ref (ad 4)) (C := RX3) (T := TX3) (N := 8) hx hb hts (in_tb inX3) hown hK hP 3 rfl rfl 0 (by decide) (hts _ (List.mem_cons_of_mem _ tw_1_110)) (fun _ h9 => h9) rfl dX3_takeConstant_31 ?_
  refine xV_i (As := []) (rest := []) C (met_X6_index vE vM hw) (va_recv hK hP (ci := 8) (q0 := 4) rfl rfl) (cwV 0 hts (TB_G (TB_4 tw_4_208 tw_4_209 tw_4_210 tw_1_5) tw_4_211) rfl rfl rfl (by decide +kernel) ⟨by decide, by decide⟩) hP hD hS rfl hl.1 rfl (Nat.le_of_ble_eq_true rfl) dX3_takeConstant_34 ⟨by decide, by decide⟩ (fun r_9 σ_10 H locs hw hP hD hS => ?_)
  have hG : xG D cA aE ad A s σ_10 H locs := ⟨hP, hD, hS⟩
  refine lv_istore (lv' := [(4, .int r_9), (3, .int r_3), (1, .long r_1), (0, .ref (ad 3))]) hx hb dX3_takeConstant_37 hl (by decide) rfl (fun ls hl => ?_)
  refine lv_aload_n hx hb dX3_takeConstant_39 rfl (lv_at hl 3 rfl) ?_
  refine xV_i (As := []) (rest := []) C (met_X3_passAmount vE vM hw) (va_recv hK hP (ci := 5) (q0 := 3) rfl rfl) (cwV 0 hts (TB_G (TB_4 tw_4_212 tw_4_214 ts_15 tw_1_3) tw_4_215) rfl rfl rfl (by decide +kernel) ⟨by decide, by decide⟩) hP hD hS rfl hl.1 rfl (Nat.le_of_ble_eq_true rfl) dX3_takeConstant_40 ⟨by decide, by decide⟩ (fun r_11 σ_12 H locs hw hP hD hS => ?_)
  have hG : xG D cA aE ad A s σ_12 H locs := ⟨hP, hD, hS⟩
  refine lv_if_ne (tgt := 51) hx hb dX3_takeConstant_43 (by decide) (fun q_ => ?_) (fun q_ => ?_)
  · have hw := hw.2 q_
    refine lv_aload_n hx hb dX3_takeConstant_51 rfl (lv_at hl 3 rfl) ?_
    refine lv_lload_n hx hb dX3_takeConstant_52 rfl (lv_at hl 2 rfl) ?_
    refine lv_iload_n hx hb dX3_takeConstant_53 rfl (lv_at hl 1 rfl) ?_
    refine lv_aload_n hx hb dX3_takeConstant_54 rfl (lv_at hl 3 rfl) ?_
    refine lv_iload hx hb dX3_takeConstant_55 (lv_at hl 0 rfl) ?_
    refine lv_bipush (v := 110) hx hb dX3_takeConstant_57 (by decide) ?_
    refine xV_l (As := [.int r_9, .int 110]) (rest := [.int r_3, .long r_1, .ref (ad 3)]) C (met_X3_amountAt vE vM hw) (va_recv hK hP (ci := 5) (q0 := 3) rfl rfl) (cwV 2 hts (TB_G (TB_4 tw_4_220 tw_4_222 ts_17 tw_1_3) tw_4_223) rfl rfl rfl (by decide +kernel) ⟨by decide, by decide⟩) hP hD hS rfl hl.1 rfl (Nat.le_of_ble_eq_true rfl) dX3_takeConstant_59 ⟨by decide, by decide⟩ (fun r_13 σ_14 H locs hw hP hD hS => ?_)
    have hG : xG D cA aE ad A s σ_14 H locs := ⟨hP, hD, hS⟩
    refine xV_v (As := [.long r_1, .int r_3, .long r_13]) (rest := []) C (met_X3_tellName vE vM hw) (va_recv hK hP (ci := 5) (q0 := 3) rfl rfl) (cwV 3 hts (TB_G (TB_4 tw_5_3 tw_5_5 ts_20 tw_1_3) tw_5_6) rfl rfl rfl (by decide +kernel) ⟨by decide, by decide⟩) hP hD hS rfl hl.1 rfl (Nat.le_of_ble_eq_true rfl) dX3_takeConstant_62 ⟨by decide, by decide⟩ (fun σ_16 H locs hw hP hD hS => ?_)
    have hG : xG D cA aE ad A s σ_16 H locs := ⟨hP, hD, hS⟩
    refine lv_aload_n hx hb dX3_takeConstant_65 rfl (lv_at hl 3 rfl) ?_
    refine lv_bipush (v := 59) hx hb dX3_takeConstant_66 (by decide) ?_
    refine xV_i (As := [.int 59]) (rest := []) C (met_X3_takeSign vE vM hw) (va_recv hK hP (ci := 5) (q0 := 3) rfl rfl) (cwV 1 hts (TB_G (TB_4 tw_5_12 tw_5_14 ts_21 tw_1_3) tw_5_15) rfl rfl rfl (by decide +kernel) ⟨by decide, by decide⟩) hP hD hS rfl hl.1 rfl (Nat.le_of_ble_eq_true rfl) dX3_takeConstant_68 ⟨by decide, by decide⟩ (fun r_17 σ_18 H locs hw hP hD hS => ?_)
    have hG : xG D cA aE ad A s σ_18 H locs := ⟨hP, hD, hS⟩
    obtain ⟨h_19, hw⟩ := hw
    exact W.zret (v := r_17) (ty := .boolean) hx hb hr (isB.n h_19) (fun t ht hW => ⟨⟨_, σ_18, rfl, hw, by rw [ht]; exact hP, va_K.moved hW.alike hK, hD⟩, hS.F ht⟩) hS.2.2 dX3_takeConstant_71 hlk
  · have hw := hw.1 q_
    refine lv_aload_n hx hb dX3_takeConstant_46 rfl (lv_at hl 3 rfl) ?_
    refine xV_i (As := []) (rest := []) C (met_X3_refuse vE vM hw) (va_recv hK hP (ci := 5) (q0 := 3) rfl rfl) (cwV 0 hts (TB_G (TB_4 tw_4_216 tw_4_218 ts_16 tw_1_3) tw_4_219) rfl rfl rfl (by decide +kernel) ⟨by decide, by decide⟩) hP hD hS rfl hl.1 rfl (Nat.le_of_ble_eq_true rfl) dX3_takeConstant_47 ⟨by decide, by decide⟩ (fun r_20 σ_21 H locs hw hP hD hS => ?_)
    have hG : xG D cA aE ad A s σ_21 H locs := ⟨hP, hD, hS⟩
    obtain ⟨h_22, hw⟩ := hw
    exact W.zret (v := r_20) (ty := .boolean) hx hb hr (isB.n h_22) (fun t ht hW => ⟨⟨_, σ_21, rfl, hw, by rw [ht]; exact hP, va_K.moved hW.alike hK, hD⟩, hS.F ht⟩) hS.2.2 dX3_takeConstant_50 hlk
set_option maxHeartbeats 4000000 in
set_option maxRecDepth 100000 in
theorem met_X3_takeConstant {l : Launch} {E : EnvT} (vE : EnvOk E) {D : va_G} {cA : Nat → ClassId} {aE ad : Nat → Nat} {σ : XS} {aK aV : Nat → Nat} {aO : Nat} (vM : eXs aK aV aE aO E) {sz : Nat} {post : Int32 → XS → Prop} (hw : wp_X3_takeConstant post σ) : Met l yX3_takeConstant wgX3_takeConstant rm_X3_takeConstant (va_Pc [.ref (ad 3)] (xPre E D cA aE ad sz σ)) (va_Qi post (xAt D cA aE ad (va_A (xW cA aE ad σ) sz)) (va_A (xW cA aE ad σ) sz)) 0 0 (va_A (xW cA aE ad σ) sz) := by
  refine Met.ofW (cc := cX3_takeConstant) (maxL := 5) (ret := (some .boolean)) (by decide +kernel) rfl ?_
  intro p e s m args below meth c s₁ B hml hv
  obtain ⟨rfl, hsz, hP, hK, hD0, hE⟩ := hv
  subst hsz
  have hD := hD0.self (sz := s.heap.size)
  generalize hAe : va_A (xW cA aE ad σ) s.heap.size = A at hD hE ⊢
  have hA : ∀ q : Nat, s.heap.size ≤ q → A q := fun q h => by rw [← hAe]; exact Or.inr h
  have hS : va_S A s.heap s.heap [] := va_S.rf
  have C : xCx p s m _ meth c cX3_takeConstant 5 (some .boolean) wgX3_takeConstant RX3 E D cA A := ⟨B.exec, B.bytes, hml, B.returns, findClass_of_methodNamed B.named, atoms_spec (ws := wgX3_takeConstant) B.pre, hK, hA, B.notSynchronized, hE, vE⟩
  have hG : xG D cA aE ad A s σ s.heap [] := ⟨hP, hD, hS⟩
  have hl := lv_entry ([.ref (ad 3)]) (n := 5) (Nat.le_of_ble_eq_true rfl)
  rw [lg_entry_eq]
  generalize (lg_sl ([.ref (ad 3)]) ++ List.replicate (5 - (lg_sl ([.ref (ad 3)])).length) Slot.unset).toArray = ls at hl ⊢
  have hl : lv_has ls 5 [(0, .ref (ad 3))] := hl
  exact k_X3_takeConstant C vM σ _ _ _ hG hl hw
/-! ===== X3_takeGuard parser ===== -/
def rm_X3_takeGuard : Room := { frames := 2, cells := 0, slots := 0, locals := 46 }
abbrev wgX3_takeGuard : List Cond := .code yX3_takeGuard cX3_takeGuard 3 (some .int) :: TB
def wB_X3_takeGuard_32 (post : Int32 → XS → Prop) (x1 : Int32) (σ : XS) : Prop :=
  wp_X6_numbered (fun r_5 σ_6 => (r_5 = (-1) → (post (-1) σ_6)) ∧ (¬ r_5 = (-1) → (wp_X6_advance (fun σ_8 => post (x1 + r_5) σ_8) σ_6))) 112 3 σ
def wp_X3_takeGuard (post : Int32 → XS → Prop) (σ : XS) : Prop :=
  wp_X6_advance (fun σ_2 => wp_X6_kind (fun r_3 σ_4 => (r_3 = 33 → (wp_X6_advance (fun σ_10 => wB_X3_takeGuard_32 post 12 σ_10) σ_4)) ∧ (¬ r_3 = 33 → (wB_X3_takeGuard_32 post 8 σ_4))) σ_2) σ
set_option maxHeartbeats 4000000 in
set_option maxRecDepth 100000 in
theorem kB_X3_takeGuard_32 {p : Program} {l : Launch} {e : Env} {s : State} {m : MethodId} {args : Array Value} {below : List Frame} {meth : Method} {c : Code} {A : Nat → Prop} {E : EnvT} {aK aV : Nat → Nat} {aO : Nat} {D : va_G} {cA : Nat → ClassId} {aE ad : Nat → Nat} (C : xCx p s m args meth c cX3_takeGuard 3 (some .int) wgX3_takeGuard RX3 E D cA A) (vM : eXs aK aV aE aO E) {post : Int32 → XS → Prop} :
    ∀ (x1 : Int32) (σ : XS) (H : Heap) (locs : List Loc) (ls : Array Slot), xG D cA aE ad A s σ H locs → lv_has ls 3 [(0, .ref (ad 3)), (1, .int x1)] → wB_X3_takeGuard_32 post x1 σ → W p l e rm_X3_takeGuard s m args below meth c H locs 0 0 (MQ below (va_Qi post (xAt D cA aE ad A) A) args s 0 0 A) (F0 m 32 ls []) := by
  obtain ⟨hx, hb, hml, hr, hown, hts, hK, hA, hlk, hE, vE⟩ := id C
  intro x1 σ H locs ls hG hl hw
  obtain ⟨hP, hD, hS⟩ := id hG
  refine lv_aload_n hx hb dX3_takeGuard_32 rfl (lv_at hl 0 rfl) ?_
  refine va_get (D := D) (ci := 5) (v := .ref (ad 4)) (C := RX3) (T := TX3) (N := 8) hx hb hts (in_tb inX3) hown hK hP 3 rfl rfl 0 (by decide) (hts _ (List.mem_cons_of_mem _ tw_1_110)) (fun _ h9 => h9) rfl dX3_takeGuard_33 ?_
  refine lv_bipush (v := 112) hx hb dX3_takeGuard_36 (by decide) ?_
  refine lv_iconst (v := 3) hx hb dX3_takeGuard_38 (by decide) ?_
  refine xV_i (As := [.int 112, .int 3]) (rest := []) C (met_X6_numbered vE vM hw) (va_recv hK hP (ci := 8) (q0 := 4) rfl rfl) (cwV 2 hts (TB_G (TB_4 tw_5_20 tw_5_21 tw_5_22 tw_1_5) tw_5_23) rfl rfl rfl (by decide +kernel) ⟨by decide, by decide⟩) hP hD hS rfl hl.1 rfl (Nat.le_of_ble_eq_true rfl) dX3_takeGuard_39 ⟨by decide, by decide⟩ (fun r_5 σ_6 H locs hw hP hD hS => ?_)
  have hG : xG D cA aE ad A s σ_6 H locs := ⟨hP, hD, hS⟩
  refine lv_istore_n (lv' := [(2, .int r_5), (0, .ref (ad 3)), (1, .int x1)]) hx hb dX3_takeGuard_42 rfl hl (by decide) rfl (fun ls hl => ?_)
  refine lv_iload_n hx hb dX3_takeGuard_43 rfl (lv_at hl 0 rfl) ?_
  refine lv_iconst (v := (-1)) hx hb dX3_takeGuard_44 (by decide) ?_
  refine lv_icmp_ne (tgt := 50) hx hb dX3_takeGuard_45 (by decide) (fun q_ => ?_) (fun q_ => ?_)
  · have hw := hw.2 q_
    refine lv_aload_n hx hb dX3_takeGuard_50 rfl (lv_at hl 1 rfl) ?_
    refine va_get (D := D) (ci := 5) (v := .ref (ad 4)) (C := RX3) (T := TX3) (N := 8) hx hb hts (in_tb inX3) hown hK hP 3 rfl rfl 0 (by decide) (hts _ (List.mem_cons_of_mem _ tw_1_110)) (fun _ h9 => h9) rfl dX3_takeGuard_51 ?_
    refine xV_v (As := []) (rest := []) C (met_X6_advance vE vM hw) (va_recv hK hP (ci := 8) (q0 := 4) rfl rfl) (cwV 0 hts (TB_G (TB_4 tw_4_204 tw_4_205 tw_4_206 tw_1_5) tw_4_207) rfl rfl rfl (by decide +kernel) ⟨by decide, by decide⟩) hP hD hS rfl hl.1 rfl (Nat.le_of_ble_eq_true rfl) dX3_takeGuard_54 ⟨by decide, by decide⟩ (fun σ_8 H locs hw hP hD hS => ?_)
    have hG : xG D cA aE ad A s σ_8 H locs := ⟨hP, hD, hS⟩
    refine lv_iload_n hx hb dX3_takeGuard_57 rfl (lv_at hl 2 rfl) ?_
    refine lv_iload_n hx hb dX3_takeGuard_58 rfl (lv_at hl 0 rfl) ?_
    refine lv_iadd hx hb dX3_takeGuard_59 ?_
    exact W.iret (v := x1 + r_5) hx hb hr (fun t ht hW => ⟨⟨_, σ_8, rfl, hw, by rw [ht]; exact hP, va_K.moved hW.alike hK, hD⟩, hS.F ht⟩) hS.2.2 dX3_takeGuard_60 hlk
  · have hw := hw.1 q_
    refine lv_iconst (v := (-1)) hx hb dX3_takeGuard_48 (by decide) ?_
    exact W.iret (v := (-1)) hx hb hr (fun t ht hW => ⟨⟨_, σ_6, rfl, hw, by rw [ht]; exact hP, va_K.moved hW.alike hK, hD⟩, hS.F ht⟩) hS.2.2 dX3_takeGuard_49 hlk
set_option maxHeartbeats 4000000 in
set_option maxRecDepth 100000 in
theorem k_X3_takeGuard {p : Program} {l : Launch} {e : Env} {s : State} {m : MethodId} {args : Array Value} {below : List Frame} {meth : Method} {c : Code} {A : Nat → Prop} {E : EnvT} {aK aV : Nat → Nat} {aO : Nat} {D : va_G} {cA : Nat → ClassId} {aE ad : Nat → Nat} (C : xCx p s m args meth c cX3_takeGuard 3 (some .int) wgX3_takeGuard RX3 E D cA A) (vM : eXs aK aV aE aO E) {post : Int32 → XS → Prop} :
    ∀ (σ : XS) (H : Heap) (locs : List Loc) (ls : Array Slot), xG D cA aE ad A s σ H locs → lv_has ls 3 [(0, .ref (ad 3))] → wp_X3_takeGuard post σ → W p l e rm_X3_takeGuard s m args below meth c H locs 0 0 (MQ below (va_Qi post (xAt D cA aE ad A) A) args s 0 0 A) (F0 m 0 ls []) := by
  obtain ⟨hx, hb, hml, hr, hown, hts, hK, hA, hlk, hE, vE⟩ := id C
  intro σ H locs ls hG hl hw
  obtain ⟨hP, hD, hS⟩ := id hG
  refine lv_aload_n hx hb dX3_takeGuard_0 rfl (lv_at hl 0 rfl) ?_
  refine va_get (D := D) (ci := 5) (v := .ref (ad 4)) (C := RX3) (T := TX3) (N := 8) hx hb hts (in_tb inX3) hown hK hP 3 rfl rfl 0 (by decide) (hts _ (List.mem_cons_of_mem _ tw_1_110)) (fun _ h9 => h9) rfl dX3_takeGuard_1 ?_
  refine xV_v (As := []) (rest := []) C (met_X6_advance vE vM hw) (va_recv hK hP (ci := 8) (q0 := 4) rfl rfl) (cwV 0 hts (TB_G (TB_4 tw_4_204 tw_4_205 tw_4_206 tw_1_5) tw_4_207) rfl rfl rfl (by decide +kernel) ⟨by decide, by decide⟩) hP hD hS rfl hl.1 rfl (Nat.le_of_ble_eq_true rfl) dX3_takeGuard_4 ⟨by decide, by decide⟩ (fun σ_2 H locs hw hP hD hS => ?_)
  have hG : xG D cA aE ad A s σ_2 H locs := ⟨hP, hD, hS⟩
  refine lv_bipush (v := 8) hx hb dX3_takeGuard_7 (by decide) ?_
  refine lv_istore_n (lv' := [(1, .int 8), (0, .ref (ad 3))]) hx hb dX3_takeGuard_9 rfl hl (by decide) rfl (fun ls hl => ?_)
  refine lv_aload_n hx hb dX3_takeGuard_10 rfl (lv_at hl 1 rfl) ?_
  refine va_get (D := D) (ci := 5) (v := .ref (ad 4)) (C := RX3) (T := TX3) (N := 8) hx hb hts (in_tb inX3) hown hK hP 3 rfl rfl 0 (by decide) (hts _ (List.mem_cons_of_mem _ tw_1_110)) (fun _ h9 => h9) rfl dX3_takeGuard_11 ?_
  refine xV_i (As := []) (rest := []) C (met_X6_kind vE vM hw) (va_recv hK hP (ci := 8) (q0 := 4) rfl rfl) (cwV 0 hts (TB_G (TB_4 tw_4_180 tw_4_181 tw_4_182 tw_1_5) tw_4_183) rfl rfl rfl (by decide +kernel) ⟨by decide, by decide⟩) hP hD hS rfl hl.1 rfl (Nat.le_of_ble_eq_true rfl) dX3_takeGuard_14 ⟨by decide, by decide⟩ (fun r_3 σ_4 H locs hw hP hD hS => ?_)
  have hG : xG D cA aE ad A s σ_4 H locs := ⟨hP, hD, hS⟩
  refine lv_bipush (v := 33) hx hb dX3_takeGuard_17 (by decide) ?_
  refine lv_icmp_ne (tgt := 32) hx hb dX3_takeGuard_19 (by decide) (fun q_ => ?_) (fun q_ => ?_)
  · have hw := hw.2 q_
    exact kB_X3_takeGuard_32 C vM 8 σ_4 _ _ _ hG (lv_sub hl [1, 0] rfl) hw
  · have hw := hw.1 q_
    refine lv_bipush (v := 12) hx hb dX3_takeGuard_22 (by decide) ?_
    refine lv_istore_n (lv' := [(1, .int 12), (0, .ref (ad 3))]) hx hb dX3_takeGuard_24 rfl hl (by decide) rfl (fun ls hl => ?_)
    refine lv_aload_n hx hb dX3_takeGuard_25 rfl (lv_at hl 1 rfl) ?_
    refine va_get (D := D) (ci := 5) (v := .ref (ad 4)) (C := RX3) (T := TX3) (N := 8) hx hb hts (in_tb inX3) hown hK hP 3 rfl rfl 0 (by decide) (hts _ (List.mem_cons_of_mem _ tw_1_110)) (fun _ h9 => h9) rfl dX3_takeGuard_26 ?_
    refine xV_v (As := []) (rest := []) C (met_X6_advance vE vM hw) (va_recv hK hP (ci := 8) (q0 := 4) rfl rfl) (cwV 0 hts (TB_G (TB_4 tw_4_204 tw_4_205 tw_4_206 tw_1_5) tw_4_207) rfl rfl rfl (by decide +kernel) ⟨by decide, by decide⟩) hP hD hS rfl hl.1 rfl (Nat.le_of_ble_eq_true rfl) dX3_takeGuard_29 ⟨by decide, by decide⟩ (fun σ_10 H locs hw hP hD hS => ?_)
    have hG : xG D cA aE ad A s σ_10 H locs := ⟨hP, hD, hS⟩
    exact kB_X3_takeGuard_32 C vM 12 σ_10 _ _ _ hG (lv_sub hl [1, 0] rfl) hw
set_option maxHeartbeats 4000000 in
set_option maxRecDepth 100000 in
theorem met_X3_takeGuard {l : Launch} {E : EnvT} (vE : EnvOk E) {D : va_G} {cA : Nat → ClassId} {aE ad : Nat → Nat} {σ : XS} {aK aV : Nat → Nat} {aO : Nat} (vM : eXs aK aV aE aO E) {sz : Nat} {post : Int32 → XS → Prop} (hw : wp_X3_takeGuard post σ) : Met l yX3_takeGuard wgX3_takeGuard rm_X3_takeGuard (va_Pc [.ref (ad 3)] (xPre E D cA aE ad sz σ)) (va_Qi post (xAt D cA aE ad (va_A (xW cA aE ad σ) sz)) (va_A (xW cA aE ad σ) sz)) 0 0 (va_A (xW cA aE ad σ) sz) := by
  refine Met.ofW (cc := cX3_takeGuard) (maxL := 3) (ret := (some .int)) (by decide +kernel) rfl ?_
  intro p e s m args below meth c s₁ B hml hv
  obtain ⟨rfl, hsz, hP, hK, hD0, hE⟩ := hv
  subst hsz
  have hD := hD0.self (sz := s.heap.size)
  generalize hAe : va_A (xW cA aE ad σ) s.heap.size = A at hD hE ⊢
  have hA : ∀ q : Nat, s.heap.size ≤ q → A q := fun q h => by rw [← hAe]; exact Or.inr h
  have hS : va_S A s.heap s.heap [] := va_S.rf
  have C : xCx p s m _ meth c cX3_takeGuard 3 (some .int) wgX3_takeGuard RX3 E D cA A := ⟨B.exec, B.bytes, hml, B.returns, findClass_of_methodNamed B.named, atoms_spec (ws := wgX3_takeGuard) B.pre, hK, hA, B.notSynchronized, hE, vE⟩
  have hG : xG D cA aE ad A s σ s.heap [] := ⟨hP, hD, hS⟩
  have hl := lv_entry ([.ref (ad 3)]) (n := 3) (Nat.le_of_ble_eq_true rfl)
  rw [lg_entry_eq]
  generalize (lg_sl ([.ref (ad 3)]) ++ List.replicate (3 - (lg_sl ([.ref (ad 3)])).length) Slot.unset).toArray = ls at hl ⊢
  have hl : lv_has ls 3 [(0, .ref (ad 3))] := hl
  exact k_X3_takeGuard C vM σ _ _ _ hG hl hw
/-! ===== X3_refuseNoWord parser ===== -/
def rm_X3_refuseNoWord : Room := { frames := 2, cells := 0, slots := 0, locals := 40 }
abbrev wgX3_refuseNoWord : List Cond := .code yX3_refuseNoWord cX3_refuseNoWord 2 (some .boolean) :: TB
def wB_X3_refuseNoWord_34 (post : Int32 → XS → Prop) (σ : XS) : Prop :=
  wp_X3_refuse (fun r_1 σ_2 => isB r_1 ∧ (post r_1 σ_2)) σ
def wp_X3_refuseNoWord (post : Int32 → XS → Prop) (x1 : Int32) (σ : XS) : Prop :=
  (x1 = 0 → (wp_X6_kind (fun r_4 σ_5 => (r_4 = 1 → (wp_X6_follower (fun r_6 σ_7 => (r_6 = 61 → (wp_X6_advance (fun σ_9 => wB_X3_refuseNoWord_34 post σ_9) σ_7)) ∧ (¬ r_6 = 61 → (wB_X3_refuseNoWord_34 post σ_7))) σ_5)) ∧ (¬ r_4 = 1 → (wB_X3_refuseNoWord_34 post σ_5))) σ)) ∧ (¬ x1 = 0 → (wB_X3_refuseNoWord_34 post σ))
set_option maxHeartbeats 4000000 in
set_option maxRecDepth 100000 in
theorem kB_X3_refuseNoWord_34 {p : Program} {l : Launch} {e : Env} {s : State} {m : MethodId} {args : Array Value} {below : List Frame} {meth : Method} {c : Code} {A : Nat → Prop} {E : EnvT} {aK aV : Nat → Nat} {aO : Nat} {D : va_G} {cA : Nat → ClassId} {aE ad : Nat → Nat} (C : xCx p s m args meth c cX3_refuseNoWord 2 (some .boolean) wgX3_refuseNoWord RX3 E D cA A) (vM : eXs aK aV aE aO E) {post : Int32 → XS → Prop} :
    ∀ (σ : XS) (H : Heap) (locs : List Loc) (ls : Array Slot), xG D cA aE ad A s σ H locs → lv_has ls 2 [(0, .ref (ad 3))] → wB_X3_refuseNoWord_34 post σ → W p l e rm_X3_refuseNoWord s m args below meth c H locs 0 0 (MQ below (va_Qi post (xAt D cA aE ad A) A) args s 0 0 A) (F0 m 34 ls []) := by
  obtain ⟨hx, hb, hml, hr, hown, hts, hK, hA, hlk, hE, vE⟩ := id C
  intro σ H locs ls hG hl hw
  obtain ⟨hP, hD, hS⟩ := id hG
  refine lv_aload_n hx hb dX3_refuseNoWord_34 rfl (lv_at hl 0 rfl) ?_
  refine xV_i (As := []) (rest := []) C (met_X3_refuse vE vM hw) (va_recv hK hP (ci := 5) (q0 := 3) rfl rfl) (cwV 0 hts (TB_G (TB_4 tw_4_216 tw_4_218 ts_16 tw_1_3) tw_4_219) rfl rfl rfl (by decide +kernel) ⟨by decide, by decide⟩) hP hD hS rfl hl.1 rfl (Nat.le_of_ble_eq_true rfl) dX3_refuseNoWord_35 ⟨by decide, by decide⟩ (fun r_1 σ_2 H locs hw hP hD hS => ?_)
  have hG : xG D cA aE ad A s σ_2 H locs := ⟨hP, hD, hS⟩
  obtain ⟨h_3, hw⟩ := hw
  exact W.zret (v := r_1) (ty := .boolean) hx hb hr (isB.n h_3) (fun t ht hW => ⟨⟨_, σ_2, rfl, hw, by rw [ht]; exact hP, va_K.moved hW.alike hK, hD⟩, hS.F ht⟩) hS.2.2 dX3_refuseNoWord_38 hlk
set_option maxHeartbeats 4000000 in
set_option maxRecDepth 100000 in
theorem k_X3_refuseNoWord {p : Program} {l : Launch} {e : Env} {s : State} {m : MethodId} {args : Array Value} {below : List Frame} {meth : Method} {c : Code} {A : Nat → Prop} {E : EnvT} {aK aV : Nat → Nat} {aO : Nat} {D : va_G} {cA : Nat → ClassId} {aE ad : Nat → Nat} (C : xCx p s m args meth c cX3_refuseNoWord 2 (some .boolean) wgX3_refuseNoWord RX3 E D cA A) (vM : eXs aK aV aE aO E) {post : Int32 → XS → Prop} :
    ∀ (x1 : Int32) (σ : XS) (H : Heap) (locs : List Loc) (ls : Array Slot), xG D cA aE ad A s σ H locs → lv_has ls 2 [(0, .ref (ad 3)), (1, .int x1)] → wp_X3_refuseNoWord post x1 σ → W p l e rm_X3_refuseNoWord s m args below meth c H locs 0 0 (MQ below (va_Qi post (xAt D cA aE ad A) A) args s 0 0 A) (F0 m 0 ls []) := by
  obtain ⟨hx, hb, hml, hr, hown, hts, hK, hA, hlk, hE, vE⟩ := id C
  intro x1 σ H locs ls hG hl hw
  obtain ⟨hP, hD, hS⟩ := id hG
  refine lv_iload_n hx hb dX3_refuseNoWord_0 rfl (lv_at hl 1 rfl) ?_
  refine lv_if_ne (tgt := 34) hx hb dX3_refuseNoWord_1 (by decide) (fun q_ => ?_) (fun q_ => ?_)
  · have hw := hw.2 q_
    exact kB_X3_refuseNoWord_34 C vM  σ _ _ _ hG (lv_sub hl [0] rfl) hw
  · have hw := hw.1 q_
    refine lv_aload_n hx hb dX3_refuseNoWord_4 rfl (lv_at hl 0 rfl) ?_
    refine va_get (D := D) (ci := 5) (v := .ref (ad 4)) (C := RX3) (T := TX3) (N := 8) hx hb hts (in_tb inX3) hown hK hP 3 rfl rfl 0 (by decide) (hts _ (List.mem_cons_of_mem _ tw_1_110)) (fun _ h9 => h9) rfl dX3_refuseNoWord_5 ?_
    refine xV_i (As := []) (rest := []) C (met_X6_kind vE vM hw) (va_recv hK hP (ci := 8) (q0 := 4) rfl rfl) (cwV 0 hts (TB_G (TB_4 tw_4_180 tw_4_181 tw_4_182 tw_1_5) tw_4_183) rfl rfl rfl (by decide +kernel) ⟨by decide, by decide⟩) hP hD hS rfl hl.1 rfl (Nat.le_of_ble_eq_true rfl) dX3_refuseNoWord_8 ⟨by decide, by decide⟩ (fun r_4 σ_5 H locs hw hP hD hS => ?_)
    have hG : xG D cA aE ad A s σ_5 H locs := ⟨hP, hD, hS⟩
    refine lv_iconst (v := 1) hx hb dX3_refuseNoWord_11 (by decide) ?_
    refine lv_icmp_ne (tgt := 34) hx hb dX3_refuseNoWord_12 (by decide) (fun q_ => ?_) (fun q_ => ?_)
    · have hw := hw.2 q_
      exact kB_X3_refuseNoWord_34 C vM  σ_5 _ _ _ hG (lv_sub hl [0] rfl) hw
    · have hw := hw.1 q_
      refine lv_aload_n hx hb dX3_refuseNoWord_15 rfl (lv_at hl 0 rfl) ?_
      refine va_get (D := D) (ci := 5) (v := .ref (ad 4)) (C := RX3) (T := TX3) (N := 8) hx hb hts (in_tb inX3) hown hK hP 3 rfl rfl 0 (by decide) (hts _ (List.mem_cons_of_mem _ tw_1_110)) (fun _ h9 => h9) rfl dX3_refuseNoWord_16 ?_
      refine xV_i (As := []) (rest := []) C (met_X6_follower vE vM hw) (va_recv hK hP (ci := 8) (q0 := 4) rfl rfl) (cwV 0 hts (TB_G (TB_4 tw_4_188 tw_4_189 tw_4_190 tw_1_5) tw_4_191) rfl rfl rfl (by decide +kernel) ⟨by decide, by decide⟩) hP hD hS rfl hl.1 rfl (Nat.le_of_ble_eq_true rfl) dX3_refuseNoWord_19 ⟨by decide, by decide⟩ (fun r_6 σ_7 H locs hw hP hD hS => ?_)
      have hG : xG D cA aE ad A s σ_7 H locs := ⟨hP, hD, hS⟩
      refine lv_bipush (v := 61) hx hb dX3_refuseNoWord_22 (by decide) ?_
      refine lv_icmp_ne (tgt := 34) hx hb dX3_refuseNoWord_24 (by decide) (fun q_ => ?_) (fun q_ => ?_)
      · have hw := hw.2 q_
        exact kB_X3_refuseNoWord_34 C vM  σ_7 _ _ _ hG (lv_sub hl [0] rfl) hw
      · have hw := hw.1 q_
        refine lv_aload_n hx hb dX3_refuseNoWord_27 rfl (lv_at hl 0 rfl) ?_
        refine va_get (D := D) (ci := 5) (v := .ref (ad 4)) (C := RX3) (T := TX3) (N := 8) hx hb hts (in_tb inX3) hown hK hP 3 rfl rfl 0 (by decide) (hts _ (List.mem_cons_of_mem _ tw_1_110)) (fun _ h9 => h9) rfl dX3_refuseNoWord_28 ?_
        refine xV_v (As := []) (rest := []) C (met_X6_advance vE vM hw) (va_recv hK hP (ci := 8) (q0 := 4) rfl rfl) (cwV 0 hts (TB_G (TB_4 tw_4_204 tw_4_205 tw_4_206 tw_1_5) tw_4_207) rfl rfl rfl (by decide +kernel) ⟨by decide, by decide⟩) hP hD hS rfl hl.1 rfl (Nat.le_of_ble_eq_true rfl) dX3_refuseNoWord_31 ⟨by decide, by decide⟩ (fun σ_9 H locs hw hP hD hS => ?_)
        have hG : xG D cA aE ad A s σ_9 H locs := ⟨hP, hD, hS⟩
        exact kB_X3_refuseNoWord_34 C vM  σ_9 _ _ _ hG (lv_sub hl [0] rfl) hw
set_option maxHeartbeats 4000000 in
set_option maxRecDepth 100000 in
theorem met_X3_refuseNoWord {l : Launch} {E : EnvT} (vE : EnvOk E) {D : va_G} {cA : Nat → ClassId} {aE ad : Nat → Nat} {σ : XS} {aK aV : Nat → Nat} {aO : Nat} (vM : eXs aK aV aE aO E) {sz : Nat} {x1 : Int32} {post : Int32 → XS → Prop} (hw : wp_X3_refuseNoWord post x1 σ) : Met l yX3_refuseNoWord wgX3_refuseNoWord rm_X3_refuseNoWord (va_Pc [.ref (ad 3), .int x1] (xPre E D cA aE ad sz σ)) (va_Qi post (xAt D cA aE ad (va_A (xW cA aE ad σ) sz)) (va_A (xW cA aE ad σ) sz)) 0 0 (va_A (xW cA aE ad σ) sz) := by
  refine Met.ofW (cc := cX3_refuseNoWord) (maxL := 2) (ret := (some .boolean)) (by decide +kernel) rfl ?_
  intro p e s m args below meth c s₁ B hml hv
  obtain ⟨rfl, hsz, hP, hK, hD0, hE⟩ := hv
  subst hsz
  have hD := hD0.self (sz := s.heap.size)
  generalize hAe : va_A (xW cA aE ad σ) s.heap.size = A at hD hE ⊢
  have hA : ∀ q : Nat, s.heap.size ≤ q → A q := fun q h => by rw [← hAe]; exact Or.inr h
  have hS : va_S A s.heap s.heap [] := va_S.rf
  have C : xCx p s m _ meth c cX3_refuseNoWord 2 (some .boolean) wgX3_refuseNoWord RX3 E D cA A := ⟨B.exec, B.bytes, hml, B.returns, findClass_of_methodNamed B.named, atoms_spec (ws := wgX3_refuseNoWord) B.pre, hK, hA, B.notSynchronized, hE, vE⟩
  have hG : xG D cA aE ad A s σ s.heap [] := ⟨hP, hD, hS⟩
  have hl := lv_entry ([.ref (ad 3), .int x1]) (n := 2) (Nat.le_of_ble_eq_true rfl)
  rw [lg_entry_eq]
  generalize (lg_sl ([.ref (ad 3), .int x1]) ++ List.replicate (2 - (lg_sl ([.ref (ad 3), .int x1])).length) Slot.unset).toArray = ls at hl ⊢
  have hl : lv_has ls 2 [(0, .ref (ad 3)), (1, .int x1)] := hl
  exact k_X3_refuseNoWord C vM x1 σ _ _ _ hG hl hw
/-! ===== X3_takePart parser ===== -/
def rm_X3_takePart : Room := { frames := 2, cells := 0, slots := 0, locals := 46 }
abbrev wgX3_takePart : List Cond := .code yX3_takePart cX3_takePart 5 (some .long) :: TB
def wB_X3_takePart_42 (post : Int64 → XS → Prop) (t0 : Int64) (σ : XS) : Prop :=
  post t0 σ
def wB_X3_takePart_12 (post : Int64 → XS → Prop) (σ : XS) : Prop :=
  wp_X6_index (fun r_1 σ_2 => vp_in (xI σ 1) 64 ∧ (wp_X3_passAmount (fun r_4 σ_5 => (r_4 = 0 → (wB_X3_takePart_42 post (-1) σ_5)) ∧ (¬ r_4 = 0 → (wB_X3_takePart_42 post 0 σ_5))) (yA σ_2 3 (xI σ 1).toNatClampNeg r_1))) σ
def wB_X3_takePart_134 (post : Int64 → XS → Prop) (x2 : Int64) (σ : XS) : Prop :=
  post x2 σ
def wB_X3_takePart_119 (post : Int64 → XS → Prop) (x2 : Int64) (σ : XS) : Prop :=
  (x2 = (-1) → (wB_X3_takePart_134 post x2 σ)) ∧ (¬ x2 = (-1) → (wp_X6_advance (fun σ_11 => wB_X3_takePart_134 post x2 σ_11) σ))
def wB_X3_takePart_100 (post : Int64 → XS → Prop) (t0 : Int64) (σ : XS) : Prop :=
  wB_X3_takePart_119 post t0 σ
def wB_X3_takePart_71 (post : Int64 → XS → Prop) (x1 : Int32) (t0 : Int32) (σ : XS) : Prop :=
  wp_X2_mostOf (fun r_14  => wp_X6_numbered (fun r_16 σ_17 => (r_16 = (-1) → (wB_X3_takePart_100 post (-1) σ_17)) ∧ (¬ r_16 = (-1) → (wp_X2_shiftOf (fun r_18  => wB_X3_takePart_100 post ((r_16.toInt64) <<< (r_18.toInt64 &&& 63)) σ_17) x1))) t0 r_14 σ) x1
def wp_X3_takePart (post : Int64 → XS → Prop) (x1 : Int32) (σ : XS) : Prop :=
  (x1 = 110 → (wB_X3_takePart_12 post σ)) ∧ (¬ x1 = 110 → ((x1 = 116 → (wB_X3_takePart_12 post σ)) ∧ (¬ x1 = 116 → (wp_X2_shiftOf (fun r_6  => (r_6 = (-1) → (wp_X6_kind (fun r_8 σ_9 => (r_8 = x1 → (wB_X3_takePart_119 post 0 σ_9)) ∧ (¬ r_8 = x1 → (wB_X3_takePart_119 post (-1) σ_9))) σ)) ∧ (¬ r_6 = (-1) → (wp_X2_isRegister (fun r_12  => (r_12 = 0 → (wB_X3_takePart_71 post x1 112 σ)) ∧ (¬ r_12 = 0 → (wB_X3_takePart_71 post x1 114 σ))) x1))) x1))))
set_option maxHeartbeats 4000000 in
set_option maxRecDepth 100000 in
theorem kB_X3_takePart_42 {p : Program} {l : Launch} {e : Env} {s : State} {m : MethodId} {args : Array Value} {below : List Frame} {meth : Method} {c : Code} {A : Nat → Prop} {E : EnvT} {aK aV : Nat → Nat} {aO : Nat} {D : va_G} {cA : Nat → ClassId} {aE ad : Nat → Nat} (C : xCx p s m args meth c cX3_takePart 5 (some .long) wgX3_takePart RX3 E D cA A) (vM : eXs aK aV aE aO E) {post : Int64 → XS → Prop} :
    ∀ (t0 : Int64) (σ : XS) (H : Heap) (locs : List Loc) (ls : Array Slot), xG D cA aE ad A s σ H locs → lv_has ls 5 [] → wB_X3_takePart_42 post t0 σ → W p l e rm_X3_takePart s m args below meth c H locs 0 0 (MQ below (va_Ql post (xAt D cA aE ad A) A) args s 0 0 A) (F0 m 42 ls [.long t0]) := by
  obtain ⟨hx, hb, hml, hr, hown, hts, hK, hA, hlk, hE, vE⟩ := id C
  intro t0 σ H locs ls hG hl hw
  obtain ⟨hP, hD, hS⟩ := id hG
  exact W.lret (v := t0) hx hb hr (fun t ht hW => ⟨⟨_, σ, rfl, hw, by rw [ht]; exact hP, va_K.moved hW.alike hK, hD⟩, hS.F ht⟩) hS.2.2 dX3_takePart_42 hlk
set_option maxHeartbeats 4000000 in
set_option maxRecDepth 100000 in
theorem kB_X3_takePart_12 {p : Program} {l : Launch} {e : Env} {s : State} {m : MethodId} {args : Array Value} {below : List Frame} {meth : Method} {c : Code} {A : Nat → Prop} {E : EnvT} {aK aV : Nat → Nat} {aO : Nat} {D : va_G} {cA : Nat → ClassId} {aE ad : Nat → Nat} (C : xCx p s m args meth c cX3_takePart 5 (some .long) wgX3_takePart RX3 E D cA A) (vM : eXs aK aV aE aO E) {post : Int64 → XS → Prop} :
    ∀ (σ : XS) (H : Heap) (locs : List Loc) (ls : Array Slot), xG D cA aE ad A s σ H locs → lv_has ls 5 [(0, .ref (ad 3))] → wB_X3_takePart_12 post σ → W p l e rm_X3_takePart s m args below meth c H locs 0 0 (MQ below (va_Ql post (xAt D cA aE ad A) A) args s 0 0 A) (F0 m 12 ls []) := by
  obtain ⟨hx, hb, hml, hr, hown, hts, hK, hA, hlk, hE, vE⟩ := id C
  intro σ H locs ls hG hl hw
  obtain ⟨hP, hD, hS⟩ := id hG
  refine lv_aload_n hx hb dX3_takePart_12 rfl (lv_at hl 0 rfl) ?_
  refine va_get (D := D) (ci := 5) (v := .ref (ad 9)) (C := RX3) (T := TX3) (N := 8) hx hb hts (in_tb inX3) hown hK hP 3 rfl rfl 2 (by decide) (hts _ (List.mem_cons_of_mem _ tw_1_112)) (fun _ h9 => h9) rfl dX3_takePart_13 ?_
  refine lv_aload_n hx hb dX3_takePart_16 rfl (lv_at hl 0 rfl) ?_
  refine va_get (D := D) (ci := 5) (v := .int (xI σ 1)) (C := RX3) (T := TX3) (N := 8) hx hb hts (in_tb inX3) hown hK hP 3 rfl rfl 5 (by decide) (hts _ (List.mem_cons_of_mem _ tw_1_117)) (fun _ h9 => h9) rfl dX3_takePart_17 ?_
  refine lv_aload_n hx hb dX3_takePart_20 rfl (lv_at hl 0 rfl) ?_
  refine va_get (D := D) (ci := 5) (v := .ref (ad 4)) (C := RX3) (T := TX3) (N := 8) hx hb hts (in_tb inX3) hown hK hP 3 rfl rfl 0 (by decide) (hts _ (List.mem_cons_of_mem _ tw_1_110)) (fun _ h9 => h9) rfl dX3_takePart_21 ?_
  refine xV_i (As := []) (rest := [.int (xI σ 1), .ref (ad 9)]) C (met_X6_index vE vM hw) (va_recv hK hP (ci := 8) (q0 := 4) rfl rfl) (cwV 0 hts (TB_G (TB_4 tw_4_208 tw_4_209 tw_4_210 tw_1_5) tw_4_211) rfl rfl rfl (by decide +kernel) ⟨by decide, by decide⟩) hP hD hS rfl hl.1 rfl (Nat.le_of_ble_eq_true rfl) dX3_takePart_24 ⟨by decide, by decide⟩ (fun r_1 σ_2 H locs hw hP hD hS => ?_)
  have hG : xG D cA aE ad A s σ_2 H locs := ⟨hP, hD, hS⟩
  obtain ⟨h_3, hw⟩ := hw
  refine va_iast hx hb hK hP hD hS 9 0 rfl rfl h_3 dX3_takePart_27 (fun H locs hP hD hS => ?_)
  have hG : xG D cA aE ad A s (yA σ_2 3 (xI σ 1).toNatClampNeg r_1) H locs := ⟨hP, hD, hS⟩
  obtain ⟨hP, hD, hS⟩ := id hG
  refine lv_aload_n hx hb dX3_takePart_28 rfl (lv_at hl 0 rfl) ?_
  refine xV_i (As := []) (rest := []) C (met_X3_passAmount vE vM hw) (va_recv hK hP (ci := 5) (q0 := 3) rfl rfl) (cwV 0 hts (TB_G (TB_4 tw_4_212 tw_4_214 ts_15 tw_1_3) tw_4_215) rfl rfl rfl (by decide +kernel) ⟨by decide, by decide⟩) hP hD hS rfl hl.1 rfl (Nat.le_of_ble_eq_true rfl) dX3_takePart_29 ⟨by decide, by decide⟩ (fun r_4 σ_5 H locs hw hP hD hS => ?_)
  have hG : xG D cA aE ad A s σ_5 H locs := ⟨hP, hD, hS⟩
  refine lv_if_eq (tgt := 39) hx hb dX3_takePart_32 (by decide) (fun q_ => ?_) (fun q_ => ?_)
  · have hw := hw.1 q_
    refine lv_ldc2 (v := (-1)) hx hb hown (hts _ (List.mem_cons_of_mem _ tw_5_46)) dX3_takePart_39 ?_
    exact kB_X3_takePart_42 C vM (-1) σ_5 _ _ _ hG (lv_sub hl [] rfl) hw
  · have hw := hw.2 q_
    refine lv_lconst (v := 0) hx hb dX3_takePart_35 (by decide) ?_
    refine lv_goto (tgt := 42) hx hb dX3_takePart_36 (by decide) ?_
    exact kB_X3_takePart_42 C vM 0 σ_5 _ _ _ hG (lv_sub hl [] rfl) hw
set_option maxHeartbeats 4000000 in
set_option maxRecDepth 100000 in
theorem kB_X3_takePart_134 {p : Program} {l : Launch} {e : Env} {s : State} {m : MethodId} {args : Array Value} {below : List Frame} {meth : Method} {c : Code} {A : Nat → Prop} {E : EnvT} {aK aV : Nat → Nat} {aO : Nat} {D : va_G} {cA : Nat → ClassId} {aE ad : Nat → Nat} (C : xCx p s m args meth c cX3_takePart 5 (some .long) wgX3_takePart RX3 E D cA A) (vM : eXs aK aV aE aO E) {post : Int64 → XS → Prop} :
    ∀ (x2 : Int64) (σ : XS) (H : Heap) (locs : List Loc) (ls : Array Slot), xG D cA aE ad A s σ H locs → lv_has ls 5 [(2, .long x2)] → wB_X3_takePart_134 post x2 σ → W p l e rm_X3_takePart s m args below meth c H locs 0 0 (MQ below (va_Ql post (xAt D cA aE ad A) A) args s 0 0 A) (F0 m 134 ls []) := by
  obtain ⟨hx, hb, hml, hr, hown, hts, hK, hA, hlk, hE, vE⟩ := id C
  intro x2 σ H locs ls hG hl hw
  obtain ⟨hP, hD, hS⟩ := id hG
  refine lv_lload_n hx hb dX3_takePart_134 rfl (lv_at hl 0 rfl) ?_
  exact W.lret (v := x2) hx hb hr (fun t ht hW => ⟨⟨_, σ, rfl, hw, by rw [ht]; exact hP, va_K.moved hW.alike hK, hD⟩, hS.F ht⟩) hS.2.2 dX3_takePart_135 hlk
set_option maxHeartbeats 4000000 in
set_option maxRecDepth 100000 in
theorem kB_X3_takePart_119 {p : Program} {l : Launch} {e : Env} {s : State} {m : MethodId} {args : Array Value} {below : List Frame} {meth : Method} {c : Code} {A : Nat → Prop} {E : EnvT} {aK aV : Nat → Nat} {aO : Nat} {D : va_G} {cA : Nat → ClassId} {aE ad : Nat → Nat} (C : xCx p s m args meth c cX3_takePart 5 (some .long) wgX3_takePart RX3 E D cA A) (vM : eXs aK aV aE aO E) {post : Int64 → XS → Prop} :
    ∀ (x2 : Int64) (σ : XS) (H : Heap) (locs : List Loc) (ls : Array Slot), xG D cA aE ad A s σ H locs → lv_has ls 5 [(0, .ref (ad 3)), (2, .long x2)] → wB_X3_takePart_119 post x2 σ → W p l e rm_X3_takePart s m args below meth c H locs 0 0 (MQ below (va_Ql post (xAt D cA aE ad A) A) args s 0 0 A) (F0 m 119 ls []) := by
  obtain ⟨hx, hb, hml, hr, hown, hts, hK, hA, hlk, hE, vE⟩ := id C
  intro x2 σ H locs ls hG hl hw
  obtain ⟨hP, hD, hS⟩ := id hG
  refine lv_lload_n hx hb dX3_takePart_119 rfl (lv_at hl 1 rfl) ?_
  refine lv_ldc2 (v := (-1)) hx hb hown (hts _ (List.mem_cons_of_mem _ tw_5_46)) dX3_takePart_120 ?_
  refine W.lcmp hx hb dX3_takePart_123 ?_
  refine lv_if_eq (tgt := 134) hx hb dX3_takePart_124 (by decide) (fun q_ => ?_) (fun q_ => ?_)
  · have hw := hw.1 (lc_eq.mp q_)
    exact kB_X3_takePart_134 C vM x2 σ _ _ _ hG (lv_sub hl [1] rfl) hw
  · have hw := hw.2 (fun z => q_ (lc_eq.mpr z))
    refine lv_aload_n hx hb dX3_takePart_127 rfl (lv_at hl 0 rfl) ?_
    refine va_get (D := D) (ci := 5) (v := .ref (ad 4)) (C := RX3) (T := TX3) (N := 8) hx hb hts (in_tb inX3) hown hK hP 3 rfl rfl 0 (by decide) (hts _ (List.mem_cons_of_mem _ tw_1_110)) (fun _ h9 => h9) rfl dX3_takePart_128 ?_
    refine xV_v (As := []) (rest := []) C (met_X6_advance vE vM hw) (va_recv hK hP (ci := 8) (q0 := 4) rfl rfl) (cwV 0 hts (TB_G (TB_4 tw_4_204 tw_4_205 tw_4_206 tw_1_5) tw_4_207) rfl rfl rfl (by decide +kernel) ⟨by decide, by decide⟩) hP hD hS rfl hl.1 rfl (Nat.le_of_ble_eq_true rfl) dX3_takePart_131 ⟨by decide, by decide⟩ (fun σ_11 H locs hw hP hD hS => ?_)
    have hG : xG D cA aE ad A s σ_11 H locs := ⟨hP, hD, hS⟩
    exact kB_X3_takePart_134 C vM x2 σ_11 _ _ _ hG (lv_sub hl [1] rfl) hw
set_option maxHeartbeats 4000000 in
set_option maxRecDepth 100000 in
theorem kB_X3_takePart_100 {p : Program} {l : Launch} {e : Env} {s : State} {m : MethodId} {args : Array Value} {below : List Frame} {meth : Method} {c : Code} {A : Nat → Prop} {E : EnvT} {aK aV : Nat → Nat} {aO : Nat} {D : va_G} {cA : Nat → ClassId} {aE ad : Nat → Nat} (C : xCx p s m args meth c cX3_takePart 5 (some .long) wgX3_takePart RX3 E D cA A) (vM : eXs aK aV aE aO E) {post : Int64 → XS → Prop} :
    ∀ (t0 : Int64) (σ : XS) (H : Heap) (locs : List Loc) (ls : Array Slot), xG D cA aE ad A s σ H locs → lv_has ls 5 [(0, .ref (ad 3))] → wB_X3_takePart_100 post t0 σ → W p l e rm_X3_takePart s m args below meth c H locs 0 0 (MQ below (va_Ql post (xAt D cA aE ad A) A) args s 0 0 A) (F0 m 100 ls [.long t0]) := by
  obtain ⟨hx, hb, hml, hr, hown, hts, hK, hA, hlk, hE, vE⟩ := id C
  intro t0 σ H locs ls hG hl hw
  obtain ⟨hP, hD, hS⟩ := id hG
  refine lv_lstore_n (lv' := [(2, .long t0), (0, .ref (ad 3))]) hx hb dX3_takePart_100 rfl hl (by decide) rfl (fun ls hl => ?_)
  refine lv_goto (tgt := 119) hx hb dX3_takePart_101 (by decide) ?_
  exact kB_X3_takePart_119 C vM t0 σ _ _ _ hG (lv_sub hl [1, 0] rfl) hw
set_option maxHeartbeats 4000000 in
set_option maxRecDepth 100000 in
theorem kB_X3_takePart_71 {p : Program} {l : Launch} {e : Env} {s : State} {m : MethodId} {args : Array Value} {below : List Frame} {meth : Method} {c : Code} {A : Nat → Prop} {E : EnvT} {aK aV : Nat → Nat} {aO : Nat} {D : va_G} {cA : Nat → ClassId} {aE ad : Nat → Nat} (C : xCx p s m args meth c cX3_takePart 5 (some .long) wgX3_takePart RX3 E D cA A) (vM : eXs aK aV aE aO E) {post : Int64 → XS → Prop} :
    ∀ (x1 : Int32) (t0 : Int32) (σ : XS) (H : Heap) (locs : List Loc) (ls : Array Slot), xG D cA aE ad A s σ H locs → lv_has ls 5 [(0, .ref (ad 3)), (1, .int x1)] → wB_X3_takePart_71 post x1 t0 σ → W p l e rm_X3_takePart s m args below meth c H locs 0 0 (MQ below (va_Ql post (xAt D cA aE ad A) A) args s 0 0 A) (F0 m 71 ls [.int t0, .ref (ad 4)]) := by
  obtain ⟨hx, hb, hml, hr, hown, hts, hK, hA, hlk, hE, vE⟩ := id C
  intro x1 t0 σ H locs ls hG hl hw
  obtain ⟨hP, hD, hS⟩ := id hG
  refine lv_iload_n hx hb dX3_takePart_71 rfl (lv_at hl 1 rfl) ?_
  refine xS_i (As := [.int x1]) (rest := [.int t0, .ref (ad 4)]) C (met_X2_mostOf vE vM hw) (va_cwS 1 hts (TB_G (TB_3 tw_5_2 tw_2_105 tw_1_19) tw_2_106) rfl rfl rfl (by decide +kernel) ⟨by decide, by decide⟩) hP hD hS rfl hl.1 rfl (Nat.le_of_ble_eq_true rfl) dX3_takePart_72 ⟨by decide, by decide⟩ (fun r_14 H locs hw hP hS => ?_)
  have hG : xG D cA aE ad A s σ H locs := ⟨hP, hD, hS⟩
  refine xV_i (As := [.int t0, .int r_14]) (rest := []) C (met_X6_numbered vE vM hw) (va_recv hK hP (ci := 8) (q0 := 4) rfl rfl) (cwV 2 hts (TB_G (TB_4 tw_5_20 tw_5_21 tw_5_22 tw_1_5) tw_5_23) rfl rfl rfl (by decide +kernel) ⟨by decide, by decide⟩) hP hD hS rfl hl.1 rfl (Nat.le_of_ble_eq_true rfl) dX3_takePart_75 ⟨by decide, by decide⟩ (fun r_16 σ_17 H locs hw hP hD hS => ?_)
  have hG : xG D cA aE ad A s σ_17 H locs := ⟨hP, hD, hS⟩
  refine lv_istore (lv' := [(4, .int r_16), (0, .ref (ad 3)), (1, .int x1)]) hx hb dX3_takePart_78 hl (by decide) rfl (fun ls hl => ?_)
  refine lv_iload hx hb dX3_takePart_80 (lv_at hl 0 rfl) ?_
  refine lv_iconst (v := (-1)) hx hb dX3_takePart_82 (by decide) ?_
  refine lv_icmp_ne (tgt := 92) hx hb dX3_takePart_83 (by decide) (fun q_ => ?_) (fun q_ => ?_)
  · have hw := hw.2 q_
    refine lv_iload hx hb dX3_takePart_92 (lv_at hl 0 rfl) ?_
    refine lv_i2l hx hb dX3_takePart_94 rfl ?_
    refine lv_iload_n hx hb dX3_takePart_95 rfl (lv_at hl 2 rfl) ?_
    refine xS_i (As := [.int x1]) (rest := [.long (r_16.toInt64)]) C (met_X2_shiftOf vE vM hw) (va_cwS 1 hts (TB_G (TB_3 tw_5_47 tw_2_95 tw_1_19) tw_2_96) rfl rfl rfl (by decide +kernel) ⟨by decide, by decide⟩) hP hD hS rfl hl.1 rfl (Nat.le_of_ble_eq_true rfl) dX3_takePart_96 ⟨by decide, by decide⟩ (fun r_18 H locs hw hP hS => ?_)
    have hG : xG D cA aE ad A s σ_17 H locs := ⟨hP, hD, hS⟩
    refine lv_lshl hx hb dX3_takePart_99 rfl ?_
    exact kB_X3_takePart_100 C vM ((r_16.toInt64) <<< (r_18.toInt64 &&& 63)) σ_17 _ _ _ hG (lv_sub hl [1] rfl) hw
  · have hw := hw.1 q_
    refine lv_ldc2 (v := (-1)) hx hb hown (hts _ (List.mem_cons_of_mem _ tw_5_46)) dX3_takePart_86 ?_
    refine lv_goto (tgt := 100) hx hb dX3_takePart_89 (by decide) ?_
    exact kB_X3_takePart_100 C vM (-1) σ_17 _ _ _ hG (lv_sub hl [1] rfl) hw
set_option maxHeartbeats 4000000 in
set_option maxRecDepth 100000 in
theorem k_X3_takePart {p : Program} {l : Launch} {e : Env} {s : State} {m : MethodId} {args : Array Value} {below : List Frame} {meth : Method} {c : Code} {A : Nat → Prop} {E : EnvT} {aK aV : Nat → Nat} {aO : Nat} {D : va_G} {cA : Nat → ClassId} {aE ad : Nat → Nat} (C : xCx p s m args meth c cX3_takePart 5 (some .long) wgX3_takePart RX3 E D cA A) (vM : eXs aK aV aE aO E) {post : Int64 → XS → Prop} :
    ∀ (x1 : Int32) (σ : XS) (H : Heap) (locs : List Loc) (ls : Array Slot), xG D cA aE ad A s σ H locs → lv_has ls 5 [(0, .ref (ad 3)), (1, .int x1)] → wp_X3_takePart post x1 σ → W p l e rm_X3_takePart s m args below meth c H locs 0 0 (MQ below (va_Ql post (xAt D cA aE ad A) A) args s 0 0 A) (F0 m 0 ls []) := by
  obtain ⟨hx, hb, hml, hr, hown, hts, hK, hA, hlk, hE, vE⟩ := id C
  intro x1 σ H locs ls hG hl hw
  obtain ⟨hP, hD, hS⟩ := id hG
  refine lv_iload_n hx hb dX3_takePart_0 rfl (lv_at hl 1 rfl) ?_
  refine lv_bipush (v := 110) hx hb dX3_takePart_1 (by decide) ?_
  refine lv_icmp_eq (tgt := 12) hx hb dX3_takePart_3 (by decide) (fun q_ => ?_) (fun q_ => ?_)
  · have hw := hw.1 q_
    exact kB_X3_takePart_12 C vM  σ _ _ _ hG (lv_sub hl [0] rfl) hw
  · have hw := hw.2 q_
    refine lv_iload_n hx hb dX3_takePart_6 rfl (lv_at hl 1 rfl) ?_
    refine lv_bipush (v := 116) hx hb dX3_takePart_7 (by decide) ?_
    refine lv_icmp_ne (tgt := 43) hx hb dX3_takePart_9 (by decide) (fun q_ => ?_) (fun q_ => ?_)
    · have hw := hw.2 q_
      refine lv_lconst (v := 0) hx hb dX3_takePart_43 (by decide) ?_
      refine lv_lstore_n (lv' := [(2, .long 0), (0, .ref (ad 3)), (1, .int x1)]) hx hb dX3_takePart_44 rfl hl (by decide) rfl (fun ls hl => ?_)
      refine lv_iload_n hx hb dX3_takePart_45 rfl (lv_at hl 2 rfl) ?_
      refine xS_i (As := [.int x1]) (rest := []) C (met_X2_shiftOf vE vM hw) (va_cwS 1 hts (TB_G (TB_3 tw_5_47 tw_2_95 tw_1_19) tw_2_96) rfl rfl rfl (by decide +kernel) ⟨by decide, by decide⟩) hP hD hS rfl hl.1 rfl (Nat.le_of_ble_eq_true rfl) dX3_takePart_46 ⟨by decide, by decide⟩ (fun r_6 H locs hw hP hS => ?_)
      have hG : xG D cA aE ad A s σ H locs := ⟨hP, hD, hS⟩
      refine lv_iconst (v := (-1)) hx hb dX3_takePart_49 (by decide) ?_
      refine lv_icmp_eq (tgt := 104) hx hb dX3_takePart_50 (by decide) (fun q_ => ?_) (fun q_ => ?_)
      · have hw := hw.1 q_
        refine lv_aload_n hx hb dX3_takePart_104 rfl (lv_at hl 1 rfl) ?_
        refine va_get (D := D) (ci := 5) (v := .ref (ad 4)) (C := RX3) (T := TX3) (N := 8) hx hb hts (in_tb inX3) hown hK hP 3 rfl rfl 0 (by decide) (hts _ (List.mem_cons_of_mem _ tw_1_110)) (fun _ h9 => h9) rfl dX3_takePart_105 ?_
        refine xV_i (As := []) (rest := []) C (met_X6_kind vE vM hw) (va_recv hK hP (ci := 8) (q0 := 4) rfl rfl) (cwV 0 hts (TB_G (TB_4 tw_4_180 tw_4_181 tw_4_182 tw_1_5) tw_4_183) rfl rfl rfl (by decide +kernel) ⟨by decide, by decide⟩) hP hD hS rfl hl.1 rfl (Nat.le_of_ble_eq_true rfl) dX3_takePart_108 ⟨by decide, by decide⟩ (fun r_8 σ_9 H locs hw hP hD hS => ?_)
        have hG : xG D cA aE ad A s σ_9 H locs := ⟨hP, hD, hS⟩
        refine lv_iload_n hx hb dX3_takePart_111 rfl (lv_at hl 2 rfl) ?_
        refine lv_icmp_eq (tgt := 119) hx hb dX3_takePart_112 (by decide) (fun q_ => ?_) (fun q_ => ?_)
        · have hw := hw.1 q_
          exact kB_X3_takePart_119 C vM 0 σ_9 _ _ _ hG (lv_sub hl [1, 0] rfl) hw
        · have hw := hw.2 q_
          refine lv_ldc2 (v := (-1)) hx hb hown (hts _ (List.mem_cons_of_mem _ tw_5_46)) dX3_takePart_115 ?_
          refine lv_lstore_n (lv' := [(2, .long (-1)), (0, .ref (ad 3)), (1, .int x1)]) hx hb dX3_takePart_118 rfl hl (by decide) rfl (fun ls hl => ?_)
          exact kB_X3_takePart_119 C vM (-1) σ_9 _ _ _ hG (lv_sub hl [1, 0] rfl) hw
      · have hw := hw.2 q_
        refine lv_aload_n hx hb dX3_takePart_53 rfl (lv_at hl 1 rfl) ?_
        refine va_get (D := D) (ci := 5) (v := .ref (ad 4)) (C := RX3) (T := TX3) (N := 8) hx hb hts (in_tb inX3) hown hK hP 3 rfl rfl 0 (by decide) (hts _ (List.mem_cons_of_mem _ tw_1_110)) (fun _ h9 => h9) rfl dX3_takePart_54 ?_
        refine lv_iload_n hx hb dX3_takePart_57 rfl (lv_at hl 2 rfl) ?_
        refine xS_i (As := [.int x1]) (rest := [.ref (ad 4)]) C (met_X2_isRegister vE vM hw) (va_cwS 1 hts (TB_G (TB_3 tw_5_48 tw_2_108 tw_1_19) tw_2_109) rfl rfl rfl (by decide +kernel) ⟨by decide, by decide⟩) hP hD hS rfl hl.1 rfl (Nat.le_of_ble_eq_true rfl) dX3_takePart_58 ⟨by decide, by decide⟩ (fun r_12 H locs hw hP hS => ?_)
        have hG : xG D cA aE ad A s σ H locs := ⟨hP, hD, hS⟩
        refine lv_if_eq (tgt := 69) hx hb dX3_takePart_61 (by decide) (fun q_ => ?_) (fun q_ => ?_)
        · have hw := hw.1 q_
          refine lv_bipush (v := 112) hx hb dX3_takePart_69 (by decide) ?_
          exact kB_X3_takePart_71 C vM x1 112 σ _ _ _ hG (lv_sub hl [1, 2] rfl) hw
        · have hw := hw.2 q_
          refine lv_bipush (v := 114) hx hb dX3_takePart_64 (by decide) ?_
          refine lv_goto (tgt := 71) hx hb dX3_takePart_66 (by decide) ?_
          exact kB_X3_takePart_71 C vM x1 114 σ _ _ _ hG (lv_sub hl [1, 2] rfl) hw
    · have hw := hw.1 q_
      exact kB_X3_takePart_12 C vM  σ _ _ _ hG (lv_sub hl [0] rfl) hw
set_option maxHeartbeats 4000000 in
set_option maxRecDepth 100000 in
theorem met_X3_takePart {l : Launch} {E : EnvT} (vE : EnvOk E) {D : va_G} {cA : Nat → ClassId} {aE ad : Nat → Nat} {σ : XS} {aK aV : Nat → Nat} {aO : Nat} (vM : eXs aK aV aE aO E) {sz : Nat} {x1 : Int32} {post : Int64 → XS → Prop} (hw : wp_X3_takePart post x1 σ) : Met l yX3_takePart wgX3_takePart rm_X3_takePart (va_Pc [.ref (ad 3), .int x1] (xPre E D cA aE ad sz σ)) (va_Ql post (xAt D cA aE ad (va_A (xW cA aE ad σ) sz)) (va_A (xW cA aE ad σ) sz)) 0 0 (va_A (xW cA aE ad σ) sz) := by
  refine Met.ofW (cc := cX3_takePart) (maxL := 5) (ret := (some .long)) (by decide +kernel) rfl ?_
  intro p e s m args below meth c s₁ B hml hv
  obtain ⟨rfl, hsz, hP, hK, hD0, hE⟩ := hv
  subst hsz
  have hD := hD0.self (sz := s.heap.size)
  generalize hAe : va_A (xW cA aE ad σ) s.heap.size = A at hD hE ⊢
  have hA : ∀ q : Nat, s.heap.size ≤ q → A q := fun q h => by rw [← hAe]; exact Or.inr h
  have hS : va_S A s.heap s.heap [] := va_S.rf
  have C : xCx p s m _ meth c cX3_takePart 5 (some .long) wgX3_takePart RX3 E D cA A := ⟨B.exec, B.bytes, hml, B.returns, findClass_of_methodNamed B.named, atoms_spec (ws := wgX3_takePart) B.pre, hK, hA, B.notSynchronized, hE, vE⟩
  have hG : xG D cA aE ad A s σ s.heap [] := ⟨hP, hD, hS⟩
  have hl := lv_entry ([.ref (ad 3), .int x1]) (n := 5) (Nat.le_of_ble_eq_true rfl)
  rw [lg_entry_eq]
  generalize (lg_sl ([.ref (ad 3), .int x1]) ++ List.replicate (5 - (lg_sl ([.ref (ad 3), .int x1])).length) Slot.unset).toArray = ls at hl ⊢
  have hl : lv_has ls 5 [(0, .ref (ad 3)), (1, .int x1)] := hl
  exact k_X3_takePart C vM x1 σ _ _ _ hG hl hw
