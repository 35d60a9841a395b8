/-! ===== X8_type K ===== -/
def rm_X8_type : Room := { frames := 2, cells := 0, slots := 0, locals := 47 }
abbrev wgX8_type : List Cond := .code yX8_type cX8_type 4 (some .boolean) :: TB
def wp_X8_type (post : Int32 → XS → Prop) (x1 : Int64) (x3 : Int32) (σ : XS) : Prop :=
  wp_X5_append (fun r_1 σ_2 => isB r_1 ∧ (post r_1 σ_2)) x1 x3 σ
set_option maxHeartbeats 4000000 in
set_option maxRecDepth 100000 in
theorem k_X8_type {p : Program} {l : Launch} {e : Env} {s : State} {m : MethodId} {args : Array Value} {below : List Frame} {meth : Method} {c : Code} {A : Nat → Prop} {E : EnvT} {aK aV : Nat → Nat} {aO : Nat} {D : va_G} {cA : Nat → ClassId} {aE ad : Nat → Nat} (C : xCx p s m args meth c cX8_type 4 (some .boolean) wgX8_type RX8 E D cA A) (vM : eXs aK aV aE aO E) {post : Int32 → XS → Prop} :
    ∀ (x1 : Int64) (x3 : Int32) (σ : XS) (H : Heap) (locs : List Loc) (ls : Array Slot), xG D cA aE ad A s σ H locs → lv_has ls 4 [(0, .ref (ad 0)), (1, .long x1), (3, .int x3)] → wp_X8_type post x1 x3 σ → W p l e rm_X8_type s m args below meth c H locs 0 0 (MQ below (va_Qi post (xAt D cA aE ad A) A) args s 0 0 A) (F0 m 0 ls []) := by
  obtain ⟨hx, hb, hml, hr, hown, hts, hK, hA, hlk, hE, vE⟩ := id C
  intro x1 x3 σ H locs ls hG hl hw
  obtain ⟨hP, hD, hS⟩ := id hG
  refine lv_aload_n hx hb dX8_type_0 rfl (lv_at hl 0 rfl) ?_
  refine va_get (D := D) (ci := 10) (v := .ref (ad 1)) (C := RX8) (T := TX8) (N := 6) hx hb hts (in_tb inX8) hown hK hP 0 rfl rfl 0 (by decide) (hts _ (List.mem_cons_of_mem _ tw_1_224)) (fun _ h9 => h9) rfl dX8_type_1 ?_
  refine lv_lload_n hx hb dX8_type_4 rfl (lv_at hl 1 rfl) ?_
  refine lv_iload_n hx hb dX8_type_5 rfl (lv_at hl 2 rfl) ?_
  refine xV_i (As := [.long x1, .int x3]) (rest := []) C (met_X5_append vE vM hw) (va_recv hK hP (ci := 7) (q0 := 1) rfl rfl) (cwV 2 hts (TB_G (TB_4 tw_2_7 tw_2_8 tw_2_9 tw_1_2) tw_2_10) rfl rfl rfl (by decide +kernel) ⟨by decide, by decide⟩) hP hD hS rfl hl.1 rfl (Nat.le_of_ble_eq_true rfl) dX8_type_6 ⟨by decide, by decide⟩ (fun r_1 σ_2 H locs hw hP hD hS => ?_)
  have hG : xG D cA aE ad A s σ_2 H locs := ⟨hP, hD, hS⟩
  obtain ⟨h_3, hw⟩ := hw
  exact W.zret (v := r_1) (ty := .boolean) hx hb hr (isB.n h_3) (fun t ht hW => ⟨⟨_, σ_2, rfl, hw, by rw [ht]; exact hP, va_K.moved hW.alike hK, hD⟩, hS.F ht⟩) hS.2.2 dX8_type_9 hlk
set_option maxHeartbeats 4000000 in
set_option maxRecDepth 100000 in
theorem met_X8_type {l : Launch} {E : EnvT} (vE : EnvOk E) {D : va_G} {cA : Nat → ClassId} {aE ad : Nat → Nat} {σ : XS} {aK aV : Nat → Nat} {aO : Nat} (vM : eXs aK aV aE aO E) {sz : Nat} {x1 : Int64} {x3 : Int32} {post : Int32 → XS → Prop} (hw : wp_X8_type post x1 x3 σ) : Met l yX8_type wgX8_type rm_X8_type (va_Pc [.ref (ad 0), .long x1, .int x3] (xPre E D cA aE ad sz σ)) (va_Qi post (xAt D cA aE ad (va_A (xW cA aE ad σ) sz)) (va_A (xW cA aE ad σ) sz)) 0 0 (va_A (xW cA aE ad σ) sz) := by
  refine Met.ofW (cc := cX8_type) (maxL := 4) (ret := (some .boolean)) (by decide +kernel) rfl ?_
  intro p e s m args below meth c s₁ B hml hv
  obtain ⟨rfl, hsz, hP, hK, hD0, hE⟩ := hv
  subst hsz
  have hD := hD0.self (sz := s.heap.size)
  generalize hAe : va_A (xW cA aE ad σ) s.heap.size = A at hD hE ⊢
  have hA : ∀ q : Nat, s.heap.size ≤ q → A q := fun q h => by rw [← hAe]; exact Or.inr h
  have hS : va_S A s.heap s.heap [] := va_S.rf
  have C : xCx p s m _ meth c cX8_type 4 (some .boolean) wgX8_type RX8 E D cA A := ⟨B.exec, B.bytes, hml, B.returns, findClass_of_methodNamed B.named, atoms_spec (ws := wgX8_type) B.pre, hK, hA, B.notSynchronized, hE, vE⟩
  have hG : xG D cA aE ad A s σ s.heap [] := ⟨hP, hD, hS⟩
  have hl := lv_entry ([.ref (ad 0), .long x1, .int x3]) (n := 4) (Nat.le_of_ble_eq_true rfl)
  rw [lg_entry_eq]
  generalize (lg_sl ([.ref (ad 0), .long x1, .int x3]) ++ List.replicate (4 - (lg_sl ([.ref (ad 0), .long x1, .int x3])).length) Slot.unset).toArray = ls at hl ⊢
  have hl : lv_has ls 4 [(0, .ref (ad 0)), (1, .long x1), (3, .int x3)] := hl
  exact k_X8_type C vM x1 x3 σ _ _ _ hG hl hw
/-! ===== X8_compile K ===== -/
def rm_X8_compile : Room := { frames := 8, cells := 1, slots := 6, locals := 183 }
abbrev wgX8_compile : List Cond := .code yX8_compile cX8_compile 2 (some .int) :: TB
def wp_X8_compile (post : Int32 → XS → Prop) (postX : XS → Prop) (σ : XS) : Prop :=
  wp_X3_parse (fun r_1 σ_2 => (r_1 = 0 → (postX (yI σ_2 0 0))) ∧ (¬ r_1 = 0 → (wp_X0_become (fun σ_4 => wp_X1_become_names (fun σ_6 => post (xI σ_6 8) σ_6) σ_4) (xI σ_2 1) (yI σ_2 0 0)))) σ
set_option maxHeartbeats 4000000 in
set_option maxRecDepth 100000 in
theorem k_X8_compile {p : Program} {l : Launch} {e : Env} {s : State} {m : MethodId} {args : Array Value} {below : List Frame} {meth : Method} {c : Code} {A : Nat → Prop} {E : EnvT} {aK aV : Nat → Nat} {aO : Nat} {D : va_G} {cA : Nat → ClassId} {aE ad : Nat → Nat} (C : xCx p s m args meth c cX8_compile 2 (some .int) wgX8_compile RX8 E D cA A) (vM : eXs aK aV aE aO E) (hst : l.stackTraces = false) (hnt : ∀ x ∈ c.exceptionTable.toList, False) {post : Int32 → XS → Prop} {postX : XS → Prop} :
    ∀ (σ : XS) (H : Heap) (locs : List Loc) (ls : Array Slot), xG D cA aE ad A s σ H locs → lv_has ls 2 [(0, .ref (ad 0))] → wp_X8_compile post postX σ → W p l e rm_X8_compile s m args below meth c H locs 0 0 (vx_MQ below (va_Qi post (xAt D cA aE ad A) A) (vx_X postX (fun En u t => En = "java/lang/IllegalArgumentException" ∧ xAt D cA aE ad A u t) A) args s 1 6 A) (F0 m 0 ls []) := by
  obtain ⟨hx, hb, hml, hr, hown, hts, hK, hA, hlk, hE, vE⟩ := id C
  intro σ H locs ls hG hl hw
  obtain ⟨hP, hD, hS⟩ := id hG
  refine lv_aload_n hx hb dX8_compile_0 rfl (lv_at hl 0 rfl) ?_
  refine va_get (D := D) (ci := 10) (v := .ref (ad 3)) (C := RX8) (T := TX8) (N := 6) hx hb hts (in_tb inX8) hown hK hP 0 rfl rfl 1 (by decide) (hts _ (List.mem_cons_of_mem _ tw_1_225)) (fun _ h9 => h9) rfl dX8_compile_1 ?_
  refine xV_i (As := []) (rest := []) C (met_X3_parse vE vM hw) (va_recv hK hP (ci := 5) (q0 := 3) rfl rfl) (cwV 0 hts (TB_G (TB_4 tw_4_150 tw_4_151 tw_4_152 tw_1_3) tw_4_153) rfl rfl rfl (by decide +kernel) ⟨by decide, by decide⟩) hP hD hS rfl hl.1 rfl (Nat.le_of_ble_eq_true rfl) dX8_compile_4 ⟨by decide, by decide⟩ (fun r_1 σ_2 H locs hw hP hD hS => ?_)
  have hG : xG D cA aE ad A s σ_2 H locs := ⟨hP, hD, hS⟩
  refine lv_istore_n (lv' := [(1, .int r_1), (0, .ref (ad 0))]) hx hb dX8_compile_7 rfl hl (by decide) rfl (fun ls hl => ?_)
  refine lv_aload_n hx hb dX8_compile_8 rfl (lv_at hl 1 rfl) ?_
  refine va_get (D := D) (ci := 10) (v := .ref (ad 1)) (C := RX8) (T := TX8) (N := 6) hx hb hts (in_tb inX8) hown hK hP 0 rfl rfl 0 (by decide) (hts _ (List.mem_cons_of_mem _ tw_1_224)) (fun _ h9 => h9) rfl dX8_compile_9 ?_
  refine lv_iconst (v := 0) hx hb dX8_compile_12 (by decide) ?_
  refine va_put (D := D) (ci := 7) (v := .int 0) (ty := .int) (C := RX5) (T := TX5) (N := 2) hx hb hts (in_tb inX5) tyX5 tyX5_ok nmX5 hown hK hP hD hS 1 rfl rfl 1 (by decide) (hts _ (List.mem_cons_of_mem _ tw_1_48)) (fun _ h9 => h9) rfl (by decide +kernel) rfl rfl (Nat.le_of_ble_eq_true rfl) dX8_compile_13 (fun H locs hP hD hS => ?_)
  have hG : xG D cA aE ad A s (yI σ_2 0 0) H locs := ⟨hP, hD, hS⟩
  obtain ⟨hP, hD, hS⟩ := id hG
  refine lv_iload_n hx hb dX8_compile_16 rfl (lv_at hl 0 rfl) ?_
  refine lv_if_ne (tgt := 30) hx hb dX8_compile_17 (by decide) (fun q_ => ?_) (fun q_ => ?_)
  · have hw := hw.2 q_
    refine lv_aload_n hx hb dX8_compile_30 rfl (lv_at hl 1 rfl) ?_
    refine va_get (D := D) (ci := 10) (v := .ref (ad 17)) (C := RX8) (T := TX8) (N := 6) hx hb hts (in_tb inX8) hown hK hP 0 rfl rfl 3 (by decide) (hts _ (List.mem_cons_of_mem _ tw_1_227)) (fun _ h9 => h9) rfl dX8_compile_31 ?_
    refine lv_aload_n hx hb dX8_compile_34 rfl (lv_at hl 1 rfl) ?_
    refine va_get (D := D) (ci := 10) (v := .ref (ad 3)) (C := RX8) (T := TX8) (N := 6) hx hb hts (in_tb inX8) hown hK hP 0 rfl rfl 1 (by decide) (hts _ (List.mem_cons_of_mem _ tw_1_225)) (fun _ h9 => h9) rfl dX8_compile_35 ?_
    refine va_get (D := D) (ci := 5) (v := .ref (ad 13)) (C := RX3) (T := TX3) (N := 8) hx hb hts (in_tb inX3) hown hK hP 3 rfl rfl 4 (by decide) (hts _ (List.mem_cons_of_mem _ tw_1_116)) (fun _ h9 => h9) rfl dX8_compile_38 ?_
    refine lv_aload_n hx hb dX8_compile_41 rfl (lv_at hl 1 rfl) ?_
    refine va_get (D := D) (ci := 10) (v := .ref (ad 3)) (C := RX8) (T := TX8) (N := 6) hx hb hts (in_tb inX8) hown hK hP 0 rfl rfl 1 (by decide) (hts _ (List.mem_cons_of_mem _ tw_1_225)) (fun _ h9 => h9) rfl dX8_compile_42 ?_
    refine va_get (D := D) (ci := 5) (v := .int (xI σ_2 1)) (C := RX3) (T := TX3) (N := 8) hx hb hts (in_tb inX3) hown hK hP 3 rfl rfl 5 (by decide) (hts _ (List.mem_cons_of_mem _ tw_1_118)) (fun _ h9 => h9) rfl dX8_compile_45 ?_
    refine xV_v (As := [.ref (ad 13), .int (xI σ_2 1)]) (rest := []) C (met_X0_become vE vM hw) (va_recv hK hP (ci := 2) (q0 := 17) rfl rfl) (cwV 2 hts (TB_G (TB_4 tw_5_61 tw_5_62 tw_5_63 tw_1_6) tw_5_64) rfl rfl rfl (by decide +kernel) ⟨by decide, by decide⟩) hP hD hS rfl hl.1 rfl (Nat.le_of_ble_eq_true rfl) dX8_compile_48 ⟨by decide, by decide⟩ (fun σ_4 H locs hw hP hD hS => ?_)
    have hG : xG D cA aE ad A s σ_4 H locs := ⟨hP, hD, hS⟩
    refine lv_aload_n hx hb dX8_compile_51 rfl (lv_at hl 1 rfl) ?_
    refine va_get (D := D) (ci := 10) (v := .ref (ad 14)) (C := RX8) (T := TX8) (N := 6) hx hb hts (in_tb inX8) hown hK hP 0 rfl rfl 2 (by decide) (hts _ (List.mem_cons_of_mem _ tw_1_226)) (fun _ h9 => h9) rfl dX8_compile_52 ?_
    refine lv_aload_n hx hb dX8_compile_55 rfl (lv_at hl 1 rfl) ?_
    refine va_get (D := D) (ci := 10) (v := .ref (ad 3)) (C := RX8) (T := TX8) (N := 6) hx hb hts (in_tb inX8) hown hK hP 0 rfl rfl 1 (by decide) (hts _ (List.mem_cons_of_mem _ tw_1_225)) (fun _ h9 => h9) rfl dX8_compile_56 ?_
    refine va_get (D := D) (ci := 5) (v := .ref (ad 10)) (C := RX3) (T := TX3) (N := 8) hx hb hts (in_tb inX3) hown hK hP 3 rfl rfl 3 (by decide) (hts _ (List.mem_cons_of_mem _ tw_1_114)) (fun _ h9 => h9) rfl dX8_compile_59 ?_
    refine xV_v (As := [.ref (ad 10)]) (rest := []) C (met_X1_become_names vE vM hw) (va_recv hK hP (ci := 3) (q0 := 14) rfl rfl) (cwV 1 hts (TB_G (TB_4 tw_5_66 tw_5_67 tw_5_68 tw_1_4) tw_5_69) rfl rfl rfl (by decide +kernel) ⟨by decide, by decide⟩) hP hD hS rfl hl.1 rfl (Nat.le_of_ble_eq_true rfl) dX8_compile_62 ⟨by decide, by decide⟩ (fun σ_6 H locs hw hP hD hS => ?_)
    have hG : xG D cA aE ad A s σ_6 H locs := ⟨hP, hD, hS⟩
    refine lv_aload_n hx hb dX8_compile_65 rfl (lv_at hl 1 rfl) ?_
    refine va_get (D := D) (ci := 10) (v := .ref (ad 17)) (C := RX8) (T := TX8) (N := 6) hx hb hts (in_tb inX8) hown hK hP 0 rfl rfl 3 (by decide) (hts _ (List.mem_cons_of_mem _ tw_1_227)) (fun _ h9 => h9) rfl dX8_compile_66 ?_
    refine va_get (D := D) (ci := 2) (v := .int (xI σ_6 8)) (C := RX0) (T := TX0) (N := 5) hx hb hts (in_tb inX0) hown hK hP 17 rfl rfl 4 (by decide) (hts _ (List.mem_cons_of_mem _ tw_1_158)) (fun _ h9 => h9) rfl dX8_compile_69 ?_
    refine vx_ret ?_
    refine W.widen (k := 1) (n := 6) (by decide) (by decide) ?_
    exact W.iret (v := xI σ_6 8) hx hb hr (fun t ht hW => ⟨⟨_, σ_6, rfl, hw, by rw [ht]; exact hP, va_K.moved hW.alike hK, hD⟩, hS.F ht⟩) hS.2.2 dX8_compile_72 hlk
  · have hw := hw.1 q_
    exact vx_throwS (own := RX8) (cls := "java/lang/IllegalArgumentException") (names := ["java/lang/RuntimeException", "java/lang/Exception"]) (ik := 67) (is := 69) (ic := 71) (sa := aK 72) hx hb hst hown (by decide) (by decide) (hts _ (List.mem_cons_of_mem _ tw_5_58)) (hts _ (List.mem_cons_of_mem _ tw_1_23)) (eX.ms_69 (vM _ _ _ hE)) (atI hts (eX.ngI (vM _ _ _ hE))) gdI_67 (eX.st1 (vM _ _ _ hE)) (eX.st2 (vM _ _ _ hE)) hS (hl.1.trans hml.symm) dX8_compile_20 dX8_compile_23 dX8_compile_24 dX8_compile_26 dX8_compile_29 (fun x hx9 => (hnt x hx9).elim) (by decide) (Nat.le_of_ble_eq_true rfl) (by decide) (by decide) hlk (fun t hvm hz hk => ⟨(yI σ_2 0 0), hw, ⟨rfl, hP.kept (fun k q hq => hk q.1 (hP k q hq).lt), va_K.moved hvm hK, hD⟩, Nat.le_trans hS.1 hz, fun q h1 h2 => (hk q (Nat.lt_of_lt_of_le h1 hS.1)).trans (hS.2.1 q h1 h2)⟩) hS.2.2 (by decide) (by decide)
set_option maxHeartbeats 4000000 in
set_option maxRecDepth 100000 in
theorem met_X8_compile {l : Launch} {E : EnvT} (vE : EnvOk E) {D : va_G} {cA : Nat → ClassId} {aE ad : Nat → Nat} {σ : XS} {aK aV : Nat → Nat} {aO : Nat} (vM : eXs aK aV aE aO E) (hst : l.stackTraces = false) {sz : Nat} {post : Int32 → XS → Prop} {postX : XS → Prop} (hw : wp_X8_compile post postX σ) : vx_Met l yX8_compile wgX8_compile rm_X8_compile (va_Pc [.ref (ad 0)] (xPre E D cA aE ad sz σ)) (va_Qi post (xAt D cA aE ad (va_A (xW cA aE ad σ) sz)) (va_A (xW cA aE ad σ) sz)) (vx_X postX (fun En u t => En = "java/lang/IllegalArgumentException" ∧ xAt D cA aE ad (va_A (xW cA aE ad σ) sz) u t) (va_A (xW cA aE ad σ) sz)) 1 6 (va_A (xW cA aE ad σ) sz) := by
  refine vx_ofW (cc := cX8_compile) (maxL := 2) (ret := (some .int)) (by decide +kernel) rfl ?_
  intro p e s m args below meth c s₁ B hml hnt hv
  obtain ⟨rfl, hsz, hP, hK, hD0, hE⟩ := hv
  subst hsz
  have hD := hD0.self (sz := s.heap.size)
  generalize hAe : va_A (xW cA aE ad σ) s.heap.size = A at hD hE ⊢
  have hA : ∀ q : Nat, s.heap.size ≤ q → A q := fun q h => by rw [← hAe]; exact Or.inr h
  have hS : va_S A s.heap s.heap [] := va_S.rf
  have C : xCx p s m _ meth c cX8_compile 2 (some .int) wgX8_compile RX8 E D cA A := ⟨B.exec, B.bytes, hml, B.returns, findClass_of_methodNamed B.named, atoms_spec (ws := wgX8_compile) B.pre, hK, hA, B.notSynchronized, hE, vE⟩
  have hG : xG D cA aE ad A s σ s.heap [] := ⟨hP, hD, hS⟩
  have hl := lv_entry ([.ref (ad 0)]) (n := 2) (Nat.le_of_ble_eq_true rfl)
  rw [lg_entry_eq]
  generalize (lg_sl ([.ref (ad 0)]) ++ List.replicate (2 - (lg_sl ([.ref (ad 0)])).length) Slot.unset).toArray = ls at hl ⊢
  have hl : lv_has ls 2 [(0, .ref (ad 0))] := hl
  exact k_X8_compile C vM hst hnt σ _ _ _ hG hl hw
/-! ===== X8_fault K ===== -/
def rm_X8_fault : Room := { frames := 0, cells := 0, slots := 0, locals := 0 }
abbrev wgX8_fault : List Cond := .code yX8_fault cX8_fault 2 (some .int) :: TB
def wB_X8_fault_28 (post : Int32 → XS → Prop) (t0 : Int32) (σ : XS) : Prop :=
  post t0 σ
def wp_X8_fault (post : Int32 → XS → Prop) (x1 : Int32) (σ : XS) : Prop :=
  (x1 = 0 → (post (xI σ 2) σ)) ∧ (¬ x1 = 0 → ((x1 = 1 → (wB_X8_fault_28 post (xI σ 3) σ)) ∧ (¬ x1 = 1 → (wB_X8_fault_28 post (-1) σ))))
set_option maxHeartbeats 4000000 in
set_option maxRecDepth 100000 in
theorem kB_X8_fault_28 {p : Program} {l : Launch} {e : Env} {s : State} {m : MethodId} {args : Array Value} {below : List Frame} {meth : Method} {c : Code} {A : Nat → Prop} {E : EnvT} {aK aV : Nat → Nat} {aO : Nat} {D : va_G} {cA : Nat → ClassId} {aE ad : Nat → Nat} (C : xCx p s m args meth c cX8_fault 2 (some .int) wgX8_fault RX8 E D cA A) (vM : eXs aK aV aE aO E) {post : Int32 → XS → Prop} :
    ∀ (t0 : Int32) (σ : XS) (H : Heap) (locs : List Loc) (ls : Array Slot), xG D cA aE ad A s σ H locs → lv_has ls 2 [] → wB_X8_fault_28 post t0 σ → W p l e rm_X8_fault s m args below meth c H locs 0 0 (MQ below (va_Qi post (xAt D cA aE ad A) A) args s 0 0 A) (F0 m 28 ls [.int t0]) := by
  obtain ⟨hx, hb, hml, hr, hown, hts, hK, hA, hlk, hE, vE⟩ := id C
  intro t0 σ H locs ls hG hl hw
  obtain ⟨hP, hD, hS⟩ := id hG
  exact W.iret (v := t0) hx hb hr (fun t ht hW => ⟨⟨_, σ, rfl, hw, by rw [ht]; exact hP, va_K.moved hW.alike hK, hD⟩, hS.F ht⟩) hS.2.2 dX8_fault_28 hlk
set_option maxHeartbeats 4000000 in
set_option maxRecDepth 100000 in
theorem k_X8_fault {p : Program} {l : Launch} {e : Env} {s : State} {m : MethodId} {args : Array Value} {below : List Frame} {meth : Method} {c : Code} {A : Nat → Prop} {E : EnvT} {aK aV : Nat → Nat} {aO : Nat} {D : va_G} {cA : Nat → ClassId} {aE ad : Nat → Nat} (C : xCx p s m args meth c cX8_fault 2 (some .int) wgX8_fault RX8 E D cA A) (vM : eXs aK aV aE aO E) {post : Int32 → XS → Prop} :
    ∀ (x1 : Int32) (σ : XS) (H : Heap) (locs : List Loc) (ls : Array Slot), xG D cA aE ad A s σ H locs → lv_has ls 2 [(0, .ref (ad 0)), (1, .int x1)] → wp_X8_fault post x1 σ → W p l e rm_X8_fault s m args below meth c H locs 0 0 (MQ below (va_Qi post (xAt D cA aE ad A) A) args s 0 0 A) (F0 m 0 ls []) := by
  obtain ⟨hx, hb, hml, hr, hown, hts, hK, hA, hlk, hE, vE⟩ := id C
  intro x1 σ H locs ls hG hl hw
  obtain ⟨hP, hD, hS⟩ := id hG
  refine lv_iload_n hx hb dX8_fault_0 rfl (lv_at hl 1 rfl) ?_
  refine lv_if_ne (tgt := 12) hx hb dX8_fault_1 (by decide) (fun q_ => ?_) (fun q_ => ?_)
  · have hw := hw.2 q_
    refine lv_iload_n hx hb dX8_fault_12 rfl (lv_at hl 1 rfl) ?_
    refine lv_iconst (v := 1) hx hb dX8_fault_13 (by decide) ?_
    refine lv_icmp_ne (tgt := 27) hx hb dX8_fault_14 (by decide) (fun q_ => ?_) (fun q_ => ?_)
    · have hw := hw.2 q_
      refine lv_iconst (v := (-1)) hx hb dX8_fault_27 (by decide) ?_
      exact kB_X8_fault_28 C vM (-1) σ _ _ _ hG (lv_sub hl [] rfl) hw
    · have hw := hw.1 q_
      refine lv_aload_n hx hb dX8_fault_17 rfl (lv_at hl 0 rfl) ?_
      refine va_get (D := D) (ci := 10) (v := .ref (ad 3)) (C := RX8) (T := TX8) (N := 6) hx hb hts (in_tb inX8) hown hK hP 0 rfl rfl 1 (by decide) (hts _ (List.mem_cons_of_mem _ tw_1_225)) (fun _ h9 => h9) rfl dX8_fault_18 ?_
      refine va_get (D := D) (ci := 5) (v := .int (xI σ 3)) (C := RX3) (T := TX3) (N := 8) hx hb hts (in_tb inX3) hown hK hP 3 rfl rfl 7 (by decide) (hts _ (List.mem_cons_of_mem _ tw_1_122)) (fun _ h9 => h9) rfl dX8_fault_21 ?_
      refine lv_goto (tgt := 28) hx hb dX8_fault_24 (by decide) ?_
      exact kB_X8_fault_28 C vM (xI σ 3) σ _ _ _ hG (lv_sub hl [] rfl) hw
  · have hw := hw.1 q_
    refine lv_aload_n hx hb dX8_fault_4 rfl (lv_at hl 0 rfl) ?_
    refine va_get (D := D) (ci := 10) (v := .ref (ad 3)) (C := RX8) (T := TX8) (N := 6) hx hb hts (in_tb inX8) hown hK hP 0 rfl rfl 1 (by decide) (hts _ (List.mem_cons_of_mem _ tw_1_225)) (fun _ h9 => h9) rfl dX8_fault_5 ?_
    refine va_get (D := D) (ci := 5) (v := .int (xI σ 2)) (C := RX3) (T := TX3) (N := 8) hx hb hts (in_tb inX3) hown hK hP 3 rfl rfl 6 (by decide) (hts _ (List.mem_cons_of_mem _ tw_1_120)) (fun _ h9 => h9) rfl dX8_fault_8 ?_
    exact W.iret (v := xI σ 2) hx hb hr (fun t ht hW => ⟨⟨_, σ, rfl, hw, by rw [ht]; exact hP, va_K.moved hW.alike hK, hD⟩, hS.F ht⟩) hS.2.2 dX8_fault_11 hlk
set_option maxHeartbeats 4000000 in
set_option maxRecDepth 100000 in
theorem met_X8_fault {l : Launch} {E : EnvT} (vE : EnvOk E) {D : va_G} {cA : Nat → ClassId} {aE ad : Nat → Nat} {σ : XS} {aK aV : Nat → Nat} {aO : Nat} (vM : eXs aK aV aE aO E) {sz : Nat} {x1 : Int32} {post : Int32 → XS → Prop} (hw : wp_X8_fault post x1 σ) : Met l yX8_fault wgX8_fault rm_X8_fault (va_Pc [.ref (ad 0), .int x1] (xPre E D cA aE ad sz σ)) (va_Qi post (xAt D cA aE ad (va_A (xW cA aE ad σ) sz)) (va_A (xW cA aE ad σ) sz)) 0 0 (va_A (xW cA aE ad σ) sz) := by
  refine Met.ofW (cc := cX8_fault) (maxL := 2) (ret := (some .int)) (by decide +kernel) rfl ?_
  intro p e s m args below meth c s₁ B hml hv
  obtain ⟨rfl, hsz, hP, hK, hD0, hE⟩ := hv
  subst hsz
  have hD := hD0.self (sz := s.heap.size)
  generalize hAe : va_A (xW cA aE ad σ) s.heap.size = A at hD hE ⊢
  have hA : ∀ q : Nat, s.heap.size ≤ q → A q := fun q h => by rw [← hAe]; exact Or.inr h
  have hS : va_S A s.heap s.heap [] := va_S.rf
  have C : xCx p s m _ meth c cX8_fault 2 (some .int) wgX8_fault RX8 E D cA A := ⟨B.exec, B.bytes, hml, B.returns, findClass_of_methodNamed B.named, atoms_spec (ws := wgX8_fault) B.pre, hK, hA, B.notSynchronized, hE, vE⟩
  have hG : xG D cA aE ad A s σ s.heap [] := ⟨hP, hD, hS⟩
  have hl := lv_entry ([.ref (ad 0), .int x1]) (n := 2) (Nat.le_of_ble_eq_true rfl)
  rw [lg_entry_eq]
  generalize (lg_sl ([.ref (ad 0), .int x1]) ++ List.replicate (2 - (lg_sl ([.ref (ad 0), .int x1])).length) Slot.unset).toArray = ls at hl ⊢
  have hl : lv_has ls 2 [(0, .ref (ad 0)), (1, .int x1)] := hl
  exact k_X8_fault C vM x1 σ _ _ _ hG hl hw
/-! ===== X8_set K ===== -/
def rm_X8_set : Room := { frames := 7, cells := 0, slots := 0, locals := 160 }
abbrev wgX8_set : List Cond := .code yX8_set cX8_set 4 (some .boolean) :: TB
def wB_X8_set_21 (post : Int32 → XS → Prop) (σ : XS) : Prop :=
  post 0 σ
def wp_X8_set (post : Int32 → XS → Prop) (x1 : Int32) (x2 : Int64) (σ : XS) : Prop :=
  (x1 < 0 → (wB_X8_set_21 post σ)) ∧ (¬ x1 < 0 → (((xI σ 8) < x1 → (wB_X8_set_21 post σ)) ∧ (¬ (xI σ 8) < x1 → ((x1 < 64 → (wp_X0_put (fun σ_2 => post 1 σ_2) x1 x2 σ)) ∧ (¬ x1 < 64 → (wB_X8_set_21 post σ))))))
set_option maxHeartbeats 4000000 in
set_option maxRecDepth 100000 in
theorem kB_X8_set_21 {p : Program} {l : Launch} {e : Env} {s : State} {m : MethodId} {args : Array Value} {below : List Frame} {meth : Method} {c : Code} {A : Nat → Prop} {E : EnvT} {aK aV : Nat → Nat} {aO : Nat} {D : va_G} {cA : Nat → ClassId} {aE ad : Nat → Nat} (C : xCx p s m args meth c cX8_set 4 (some .boolean) wgX8_set RX8 E D cA A) (vM : eXs aK aV aE aO E) {post : Int32 → XS → Prop} :
    ∀ (σ : XS) (H : Heap) (locs : List Loc) (ls : Array Slot), xG D cA aE ad A s σ H locs → lv_has ls 4 [] → wB_X8_set_21 post σ → W p l e rm_X8_set s m args below meth c H locs 0 0 (MQ below (va_Qi post (xAt D cA aE ad A) A) args s 0 0 A) (F0 m 21 ls []) := by
  obtain ⟨hx, hb, hml, hr, hown, hts, hK, hA, hlk, hE, vE⟩ := id C
  intro σ H locs ls hG hl hw
  obtain ⟨hP, hD, hS⟩ := id hG
  refine lv_iconst (v := 0) hx hb dX8_set_21 (by decide) ?_
  exact W.zret (v := 0) (ty := .boolean) hx hb hr rfl (fun t ht hW => ⟨⟨_, σ, rfl, hw, by rw [ht]; exact hP, va_K.moved hW.alike hK, hD⟩, hS.F ht⟩) hS.2.2 dX8_set_22 hlk
set_option maxHeartbeats 4000000 in
set_option maxRecDepth 100000 in
theorem k_X8_set {p : Program} {l : Launch} {e : Env} {s : State} {m : MethodId} {args : Array Value} {below : List Frame} {meth : Method} {c : Code} {A : Nat → Prop} {E : EnvT} {aK aV : Nat → Nat} {aO : Nat} {D : va_G} {cA : Nat → ClassId} {aE ad : Nat → Nat} (C : xCx p s m args meth c cX8_set 4 (some .boolean) wgX8_set RX8 E D cA A) (vM : eXs aK aV aE aO E) {post : Int32 → XS → Prop} :
    ∀ (x1 : Int32) (x2 : Int64) (σ : XS) (H : Heap) (locs : List Loc) (ls : Array Slot), xG D cA aE ad A s σ H locs → lv_has ls 4 [(0, .ref (ad 0)), (1, .int x1), (2, .long x2)] → wp_X8_set post x1 x2 σ → W p l e rm_X8_set s m args below meth c H locs 0 0 (MQ below (va_Qi post (xAt D cA aE ad A) A) args s 0 0 A) (F0 m 0 ls []) := by
  obtain ⟨hx, hb, hml, hr, hown, hts, hK, hA, hlk, hE, vE⟩ := id C
  intro x1 x2 σ H locs ls hG hl hw
  obtain ⟨hP, hD, hS⟩ := id hG
  refine lv_iload_n hx hb dX8_set_0 rfl (lv_at hl 1 rfl) ?_
  refine lv_if_lt (tgt := 21) hx hb dX8_set_1 (by decide) (fun q_ => ?_) (fun q_ => ?_)
  · have hw := hw.1 q_
    exact kB_X8_set_21 C vM  σ _ _ _ hG (lv_sub hl [] rfl) hw
  · have hw := hw.2 q_
    refine lv_iload_n hx hb dX8_set_4 rfl (lv_at hl 1 rfl) ?_
    refine lv_aload_n hx hb dX8_set_5 rfl (lv_at hl 0 rfl) ?_
    refine va_get (D := D) (ci := 10) (v := .ref (ad 17)) (C := RX8) (T := TX8) (N := 6) hx hb hts (in_tb inX8) hown hK hP 0 rfl rfl 3 (by decide) (hts _ (List.mem_cons_of_mem _ tw_1_227)) (fun _ h9 => h9) rfl dX8_set_6 ?_
    refine va_get (D := D) (ci := 2) (v := .int (xI σ 8)) (C := RX0) (T := TX0) (N := 5) hx hb hts (in_tb inX0) hown hK hP 17 rfl rfl 4 (by decide) (hts _ (List.mem_cons_of_mem _ tw_1_158)) (fun _ h9 => h9) rfl dX8_set_9 ?_
    refine lv_icmp_gt (tgt := 21) hx hb dX8_set_12 (by decide) (fun q_ => ?_) (fun q_ => ?_)
    · have hw := hw.1 q_
      exact kB_X8_set_21 C vM  σ _ _ _ hG (lv_sub hl [] rfl) hw
    · have hw := hw.2 q_
      refine lv_iload_n hx hb dX8_set_15 rfl (lv_at hl 1 rfl) ?_
      refine lv_bipush (v := 64) hx hb dX8_set_16 (by decide) ?_
      refine lv_icmp_lt (tgt := 23) hx hb dX8_set_18 (by decide) (fun q_ => ?_) (fun q_ => ?_)
      · have hw := hw.1 q_
        refine lv_aload_n hx hb dX8_set_23 rfl (lv_at hl 0 rfl) ?_
        refine va_get (D := D) (ci := 10) (v := .ref (ad 17)) (C := RX8) (T := TX8) (N := 6) hx hb hts (in_tb inX8) hown hK hP 0 rfl rfl 3 (by decide) (hts _ (List.mem_cons_of_mem _ tw_1_227)) (fun _ h9 => h9) rfl dX8_set_24 ?_
        refine lv_iload_n hx hb dX8_set_27 rfl (lv_at hl 1 rfl) ?_
        refine lv_lload_n hx hb dX8_set_28 rfl (lv_at hl 2 rfl) ?_
        refine xV_v (As := [.int x1, .long x2]) (rest := []) C (met_X0_put vE vM hw) (va_recv hK hP (ci := 2) (q0 := 17) rfl rfl) (cwV 2 hts (TB_G (TB_4 tw_2_23 tw_2_24 tw_2_25 tw_1_6) tw_2_26) rfl rfl rfl (by decide +kernel) ⟨by decide, by decide⟩) hP hD hS rfl hl.1 rfl (Nat.le_of_ble_eq_true rfl) dX8_set_29 ⟨by decide, by decide⟩ (fun σ_2 H locs hw hP hD hS => ?_)
        have hG : xG D cA aE ad A s σ_2 H locs := ⟨hP, hD, hS⟩
        refine lv_iconst (v := 1) hx hb dX8_set_32 (by decide) ?_
        exact W.zret (v := 1) (ty := .boolean) hx hb hr rfl (fun t ht hW => ⟨⟨_, σ_2, rfl, hw, by rw [ht]; exact hP, va_K.moved hW.alike hK, hD⟩, hS.F ht⟩) hS.2.2 dX8_set_33 hlk
      · have hw := hw.2 q_
        exact kB_X8_set_21 C vM  σ _ _ _ hG (lv_sub hl [] rfl) hw
set_option maxHeartbeats 4000000 in
set_option maxRecDepth 100000 in
theorem met_X8_set {l : Launch} {E : EnvT} (vE : EnvOk E) {D : va_G} {cA : Nat → ClassId} {aE ad : Nat → Nat} {σ : XS} {aK aV : Nat → Nat} {aO : Nat} (vM : eXs aK aV aE aO E) {sz : Nat} {x1 : Int32} {x2 : Int64} {post : Int32 → XS → Prop} (hw : wp_X8_set post x1 x2 σ) : Met l yX8_set wgX8_set rm_X8_set (va_Pc [.ref (ad 0), .int x1, .long x2] (xPre E D cA aE ad sz σ)) (va_Qi post (xAt D cA aE ad (va_A (xW cA aE ad σ) sz)) (va_A (xW cA aE ad σ) sz)) 0 0 (va_A (xW cA aE ad σ) sz) := by
  refine Met.ofW (cc := cX8_set) (maxL := 4) (ret := (some .boolean)) (by decide +kernel) rfl ?_
  intro p e s m args below meth c s₁ B hml hv
  obtain ⟨rfl, hsz, hP, hK, hD0, hE⟩ := hv
  subst hsz
  have hD := hD0.self (sz := s.heap.size)
  generalize hAe : va_A (xW cA aE ad σ) s.heap.size = A at hD hE ⊢
  have hA : ∀ q : Nat, s.heap.size ≤ q → A q := fun q h => by rw [← hAe]; exact Or.inr h
  have hS : va_S A s.heap s.heap [] := va_S.rf
  have C : xCx p s m _ meth c cX8_set 4 (some .boolean) wgX8_set RX8 E D cA A := ⟨B.exec, B.bytes, hml, B.returns, findClass_of_methodNamed B.named, atoms_spec (ws := wgX8_set) B.pre, hK, hA, B.notSynchronized, hE, vE⟩
  have hG : xG D cA aE ad A s σ s.heap [] := ⟨hP, hD, hS⟩
  have hl := lv_entry ([.ref (ad 0), .int x1, .long x2]) (n := 4) (Nat.le_of_ble_eq_true rfl)
  rw [lg_entry_eq]
  generalize (lg_sl ([.ref (ad 0), .int x1, .long x2]) ++ List.replicate (4 - (lg_sl ([.ref (ad 0), .int x1, .long x2])).length) Slot.unset).toArray = ls at hl ⊢
  have hl : lv_has ls 4 [(0, .ref (ad 0)), (1, .int x1), (2, .long x2)] := hl
  exact k_X8_set C vM x1 x2 σ _ _ _ hG hl hw
/-! ===== X8_word K ===== -/
def rm_X8_word : Room := { frames := 7, cells := 1, slots := 6, locals := 120 }
abbrev wgX8_word : List Cond := .code yX8_word cX8_word 2 (some .long) :: TB
def wp_X8_word (post : Int64 → XS → Prop) (postX : XS → Prop) (x1 : Int32) (σ : XS) : Prop :=
  wp_X0_has (fun r_1 σ_2 => (r_1 = 0 → (postX σ_2)) ∧ (¬ r_1 = 0 → (vp_in x1 64 ∧ (post (xL σ_2 6 x1.toNatClampNeg) σ_2)))) x1 σ
set_option maxHeartbeats 4000000 in
set_option maxRecDepth 100000 in
theorem k_X8_word {p : Program} {l : Launch} {e : Env} {s : State} {m : MethodId} {args : Array Value} {below : List Frame} {meth : Method} {c : Code} {A : Nat → Prop} {E : EnvT} {aK aV : Nat → Nat} {aO : Nat} {D : va_G} {cA : Nat → ClassId} {aE ad : Nat → Nat} (C : xCx p s m args meth c cX8_word 2 (some .long) wgX8_word RX8 E D cA A) (vM : eXs aK aV aE aO E) (hst : l.stackTraces = false) (hnt : ∀ x ∈ c.exceptionTable.toList, False) {post : Int64 → XS → Prop} {postX : XS → Prop} :
    ∀ (x1 : Int32) (σ : XS) (H : Heap) (locs : List Loc) (ls : Array Slot), xG D cA aE ad A s σ H locs → lv_has ls 2 [(0, .ref (ad 0)), (1, .int x1)] → wp_X8_word post postX x1 σ → W p l e rm_X8_word s m args below meth c H locs 0 0 (vx_MQ below (va_Ql post (xAt D cA aE ad A) A) (vx_X postX (fun En u t => En = "java/util/NoSuchElementException" ∧ xAt D cA aE ad A u t) A) args s 1 6 A) (F0 m 0 ls []) := by
  obtain ⟨hx, hb, hml, hr, hown, hts, hK, hA, hlk, hE, vE⟩ := id C
  intro x1 σ H locs ls hG hl hw
  obtain ⟨hP, hD, hS⟩ := id hG
  refine lv_aload_n hx hb dX8_word_0 rfl (lv_at hl 0 rfl) ?_
  refine va_get (D := D) (ci := 10) (v := .ref (ad 17)) (C := RX8) (T := TX8) (N := 6) hx hb hts (in_tb inX8) hown hK hP 0 rfl rfl 3 (by decide) (hts _ (List.mem_cons_of_mem _ tw_1_227)) (fun _ h9 => h9) rfl dX8_word_1 ?_
  refine lv_iload_n hx hb dX8_word_4 rfl (lv_at hl 1 rfl) ?_
  refine xV_i (As := [.int x1]) (rest := []) C (met_X0_has vE vM hw) (va_recv hK hP (ci := 2) (q0 := 17) rfl rfl) (cwV 1 hts (TB_G (TB_4 tw_2_197 tw_2_198 tw_2_199 tw_1_6) tw_2_200) rfl rfl rfl (by decide +kernel) ⟨by decide, by decide⟩) hP hD hS rfl hl.1 rfl (Nat.le_of_ble_eq_true rfl) dX8_word_5 ⟨by decide, by decide⟩ (fun r_1 σ_2 H locs hw hP hD hS => ?_)
  have hG : xG D cA aE ad A s σ_2 H locs := ⟨hP, hD, hS⟩
  refine lv_if_ne (tgt := 21) hx hb dX8_word_8 (by decide) (fun q_ => ?_) (fun q_ => ?_)
  · have hw := hw.2 q_
    refine lv_aload_n hx hb dX8_word_21 rfl (lv_at hl 0 rfl) ?_
    refine va_get (D := D) (ci := 10) (v := .ref (ad 17)) (C := RX8) (T := TX8) (N := 6) hx hb hts (in_tb inX8) hown hK hP 0 rfl rfl 3 (by decide) (hts _ (List.mem_cons_of_mem _ tw_1_227)) (fun _ h9 => h9) rfl dX8_word_22 ?_
    refine va_get (D := D) (ci := 2) (v := .ref (ad 18)) (C := RX0) (T := TX0) (N := 5) hx hb hts (in_tb inX0) hown hK hP 17 rfl rfl 0 (by decide) (hts _ (List.mem_cons_of_mem _ tw_1_151)) (fun _ h9 => h9) rfl dX8_word_25 ?_
    refine lv_iload_n hx hb dX8_word_28 rfl (lv_at hl 1 rfl) ?_
    obtain ⟨h_3, hw⟩ := hw
    refine va_lald hx hb hK hP 18 1 rfl rfl h_3 dX8_word_29 ?_
    refine vx_ret ?_
    refine W.widen (k := 1) (n := 6) (by decide) (by decide) ?_
    exact W.lret (v := xL σ_2 6 x1.toNatClampNeg) hx hb hr (fun t ht hW => ⟨⟨_, σ_2, rfl, hw, by rw [ht]; exact hP, va_K.moved hW.alike hK, hD⟩, hS.F ht⟩) hS.2.2 dX8_word_30 hlk
  · have hw := hw.1 q_
    exact vx_throwN (own := RX8) (ik := 106) (is := 108) (ic := 110) (sa := aK 73) hx hb hst hown (hts _ (List.mem_cons_of_mem _ tw_5_79)) (hts _ (List.mem_cons_of_mem _ tw_1_25)) (eX.ms_108 (vM _ _ _ hE)) (atN_110 hts (eX.ngN (vM _ _ _ hE))) gdN_106 (eX.st1 (vM _ _ _ hE)) (eX.st2 (vM _ _ _ hE)) hS (hl.1.trans hml.symm) dX8_word_11 dX8_word_14 dX8_word_15 dX8_word_17 dX8_word_20 (fun x hx9 => (hnt x hx9).elim) (by decide) (Nat.le_of_ble_eq_true rfl) (by decide) (by decide) hlk (fun t hvm hz hk => ⟨σ_2, hw, ⟨rfl, hP.kept (fun k q hq => hk q.1 (hP k q hq).lt), va_K.moved hvm hK, hD⟩, Nat.le_trans hS.1 hz, fun q h1 h2 => (hk q (Nat.lt_of_lt_of_le h1 hS.1)).trans (hS.2.1 q h1 h2)⟩) hS.2.2 (by decide) (by decide)
set_option maxHeartbeats 4000000 in
set_option maxRecDepth 100000 in
theorem met_X8_word {l : Launch} {E : EnvT} (vE : EnvOk E) {D : va_G} {cA : Nat → ClassId} {aE ad : Nat → Nat} {σ : XS} {aK aV : Nat → Nat} {aO : Nat} (vM : eXs aK aV aE aO E) (hst : l.stackTraces = false) {sz : Nat} {x1 : Int32} {post : Int64 → XS → Prop} {postX : XS → Prop} (hw : wp_X8_word post postX x1 σ) : vx_Met l yX8_word wgX8_word rm_X8_word (va_Pc [.ref (ad 0), .int x1] (xPre E D cA aE ad sz σ)) (va_Ql post (xAt D cA aE ad (va_A (xW cA aE ad σ) sz)) (va_A (xW cA aE ad σ) sz)) (vx_X postX (fun En u t => En = "java/util/NoSuchElementException" ∧ xAt D cA aE ad (va_A (xW cA aE ad σ) sz) u t) (va_A (xW cA aE ad σ) sz)) 1 6 (va_A (xW cA aE ad σ) sz) := by
  refine vx_ofW (cc := cX8_word) (maxL := 2) (ret := (some .long)) (by decide +kernel) rfl ?_
  intro p e s m args below meth c s₁ B hml hnt hv
  obtain ⟨rfl, hsz, hP, hK, hD0, hE⟩ := hv
  subst hsz
  have hD := hD0.self (sz := s.heap.size)
  generalize hAe : va_A (xW cA aE ad σ) s.heap.size = A at hD hE ⊢
  have hA : ∀ q : Nat, s.heap.size ≤ q → A q := fun q h => by rw [← hAe]; exact Or.inr h
  have hS : va_S A s.heap s.heap [] := va_S.rf
  have C : xCx p s m _ meth c cX8_word 2 (some .long) wgX8_word RX8 E D cA A := ⟨B.exec, B.bytes, hml, B.returns, findClass_of_methodNamed B.named, atoms_spec (ws := wgX8_word) B.pre, hK, hA, B.notSynchronized, hE, vE⟩
  have hG : xG D cA aE ad A s σ s.heap [] := ⟨hP, hD, hS⟩
  have hl := lv_entry ([.ref (ad 0), .int x1]) (n := 2) (Nat.le_of_ble_eq_true rfl)
  rw [lg_entry_eq]
  generalize (lg_sl ([.ref (ad 0), .int x1]) ++ List.replicate (2 - (lg_sl ([.ref (ad 0), .int x1])).length) Slot.unset).toArray = ls at hl ⊢
  have hl : lv_has ls 2 [(0, .ref (ad 0)), (1, .int x1)] := hl
  exact k_X8_word C vM hst hnt x1 σ _ _ _ hG hl hw
/-! ===== X8_letter K ===== -/
def rm_X8_letter_0 : Room := { frames := 1, cells := 0, slots := 0, locals := 21 }
abbrev wgX8_letter : List Cond := .code yX8_letter cX8_letter 3 (some .int) :: TB
def wp_X8_letter_0 (post : Int32 → XS → Prop) (x1 : Int32) (x2 : Int32) (σ : XS) : Prop :=
  wp_X0_has (fun r_1 σ_2 => (r_1 = 0 → (post (-1) σ_2)) ∧ (¬ r_1 = 0 → (vp_in x1 64 ∧ ((xQ σ_2 1 x1.toNatClampNeg = none → (vp_in x1 64 ∧ (False))) ∧ (∀ e_4 : Nat, xQ σ_2 1 x1.toNatClampNeg = some e_4 → (vp_in x1 64 ∧ (False))))))) x1 σ
set_option maxHeartbeats 4000000 in
set_option maxRecDepth 100000 in
theorem k_X8_letter_0 {p : Program} {l : Launch} {e : Env} {s : State} {m : MethodId} {args : Array Value} {below : List Frame} {meth : Method} {c : Code} {A : Nat → Prop} {E : EnvT} {aK aV : Nat → Nat} {aO : Nat} {D : va_G} {cA : Nat → ClassId} {aE ad : Nat → Nat} (C : xCx p s m args meth c cX8_letter 3 (some .int) wgX8_letter RX8 E D cA A) (vM : eXs aK aV aE aO E) {post : Int32 → XS → Prop} :
    ∀ (x1 : Int32) (x2 : Int32) (σ : XS) (H : Heap) (locs : List Loc) (ls : Array Slot), xG D cA aE ad A s σ H locs → lv_has ls 3 [(0, .ref (ad 0)), (1, .int x1), (2, .int x2)] → wp_X8_letter_0 post x1 x2 σ → W p l e rm_X8_letter_0 s m args below meth c H locs 0 0 (MQ below (va_Qi post (xAt D cA aE ad A) A) args s 0 0 A) (F0 m 0 ls []) := by
  obtain ⟨hx, hb, hml, hr, hown, hts, hK, hA, hlk, hE, vE⟩ := id C
  intro x1 x2 σ H locs ls hG hl hw
  obtain ⟨hP, hD, hS⟩ := id hG
  refine lv_aload_n hx hb dX8_letter_0 rfl (lv_at hl 0 rfl) ?_
  refine va_get (D := D) (ci := 10) (v := .ref (ad 17)) (C := RX8) (T := TX8) (N := 6) hx hb hts (in_tb inX8) hown hK hP 0 rfl rfl 3 (by decide) (hts _ (List.mem_cons_of_mem _ tw_1_227)) (fun _ h9 => h9) rfl dX8_letter_1 ?_
  refine lv_iload_n hx hb dX8_letter_4 rfl (lv_at hl 1 rfl) ?_
  refine xV_i (As := [.int x1]) (rest := []) C (met_X0_has vE vM hw) (va_recv hK hP (ci := 2) (q0 := 17) rfl rfl) (cwV 1 hts (TB_G (TB_4 tw_2_197 tw_2_198 tw_2_199 tw_1_6) tw_2_200) rfl rfl rfl (by decide +kernel) ⟨by decide, by decide⟩) hP hD hS rfl hl.1 rfl (Nat.le_of_ble_eq_true rfl) dX8_letter_5 ⟨by decide, by decide⟩ (fun r_1 σ_2 H locs hw hP hD hS => ?_)
  have hG : xG D cA aE ad A s σ_2 H locs := ⟨hP, hD, hS⟩
  refine lv_if_ne (tgt := 13) hx hb dX8_letter_8 (by decide) (fun q_ => ?_) (fun q_ => ?_)
  · have hw := hw.2 q_
    refine lv_aload_n hx hb dX8_letter_13 rfl (lv_at hl 0 rfl) ?_
    refine va_get (D := D) (ci := 10) (v := .ref (ad 23)) (C := RX8) (T := TX8) (N := 6) hx hb hts (in_tb inX8) hown hK hP 0 rfl rfl 5 (by decide) (hts _ (List.mem_cons_of_mem _ tw_1_229)) (fun _ h9 => h9) rfl dX8_letter_14 ?_
    refine lv_aload_n hx hb dX8_letter_17 rfl (lv_at hl 0 rfl) ?_
    refine va_get (D := D) (ci := 10) (v := .ref (ad 17)) (C := RX8) (T := TX8) (N := 6) hx hb hts (in_tb inX8) hown hK hP 0 rfl rfl 3 (by decide) (hts _ (List.mem_cons_of_mem _ tw_1_227)) (fun _ h9 => h9) rfl dX8_letter_18 ?_
    refine va_get (D := D) (ci := 2) (v := .ref (ad 19)) (C := RX0) (T := TX0) (N := 5) hx hb hts (in_tb inX0) hown hK hP 17 rfl rfl 1 (by decide) (hts _ (List.mem_cons_of_mem _ tw_1_154)) (fun _ h9 => h9) rfl dX8_letter_21 ?_
    refine lv_iload_n hx hb dX8_letter_24 rfl (lv_at hl 1 rfl) ?_
    obtain ⟨h_3, hw⟩ := hw
    refine va_aldq hx hb hK hP 19 3 rfl rfl h_3 dX8_letter_25 ?_
    rcases q_5 : xQ σ_2 1 x1.toNatClampNeg with _ | e_4
    · have hw := hw.1 q_5
      refine q_none rfl ?_
      refine lv_aload_n hx hb dX8_letter_26 rfl (lv_at hl 0 rfl) ?_
      refine va_get (D := D) (ci := 10) (v := .ref (ad 17)) (C := RX8) (T := TX8) (N := 6) hx hb hts (in_tb inX8) hown hK hP 0 rfl rfl 3 (by decide) (hts _ (List.mem_cons_of_mem _ tw_1_227)) (fun _ h9 => h9) rfl dX8_letter_27 ?_
      refine va_get (D := D) (ci := 2) (v := .ref (ad 18)) (C := RX0) (T := TX0) (N := 5) hx hb hts (in_tb inX0) hown hK hP 17 rfl rfl 0 (by decide) (hts _ (List.mem_cons_of_mem _ tw_1_151)) (fun _ h9 => h9) rfl dX8_letter_30 ?_
      refine lv_iload_n hx hb dX8_letter_33 rfl (lv_at hl 1 rfl) ?_
      obtain ⟨h_6, hw⟩ := hw
      refine va_lald hx hb hK hP 18 1 rfl rfl h_6 dX8_letter_34 ?_
      refine lv_iload_n hx hb dX8_letter_35 rfl (lv_at hl 2 rfl) ?_
      exact hw.elim
    · have hw := hw.2 e_4 q_5
      refine q_some rfl ?_
      refine lv_aload_n hx hb dX8_letter_26 rfl (lv_at hl 0 rfl) ?_
      refine va_get (D := D) (ci := 10) (v := .ref (ad 17)) (C := RX8) (T := TX8) (N := 6) hx hb hts (in_tb inX8) hown hK hP 0 rfl rfl 3 (by decide) (hts _ (List.mem_cons_of_mem _ tw_1_227)) (fun _ h9 => h9) rfl dX8_letter_27 ?_
      refine va_get (D := D) (ci := 2) (v := .ref (ad 18)) (C := RX0) (T := TX0) (N := 5) hx hb hts (in_tb inX0) hown hK hP 17 rfl rfl 0 (by decide) (hts _ (List.mem_cons_of_mem _ tw_1_151)) (fun _ h9 => h9) rfl dX8_letter_30 ?_
      refine lv_iload_n hx hb dX8_letter_33 rfl (lv_at hl 1 rfl) ?_
      obtain ⟨h_7, hw⟩ := hw
      refine va_lald hx hb hK hP 18 1 rfl rfl h_7 dX8_letter_34 ?_
      refine lv_iload_n hx hb dX8_letter_35 rfl (lv_at hl 2 rfl) ?_
      exact hw.elim
  · have hw := hw.1 q_
    refine lv_iconst (v := (-1)) hx hb dX8_letter_11 (by decide) ?_
    exact W.iret (v := (-1)) hx hb hr (fun t ht hW => ⟨⟨_, σ_2, rfl, hw, by rw [ht]; exact hP, va_K.moved hW.alike hK, hD⟩, hS.F ht⟩) hS.2.2 dX8_letter_12 hlk
set_option maxHeartbeats 4000000 in
set_option maxRecDepth 100000 in
theorem met_X8_letter_0 {l : Launch} {E : EnvT} (vE : EnvOk E) {D : va_G} {cA : Nat → ClassId} {aE ad : Nat → Nat} {σ : XS} {aK aV : Nat → Nat} {aO : Nat} (vM : eXs aK aV aE aO E) {sz : Nat} {x1 : Int32} {x2 : Int32} {post : Int32 → XS → Prop} (hw : wp_X8_letter_0 post x1 x2 σ) : Met l yX8_letter wgX8_letter rm_X8_letter_0 (va_Pc [.ref (ad 0), .int x1, .int x2] (xPre E D cA aE ad sz σ)) (va_Qi post (xAt D cA aE ad (va_A (xW cA aE ad σ) sz)) (va_A (xW cA aE ad σ) sz)) 0 0 (va_A (xW cA aE ad σ) sz) := by
  refine Met.ofW (cc := cX8_letter) (maxL := 3) (ret := (some .int)) (by decide +kernel) rfl ?_
  intro p e s m args below meth c s₁ B hml hv
  obtain ⟨rfl, hsz, hP, hK, hD0, hE⟩ := hv
  subst hsz
  have hD := hD0.self (sz := s.heap.size)
  generalize hAe : va_A (xW cA aE ad σ) s.heap.size = A at hD hE ⊢
  have hA : ∀ q : Nat, s.heap.size ≤ q → A q := fun q h => by rw [← hAe]; exact Or.inr h
  have hS : va_S A s.heap s.heap [] := va_S.rf
  have C : xCx p s m _ meth c cX8_letter 3 (some .int) wgX8_letter RX8 E D cA A := ⟨B.exec, B.bytes, hml, B.returns, findClass_of_methodNamed B.named, atoms_spec (ws := wgX8_letter) B.pre, hK, hA, B.notSynchronized, hE, vE⟩
  have hG : xG D cA aE ad A s σ s.heap [] := ⟨hP, hD, hS⟩
  have hl := lv_entry ([.ref (ad 0), .int x1, .int x2]) (n := 3) (Nat.le_of_ble_eq_true rfl)
  rw [lg_entry_eq]
  generalize (lg_sl ([.ref (ad 0), .int x1, .int x2]) ++ List.replicate (3 - (lg_sl ([.ref (ad 0), .int x1, .int x2])).length) Slot.unset).toArray = ls at hl ⊢
  have hl : lv_has ls 3 [(0, .ref (ad 0)), (1, .int x1), (2, .int x2)] := hl
  exact k_X8_letter_0 C vM x1 x2 σ _ _ _ hG hl hw
/-! ===== X8_name K ===== -/
def rm_X8_name : Room := { frames := 7, cells := 1, slots := 6, locals := 120 }
abbrev wgX8_name : List Cond := .code yX8_name cX8_name 4 (some .int) :: TB
def wp_X8_name (post : Int32 → XS → Prop) (postX : XS → Prop) (x1 : Int64) (σ : XS) : Prop :=
  wp_X1_find_names (fun r_1 σ_2 => (r_1 = (-1) → (postX σ_2)) ∧ (¬ r_1 = (-1) → (vp_in r_1 350 ∧ (post ((xL σ_2 5 r_1.toNatClampNeg).toInt32) σ_2)))) x1 σ
set_option maxHeartbeats 4000000 in
set_option maxRecDepth 100000 in
theorem k_X8_name {p : Program} {l : Launch} {e : Env} {s : State} {m : MethodId} {args : Array Value} {below : List Frame} {meth : Method} {c : Code} {A : Nat → Prop} {E : EnvT} {aK aV : Nat → Nat} {aO : Nat} {D : va_G} {cA : Nat → ClassId} {aE ad : Nat → Nat} (C : xCx p s m args meth c cX8_name 4 (some .int) wgX8_name RX8 E D cA A) (vM : eXs aK aV aE aO E) (hst : l.stackTraces = false) (hnt : ∀ x ∈ c.exceptionTable.toList, False) {post : Int32 → XS → Prop} {postX : XS → Prop} :
    ∀ (x1 : Int64) (σ : XS) (H : Heap) (locs : List Loc) (ls : Array Slot), xG D cA aE ad A s σ H locs → lv_has ls 4 [(0, .ref (ad 0)), (1, .long x1)] → wp_X8_name post postX x1 σ → W p l e rm_X8_name s m args below meth c H locs 0 0 (vx_MQ below (va_Qi post (xAt D cA aE ad A) A) (vx_X postX (fun En u t => En = "java/util/NoSuchElementException" ∧ xAt D cA aE ad A u t) A) args s 1 6 A) (F0 m 0 ls []) := by
  obtain ⟨hx, hb, hml, hr, hown, hts, hK, hA, hlk, hE, vE⟩ := id C
  intro x1 σ H locs ls hG hl hw
  obtain ⟨hP, hD, hS⟩ := id hG
  refine lv_aload_n hx hb dX8_name_0 rfl (lv_at hl 0 rfl) ?_
  refine va_get (D := D) (ci := 10) (v := .ref (ad 14)) (C := RX8) (T := TX8) (N := 6) hx hb hts (in_tb inX8) hown hK hP 0 rfl rfl 2 (by decide) (hts _ (List.mem_cons_of_mem _ tw_1_226)) (fun _ h9 => h9) rfl dX8_name_1 ?_
  refine lv_lload_n hx hb dX8_name_4 rfl (lv_at hl 1 rfl) ?_
  refine xV_i (As := [.long x1]) (rest := []) C (met_X1_find_names vE vM hw) (va_recv hK hP (ci := 3) (q0 := 14) rfl rfl) (cwV 1 hts (TB_G (TB_4 tw_5_102 tw_4_234 tw_4_235 tw_1_4) tw_4_236) rfl rfl rfl (by decide +kernel) ⟨by decide, by decide⟩) hP hD hS rfl hl.1 rfl (Nat.le_of_ble_eq_true rfl) dX8_name_5 ⟨by decide, by decide⟩ (fun r_1 σ_2 H locs hw hP hD hS => ?_)
  have hG : xG D cA aE ad A s σ_2 H locs := ⟨hP, hD, hS⟩
  refine lv_istore_n (lv' := [(3, .int r_1), (0, .ref (ad 0)), (1, .long x1)]) hx hb dX8_name_8 rfl hl (by decide) rfl (fun ls hl => ?_)
  refine lv_iload_n hx hb dX8_name_9 rfl (lv_at hl 0 rfl) ?_
  refine lv_iconst (v := (-1)) hx hb dX8_name_10 (by decide) ?_
  refine lv_icmp_ne (tgt := 24) hx hb dX8_name_11 (by decide) (fun q_ => ?_) (fun q_ => ?_)
  · have hw := hw.2 q_
    refine lv_aload_n hx hb dX8_name_24 rfl (lv_at hl 1 rfl) ?_
    refine va_get (D := D) (ci := 10) (v := .ref (ad 14)) (C := RX8) (T := TX8) (N := 6) hx hb hts (in_tb inX8) hown hK hP 0 rfl rfl 2 (by decide) (hts _ (List.mem_cons_of_mem _ tw_1_226)) (fun _ h9 => h9) rfl dX8_name_25 ?_
    refine va_get (D := D) (ci := 3) (v := .ref (ad 16)) (C := RX1) (T := TX1) (N := 3) hx hb hts (in_tb inX1) hown hK hP 14 rfl rfl 1 (by decide) (hts _ (List.mem_cons_of_mem _ tw_1_71)) (fun _ h9 => h9) rfl dX8_name_28 ?_
    refine lv_iload_n hx hb dX8_name_31 rfl (lv_at hl 0 rfl) ?_
    obtain ⟨h_3, hw⟩ := hw
    refine va_lald hx hb hK hP 16 1 rfl rfl h_3 dX8_name_32 ?_
    refine lv_l2i hx hb dX8_name_33 rfl ?_
    refine vx_ret ?_
    refine W.widen (k := 1) (n := 6) (by decide) (by decide) ?_
    exact W.iret (v := (xL σ_2 5 r_1.toNatClampNeg).toInt32) hx hb hr (fun t ht hW => ⟨⟨_, σ_2, rfl, hw, by rw [ht]; exact hP, va_K.moved hW.alike hK, hD⟩, hS.F ht⟩) hS.2.2 dX8_name_34 hlk
  · have hw := hw.1 q_
    exact vx_throwN (own := RX8) (ik := 106) (is := 124) (ic := 110) (sa := aK 74) hx hb hst hown (hts _ (List.mem_cons_of_mem _ tw_5_79)) (hts _ (List.mem_cons_of_mem _ tw_1_25)) (eX.ms_124 (vM _ _ _ hE)) (atN_110 hts (eX.ngN (vM _ _ _ hE))) gdN_106 (eX.st1 (vM _ _ _ hE)) (eX.st2 (vM _ _ _ hE)) hS (hl.1.trans hml.symm) dX8_name_14 dX8_name_17 dX8_name_18 dX8_name_20 dX8_name_23 (fun x hx9 => (hnt x hx9).elim) (by decide) (Nat.le_of_ble_eq_true rfl) (by decide) (by decide) hlk (fun t hvm hz hk => ⟨σ_2, hw, ⟨rfl, hP.kept (fun k q hq => hk q.1 (hP k q hq).lt), va_K.moved hvm hK, hD⟩, Nat.le_trans hS.1 hz, fun q h1 h2 => (hk q (Nat.lt_of_lt_of_le h1 hS.1)).trans (hS.2.1 q h1 h2)⟩) hS.2.2 (by decide) (by decide)
set_option maxHeartbeats 4000000 in
set_option maxRecDepth 100000 in
theorem met_X8_name {l : Launch} {E : EnvT} (vE : EnvOk E) {D : va_G} {cA : Nat → ClassId} {aE ad : Nat → Nat} {σ : XS} {aK aV : Nat → Nat} {aO : Nat} (vM : eXs aK aV aE aO E) (hst : l.stackTraces = false) {sz : Nat} {x1 : Int64} {post : Int32 → XS → Prop} {postX : XS → Prop} (hw : wp_X8_name post postX x1 σ) : vx_Met l yX8_name wgX8_name rm_X8_name (va_Pc [.ref (ad 0), .long x1] (xPre E D cA aE ad sz σ)) (va_Qi post (xAt D cA aE ad (va_A (xW cA aE ad σ) sz)) (va_A (xW cA aE ad σ) sz)) (vx_X postX (fun En u t => En = "java/util/NoSuchElementException" ∧ xAt D cA aE ad (va_A (xW cA aE ad σ) sz) u t) (va_A (xW cA aE ad σ) sz)) 1 6 (va_A (xW cA aE ad σ) sz) := by
  refine vx_ofW (cc := cX8_name) (maxL := 4) (ret := (some .int)) (by decide +kernel) rfl ?_
  intro p e s m args below meth c s₁ B hml hnt hv
  obtain ⟨rfl, hsz, hP, hK, hD0, hE⟩ := hv
  subst hsz
  have hD := hD0.self (sz := s.heap.size)
  generalize hAe : va_A (xW cA aE ad σ) s.heap.size = A at hD hE ⊢
  have hA : ∀ q : Nat, s.heap.size ≤ q → A q := fun q h => by rw [← hAe]; exact Or.inr h
  have hS : va_S A s.heap s.heap [] := va_S.rf
  have C : xCx p s m _ meth c cX8_name 4 (some .int) wgX8_name RX8 E D cA A := ⟨B.exec, B.bytes, hml, B.returns, findClass_of_methodNamed B.named, atoms_spec (ws := wgX8_name) B.pre, hK, hA, B.notSynchronized, hE, vE⟩
  have hG : xG D cA aE ad A s σ s.heap [] := ⟨hP, hD, hS⟩
  have hl := lv_entry ([.ref (ad 0), .long x1]) (n := 4) (Nat.le_of_ble_eq_true rfl)
  rw [lg_entry_eq]
  generalize (lg_sl ([.ref (ad 0), .long x1]) ++ List.replicate (4 - (lg_sl ([.ref (ad 0), .long x1])).length) Slot.unset).toArray = ls at hl ⊢
  have hl : lv_has ls 4 [(0, .ref (ad 0)), (1, .long x1)] := hl
  exact k_X8_name C vM hst hnt x1 σ _ _ _ hG hl hw
/-! ===== X8_way K ===== -/
def rm_X8_way : Room := { frames := 3, cells := 0, slots := 0, locals := 64 }
abbrev wgX8_way : List Cond := .code yX8_way cX8_way 3 (some .int) :: TB
def wB_X8_way_30 (post : Int32 → XS → Prop) (t0 : Int32) (σ : XS) : Prop :=
  post t0 σ
def wp_X8_way (post : Int32 → XS → Prop) (x1 : Int32) (x2 : Int32) (σ : XS) : Prop :=
  (x2 = 0 → (wp_X7_first (fun r_3 σ_4 => post r_3 σ_4) x1 σ)) ∧ (¬ x2 = 0 → ((x2 = 1 → (wp_X7_second (fun r_1 σ_2 => wB_X8_way_30 post r_1 σ_2) x1 σ)) ∧ (¬ x2 = 1 → (wB_X8_way_30 post (-1) σ))))
set_option maxHeartbeats 4000000 in
set_option maxRecDepth 100000 in
theorem kB_X8_way_30 {p : Program} {l : Launch} {e : Env} {s : State} {m : MethodId} {args : Array Value} {below : List Frame} {meth : Method} {c : Code} {A : Nat → Prop} {E : EnvT} {aK aV : Nat → Nat} {aO : Nat} {D : va_G} {cA : Nat → ClassId} {aE ad : Nat → Nat} (C : xCx p s m args meth c cX8_way 3 (some .int) wgX8_way RX8 E D cA A) (vM : eXs aK aV aE aO E) {post : Int32 → XS → Prop} :
    ∀ (t0 : Int32) (σ : XS) (H : Heap) (locs : List Loc) (ls : Array Slot), xG D cA aE ad A s σ H locs → lv_has ls 3 [] → wB_X8_way_30 post t0 σ → W p l e rm_X8_way s m args below meth c H locs 0 0 (MQ below (va_Qi post (xAt D cA aE ad A) A) args s 0 0 A) (F0 m 30 ls [.int t0]) := by
  obtain ⟨hx, hb, hml, hr, hown, hts, hK, hA, hlk, hE, vE⟩ := id C
  intro t0 σ H locs ls hG hl hw
  obtain ⟨hP, hD, hS⟩ := id hG
  exact W.iret (v := t0) hx hb hr (fun t ht hW => ⟨⟨_, σ, rfl, hw, by rw [ht]; exact hP, va_K.moved hW.alike hK, hD⟩, hS.F ht⟩) hS.2.2 dX8_way_30 hlk
set_option maxHeartbeats 4000000 in
set_option maxRecDepth 100000 in
theorem k_X8_way {p : Program} {l : Launch} {e : Env} {s : State} {m : MethodId} {args : Array Value} {below : List Frame} {meth : Method} {c : Code} {A : Nat → Prop} {E : EnvT} {aK aV : Nat → Nat} {aO : Nat} {D : va_G} {cA : Nat → ClassId} {aE ad : Nat → Nat} (C : xCx p s m args meth c cX8_way 3 (some .int) wgX8_way RX8 E D cA A) (vM : eXs aK aV aE aO E) {post : Int32 → XS → Prop} :
    ∀ (x1 : Int32) (x2 : Int32) (σ : XS) (H : Heap) (locs : List Loc) (ls : Array Slot), xG D cA aE ad A s σ H locs → lv_has ls 3 [(0, .ref (ad 0)), (1, .int x1), (2, .int x2)] → wp_X8_way post x1 x2 σ → W p l e rm_X8_way s m args below meth c H locs 0 0 (MQ below (va_Qi post (xAt D cA aE ad A) A) args s 0 0 A) (F0 m 0 ls []) := by
  obtain ⟨hx, hb, hml, hr, hown, hts, hK, hA, hlk, hE, vE⟩ := id C
  intro x1 x2 σ H locs ls hG hl hw
  obtain ⟨hP, hD, hS⟩ := id hG
  refine lv_iload_n hx hb dX8_way_0 rfl (lv_at hl 2 rfl) ?_
  refine lv_if_ne (tgt := 13) hx hb dX8_way_1 (by decide) (fun q_ => ?_) (fun q_ => ?_)
  · have hw := hw.2 q_
    refine lv_iload_n hx hb dX8_way_13 rfl (lv_at hl 2 rfl) ?_
    refine lv_iconst (v := 1) hx hb dX8_way_14 (by decide) ?_
    refine lv_icmp_ne (tgt := 29) hx hb dX8_way_15 (by decide) (fun q_ => ?_) (fun q_ => ?_)
    · have hw := hw.2 q_
      refine lv_iconst (v := (-1)) hx hb dX8_way_29 (by decide) ?_
      exact kB_X8_way_30 C vM (-1) σ _ _ _ hG (lv_sub hl [] rfl) hw
    · have hw := hw.1 q_
      refine lv_aload_n hx hb dX8_way_18 rfl (lv_at hl 0 rfl) ?_
      refine va_get (D := D) (ci := 10) (v := .ref (ad 22)) (C := RX8) (T := TX8) (N := 6) hx hb hts (in_tb inX8) hown hK hP 0 rfl rfl 4 (by decide) (hts _ (List.mem_cons_of_mem _ tw_1_228)) (fun _ h9 => h9) rfl dX8_way_19 ?_
      refine lv_iload_n hx hb dX8_way_22 rfl (lv_at hl 1 rfl) ?_
      refine xV_i (As := [.int x1]) (rest := []) C (met_X7_second vE vM hw) (va_recv hK hP (ci := 9) (q0 := 22) rfl rfl) (cwV 1 hts (TB_G (TB_4 tw_4_60 tw_4_61 tw_4_62 tw_1_7) tw_4_63) rfl rfl rfl (by decide +kernel) ⟨by decide, by decide⟩) hP hD hS rfl hl.1 rfl (Nat.le_of_ble_eq_true rfl) dX8_way_23 ⟨by decide, by decide⟩ (fun r_1 σ_2 H locs hw hP hD hS => ?_)
      have hG : xG D cA aE ad A s σ_2 H locs := ⟨hP, hD, hS⟩
      refine lv_goto (tgt := 30) hx hb dX8_way_26 (by decide) ?_
      exact kB_X8_way_30 C vM r_1 σ_2 _ _ _ hG (lv_sub hl [] rfl) hw
  · have hw := hw.1 q_
    refine lv_aload_n hx hb dX8_way_4 rfl (lv_at hl 0 rfl) ?_
    refine va_get (D := D) (ci := 10) (v := .ref (ad 22)) (C := RX8) (T := TX8) (N := 6) hx hb hts (in_tb inX8) hown hK hP 0 rfl rfl 4 (by decide) (hts _ (List.mem_cons_of_mem _ tw_1_228)) (fun _ h9 => h9) rfl dX8_way_5 ?_
    refine lv_iload_n hx hb dX8_way_8 rfl (lv_at hl 1 rfl) ?_
    refine xV_i (As := [.int x1]) (rest := []) C (met_X7_first vE vM hw) (va_recv hK hP (ci := 9) (q0 := 22) rfl rfl) (cwV 1 hts (TB_G (TB_4 tw_4_35 tw_4_36 tw_4_37 tw_1_7) tw_4_38) rfl rfl rfl (by decide +kernel) ⟨by decide, by decide⟩) hP hD hS rfl hl.1 rfl (Nat.le_of_ble_eq_true rfl) dX8_way_9 ⟨by decide, by decide⟩ (fun r_3 σ_4 H locs hw hP hD hS => ?_)
    have hG : xG D cA aE ad A s σ_4 H locs := ⟨hP, hD, hS⟩
    exact W.iret (v := r_3) hx hb hr (fun t ht hW => ⟨⟨_, σ_4, rfl, hw, by rw [ht]; exact hP, va_K.moved hW.alike hK, hD⟩, hS.F ht⟩) hS.2.2 dX8_way_12 hlk
set_option maxHeartbeats 4000000 in
set_option maxRecDepth 100000 in
theorem met_X8_way {l : Launch} {E : EnvT} (vE : EnvOk E) {D : va_G} {cA : Nat → ClassId} {aE ad : Nat → Nat} {σ : XS} {aK aV : Nat → Nat} {aO : Nat} (vM : eXs aK aV aE aO E) {sz : Nat} {x1 : Int32} {x2 : Int32} {post : Int32 → XS → Prop} (hw : wp_X8_way post x1 x2 σ) : Met l yX8_way wgX8_way rm_X8_way (va_Pc [.ref (ad 0), .int x1, .int x2] (xPre E D cA aE ad sz σ)) (va_Qi post (xAt D cA aE ad (va_A (xW cA aE ad σ) sz)) (va_A (xW cA aE ad σ) sz)) 0 0 (va_A (xW cA aE ad σ) sz) := by
  refine Met.ofW (cc := cX8_way) (maxL := 3) (ret := (some .int)) (by decide +kernel) rfl ?_
  intro p e s m args below meth c s₁ B hml hv
  obtain ⟨rfl, hsz, hP, hK, hD0, hE⟩ := hv
  subst hsz
  have hD := hD0.self (sz := s.heap.size)
  generalize hAe : va_A (xW cA aE ad σ) s.heap.size = A at hD hE ⊢
  have hA : ∀ q : Nat, s.heap.size ≤ q → A q := fun q h => by rw [← hAe]; exact Or.inr h
  have hS : va_S A s.heap s.heap [] := va_S.rf
  have C : xCx p s m _ meth c cX8_way 3 (some .int) wgX8_way RX8 E D cA A := ⟨B.exec, B.bytes, hml, B.returns, findClass_of_methodNamed B.named, atoms_spec (ws := wgX8_way) B.pre, hK, hA, B.notSynchronized, hE, vE⟩
  have hG : xG D cA aE ad A s σ s.heap [] := ⟨hP, hD, hS⟩
  have hl := lv_entry ([.ref (ad 0), .int x1, .int x2]) (n := 3) (Nat.le_of_ble_eq_true rfl)
  rw [lg_entry_eq]
  generalize (lg_sl ([.ref (ad 0), .int x1, .int x2]) ++ List.replicate (3 - (lg_sl ([.ref (ad 0), .int x1, .int x2])).length) Slot.unset).toArray = ls at hl ⊢
  have hl : lv_has ls 3 [(0, .ref (ad 0)), (1, .int x1), (2, .int x2)] := hl
  exact k_X8_way C vM x1 x2 σ _ _ _ hG hl hw
/-! ===== X8_reached K ===== -/
def rm_X8_reached : Room := { frames := 5, cells := 0, slots := 0, locals := 117 }
abbrev wgX8_reached : List Cond := .code yX8_reached cX8_reached 2 (some .boolean) :: TB
def wB_X8_reached_26 (post : Int32 → XS → Prop) (t0 : Int32) (σ : XS) : Prop :=
  isB t0 ∧ (post t0 σ)
def wp_X8_reached (post : Int32 → XS → Prop) (x1 : Int32) (σ : XS) : Prop :=
  wp_X7_fromStart (fun r_1 σ_2 => wp_X0_bitOf (fun r_3 σ_4 => ((r_1 &&& r_3) = 0 → (wB_X8_reached_26 post 0 σ_4)) ∧ (¬ (r_1 &&& r_3) = 0 → (wB_X8_reached_26 post 1 σ_4))) x1 σ_2) σ
set_option maxHeartbeats 4000000 in
set_option maxRecDepth 100000 in
theorem kB_X8_reached_26 {p : Program} {l : Launch} {e : Env} {s : State} {m : MethodId} {args : Array Value} {below : List Frame} {meth : Method} {c : Code} {A : Nat → Prop} {E : EnvT} {aK aV : Nat → Nat} {aO : Nat} {D : va_G} {cA : Nat → ClassId} {aE ad : Nat → Nat} (C : xCx p s m args meth c cX8_reached 2 (some .boolean) wgX8_reached RX8 E D cA A) (vM : eXs aK aV aE aO E) {post : Int32 → XS → Prop} :
    ∀ (t0 : Int32) (σ : XS) (H : Heap) (locs : List Loc) (ls : Array Slot), xG D cA aE ad A s σ H locs → lv_has ls 2 [] → wB_X8_reached_26 post t0 σ → W p l e rm_X8_reached s m args below meth c H locs 0 0 (MQ below (va_Qi post (xAt D cA aE ad A) A) args s 0 0 A) (F0 m 26 ls [.int t0]) := by
  obtain ⟨hx, hb, hml, hr, hown, hts, hK, hA, hlk, hE, vE⟩ := id C
  intro t0 σ H locs ls hG hl hw
  obtain ⟨hP, hD, hS⟩ := id hG
  obtain ⟨h_5, hw⟩ := hw
  exact W.zret (v := t0) (ty := .boolean) hx hb hr (isB.n h_5) (fun t ht hW => ⟨⟨_, σ, rfl, hw, by rw [ht]; exact hP, va_K.moved hW.alike hK, hD⟩, hS.F ht⟩) hS.2.2 dX8_reached_26 hlk
set_option maxHeartbeats 4000000 in
set_option maxRecDepth 100000 in
theorem k_X8_reached {p : Program} {l : Launch} {e : Env} {s : State} {m : MethodId} {args : Array Value} {below : List Frame} {meth : Method} {c : Code} {A : Nat → Prop} {E : EnvT} {aK aV : Nat → Nat} {aO : Nat} {D : va_G} {cA : Nat → ClassId} {aE ad : Nat → Nat} (C : xCx p s m args meth c cX8_reached 2 (some .boolean) wgX8_reached RX8 E D cA A) (vM : eXs aK aV aE aO E) {post : Int32 → XS → Prop} :
    ∀ (x1 : Int32) (σ : XS) (H : Heap) (locs : List Loc) (ls : Array Slot), xG D cA aE ad A s σ H locs → lv_has ls 2 [(0, .ref (ad 0)), (1, .int x1)] → wp_X8_reached post x1 σ → W p l e rm_X8_reached s m args below meth c H locs 0 0 (MQ below (va_Qi post (xAt D cA aE ad A) A) args s 0 0 A) (F0 m 0 ls []) := by
  obtain ⟨hx, hb, hml, hr, hown, hts, hK, hA, hlk, hE, vE⟩ := id C
  intro x1 σ H locs ls hG hl hw
  obtain ⟨hP, hD, hS⟩ := id hG
  refine lv_aload_n hx hb dX8_reached_0 rfl (lv_at hl 0 rfl) ?_
  refine va_get (D := D) (ci := 10) (v := .ref (ad 22)) (C := RX8) (T := TX8) (N := 6) hx hb hts (in_tb inX8) hown hK hP 0 rfl rfl 4 (by decide) (hts _ (List.mem_cons_of_mem _ tw_1_228)) (fun _ h9 => h9) rfl dX8_reached_1 ?_
  refine xV_l (As := []) (rest := []) C (met_X7_fromStart vE vM hw) (va_recv hK hP (ci := 9) (q0 := 22) rfl rfl) (cwV 0 hts (TB_G (TB_4 tw_4_68 tw_4_69 tw_4_70 tw_1_7) tw_4_71) rfl rfl rfl (by decide +kernel) ⟨by decide, by decide⟩) hP hD hS rfl hl.1 rfl (Nat.le_of_ble_eq_true rfl) dX8_reached_4 ⟨by decide, by decide⟩ (fun r_1 σ_2 H locs hw hP hD hS => ?_)
  have hG : xG D cA aE ad A s σ_2 H locs := ⟨hP, hD, hS⟩
  refine lv_aload_n hx hb dX8_reached_7 rfl (lv_at hl 0 rfl) ?_
  refine va_get (D := D) (ci := 10) (v := .ref (ad 17)) (C := RX8) (T := TX8) (N := 6) hx hb hts (in_tb inX8) hown hK hP 0 rfl rfl 3 (by decide) (hts _ (List.mem_cons_of_mem _ tw_1_227)) (fun _ h9 => h9) rfl dX8_reached_8 ?_
  refine lv_iload_n hx hb dX8_reached_11 rfl (lv_at hl 1 rfl) ?_
  refine xV_l (As := [.int x1]) (rest := [.long r_1]) C (met_X0_bitOf vE vM hw) (va_recv hK hP (ci := 2) (q0 := 17) rfl rfl) (cwV 1 hts (TB_G (TB_4 tw_4_90 tw_4_77 tw_4_78 tw_1_6) tw_4_79) rfl rfl rfl (by decide +kernel) ⟨by decide, by decide⟩) hP hD hS rfl hl.1 rfl (Nat.le_of_ble_eq_true rfl) dX8_reached_12 ⟨by decide, by decide⟩ (fun r_3 σ_4 H locs hw hP hD hS => ?_)
  have hG : xG D cA aE ad A s σ_4 H locs := ⟨hP, hD, hS⟩
  refine lv_land hx hb dX8_reached_15 ?_
  refine lv_lconst (v := 0) hx hb dX8_reached_16 (by decide) ?_
  refine W.lcmp hx hb dX8_reached_17 ?_
  refine lv_if_eq (tgt := 25) hx hb dX8_reached_18 (by decide) (fun q_ => ?_) (fun q_ => ?_)
  · have hw := hw.1 (lc_eq.mp q_)
    refine lv_iconst (v := 0) hx hb dX8_reached_25 (by decide) ?_
    exact kB_X8_reached_26 C vM 0 σ_4 _ _ _ hG (lv_sub hl [] rfl) hw
  · have hw := hw.2 (fun z => q_ (lc_eq.mpr z))
    refine lv_iconst (v := 1) hx hb dX8_reached_21 (by decide) ?_
    refine lv_goto (tgt := 26) hx hb dX8_reached_22 (by decide) ?_
    exact kB_X8_reached_26 C vM 1 σ_4 _ _ _ hG (lv_sub hl [] rfl) hw
set_option maxHeartbeats 4000000 in
set_option maxRecDepth 100000 in
theorem met_X8_reached {l : Launch} {E : EnvT} (vE : EnvOk E) {D : va_G} {cA : Nat → ClassId} {aE ad : Nat → Nat} {σ : XS} {aK aV : Nat → Nat} {aO : Nat} (vM : eXs aK aV aE aO E) {sz : Nat} {x1 : Int32} {post : Int32 → XS → Prop} (hw : wp_X8_reached post x1 σ) : Met l yX8_reached wgX8_reached rm_X8_reached (va_Pc [.ref (ad 0), .int x1] (xPre E D cA aE ad sz σ)) (va_Qi post (xAt D cA aE ad (va_A (xW cA aE ad σ) sz)) (va_A (xW cA aE ad σ) sz)) 0 0 (va_A (xW cA aE ad σ) sz) := by
  refine Met.ofW (cc := cX8_reached) (maxL := 2) (ret := (some .boolean)) (by decide +kernel) rfl ?_
  intro p e s m args below meth c s₁ B hml hv
  obtain ⟨rfl, hsz, hP, hK, hD0, hE⟩ := hv
  subst hsz
  have hD := hD0.self (sz := s.heap.size)
  generalize hAe : va_A (xW cA aE ad σ) s.heap.size = A at hD hE ⊢
  have hA : ∀ q : Nat, s.heap.size ≤ q → A q := fun q h => by rw [← hAe]; exact Or.inr h
  have hS : va_S A s.heap s.heap [] := va_S.rf
  have C : xCx p s m _ meth c cX8_reached 2 (some .boolean) wgX8_reached RX8 E D cA A := ⟨B.exec, B.bytes, hml, B.returns, findClass_of_methodNamed B.named, atoms_spec (ws := wgX8_reached) B.pre, hK, hA, B.notSynchronized, hE, vE⟩
  have hG : xG D cA aE ad A s σ s.heap [] := ⟨hP, hD, hS⟩
  have hl := lv_entry ([.ref (ad 0), .int x1]) (n := 2) (Nat.le_of_ble_eq_true rfl)
  rw [lg_entry_eq]
  generalize (lg_sl ([.ref (ad 0), .int x1]) ++ List.replicate (2 - (lg_sl ([.ref (ad 0), .int x1])).length) Slot.unset).toArray = ls at hl ⊢
  have hl : lv_has ls 2 [(0, .ref (ad 0)), (1, .int x1)] := hl
  exact k_X8_reached C vM x1 σ _ _ _ hG hl hw
/-! ===== X8_live K ===== -/
def rm_X8_live : Room := { frames := 5, cells := 0, slots := 0, locals := 119 }
abbrev wgX8_live : List Cond := .code yX8_live cX8_live 3 (some .boolean) :: TB
def wB_X8_live_10 (post : Int32 → XS → Prop) (σ : XS) : Prop :=
  post 0 σ
def wp_X8_live (post : Int32 → XS → Prop) (x1 : Int32) (x2 : Int32) (σ : XS) : Prop :=
  (x2 < 0 → (wB_X8_live_10 post σ)) ∧ (¬ x2 < 0 → ((x2 < 20 → (wp_X7_comesToRead (fun r_1 σ_2 => isB r_1 ∧ (post r_1 σ_2)) x1 x2 σ)) ∧ (¬ x2 < 20 → (wB_X8_live_10 post σ))))
set_option maxHeartbeats 4000000 in
set_option maxRecDepth 100000 in
theorem kB_X8_live_10 {p : Program} {l : Launch} {e : Env} {s : State} {m : MethodId} {args : Array Value} {below : List Frame} {meth : Method} {c : Code} {A : Nat → Prop} {E : EnvT} {aK aV : Nat → Nat} {aO : Nat} {D : va_G} {cA : Nat → ClassId} {aE ad : Nat → Nat} (C : xCx p s m args meth c cX8_live 3 (some .boolean) wgX8_live RX8 E D cA A) (vM : eXs aK aV aE aO E) {post : Int32 → XS → Prop} :
    ∀ (σ : XS) (H : Heap) (locs : List Loc) (ls : Array Slot), xG D cA aE ad A s σ H locs → lv_has ls 3 [] → wB_X8_live_10 post σ → W p l e rm_X8_live s m args below meth c H locs 0 0 (MQ below (va_Qi post (xAt D cA aE ad A) A) args s 0 0 A) (F0 m 10 ls []) := by
  obtain ⟨hx, hb, hml, hr, hown, hts, hK, hA, hlk, hE, vE⟩ := id C
  intro σ H locs ls hG hl hw
  obtain ⟨hP, hD, hS⟩ := id hG
  refine lv_iconst (v := 0) hx hb dX8_live_10 (by decide) ?_
  exact W.zret (v := 0) (ty := .boolean) hx hb hr rfl (fun t ht hW => ⟨⟨_, σ, rfl, hw, by rw [ht]; exact hP, va_K.moved hW.alike hK, hD⟩, hS.F ht⟩) hS.2.2 dX8_live_11 hlk
set_option maxHeartbeats 4000000 in
set_option maxRecDepth 100000 in
theorem k_X8_live {p : Program} {l : Launch} {e : Env} {s : State} {m : MethodId} {args : Array Value} {below : List Frame} {meth : Method} {c : Code} {A : Nat → Prop} {E : EnvT} {aK aV : Nat → Nat} {aO : Nat} {D : va_G} {cA : Nat → ClassId} {aE ad : Nat → Nat} (C : xCx p s m args meth c cX8_live 3 (some .boolean) wgX8_live RX8 E D cA A) (vM : eXs aK aV aE aO E) {post : Int32 → XS → Prop} :
    ∀ (x1 : Int32) (x2 : Int32) (σ : XS) (H : Heap) (locs : List Loc) (ls : Array Slot), xG D cA aE ad A s σ H locs → lv_has ls 3 [(0, .ref (ad 0)), (1, .int x1), (2, .int x2)] → wp_X8_live post x1 x2 σ → W p l e rm_X8_live s m args below meth c H locs 0 0 (MQ below (va_Qi post (xAt D cA aE ad A) A) args s 0 0 A) (F0 m 0 ls []) := by
  obtain ⟨hx, hb, hml, hr, hown, hts, hK, hA, hlk, hE, vE⟩ := id C
  intro x1 x2 σ H locs ls hG hl hw
  obtain ⟨hP, hD, hS⟩ := id hG
  refine lv_iload_n hx hb dX8_live_0 rfl (lv_at hl 2 rfl) ?_
  refine lv_if_lt (tgt := 10) hx hb dX8_live_1 (by decide) (fun q_ => ?_) (fun q_ => ?_)
  · have hw := hw.1 q_
    exact kB_X8_live_10 C vM  σ _ _ _ hG (lv_sub hl [] rfl) hw
  · have hw := hw.2 q_
    refine lv_iload_n hx hb dX8_live_4 rfl (lv_at hl 2 rfl) ?_
    refine lv_bipush (v := 20) hx hb dX8_live_5 (by decide) ?_
    refine lv_icmp_lt (tgt := 12) hx hb dX8_live_7 (by decide) (fun q_ => ?_) (fun q_ => ?_)
    · have hw := hw.1 q_
      refine lv_aload_n hx hb dX8_live_12 rfl (lv_at hl 0 rfl) ?_
      refine va_get (D := D) (ci := 10) (v := .ref (ad 22)) (C := RX8) (T := TX8) (N := 6) hx hb hts (in_tb inX8) hown hK hP 0 rfl rfl 4 (by decide) (hts _ (List.mem_cons_of_mem _ tw_1_228)) (fun _ h9 => h9) rfl dX8_live_13 ?_
      refine lv_iload_n hx hb dX8_live_16 rfl (lv_at hl 1 rfl) ?_
      refine lv_iload_n hx hb dX8_live_17 rfl (lv_at hl 2 rfl) ?_
      refine xV_i (As := [.int x1, .int x2]) (rest := []) C (met_X7_comesToRead vE vM hw) (va_recv hK hP (ci := 9) (q0 := 22) rfl rfl) (cwV 2 hts (TB_G (TB_4 tw_4_95 tw_4_96 tw_4_97 tw_1_7) tw_4_98) rfl rfl rfl (by decide +kernel) ⟨by decide, by decide⟩) hP hD hS rfl hl.1 rfl (Nat.le_of_ble_eq_true rfl) dX8_live_18 ⟨by decide, by decide⟩ (fun r_1 σ_2 H locs hw hP hD hS => ?_)
      have hG : xG D cA aE ad A s σ_2 H locs := ⟨hP, hD, hS⟩
      obtain ⟨h_3, hw⟩ := hw
      exact W.zret (v := r_1) (ty := .boolean) hx hb hr (isB.n h_3) (fun t ht hW => ⟨⟨_, σ_2, rfl, hw, by rw [ht]; exact hP, va_K.moved hW.alike hK, hD⟩, hS.F ht⟩) hS.2.2 dX8_live_21 hlk
    · have hw := hw.2 q_
      exact kB_X8_live_10 C vM  σ _ _ _ hG (lv_sub hl [] rfl) hw
set_option maxHeartbeats 4000000 in
set_option maxRecDepth 100000 in
theorem met_X8_live {l : Launch} {E : EnvT} (vE : EnvOk E) {D : va_G} {cA : Nat → ClassId} {aE ad : Nat → Nat} {σ : XS} {aK aV : Nat → Nat} {aO : Nat} (vM : eXs aK aV aE aO E) {sz : Nat} {x1 : Int32} {x2 : Int32} {post : Int32 → XS → Prop} (hw : wp_X8_live post x1 x2 σ) : Met l yX8_live wgX8_live rm_X8_live (va_Pc [.ref (ad 0), .int x1, .int x2] (xPre E D cA aE ad sz σ)) (va_Qi post (xAt D cA aE ad (va_A (xW cA aE ad σ) sz)) (va_A (xW cA aE ad σ) sz)) 0 0 (va_A (xW cA aE ad σ) sz) := by
  refine Met.ofW (cc := cX8_live) (maxL := 3) (ret := (some .boolean)) (by decide +kernel) rfl ?_
  intro p e s m args below meth c s₁ B hml hv
  obtain ⟨rfl, hsz, hP, hK, hD0, hE⟩ := hv
  subst hsz
  have hD := hD0.self (sz := s.heap.size)
  generalize hAe : va_A (xW cA aE ad σ) s.heap.size = A at hD hE ⊢
  have hA : ∀ q : Nat, s.heap.size ≤ q → A q := fun q h => by rw [← hAe]; exact Or.inr h
  have hS : va_S A s.heap s.heap [] := va_S.rf
  have C : xCx p s m _ meth c cX8_live 3 (some .boolean) wgX8_live RX8 E D cA A := ⟨B.exec, B.bytes, hml, B.returns, findClass_of_methodNamed B.named, atoms_spec (ws := wgX8_live) B.pre, hK, hA, B.notSynchronized, hE, vE⟩
  have hG : xG D cA aE ad A s σ s.heap [] := ⟨hP, hD, hS⟩
  have hl := lv_entry ([.ref (ad 0), .int x1, .int x2]) (n := 3) (Nat.le_of_ble_eq_true rfl)
  rw [lg_entry_eq]
  generalize (lg_sl ([.ref (ad 0), .int x1, .int x2]) ++ List.replicate (3 - (lg_sl ([.ref (ad 0), .int x1, .int x2])).length) Slot.unset).toArray = ls at hl ⊢
  have hl : lv_has ls 3 [(0, .ref (ad 0)), (1, .int x1), (2, .int x2)] := hl
  exact k_X8_live C vM x1 x2 σ _ _ _ hG hl hw
/-! ===== X8_meet K ===== -/
def rm_X8_meet : Room := { frames := 7, cells := 0, slots := 0, locals := 162 }
abbrev wgX8_meet : List Cond := .code yX8_meet cX8_meet 2 (some .int) :: TB
def wp_X8_meet (post : Int32 → XS → Prop) (x1 : Int32) (σ : XS) : Prop :=
  wp_X7_meetOf (fun r_1 σ_2 => post r_1 σ_2) x1 σ
set_option maxHeartbeats 4000000 in
set_option maxRecDepth 100000 in
theorem k_X8_meet {p : Program} {l : Launch} {e : Env} {s : State} {m : MethodId} {args : Array Value} {below : List Frame} {meth : Method} {c : Code} {A : Nat → Prop} {E : EnvT} {aK aV : Nat → Nat} {aO : Nat} {D : va_G} {cA : Nat → ClassId} {aE ad : Nat → Nat} (C : xCx p s m args meth c cX8_meet 2 (some .int) wgX8_meet RX8 E D cA A) (vM : eXs aK aV aE aO E) {post : Int32 → XS → Prop} :
    ∀ (x1 : Int32) (σ : XS) (H : Heap) (locs : List Loc) (ls : Array Slot), xG D cA aE ad A s σ H locs → lv_has ls 2 [(0, .ref (ad 0)), (1, .int x1)] → wp_X8_meet post x1 σ → W p l e rm_X8_meet s m args below meth c H locs 0 0 (MQ below (va_Qi post (xAt D cA aE ad A) A) args s 0 0 A) (F0 m 0 ls []) := by
  obtain ⟨hx, hb, hml, hr, hown, hts, hK, hA, hlk, hE, vE⟩ := id C
  intro x1 σ H locs ls hG hl hw
  obtain ⟨hP, hD, hS⟩ := id hG
  refine lv_aload_n hx hb dX8_meet_0 rfl (lv_at hl 0 rfl) ?_
  refine va_get (D := D) (ci := 10) (v := .ref (ad 22)) (C := RX8) (T := TX8) (N := 6) hx hb hts (in_tb inX8) hown hK hP 0 rfl rfl 4 (by decide) (hts _ (List.mem_cons_of_mem _ tw_1_228)) (fun _ h9 => h9) rfl dX8_meet_1 ?_
  refine lv_iload_n hx hb dX8_meet_4 rfl (lv_at hl 1 rfl) ?_
  refine xV_i (As := [.int x1]) (rest := []) C (met_X7_meetOf vE vM hw) (va_recv hK hP (ci := 9) (q0 := 22) rfl rfl) (cwV 1 hts (TB_G (TB_4 tw_4_116 tw_4_117 tw_4_118 tw_1_7) tw_4_119) rfl rfl rfl (by decide +kernel) ⟨by decide, by decide⟩) hP hD hS rfl hl.1 rfl (Nat.le_of_ble_eq_true rfl) dX8_meet_5 ⟨by decide, by decide⟩ (fun r_1 σ_2 H locs hw hP hD hS => ?_)
  have hG : xG D cA aE ad A s σ_2 H locs := ⟨hP, hD, hS⟩
  exact W.iret (v := r_1) hx hb hr (fun t ht hW => ⟨⟨_, σ_2, rfl, hw, by rw [ht]; exact hP, va_K.moved hW.alike hK, hD⟩, hS.F ht⟩) hS.2.2 dX8_meet_8 hlk
set_option maxHeartbeats 4000000 in
set_option maxRecDepth 100000 in
theorem met_X8_meet {l : Launch} {E : EnvT} (vE : EnvOk E) {D : va_G} {cA : Nat → ClassId} {aE ad : Nat → Nat} {σ : XS} {aK aV : Nat → Nat} {aO : Nat} (vM : eXs aK aV aE aO E) {sz : Nat} {x1 : Int32} {post : Int32 → XS → Prop} (hw : wp_X8_meet post x1 σ) : Met l yX8_meet wgX8_meet rm_X8_meet (va_Pc [.ref (ad 0), .int x1] (xPre E D cA aE ad sz σ)) (va_Qi post (xAt D cA aE ad (va_A (xW cA aE ad σ) sz)) (va_A (xW cA aE ad σ) sz)) 0 0 (va_A (xW cA aE ad σ) sz) := by
  refine Met.ofW (cc := cX8_meet) (maxL := 2) (ret := (some .int)) (by decide +kernel) rfl ?_
  intro p e s m args below meth c s₁ B hml hv
  obtain ⟨rfl, hsz, hP, hK, hD0, hE⟩ := hv
  subst hsz
  have hD := hD0.self (sz := s.heap.size)
  generalize hAe : va_A (xW cA aE ad σ) s.heap.size = A at hD hE ⊢
  have hA : ∀ q : Nat, s.heap.size ≤ q → A q := fun q h => by rw [← hAe]; exact Or.inr h
  have hS : va_S A s.heap s.heap [] := va_S.rf
  have C : xCx p s m _ meth c cX8_meet 2 (some .int) wgX8_meet RX8 E D cA A := ⟨B.exec, B.bytes, hml, B.returns, findClass_of_methodNamed B.named, atoms_spec (ws := wgX8_meet) B.pre, hK, hA, B.notSynchronized, hE, vE⟩
  have hG : xG D cA aE ad A s σ s.heap [] := ⟨hP, hD, hS⟩
  have hl := lv_entry ([.ref (ad 0), .int x1]) (n := 2) (Nat.le_of_ble_eq_true rfl)
  rw [lg_entry_eq]
  generalize (lg_sl ([.ref (ad 0), .int x1]) ++ List.replicate (2 - (lg_sl ([.ref (ad 0), .int x1])).length) Slot.unset).toArray = ls at hl ⊢
  have hl : lv_has ls 2 [(0, .ref (ad 0)), (1, .int x1)] := hl
  exact k_X8_meet C vM x1 σ _ _ _ hG hl hw
