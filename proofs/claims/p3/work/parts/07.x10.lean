/-! ===== X3_takePart parser ===== -/
def rm_X3_takePart : Room := { frames := 2, cells := 0, slots := 0, locals := 46 }
abbrev wgX3_takePart : List Cond := .code yX3_takePart cX3_takePart 5 (some .long) :: TB
def wB_X3_takePart_42 (post : Int64 → XS → Prop) (t0 : Int64) (σ : XS) : Prop :=
  post t0 σ
def wB_X3_takePart_12 (post : Int64 → XS → Prop) (σ : XS) : Prop :=
  wp_X6_index (fun r_1 σ_2 => vp_in (xI σ 1) 64 ∧ (wp_X3_passAmount (fun r_4 σ_5 => (r_4 = 0 → (wB_X3_takePart_42 post (-1) σ_5)) ∧ (¬ r_4 = 0 → (wB_X3_takePart_42 post 0 σ_5))) (yA σ_2 3 (xI σ 1).toNatClampNeg r_1))) σ
def wB_X3_takePart_134 (post : Int64 → XS → Prop) (x2 : Int64) (σ : XS) : Prop :=
  post x2 σ
def wB_X3_takePart_119 (post : Int64 → XS → Prop) (x2 : Int64) (σ : XS) : Prop :=
  (x2 = (-1) → (wB_X3_takePart_134 post x2 σ)) ∧ (¬ x2 = (-1) → (wp_X6_advance (fun σ_11 => wB_X3_takePart_134 post x2 σ_11) σ))
def wB_X3_takePart_100 (post : Int64 → XS → Prop) (t0 : Int64) (σ : XS) : Prop :=
  wB_X3_takePart_119 post t0 σ
def wB_X3_takePart_71 (post : Int64 → XS → Prop) (x1 : Int32) (t0 : Int32) (σ : XS) : Prop :=
  wp_X2_mostOf (fun r_14  => wp_X6_numbered (fun r_16 σ_17 => (r_16 = (-1) → (wB_X3_takePart_100 post (-1) σ_17)) ∧ (¬ r_16 = (-1) → (wp_X2_shiftOf (fun r_18  => wB_X3_takePart_100 post ((r_16.toInt64) <<< (r_18.toInt64 &&& 63)) σ_17) x1))) t0 r_14 σ) x1
def wp_X3_takePart (post : Int64 → XS → Prop) (x1 : Int32) (σ : XS) : Prop :=
  (x1 = 110 → (wB_X3_takePart_12 post σ)) ∧ (¬ x1 = 110 → ((x1 = 116 → (wB_X3_takePart_12 post σ)) ∧ (¬ x1 = 116 → (wp_X2_shiftOf (fun r_6  => (r_6 = (-1) → (wp_X6_kind (fun r_8 σ_9 => (r_8 = x1 → (wB_X3_takePart_119 post 0 σ_9)) ∧ (¬ r_8 = x1 → (wB_X3_takePart_119 post (-1) σ_9))) σ)) ∧ (¬ r_6 = (-1) → (wp_X2_isRegister (fun r_12  => (r_12 = 0 → (wB_X3_takePart_71 post x1 112 σ)) ∧ (¬ r_12 = 0 → (wB_X3_takePart_71 post x1 114 σ))) x1))) x1))))
set_option maxHeartbeats 4000000 in
set_option maxRecDepth 100000 in
theorem kB_X3_takePart_42 {p : Program} {l : Launch} {e : Env} {s : State} {m : MethodId} {args : Array Value} {below : List Frame} {meth : Method} {c : Code} {A : Nat → Prop} {E : EnvT} {aK aV : Nat → Nat} {aO : Nat} {D : va_G} {cA : Nat → ClassId} {aE ad : Nat → Nat} (C : xCx p s m args meth c cX3_takePart 5 (some .long) wgX3_takePart RX3 E D cA A) (vM : eXs aK aV aE aO E) {post : Int64 → XS → Prop} :
    ∀ (t0 : Int64) (σ : XS) (H : Heap) (locs : List Loc) (ls : Array Slot), xG D cA aE ad A s σ H locs → lv_has ls 5 [] → wB_X3_takePart_42 post t0 σ → W p l e rm_X3_takePart s m args below meth c H locs 0 0 (MQ below (va_Ql post (xAt D cA aE ad A) A) args s 0 0 A) (F0 m 42 ls [.long t0]) := by
  obtain ⟨hx, hb, hml, hr, hown, hts, hK, hA, hlk, hE, vE⟩ := id C
  intro t0 σ H locs ls hG hl hw
  obtain ⟨hP, hD, hS⟩ := id hG
  exact W.lret (v := t0) hx hb hr (fun t ht hW => ⟨⟨_, σ, rfl, hw, by rw [ht]; exact hP, va_K.moved hW.alike hK, hD⟩, hS.F ht⟩) hS.2.2 dX3_takePart_42 hlk
set_option maxHeartbeats 4000000 in
set_option maxRecDepth 100000 in
theorem kB_X3_takePart_12 {p : Program} {l : Launch} {e : Env} {s : State} {m : MethodId} {args : Array Value} {below : List Frame} {meth : Method} {c : Code} {A : Nat → Prop} {E : EnvT} {aK aV : Nat → Nat} {aO : Nat} {D : va_G} {cA : Nat → ClassId} {aE ad : Nat → Nat} (C : xCx p s m args meth c cX3_takePart 5 (some .long) wgX3_takePart RX3 E D cA A) (vM : eXs aK aV aE aO E) {post : Int64 → XS → Prop} :
    ∀ (σ : XS) (H : Heap) (locs : List Loc) (ls : Array Slot), xG D cA aE ad A s σ H locs → lv_has ls 5 [(0, .ref (ad 3))] → wB_X3_takePart_12 post σ → W p l e rm_X3_takePart s m args below meth c H locs 0 0 (MQ below (va_Ql post (xAt D cA aE ad A) A) args s 0 0 A) (F0 m 12 ls []) := by
  obtain ⟨hx, hb, hml, hr, hown, hts, hK, hA, hlk, hE, vE⟩ := id C
  intro σ H locs ls hG hl hw
  obtain ⟨hP, hD, hS⟩ := id hG
  refine lv_aload_n hx hb dX3_takePart_12 rfl (lv_at hl 0 rfl) ?_
  refine va_get (D := D) (ci := 5) (v := .ref (ad 9)) (C := RX3) (T := TX3) (N := 8) hx hb hts (in_tb inX3) hown hK hP 3 rfl rfl 2 (by decide) (hts _ (List.mem_cons_of_mem _ tw_1_112)) (fun _ h9 => h9) rfl dX3_takePart_13 ?_
  refine lv_aload_n hx hb dX3_takePart_16 rfl (lv_at hl 0 rfl) ?_
  refine va_get (D := D) (ci := 5) (v := .int (xI σ 1)) (C := RX3) (T := TX3) (N := 8) hx hb hts (in_tb inX3) hown hK hP 3 rfl rfl 5 (by decide) (hts _ (List.mem_cons_of_mem _ tw_1_117)) (fun _ h9 => h9) rfl dX3_takePart_17 ?_
  refine lv_aload_n hx hb dX3_takePart_20 rfl (lv_at hl 0 rfl) ?_
  refine va_get (D := D) (ci := 5) (v := .ref (ad 4)) (C := RX3) (T := TX3) (N := 8) hx hb hts (in_tb inX3) hown hK hP 3 rfl rfl 0 (by decide) (hts _ (List.mem_cons_of_mem _ tw_1_110)) (fun _ h9 => h9) rfl dX3_takePart_21 ?_
  refine xV_i (As := []) (rest := [.int (xI σ 1), .ref (ad 9)]) C (met_X6_index vE vM hw) (va_recv hK hP (ci := 8) (q0 := 4) rfl rfl) (cwV 0 hts (TB_G (TB_4 tw_4_209 tw_4_210 tw_4_211 tw_1_5) tw_4_212) rfl rfl rfl (by decide +kernel) ⟨by decide, by decide⟩) hP hD hS rfl hl.1 rfl (Nat.le_of_ble_eq_true rfl) dX3_takePart_24 ⟨by decide, by decide⟩ (fun r_1 σ_2 H locs hw hP hD hS => ?_)
  have hG : xG D cA aE ad A s σ_2 H locs := ⟨hP, hD, hS⟩
  obtain ⟨h_3, hw⟩ := hw
  refine va_iast hx hb hK hP hD hS 9 0 rfl rfl h_3 dX3_takePart_27 (fun H locs hP hD hS => ?_)
  have hG : xG D cA aE ad A s (yA σ_2 3 (xI σ 1).toNatClampNeg r_1) H locs := ⟨hP, hD, hS⟩
  obtain ⟨hP, hD, hS⟩ := id hG
  refine lv_aload_n hx hb dX3_takePart_28 rfl (lv_at hl 0 rfl) ?_
  refine xV_i (As := []) (rest := []) C (met_X3_passAmount vE vM hw) (va_recv hK hP (ci := 5) (q0 := 3) rfl rfl) (cwV 0 hts (TB_G (TB_4 tw_4_213 tw_4_215 ts_15 tw_1_3) tw_4_216) rfl rfl rfl (by decide +kernel) ⟨by decide, by decide⟩) hP hD hS rfl hl.1 rfl (Nat.le_of_ble_eq_true rfl) dX3_takePart_29 ⟨by decide, by decide⟩ (fun r_4 σ_5 H locs hw hP hD hS => ?_)
  have hG : xG D cA aE ad A s σ_5 H locs := ⟨hP, hD, hS⟩
  refine lv_if_eq (tgt := 39) hx hb dX3_takePart_32 (by decide) (fun q_ => ?_) (fun q_ => ?_)
  · have hw := hw.1 q_
    refine lv_ldc2 (v := (-1)) hx hb hown (hts _ (List.mem_cons_of_mem _ tw_5_47)) dX3_takePart_39 ?_
    exact kB_X3_takePart_42 C vM (-1) σ_5 _ _ _ hG (lv_sub hl [] rfl) hw
  · have hw := hw.2 q_
    refine lv_lconst (v := 0) hx hb dX3_takePart_35 (by decide) ?_
    refine lv_goto (tgt := 42) hx hb dX3_takePart_36 (by decide) ?_
    exact kB_X3_takePart_42 C vM 0 σ_5 _ _ _ hG (lv_sub hl [] rfl) hw
set_option maxHeartbeats 4000000 in
set_option maxRecDepth 100000 in
theorem kB_X3_takePart_134 {p : Program} {l : Launch} {e : Env} {s : State} {m : MethodId} {args : Array Value} {below : List Frame} {meth : Method} {c : Code} {A : Nat → Prop} {E : EnvT} {aK aV : Nat → Nat} {aO : Nat} {D : va_G} {cA : Nat → ClassId} {aE ad : Nat → Nat} (C : xCx p s m args meth c cX3_takePart 5 (some .long) wgX3_takePart RX3 E D cA A) (vM : eXs aK aV aE aO E) {post : Int64 → XS → Prop} :
    ∀ (x2 : Int64) (σ : XS) (H : Heap) (locs : List Loc) (ls : Array Slot), xG D cA aE ad A s σ H locs → lv_has ls 5 [(2, .long x2)] → wB_X3_takePart_134 post x2 σ → W p l e rm_X3_takePart s m args below meth c H locs 0 0 (MQ below (va_Ql post (xAt D cA aE ad A) A) args s 0 0 A) (F0 m 134 ls []) := by
  obtain ⟨hx, hb, hml, hr, hown, hts, hK, hA, hlk, hE, vE⟩ := id C
  intro x2 σ H locs ls hG hl hw
  obtain ⟨hP, hD, hS⟩ := id hG
  refine lv_lload_n hx hb dX3_takePart_134 rfl (lv_at hl 0 rfl) ?_
  exact W.lret (v := x2) hx hb hr (fun t ht hW => ⟨⟨_, σ, rfl, hw, by rw [ht]; exact hP, va_K.moved hW.alike hK, hD⟩, hS.F ht⟩) hS.2.2 dX3_takePart_135 hlk
set_option maxHeartbeats 4000000 in
set_option maxRecDepth 100000 in
theorem kB_X3_takePart_119 {p : Program} {l : Launch} {e : Env} {s : State} {m : MethodId} {args : Array Value} {below : List Frame} {meth : Method} {c : Code} {A : Nat → Prop} {E : EnvT} {aK aV : Nat → Nat} {aO : Nat} {D : va_G} {cA : Nat → ClassId} {aE ad : Nat → Nat} (C : xCx p s m args meth c cX3_takePart 5 (some .long) wgX3_takePart RX3 E D cA A) (vM : eXs aK aV aE aO E) {post : Int64 → XS → Prop} :
    ∀ (x2 : Int64) (σ : XS) (H : Heap) (locs : List Loc) (ls : Array Slot), xG D cA aE ad A s σ H locs → lv_has ls 5 [(0, .ref (ad 3)), (2, .long x2)] → wB_X3_takePart_119 post x2 σ → W p l e rm_X3_takePart s m args below meth c H locs 0 0 (MQ below (va_Ql post (xAt D cA aE ad A) A) args s 0 0 A) (F0 m 119 ls []) := by
  obtain ⟨hx, hb, hml, hr, hown, hts, hK, hA, hlk, hE, vE⟩ := id C
  intro x2 σ H locs ls hG hl hw
  obtain ⟨hP, hD, hS⟩ := id hG
  refine lv_lload_n hx hb dX3_takePart_119 rfl (lv_at hl 1 rfl) ?_
  refine lv_ldc2 (v := (-1)) hx hb hown (hts _ (List.mem_cons_of_mem _ tw_5_47)) dX3_takePart_120 ?_
  refine W.lcmp hx hb dX3_takePart_123 ?_
  refine lv_if_eq (tgt := 134) hx hb dX3_takePart_124 (by decide) (fun q_ => ?_) (fun q_ => ?_)
  · have hw := hw.1 (lc_eq.mp q_)
    exact kB_X3_takePart_134 C vM x2 σ _ _ _ hG (lv_sub hl [1] rfl) hw
  · have hw := hw.2 (fun z => q_ (lc_eq.mpr z))
    refine lv_aload_n hx hb dX3_takePart_127 rfl (lv_at hl 0 rfl) ?_
    refine va_get (D := D) (ci := 5) (v := .ref (ad 4)) (C := RX3) (T := TX3) (N := 8) hx hb hts (in_tb inX3) hown hK hP 3 rfl rfl 0 (by decide) (hts _ (List.mem_cons_of_mem _ tw_1_110)) (fun _ h9 => h9) rfl dX3_takePart_128 ?_
    refine xV_v (As := []) (rest := []) C (met_X6_advance vE vM hw) (va_recv hK hP (ci := 8) (q0 := 4) rfl rfl) (cwV 0 hts (TB_G (TB_4 tw_4_205 tw_4_206 tw_4_207 tw_1_5) tw_4_208) rfl rfl rfl (by decide +kernel) ⟨by decide, by decide⟩) hP hD hS rfl hl.1 rfl (Nat.le_of_ble_eq_true rfl) dX3_takePart_131 ⟨by decide, by decide⟩ (fun σ_11 H locs hw hP hD hS => ?_)
    have hG : xG D cA aE ad A s σ_11 H locs := ⟨hP, hD, hS⟩
    exact kB_X3_takePart_134 C vM x2 σ_11 _ _ _ hG (lv_sub hl [1] rfl) hw
set_option maxHeartbeats 4000000 in
set_option maxRecDepth 100000 in
theorem kB_X3_takePart_100 {p : Program} {l : Launch} {e : Env} {s : State} {m : MethodId} {args : Array Value} {below : List Frame} {meth : Method} {c : Code} {A : Nat → Prop} {E : EnvT} {aK aV : Nat → Nat} {aO : Nat} {D : va_G} {cA : Nat → ClassId} {aE ad : Nat → Nat} (C : xCx p s m args meth c cX3_takePart 5 (some .long) wgX3_takePart RX3 E D cA A) (vM : eXs aK aV aE aO E) {post : Int64 → XS → Prop} :
    ∀ (t0 : Int64) (σ : XS) (H : Heap) (locs : List Loc) (ls : Array Slot), xG D cA aE ad A s σ H locs → lv_has ls 5 [(0, .ref (ad 3))] → wB_X3_takePart_100 post t0 σ → W p l e rm_X3_takePart s m args below meth c H locs 0 0 (MQ below (va_Ql post (xAt D cA aE ad A) A) args s 0 0 A) (F0 m 100 ls [.long t0]) := by
  obtain ⟨hx, hb, hml, hr, hown, hts, hK, hA, hlk, hE, vE⟩ := id C
  intro t0 σ H locs ls hG hl hw
  obtain ⟨hP, hD, hS⟩ := id hG
  refine lv_lstore_n (lv' := [(2, .long t0), (0, .ref (ad 3))]) hx hb dX3_takePart_100 rfl hl (by decide) rfl (fun ls hl => ?_)
  refine lv_goto (tgt := 119) hx hb dX3_takePart_101 (by decide) ?_
  exact kB_X3_takePart_119 C vM t0 σ _ _ _ hG (lv_sub hl [1, 0] rfl) hw
set_option maxHeartbeats 4000000 in
set_option maxRecDepth 100000 in
theorem kB_X3_takePart_71 {p : Program} {l : Launch} {e : Env} {s : State} {m : MethodId} {args : Array Value} {below : List Frame} {meth : Method} {c : Code} {A : Nat → Prop} {E : EnvT} {aK aV : Nat → Nat} {aO : Nat} {D : va_G} {cA : Nat → ClassId} {aE ad : Nat → Nat} (C : xCx p s m args meth c cX3_takePart 5 (some .long) wgX3_takePart RX3 E D cA A) (vM : eXs aK aV aE aO E) {post : Int64 → XS → Prop} :
    ∀ (x1 : Int32) (t0 : Int32) (σ : XS) (H : Heap) (locs : List Loc) (ls : Array Slot), xG D cA aE ad A s σ H locs → lv_has ls 5 [(0, .ref (ad 3)), (1, .int x1)] → wB_X3_takePart_71 post x1 t0 σ → W p l e rm_X3_takePart s m args below meth c H locs 0 0 (MQ below (va_Ql post (xAt D cA aE ad A) A) args s 0 0 A) (F0 m 71 ls [.int t0, .ref (ad 4)]) := by
  obtain ⟨hx, hb, hml, hr, hown, hts, hK, hA, hlk, hE, vE⟩ := id C
  intro x1 t0 σ H locs ls hG hl hw
  obtain ⟨hP, hD, hS⟩ := id hG
  refine lv_iload_n hx hb dX3_takePart_71 rfl (lv_at hl 1 rfl) ?_
  refine xS_i (As := [.int x1]) (rest := [.int t0, .ref (ad 4)]) C (met_X2_mostOf vE vM hw) (va_cwS 1 hts (TB_G (TB_3 tw_5_3 tw_2_105 tw_1_19) tw_2_106) rfl rfl rfl (by decide +kernel) ⟨by decide, by decide⟩) hP hD hS rfl hl.1 rfl (Nat.le_of_ble_eq_true rfl) dX3_takePart_72 ⟨by decide, by decide⟩ (fun r_14 H locs hw hP hS => ?_)
  have hG : xG D cA aE ad A s σ H locs := ⟨hP, hD, hS⟩
  refine xV_i (As := [.int t0, .int r_14]) (rest := []) C (met_X6_numbered vE vM hw) (va_recv hK hP (ci := 8) (q0 := 4) rfl rfl) (cwV 2 hts (TB_G (TB_4 tw_5_21 tw_5_22 tw_5_23 tw_1_5) tw_5_24) rfl rfl rfl (by decide +kernel) ⟨by decide, by decide⟩) hP hD hS rfl hl.1 rfl (Nat.le_of_ble_eq_true rfl) dX3_takePart_75 ⟨by decide, by decide⟩ (fun r_16 σ_17 H locs hw hP hD hS => ?_)
  have hG : xG D cA aE ad A s σ_17 H locs := ⟨hP, hD, hS⟩
  refine lv_istore (lv' := [(4, .int r_16), (0, .ref (ad 3)), (1, .int x1)]) hx hb dX3_takePart_78 hl (by decide) rfl (fun ls hl => ?_)
  refine lv_iload hx hb dX3_takePart_80 (lv_at hl 0 rfl) ?_
  refine lv_iconst (v := (-1)) hx hb dX3_takePart_82 (by decide) ?_
  refine lv_icmp_ne (tgt := 92) hx hb dX3_takePart_83 (by decide) (fun q_ => ?_) (fun q_ => ?_)
  · have hw := hw.2 q_
    refine lv_iload hx hb dX3_takePart_92 (lv_at hl 0 rfl) ?_
    refine lv_i2l hx hb dX3_takePart_94 rfl ?_
    refine lv_iload_n hx hb dX3_takePart_95 rfl (lv_at hl 2 rfl) ?_
    refine xS_i (As := [.int x1]) (rest := [.long (r_16.toInt64)]) C (met_X2_shiftOf vE vM hw) (va_cwS 1 hts (TB_G (TB_3 tw_5_48 tw_2_95 tw_1_19) tw_2_96) rfl rfl rfl (by decide +kernel) ⟨by decide, by decide⟩) hP hD hS rfl hl.1 rfl (Nat.le_of_ble_eq_true rfl) dX3_takePart_96 ⟨by decide, by decide⟩ (fun r_18 H locs hw hP hS => ?_)
    have hG : xG D cA aE ad A s σ_17 H locs := ⟨hP, hD, hS⟩
    refine lv_lshl hx hb dX3_takePart_99 rfl ?_
    exact kB_X3_takePart_100 C vM ((r_16.toInt64) <<< (r_18.toInt64 &&& 63)) σ_17 _ _ _ hG (lv_sub hl [1] rfl) hw
  · have hw := hw.1 q_
    refine lv_ldc2 (v := (-1)) hx hb hown (hts _ (List.mem_cons_of_mem _ tw_5_47)) dX3_takePart_86 ?_
    refine lv_goto (tgt := 100) hx hb dX3_takePart_89 (by decide) ?_
    exact kB_X3_takePart_100 C vM (-1) σ_17 _ _ _ hG (lv_sub hl [1] rfl) hw
set_option maxHeartbeats 4000000 in
set_option maxRecDepth 100000 in
theorem k_X3_takePart {p : Program} {l : Launch} {e : Env} {s : State} {m : MethodId} {args : Array Value} {below : List Frame} {meth : Method} {c : Code} {A : Nat → Prop} {E : EnvT} {aK aV : Nat → Nat} {aO : Nat} {D : va_G} {cA : Nat → ClassId} {aE ad : Nat → Nat} (C : xCx p s m args meth c cX3_takePart 5 (some .long) wgX3_takePart RX3 E D cA A) (vM : eXs aK aV aE aO E) {post : Int64 → XS → Prop} :
    ∀ (x1 : Int32) (σ : XS) (H : Heap) (locs : List Loc) (ls : Array Slot), xG D cA aE ad A s σ H locs → lv_has ls 5 [(0, .ref (ad 3)), (1, .int x1)] → wp_X3_takePart post x1 σ → W p l e rm_X3_takePart s m args below meth c H locs 0 0 (MQ below (va_Ql post (xAt D cA aE ad A) A) args s 0 0 A) (F0 m 0 ls []) := by
  obtain ⟨hx, hb, hml, hr, hown, hts, hK, hA, hlk, hE, vE⟩ := id C
  intro x1 σ H locs ls hG hl hw
  obtain ⟨hP, hD, hS⟩ := id hG
  refine lv_iload_n hx hb dX3_takePart_0 rfl (lv_at hl 1 rfl) ?_
  refine lv_bipush (v := 110) hx hb dX3_takePart_1 (by decide) ?_
  refine lv_icmp_eq (tgt := 12) hx hb dX3_takePart_3 (by decide) (fun q_ => ?_) (fun q_ => ?_)
  · have hw := hw.1 q_
    exact kB_X3_takePart_12 C vM  σ _ _ _ hG (lv_sub hl [0] rfl) hw
  · have hw := hw.2 q_
    refine lv_iload_n hx hb dX3_takePart_6 rfl (lv_at hl 1 rfl) ?_
    refine lv_bipush (v := 116) hx hb dX3_takePart_7 (by decide) ?_
    refine lv_icmp_ne (tgt := 43) hx hb dX3_takePart_9 (by decide) (fun q_ => ?_) (fun q_ => ?_)
    · have hw := hw.2 q_
      refine lv_lconst (v := 0) hx hb dX3_takePart_43 (by decide) ?_
      refine lv_lstore_n (lv' := [(2, .long 0), (0, .ref (ad 3)), (1, .int x1)]) hx hb dX3_takePart_44 rfl hl (by decide) rfl (fun ls hl => ?_)
      refine lv_iload_n hx hb dX3_takePart_45 rfl (lv_at hl 2 rfl) ?_
      refine xS_i (As := [.int x1]) (rest := []) C (met_X2_shiftOf vE vM hw) (va_cwS 1 hts (TB_G (TB_3 tw_5_48 tw_2_95 tw_1_19) tw_2_96) rfl rfl rfl (by decide +kernel) ⟨by decide, by decide⟩) hP hD hS rfl hl.1 rfl (Nat.le_of_ble_eq_true rfl) dX3_takePart_46 ⟨by decide, by decide⟩ (fun r_6 H locs hw hP hS => ?_)
      have hG : xG D cA aE ad A s σ H locs := ⟨hP, hD, hS⟩
      refine lv_iconst (v := (-1)) hx hb dX3_takePart_49 (by decide) ?_
      refine lv_icmp_eq (tgt := 104) hx hb dX3_takePart_50 (by decide) (fun q_ => ?_) (fun q_ => ?_)
      · have hw := hw.1 q_
        refine lv_aload_n hx hb dX3_takePart_104 rfl (lv_at hl 1 rfl) ?_
        refine va_get (D := D) (ci := 5) (v := .ref (ad 4)) (C := RX3) (T := TX3) (N := 8) hx hb hts (in_tb inX3) hown hK hP 3 rfl rfl 0 (by decide) (hts _ (List.mem_cons_of_mem _ tw_1_110)) (fun _ h9 => h9) rfl dX3_takePart_105 ?_
        refine xV_i (As := []) (rest := []) C (met_X6_kind vE vM hw) (va_recv hK hP (ci := 8) (q0 := 4) rfl rfl) (cwV 0 hts (TB_G (TB_4 tw_4_181 tw_4_182 tw_4_183 tw_1_5) tw_4_184) rfl rfl rfl (by decide +kernel) ⟨by decide, by decide⟩) hP hD hS rfl hl.1 rfl (Nat.le_of_ble_eq_true rfl) dX3_takePart_108 ⟨by decide, by decide⟩ (fun r_8 σ_9 H locs hw hP hD hS => ?_)
        have hG : xG D cA aE ad A s σ_9 H locs := ⟨hP, hD, hS⟩
        refine lv_iload_n hx hb dX3_takePart_111 rfl (lv_at hl 2 rfl) ?_
        refine lv_icmp_eq (tgt := 119) hx hb dX3_takePart_112 (by decide) (fun q_ => ?_) (fun q_ => ?_)
        · have hw := hw.1 q_
          exact kB_X3_takePart_119 C vM 0 σ_9 _ _ _ hG (lv_sub hl [1, 0] rfl) hw
        · have hw := hw.2 q_
          refine lv_ldc2 (v := (-1)) hx hb hown (hts _ (List.mem_cons_of_mem _ tw_5_47)) dX3_takePart_115 ?_
          refine lv_lstore_n (lv' := [(2, .long (-1)), (0, .ref (ad 3)), (1, .int x1)]) hx hb dX3_takePart_118 rfl hl (by decide) rfl (fun ls hl => ?_)
          exact kB_X3_takePart_119 C vM (-1) σ_9 _ _ _ hG (lv_sub hl [1, 0] rfl) hw
      · have hw := hw.2 q_
        refine lv_aload_n hx hb dX3_takePart_53 rfl (lv_at hl 1 rfl) ?_
        refine va_get (D := D) (ci := 5) (v := .ref (ad 4)) (C := RX3) (T := TX3) (N := 8) hx hb hts (in_tb inX3) hown hK hP 3 rfl rfl 0 (by decide) (hts _ (List.mem_cons_of_mem _ tw_1_110)) (fun _ h9 => h9) rfl dX3_takePart_54 ?_
        refine lv_iload_n hx hb dX3_takePart_57 rfl (lv_at hl 2 rfl) ?_
        refine xS_i (As := [.int x1]) (rest := [.ref (ad 4)]) C (met_X2_isRegister vE vM hw) (va_cwS 1 hts (TB_G (TB_3 tw_5_49 tw_2_108 tw_1_19) tw_2_109) rfl rfl rfl (by decide +kernel) ⟨by decide, by decide⟩) hP hD hS rfl hl.1 rfl (Nat.le_of_ble_eq_true rfl) dX3_takePart_58 ⟨by decide, by decide⟩ (fun r_12 H locs hw hP hS => ?_)
        have hG : xG D cA aE ad A s σ H locs := ⟨hP, hD, hS⟩
        refine lv_if_eq (tgt := 69) hx hb dX3_takePart_61 (by decide) (fun q_ => ?_) (fun q_ => ?_)
        · have hw := hw.1 q_
          refine lv_bipush (v := 112) hx hb dX3_takePart_69 (by decide) ?_
          exact kB_X3_takePart_71 C vM x1 112 σ _ _ _ hG (lv_sub hl [1, 2] rfl) hw
        · have hw := hw.2 q_
          refine lv_bipush (v := 114) hx hb dX3_takePart_64 (by decide) ?_
          refine lv_goto (tgt := 71) hx hb dX3_takePart_66 (by decide) ?_
          exact kB_X3_takePart_71 C vM x1 114 σ _ _ _ hG (lv_sub hl [1, 2] rfl) hw
    · have hw := hw.1 q_
      exact kB_X3_takePart_12 C vM  σ _ _ _ hG (lv_sub hl [0] rfl) hw
set_option maxHeartbeats 4000000 in
set_option maxRecDepth 100000 in
theorem met_X3_takePart {l : Launch} {E : EnvT} (vE : EnvOk E) {D : va_G} {cA : Nat → ClassId} {aE ad : Nat → Nat} {σ : XS} {aK aV : Nat → Nat} {aO : Nat} (vM : eXs aK aV aE aO E) {sz : Nat} {x1 : Int32} {post : Int64 → XS → Prop} (hw : wp_X3_takePart post x1 σ) : Met l yX3_takePart wgX3_takePart rm_X3_takePart (va_Pc [.ref (ad 3), .int x1] (xPre E D cA aE ad sz σ)) (va_Ql post (xAt D cA aE ad (va_A (xW cA aE ad σ) sz)) (va_A (xW cA aE ad σ) sz)) 0 0 (va_A (xW cA aE ad σ) sz) := by
  refine Met.ofW (cc := cX3_takePart) (maxL := 5) (ret := (some .long)) (by decide +kernel) rfl ?_
  intro p e s m args below meth c s₁ B hml hv
  obtain ⟨rfl, hsz, hP, hK, hD0, hE⟩ := hv
  subst hsz
  have hD := hD0.self (sz := s.heap.size)
  generalize hAe : va_A (xW cA aE ad σ) s.heap.size = A at hD hE ⊢
  have hA : ∀ q : Nat, s.heap.size ≤ q → A q := fun q h => by rw [← hAe]; exact Or.inr h
  have hS : va_S A s.heap s.heap [] := va_S.rf
  have C : xCx p s m _ meth c cX3_takePart 5 (some .long) wgX3_takePart RX3 E D cA A := ⟨B.exec, B.bytes, hml, B.returns, findClass_of_methodNamed B.named, atoms_spec (ws := wgX3_takePart) B.pre, hK, hA, B.notSynchronized, hE, vE⟩
  have hG : xG D cA aE ad A s σ s.heap [] := ⟨hP, hD, hS⟩
  have hl := lv_entry ([.ref (ad 3), .int x1]) (n := 5) (Nat.le_of_ble_eq_true rfl)
  rw [lg_entry_eq]
  generalize (lg_sl ([.ref (ad 3), .int x1]) ++ List.replicate (5 - (lg_sl ([.ref (ad 3), .int x1])).length) Slot.unset).toArray = ls at hl ⊢
  have hl : lv_has ls 5 [(0, .ref (ad 3)), (1, .int x1)] := hl
  exact k_X3_takePart C vM x1 σ _ _ _ hG hl hw
/-! ===== X3_takeWord parser ===== -/
def rm_X3_takeWord : Room := { frames := 4, cells := 0, slots := 0, locals := 85 }
abbrev wgX3_takeWord : List Cond := .code yX3_takeWord cX3_takeWord 8 (some .boolean) :: TB
def wB_X3_takeWord_91 (post : Int32 → XS → Prop) (k91 : Option Nat → Int64 → Int32 → XS → Prop) (o2 : Option Nat) (x3 : Int64) (x5 : Int32) (σ : XS) : Prop :=
  (o2 = none → (False)) ∧ (∀ e_13 : Nat, o2 = some e_13 → (e_13 < 53 ∧ ((pxI e_13) < nX ∧ wp_J0_length_8abf5 (fun r_15  => (r_15 ≤ x5 → (vp_in (xI σ 1) 64 ∧ (post 1 (yI (yL σ 3 (xI σ 1).toNatClampNeg x3) 1 ((xI σ 1) + 1))))) ∧ (¬ r_15 ≤ x5 → (e_13 < 53 ∧ ((pxI e_13) < nX ∧ (vp_in x5 (lenX.getD (pxI e_13) 0) ∧ (∀ r_21 : Int32, r_21 = sCh bytX (pxI e_13) x5.toNatClampNeg → wp_X3_takePart (fun r_22 σ_23 => (r_22 = (-1) → (wp_X3_refuse (fun r_26 σ_27 => isB r_26 ∧ (post r_26 σ_27)) σ_23)) ∧ (¬ r_22 = (-1) → (∀ x3_24 : Int64, x3_24 = x3 ||| r_22 → ∀ x5_25 : Int32, x5_25 = x5 + 1 → k91 (some e_13) x3_24 x5_25 σ_23))) r_21 σ)))))) (pxI e_13))))
def wL_X3_takeWord_91 (post : Int32 → XS → Prop) : Nat → Option Nat → Int64 → Int32 → XS → Prop
  | 0 => fun _ _ _ _ => False
  | n + 1 => wB_X3_takeWord_91 post (wL_X3_takeWord_91 post n)
def wB_X3_takeWord_25 (post : Int32 → XS → Prop) (x1 : Int32) (u0 : Option Nat) (σ : XS) : Prop :=
  (u0 = none → (wp_X3_refuseNoWord (fun r_4 σ_5 => isB r_4 ∧ (post r_4 σ_5)) x1 σ)) ∧ (∀ e_3 : Nat, u0 = some e_3 → (((xI σ 1) < 64 → (wp_X6_advance (fun σ_8 => e_3 < 53 ∧ vp_in (xI σ_8 1) 64 ∧ (vp_in (xI σ_8 1) 64 ∧ (e_3 < 53 ∧ (∀ x3_12 : Int64, x3_12 = (opB e_3) ||| ((x1.toInt64) <<< ((20 : Int32).toInt64 &&& 63)) → ∃ n, wL_X3_takeWord_91 post n (some e_3) x3_12 0 (yA (yQ σ_8 0 (xI σ_8 1).toNatClampNeg (some e_3)) 3 (xI σ_8 1).toNatClampNeg (-1)))))) σ)) ∧ (¬ (xI σ 1) < 64 → (wp_X3_refuse (fun r_31 σ_32 => isB r_31 ∧ (post r_31 σ_32)) σ))))
def wp_X3_takeWord (post : Int32 → XS → Prop) (x1 : Int32) (σ : XS) : Prop :=
  wp_X6_kind (fun r_1 σ_2 => (r_1 = 1 → (wp_X6_value (fun r_34 σ_35 => wp_X2_named (fun r_36  => (r_36 = none → (wB_X3_takeWord_25 post x1 none σ_35)) ∧ (∀ e_38 : Nat, r_36 = some e_38 → (wB_X3_takeWord_25 post x1 (some e_38) σ_35))) r_34) σ_2)) ∧ (¬ r_1 = 1 → (wB_X3_takeWord_25 post x1 none σ_2))) σ
set_option maxHeartbeats 4000000 in
set_option maxRecDepth 100000 in
theorem kB_X3_takeWord_91 {p : Program} {l : Launch} {e : Env} {s : State} {m : MethodId} {args : Array Value} {below : List Frame} {meth : Method} {c : Code} {A : Nat → Prop} {E : EnvT} {aK aV : Nat → Nat} {aO : Nat} {D : va_G} {cA : Nat → ClassId} {aE ad : Nat → Nat} (C : xCx p s m args meth c cX3_takeWord 8 (some .boolean) wgX3_takeWord RX3 E D cA A) (vM : eXs aK aV aE aO E) {post : Int32 → XS → Prop}
    {k91 : Option Nat → Int64 → Int32 → XS → Prop} (hk91 : ∀ (o2 : Option Nat) (x3 : Int64) (x5 : Int32) (σ : XS) (H : Heap) (locs : List Loc) (ls : Array Slot), xG D cA aE ad A s σ H locs → lv_has ls 8 [(0, .ref (ad 3)), (2, va_re aE o2), (3, .long x3), (5, .int x5)] → k91 o2 x3 x5 σ → W p l e rm_X3_takeWord s m args below meth c H locs 0 0 (MQ below (va_Qi post (xAt D cA aE ad A) A) args s 0 0 A) (F0 m 91 ls [])) :
    ∀ (o2 : Option Nat) (x3 : Int64) (x5 : Int32) (σ : XS) (H : Heap) (locs : List Loc) (ls : Array Slot), xG D cA aE ad A s σ H locs → lv_has ls 8 [(0, .ref (ad 3)), (2, va_re aE o2), (3, .long x3), (5, .int x5)] → wB_X3_takeWord_91 post k91 o2 x3 x5 σ → W p l e rm_X3_takeWord s m args below meth c H locs 0 0 (MQ below (va_Qi post (xAt D cA aE ad A) A) args s 0 0 A) (F0 m 91 ls []) := by
  obtain ⟨hx, hb, hml, hr, hown, hts, hK, hA, hlk, hE, vE⟩ := id C
  intro o2 x3 x5 σ H locs ls hG hl hw
  obtain ⟨hP, hD, hS⟩ := id hG
  rcases o2 with _ | e_13
  · have hw := hw.1 rfl
    have hl : lv_has ls 8 [(0, .ref (ad 3)), (2, .null), (3, .long x3), (5, .int x5)] := hl
    show W p l e rm_X3_takeWord s m args below meth c _ _ 0 0 (MQ below (va_Qi post (xAt D cA aE ad A) A) args s 0 0 A) (F0 m 91 ls [])
    refine lv_iload hx hb dX3_takeWord_91 (lv_at hl 3 rfl) ?_
    refine lv_aload_nN hx hb dX3_takeWord_93 rfl (lv_at hl 1 rfl) ?_
    exact hw.elim
  · have hw := hw.2 e_13 rfl
    have hl : lv_has ls 8 [(0, .ref (ad 3)), (2, .ref (aE e_13)), (3, .long x3), (5, .int x5)] := hl
    show W p l e rm_X3_takeWord s m args below meth c _ _ 0 0 (MQ below (va_Qi post (xAt D cA aE ad A) A) args s 0 0 A) (F0 m 91 ls [])
    refine lv_iload hx hb dX3_takeWord_91 (lv_at hl 3 rfl) ?_
    refine lv_aload_n hx hb dX3_takeWord_93 rfl (lv_at hl 1 rfl) ?_
    obtain ⟨h_14, hw⟩ := hw
    refine vk_getf hx hb (eX.o_parts (vM _ _ _ hE) h_14) hS hown (hts _ (List.mem_cons_of_mem _ tw_6_232)) (fun _ h => h) dX3_takeWord_94 ?_
    obtain ⟨h_29, hw⟩ := hw
    refine xO_i (As := []) (rest := [.int x5]) C (met_J0_length_8abf5 vE vM hw) (va_Orecv (eX.s_obj (vM _ _ _ hE) h_29) hS) (cwV 0 hts (TB_G (TB_4 tw_5_41 tw_2_48 tw_2_49 tw_1_11) tw_2_50) rfl rfl rfl (by decide +kernel) ⟨by decide, by decide⟩) hP hD hS rfl hl.1 rfl (Nat.le_of_ble_eq_true rfl) dX3_takeWord_97 ⟨by decide, by decide⟩ (fun r_15 H locs hw hP hS => ?_)
    have hG : xG D cA aE ad A s σ H locs := ⟨hP, hD, hS⟩
    refine lv_icmp_ge (tgt := 143) hx hb dX3_takeWord_100 (by decide) (fun q_ => ?_) (fun q_ => ?_)
    · have hw := hw.1 q_
      refine lv_aload_n hx hb dX3_takeWord_143 rfl (lv_at hl 0 rfl) ?_
      refine va_get (D := D) (ci := 5) (v := .ref (ad 13)) (C := RX3) (T := TX3) (N := 8) hx hb hts (in_tb inX3) hown hK hP 3 rfl rfl 4 (by decide) (hts _ (List.mem_cons_of_mem _ tw_1_115)) (fun _ h9 => h9) rfl dX3_takeWord_144 ?_
      refine lv_aload_n hx hb dX3_takeWord_147 rfl (lv_at hl 0 rfl) ?_
      refine va_get (D := D) (ci := 5) (v := .int (xI σ 1)) (C := RX3) (T := TX3) (N := 8) hx hb hts (in_tb inX3) hown hK hP 3 rfl rfl 5 (by decide) (hts _ (List.mem_cons_of_mem _ tw_1_117)) (fun _ h9 => h9) rfl dX3_takeWord_148 ?_
      refine lv_lload_n hx hb dX3_takeWord_151 rfl (lv_at hl 2 rfl) ?_
      obtain ⟨h_17, hw⟩ := hw
      refine va_last hx hb hK hP hD hS 13 1 rfl rfl h_17 dX3_takeWord_152 (fun H locs hP hD hS => ?_)
      have hG : xG D cA aE ad A s (yL σ 3 (xI σ 1).toNatClampNeg x3) H locs := ⟨hP, hD, hS⟩
      obtain ⟨hP, hD, hS⟩ := id hG
      refine lv_aload_n hx hb dX3_takeWord_153 rfl (lv_at hl 0 rfl) ?_
      refine lv_dup hx hb dX3_takeWord_154 rfl ?_
      refine va_get (D := D) (ci := 5) (v := .int (xI σ 1)) (C := RX3) (T := TX3) (N := 8) hx hb hts (in_tb inX3) hown hK hP 3 rfl rfl 5 (by decide) (hts _ (List.mem_cons_of_mem _ tw_1_117)) (fun _ h9 => h9) rfl dX3_takeWord_155 ?_
      refine lv_iconst (v := 1) hx hb dX3_takeWord_158 (by decide) ?_
      refine lv_iadd hx hb dX3_takeWord_159 ?_
      refine va_put (D := D) (ci := 5) (v := .int ((xI σ 1) + 1)) (ty := .int) (C := RX3) (T := TX3) (N := 8) hx hb hts (in_tb inX3) tyX3 tyX3_ok nmX3 hown hK hP hD hS 3 rfl rfl 5 (by decide) (hts _ (List.mem_cons_of_mem _ tw_1_117)) (fun _ h9 => h9) rfl (by decide +kernel) rfl rfl (Nat.le_of_ble_eq_true rfl) dX3_takeWord_160 (fun H locs hP hD hS => ?_)
      have hG : xG D cA aE ad A s (yI (yL σ 3 (xI σ 1).toNatClampNeg x3) 1 ((xI σ 1) + 1)) H locs := ⟨hP, hD, hS⟩
      obtain ⟨hP, hD, hS⟩ := id hG
      refine lv_iconst (v := 1) hx hb dX3_takeWord_163 (by decide) ?_
      exact W.zret (v := 1) (ty := .boolean) hx hb hr rfl (fun t ht hW => ⟨⟨_, (yI (yL σ 3 (xI σ 1).toNatClampNeg x3) 1 ((xI σ 1) + 1)), rfl, hw, by rw [ht]; exact hP, va_K.moved hW.alike hK, hD⟩, hS.F ht⟩) hS.2.2 dX3_takeWord_164 hlk
    · have hw := hw.2 q_
      refine lv_aload_n hx hb dX3_takeWord_103 rfl (lv_at hl 0 rfl) ?_
      refine lv_aload_n hx hb dX3_takeWord_104 rfl (lv_at hl 1 rfl) ?_
      obtain ⟨h_18, hw⟩ := hw
      refine vk_getf hx hb (eX.o_parts (vM _ _ _ hE) h_18) hS hown (hts _ (List.mem_cons_of_mem _ tw_6_232)) (fun _ h => h) dX3_takeWord_105 ?_
      refine lv_iload hx hb dX3_takeWord_108 (lv_at hl 3 rfl) ?_
      obtain ⟨h_20, h_19, hw⟩ := hw
      refine xO_i (As := [.int x5]) (rest := [.ref (ad 3)]) C (met_J0_charAt vE (fun A U H z => eX.str (vM A U H z)) h_20 (post := fun r => r = sCh bytX (pxI e_13) x5.toNatClampNeg) (in_nn h_19) (in_lt h_19 (lenX_lt _)) h_19 rfl) (va_Orecv (eX.s_obj (vM _ _ _ hE) h_20) hS) (cwV 1 hts (TB_G (TB_4 tw_5_42 tw_2_57 tw_2_58 tw_1_11) tw_2_59) rfl rfl rfl (by decide +kernel) ⟨by decide, by decide⟩) hP hD hS rfl hl.1 rfl (Nat.le_of_ble_eq_true rfl) dX3_takeWord_110 ⟨by decide, by decide⟩ (fun r_21 H locs er_21 hP hS => ?_)
      have hw := hw r_21 er_21
      have hG : xG D cA aE ad A s σ H locs := ⟨hP, hD, hS⟩
      refine xV_l (As := [.int r_21]) (rest := []) C (met_X3_takePart vE vM hw) (va_recv hK hP (ci := 5) (q0 := 3) rfl rfl) (cwV 1 hts (TB_G (TB_4 tw_5_43 tw_5_45 ts_25 tw_1_3) tw_5_46) rfl rfl rfl (by decide +kernel) ⟨by decide, by decide⟩) hP hD hS rfl hl.1 rfl (Nat.le_of_ble_eq_true rfl) dX3_takeWord_113 ⟨by decide, by decide⟩ (fun r_22 σ_23 H locs hw hP hD hS => ?_)
      have hG : xG D cA aE ad A s σ_23 H locs := ⟨hP, hD, hS⟩
      refine lv_lstore (lv' := [(6, .long r_22), (0, .ref (ad 3)), (2, .ref (aE e_13)), (3, .long x3), (5, .int x5)]) hx hb dX3_takeWord_116 hl (by decide) rfl (fun ls hl => ?_)
      refine lv_lload hx hb dX3_takeWord_118 (lv_at hl 0 rfl) ?_
      refine lv_ldc2 (v := (-1)) hx hb hown (hts _ (List.mem_cons_of_mem _ tw_5_47)) dX3_takeWord_120 ?_
      refine W.lcmp hx hb dX3_takeWord_123 ?_
      refine lv_if_ne (tgt := 132) hx hb dX3_takeWord_124 (by decide) (fun q_ => ?_) (fun q_ => ?_)
      · have hw := hw.2 (fun z => q_ (lc_eq.mpr z))
        refine lv_lload_n hx hb dX3_takeWord_132 rfl (lv_at hl 3 rfl) ?_
        refine lv_lload hx hb dX3_takeWord_133 (lv_at hl 0 rfl) ?_
        refine lv_lor hx hb dX3_takeWord_135 ?_
        refine lv_topl (fun x3_24 ex3_24 => ?_)
        have hw := hw x3_24 ex3_24
        refine lv_lstore_n (lv' := [(3, .long x3_24), (6, .long r_22), (0, .ref (ad 3)), (2, .ref (aE e_13)), (5, .int x5)]) hx hb dX3_takeWord_136 rfl hl (by decide) rfl (fun ls hl => ?_)
        obtain ⟨x5_25, ex5_25⟩ : ∃ y : Int32, y = x5 + 1 := ⟨_, rfl⟩
        have hw := hw x5_25 ex5_25
        refine lv_iinc (v := x5_25) (lv' := [(5, .int x5_25), (3, .long x3_24), (6, .long r_22), (0, .ref (ad 3)), (2, .ref (aE e_13))]) hx hb dX3_takeWord_137 hl (k := 4) rfl (by rw [ex5_25]; rfl) (by decide) rfl (fun ls hl => ?_)
        refine lv_goto (tgt := 91) hx hb dX3_takeWord_140 (by decide) ?_
        exact hk91 (some e_13) x3_24 x5_25 σ_23 _ _ _ hG (lv_sub hl [3, 4, 1, 0] rfl) hw
      · have hw := hw.1 (lc_eq.mp q_)
        refine lv_aload_n hx hb dX3_takeWord_127 rfl (lv_at hl 1 rfl) ?_
        refine xV_i (As := []) (rest := []) C (met_X3_refuse vE vM hw) (va_recv hK hP (ci := 5) (q0 := 3) rfl rfl) (cwV 0 hts (TB_G (TB_4 tw_4_217 tw_4_219 ts_16 tw_1_3) tw_4_220) rfl rfl rfl (by decide +kernel) ⟨by decide, by decide⟩) hP hD hS rfl hl.1 rfl (Nat.le_of_ble_eq_true rfl) dX3_takeWord_128 ⟨by decide, by decide⟩ (fun r_26 σ_27 H locs hw hP hD hS => ?_)
        have hG : xG D cA aE ad A s σ_27 H locs := ⟨hP, hD, hS⟩
        obtain ⟨h_28, hw⟩ := hw
        exact W.zret (v := r_26) (ty := .boolean) hx hb hr (isB.n h_28) (fun t ht hW => ⟨⟨_, σ_27, rfl, hw, by rw [ht]; exact hP, va_K.moved hW.alike hK, hD⟩, hS.F ht⟩) hS.2.2 dX3_takeWord_131 hlk
theorem kL_X3_takeWord_91 {p : Program} {l : Launch} {e : Env} {s : State} {m : MethodId} {args : Array Value} {below : List Frame} {meth : Method} {c : Code} {A : Nat → Prop} {E : EnvT} {aK aV : Nat → Nat} {aO : Nat} {D : va_G} {cA : Nat → ClassId} {aE ad : Nat → Nat} (C : xCx p s m args meth c cX3_takeWord 8 (some .boolean) wgX3_takeWord RX3 E D cA A) (vM : eXs aK aV aE aO E) {post : Int32 → XS → Prop} :
    ∀ (n : Nat) (o2 : Option Nat) (x3 : Int64) (x5 : Int32) (σ : XS) (H : Heap) (locs : List Loc) (ls : Array Slot), xG D cA aE ad A s σ H locs → lv_has ls 8 [(0, .ref (ad 3)), (2, va_re aE o2), (3, .long x3), (5, .int x5)] → wL_X3_takeWord_91 post n o2 x3 x5 σ → W p l e rm_X3_takeWord s m args below meth c H locs 0 0 (MQ below (va_Qi post (xAt D cA aE ad A) A) args s 0 0 A) (F0 m 91 ls []) := by
  intro n
  induction n with
  | zero => intro o2 x3 x5 σ H locs ls hG hl hw; exact hw.elim
  | succ n ih => exact kB_X3_takeWord_91 C vM ih
set_option maxHeartbeats 4000000 in
set_option maxRecDepth 100000 in
theorem kB_X3_takeWord_25 {p : Program} {l : Launch} {e : Env} {s : State} {m : MethodId} {args : Array Value} {below : List Frame} {meth : Method} {c : Code} {A : Nat → Prop} {E : EnvT} {aK aV : Nat → Nat} {aO : Nat} {D : va_G} {cA : Nat → ClassId} {aE ad : Nat → Nat} (C : xCx p s m args meth c cX3_takeWord 8 (some .boolean) wgX3_takeWord RX3 E D cA A) (vM : eXs aK aV aE aO E) {post : Int32 → XS → Prop} :
    ∀ (x1 : Int32) (u0 : Option Nat) (σ : XS) (H : Heap) (locs : List Loc) (ls : Array Slot), xG D cA aE ad A s σ H locs → lv_has ls 8 [(0, .ref (ad 3)), (1, .int x1)] → wB_X3_takeWord_25 post x1 u0 σ → W p l e rm_X3_takeWord s m args below meth c H locs 0 0 (MQ below (va_Qi post (xAt D cA aE ad A) A) args s 0 0 A) (F0 m 25 ls [va_re aE u0]) := by
  obtain ⟨hx, hb, hml, hr, hown, hts, hK, hA, hlk, hE, vE⟩ := id C
  intro x1 u0 σ H locs ls hG hl hw
  obtain ⟨hP, hD, hS⟩ := id hG
  rcases u0 with _ | e_3
  · have hw := hw.1 rfl
    have hl : lv_has ls 8 [(0, .ref (ad 3)), (1, .int x1)] := hl
    show W p l e rm_X3_takeWord s m args below meth c _ _ 0 0 (MQ below (va_Qi post (xAt D cA aE ad A) A) args s 0 0 A) (F0 m 25 ls [.null])
    refine lv_astore_nN (lv' := [(2, .null), (0, .ref (ad 3)), (1, .int x1)]) hx hb dX3_takeWord_25 rfl hl (by decide) rfl (fun ls hl => ?_)
    refine lv_aload_nN hx hb dX3_takeWord_26 rfl (lv_at hl 0 rfl) ?_
    refine lv_ifnonnullN hx hb dX3_takeWord_27 ?_
    refine lv_aload_n hx hb dX3_takeWord_30 rfl (lv_at hl 1 rfl) ?_
    refine lv_iload_n hx hb dX3_takeWord_31 rfl (lv_at hl 2 rfl) ?_
    refine xV_i (As := [.int x1]) (rest := []) C (met_X3_refuseNoWord vE vM hw) (va_recv hK hP (ci := 5) (q0 := 3) rfl rfl) (cwV 1 hts (TB_G (TB_4 tw_5_37 tw_5_39 ts_24 tw_1_3) tw_5_40) rfl rfl rfl (by decide +kernel) ⟨by decide, by decide⟩) hP hD hS rfl hl.1 rfl (Nat.le_of_ble_eq_true rfl) dX3_takeWord_32 ⟨by decide, by decide⟩ (fun r_4 σ_5 H locs hw hP hD hS => ?_)
    have hG : xG D cA aE ad A s σ_5 H locs := ⟨hP, hD, hS⟩
    obtain ⟨h_6, hw⟩ := hw
    exact W.zret (v := r_4) (ty := .boolean) hx hb hr (isB.n h_6) (fun t ht hW => ⟨⟨_, σ_5, rfl, hw, by rw [ht]; exact hP, va_K.moved hW.alike hK, hD⟩, hS.F ht⟩) hS.2.2 dX3_takeWord_35 hlk
  · have hw := hw.2 e_3 rfl
    have hl : lv_has ls 8 [(0, .ref (ad 3)), (1, .int x1)] := hl
    show W p l e rm_X3_takeWord s m args below meth c _ _ 0 0 (MQ below (va_Qi post (xAt D cA aE ad A) A) args s 0 0 A) (F0 m 25 ls [.ref (aE e_3)])
    refine lv_astore_n (lv' := [(2, .ref (aE e_3)), (0, .ref (ad 3)), (1, .int x1)]) hx hb dX3_takeWord_25 rfl hl (by decide) rfl (fun ls hl => ?_)
    refine lv_aload_n hx hb dX3_takeWord_26 rfl (lv_at hl 0 rfl) ?_
    refine lv_ifnonnull (tgt := 36) hx hb dX3_takeWord_27 (by decide) ?_
    refine lv_aload_n hx hb dX3_takeWord_36 rfl (lv_at hl 1 rfl) ?_
    refine va_get (D := D) (ci := 5) (v := .int (xI σ 1)) (C := RX3) (T := TX3) (N := 8) hx hb hts (in_tb inX3) hown hK hP 3 rfl rfl 5 (by decide) (hts _ (List.mem_cons_of_mem _ tw_1_117)) (fun _ h9 => h9) rfl dX3_takeWord_37 ?_
    refine lv_bipush (v := 64) hx hb dX3_takeWord_40 (by decide) ?_
    refine lv_icmp_lt (tgt := 50) hx hb dX3_takeWord_42 (by decide) (fun q_ => ?_) (fun q_ => ?_)
    · have hw := hw.1 q_
      refine lv_aload_n hx hb dX3_takeWord_50 rfl (lv_at hl 1 rfl) ?_
      refine va_get (D := D) (ci := 5) (v := .ref (ad 4)) (C := RX3) (T := TX3) (N := 8) hx hb hts (in_tb inX3) hown hK hP 3 rfl rfl 0 (by decide) (hts _ (List.mem_cons_of_mem _ tw_1_110)) (fun _ h9 => h9) rfl dX3_takeWord_51 ?_
      refine xV_v (As := []) (rest := []) C (met_X6_advance vE vM hw) (va_recv hK hP (ci := 8) (q0 := 4) rfl rfl) (cwV 0 hts (TB_G (TB_4 tw_4_205 tw_4_206 tw_4_207 tw_1_5) tw_4_208) rfl rfl rfl (by decide +kernel) ⟨by decide, by decide⟩) hP hD hS rfl hl.1 rfl (Nat.le_of_ble_eq_true rfl) dX3_takeWord_54 ⟨by decide, by decide⟩ (fun σ_8 H locs hw hP hD hS => ?_)
      have hG : xG D cA aE ad A s σ_8 H locs := ⟨hP, hD, hS⟩
      refine lv_aload_n hx hb dX3_takeWord_57 rfl (lv_at hl 1 rfl) ?_
      refine va_get (D := D) (ci := 5) (v := .ref (ad 8)) (C := RX3) (T := TX3) (N := 8) hx hb hts (in_tb inX3) hown hK hP 3 rfl rfl 1 (by decide) (hts _ (List.mem_cons_of_mem _ tw_1_111)) (fun _ h9 => h9) rfl dX3_takeWord_58 ?_
      refine lv_aload_n hx hb dX3_takeWord_61 rfl (lv_at hl 1 rfl) ?_
      refine va_get (D := D) (ci := 5) (v := .int (xI σ_8 1)) (C := RX3) (T := TX3) (N := 8) hx hb hts (in_tb inX3) hown hK hP 3 rfl rfl 5 (by decide) (hts _ (List.mem_cons_of_mem _ tw_1_117)) (fun _ h9 => h9) rfl dX3_takeWord_62 ?_
      refine lv_aload_n hx hb dX3_takeWord_65 rfl (lv_at hl 0 rfl) ?_
      obtain ⟨h_30, h_9, hw⟩ := hw
      refine vb_astq (C := "KernelText$Op") hx hb hK hP hD hS 8 3 rfl rfl (va_Orecv (eX.o_obj (vM _ _ _ hE) h_30) hS) (fun _ _ h1 h2 => by rw [h1] at h2; cases h2; exact va_asg _ _) h_9 dX3_takeWord_66 (fun H locs hP hD hS => ?_)
      rw [qu_some] at hP hD
      have hG : xG D cA aE ad A s (yQ σ_8 0 (xI σ_8 1).toNatClampNeg (some e_3)) H locs := ⟨hP, hD, hS⟩
      obtain ⟨hP, hD, hS⟩ := id hG
      refine lv_aload_n hx hb dX3_takeWord_67 rfl (lv_at hl 1 rfl) ?_
      refine va_get (D := D) (ci := 5) (v := .ref (ad 9)) (C := RX3) (T := TX3) (N := 8) hx hb hts (in_tb inX3) hown hK hP 3 rfl rfl 2 (by decide) (hts _ (List.mem_cons_of_mem _ tw_1_112)) (fun _ h9 => h9) rfl dX3_takeWord_68 ?_
      refine lv_aload_n hx hb dX3_takeWord_71 rfl (lv_at hl 1 rfl) ?_
      refine va_get (D := D) (ci := 5) (v := .int (xI σ_8 1)) (C := RX3) (T := TX3) (N := 8) hx hb hts (in_tb inX3) hown hK hP 3 rfl rfl 5 (by decide) (hts _ (List.mem_cons_of_mem _ tw_1_117)) (fun _ h9 => h9) rfl dX3_takeWord_72 ?_
      refine lv_iconst (v := (-1)) hx hb dX3_takeWord_75 (by decide) ?_
      obtain ⟨h_10, hw⟩ := hw
      refine va_iast hx hb hK hP hD hS 9 0 rfl rfl h_10 dX3_takeWord_76 (fun H locs hP hD hS => ?_)
      have hG : xG D cA aE ad A s (yA (yQ σ_8 0 (xI σ_8 1).toNatClampNeg (some e_3)) 3 (xI σ_8 1).toNatClampNeg (-1)) H locs := ⟨hP, hD, hS⟩
      obtain ⟨hP, hD, hS⟩ := id hG
      refine lv_aload_n hx hb dX3_takeWord_77 rfl (lv_at hl 0 rfl) ?_
      obtain ⟨h_11, hw⟩ := hw
      refine vk_getf hx hb (eX.o_base (vM _ _ _ hE) h_11) hS hown (hts _ (List.mem_cons_of_mem _ tw_6_231)) (fun _ h => h) dX3_takeWord_78 ?_
      refine lv_iload_n hx hb dX3_takeWord_81 rfl (lv_at hl 2 rfl) ?_
      refine lv_i2l hx hb dX3_takeWord_82 rfl ?_
      refine lv_bipush (v := 20) hx hb dX3_takeWord_83 (by decide) ?_
      refine lv_lshl hx hb dX3_takeWord_85 rfl ?_
      refine lv_lor hx hb dX3_takeWord_86 ?_
      refine lv_topl (fun x3_12 ex3_12 => ?_)
      have hw := hw x3_12 ex3_12
      refine lv_lstore_n (lv' := [(3, .long x3_12), (2, .ref (aE e_3)), (0, .ref (ad 3)), (1, .int x1)]) hx hb dX3_takeWord_87 rfl hl (by decide) rfl (fun ls hl => ?_)
      refine lv_iconst (v := 0) hx hb dX3_takeWord_88 (by decide) ?_
      refine lv_istore (lv' := [(5, .int 0), (3, .long x3_12), (2, .ref (aE e_3)), (0, .ref (ad 3)), (1, .int x1)]) hx hb dX3_takeWord_89 hl (by decide) rfl (fun ls hl => ?_)
      obtain ⟨n_, hw⟩ := hw
      exact kL_X3_takeWord_91 C vM n_ (some e_3) x3_12 0 (yA (yQ σ_8 0 (xI σ_8 1).toNatClampNeg (some e_3)) 3 (xI σ_8 1).toNatClampNeg (-1)) _ _ _ hG (lv_sub hl [3, 2, 1, 0] rfl) hw
    · have hw := hw.2 q_
      refine lv_aload_n hx hb dX3_takeWord_45 rfl (lv_at hl 1 rfl) ?_
      refine xV_i (As := []) (rest := []) C (met_X3_refuse vE vM hw) (va_recv hK hP (ci := 5) (q0 := 3) rfl rfl) (cwV 0 hts (TB_G (TB_4 tw_4_217 tw_4_219 ts_16 tw_1_3) tw_4_220) rfl rfl rfl (by decide +kernel) ⟨by decide, by decide⟩) hP hD hS rfl hl.1 rfl (Nat.le_of_ble_eq_true rfl) dX3_takeWord_46 ⟨by decide, by decide⟩ (fun r_31 σ_32 H locs hw hP hD hS => ?_)
      have hG : xG D cA aE ad A s σ_32 H locs := ⟨hP, hD, hS⟩
      obtain ⟨h_33, hw⟩ := hw
      exact W.zret (v := r_31) (ty := .boolean) hx hb hr (isB.n h_33) (fun t ht hW => ⟨⟨_, σ_32, rfl, hw, by rw [ht]; exact hP, va_K.moved hW.alike hK, hD⟩, hS.F ht⟩) hS.2.2 dX3_takeWord_49 hlk
set_option maxHeartbeats 4000000 in
set_option maxRecDepth 100000 in
theorem k_X3_takeWord {p : Program} {l : Launch} {e : Env} {s : State} {m : MethodId} {args : Array Value} {below : List Frame} {meth : Method} {c : Code} {A : Nat → Prop} {E : EnvT} {aK aV : Nat → Nat} {aO : Nat} {D : va_G} {cA : Nat → ClassId} {aE ad : Nat → Nat} (C : xCx p s m args meth c cX3_takeWord 8 (some .boolean) wgX3_takeWord RX3 E D cA A) (vM : eXs aK aV aE aO E) {post : Int32 → XS → Prop} :
    ∀ (x1 : Int32) (σ : XS) (H : Heap) (locs : List Loc) (ls : Array Slot), xG D cA aE ad A s σ H locs → lv_has ls 8 [(0, .ref (ad 3)), (1, .int x1)] → wp_X3_takeWord post x1 σ → W p l e rm_X3_takeWord s m args below meth c H locs 0 0 (MQ below (va_Qi post (xAt D cA aE ad A) A) args s 0 0 A) (F0 m 0 ls []) := by
  obtain ⟨hx, hb, hml, hr, hown, hts, hK, hA, hlk, hE, vE⟩ := id C
  intro x1 σ H locs ls hG hl hw
  obtain ⟨hP, hD, hS⟩ := id hG
  refine lv_aload_n hx hb dX3_takeWord_0 rfl (lv_at hl 0 rfl) ?_
  refine va_get (D := D) (ci := 5) (v := .ref (ad 4)) (C := RX3) (T := TX3) (N := 8) hx hb hts (in_tb inX3) hown hK hP 3 rfl rfl 0 (by decide) (hts _ (List.mem_cons_of_mem _ tw_1_110)) (fun _ h9 => h9) rfl dX3_takeWord_1 ?_
  refine xV_i (As := []) (rest := []) C (met_X6_kind vE vM hw) (va_recv hK hP (ci := 8) (q0 := 4) rfl rfl) (cwV 0 hts (TB_G (TB_4 tw_4_181 tw_4_182 tw_4_183 tw_1_5) tw_4_184) rfl rfl rfl (by decide +kernel) ⟨by decide, by decide⟩) hP hD hS rfl hl.1 rfl (Nat.le_of_ble_eq_true rfl) dX3_takeWord_4 ⟨by decide, by decide⟩ (fun r_1 σ_2 H locs hw hP hD hS => ?_)
  have hG : xG D cA aE ad A s σ_2 H locs := ⟨hP, hD, hS⟩
  refine lv_iconst (v := 1) hx hb dX3_takeWord_7 (by decide) ?_
  refine lv_icmp_ne (tgt := 24) hx hb dX3_takeWord_8 (by decide) (fun q_ => ?_) (fun q_ => ?_)
  · have hw := hw.2 q_
    refine lv_null hx hb dX3_takeWord_24 ?_
    exact kB_X3_takeWord_25 C vM x1 none σ_2 _ _ _ hG (lv_sub hl [0, 1] rfl) hw
  · have hw := hw.1 q_
    refine lv_aload_n hx hb dX3_takeWord_11 rfl (lv_at hl 0 rfl) ?_
    refine va_get (D := D) (ci := 5) (v := .ref (ad 4)) (C := RX3) (T := TX3) (N := 8) hx hb hts (in_tb inX3) hown hK hP 3 rfl rfl 0 (by decide) (hts _ (List.mem_cons_of_mem _ tw_1_110)) (fun _ h9 => h9) rfl dX3_takeWord_12 ?_
    refine xV_l (As := []) (rest := []) C (met_X6_value vE vM hw) (va_recv hK hP (ci := 8) (q0 := 4) rfl rfl) (cwV 0 hts (TB_G (TB_4 tw_4_197 tw_4_198 tw_4_199 tw_1_5) tw_4_200) rfl rfl rfl (by decide +kernel) ⟨by decide, by decide⟩) hP hD hS rfl hl.1 rfl (Nat.le_of_ble_eq_true rfl) dX3_takeWord_15 ⟨by decide, by decide⟩ (fun r_34 σ_35 H locs hw hP hD hS => ?_)
    have hG : xG D cA aE ad A s σ_35 H locs := ⟨hP, hD, hS⟩
    refine xS_e (As := [.long r_34]) (rest := []) C (met_X2_named vE vM hw) (va_cwS 1 hts (TB_G (TB_3 tw_5_34 tw_5_35 tw_1_19) tw_5_36) rfl rfl rfl (by decide +kernel) ⟨by decide, by decide⟩) hP hD hS rfl hl.1 rfl (Nat.le_of_ble_eq_true rfl) dX3_takeWord_18 ⟨by decide, by decide⟩ (fun r_36 H locs hw hP hS => ?_)
    have hG : xG D cA aE ad A s σ_35 H locs := ⟨hP, hD, hS⟩
    rcases r_36 with _ | e_38
    · have hw := hw.1 rfl
      show W p l e rm_X3_takeWord s m args below meth c _ _ 0 0 (MQ below (va_Qi post (xAt D cA aE ad A) A) args s 0 0 A) (F0 m 21 ls [.null])
      refine lv_goto (tgt := 25) hx hb dX3_takeWord_21 (by decide) ?_
      exact kB_X3_takeWord_25 C vM x1 none σ_35 _ _ _ hG (lv_sub hl [0, 1] rfl) hw
    · have hw := hw.2 e_38 rfl
      show W p l e rm_X3_takeWord s m args below meth c _ _ 0 0 (MQ below (va_Qi post (xAt D cA aE ad A) A) args s 0 0 A) (F0 m 21 ls [.ref (aE e_38)])
      refine lv_goto (tgt := 25) hx hb dX3_takeWord_21 (by decide) ?_
      exact kB_X3_takeWord_25 C vM x1 (some e_38) σ_35 _ _ _ hG (lv_sub hl [0, 1] rfl) hw
set_option maxHeartbeats 4000000 in
set_option maxRecDepth 100000 in
theorem met_X3_takeWord {l : Launch} {E : EnvT} (vE : EnvOk E) {D : va_G} {cA : Nat → ClassId} {aE ad : Nat → Nat} {σ : XS} {aK aV : Nat → Nat} {aO : Nat} (vM : eXs aK aV aE aO E) {sz : Nat} {x1 : Int32} {post : Int32 → XS → Prop} (hw : wp_X3_takeWord post x1 σ) : Met l yX3_takeWord wgX3_takeWord rm_X3_takeWord (va_Pc [.ref (ad 3), .int x1] (xPre E D cA aE ad sz σ)) (va_Qi post (xAt D cA aE ad (va_A (xW cA aE ad σ) sz)) (va_A (xW cA aE ad σ) sz)) 0 0 (va_A (xW cA aE ad σ) sz) := by
  refine Met.ofW (cc := cX3_takeWord) (maxL := 8) (ret := (some .boolean)) (by decide +kernel) rfl ?_
  intro p e s m args below meth c s₁ B hml hv
  obtain ⟨rfl, hsz, hP, hK, hD0, hE⟩ := hv
  subst hsz
  have hD := hD0.self (sz := s.heap.size)
  generalize hAe : va_A (xW cA aE ad σ) s.heap.size = A at hD hE ⊢
  have hA : ∀ q : Nat, s.heap.size ≤ q → A q := fun q h => by rw [← hAe]; exact Or.inr h
  have hS : va_S A s.heap s.heap [] := va_S.rf
  have C : xCx p s m _ meth c cX3_takeWord 8 (some .boolean) wgX3_takeWord RX3 E D cA A := ⟨B.exec, B.bytes, hml, B.returns, findClass_of_methodNamed B.named, atoms_spec (ws := wgX3_takeWord) B.pre, hK, hA, B.notSynchronized, hE, vE⟩
  have hG : xG D cA aE ad A s σ s.heap [] := ⟨hP, hD, hS⟩
  have hl := lv_entry ([.ref (ad 3), .int x1]) (n := 8) (Nat.le_of_ble_eq_true rfl)
  rw [lg_entry_eq]
  generalize (lg_sl ([.ref (ad 3), .int x1]) ++ List.replicate (8 - (lg_sl ([.ref (ad 3), .int x1])).length) Slot.unset).toArray = ls at hl ⊢
  have hl : lv_has ls 8 [(0, .ref (ad 3)), (1, .int x1)] := hl
  exact k_X3_takeWord C vM x1 σ _ _ _ hG hl hw
