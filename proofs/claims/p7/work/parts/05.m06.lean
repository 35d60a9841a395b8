/-! ===== readPart ===== -/
def rm_X9_readPart_0 : Room := { frames := 3, cells := 0, slots := 0, locals := 68 }
abbrev wgX9_readPart : List Cond := .code yX9_readPart cX9_readPart 2 (some .boolean) :: TB
def wB_X9_readPart_0_121 (post : Int32 → MS → Prop) (t0 : Int32) (t1 : Int64) (t2 : Int64) (σ : MS) : Prop :=
  post 1 (wJ σ 28 (t2 ||| (t1 <<< (t0.toInt64 &&& 63))))
def wB_X9_readPart_0_246 (post : Int32 → MS → Prop) (σ : MS) : Prop :=
  post 0 σ
def wB_X9_readPart_0_173 (post : Int32 → MS → Prop) (t0 : Int32) (t1 : Int64) (t2 : Int64) (σ : MS) : Prop :=
  post 1 (wJ σ 28 (t2 ||| (t1 <<< (t0.toInt64 &&& 63))))
def wB_X9_readPart_0_299 (post : Int32 → MS → Prop) (t0 : Int64) (t1 : Int64) (σ : MS) : Prop :=
  post 1 (wJ σ 28 (t1 ||| t0))
def wB_X9_readPart_0_267 (post : Int32 → MS → Prop) (t0 : Int32) (σ : MS) : Prop :=
  wp_X9_readNumber (fun r_19 σ_20 => (r_19 = 0 → (post 0 σ_20)) ∧ (¬ r_19 = 0 → (((mI σ_20 27) = 0 → (wp_X9_number (fun r_21  => wB_X9_readPart_0_299 post r_21 (mJ σ_20 28) σ_20) (mJ σ_20 26))) ∧ (¬ (mI σ_20 27) = 0 → (wB_X9_readPart_0_299 post 0 (mJ σ_20 28) σ_20))))) t0 0 σ
def wp_X9_readPart_0 (post : Int32 → MS → Prop) (x1 : Int32) (σ : MS) : Prop :=
  (x1 = 65 → (wp_X9_readRegister (fun r_1 σ_2 => (r_1 = 0 → (post 0 σ_2)) ∧ (¬ r_1 = 0 → ((x1 = 68 → (wB_X9_readPart_0_121 post 8 ((mI σ_2 25).toInt64) (mJ σ_2 28) σ_2)) ∧ (¬ x1 = 68 → ((x1 = 65 → (wB_X9_readPart_0_121 post 12 ((mI σ_2 25).toInt64) (mJ σ_2 28) σ_2)) ∧ (¬ x1 = 65 → (wB_X9_readPart_0_121 post 16 ((mI σ_2 25).toInt64) (mJ σ_2 28) σ_2))))))) 114 σ)) ∧ (x1 = 66 → (wp_X9_readRegister (fun r_3 σ_4 => (r_3 = 0 → (post 0 σ_4)) ∧ (¬ r_3 = 0 → ((x1 = 68 → (wB_X9_readPart_0_121 post 8 ((mI σ_4 25).toInt64) (mJ σ_4 28) σ_4)) ∧ (¬ x1 = 68 → ((x1 = 65 → (wB_X9_readPart_0_121 post 12 ((mI σ_4 25).toInt64) (mJ σ_4 28) σ_4)) ∧ (¬ x1 = 65 → (wB_X9_readPart_0_121 post 16 ((mI σ_4 25).toInt64) (mJ σ_4 28) σ_4))))))) 114 σ)) ∧ (x1 = 68 → (wp_X9_readRegister (fun r_5 σ_6 => (r_5 = 0 → (post 0 σ_6)) ∧ (¬ r_5 = 0 → ((x1 = 68 → (wB_X9_readPart_0_121 post 8 ((mI σ_6 25).toInt64) (mJ σ_6 28) σ_6)) ∧ (¬ x1 = 68 → ((x1 = 65 → (wB_X9_readPart_0_121 post 12 ((mI σ_6 25).toInt64) (mJ σ_6 28) σ_6)) ∧ (¬ x1 = 65 → (wB_X9_readPart_0_121 post 16 ((mI σ_6 25).toInt64) (mJ σ_6 28) σ_6))))))) 114 σ)) ∧ (x1 = 77 → (wp_X9_want (fun r_7 σ_8 => (r_7 = 0 → (wB_X9_readPart_0_246 post σ_8)) ∧ (¬ r_7 = 0 → (False))) 40 σ)) ∧ (x1 = 80 → (wp_X9_readRegister (fun r_9 σ_10 => (r_9 = 0 → (post 0 σ_10)) ∧ (¬ r_9 = 0 → (wp_X9_number (fun r_11  => post 1 (wJ σ_10 28 ((mJ σ_10 28) ||| r_11))) ((mI σ_10 25).toInt64)))) 112 σ)) ∧ (x1 = 97 → (wp_X9_readRegister (fun r_13 σ_14 => (r_13 = 0 → (post 0 σ_14)) ∧ (¬ r_13 = 0 → ((x1 = 100 → (wB_X9_readPart_0_173 post 8 ((mI σ_14 25).toInt64) (mJ σ_14 28) σ_14)) ∧ (¬ x1 = 100 → ((x1 = 97 → (wB_X9_readPart_0_173 post 12 ((mI σ_14 25).toInt64) (mJ σ_14 28) σ_14)) ∧ (¬ x1 = 97 → (wB_X9_readPart_0_173 post 16 ((mI σ_14 25).toInt64) (mJ σ_14 28) σ_14))))))) 112 σ)) ∧ (x1 = 98 → (wp_X9_readRegister (fun r_15 σ_16 => (r_15 = 0 → (post 0 σ_16)) ∧ (¬ r_15 = 0 → ((x1 = 100 → (wB_X9_readPart_0_173 post 8 ((mI σ_16 25).toInt64) (mJ σ_16 28) σ_16)) ∧ (¬ x1 = 100 → ((x1 = 97 → (wB_X9_readPart_0_173 post 12 ((mI σ_16 25).toInt64) (mJ σ_16 28) σ_16)) ∧ (¬ x1 = 97 → (wB_X9_readPart_0_173 post 16 ((mI σ_16 25).toInt64) (mJ σ_16 28) σ_16))))))) 112 σ)) ∧ (x1 = 100 → (wp_X9_readRegister (fun r_17 σ_18 => (r_17 = 0 → (post 0 σ_18)) ∧ (¬ r_17 = 0 → ((x1 = 100 → (wB_X9_readPart_0_173 post 8 ((mI σ_18 25).toInt64) (mJ σ_18 28) σ_18)) ∧ (¬ x1 = 100 → ((x1 = 97 → (wB_X9_readPart_0_173 post 12 ((mI σ_18 25).toInt64) (mJ σ_18 28) σ_18)) ∧ (¬ x1 = 97 → (wB_X9_readPart_0_173 post 16 ((mI σ_18 25).toInt64) (mJ σ_18 28) σ_18))))))) 112 σ)) ∧ (¬ x1 = 65 → ¬ x1 = 66 → ¬ x1 = 68 → ¬ x1 = 77 → ¬ x1 = 80 → ¬ x1 = 97 → ¬ x1 = 98 → ¬ x1 = 100 → ((x1 = 71 → (wB_X9_readPart_0_267 post 1 σ)) ∧ (¬ x1 = 71 → (wB_X9_readPart_0_267 post 0 σ))))
set_option maxHeartbeats 4000000 in
set_option maxRecDepth 100000 in
theorem kB_X9_readPart_0_121 {p : Program} {l : Launch} {e : Env} {s : State} {m : MethodId} {args : Array Value} {below : List Frame} {meth : Method} {c : Code} {A : Nat → Prop} {E : EnvT} {aK aV : Nat → Nat} {D : va_G} {cA : Nat → ClassId} {h : Nat} {ad : Nat → Nat} (C : mCx p s m args meth c cX9_readPart 2 (some .boolean) wgX9_readPart RX9 E D cA A) (vM : eMs aK aV E) {post : Int32 → MS → Prop} :
    ∀ (t0 : Int32) (t1 : Int64) (t2 : Int64) (σ : MS) (H : Heap) (locs : List Loc) (ls : Array Slot), mG D cA h ad A s σ H locs → lv_has ls 2 [] → wB_X9_readPart_0_121 post t0 t1 t2 σ → W p l e rm_X9_readPart_0 s m args below meth c H locs 0 0 (MQ below (va_Qi post (mAt D cA h ad A) A) args s 0 0 A) (F0 m 121 ls [.int t0, .long t1, .long t2, .ref h]) := by
  obtain ⟨hx, hb, hml, hr, hown, hts, hK, hA, hlk, hE, vE⟩ := id C
  intro t0 t1 t2 σ H locs ls hG hl hw
  obtain ⟨hP, hD, hS⟩ := id hG
  refine lv_lshl hx hb dX9_readPart_121 rfl ?_
  refine lv_lor hx hb dX9_readPart_122 ?_
  refine va_put (D := D) (ci := 11) (v := .long (t2 ||| (t1 <<< (t0.toInt64 &&& 63)))) (ty := .long) (C := RX9) (T := TX9) (N := 32) hx hb hts (in_tb inX9) tyX9 tyX9_ok nmX9 hown hK hP hD hS 0 rfl rfl 28 (by decide) (hts _ (List.mem_cons_of_mem _ tw_5_138)) (fun _ h9 => h9) rfl (by decide +kernel) rfl rfl (Nat.le_of_ble_eq_true rfl) dX9_readPart_123 (fun H locs hP hD hS => ?_)
  have hG : mG D cA h ad A s (wJ σ 28 (t2 ||| (t1 <<< (t0.toInt64 &&& 63)))) H locs := ⟨hP, hD, hS⟩
  obtain ⟨hP, hD, hS⟩ := id hG
  refine lv_iconst (v := 1) hx hb dX9_readPart_126 (by decide) ?_
  exact W.zret (v := 1) (ty := .boolean) hx hb hr rfl (fun t ht hW => ⟨⟨_, (wJ σ 28 (t2 ||| (t1 <<< (t0.toInt64 &&& 63)))), rfl, hw, by rw [ht]; exact hP, va_K.moved hW.alike hK, hD⟩, hS.F ht⟩) hS.2.2 dX9_readPart_127 hlk
set_option maxHeartbeats 4000000 in
set_option maxRecDepth 100000 in
theorem kB_X9_readPart_0_246 {p : Program} {l : Launch} {e : Env} {s : State} {m : MethodId} {args : Array Value} {below : List Frame} {meth : Method} {c : Code} {A : Nat → Prop} {E : EnvT} {aK aV : Nat → Nat} {D : va_G} {cA : Nat → ClassId} {h : Nat} {ad : Nat → Nat} (C : mCx p s m args meth c cX9_readPart 2 (some .boolean) wgX9_readPart RX9 E D cA A) (vM : eMs aK aV E) {post : Int32 → MS → Prop} :
    ∀ (σ : MS) (H : Heap) (locs : List Loc) (ls : Array Slot), mG D cA h ad A s σ H locs → lv_has ls 2 [] → wB_X9_readPart_0_246 post σ → W p l e rm_X9_readPart_0 s m args below meth c H locs 0 0 (MQ below (va_Qi post (mAt D cA h ad A) A) args s 0 0 A) (F0 m 246 ls []) := by
  obtain ⟨hx, hb, hml, hr, hown, hts, hK, hA, hlk, hE, vE⟩ := id C
  intro σ H locs ls hG hl hw
  obtain ⟨hP, hD, hS⟩ := id hG
  refine lv_iconst (v := 0) hx hb dX9_readPart_246 (by decide) ?_
  exact W.zret (v := 0) (ty := .boolean) hx hb hr rfl (fun t ht hW => ⟨⟨_, σ, rfl, hw, by rw [ht]; exact hP, va_K.moved hW.alike hK, hD⟩, hS.F ht⟩) hS.2.2 dX9_readPart_247 hlk
set_option maxHeartbeats 4000000 in
set_option maxRecDepth 100000 in
theorem kB_X9_readPart_0_173 {p : Program} {l : Launch} {e : Env} {s : State} {m : MethodId} {args : Array Value} {below : List Frame} {meth : Method} {c : Code} {A : Nat → Prop} {E : EnvT} {aK aV : Nat → Nat} {D : va_G} {cA : Nat → ClassId} {h : Nat} {ad : Nat → Nat} (C : mCx p s m args meth c cX9_readPart 2 (some .boolean) wgX9_readPart RX9 E D cA A) (vM : eMs aK aV E) {post : Int32 → MS → Prop} :
    ∀ (t0 : Int32) (t1 : Int64) (t2 : Int64) (σ : MS) (H : Heap) (locs : List Loc) (ls : Array Slot), mG D cA h ad A s σ H locs → lv_has ls 2 [] → wB_X9_readPart_0_173 post t0 t1 t2 σ → W p l e rm_X9_readPart_0 s m args below meth c H locs 0 0 (MQ below (va_Qi post (mAt D cA h ad A) A) args s 0 0 A) (F0 m 173 ls [.int t0, .long t1, .long t2, .ref h]) := by
  obtain ⟨hx, hb, hml, hr, hown, hts, hK, hA, hlk, hE, vE⟩ := id C
  intro t0 t1 t2 σ H locs ls hG hl hw
  obtain ⟨hP, hD, hS⟩ := id hG
  refine lv_lshl hx hb dX9_readPart_173 rfl ?_
  refine lv_lor hx hb dX9_readPart_174 ?_
  refine va_put (D := D) (ci := 11) (v := .long (t2 ||| (t1 <<< (t0.toInt64 &&& 63)))) (ty := .long) (C := RX9) (T := TX9) (N := 32) hx hb hts (in_tb inX9) tyX9 tyX9_ok nmX9 hown hK hP hD hS 0 rfl rfl 28 (by decide) (hts _ (List.mem_cons_of_mem _ tw_5_138)) (fun _ h9 => h9) rfl (by decide +kernel) rfl rfl (Nat.le_of_ble_eq_true rfl) dX9_readPart_175 (fun H locs hP hD hS => ?_)
  have hG : mG D cA h ad A s (wJ σ 28 (t2 ||| (t1 <<< (t0.toInt64 &&& 63)))) H locs := ⟨hP, hD, hS⟩
  obtain ⟨hP, hD, hS⟩ := id hG
  refine lv_iconst (v := 1) hx hb dX9_readPart_178 (by decide) ?_
  exact W.zret (v := 1) (ty := .boolean) hx hb hr rfl (fun t ht hW => ⟨⟨_, (wJ σ 28 (t2 ||| (t1 <<< (t0.toInt64 &&& 63)))), rfl, hw, by rw [ht]; exact hP, va_K.moved hW.alike hK, hD⟩, hS.F ht⟩) hS.2.2 dX9_readPart_179 hlk
set_option maxHeartbeats 4000000 in
set_option maxRecDepth 100000 in
theorem kB_X9_readPart_0_299 {p : Program} {l : Launch} {e : Env} {s : State} {m : MethodId} {args : Array Value} {below : List Frame} {meth : Method} {c : Code} {A : Nat → Prop} {E : EnvT} {aK aV : Nat → Nat} {D : va_G} {cA : Nat → ClassId} {h : Nat} {ad : Nat → Nat} (C : mCx p s m args meth c cX9_readPart 2 (some .boolean) wgX9_readPart RX9 E D cA A) (vM : eMs aK aV E) {post : Int32 → MS → Prop} :
    ∀ (t0 : Int64) (t1 : Int64) (σ : MS) (H : Heap) (locs : List Loc) (ls : Array Slot), mG D cA h ad A s σ H locs → lv_has ls 2 [] → wB_X9_readPart_0_299 post t0 t1 σ → W p l e rm_X9_readPart_0 s m args below meth c H locs 0 0 (MQ below (va_Qi post (mAt D cA h ad A) A) args s 0 0 A) (F0 m 299 ls [.long t0, .long t1, .ref h]) := by
  obtain ⟨hx, hb, hml, hr, hown, hts, hK, hA, hlk, hE, vE⟩ := id C
  intro t0 t1 σ H locs ls hG hl hw
  obtain ⟨hP, hD, hS⟩ := id hG
  refine lv_lor hx hb dX9_readPart_299 ?_
  refine va_put (D := D) (ci := 11) (v := .long (t1 ||| t0)) (ty := .long) (C := RX9) (T := TX9) (N := 32) hx hb hts (in_tb inX9) tyX9 tyX9_ok nmX9 hown hK hP hD hS 0 rfl rfl 28 (by decide) (hts _ (List.mem_cons_of_mem _ tw_5_138)) (fun _ h9 => h9) rfl (by decide +kernel) rfl rfl (Nat.le_of_ble_eq_true rfl) dX9_readPart_300 (fun H locs hP hD hS => ?_)
  have hG : mG D cA h ad A s (wJ σ 28 (t1 ||| t0)) H locs := ⟨hP, hD, hS⟩
  obtain ⟨hP, hD, hS⟩ := id hG
  refine lv_iconst (v := 1) hx hb dX9_readPart_303 (by decide) ?_
  exact W.zret (v := 1) (ty := .boolean) hx hb hr rfl (fun t ht hW => ⟨⟨_, (wJ σ 28 (t1 ||| t0)), rfl, hw, by rw [ht]; exact hP, va_K.moved hW.alike hK, hD⟩, hS.F ht⟩) hS.2.2 dX9_readPart_304 hlk
set_option maxHeartbeats 4000000 in
set_option maxRecDepth 100000 in
theorem kB_X9_readPart_0_267 {p : Program} {l : Launch} {e : Env} {s : State} {m : MethodId} {args : Array Value} {below : List Frame} {meth : Method} {c : Code} {A : Nat → Prop} {E : EnvT} {aK aV : Nat → Nat} {D : va_G} {cA : Nat → ClassId} {h : Nat} {ad : Nat → Nat} (C : mCx p s m args meth c cX9_readPart 2 (some .boolean) wgX9_readPart RX9 E D cA A) (vM : eMs aK aV E) {post : Int32 → MS → Prop} :
    ∀ (t0 : Int32) (σ : MS) (H : Heap) (locs : List Loc) (ls : Array Slot), mG D cA h ad A s σ H locs → lv_has ls 2 [(0, .ref h)] → wB_X9_readPart_0_267 post t0 σ → W p l e rm_X9_readPart_0 s m args below meth c H locs 0 0 (MQ below (va_Qi post (mAt D cA h ad A) A) args s 0 0 A) (F0 m 267 ls [.int t0, .ref h]) := by
  obtain ⟨hx, hb, hml, hr, hown, hts, hK, hA, hlk, hE, vE⟩ := id C
  intro t0 σ H locs ls hG hl hw
  obtain ⟨hP, hD, hS⟩ := id hG
  refine lv_iconst (v := 0) hx hb dX9_readPart_267 (by decide) ?_
  refine mV_i (As := [.int t0, .int 0]) (rest := []) C (met_X9_readNumber vE vM hw) (va_recv hK hP (ci := 11) (q0 := 0) rfl rfl) (cwV 2 hts (TB_G (TB_4 tw_6_9 tw_6_11 ts_32 tw_1_13) tw_6_12) rfl rfl rfl (by decide +kernel) ⟨by decide, by decide⟩) hP hD hS rfl hl.1 rfl (Nat.le_of_ble_eq_true rfl) dX9_readPart_268 ⟨by decide, by decide⟩ (fun r_19 σ_20 H locs hw hP hD hS => ?_)
  have hG : mG D cA h ad A s σ_20 H locs := ⟨hP, hD, hS⟩
  refine lv_if_ne (tgt := 276) hx hb dX9_readPart_271 (by decide) (fun q_ => ?_) (fun q_ => ?_)
  · have hw := hw.2 q_
    refine lv_aload_n hx hb dX9_readPart_276 rfl (lv_at hl 0 rfl) ?_
    refine lv_dup hx hb dX9_readPart_277 rfl ?_
    refine va_get (D := D) (ci := 11) (v := .long (mJ σ_20 28)) (C := RX9) (T := TX9) (N := 32) hx hb hts (in_tb inX9) hown hK hP 0 rfl rfl 28 (by decide) (hts _ (List.mem_cons_of_mem _ tw_5_138)) (fun _ h9 => h9) rfl dX9_readPart_278 ?_
    refine lv_aload_n hx hb dX9_readPart_281 rfl (lv_at hl 0 rfl) ?_
    refine va_get (D := D) (ci := 11) (v := .int (mI σ_20 27)) (C := RX9) (T := TX9) (N := 32) hx hb hts (in_tb inX9) hown hK hP 0 rfl rfl 27 (by decide) (hts _ (List.mem_cons_of_mem _ tw_5_137)) (fun _ h9 => h9) rfl dX9_readPart_282 ?_
    refine lv_if_eq (tgt := 292) hx hb dX9_readPart_285 (by decide) (fun q_ => ?_) (fun q_ => ?_)
    · have hw := hw.1 q_
      refine lv_aload_n hx hb dX9_readPart_292 rfl (lv_at hl 0 rfl) ?_
      refine va_get (D := D) (ci := 11) (v := .long (mJ σ_20 26)) (C := RX9) (T := TX9) (N := 32) hx hb hts (in_tb inX9) hown hK hP 0 rfl rfl 26 (by decide) (hts _ (List.mem_cons_of_mem _ tw_5_136)) (fun _ h9 => h9) rfl dX9_readPart_293 ?_
      refine mS_l (As := [.long (mJ σ_20 26)]) (rest := [.long (mJ σ_20 28), .ref h]) C (met_X9_number vE vM hw) (va_cwS 1 hts (TB_G (TB_3 tw_6_73 tw_6_74 tw_1_13) tw_6_75) rfl rfl rfl (by decide +kernel) ⟨by decide, by decide⟩) hP hD hS rfl hl.1 rfl (Nat.le_of_ble_eq_true rfl) dX9_readPart_296 ⟨by decide, by decide⟩ (fun r_21 H locs hw hP hS => ?_)
      have hG : mG D cA h ad A s σ_20 H locs := ⟨hP, hD, hS⟩
      exact kB_X9_readPart_0_299 C vM r_21 (mJ σ_20 28) σ_20 _ _ _ hG (lv_sub hl [] rfl) hw
    · have hw := hw.2 q_
      refine lv_lconst (v := 0) hx hb dX9_readPart_288 (by decide) ?_
      refine lv_goto (tgt := 299) hx hb dX9_readPart_289 (by decide) ?_
      exact kB_X9_readPart_0_299 C vM 0 (mJ σ_20 28) σ_20 _ _ _ hG (lv_sub hl [] rfl) hw
  · have hw := hw.1 q_
    refine lv_iconst (v := 0) hx hb dX9_readPart_274 (by decide) ?_
    exact W.zret (v := 0) (ty := .boolean) hx hb hr rfl (fun t ht hW => ⟨⟨_, σ_20, rfl, hw, by rw [ht]; exact hP, va_K.moved hW.alike hK, hD⟩, hS.F ht⟩) hS.2.2 dX9_readPart_275 hlk
set_option maxHeartbeats 4000000 in
set_option maxRecDepth 100000 in
theorem k_X9_readPart_0 {p : Program} {l : Launch} {e : Env} {s : State} {m : MethodId} {args : Array Value} {below : List Frame} {meth : Method} {c : Code} {A : Nat → Prop} {E : EnvT} {aK aV : Nat → Nat} {D : va_G} {cA : Nat → ClassId} {h : Nat} {ad : Nat → Nat} (C : mCx p s m args meth c cX9_readPart 2 (some .boolean) wgX9_readPart RX9 E D cA A) (vM : eMs aK aV E) {post : Int32 → MS → Prop} :
    ∀ (x1 : Int32) (σ : MS) (H : Heap) (locs : List Loc) (ls : Array Slot), mG D cA h ad A s σ H locs → lv_has ls 2 [(0, .ref h), (1, .int x1)] → wp_X9_readPart_0 post x1 σ → W p l e rm_X9_readPart_0 s m args below meth c H locs 0 0 (MQ below (va_Qi post (mAt D cA h ad A) A) args s 0 0 A) (F0 m 0 ls []) := by
  obtain ⟨hx, hb, hml, hr, hown, hts, hK, hA, hlk, hE, vE⟩ := id C
  intro x1 σ H locs ls hG hl hw
  obtain ⟨hP, hD, hS⟩ := id hG
  refine lv_iload_n hx hb dX9_readPart_0 rfl (lv_at hl 1 rfl) ?_
  obtain ⟨hw0, hw1, hw2, hw3, hw4, hw5, hw6, hw7, hw8⟩ := hw
  by_cases q_0 : x1 = 65
  · have hw := hw0 q_0
    refine lv_lookup (tgt := 76) hx hb dX9_readPart_1 (by decide) (by rw [q_0] <;> rfl) (by decide) ?_
    refine lv_aload_n hx hb dX9_readPart_76 rfl (lv_at hl 0 rfl) ?_
    refine lv_bipush (v := 114) hx hb dX9_readPart_77 (by decide) ?_
    refine mV_i (As := [.int 114]) (rest := []) C (met_X9_readRegister vE vM hw) (va_recv hK hP (ci := 11) (q0 := 0) rfl rfl) (cwV 1 hts (TB_G (TB_4 tw_6_47 tw_6_49 ts_40 tw_1_13) tw_6_50) rfl rfl rfl (by decide +kernel) ⟨by decide, by decide⟩) hP hD hS rfl hl.1 rfl (Nat.le_of_ble_eq_true rfl) dX9_readPart_79 ⟨by decide, by decide⟩ (fun r_1 σ_2 H locs hw hP hD hS => ?_)
    have hG : mG D cA h ad A s σ_2 H locs := ⟨hP, hD, hS⟩
    refine lv_if_ne (tgt := 87) hx hb dX9_readPart_82 (by decide) (fun q_ => ?_) (fun q_ => ?_)
    · have hw := hw.2 q_
      refine lv_aload_n hx hb dX9_readPart_87 rfl (lv_at hl 0 rfl) ?_
      refine lv_dup hx hb dX9_readPart_88 rfl ?_
      refine va_get (D := D) (ci := 11) (v := .long (mJ σ_2 28)) (C := RX9) (T := TX9) (N := 32) hx hb hts (in_tb inX9) hown hK hP 0 rfl rfl 28 (by decide) (hts _ (List.mem_cons_of_mem _ tw_5_138)) (fun _ h9 => h9) rfl dX9_readPart_89 ?_
      refine lv_aload_n hx hb dX9_readPart_92 rfl (lv_at hl 0 rfl) ?_
      refine va_get (D := D) (ci := 11) (v := .int (mI σ_2 25)) (C := RX9) (T := TX9) (N := 32) hx hb hts (in_tb inX9) hown hK hP 0 rfl rfl 25 (by decide) (hts _ (List.mem_cons_of_mem _ tw_5_135)) (fun _ h9 => h9) rfl dX9_readPart_93 ?_
      refine lv_i2l hx hb dX9_readPart_96 rfl ?_
      refine lv_iload_n hx hb dX9_readPart_97 rfl (lv_at hl 1 rfl) ?_
      refine lv_bipush (v := 68) hx hb dX9_readPart_98 (by decide) ?_
      refine lv_icmp_ne (tgt := 108) hx hb dX9_readPart_100 (by decide) (fun q_ => ?_) (fun q_ => ?_)
      · have hw := hw.2 q_
        refine lv_iload_n hx hb dX9_readPart_108 rfl (lv_at hl 1 rfl) ?_
        refine lv_bipush (v := 65) hx hb dX9_readPart_109 (by decide) ?_
        refine lv_icmp_ne (tgt := 119) hx hb dX9_readPart_111 (by decide) (fun q_ => ?_) (fun q_ => ?_)
        · have hw := hw.2 q_
          refine lv_bipush (v := 16) hx hb dX9_readPart_119 (by decide) ?_
          exact kB_X9_readPart_0_121 C vM 16 ((mI σ_2 25).toInt64) (mJ σ_2 28) σ_2 _ _ _ hG (lv_sub hl [] rfl) hw
        · have hw := hw.1 q_
          refine lv_bipush (v := 12) hx hb dX9_readPart_114 (by decide) ?_
          refine lv_goto (tgt := 121) hx hb dX9_readPart_116 (by decide) ?_
          exact kB_X9_readPart_0_121 C vM 12 ((mI σ_2 25).toInt64) (mJ σ_2 28) σ_2 _ _ _ hG (lv_sub hl [] rfl) hw
      · have hw := hw.1 q_
        refine lv_bipush (v := 8) hx hb dX9_readPart_103 (by decide) ?_
        refine lv_goto (tgt := 121) hx hb dX9_readPart_105 (by decide) ?_
        exact kB_X9_readPart_0_121 C vM 8 ((mI σ_2 25).toInt64) (mJ σ_2 28) σ_2 _ _ _ hG (lv_sub hl [] rfl) hw
    · have hw := hw.1 q_
      refine lv_iconst (v := 0) hx hb dX9_readPart_85 (by decide) ?_
      exact W.zret (v := 0) (ty := .boolean) hx hb hr rfl (fun t ht hW => ⟨⟨_, σ_2, rfl, hw, by rw [ht]; exact hP, va_K.moved hW.alike hK, hD⟩, hS.F ht⟩) hS.2.2 dX9_readPart_86 hlk
  by_cases q_1 : x1 = 66
  · have hw := hw1 q_1
    refine lv_lookup (tgt := 76) hx hb dX9_readPart_1 (by decide) (by rw [q_1] <;> rfl) (by decide) ?_
    refine lv_aload_n hx hb dX9_readPart_76 rfl (lv_at hl 0 rfl) ?_
    refine lv_bipush (v := 114) hx hb dX9_readPart_77 (by decide) ?_
    refine mV_i (As := [.int 114]) (rest := []) C (met_X9_readRegister vE vM hw) (va_recv hK hP (ci := 11) (q0 := 0) rfl rfl) (cwV 1 hts (TB_G (TB_4 tw_6_47 tw_6_49 ts_40 tw_1_13) tw_6_50) rfl rfl rfl (by decide +kernel) ⟨by decide, by decide⟩) hP hD hS rfl hl.1 rfl (Nat.le_of_ble_eq_true rfl) dX9_readPart_79 ⟨by decide, by decide⟩ (fun r_3 σ_4 H locs hw hP hD hS => ?_)
    have hG : mG D cA h ad A s σ_4 H locs := ⟨hP, hD, hS⟩
    refine lv_if_ne (tgt := 87) hx hb dX9_readPart_82 (by decide) (fun q_ => ?_) (fun q_ => ?_)
    · have hw := hw.2 q_
      refine lv_aload_n hx hb dX9_readPart_87 rfl (lv_at hl 0 rfl) ?_
      refine lv_dup hx hb dX9_readPart_88 rfl ?_
      refine va_get (D := D) (ci := 11) (v := .long (mJ σ_4 28)) (C := RX9) (T := TX9) (N := 32) hx hb hts (in_tb inX9) hown hK hP 0 rfl rfl 28 (by decide) (hts _ (List.mem_cons_of_mem _ tw_5_138)) (fun _ h9 => h9) rfl dX9_readPart_89 ?_
      refine lv_aload_n hx hb dX9_readPart_92 rfl (lv_at hl 0 rfl) ?_
      refine va_get (D := D) (ci := 11) (v := .int (mI σ_4 25)) (C := RX9) (T := TX9) (N := 32) hx hb hts (in_tb inX9) hown hK hP 0 rfl rfl 25 (by decide) (hts _ (List.mem_cons_of_mem _ tw_5_135)) (fun _ h9 => h9) rfl dX9_readPart_93 ?_
      refine lv_i2l hx hb dX9_readPart_96 rfl ?_
      refine lv_iload_n hx hb dX9_readPart_97 rfl (lv_at hl 1 rfl) ?_
      refine lv_bipush (v := 68) hx hb dX9_readPart_98 (by decide) ?_
      refine lv_icmp_ne (tgt := 108) hx hb dX9_readPart_100 (by decide) (fun q_ => ?_) (fun q_ => ?_)
      · have hw := hw.2 q_
        refine lv_iload_n hx hb dX9_readPart_108 rfl (lv_at hl 1 rfl) ?_
        refine lv_bipush (v := 65) hx hb dX9_readPart_109 (by decide) ?_
        refine lv_icmp_ne (tgt := 119) hx hb dX9_readPart_111 (by decide) (fun q_ => ?_) (fun q_ => ?_)
        · have hw := hw.2 q_
          refine lv_bipush (v := 16) hx hb dX9_readPart_119 (by decide) ?_
          exact kB_X9_readPart_0_121 C vM 16 ((mI σ_4 25).toInt64) (mJ σ_4 28) σ_4 _ _ _ hG (lv_sub hl [] rfl) hw
        · have hw := hw.1 q_
          refine lv_bipush (v := 12) hx hb dX9_readPart_114 (by decide) ?_
          refine lv_goto (tgt := 121) hx hb dX9_readPart_116 (by decide) ?_
          exact kB_X9_readPart_0_121 C vM 12 ((mI σ_4 25).toInt64) (mJ σ_4 28) σ_4 _ _ _ hG (lv_sub hl [] rfl) hw
      · have hw := hw.1 q_
        refine lv_bipush (v := 8) hx hb dX9_readPart_103 (by decide) ?_
        refine lv_goto (tgt := 121) hx hb dX9_readPart_105 (by decide) ?_
        exact kB_X9_readPart_0_121 C vM 8 ((mI σ_4 25).toInt64) (mJ σ_4 28) σ_4 _ _ _ hG (lv_sub hl [] rfl) hw
    · have hw := hw.1 q_
      refine lv_iconst (v := 0) hx hb dX9_readPart_85 (by decide) ?_
      exact W.zret (v := 0) (ty := .boolean) hx hb hr rfl (fun t ht hW => ⟨⟨_, σ_4, rfl, hw, by rw [ht]; exact hP, va_K.moved hW.alike hK, hD⟩, hS.F ht⟩) hS.2.2 dX9_readPart_86 hlk
  by_cases q_2 : x1 = 68
  · have hw := hw2 q_2
    refine lv_lookup (tgt := 76) hx hb dX9_readPart_1 (by decide) (by rw [q_2] <;> rfl) (by decide) ?_
    refine lv_aload_n hx hb dX9_readPart_76 rfl (lv_at hl 0 rfl) ?_
    refine lv_bipush (v := 114) hx hb dX9_readPart_77 (by decide) ?_
    refine mV_i (As := [.int 114]) (rest := []) C (met_X9_readRegister vE vM hw) (va_recv hK hP (ci := 11) (q0 := 0) rfl rfl) (cwV 1 hts (TB_G (TB_4 tw_6_47 tw_6_49 ts_40 tw_1_13) tw_6_50) rfl rfl rfl (by decide +kernel) ⟨by decide, by decide⟩) hP hD hS rfl hl.1 rfl (Nat.le_of_ble_eq_true rfl) dX9_readPart_79 ⟨by decide, by decide⟩ (fun r_5 σ_6 H locs hw hP hD hS => ?_)
    have hG : mG D cA h ad A s σ_6 H locs := ⟨hP, hD, hS⟩
    refine lv_if_ne (tgt := 87) hx hb dX9_readPart_82 (by decide) (fun q_ => ?_) (fun q_ => ?_)
    · have hw := hw.2 q_
      refine lv_aload_n hx hb dX9_readPart_87 rfl (lv_at hl 0 rfl) ?_
      refine lv_dup hx hb dX9_readPart_88 rfl ?_
      refine va_get (D := D) (ci := 11) (v := .long (mJ σ_6 28)) (C := RX9) (T := TX9) (N := 32) hx hb hts (in_tb inX9) hown hK hP 0 rfl rfl 28 (by decide) (hts _ (List.mem_cons_of_mem _ tw_5_138)) (fun _ h9 => h9) rfl dX9_readPart_89 ?_
      refine lv_aload_n hx hb dX9_readPart_92 rfl (lv_at hl 0 rfl) ?_
      refine va_get (D := D) (ci := 11) (v := .int (mI σ_6 25)) (C := RX9) (T := TX9) (N := 32) hx hb hts (in_tb inX9) hown hK hP 0 rfl rfl 25 (by decide) (hts _ (List.mem_cons_of_mem _ tw_5_135)) (fun _ h9 => h9) rfl dX9_readPart_93 ?_
      refine lv_i2l hx hb dX9_readPart_96 rfl ?_
      refine lv_iload_n hx hb dX9_readPart_97 rfl (lv_at hl 1 rfl) ?_
      refine lv_bipush (v := 68) hx hb dX9_readPart_98 (by decide) ?_
      refine lv_icmp_ne (tgt := 108) hx hb dX9_readPart_100 (by decide) (fun q_ => ?_) (fun q_ => ?_)
      · have hw := hw.2 q_
        refine lv_iload_n hx hb dX9_readPart_108 rfl (lv_at hl 1 rfl) ?_
        refine lv_bipush (v := 65) hx hb dX9_readPart_109 (by decide) ?_
        refine lv_icmp_ne (tgt := 119) hx hb dX9_readPart_111 (by decide) (fun q_ => ?_) (fun q_ => ?_)
        · have hw := hw.2 q_
          refine lv_bipush (v := 16) hx hb dX9_readPart_119 (by decide) ?_
          exact kB_X9_readPart_0_121 C vM 16 ((mI σ_6 25).toInt64) (mJ σ_6 28) σ_6 _ _ _ hG (lv_sub hl [] rfl) hw
        · have hw := hw.1 q_
          refine lv_bipush (v := 12) hx hb dX9_readPart_114 (by decide) ?_
          refine lv_goto (tgt := 121) hx hb dX9_readPart_116 (by decide) ?_
          exact kB_X9_readPart_0_121 C vM 12 ((mI σ_6 25).toInt64) (mJ σ_6 28) σ_6 _ _ _ hG (lv_sub hl [] rfl) hw
      · have hw := hw.1 q_
        refine lv_bipush (v := 8) hx hb dX9_readPart_103 (by decide) ?_
        refine lv_goto (tgt := 121) hx hb dX9_readPart_105 (by decide) ?_
        exact kB_X9_readPart_0_121 C vM 8 ((mI σ_6 25).toInt64) (mJ σ_6 28) σ_6 _ _ _ hG (lv_sub hl [] rfl) hw
    · have hw := hw.1 q_
      refine lv_iconst (v := 0) hx hb dX9_readPart_85 (by decide) ?_
      exact W.zret (v := 0) (ty := .boolean) hx hb hr rfl (fun t ht hW => ⟨⟨_, σ_6, rfl, hw, by rw [ht]; exact hP, va_K.moved hW.alike hK, hD⟩, hS.F ht⟩) hS.2.2 dX9_readPart_86 hlk
  by_cases q_3 : x1 = 77
  · have hw := hw3 q_3
    refine lv_lookup (tgt := 210) hx hb dX9_readPart_1 (by decide) (by rw [q_3] <;> rfl) (by decide) ?_
    refine lv_aload_n hx hb dX9_readPart_210 rfl (lv_at hl 0 rfl) ?_
    refine lv_bipush (v := 40) hx hb dX9_readPart_211 (by decide) ?_
    refine mV_i (As := [.int 40]) (rest := []) C (met_X9_want vE vM hw) (va_recv hK hP (ci := 11) (q0 := 0) rfl rfl) (cwV 1 hts (TB_G (TB_4 tw_6_43 tw_6_45 ts_39 tw_1_13) tw_6_46) rfl rfl rfl (by decide +kernel) ⟨by decide, by decide⟩) hP hD hS rfl hl.1 rfl (Nat.le_of_ble_eq_true rfl) dX9_readPart_213 ⟨by decide, by decide⟩ (fun r_7 σ_8 H locs hw hP hD hS => ?_)
    have hG : mG D cA h ad A s σ_8 H locs := ⟨hP, hD, hS⟩
    refine lv_if_eq (tgt := 246) hx hb dX9_readPart_216 (by decide) (fun q_ => ?_) (fun q_ => ?_)
    · have hw := hw.1 q_
      exact kB_X9_readPart_0_246 C vM  σ_8 _ _ _ hG (lv_sub hl [] rfl) hw
    · have hw := hw.2 q_
      refine lv_aload_n hx hb dX9_readPart_219 rfl (lv_at hl 0 rfl) ?_
      refine lv_bipush (v := 65) hx hb dX9_readPart_220 (by decide) ?_
      exact hw.elim
  by_cases q_4 : x1 = 80
  · have hw := hw4 q_4
    refine lv_lookup (tgt := 180) hx hb dX9_readPart_1 (by decide) (by rw [q_4] <;> rfl) (by decide) ?_
    refine lv_aload_n hx hb dX9_readPart_180 rfl (lv_at hl 0 rfl) ?_
    refine lv_bipush (v := 112) hx hb dX9_readPart_181 (by decide) ?_
    refine mV_i (As := [.int 112]) (rest := []) C (met_X9_readRegister vE vM hw) (va_recv hK hP (ci := 11) (q0 := 0) rfl rfl) (cwV 1 hts (TB_G (TB_4 tw_6_47 tw_6_49 ts_40 tw_1_13) tw_6_50) rfl rfl rfl (by decide +kernel) ⟨by decide, by decide⟩) hP hD hS rfl hl.1 rfl (Nat.le_of_ble_eq_true rfl) dX9_readPart_183 ⟨by decide, by decide⟩ (fun r_9 σ_10 H locs hw hP hD hS => ?_)
    have hG : mG D cA h ad A s σ_10 H locs := ⟨hP, hD, hS⟩
    refine lv_if_ne (tgt := 191) hx hb dX9_readPart_186 (by decide) (fun q_ => ?_) (fun q_ => ?_)
    · have hw := hw.2 q_
      refine lv_aload_n hx hb dX9_readPart_191 rfl (lv_at hl 0 rfl) ?_
      refine lv_dup hx hb dX9_readPart_192 rfl ?_
      refine va_get (D := D) (ci := 11) (v := .long (mJ σ_10 28)) (C := RX9) (T := TX9) (N := 32) hx hb hts (in_tb inX9) hown hK hP 0 rfl rfl 28 (by decide) (hts _ (List.mem_cons_of_mem _ tw_5_138)) (fun _ h9 => h9) rfl dX9_readPart_193 ?_
      refine lv_aload_n hx hb dX9_readPart_196 rfl (lv_at hl 0 rfl) ?_
      refine va_get (D := D) (ci := 11) (v := .int (mI σ_10 25)) (C := RX9) (T := TX9) (N := 32) hx hb hts (in_tb inX9) hown hK hP 0 rfl rfl 25 (by decide) (hts _ (List.mem_cons_of_mem _ tw_5_135)) (fun _ h9 => h9) rfl dX9_readPart_197 ?_
      refine lv_i2l hx hb dX9_readPart_200 rfl ?_
      refine mS_l (As := [.long ((mI σ_10 25).toInt64)]) (rest := [.long (mJ σ_10 28), .ref h]) C (met_X9_number vE vM hw) (va_cwS 1 hts (TB_G (TB_3 tw_6_73 tw_6_74 tw_1_13) tw_6_75) rfl rfl rfl (by decide +kernel) ⟨by decide, by decide⟩) hP hD hS rfl hl.1 rfl (Nat.le_of_ble_eq_true rfl) dX9_readPart_201 ⟨by decide, by decide⟩ (fun r_11 H locs hw hP hS => ?_)
      have hG : mG D cA h ad A s σ_10 H locs := ⟨hP, hD, hS⟩
      refine lv_lor hx hb dX9_readPart_204 ?_
      refine va_put (D := D) (ci := 11) (v := .long ((mJ σ_10 28) ||| r_11)) (ty := .long) (C := RX9) (T := TX9) (N := 32) hx hb hts (in_tb inX9) tyX9 tyX9_ok nmX9 hown hK hP hD hS 0 rfl rfl 28 (by decide) (hts _ (List.mem_cons_of_mem _ tw_5_138)) (fun _ h9 => h9) rfl (by decide +kernel) rfl rfl (Nat.le_of_ble_eq_true rfl) dX9_readPart_205 (fun H locs hP hD hS => ?_)
      have hG : mG D cA h ad A s (wJ σ_10 28 ((mJ σ_10 28) ||| r_11)) H locs := ⟨hP, hD, hS⟩
      obtain ⟨hP, hD, hS⟩ := id hG
      refine lv_iconst (v := 1) hx hb dX9_readPart_208 (by decide) ?_
      exact W.zret (v := 1) (ty := .boolean) hx hb hr rfl (fun t ht hW => ⟨⟨_, (wJ σ_10 28 ((mJ σ_10 28) ||| r_11)), rfl, hw, by rw [ht]; exact hP, va_K.moved hW.alike hK, hD⟩, hS.F ht⟩) hS.2.2 dX9_readPart_209 hlk
    · have hw := hw.1 q_
      refine lv_iconst (v := 0) hx hb dX9_readPart_189 (by decide) ?_
      exact W.zret (v := 0) (ty := .boolean) hx hb hr rfl (fun t ht hW => ⟨⟨_, σ_10, rfl, hw, by rw [ht]; exact hP, va_K.moved hW.alike hK, hD⟩, hS.F ht⟩) hS.2.2 dX9_readPart_190 hlk
  by_cases q_5 : x1 = 97
  · have hw := hw5 q_5
    refine lv_lookup (tgt := 128) hx hb dX9_readPart_1 (by decide) (by rw [q_5] <;> rfl) (by decide) ?_
    refine lv_aload_n hx hb dX9_readPart_128 rfl (lv_at hl 0 rfl) ?_
    refine lv_bipush (v := 112) hx hb dX9_readPart_129 (by decide) ?_
    refine mV_i (As := [.int 112]) (rest := []) C (met_X9_readRegister vE vM hw) (va_recv hK hP (ci := 11) (q0 := 0) rfl rfl) (cwV 1 hts (TB_G (TB_4 tw_6_47 tw_6_49 ts_40 tw_1_13) tw_6_50) rfl rfl rfl (by decide +kernel) ⟨by decide, by decide⟩) hP hD hS rfl hl.1 rfl (Nat.le_of_ble_eq_true rfl) dX9_readPart_131 ⟨by decide, by decide⟩ (fun r_13 σ_14 H locs hw hP hD hS => ?_)
    have hG : mG D cA h ad A s σ_14 H locs := ⟨hP, hD, hS⟩
    refine lv_if_ne (tgt := 139) hx hb dX9_readPart_134 (by decide) (fun q_ => ?_) (fun q_ => ?_)
    · have hw := hw.2 q_
      refine lv_aload_n hx hb dX9_readPart_139 rfl (lv_at hl 0 rfl) ?_
      refine lv_dup hx hb dX9_readPart_140 rfl ?_
      refine va_get (D := D) (ci := 11) (v := .long (mJ σ_14 28)) (C := RX9) (T := TX9) (N := 32) hx hb hts (in_tb inX9) hown hK hP 0 rfl rfl 28 (by decide) (hts _ (List.mem_cons_of_mem _ tw_5_138)) (fun _ h9 => h9) rfl dX9_readPart_141 ?_
      refine lv_aload_n hx hb dX9_readPart_144 rfl (lv_at hl 0 rfl) ?_
      refine va_get (D := D) (ci := 11) (v := .int (mI σ_14 25)) (C := RX9) (T := TX9) (N := 32) hx hb hts (in_tb inX9) hown hK hP 0 rfl rfl 25 (by decide) (hts _ (List.mem_cons_of_mem _ tw_5_135)) (fun _ h9 => h9) rfl dX9_readPart_145 ?_
      refine lv_i2l hx hb dX9_readPart_148 rfl ?_
      refine lv_iload_n hx hb dX9_readPart_149 rfl (lv_at hl 1 rfl) ?_
      refine lv_bipush (v := 100) hx hb dX9_readPart_150 (by decide) ?_
      refine lv_icmp_ne (tgt := 160) hx hb dX9_readPart_152 (by decide) (fun q_ => ?_) (fun q_ => ?_)
      · have hw := hw.2 q_
        refine lv_iload_n hx hb dX9_readPart_160 rfl (lv_at hl 1 rfl) ?_
        refine lv_bipush (v := 97) hx hb dX9_readPart_161 (by decide) ?_
        refine lv_icmp_ne (tgt := 171) hx hb dX9_readPart_163 (by decide) (fun q_ => ?_) (fun q_ => ?_)
        · have hw := hw.2 q_
          refine lv_bipush (v := 16) hx hb dX9_readPart_171 (by decide) ?_
          exact kB_X9_readPart_0_173 C vM 16 ((mI σ_14 25).toInt64) (mJ σ_14 28) σ_14 _ _ _ hG (lv_sub hl [] rfl) hw
        · have hw := hw.1 q_
          refine lv_bipush (v := 12) hx hb dX9_readPart_166 (by decide) ?_
          refine lv_goto (tgt := 173) hx hb dX9_readPart_168 (by decide) ?_
          exact kB_X9_readPart_0_173 C vM 12 ((mI σ_14 25).toInt64) (mJ σ_14 28) σ_14 _ _ _ hG (lv_sub hl [] rfl) hw
      · have hw := hw.1 q_
        refine lv_bipush (v := 8) hx hb dX9_readPart_155 (by decide) ?_
        refine lv_goto (tgt := 173) hx hb dX9_readPart_157 (by decide) ?_
        exact kB_X9_readPart_0_173 C vM 8 ((mI σ_14 25).toInt64) (mJ σ_14 28) σ_14 _ _ _ hG (lv_sub hl [] rfl) hw
    · have hw := hw.1 q_
      refine lv_iconst (v := 0) hx hb dX9_readPart_137 (by decide) ?_
      exact W.zret (v := 0) (ty := .boolean) hx hb hr rfl (fun t ht hW => ⟨⟨_, σ_14, rfl, hw, by rw [ht]; exact hP, va_K.moved hW.alike hK, hD⟩, hS.F ht⟩) hS.2.2 dX9_readPart_138 hlk
  by_cases q_6 : x1 = 98
  · have hw := hw6 q_6
    refine lv_lookup (tgt := 128) hx hb dX9_readPart_1 (by decide) (by rw [q_6] <;> rfl) (by decide) ?_
    refine lv_aload_n hx hb dX9_readPart_128 rfl (lv_at hl 0 rfl) ?_
    refine lv_bipush (v := 112) hx hb dX9_readPart_129 (by decide) ?_
    refine mV_i (As := [.int 112]) (rest := []) C (met_X9_readRegister vE vM hw) (va_recv hK hP (ci := 11) (q0 := 0) rfl rfl) (cwV 1 hts (TB_G (TB_4 tw_6_47 tw_6_49 ts_40 tw_1_13) tw_6_50) rfl rfl rfl (by decide +kernel) ⟨by decide, by decide⟩) hP hD hS rfl hl.1 rfl (Nat.le_of_ble_eq_true rfl) dX9_readPart_131 ⟨by decide, by decide⟩ (fun r_15 σ_16 H locs hw hP hD hS => ?_)
    have hG : mG D cA h ad A s σ_16 H locs := ⟨hP, hD, hS⟩
    refine lv_if_ne (tgt := 139) hx hb dX9_readPart_134 (by decide) (fun q_ => ?_) (fun q_ => ?_)
    · have hw := hw.2 q_
      refine lv_aload_n hx hb dX9_readPart_139 rfl (lv_at hl 0 rfl) ?_
      refine lv_dup hx hb dX9_readPart_140 rfl ?_
      refine va_get (D := D) (ci := 11) (v := .long (mJ σ_16 28)) (C := RX9) (T := TX9) (N := 32) hx hb hts (in_tb inX9) hown hK hP 0 rfl rfl 28 (by decide) (hts _ (List.mem_cons_of_mem _ tw_5_138)) (fun _ h9 => h9) rfl dX9_readPart_141 ?_
      refine lv_aload_n hx hb dX9_readPart_144 rfl (lv_at hl 0 rfl) ?_
      refine va_get (D := D) (ci := 11) (v := .int (mI σ_16 25)) (C := RX9) (T := TX9) (N := 32) hx hb hts (in_tb inX9) hown hK hP 0 rfl rfl 25 (by decide) (hts _ (List.mem_cons_of_mem _ tw_5_135)) (fun _ h9 => h9) rfl dX9_readPart_145 ?_
      refine lv_i2l hx hb dX9_readPart_148 rfl ?_
      refine lv_iload_n hx hb dX9_readPart_149 rfl (lv_at hl 1 rfl) ?_
      refine lv_bipush (v := 100) hx hb dX9_readPart_150 (by decide) ?_
      refine lv_icmp_ne (tgt := 160) hx hb dX9_readPart_152 (by decide) (fun q_ => ?_) (fun q_ => ?_)
      · have hw := hw.2 q_
        refine lv_iload_n hx hb dX9_readPart_160 rfl (lv_at hl 1 rfl) ?_
        refine lv_bipush (v := 97) hx hb dX9_readPart_161 (by decide) ?_
        refine lv_icmp_ne (tgt := 171) hx hb dX9_readPart_163 (by decide) (fun q_ => ?_) (fun q_ => ?_)
        · have hw := hw.2 q_
          refine lv_bipush (v := 16) hx hb dX9_readPart_171 (by decide) ?_
          exact kB_X9_readPart_0_173 C vM 16 ((mI σ_16 25).toInt64) (mJ σ_16 28) σ_16 _ _ _ hG (lv_sub hl [] rfl) hw
        · have hw := hw.1 q_
          refine lv_bipush (v := 12) hx hb dX9_readPart_166 (by decide) ?_
          refine lv_goto (tgt := 173) hx hb dX9_readPart_168 (by decide) ?_
          exact kB_X9_readPart_0_173 C vM 12 ((mI σ_16 25).toInt64) (mJ σ_16 28) σ_16 _ _ _ hG (lv_sub hl [] rfl) hw
      · have hw := hw.1 q_
        refine lv_bipush (v := 8) hx hb dX9_readPart_155 (by decide) ?_
        refine lv_goto (tgt := 173) hx hb dX9_readPart_157 (by decide) ?_
        exact kB_X9_readPart_0_173 C vM 8 ((mI σ_16 25).toInt64) (mJ σ_16 28) σ_16 _ _ _ hG (lv_sub hl [] rfl) hw
    · have hw := hw.1 q_
      refine lv_iconst (v := 0) hx hb dX9_readPart_137 (by decide) ?_
      exact W.zret (v := 0) (ty := .boolean) hx hb hr rfl (fun t ht hW => ⟨⟨_, σ_16, rfl, hw, by rw [ht]; exact hP, va_K.moved hW.alike hK, hD⟩, hS.F ht⟩) hS.2.2 dX9_readPart_138 hlk
  by_cases q_7 : x1 = 100
  · have hw := hw7 q_7
    refine lv_lookup (tgt := 128) hx hb dX9_readPart_1 (by decide) (by rw [q_7] <;> rfl) (by decide) ?_
    refine lv_aload_n hx hb dX9_readPart_128 rfl (lv_at hl 0 rfl) ?_
    refine lv_bipush (v := 112) hx hb dX9_readPart_129 (by decide) ?_
    refine mV_i (As := [.int 112]) (rest := []) C (met_X9_readRegister vE vM hw) (va_recv hK hP (ci := 11) (q0 := 0) rfl rfl) (cwV 1 hts (TB_G (TB_4 tw_6_47 tw_6_49 ts_40 tw_1_13) tw_6_50) rfl rfl rfl (by decide +kernel) ⟨by decide, by decide⟩) hP hD hS rfl hl.1 rfl (Nat.le_of_ble_eq_true rfl) dX9_readPart_131 ⟨by decide, by decide⟩ (fun r_17 σ_18 H locs hw hP hD hS => ?_)
    have hG : mG D cA h ad A s σ_18 H locs := ⟨hP, hD, hS⟩
    refine lv_if_ne (tgt := 139) hx hb dX9_readPart_134 (by decide) (fun q_ => ?_) (fun q_ => ?_)
    · have hw := hw.2 q_
      refine lv_aload_n hx hb dX9_readPart_139 rfl (lv_at hl 0 rfl) ?_
      refine lv_dup hx hb dX9_readPart_140 rfl ?_
      refine va_get (D := D) (ci := 11) (v := .long (mJ σ_18 28)) (C := RX9) (T := TX9) (N := 32) hx hb hts (in_tb inX9) hown hK hP 0 rfl rfl 28 (by decide) (hts _ (List.mem_cons_of_mem _ tw_5_138)) (fun _ h9 => h9) rfl dX9_readPart_141 ?_
      refine lv_aload_n hx hb dX9_readPart_144 rfl (lv_at hl 0 rfl) ?_
      refine va_get (D := D) (ci := 11) (v := .int (mI σ_18 25)) (C := RX9) (T := TX9) (N := 32) hx hb hts (in_tb inX9) hown hK hP 0 rfl rfl 25 (by decide) (hts _ (List.mem_cons_of_mem _ tw_5_135)) (fun _ h9 => h9) rfl dX9_readPart_145 ?_
      refine lv_i2l hx hb dX9_readPart_148 rfl ?_
      refine lv_iload_n hx hb dX9_readPart_149 rfl (lv_at hl 1 rfl) ?_
      refine lv_bipush (v := 100) hx hb dX9_readPart_150 (by decide) ?_
      refine lv_icmp_ne (tgt := 160) hx hb dX9_readPart_152 (by decide) (fun q_ => ?_) (fun q_ => ?_)
      · have hw := hw.2 q_
        refine lv_iload_n hx hb dX9_readPart_160 rfl (lv_at hl 1 rfl) ?_
        refine lv_bipush (v := 97) hx hb dX9_readPart_161 (by decide) ?_
        refine lv_icmp_ne (tgt := 171) hx hb dX9_readPart_163 (by decide) (fun q_ => ?_) (fun q_ => ?_)
        · have hw := hw.2 q_
          refine lv_bipush (v := 16) hx hb dX9_readPart_171 (by decide) ?_
          exact kB_X9_readPart_0_173 C vM 16 ((mI σ_18 25).toInt64) (mJ σ_18 28) σ_18 _ _ _ hG (lv_sub hl [] rfl) hw
        · have hw := hw.1 q_
          refine lv_bipush (v := 12) hx hb dX9_readPart_166 (by decide) ?_
          refine lv_goto (tgt := 173) hx hb dX9_readPart_168 (by decide) ?_
          exact kB_X9_readPart_0_173 C vM 12 ((mI σ_18 25).toInt64) (mJ σ_18 28) σ_18 _ _ _ hG (lv_sub hl [] rfl) hw
      · have hw := hw.1 q_
        refine lv_bipush (v := 8) hx hb dX9_readPart_155 (by decide) ?_
        refine lv_goto (tgt := 173) hx hb dX9_readPart_157 (by decide) ?_
        exact kB_X9_readPart_0_173 C vM 8 ((mI σ_18 25).toInt64) (mJ σ_18 28) σ_18 _ _ _ hG (lv_sub hl [] rfl) hw
    · have hw := hw.1 q_
      refine lv_iconst (v := 0) hx hb dX9_readPart_137 (by decide) ?_
      exact W.zret (v := 0) (ty := .boolean) hx hb hr rfl (fun t ht hW => ⟨⟨_, σ_18, rfl, hw, by rw [ht]; exact hP, va_K.moved hW.alike hK, hD⟩, hS.F ht⟩) hS.2.2 dX9_readPart_138 hlk
  have hw := hw8 q_0 q_1 q_2 q_3 q_4 q_5 q_6 q_7
  refine lv_lookup (off := 254) (tgt := 255) hx hb dX9_readPart_1 (by decide) ((lv_osw q_0 (by decide)).trans ((lv_osw q_1 (by decide)).trans ((lv_osw q_2 (by decide)).trans ((lv_osw q_3 (by decide)).trans ((lv_osw q_4 (by decide)).trans ((lv_osw q_5 (by decide)).trans ((lv_osw q_6 (by decide)).trans ((lv_osw q_7 (by decide)).trans (rfl))))))))) (by decide) ?_
  refine lv_aload_n hx hb dX9_readPart_255 rfl (lv_at hl 0 rfl) ?_
  refine lv_iload_n hx hb dX9_readPart_256 rfl (lv_at hl 1 rfl) ?_
  refine lv_bipush (v := 71) hx hb dX9_readPart_257 (by decide) ?_
  refine lv_icmp_ne (tgt := 266) hx hb dX9_readPart_259 (by decide) (fun q_ => ?_) (fun q_ => ?_)
  · have hw := hw.2 q_
    refine lv_iconst (v := 0) hx hb dX9_readPart_266 (by decide) ?_
    exact kB_X9_readPart_0_267 C vM 0 σ _ _ _ hG (lv_sub hl [0] rfl) hw
  · have hw := hw.1 q_
    refine lv_iconst (v := 1) hx hb dX9_readPart_262 (by decide) ?_
    refine lv_goto (tgt := 267) hx hb dX9_readPart_263 (by decide) ?_
    exact kB_X9_readPart_0_267 C vM 1 σ _ _ _ hG (lv_sub hl [0] rfl) hw
set_option maxHeartbeats 4000000 in
set_option maxRecDepth 100000 in
theorem met_X9_readPart_0 {l : Launch} {E : EnvT} (vE : EnvOk E) {D : va_G} {cA : Nat → ClassId} {h : Nat} {ad : Nat → Nat} {σ : MS} {aK aV : Nat → Nat} (vM : eMs aK aV E) {sz : Nat} {x1 : Int32} {post : Int32 → MS → Prop} (hw : wp_X9_readPart_0 post x1 σ) : Met l yX9_readPart wgX9_readPart rm_X9_readPart_0 (va_Pc [.ref h, .int x1] (mPre E D cA h ad sz σ)) (va_Qi post (mAt D cA h ad (va_A (mW cA h ad σ) sz)) (va_A (mW cA h ad σ) sz)) 0 0 (va_A (mW cA h ad σ) sz) := by
  refine Met.ofW (cc := cX9_readPart) (maxL := 2) (ret := (some .boolean)) (by decide +kernel) rfl ?_
  intro p e s m args below meth c s₁ B hml hv
  obtain ⟨rfl, hsz, hP, hK, hD0, hE⟩ := hv
  subst hsz
  have hD := hD0.self (sz := s.heap.size)
  generalize hAe : va_A (mW cA h ad σ) s.heap.size = A at hD hE ⊢
  have hA : ∀ q : Nat, s.heap.size ≤ q → A q := fun q h => by rw [← hAe]; exact Or.inr h
  have hS : va_S A s.heap s.heap [] := va_S.rf
  have C : mCx p s m _ meth c cX9_readPart 2 (some .boolean) wgX9_readPart RX9 E D cA A := ⟨B.exec, B.bytes, hml, B.returns, findClass_of_methodNamed B.named, atoms_spec (ws := wgX9_readPart) B.pre, hK, hA, B.notSynchronized, hE, vE⟩
  have hG : mG D cA h ad A s σ s.heap [] := ⟨hP, hD, hS⟩
  have hl := lv_entry ([.ref h, .int x1]) (n := 2) (Nat.le_of_ble_eq_true rfl)
  rw [lg_entry_eq]
  generalize (lg_sl ([.ref h, .int x1]) ++ List.replicate (2 - (lg_sl ([.ref h, .int x1])).length) Slot.unset).toArray = ls at hl ⊢
  have hl : lv_has ls 2 [(0, .ref h), (1, .int x1)] := hl
  exact k_X9_readPart_0 C vM x1 σ _ _ _ hG hl hw
def rm_X9_readPart : Room := { frames := 4, cells := 0, slots := 0, locals := 89 }
def wB_X9_readPart_121 (post : Int32 → MS → Prop) (t0 : Int32) (t1 : Int64) (t2 : Int64) (σ : MS) : Prop :=
  post 1 (wJ σ 28 (t2 ||| (t1 <<< (t0.toInt64 &&& 63))))
def wB_X9_readPart_246 (post : Int32 → MS → Prop) (σ : MS) : Prop :=
  post 0 σ
def wB_X9_readPart_173 (post : Int32 → MS → Prop) (t0 : Int32) (t1 : Int64) (t2 : Int64) (σ : MS) : Prop :=
  post 1 (wJ σ 28 (t2 ||| (t1 <<< (t0.toInt64 &&& 63))))
def wB_X9_readPart_299 (post : Int32 → MS → Prop) (t0 : Int64) (t1 : Int64) (σ : MS) : Prop :=
  post 1 (wJ σ 28 (t1 ||| t0))
def wB_X9_readPart_267 (post : Int32 → MS → Prop) (t0 : Int32) (σ : MS) : Prop :=
  wp_X9_readNumber (fun r_28 σ_29 => (r_28 = 0 → (post 0 σ_29)) ∧ (¬ r_28 = 0 → (((mI σ_29 27) = 0 → (wp_X9_number (fun r_30  => wB_X9_readPart_299 post r_30 (mJ σ_29 28) σ_29) (mJ σ_29 26))) ∧ (¬ (mI σ_29 27) = 0 → (wB_X9_readPart_299 post 0 (mJ σ_29 28) σ_29))))) t0 0 σ
def wp_X9_readPart (post : Int32 → MS → Prop) (x1 : Int32) (σ : MS) : Prop :=
  (x1 = 65 → (wp_X9_readRegister (fun r_1 σ_2 => (r_1 = 0 → (post 0 σ_2)) ∧ (¬ r_1 = 0 → ((x1 = 68 → (wB_X9_readPart_121 post 8 ((mI σ_2 25).toInt64) (mJ σ_2 28) σ_2)) ∧ (¬ x1 = 68 → ((x1 = 65 → (wB_X9_readPart_121 post 12 ((mI σ_2 25).toInt64) (mJ σ_2 28) σ_2)) ∧ (¬ x1 = 65 → (wB_X9_readPart_121 post 16 ((mI σ_2 25).toInt64) (mJ σ_2 28) σ_2))))))) 114 σ)) ∧ (x1 = 66 → (wp_X9_readRegister (fun r_3 σ_4 => (r_3 = 0 → (post 0 σ_4)) ∧ (¬ r_3 = 0 → ((x1 = 68 → (wB_X9_readPart_121 post 8 ((mI σ_4 25).toInt64) (mJ σ_4 28) σ_4)) ∧ (¬ x1 = 68 → ((x1 = 65 → (wB_X9_readPart_121 post 12 ((mI σ_4 25).toInt64) (mJ σ_4 28) σ_4)) ∧ (¬ x1 = 65 → (wB_X9_readPart_121 post 16 ((mI σ_4 25).toInt64) (mJ σ_4 28) σ_4))))))) 114 σ)) ∧ (x1 = 68 → (wp_X9_readRegister (fun r_5 σ_6 => (r_5 = 0 → (post 0 σ_6)) ∧ (¬ r_5 = 0 → ((x1 = 68 → (wB_X9_readPart_121 post 8 ((mI σ_6 25).toInt64) (mJ σ_6 28) σ_6)) ∧ (¬ x1 = 68 → ((x1 = 65 → (wB_X9_readPart_121 post 12 ((mI σ_6 25).toInt64) (mJ σ_6 28) σ_6)) ∧ (¬ x1 = 65 → (wB_X9_readPart_121 post 16 ((mI σ_6 25).toInt64) (mJ σ_6 28) σ_6))))))) 114 σ)) ∧ (x1 = 77 → (wp_X9_want (fun r_7 σ_8 => (r_7 = 0 → (wB_X9_readPart_246 post σ_8)) ∧ (¬ r_7 = 0 → (wp_X9_readPart_0 (fun r_9 σ_10 => (r_9 = 0 → (wB_X9_readPart_246 post σ_10)) ∧ (¬ r_9 = 0 → (wp_X9_want (fun r_11 σ_12 => (r_11 = 0 → (wB_X9_readPart_246 post σ_12)) ∧ (¬ r_11 = 0 → (wp_X9_readPart_0 (fun r_13 σ_14 => (r_13 = 0 → (wB_X9_readPart_246 post σ_14)) ∧ (¬ r_13 = 0 → (wp_X9_want (fun r_15 σ_16 => isB r_15 ∧ (post r_15 σ_16)) 41 σ_14))) 78 σ_12))) 43 σ_10))) 65 σ_8))) 40 σ)) ∧ (x1 = 80 → (wp_X9_readRegister (fun r_18 σ_19 => (r_18 = 0 → (post 0 σ_19)) ∧ (¬ r_18 = 0 → (wp_X9_number (fun r_20  => post 1 (wJ σ_19 28 ((mJ σ_19 28) ||| r_20))) ((mI σ_19 25).toInt64)))) 112 σ)) ∧ (x1 = 97 → (wp_X9_readRegister (fun r_22 σ_23 => (r_22 = 0 → (post 0 σ_23)) ∧ (¬ r_22 = 0 → ((x1 = 100 → (wB_X9_readPart_173 post 8 ((mI σ_23 25).toInt64) (mJ σ_23 28) σ_23)) ∧ (¬ x1 = 100 → ((x1 = 97 → (wB_X9_readPart_173 post 12 ((mI σ_23 25).toInt64) (mJ σ_23 28) σ_23)) ∧ (¬ x1 = 97 → (wB_X9_readPart_173 post 16 ((mI σ_23 25).toInt64) (mJ σ_23 28) σ_23))))))) 112 σ)) ∧ (x1 = 98 → (wp_X9_readRegister (fun r_24 σ_25 => (r_24 = 0 → (post 0 σ_25)) ∧ (¬ r_24 = 0 → ((x1 = 100 → (wB_X9_readPart_173 post 8 ((mI σ_25 25).toInt64) (mJ σ_25 28) σ_25)) ∧ (¬ x1 = 100 → ((x1 = 97 → (wB_X9_readPart_173 post 12 ((mI σ_25 25).toInt64) (mJ σ_25 28) σ_25)) ∧ (¬ x1 = 97 → (wB_X9_readPart_173 post 16 ((mI σ_25 25).toInt64) (mJ σ_25 28) σ_25))))))) 112 σ)) ∧ (x1 = 100 → (wp_X9_readRegister (fun r_26 σ_27 => (r_26 = 0 → (post 0 σ_27)) ∧ (¬ r_26 = 0 → ((x1 = 100 → (wB_X9_readPart_173 post 8 ((mI σ_27 25).toInt64) (mJ σ_27 28) σ_27)) ∧ (¬ x1 = 100 → ((x1 = 97 → (wB_X9_readPart_173 post 12 ((mI σ_27 25).toInt64) (mJ σ_27 28) σ_27)) ∧ (¬ x1 = 97 → (wB_X9_readPart_173 post 16 ((mI σ_27 25).toInt64) (mJ σ_27 28) σ_27))))))) 112 σ)) ∧ (¬ x1 = 65 → ¬ x1 = 66 → ¬ x1 = 68 → ¬ x1 = 77 → ¬ x1 = 80 → ¬ x1 = 97 → ¬ x1 = 98 → ¬ x1 = 100 → ((x1 = 71 → (wB_X9_readPart_267 post 1 σ)) ∧ (¬ x1 = 71 → (wB_X9_readPart_267 post 0 σ))))
set_option maxHeartbeats 4000000 in
set_option maxRecDepth 100000 in
theorem kB_X9_readPart_121 {p : Program} {l : Launch} {e : Env} {s : State} {m : MethodId} {args : Array Value} {below : List Frame} {meth : Method} {c : Code} {A : Nat → Prop} {E : EnvT} {aK aV : Nat → Nat} {D : va_G} {cA : Nat → ClassId} {h : Nat} {ad : Nat → Nat} (C : mCx p s m args meth c cX9_readPart 2 (some .boolean) wgX9_readPart RX9 E D cA A) (vM : eMs aK aV E) {post : Int32 → MS → Prop} :
    ∀ (t0 : Int32) (t1 : Int64) (t2 : Int64) (σ : MS) (H : Heap) (locs : List Loc) (ls : Array Slot), mG D cA h ad A s σ H locs → lv_has ls 2 [] → wB_X9_readPart_121 post t0 t1 t2 σ → W p l e rm_X9_readPart s m args below meth c H locs 0 0 (MQ below (va_Qi post (mAt D cA h ad A) A) args s 0 0 A) (F0 m 121 ls [.int t0, .long t1, .long t2, .ref h]) := by
  obtain ⟨hx, hb, hml, hr, hown, hts, hK, hA, hlk, hE, vE⟩ := id C
  intro t0 t1 t2 σ H locs ls hG hl hw
  obtain ⟨hP, hD, hS⟩ := id hG
  refine lv_lshl hx hb dX9_readPart_121 rfl ?_
  refine lv_lor hx hb dX9_readPart_122 ?_
  refine va_put (D := D) (ci := 11) (v := .long (t2 ||| (t1 <<< (t0.toInt64 &&& 63)))) (ty := .long) (C := RX9) (T := TX9) (N := 32) hx hb hts (in_tb inX9) tyX9 tyX9_ok nmX9 hown hK hP hD hS 0 rfl rfl 28 (by decide) (hts _ (List.mem_cons_of_mem _ tw_5_138)) (fun _ h9 => h9) rfl (by decide +kernel) rfl rfl (Nat.le_of_ble_eq_true rfl) dX9_readPart_123 (fun H locs hP hD hS => ?_)
  have hG : mG D cA h ad A s (wJ σ 28 (t2 ||| (t1 <<< (t0.toInt64 &&& 63)))) H locs := ⟨hP, hD, hS⟩
  obtain ⟨hP, hD, hS⟩ := id hG
  refine lv_iconst (v := 1) hx hb dX9_readPart_126 (by decide) ?_
  exact W.zret (v := 1) (ty := .boolean) hx hb hr rfl (fun t ht hW => ⟨⟨_, (wJ σ 28 (t2 ||| (t1 <<< (t0.toInt64 &&& 63)))), rfl, hw, by rw [ht]; exact hP, va_K.moved hW.alike hK, hD⟩, hS.F ht⟩) hS.2.2 dX9_readPart_127 hlk
set_option maxHeartbeats 4000000 in
set_option maxRecDepth 100000 in
theorem kB_X9_readPart_246 {p : Program} {l : Launch} {e : Env} {s : State} {m : MethodId} {args : Array Value} {below : List Frame} {meth : Method} {c : Code} {A : Nat → Prop} {E : EnvT} {aK aV : Nat → Nat} {D : va_G} {cA : Nat → ClassId} {h : Nat} {ad : Nat → Nat} (C : mCx p s m args meth c cX9_readPart 2 (some .boolean) wgX9_readPart RX9 E D cA A) (vM : eMs aK aV E) {post : Int32 → MS → Prop} :
    ∀ (σ : MS) (H : Heap) (locs : List Loc) (ls : Array Slot), mG D cA h ad A s σ H locs → lv_has ls 2 [] → wB_X9_readPart_246 post σ → W p l e rm_X9_readPart s m args below meth c H locs 0 0 (MQ below (va_Qi post (mAt D cA h ad A) A) args s 0 0 A) (F0 m 246 ls []) := by
  obtain ⟨hx, hb, hml, hr, hown, hts, hK, hA, hlk, hE, vE⟩ := id C
  intro σ H locs ls hG hl hw
  obtain ⟨hP, hD, hS⟩ := id hG
  refine lv_iconst (v := 0) hx hb dX9_readPart_246 (by decide) ?_
  exact W.zret (v := 0) (ty := .boolean) hx hb hr rfl (fun t ht hW => ⟨⟨_, σ, rfl, hw, by rw [ht]; exact hP, va_K.moved hW.alike hK, hD⟩, hS.F ht⟩) hS.2.2 dX9_readPart_247 hlk
set_option maxHeartbeats 4000000 in
set_option maxRecDepth 100000 in
theorem kB_X9_readPart_173 {p : Program} {l : Launch} {e : Env} {s : State} {m : MethodId} {args : Array Value} {below : List Frame} {meth : Method} {c : Code} {A : Nat → Prop} {E : EnvT} {aK aV : Nat → Nat} {D : va_G} {cA : Nat → ClassId} {h : Nat} {ad : Nat → Nat} (C : mCx p s m args meth c cX9_readPart 2 (some .boolean) wgX9_readPart RX9 E D cA A) (vM : eMs aK aV E) {post : Int32 → MS → Prop} :
    ∀ (t0 : Int32) (t1 : Int64) (t2 : Int64) (σ : MS) (H : Heap) (locs : List Loc) (ls : Array Slot), mG D cA h ad A s σ H locs → lv_has ls 2 [] → wB_X9_readPart_173 post t0 t1 t2 σ → W p l e rm_X9_readPart s m args below meth c H locs 0 0 (MQ below (va_Qi post (mAt D cA h ad A) A) args s 0 0 A) (F0 m 173 ls [.int t0, .long t1, .long t2, .ref h]) := by
  obtain ⟨hx, hb, hml, hr, hown, hts, hK, hA, hlk, hE, vE⟩ := id C
  intro t0 t1 t2 σ H locs ls hG hl hw
  obtain ⟨hP, hD, hS⟩ := id hG
  refine lv_lshl hx hb dX9_readPart_173 rfl ?_
  refine lv_lor hx hb dX9_readPart_174 ?_
  refine va_put (D := D) (ci := 11) (v := .long (t2 ||| (t1 <<< (t0.toInt64 &&& 63)))) (ty := .long) (C := RX9) (T := TX9) (N := 32) hx hb hts (in_tb inX9) tyX9 tyX9_ok nmX9 hown hK hP hD hS 0 rfl rfl 28 (by decide) (hts _ (List.mem_cons_of_mem _ tw_5_138)) (fun _ h9 => h9) rfl (by decide +kernel) rfl rfl (Nat.le_of_ble_eq_true rfl) dX9_readPart_175 (fun H locs hP hD hS => ?_)
  have hG : mG D cA h ad A s (wJ σ 28 (t2 ||| (t1 <<< (t0.toInt64 &&& 63)))) H locs := ⟨hP, hD, hS⟩
  obtain ⟨hP, hD, hS⟩ := id hG
  refine lv_iconst (v := 1) hx hb dX9_readPart_178 (by decide) ?_
  exact W.zret (v := 1) (ty := .boolean) hx hb hr rfl (fun t ht hW => ⟨⟨_, (wJ σ 28 (t2 ||| (t1 <<< (t0.toInt64 &&& 63)))), rfl, hw, by rw [ht]; exact hP, va_K.moved hW.alike hK, hD⟩, hS.F ht⟩) hS.2.2 dX9_readPart_179 hlk
set_option maxHeartbeats 4000000 in
set_option maxRecDepth 100000 in
theorem kB_X9_readPart_299 {p : Program} {l : Launch} {e : Env} {s : State} {m : MethodId} {args : Array Value} {below : List Frame} {meth : Method} {c : Code} {A : Nat → Prop} {E : EnvT} {aK aV : Nat → Nat} {D : va_G} {cA : Nat → ClassId} {h : Nat} {ad : Nat → Nat} (C : mCx p s m args meth c cX9_readPart 2 (some .boolean) wgX9_readPart RX9 E D cA A) (vM : eMs aK aV E) {post : Int32 → MS → Prop} :
    ∀ (t0 : Int64) (t1 : Int64) (σ : MS) (H : Heap) (locs : List Loc) (ls : Array Slot), mG D cA h ad A s σ H locs → lv_has ls 2 [] → wB_X9_readPart_299 post t0 t1 σ → W p l e rm_X9_readPart s m args below meth c H locs 0 0 (MQ below (va_Qi post (mAt D cA h ad A) A) args s 0 0 A) (F0 m 299 ls [.long t0, .long t1, .ref h]) := by
  obtain ⟨hx, hb, hml, hr, hown, hts, hK, hA, hlk, hE, vE⟩ := id C
  intro t0 t1 σ H locs ls hG hl hw
  obtain ⟨hP, hD, hS⟩ := id hG
  refine lv_lor hx hb dX9_readPart_299 ?_
  refine va_put (D := D) (ci := 11) (v := .long (t1 ||| t0)) (ty := .long) (C := RX9) (T := TX9) (N := 32) hx hb hts (in_tb inX9) tyX9 tyX9_ok nmX9 hown hK hP hD hS 0 rfl rfl 28 (by decide) (hts _ (List.mem_cons_of_mem _ tw_5_138)) (fun _ h9 => h9) rfl (by decide +kernel) rfl rfl (Nat.le_of_ble_eq_true rfl) dX9_readPart_300 (fun H locs hP hD hS => ?_)
  have hG : mG D cA h ad A s (wJ σ 28 (t1 ||| t0)) H locs := ⟨hP, hD, hS⟩
  obtain ⟨hP, hD, hS⟩ := id hG
  refine lv_iconst (v := 1) hx hb dX9_readPart_303 (by decide) ?_
  exact W.zret (v := 1) (ty := .boolean) hx hb hr rfl (fun t ht hW => ⟨⟨_, (wJ σ 28 (t1 ||| t0)), rfl, hw, by rw [ht]; exact hP, va_K.moved hW.alike hK, hD⟩, hS.F ht⟩) hS.2.2 dX9_readPart_304 hlk
set_option maxHeartbeats 4000000 in
set_option maxRecDepth 100000 in
theorem kB_X9_readPart_267 {p : Program} {l : Launch} {e : Env} {s : State} {m : MethodId} {args : Array Value} {below : List Frame} {meth : Method} {c : Code} {A : Nat → Prop} {E : EnvT} {aK aV : Nat → Nat} {D : va_G} {cA : Nat → ClassId} {h : Nat} {ad : Nat → Nat} (C : mCx p s m args meth c cX9_readPart 2 (some .boolean) wgX9_readPart RX9 E D cA A) (vM : eMs aK aV E) {post : Int32 → MS → Prop} :
    ∀ (t0 : Int32) (σ : MS) (H : Heap) (locs : List Loc) (ls : Array Slot), mG D cA h ad A s σ H locs → lv_has ls 2 [(0, .ref h)] → wB_X9_readPart_267 post t0 σ → W p l e rm_X9_readPart s m args below meth c H locs 0 0 (MQ below (va_Qi post (mAt D cA h ad A) A) args s 0 0 A) (F0 m 267 ls [.int t0, .ref h]) := by
  obtain ⟨hx, hb, hml, hr, hown, hts, hK, hA, hlk, hE, vE⟩ := id C
  intro t0 σ H locs ls hG hl hw
  obtain ⟨hP, hD, hS⟩ := id hG
  refine lv_iconst (v := 0) hx hb dX9_readPart_267 (by decide) ?_
  refine mV_i (As := [.int t0, .int 0]) (rest := []) C (met_X9_readNumber vE vM hw) (va_recv hK hP (ci := 11) (q0 := 0) rfl rfl) (cwV 2 hts (TB_G (TB_4 tw_6_9 tw_6_11 ts_32 tw_1_13) tw_6_12) rfl rfl rfl (by decide +kernel) ⟨by decide, by decide⟩) hP hD hS rfl hl.1 rfl (Nat.le_of_ble_eq_true rfl) dX9_readPart_268 ⟨by decide, by decide⟩ (fun r_28 σ_29 H locs hw hP hD hS => ?_)
  have hG : mG D cA h ad A s σ_29 H locs := ⟨hP, hD, hS⟩
  refine lv_if_ne (tgt := 276) hx hb dX9_readPart_271 (by decide) (fun q_ => ?_) (fun q_ => ?_)
  · have hw := hw.2 q_
    refine lv_aload_n hx hb dX9_readPart_276 rfl (lv_at hl 0 rfl) ?_
    refine lv_dup hx hb dX9_readPart_277 rfl ?_
    refine va_get (D := D) (ci := 11) (v := .long (mJ σ_29 28)) (C := RX9) (T := TX9) (N := 32) hx hb hts (in_tb inX9) hown hK hP 0 rfl rfl 28 (by decide) (hts _ (List.mem_cons_of_mem _ tw_5_138)) (fun _ h9 => h9) rfl dX9_readPart_278 ?_
    refine lv_aload_n hx hb dX9_readPart_281 rfl (lv_at hl 0 rfl) ?_
    refine va_get (D := D) (ci := 11) (v := .int (mI σ_29 27)) (C := RX9) (T := TX9) (N := 32) hx hb hts (in_tb inX9) hown hK hP 0 rfl rfl 27 (by decide) (hts _ (List.mem_cons_of_mem _ tw_5_137)) (fun _ h9 => h9) rfl dX9_readPart_282 ?_
    refine lv_if_eq (tgt := 292) hx hb dX9_readPart_285 (by decide) (fun q_ => ?_) (fun q_ => ?_)
    · have hw := hw.1 q_
      refine lv_aload_n hx hb dX9_readPart_292 rfl (lv_at hl 0 rfl) ?_
      refine va_get (D := D) (ci := 11) (v := .long (mJ σ_29 26)) (C := RX9) (T := TX9) (N := 32) hx hb hts (in_tb inX9) hown hK hP 0 rfl rfl 26 (by decide) (hts _ (List.mem_cons_of_mem _ tw_5_136)) (fun _ h9 => h9) rfl dX9_readPart_293 ?_
      refine mS_l (As := [.long (mJ σ_29 26)]) (rest := [.long (mJ σ_29 28), .ref h]) C (met_X9_number vE vM hw) (va_cwS 1 hts (TB_G (TB_3 tw_6_73 tw_6_74 tw_1_13) tw_6_75) rfl rfl rfl (by decide +kernel) ⟨by decide, by decide⟩) hP hD hS rfl hl.1 rfl (Nat.le_of_ble_eq_true rfl) dX9_readPart_296 ⟨by decide, by decide⟩ (fun r_30 H locs hw hP hS => ?_)
      have hG : mG D cA h ad A s σ_29 H locs := ⟨hP, hD, hS⟩
      exact kB_X9_readPart_299 C vM r_30 (mJ σ_29 28) σ_29 _ _ _ hG (lv_sub hl [] rfl) hw
    · have hw := hw.2 q_
      refine lv_lconst (v := 0) hx hb dX9_readPart_288 (by decide) ?_
      refine lv_goto (tgt := 299) hx hb dX9_readPart_289 (by decide) ?_
      exact kB_X9_readPart_299 C vM 0 (mJ σ_29 28) σ_29 _ _ _ hG (lv_sub hl [] rfl) hw
  · have hw := hw.1 q_
    refine lv_iconst (v := 0) hx hb dX9_readPart_274 (by decide) ?_
    exact W.zret (v := 0) (ty := .boolean) hx hb hr rfl (fun t ht hW => ⟨⟨_, σ_29, rfl, hw, by rw [ht]; exact hP, va_K.moved hW.alike hK, hD⟩, hS.F ht⟩) hS.2.2 dX9_readPart_275 hlk
set_option maxHeartbeats 4000000 in
set_option maxRecDepth 100000 in
theorem k_X9_readPart {p : Program} {l : Launch} {e : Env} {s : State} {m : MethodId} {args : Array Value} {below : List Frame} {meth : Method} {c : Code} {A : Nat → Prop} {E : EnvT} {aK aV : Nat → Nat} {D : va_G} {cA : Nat → ClassId} {h : Nat} {ad : Nat → Nat} (C : mCx p s m args meth c cX9_readPart 2 (some .boolean) wgX9_readPart RX9 E D cA A) (vM : eMs aK aV E) {post : Int32 → MS → Prop} :
    ∀ (x1 : Int32) (σ : MS) (H : Heap) (locs : List Loc) (ls : Array Slot), mG D cA h ad A s σ H locs → lv_has ls 2 [(0, .ref h), (1, .int x1)] → wp_X9_readPart post x1 σ → W p l e rm_X9_readPart s m args below meth c H locs 0 0 (MQ below (va_Qi post (mAt D cA h ad A) A) args s 0 0 A) (F0 m 0 ls []) := by
  obtain ⟨hx, hb, hml, hr, hown, hts, hK, hA, hlk, hE, vE⟩ := id C
  intro x1 σ H locs ls hG hl hw
  obtain ⟨hP, hD, hS⟩ := id hG
  refine lv_iload_n hx hb dX9_readPart_0 rfl (lv_at hl 1 rfl) ?_
  obtain ⟨hw0, hw1, hw2, hw3, hw4, hw5, hw6, hw7, hw8⟩ := hw
  by_cases q_0 : x1 = 65
  · have hw := hw0 q_0
    refine lv_lookup (tgt := 76) hx hb dX9_readPart_1 (by decide) (by rw [q_0] <;> rfl) (by decide) ?_
    refine lv_aload_n hx hb dX9_readPart_76 rfl (lv_at hl 0 rfl) ?_
    refine lv_bipush (v := 114) hx hb dX9_readPart_77 (by decide) ?_
    refine mV_i (As := [.int 114]) (rest := []) C (met_X9_readRegister vE vM hw) (va_recv hK hP (ci := 11) (q0 := 0) rfl rfl) (cwV 1 hts (TB_G (TB_4 tw_6_47 tw_6_49 ts_40 tw_1_13) tw_6_50) rfl rfl rfl (by decide +kernel) ⟨by decide, by decide⟩) hP hD hS rfl hl.1 rfl (Nat.le_of_ble_eq_true rfl) dX9_readPart_79 ⟨by decide, by decide⟩ (fun r_1 σ_2 H locs hw hP hD hS => ?_)
    have hG : mG D cA h ad A s σ_2 H locs := ⟨hP, hD, hS⟩
    refine lv_if_ne (tgt := 87) hx hb dX9_readPart_82 (by decide) (fun q_ => ?_) (fun q_ => ?_)
    · have hw := hw.2 q_
      refine lv_aload_n hx hb dX9_readPart_87 rfl (lv_at hl 0 rfl) ?_
      refine lv_dup hx hb dX9_readPart_88 rfl ?_
      refine va_get (D := D) (ci := 11) (v := .long (mJ σ_2 28)) (C := RX9) (T := TX9) (N := 32) hx hb hts (in_tb inX9) hown hK hP 0 rfl rfl 28 (by decide) (hts _ (List.mem_cons_of_mem _ tw_5_138)) (fun _ h9 => h9) rfl dX9_readPart_89 ?_
      refine lv_aload_n hx hb dX9_readPart_92 rfl (lv_at hl 0 rfl) ?_
      refine va_get (D := D) (ci := 11) (v := .int (mI σ_2 25)) (C := RX9) (T := TX9) (N := 32) hx hb hts (in_tb inX9) hown hK hP 0 rfl rfl 25 (by decide) (hts _ (List.mem_cons_of_mem _ tw_5_135)) (fun _ h9 => h9) rfl dX9_readPart_93 ?_
      refine lv_i2l hx hb dX9_readPart_96 rfl ?_
      refine lv_iload_n hx hb dX9_readPart_97 rfl (lv_at hl 1 rfl) ?_
      refine lv_bipush (v := 68) hx hb dX9_readPart_98 (by decide) ?_
      refine lv_icmp_ne (tgt := 108) hx hb dX9_readPart_100 (by decide) (fun q_ => ?_) (fun q_ => ?_)
      · have hw := hw.2 q_
        refine lv_iload_n hx hb dX9_readPart_108 rfl (lv_at hl 1 rfl) ?_
        refine lv_bipush (v := 65) hx hb dX9_readPart_109 (by decide) ?_
        refine lv_icmp_ne (tgt := 119) hx hb dX9_readPart_111 (by decide) (fun q_ => ?_) (fun q_ => ?_)
        · have hw := hw.2 q_
          refine lv_bipush (v := 16) hx hb dX9_readPart_119 (by decide) ?_
          exact kB_X9_readPart_121 C vM 16 ((mI σ_2 25).toInt64) (mJ σ_2 28) σ_2 _ _ _ hG (lv_sub hl [] rfl) hw
        · have hw := hw.1 q_
          refine lv_bipush (v := 12) hx hb dX9_readPart_114 (by decide) ?_
          refine lv_goto (tgt := 121) hx hb dX9_readPart_116 (by decide) ?_
          exact kB_X9_readPart_121 C vM 12 ((mI σ_2 25).toInt64) (mJ σ_2 28) σ_2 _ _ _ hG (lv_sub hl [] rfl) hw
      · have hw := hw.1 q_
        refine lv_bipush (v := 8) hx hb dX9_readPart_103 (by decide) ?_
        refine lv_goto (tgt := 121) hx hb dX9_readPart_105 (by decide) ?_
        exact kB_X9_readPart_121 C vM 8 ((mI σ_2 25).toInt64) (mJ σ_2 28) σ_2 _ _ _ hG (lv_sub hl [] rfl) hw
    · have hw := hw.1 q_
      refine lv_iconst (v := 0) hx hb dX9_readPart_85 (by decide) ?_
      exact W.zret (v := 0) (ty := .boolean) hx hb hr rfl (fun t ht hW => ⟨⟨_, σ_2, rfl, hw, by rw [ht]; exact hP, va_K.moved hW.alike hK, hD⟩, hS.F ht⟩) hS.2.2 dX9_readPart_86 hlk
  by_cases q_1 : x1 = 66
  · have hw := hw1 q_1
    refine lv_lookup (tgt := 76) hx hb dX9_readPart_1 (by decide) (by rw [q_1] <;> rfl) (by decide) ?_
    refine lv_aload_n hx hb dX9_readPart_76 rfl (lv_at hl 0 rfl) ?_
    refine lv_bipush (v := 114) hx hb dX9_readPart_77 (by decide) ?_
    refine mV_i (As := [.int 114]) (rest := []) C (met_X9_readRegister vE vM hw) (va_recv hK hP (ci := 11) (q0 := 0) rfl rfl) (cwV 1 hts (TB_G (TB_4 tw_6_47 tw_6_49 ts_40 tw_1_13) tw_6_50) rfl rfl rfl (by decide +kernel) ⟨by decide, by decide⟩) hP hD hS rfl hl.1 rfl (Nat.le_of_ble_eq_true rfl) dX9_readPart_79 ⟨by decide, by decide⟩ (fun r_3 σ_4 H locs hw hP hD hS => ?_)
    have hG : mG D cA h ad A s σ_4 H locs := ⟨hP, hD, hS⟩
    refine lv_if_ne (tgt := 87) hx hb dX9_readPart_82 (by decide) (fun q_ => ?_) (fun q_ => ?_)
    · have hw := hw.2 q_
      refine lv_aload_n hx hb dX9_readPart_87 rfl (lv_at hl 0 rfl) ?_
      refine lv_dup hx hb dX9_readPart_88 rfl ?_
      refine va_get (D := D) (ci := 11) (v := .long (mJ σ_4 28)) (C := RX9) (T := TX9) (N := 32) hx hb hts (in_tb inX9) hown hK hP 0 rfl rfl 28 (by decide) (hts _ (List.mem_cons_of_mem _ tw_5_138)) (fun _ h9 => h9) rfl dX9_readPart_89 ?_
      refine lv_aload_n hx hb dX9_readPart_92 rfl (lv_at hl 0 rfl) ?_
      refine va_get (D := D) (ci := 11) (v := .int (mI σ_4 25)) (C := RX9) (T := TX9) (N := 32) hx hb hts (in_tb inX9) hown hK hP 0 rfl rfl 25 (by decide) (hts _ (List.mem_cons_of_mem _ tw_5_135)) (fun _ h9 => h9) rfl dX9_readPart_93 ?_
      refine lv_i2l hx hb dX9_readPart_96 rfl ?_
      refine lv_iload_n hx hb dX9_readPart_97 rfl (lv_at hl 1 rfl) ?_
      refine lv_bipush (v := 68) hx hb dX9_readPart_98 (by decide) ?_
      refine lv_icmp_ne (tgt := 108) hx hb dX9_readPart_100 (by decide) (fun q_ => ?_) (fun q_ => ?_)
      · have hw := hw.2 q_
        refine lv_iload_n hx hb dX9_readPart_108 rfl (lv_at hl 1 rfl) ?_
        refine lv_bipush (v := 65) hx hb dX9_readPart_109 (by decide) ?_
        refine lv_icmp_ne (tgt := 119) hx hb dX9_readPart_111 (by decide) (fun q_ => ?_) (fun q_ => ?_)
        · have hw := hw.2 q_
          refine lv_bipush (v := 16) hx hb dX9_readPart_119 (by decide) ?_
          exact kB_X9_readPart_121 C vM 16 ((mI σ_4 25).toInt64) (mJ σ_4 28) σ_4 _ _ _ hG (lv_sub hl [] rfl) hw
        · have hw := hw.1 q_
          refine lv_bipush (v := 12) hx hb dX9_readPart_114 (by decide) ?_
          refine lv_goto (tgt := 121) hx hb dX9_readPart_116 (by decide) ?_
          exact kB_X9_readPart_121 C vM 12 ((mI σ_4 25).toInt64) (mJ σ_4 28) σ_4 _ _ _ hG (lv_sub hl [] rfl) hw
      · have hw := hw.1 q_
        refine lv_bipush (v := 8) hx hb dX9_readPart_103 (by decide) ?_
        refine lv_goto (tgt := 121) hx hb dX9_readPart_105 (by decide) ?_
        exact kB_X9_readPart_121 C vM 8 ((mI σ_4 25).toInt64) (mJ σ_4 28) σ_4 _ _ _ hG (lv_sub hl [] rfl) hw
    · have hw := hw.1 q_
      refine lv_iconst (v := 0) hx hb dX9_readPart_85 (by decide) ?_
      exact W.zret (v := 0) (ty := .boolean) hx hb hr rfl (fun t ht hW => ⟨⟨_, σ_4, rfl, hw, by rw [ht]; exact hP, va_K.moved hW.alike hK, hD⟩, hS.F ht⟩) hS.2.2 dX9_readPart_86 hlk
  by_cases q_2 : x1 = 68
  · have hw := hw2 q_2
    refine lv_lookup (tgt := 76) hx hb dX9_readPart_1 (by decide) (by rw [q_2] <;> rfl) (by decide) ?_
    refine lv_aload_n hx hb dX9_readPart_76 rfl (lv_at hl 0 rfl) ?_
    refine lv_bipush (v := 114) hx hb dX9_readPart_77 (by decide) ?_
    refine mV_i (As := [.int 114]) (rest := []) C (met_X9_readRegister vE vM hw) (va_recv hK hP (ci := 11) (q0 := 0) rfl rfl) (cwV 1 hts (TB_G (TB_4 tw_6_47 tw_6_49 ts_40 tw_1_13) tw_6_50) rfl rfl rfl (by decide +kernel) ⟨by decide, by decide⟩) hP hD hS rfl hl.1 rfl (Nat.le_of_ble_eq_true rfl) dX9_readPart_79 ⟨by decide, by decide⟩ (fun r_5 σ_6 H locs hw hP hD hS => ?_)
    have hG : mG D cA h ad A s σ_6 H locs := ⟨hP, hD, hS⟩
    refine lv_if_ne (tgt := 87) hx hb dX9_readPart_82 (by decide) (fun q_ => ?_) (fun q_ => ?_)
    · have hw := hw.2 q_
      refine lv_aload_n hx hb dX9_readPart_87 rfl (lv_at hl 0 rfl) ?_
      refine lv_dup hx hb dX9_readPart_88 rfl ?_
      refine va_get (D := D) (ci := 11) (v := .long (mJ σ_6 28)) (C := RX9) (T := TX9) (N := 32) hx hb hts (in_tb inX9) hown hK hP 0 rfl rfl 28 (by decide) (hts _ (List.mem_cons_of_mem _ tw_5_138)) (fun _ h9 => h9) rfl dX9_readPart_89 ?_
      refine lv_aload_n hx hb dX9_readPart_92 rfl (lv_at hl 0 rfl) ?_
      refine va_get (D := D) (ci := 11) (v := .int (mI σ_6 25)) (C := RX9) (T := TX9) (N := 32) hx hb hts (in_tb inX9) hown hK hP 0 rfl rfl 25 (by decide) (hts _ (List.mem_cons_of_mem _ tw_5_135)) (fun _ h9 => h9) rfl dX9_readPart_93 ?_
      refine lv_i2l hx hb dX9_readPart_96 rfl ?_
      refine lv_iload_n hx hb dX9_readPart_97 rfl (lv_at hl 1 rfl) ?_
      refine lv_bipush (v := 68) hx hb dX9_readPart_98 (by decide) ?_
      refine lv_icmp_ne (tgt := 108) hx hb dX9_readPart_100 (by decide) (fun q_ => ?_) (fun q_ => ?_)
      · have hw := hw.2 q_
        refine lv_iload_n hx hb dX9_readPart_108 rfl (lv_at hl 1 rfl) ?_
        refine lv_bipush (v := 65) hx hb dX9_readPart_109 (by decide) ?_
        refine lv_icmp_ne (tgt := 119) hx hb dX9_readPart_111 (by decide) (fun q_ => ?_) (fun q_ => ?_)
        · have hw := hw.2 q_
          refine lv_bipush (v := 16) hx hb dX9_readPart_119 (by decide) ?_
          exact kB_X9_readPart_121 C vM 16 ((mI σ_6 25).toInt64) (mJ σ_6 28) σ_6 _ _ _ hG (lv_sub hl [] rfl) hw
        · have hw := hw.1 q_
          refine lv_bipush (v := 12) hx hb dX9_readPart_114 (by decide) ?_
          refine lv_goto (tgt := 121) hx hb dX9_readPart_116 (by decide) ?_
          exact kB_X9_readPart_121 C vM 12 ((mI σ_6 25).toInt64) (mJ σ_6 28) σ_6 _ _ _ hG (lv_sub hl [] rfl) hw
      · have hw := hw.1 q_
        refine lv_bipush (v := 8) hx hb dX9_readPart_103 (by decide) ?_
        refine lv_goto (tgt := 121) hx hb dX9_readPart_105 (by decide) ?_
        exact kB_X9_readPart_121 C vM 8 ((mI σ_6 25).toInt64) (mJ σ_6 28) σ_6 _ _ _ hG (lv_sub hl [] rfl) hw
    · have hw := hw.1 q_
      refine lv_iconst (v := 0) hx hb dX9_readPart_85 (by decide) ?_
      exact W.zret (v := 0) (ty := .boolean) hx hb hr rfl (fun t ht hW => ⟨⟨_, σ_6, rfl, hw, by rw [ht]; exact hP, va_K.moved hW.alike hK, hD⟩, hS.F ht⟩) hS.2.2 dX9_readPart_86 hlk
  by_cases q_3 : x1 = 77
  · have hw := hw3 q_3
    refine lv_lookup (tgt := 210) hx hb dX9_readPart_1 (by decide) (by rw [q_3] <;> rfl) (by decide) ?_
    refine lv_aload_n hx hb dX9_readPart_210 rfl (lv_at hl 0 rfl) ?_
    refine lv_bipush (v := 40) hx hb dX9_readPart_211 (by decide) ?_
    refine mV_i (As := [.int 40]) (rest := []) C (met_X9_want vE vM hw) (va_recv hK hP (ci := 11) (q0 := 0) rfl rfl) (cwV 1 hts (TB_G (TB_4 tw_6_43 tw_6_45 ts_39 tw_1_13) tw_6_46) rfl rfl rfl (by decide +kernel) ⟨by decide, by decide⟩) hP hD hS rfl hl.1 rfl (Nat.le_of_ble_eq_true rfl) dX9_readPart_213 ⟨by decide, by decide⟩ (fun r_7 σ_8 H locs hw hP hD hS => ?_)
    have hG : mG D cA h ad A s σ_8 H locs := ⟨hP, hD, hS⟩
    refine lv_if_eq (tgt := 246) hx hb dX9_readPart_216 (by decide) (fun q_ => ?_) (fun q_ => ?_)
    · have hw := hw.1 q_
      exact kB_X9_readPart_246 C vM  σ_8 _ _ _ hG (lv_sub hl [] rfl) hw
    · have hw := hw.2 q_
      refine lv_aload_n hx hb dX9_readPart_219 rfl (lv_at hl 0 rfl) ?_
      refine lv_bipush (v := 65) hx hb dX9_readPart_220 (by decide) ?_
      refine mV_i (As := [.int 65]) (rest := []) C (met_X9_readPart_0 vE vM hw) (va_recv hK hP (ci := 11) (q0 := 0) rfl rfl) (cwV 1 hts (TB_G (TB_4 tw_6_84 tw_6_86 ts_42 tw_1_13) tw_6_87) rfl rfl rfl (by decide +kernel) ⟨by decide, by decide⟩) hP hD hS rfl hl.1 rfl (Nat.le_of_ble_eq_true rfl) dX9_readPart_222 ⟨by decide, by decide⟩ (fun r_9 σ_10 H locs hw hP hD hS => ?_)
      have hG : mG D cA h ad A s σ_10 H locs := ⟨hP, hD, hS⟩
      refine lv_if_eq (tgt := 246) hx hb dX9_readPart_225 (by decide) (fun q_ => ?_) (fun q_ => ?_)
      · have hw := hw.1 q_
        exact kB_X9_readPart_246 C vM  σ_10 _ _ _ hG (lv_sub hl [] rfl) hw
      · have hw := hw.2 q_
        refine lv_aload_n hx hb dX9_readPart_228 rfl (lv_at hl 0 rfl) ?_
        refine lv_bipush (v := 43) hx hb dX9_readPart_229 (by decide) ?_
        refine mV_i (As := [.int 43]) (rest := []) C (met_X9_want vE vM hw) (va_recv hK hP (ci := 11) (q0 := 0) rfl rfl) (cwV 1 hts (TB_G (TB_4 tw_6_43 tw_6_45 ts_39 tw_1_13) tw_6_46) rfl rfl rfl (by decide +kernel) ⟨by decide, by decide⟩) hP hD hS rfl hl.1 rfl (Nat.le_of_ble_eq_true rfl) dX9_readPart_231 ⟨by decide, by decide⟩ (fun r_11 σ_12 H locs hw hP hD hS => ?_)
        have hG : mG D cA h ad A s σ_12 H locs := ⟨hP, hD, hS⟩
        refine lv_if_eq (tgt := 246) hx hb dX9_readPart_234 (by decide) (fun q_ => ?_) (fun q_ => ?_)
        · have hw := hw.1 q_
          exact kB_X9_readPart_246 C vM  σ_12 _ _ _ hG (lv_sub hl [] rfl) hw
        · have hw := hw.2 q_
          refine lv_aload_n hx hb dX9_readPart_237 rfl (lv_at hl 0 rfl) ?_
          refine lv_bipush (v := 78) hx hb dX9_readPart_238 (by decide) ?_
          refine mV_i (As := [.int 78]) (rest := []) C (met_X9_readPart_0 vE vM hw) (va_recv hK hP (ci := 11) (q0 := 0) rfl rfl) (cwV 1 hts (TB_G (TB_4 tw_6_84 tw_6_86 ts_42 tw_1_13) tw_6_87) rfl rfl rfl (by decide +kernel) ⟨by decide, by decide⟩) hP hD hS rfl hl.1 rfl (Nat.le_of_ble_eq_true rfl) dX9_readPart_240 ⟨by decide, by decide⟩ (fun r_13 σ_14 H locs hw hP hD hS => ?_)
          have hG : mG D cA h ad A s σ_14 H locs := ⟨hP, hD, hS⟩
          refine lv_if_ne (tgt := 248) hx hb dX9_readPart_243 (by decide) (fun q_ => ?_) (fun q_ => ?_)
          · have hw := hw.2 q_
            refine lv_aload_n hx hb dX9_readPart_248 rfl (lv_at hl 0 rfl) ?_
            refine lv_bipush (v := 41) hx hb dX9_readPart_249 (by decide) ?_
            refine mV_i (As := [.int 41]) (rest := []) C (met_X9_want vE vM hw) (va_recv hK hP (ci := 11) (q0 := 0) rfl rfl) (cwV 1 hts (TB_G (TB_4 tw_6_43 tw_6_45 ts_39 tw_1_13) tw_6_46) rfl rfl rfl (by decide +kernel) ⟨by decide, by decide⟩) hP hD hS rfl hl.1 rfl (Nat.le_of_ble_eq_true rfl) dX9_readPart_251 ⟨by decide, by decide⟩ (fun r_15 σ_16 H locs hw hP hD hS => ?_)
            have hG : mG D cA h ad A s σ_16 H locs := ⟨hP, hD, hS⟩
            obtain ⟨h_17, hw⟩ := hw
            exact W.zret (v := r_15) (ty := .boolean) hx hb hr (isB.n h_17) (fun t ht hW => ⟨⟨_, σ_16, rfl, hw, by rw [ht]; exact hP, va_K.moved hW.alike hK, hD⟩, hS.F ht⟩) hS.2.2 dX9_readPart_254 hlk
          · have hw := hw.1 q_
            exact kB_X9_readPart_246 C vM  σ_14 _ _ _ hG (lv_sub hl [] rfl) hw
  by_cases q_4 : x1 = 80
  · have hw := hw4 q_4
    refine lv_lookup (tgt := 180) hx hb dX9_readPart_1 (by decide) (by rw [q_4] <;> rfl) (by decide) ?_
    refine lv_aload_n hx hb dX9_readPart_180 rfl (lv_at hl 0 rfl) ?_
    refine lv_bipush (v := 112) hx hb dX9_readPart_181 (by decide) ?_
    refine mV_i (As := [.int 112]) (rest := []) C (met_X9_readRegister vE vM hw) (va_recv hK hP (ci := 11) (q0 := 0) rfl rfl) (cwV 1 hts (TB_G (TB_4 tw_6_47 tw_6_49 ts_40 tw_1_13) tw_6_50) rfl rfl rfl (by decide +kernel) ⟨by decide, by decide⟩) hP hD hS rfl hl.1 rfl (Nat.le_of_ble_eq_true rfl) dX9_readPart_183 ⟨by decide, by decide⟩ (fun r_18 σ_19 H locs hw hP hD hS => ?_)
    have hG : mG D cA h ad A s σ_19 H locs := ⟨hP, hD, hS⟩
    refine lv_if_ne (tgt := 191) hx hb dX9_readPart_186 (by decide) (fun q_ => ?_) (fun q_ => ?_)
    · have hw := hw.2 q_
      refine lv_aload_n hx hb dX9_readPart_191 rfl (lv_at hl 0 rfl) ?_
      refine lv_dup hx hb dX9_readPart_192 rfl ?_
      refine va_get (D := D) (ci := 11) (v := .long (mJ σ_19 28)) (C := RX9) (T := TX9) (N := 32) hx hb hts (in_tb inX9) hown hK hP 0 rfl rfl 28 (by decide) (hts _ (List.mem_cons_of_mem _ tw_5_138)) (fun _ h9 => h9) rfl dX9_readPart_193 ?_
      refine lv_aload_n hx hb dX9_readPart_196 rfl (lv_at hl 0 rfl) ?_
      refine va_get (D := D) (ci := 11) (v := .int (mI σ_19 25)) (C := RX9) (T := TX9) (N := 32) hx hb hts (in_tb inX9) hown hK hP 0 rfl rfl 25 (by decide) (hts _ (List.mem_cons_of_mem _ tw_5_135)) (fun _ h9 => h9) rfl dX9_readPart_197 ?_
      refine lv_i2l hx hb dX9_readPart_200 rfl ?_
      refine mS_l (As := [.long ((mI σ_19 25).toInt64)]) (rest := [.long (mJ σ_19 28), .ref h]) C (met_X9_number vE vM hw) (va_cwS 1 hts (TB_G (TB_3 tw_6_73 tw_6_74 tw_1_13) tw_6_75) rfl rfl rfl (by decide +kernel) ⟨by decide, by decide⟩) hP hD hS rfl hl.1 rfl (Nat.le_of_ble_eq_true rfl) dX9_readPart_201 ⟨by decide, by decide⟩ (fun r_20 H locs hw hP hS => ?_)
      have hG : mG D cA h ad A s σ_19 H locs := ⟨hP, hD, hS⟩
      refine lv_lor hx hb dX9_readPart_204 ?_
      refine va_put (D := D) (ci := 11) (v := .long ((mJ σ_19 28) ||| r_20)) (ty := .long) (C := RX9) (T := TX9) (N := 32) hx hb hts (in_tb inX9) tyX9 tyX9_ok nmX9 hown hK hP hD hS 0 rfl rfl 28 (by decide) (hts _ (List.mem_cons_of_mem _ tw_5_138)) (fun _ h9 => h9) rfl (by decide +kernel) rfl rfl (Nat.le_of_ble_eq_true rfl) dX9_readPart_205 (fun H locs hP hD hS => ?_)
      have hG : mG D cA h ad A s (wJ σ_19 28 ((mJ σ_19 28) ||| r_20)) H locs := ⟨hP, hD, hS⟩
      obtain ⟨hP, hD, hS⟩ := id hG
      refine lv_iconst (v := 1) hx hb dX9_readPart_208 (by decide) ?_
      exact W.zret (v := 1) (ty := .boolean) hx hb hr rfl (fun t ht hW => ⟨⟨_, (wJ σ_19 28 ((mJ σ_19 28) ||| r_20)), rfl, hw, by rw [ht]; exact hP, va_K.moved hW.alike hK, hD⟩, hS.F ht⟩) hS.2.2 dX9_readPart_209 hlk
    · have hw := hw.1 q_
      refine lv_iconst (v := 0) hx hb dX9_readPart_189 (by decide) ?_
      exact W.zret (v := 0) (ty := .boolean) hx hb hr rfl (fun t ht hW => ⟨⟨_, σ_19, rfl, hw, by rw [ht]; exact hP, va_K.moved hW.alike hK, hD⟩, hS.F ht⟩) hS.2.2 dX9_readPart_190 hlk
  by_cases q_5 : x1 = 97
  · have hw := hw5 q_5
    refine lv_lookup (tgt := 128) hx hb dX9_readPart_1 (by decide) (by rw [q_5] <;> rfl) (by decide) ?_
    refine lv_aload_n hx hb dX9_readPart_128 rfl (lv_at hl 0 rfl) ?_
    refine lv_bipush (v := 112) hx hb dX9_readPart_129 (by decide) ?_
    refine mV_i (As := [.int 112]) (rest := []) C (met_X9_readRegister vE vM hw) (va_recv hK hP (ci := 11) (q0 := 0) rfl rfl) (cwV 1 hts (TB_G (TB_4 tw_6_47 tw_6_49 ts_40 tw_1_13) tw_6_50) rfl rfl rfl (by decide +kernel) ⟨by decide, by decide⟩) hP hD hS rfl hl.1 rfl (Nat.le_of_ble_eq_true rfl) dX9_readPart_131 ⟨by decide, by decide⟩ (fun r_22 σ_23 H locs hw hP hD hS => ?_)
    have hG : mG D cA h ad A s σ_23 H locs := ⟨hP, hD, hS⟩
    refine lv_if_ne (tgt := 139) hx hb dX9_readPart_134 (by decide) (fun q_ => ?_) (fun q_ => ?_)
    · have hw := hw.2 q_
      refine lv_aload_n hx hb dX9_readPart_139 rfl (lv_at hl 0 rfl) ?_
      refine lv_dup hx hb dX9_readPart_140 rfl ?_
      refine va_get (D := D) (ci := 11) (v := .long (mJ σ_23 28)) (C := RX9) (T := TX9) (N := 32) hx hb hts (in_tb inX9) hown hK hP 0 rfl rfl 28 (by decide) (hts _ (List.mem_cons_of_mem _ tw_5_138)) (fun _ h9 => h9) rfl dX9_readPart_141 ?_
      refine lv_aload_n hx hb dX9_readPart_144 rfl (lv_at hl 0 rfl) ?_
      refine va_get (D := D) (ci := 11) (v := .int (mI σ_23 25)) (C := RX9) (T := TX9) (N := 32) hx hb hts (in_tb inX9) hown hK hP 0 rfl rfl 25 (by decide) (hts _ (List.mem_cons_of_mem _ tw_5_135)) (fun _ h9 => h9) rfl dX9_readPart_145 ?_
      refine lv_i2l hx hb dX9_readPart_148 rfl ?_
      refine lv_iload_n hx hb dX9_readPart_149 rfl (lv_at hl 1 rfl) ?_
      refine lv_bipush (v := 100) hx hb dX9_readPart_150 (by decide) ?_
      refine lv_icmp_ne (tgt := 160) hx hb dX9_readPart_152 (by decide) (fun q_ => ?_) (fun q_ => ?_)
      · have hw := hw.2 q_
        refine lv_iload_n hx hb dX9_readPart_160 rfl (lv_at hl 1 rfl) ?_
        refine lv_bipush (v := 97) hx hb dX9_readPart_161 (by decide) ?_
        refine lv_icmp_ne (tgt := 171) hx hb dX9_readPart_163 (by decide) (fun q_ => ?_) (fun q_ => ?_)
        · have hw := hw.2 q_
          refine lv_bipush (v := 16) hx hb dX9_readPart_171 (by decide) ?_
          exact kB_X9_readPart_173 C vM 16 ((mI σ_23 25).toInt64) (mJ σ_23 28) σ_23 _ _ _ hG (lv_sub hl [] rfl) hw
        · have hw := hw.1 q_
          refine lv_bipush (v := 12) hx hb dX9_readPart_166 (by decide) ?_
          refine lv_goto (tgt := 173) hx hb dX9_readPart_168 (by decide) ?_
          exact kB_X9_readPart_173 C vM 12 ((mI σ_23 25).toInt64) (mJ σ_23 28) σ_23 _ _ _ hG (lv_sub hl [] rfl) hw
      · have hw := hw.1 q_
        refine lv_bipush (v := 8) hx hb dX9_readPart_155 (by decide) ?_
        refine lv_goto (tgt := 173) hx hb dX9_readPart_157 (by decide) ?_
        exact kB_X9_readPart_173 C vM 8 ((mI σ_23 25).toInt64) (mJ σ_23 28) σ_23 _ _ _ hG (lv_sub hl [] rfl) hw
    · have hw := hw.1 q_
      refine lv_iconst (v := 0) hx hb dX9_readPart_137 (by decide) ?_
      exact W.zret (v := 0) (ty := .boolean) hx hb hr rfl (fun t ht hW => ⟨⟨_, σ_23, rfl, hw, by rw [ht]; exact hP, va_K.moved hW.alike hK, hD⟩, hS.F ht⟩) hS.2.2 dX9_readPart_138 hlk
  by_cases q_6 : x1 = 98
  · have hw := hw6 q_6
    refine lv_lookup (tgt := 128) hx hb dX9_readPart_1 (by decide) (by rw [q_6] <;> rfl) (by decide) ?_
    refine lv_aload_n hx hb dX9_readPart_128 rfl (lv_at hl 0 rfl) ?_
    refine lv_bipush (v := 112) hx hb dX9_readPart_129 (by decide) ?_
    refine mV_i (As := [.int 112]) (rest := []) C (met_X9_readRegister vE vM hw) (va_recv hK hP (ci := 11) (q0 := 0) rfl rfl) (cwV 1 hts (TB_G (TB_4 tw_6_47 tw_6_49 ts_40 tw_1_13) tw_6_50) rfl rfl rfl (by decide +kernel) ⟨by decide, by decide⟩) hP hD hS rfl hl.1 rfl (Nat.le_of_ble_eq_true rfl) dX9_readPart_131 ⟨by decide, by decide⟩ (fun r_24 σ_25 H locs hw hP hD hS => ?_)
    have hG : mG D cA h ad A s σ_25 H locs := ⟨hP, hD, hS⟩
    refine lv_if_ne (tgt := 139) hx hb dX9_readPart_134 (by decide) (fun q_ => ?_) (fun q_ => ?_)
    · have hw := hw.2 q_
      refine lv_aload_n hx hb dX9_readPart_139 rfl (lv_at hl 0 rfl) ?_
      refine lv_dup hx hb dX9_readPart_140 rfl ?_
      refine va_get (D := D) (ci := 11) (v := .long (mJ σ_25 28)) (C := RX9) (T := TX9) (N := 32) hx hb hts (in_tb inX9) hown hK hP 0 rfl rfl 28 (by decide) (hts _ (List.mem_cons_of_mem _ tw_5_138)) (fun _ h9 => h9) rfl dX9_readPart_141 ?_
      refine lv_aload_n hx hb dX9_readPart_144 rfl (lv_at hl 0 rfl) ?_
      refine va_get (D := D) (ci := 11) (v := .int (mI σ_25 25)) (C := RX9) (T := TX9) (N := 32) hx hb hts (in_tb inX9) hown hK hP 0 rfl rfl 25 (by decide) (hts _ (List.mem_cons_of_mem _ tw_5_135)) (fun _ h9 => h9) rfl dX9_readPart_145 ?_
      refine lv_i2l hx hb dX9_readPart_148 rfl ?_
      refine lv_iload_n hx hb dX9_readPart_149 rfl (lv_at hl 1 rfl) ?_
      refine lv_bipush (v := 100) hx hb dX9_readPart_150 (by decide) ?_
      refine lv_icmp_ne (tgt := 160) hx hb dX9_readPart_152 (by decide) (fun q_ => ?_) (fun q_ => ?_)
      · have hw := hw.2 q_
        refine lv_iload_n hx hb dX9_readPart_160 rfl (lv_at hl 1 rfl) ?_
        refine lv_bipush (v := 97) hx hb dX9_readPart_161 (by decide) ?_
        refine lv_icmp_ne (tgt := 171) hx hb dX9_readPart_163 (by decide) (fun q_ => ?_) (fun q_ => ?_)
        · have hw := hw.2 q_
          refine lv_bipush (v := 16) hx hb dX9_readPart_171 (by decide) ?_
          exact kB_X9_readPart_173 C vM 16 ((mI σ_25 25).toInt64) (mJ σ_25 28) σ_25 _ _ _ hG (lv_sub hl [] rfl) hw
        · have hw := hw.1 q_
          refine lv_bipush (v := 12) hx hb dX9_readPart_166 (by decide) ?_
          refine lv_goto (tgt := 173) hx hb dX9_readPart_168 (by decide) ?_
          exact kB_X9_readPart_173 C vM 12 ((mI σ_25 25).toInt64) (mJ σ_25 28) σ_25 _ _ _ hG (lv_sub hl [] rfl) hw
      · have hw := hw.1 q_
        refine lv_bipush (v := 8) hx hb dX9_readPart_155 (by decide) ?_
        refine lv_goto (tgt := 173) hx hb dX9_readPart_157 (by decide) ?_
        exact kB_X9_readPart_173 C vM 8 ((mI σ_25 25).toInt64) (mJ σ_25 28) σ_25 _ _ _ hG (lv_sub hl [] rfl) hw
    · have hw := hw.1 q_
      refine lv_iconst (v := 0) hx hb dX9_readPart_137 (by decide) ?_
      exact W.zret (v := 0) (ty := .boolean) hx hb hr rfl (fun t ht hW => ⟨⟨_, σ_25, rfl, hw, by rw [ht]; exact hP, va_K.moved hW.alike hK, hD⟩, hS.F ht⟩) hS.2.2 dX9_readPart_138 hlk
  by_cases q_7 : x1 = 100
  · have hw := hw7 q_7
    refine lv_lookup (tgt := 128) hx hb dX9_readPart_1 (by decide) (by rw [q_7] <;> rfl) (by decide) ?_
    refine lv_aload_n hx hb dX9_readPart_128 rfl (lv_at hl 0 rfl) ?_
    refine lv_bipush (v := 112) hx hb dX9_readPart_129 (by decide) ?_
    refine mV_i (As := [.int 112]) (rest := []) C (met_X9_readRegister vE vM hw) (va_recv hK hP (ci := 11) (q0 := 0) rfl rfl) (cwV 1 hts (TB_G (TB_4 tw_6_47 tw_6_49 ts_40 tw_1_13) tw_6_50) rfl rfl rfl (by decide +kernel) ⟨by decide, by decide⟩) hP hD hS rfl hl.1 rfl (Nat.le_of_ble_eq_true rfl) dX9_readPart_131 ⟨by decide, by decide⟩ (fun r_26 σ_27 H locs hw hP hD hS => ?_)
    have hG : mG D cA h ad A s σ_27 H locs := ⟨hP, hD, hS⟩
    refine lv_if_ne (tgt := 139) hx hb dX9_readPart_134 (by decide) (fun q_ => ?_) (fun q_ => ?_)
    · have hw := hw.2 q_
      refine lv_aload_n hx hb dX9_readPart_139 rfl (lv_at hl 0 rfl) ?_
      refine lv_dup hx hb dX9_readPart_140 rfl ?_
      refine va_get (D := D) (ci := 11) (v := .long (mJ σ_27 28)) (C := RX9) (T := TX9) (N := 32) hx hb hts (in_tb inX9) hown hK hP 0 rfl rfl 28 (by decide) (hts _ (List.mem_cons_of_mem _ tw_5_138)) (fun _ h9 => h9) rfl dX9_readPart_141 ?_
      refine lv_aload_n hx hb dX9_readPart_144 rfl (lv_at hl 0 rfl) ?_
      refine va_get (D := D) (ci := 11) (v := .int (mI σ_27 25)) (C := RX9) (T := TX9) (N := 32) hx hb hts (in_tb inX9) hown hK hP 0 rfl rfl 25 (by decide) (hts _ (List.mem_cons_of_mem _ tw_5_135)) (fun _ h9 => h9) rfl dX9_readPart_145 ?_
      refine lv_i2l hx hb dX9_readPart_148 rfl ?_
      refine lv_iload_n hx hb dX9_readPart_149 rfl (lv_at hl 1 rfl) ?_
      refine lv_bipush (v := 100) hx hb dX9_readPart_150 (by decide) ?_
      refine lv_icmp_ne (tgt := 160) hx hb dX9_readPart_152 (by decide) (fun q_ => ?_) (fun q_ => ?_)
      · have hw := hw.2 q_
        refine lv_iload_n hx hb dX9_readPart_160 rfl (lv_at hl 1 rfl) ?_
        refine lv_bipush (v := 97) hx hb dX9_readPart_161 (by decide) ?_
        refine lv_icmp_ne (tgt := 171) hx hb dX9_readPart_163 (by decide) (fun q_ => ?_) (fun q_ => ?_)
        · have hw := hw.2 q_
          refine lv_bipush (v := 16) hx hb dX9_readPart_171 (by decide) ?_
          exact kB_X9_readPart_173 C vM 16 ((mI σ_27 25).toInt64) (mJ σ_27 28) σ_27 _ _ _ hG (lv_sub hl [] rfl) hw
        · have hw := hw.1 q_
          refine lv_bipush (v := 12) hx hb dX9_readPart_166 (by decide) ?_
          refine lv_goto (tgt := 173) hx hb dX9_readPart_168 (by decide) ?_
          exact kB_X9_readPart_173 C vM 12 ((mI σ_27 25).toInt64) (mJ σ_27 28) σ_27 _ _ _ hG (lv_sub hl [] rfl) hw
      · have hw := hw.1 q_
        refine lv_bipush (v := 8) hx hb dX9_readPart_155 (by decide) ?_
        refine lv_goto (tgt := 173) hx hb dX9_readPart_157 (by decide) ?_
        exact kB_X9_readPart_173 C vM 8 ((mI σ_27 25).toInt64) (mJ σ_27 28) σ_27 _ _ _ hG (lv_sub hl [] rfl) hw
    · have hw := hw.1 q_
      refine lv_iconst (v := 0) hx hb dX9_readPart_137 (by decide) ?_
      exact W.zret (v := 0) (ty := .boolean) hx hb hr rfl (fun t ht hW => ⟨⟨_, σ_27, rfl, hw, by rw [ht]; exact hP, va_K.moved hW.alike hK, hD⟩, hS.F ht⟩) hS.2.2 dX9_readPart_138 hlk
  have hw := hw8 q_0 q_1 q_2 q_3 q_4 q_5 q_6 q_7
  refine lv_lookup (off := 254) (tgt := 255) hx hb dX9_readPart_1 (by decide) ((lv_osw q_0 (by decide)).trans ((lv_osw q_1 (by decide)).trans ((lv_osw q_2 (by decide)).trans ((lv_osw q_3 (by decide)).trans ((lv_osw q_4 (by decide)).trans ((lv_osw q_5 (by decide)).trans ((lv_osw q_6 (by decide)).trans ((lv_osw q_7 (by decide)).trans (rfl))))))))) (by decide) ?_
  refine lv_aload_n hx hb dX9_readPart_255 rfl (lv_at hl 0 rfl) ?_
  refine lv_iload_n hx hb dX9_readPart_256 rfl (lv_at hl 1 rfl) ?_
  refine lv_bipush (v := 71) hx hb dX9_readPart_257 (by decide) ?_
  refine lv_icmp_ne (tgt := 266) hx hb dX9_readPart_259 (by decide) (fun q_ => ?_) (fun q_ => ?_)
  · have hw := hw.2 q_
    refine lv_iconst (v := 0) hx hb dX9_readPart_266 (by decide) ?_
    exact kB_X9_readPart_267 C vM 0 σ _ _ _ hG (lv_sub hl [0] rfl) hw
  · have hw := hw.1 q_
    refine lv_iconst (v := 1) hx hb dX9_readPart_262 (by decide) ?_
    refine lv_goto (tgt := 267) hx hb dX9_readPart_263 (by decide) ?_
    exact kB_X9_readPart_267 C vM 1 σ _ _ _ hG (lv_sub hl [0] rfl) hw
set_option maxHeartbeats 4000000 in
set_option maxRecDepth 100000 in
theorem met_X9_readPart {l : Launch} {E : EnvT} (vE : EnvOk E) {D : va_G} {cA : Nat → ClassId} {h : Nat} {ad : Nat → Nat} {σ : MS} {aK aV : Nat → Nat} (vM : eMs aK aV E) {sz : Nat} {x1 : Int32} {post : Int32 → MS → Prop} (hw : wp_X9_readPart post x1 σ) : Met l yX9_readPart wgX9_readPart rm_X9_readPart (va_Pc [.ref h, .int x1] (mPre E D cA h ad sz σ)) (va_Qi post (mAt D cA h ad (va_A (mW cA h ad σ) sz)) (va_A (mW cA h ad σ) sz)) 0 0 (va_A (mW cA h ad σ) sz) := by
  refine Met.ofW (cc := cX9_readPart) (maxL := 2) (ret := (some .boolean)) (by decide +kernel) rfl ?_
  intro p e s m args below meth c s₁ B hml hv
  obtain ⟨rfl, hsz, hP, hK, hD0, hE⟩ := hv
  subst hsz
  have hD := hD0.self (sz := s.heap.size)
  generalize hAe : va_A (mW cA h ad σ) s.heap.size = A at hD hE ⊢
  have hA : ∀ q : Nat, s.heap.size ≤ q → A q := fun q h => by rw [← hAe]; exact Or.inr h
  have hS : va_S A s.heap s.heap [] := va_S.rf
  have C : mCx p s m _ meth c cX9_readPart 2 (some .boolean) wgX9_readPart RX9 E D cA A := ⟨B.exec, B.bytes, hml, B.returns, findClass_of_methodNamed B.named, atoms_spec (ws := wgX9_readPart) B.pre, hK, hA, B.notSynchronized, hE, vE⟩
  have hG : mG D cA h ad A s σ s.heap [] := ⟨hP, hD, hS⟩
  have hl := lv_entry ([.ref h, .int x1]) (n := 2) (Nat.le_of_ble_eq_true rfl)
  rw [lg_entry_eq]
  generalize (lg_sl ([.ref h, .int x1]) ++ List.replicate (2 - (lg_sl ([.ref h, .int x1])).length) Slot.unset).toArray = ls at hl ⊢
  have hl : lv_has ls 2 [(0, .ref h), (1, .int x1)] := hl
  exact k_X9_readPart C vM x1 σ _ _ _ hG hl hw
