/-! ===== readNumber ===== -/
def rm_X9_readNumber : Room := { frames := 2, cells := 0, slots := 0, locals := 43 }
abbrev wgX9_readNumber : List Cond := .code yX9_readNumber cX9_readNumber 6 (some .boolean) :: TB
def wB_X9_readNumber_328 (post : Int32 → MS → Prop) (σ : MS) : Prop :=
  post 1 (wI σ 9 ((mI σ 9) + 1))
def wB_X9_readNumber_240 (post : Int32 → MS → Prop) (σ : MS) : Prop :=
  wB_X9_readNumber_328 post σ
def wB_X9_readNumber_221 (post : Int32 → MS → Prop) (x3 : Int32) (t0 : Int64) (σ : MS) : Prop :=
  wp_X9_isInt (fun r_19  => (r_19 = 0 → (wp_X9_note (fun σ_22 => wB_X9_readNumber_240 post σ_22) 3 x3 (wJ σ 26 t0))) ∧ (¬ r_19 = 0 → (wB_X9_readNumber_240 post (wJ σ 26 t0)))) t0
def wB_X9_readNumber_187 (post : Int32 → MS → Prop) (x3 : Int32) (x4 : Int32) (x5 : Int32) (σ : MS) : Prop :=
  (x5 = (-1) → (wB_X9_readNumber_221 post x3 0 σ)) ∧ (¬ x5 = (-1) → ((x4 = 0 → (vp_in x5 800 ∧ (wB_X9_readNumber_221 post x3 (mL σ 17 x5.toNatClampNeg) σ))) ∧ (¬ x4 = 0 → (vp_in x5 800 ∧ (wB_X9_readNumber_221 post x3 (-(mL σ 17 x5.toNatClampNeg)) σ)))))
def wB_X9_readNumber_112 (post : Int32 → MS → Prop) (σ : MS) : Prop :=
  post 1 (wI σ 9 ((mI σ 9) + 1))
def wB_X9_readNumber_106 (post : Int32 → MS → Prop) (x3 : Int32) (σ : MS) : Prop :=
  wp_X9_note (fun σ_34 => wB_X9_readNumber_112 post σ_34) 3 x3 σ
def wB_X9_readNumber_69 (post : Int32 → MS → Prop) (x1 : Int32) (x3 : Int32) (t0 : Int64) (σ : MS) : Prop :=
  wp_X9_isInt (fun r_31  => (r_31 = 0 → (wB_X9_readNumber_106 post x3 (wJ σ 26 t0))) ∧ (¬ r_31 = 0 → ((x1 = 0 → (wB_X9_readNumber_112 post (wJ σ 26 t0))) ∧ (¬ x1 = 0 → ((t0 < 0 → (wB_X9_readNumber_106 post x3 (wJ σ 26 t0))) ∧ (¬ t0 < 0 → ((t0 ≤ 63 → (wB_X9_readNumber_112 post (wJ σ 26 t0))) ∧ (¬ t0 ≤ 63 → (wB_X9_readNumber_106 post x3 (wJ σ 26 t0)))))))))) t0
def wp_X9_readNumber (post : Int32 → MS → Prop) (x1 : Int32) (x2 : Int32) (σ : MS) : Prop :=
  vp_in (mI σ 9) 702 ∧ (∀ x3_2 : Int32, x3_2 = mA σ 7 (mI σ 9).toNatClampNeg → wp_X9_takes (fun r_3 σ_4 => vp_in (mI σ_4 9) 702 ∧ (((mA σ_4 6 (mI σ_4 9).toNatClampNeg) = 2 → ((r_3 = 0 → (vp_in (mI σ_4 9) 702 ∧ (wB_X9_readNumber_69 post x1 x3_2 (mL σ_4 8 (mI σ_4 9).toNatClampNeg) (wJ (wI σ_4 27 0) 26 0)))) ∧ (¬ r_3 = 0 → (vp_in (mI σ_4 9) 702 ∧ (wB_X9_readNumber_69 post x1 x3_2 (-(mL σ_4 8 (mI σ_4 9).toNatClampNeg)) (wJ (wI σ_4 27 0) 26 0)))))) ∧ (¬ (mA σ_4 6 (mI σ_4 9).toNatClampNeg) = 2 → (vp_in (mI σ_4 9) 702 ∧ (((mA σ_4 6 (mI σ_4 9).toNatClampNeg) = 1 → ((x2 = 0 → (vp_in (mI σ_4 18) 64 ∧ (vp_in (mI σ_4 9) 702 ∧ (vp_in (mI σ_4 18) 64 ∧ (vp_in (mI σ_4 9) 702 ∧ (vp_in (mI σ_4 18) 64 ∧ (vp_in (mI σ_4 18) 64 ∧ (vp_in (mI σ_4 18) 64 ∧ (vp_in (mI σ_4 18) 64 ∧ (wB_X9_readNumber_328 post (wA (wA (wA (wA (wL (wA (wI (wJ (wI σ_4 27 0) 26 0) 27 1) 19 (mI σ_4 18).toNatClampNeg (mI σ_4 13)) 20 (mI σ_4 18).toNatClampNeg (mL σ_4 8 (mI σ_4 9).toNatClampNeg)) 21 (mI σ_4 18).toNatClampNeg (mA σ_4 7 (mI σ_4 9).toNatClampNeg)) 22 (mI σ_4 18).toNatClampNeg x3_2) 23 (mI σ_4 18).toNatClampNeg (vp_nar .boolean r_3)) 24 (mI σ_4 18).toNatClampNeg (vp_nar .boolean x1)))))))))))) ∧ (¬ x2 = 0 → (vp_in (mI σ_4 9) 702 ∧ (wp_X9_find (fun r_16 σ_17 => (r_16 = (-1) → (vp_in (mI σ_17 9) 702 ∧ (wp_X9_note (fun σ_26 => wB_X9_readNumber_187 post x3_2 r_3 r_16 σ_26) 2 (mA σ_17 7 (mI σ_17 9).toNatClampNeg) σ_17))) ∧ (¬ r_16 = (-1) → (wB_X9_readNumber_187 post x3_2 r_3 r_16 σ_17))) (1 - (mI σ_4 14)) (mL σ_4 8 (mI σ_4 9).toNatClampNeg) (wJ (wI σ_4 27 0) 26 0)))))) ∧ (¬ (mA σ_4 6 (mI σ_4 9).toNatClampNeg) = 1 → (wp_X9_refuse (fun r_27 σ_28 => isB r_27 ∧ (post r_27 σ_28)) (wJ (wI σ_4 27 0) 26 0)))))))) 45 σ)
set_option maxHeartbeats 4000000 in
set_option maxRecDepth 100000 in
theorem kB_X9_readNumber_328 {p : Program} {l : Launch} {e : Env} {s : State} {m : MethodId} {args : Array Value} {below : List Frame} {meth : Method} {c : Code} {A : Nat → Prop} {E : EnvT} {aK aV : Nat → Nat} {D : va_G} {cA : Nat → ClassId} {h : Nat} {ad : Nat → Nat} (C : mCx p s m args meth c cX9_readNumber 6 (some .boolean) wgX9_readNumber RX9 E D cA A) (vM : eMs aK aV E) {post : Int32 → MS → Prop} :
    ∀ (σ : MS) (H : Heap) (locs : List Loc) (ls : Array Slot), mG D cA h ad A s σ H locs → lv_has ls 6 [(0, .ref h)] → wB_X9_readNumber_328 post σ → W p l e rm_X9_readNumber s m args below meth c H locs 0 0 (MQ below (va_Qi post (mAt D cA h ad A) A) args s 0 0 A) (F0 m 328 ls []) := by
  obtain ⟨hx, hb, hml, hr, hown, hts, hK, hA, hlk, hE, vE⟩ := id C
  intro σ H locs ls hG hl hw
  obtain ⟨hP, hD, hS⟩ := id hG
  refine lv_aload_n hx hb dX9_readNumber_328 rfl (lv_at hl 0 rfl) ?_
  refine lv_dup hx hb dX9_readNumber_329 rfl ?_
  refine va_get (D := D) (ci := 11) (v := .int (mI σ 9)) (C := RX9) (T := TX9) (N := 32) hx hb hts (in_tb inX9) hown hK hP 0 rfl rfl 9 (by decide) (hts _ (List.mem_cons_of_mem _ tw_5_119)) (fun _ h9 => h9) rfl dX9_readNumber_330 ?_
  refine lv_iconst (v := 1) hx hb dX9_readNumber_333 (by decide) ?_
  refine lv_iadd hx hb dX9_readNumber_334 ?_
  refine va_put (D := D) (ci := 11) (v := .int ((mI σ 9) + 1)) (ty := .int) (C := RX9) (T := TX9) (N := 32) hx hb hts (in_tb inX9) tyX9 tyX9_ok nmX9 hown hK hP hD hS 0 rfl rfl 9 (by decide) (hts _ (List.mem_cons_of_mem _ tw_5_119)) (fun _ h9 => h9) rfl (by decide +kernel) rfl rfl (Nat.le_of_ble_eq_true rfl) dX9_readNumber_335 (fun H locs hP hD hS => ?_)
  have hG : mG D cA h ad A s (wI σ 9 ((mI σ 9) + 1)) H locs := ⟨hP, hD, hS⟩
  obtain ⟨hP, hD, hS⟩ := id hG
  refine lv_iconst (v := 1) hx hb dX9_readNumber_338 (by decide) ?_
  exact W.zret (v := 1) (ty := .boolean) hx hb hr rfl (fun t ht hW => ⟨⟨_, (wI σ 9 ((mI σ 9) + 1)), rfl, hw, by rw [ht]; exact hP, va_K.moved hW.alike hK, hD⟩, hS.F ht⟩) hS.2.2 dX9_readNumber_339 hlk
set_option maxHeartbeats 4000000 in
set_option maxRecDepth 100000 in
theorem kB_X9_readNumber_240 {p : Program} {l : Launch} {e : Env} {s : State} {m : MethodId} {args : Array Value} {below : List Frame} {meth : Method} {c : Code} {A : Nat → Prop} {E : EnvT} {aK aV : Nat → Nat} {D : va_G} {cA : Nat → ClassId} {h : Nat} {ad : Nat → Nat} (C : mCx p s m args meth c cX9_readNumber 6 (some .boolean) wgX9_readNumber RX9 E D cA A) (vM : eMs aK aV E) {post : Int32 → MS → Prop} :
    ∀ (σ : MS) (H : Heap) (locs : List Loc) (ls : Array Slot), mG D cA h ad A s σ H locs → lv_has ls 6 [(0, .ref h)] → wB_X9_readNumber_240 post σ → W p l e rm_X9_readNumber s m args below meth c H locs 0 0 (MQ below (va_Qi post (mAt D cA h ad A) A) args s 0 0 A) (F0 m 240 ls []) := by
  obtain ⟨hx, hb, hml, hr, hown, hts, hK, hA, hlk, hE, vE⟩ := id C
  intro σ H locs ls hG hl hw
  obtain ⟨hP, hD, hS⟩ := id hG
  refine lv_goto (tgt := 328) hx hb dX9_readNumber_240 (by decide) ?_
  exact kB_X9_readNumber_328 C vM  σ _ _ _ hG (lv_sub hl [0] rfl) hw
set_option maxHeartbeats 4000000 in
set_option maxRecDepth 100000 in
theorem kB_X9_readNumber_221 {p : Program} {l : Launch} {e : Env} {s : State} {m : MethodId} {args : Array Value} {below : List Frame} {meth : Method} {c : Code} {A : Nat → Prop} {E : EnvT} {aK aV : Nat → Nat} {D : va_G} {cA : Nat → ClassId} {h : Nat} {ad : Nat → Nat} (C : mCx p s m args meth c cX9_readNumber 6 (some .boolean) wgX9_readNumber RX9 E D cA A) (vM : eMs aK aV E) {post : Int32 → MS → Prop} :
    ∀ (x3 : Int32) (t0 : Int64) (σ : MS) (H : Heap) (locs : List Loc) (ls : Array Slot), mG D cA h ad A s σ H locs → lv_has ls 6 [(0, .ref h), (3, .int x3)] → wB_X9_readNumber_221 post x3 t0 σ → W p l e rm_X9_readNumber s m args below meth c H locs 0 0 (MQ below (va_Qi post (mAt D cA h ad A) A) args s 0 0 A) (F0 m 221 ls [.long t0, .ref h]) := by
  obtain ⟨hx, hb, hml, hr, hown, hts, hK, hA, hlk, hE, vE⟩ := id C
  intro x3 t0 σ H locs ls hG hl hw
  obtain ⟨hP, hD, hS⟩ := id hG
  refine va_put (D := D) (ci := 11) (v := .long t0) (ty := .long) (C := RX9) (T := TX9) (N := 32) hx hb hts (in_tb inX9) tyX9 tyX9_ok nmX9 hown hK hP hD hS 0 rfl rfl 26 (by decide) (hts _ (List.mem_cons_of_mem _ tw_5_136)) (fun _ h9 => h9) rfl (by decide +kernel) rfl rfl (Nat.le_of_ble_eq_true rfl) dX9_readNumber_221 (fun H locs hP hD hS => ?_)
  have hG : mG D cA h ad A s (wJ σ 26 t0) H locs := ⟨hP, hD, hS⟩
  obtain ⟨hP, hD, hS⟩ := id hG
  refine lv_aload_n hx hb dX9_readNumber_224 rfl (lv_at hl 0 rfl) ?_
  refine va_get (D := D) (ci := 11) (v := .long t0) (C := RX9) (T := TX9) (N := 32) hx hb hts (in_tb inX9) hown hK hP 0 rfl rfl 26 (by decide) (hts _ (List.mem_cons_of_mem _ tw_5_136)) (fun _ h9 => h9) rfl dX9_readNumber_225 ?_
  refine mS_i (As := [.long t0]) (rest := []) C (met_X9_isInt vE vM hw) (va_cwS 1 hts (TB_G (TB_3 tw_6_21 tw_6_22 tw_1_13) tw_6_23) rfl rfl rfl (by decide +kernel) ⟨by decide, by decide⟩) hP hD hS rfl hl.1 rfl (Nat.le_of_ble_eq_true rfl) dX9_readNumber_228 ⟨by decide, by decide⟩ (fun r_19 H locs hw hP hS => ?_)
  have hG : mG D cA h ad A s (wJ σ 26 t0) H locs := ⟨hP, hD, hS⟩
  refine lv_if_ne (tgt := 240) hx hb dX9_readNumber_231 (by decide) (fun q_ => ?_) (fun q_ => ?_)
  · have hw := hw.2 q_
    exact kB_X9_readNumber_240 C vM  (wJ σ 26 t0) _ _ _ hG (lv_sub hl [0] rfl) hw
  · have hw := hw.1 q_
    refine lv_aload_n hx hb dX9_readNumber_234 rfl (lv_at hl 0 rfl) ?_
    refine lv_iconst (v := 3) hx hb dX9_readNumber_235 (by decide) ?_
    refine lv_iload_n hx hb dX9_readNumber_236 rfl (lv_at hl 1 rfl) ?_
    refine mV_v (As := [.int 3, .int x3]) (rest := []) C (met_X9_note vE vM hw) (va_recv hK hP (ci := 11) (q0 := 0) rfl rfl) (cwV 2 hts (TB_G (TB_4 tw_6_27 tw_6_29 ts_35 tw_1_13) tw_6_30) rfl rfl rfl (by decide +kernel) ⟨by decide, by decide⟩) hP hD hS rfl hl.1 rfl (Nat.le_of_ble_eq_true rfl) dX9_readNumber_237 ⟨by decide, by decide⟩ (fun σ_22 H locs hw hP hD hS => ?_)
    have hG : mG D cA h ad A s σ_22 H locs := ⟨hP, hD, hS⟩
    exact kB_X9_readNumber_240 C vM  σ_22 _ _ _ hG (lv_sub hl [0] rfl) hw
set_option maxHeartbeats 4000000 in
set_option maxRecDepth 100000 in
theorem kB_X9_readNumber_187 {p : Program} {l : Launch} {e : Env} {s : State} {m : MethodId} {args : Array Value} {below : List Frame} {meth : Method} {c : Code} {A : Nat → Prop} {E : EnvT} {aK aV : Nat → Nat} {D : va_G} {cA : Nat → ClassId} {h : Nat} {ad : Nat → Nat} (C : mCx p s m args meth c cX9_readNumber 6 (some .boolean) wgX9_readNumber RX9 E D cA A) (vM : eMs aK aV E) {post : Int32 → MS → Prop} :
    ∀ (x3 : Int32) (x4 : Int32) (x5 : Int32) (σ : MS) (H : Heap) (locs : List Loc) (ls : Array Slot), mG D cA h ad A s σ H locs → lv_has ls 6 [(0, .ref h), (3, .int x3), (4, .int x4), (5, .int x5)] → wB_X9_readNumber_187 post x3 x4 x5 σ → W p l e rm_X9_readNumber s m args below meth c H locs 0 0 (MQ below (va_Qi post (mAt D cA h ad A) A) args s 0 0 A) (F0 m 187 ls []) := by
  obtain ⟨hx, hb, hml, hr, hown, hts, hK, hA, hlk, hE, vE⟩ := id C
  intro x3 x4 x5 σ H locs ls hG hl hw
  obtain ⟨hP, hD, hS⟩ := id hG
  refine lv_aload_n hx hb dX9_readNumber_187 rfl (lv_at hl 0 rfl) ?_
  refine lv_iload hx hb dX9_readNumber_188 (lv_at hl 3 rfl) ?_
  refine lv_iconst (v := (-1)) hx hb dX9_readNumber_190 (by decide) ?_
  refine lv_icmp_ne (tgt := 198) hx hb dX9_readNumber_191 (by decide) (fun q_ => ?_) (fun q_ => ?_)
  · have hw := hw.2 q_
    refine lv_iload hx hb dX9_readNumber_198 (lv_at hl 2 rfl) ?_
    refine lv_if_eq (tgt := 214) hx hb dX9_readNumber_200 (by decide) (fun q_ => ?_) (fun q_ => ?_)
    · have hw := hw.1 q_
      refine lv_aload_n hx hb dX9_readNumber_214 rfl (lv_at hl 0 rfl) ?_
      refine va_get (D := D) (ci := 11) (v := .ref (ad 17)) (C := RX9) (T := TX9) (N := 32) hx hb hts (in_tb inX9) hown hK hP 0 rfl rfl 17 (by decide) (hts _ (List.mem_cons_of_mem _ tw_5_127)) (fun _ h9 => h9) rfl dX9_readNumber_215 ?_
      refine lv_iload hx hb dX9_readNumber_218 (lv_at hl 3 rfl) ?_
      obtain ⟨h_18, hw⟩ := hw
      refine va_lald hx hb hK hP 9 1 rfl rfl h_18 dX9_readNumber_220 ?_
      exact kB_X9_readNumber_221 C vM x3 (mL σ 17 x5.toNatClampNeg) σ _ _ _ hG (lv_sub hl [0, 1] rfl) hw
    · have hw := hw.2 q_
      refine lv_aload_n hx hb dX9_readNumber_203 rfl (lv_at hl 0 rfl) ?_
      refine va_get (D := D) (ci := 11) (v := .ref (ad 17)) (C := RX9) (T := TX9) (N := 32) hx hb hts (in_tb inX9) hown hK hP 0 rfl rfl 17 (by decide) (hts _ (List.mem_cons_of_mem _ tw_5_127)) (fun _ h9 => h9) rfl dX9_readNumber_204 ?_
      refine lv_iload hx hb dX9_readNumber_207 (lv_at hl 3 rfl) ?_
      obtain ⟨h_23, hw⟩ := hw
      refine va_lald hx hb hK hP 9 1 rfl rfl h_23 dX9_readNumber_209 ?_
      refine lv_lneg hx hb dX9_readNumber_210 ?_
      refine lv_goto (tgt := 221) hx hb dX9_readNumber_211 (by decide) ?_
      exact kB_X9_readNumber_221 C vM x3 (-(mL σ 17 x5.toNatClampNeg)) σ _ _ _ hG (lv_sub hl [0, 1] rfl) hw
  · have hw := hw.1 q_
    refine lv_lconst (v := 0) hx hb dX9_readNumber_194 (by decide) ?_
    refine lv_goto (tgt := 221) hx hb dX9_readNumber_195 (by decide) ?_
    exact kB_X9_readNumber_221 C vM x3 0 σ _ _ _ hG (lv_sub hl [0, 1] rfl) hw
set_option maxHeartbeats 4000000 in
set_option maxRecDepth 100000 in
theorem kB_X9_readNumber_112 {p : Program} {l : Launch} {e : Env} {s : State} {m : MethodId} {args : Array Value} {below : List Frame} {meth : Method} {c : Code} {A : Nat → Prop} {E : EnvT} {aK aV : Nat → Nat} {D : va_G} {cA : Nat → ClassId} {h : Nat} {ad : Nat → Nat} (C : mCx p s m args meth c cX9_readNumber 6 (some .boolean) wgX9_readNumber RX9 E D cA A) (vM : eMs aK aV E) {post : Int32 → MS → Prop} :
    ∀ (σ : MS) (H : Heap) (locs : List Loc) (ls : Array Slot), mG D cA h ad A s σ H locs → lv_has ls 6 [(0, .ref h)] → wB_X9_readNumber_112 post σ → W p l e rm_X9_readNumber s m args below meth c H locs 0 0 (MQ below (va_Qi post (mAt D cA h ad A) A) args s 0 0 A) (F0 m 112 ls []) := by
  obtain ⟨hx, hb, hml, hr, hown, hts, hK, hA, hlk, hE, vE⟩ := id C
  intro σ H locs ls hG hl hw
  obtain ⟨hP, hD, hS⟩ := id hG
  refine lv_aload_n hx hb dX9_readNumber_112 rfl (lv_at hl 0 rfl) ?_
  refine lv_dup hx hb dX9_readNumber_113 rfl ?_
  refine va_get (D := D) (ci := 11) (v := .int (mI σ 9)) (C := RX9) (T := TX9) (N := 32) hx hb hts (in_tb inX9) hown hK hP 0 rfl rfl 9 (by decide) (hts _ (List.mem_cons_of_mem _ tw_5_119)) (fun _ h9 => h9) rfl dX9_readNumber_114 ?_
  refine lv_iconst (v := 1) hx hb dX9_readNumber_117 (by decide) ?_
  refine lv_iadd hx hb dX9_readNumber_118 ?_
  refine va_put (D := D) (ci := 11) (v := .int ((mI σ 9) + 1)) (ty := .int) (C := RX9) (T := TX9) (N := 32) hx hb hts (in_tb inX9) tyX9 tyX9_ok nmX9 hown hK hP hD hS 0 rfl rfl 9 (by decide) (hts _ (List.mem_cons_of_mem _ tw_5_119)) (fun _ h9 => h9) rfl (by decide +kernel) rfl rfl (Nat.le_of_ble_eq_true rfl) dX9_readNumber_119 (fun H locs hP hD hS => ?_)
  have hG : mG D cA h ad A s (wI σ 9 ((mI σ 9) + 1)) H locs := ⟨hP, hD, hS⟩
  obtain ⟨hP, hD, hS⟩ := id hG
  refine lv_iconst (v := 1) hx hb dX9_readNumber_122 (by decide) ?_
  exact W.zret (v := 1) (ty := .boolean) hx hb hr rfl (fun t ht hW => ⟨⟨_, (wI σ 9 ((mI σ 9) + 1)), rfl, hw, by rw [ht]; exact hP, va_K.moved hW.alike hK, hD⟩, hS.F ht⟩) hS.2.2 dX9_readNumber_123 hlk
set_option maxHeartbeats 4000000 in
set_option maxRecDepth 100000 in
theorem kB_X9_readNumber_106 {p : Program} {l : Launch} {e : Env} {s : State} {m : MethodId} {args : Array Value} {below : List Frame} {meth : Method} {c : Code} {A : Nat → Prop} {E : EnvT} {aK aV : Nat → Nat} {D : va_G} {cA : Nat → ClassId} {h : Nat} {ad : Nat → Nat} (C : mCx p s m args meth c cX9_readNumber 6 (some .boolean) wgX9_readNumber RX9 E D cA A) (vM : eMs aK aV E) {post : Int32 → MS → Prop} :
    ∀ (x3 : Int32) (σ : MS) (H : Heap) (locs : List Loc) (ls : Array Slot), mG D cA h ad A s σ H locs → lv_has ls 6 [(0, .ref h), (3, .int x3)] → wB_X9_readNumber_106 post x3 σ → W p l e rm_X9_readNumber s m args below meth c H locs 0 0 (MQ below (va_Qi post (mAt D cA h ad A) A) args s 0 0 A) (F0 m 106 ls []) := by
  obtain ⟨hx, hb, hml, hr, hown, hts, hK, hA, hlk, hE, vE⟩ := id C
  intro x3 σ H locs ls hG hl hw
  obtain ⟨hP, hD, hS⟩ := id hG
  refine lv_aload_n hx hb dX9_readNumber_106 rfl (lv_at hl 0 rfl) ?_
  refine lv_iconst (v := 3) hx hb dX9_readNumber_107 (by decide) ?_
  refine lv_iload_n hx hb dX9_readNumber_108 rfl (lv_at hl 1 rfl) ?_
  refine mV_v (As := [.int 3, .int x3]) (rest := []) C (met_X9_note vE vM hw) (va_recv hK hP (ci := 11) (q0 := 0) rfl rfl) (cwV 2 hts (TB_G (TB_4 tw_6_27 tw_6_29 ts_35 tw_1_13) tw_6_30) rfl rfl rfl (by decide +kernel) ⟨by decide, by decide⟩) hP hD hS rfl hl.1 rfl (Nat.le_of_ble_eq_true rfl) dX9_readNumber_109 ⟨by decide, by decide⟩ (fun σ_34 H locs hw hP hD hS => ?_)
  have hG : mG D cA h ad A s σ_34 H locs := ⟨hP, hD, hS⟩
  exact kB_X9_readNumber_112 C vM  σ_34 _ _ _ hG (lv_sub hl [0] rfl) hw
set_option maxHeartbeats 4000000 in
set_option maxRecDepth 100000 in
theorem kB_X9_readNumber_69 {p : Program} {l : Launch} {e : Env} {s : State} {m : MethodId} {args : Array Value} {below : List Frame} {meth : Method} {c : Code} {A : Nat → Prop} {E : EnvT} {aK aV : Nat → Nat} {D : va_G} {cA : Nat → ClassId} {h : Nat} {ad : Nat → Nat} (C : mCx p s m args meth c cX9_readNumber 6 (some .boolean) wgX9_readNumber RX9 E D cA A) (vM : eMs aK aV E) {post : Int32 → MS → Prop} :
    ∀ (x1 : Int32) (x3 : Int32) (t0 : Int64) (σ : MS) (H : Heap) (locs : List Loc) (ls : Array Slot), mG D cA h ad A s σ H locs → lv_has ls 6 [(0, .ref h), (1, .int x1), (3, .int x3)] → wB_X9_readNumber_69 post x1 x3 t0 σ → W p l e rm_X9_readNumber s m args below meth c H locs 0 0 (MQ below (va_Qi post (mAt D cA h ad A) A) args s 0 0 A) (F0 m 69 ls [.long t0, .ref h]) := by
  obtain ⟨hx, hb, hml, hr, hown, hts, hK, hA, hlk, hE, vE⟩ := id C
  intro x1 x3 t0 σ H locs ls hG hl hw
  obtain ⟨hP, hD, hS⟩ := id hG
  refine va_put (D := D) (ci := 11) (v := .long t0) (ty := .long) (C := RX9) (T := TX9) (N := 32) hx hb hts (in_tb inX9) tyX9 tyX9_ok nmX9 hown hK hP hD hS 0 rfl rfl 26 (by decide) (hts _ (List.mem_cons_of_mem _ tw_5_136)) (fun _ h9 => h9) rfl (by decide +kernel) rfl rfl (Nat.le_of_ble_eq_true rfl) dX9_readNumber_69 (fun H locs hP hD hS => ?_)
  have hG : mG D cA h ad A s (wJ σ 26 t0) H locs := ⟨hP, hD, hS⟩
  obtain ⟨hP, hD, hS⟩ := id hG
  refine lv_aload_n hx hb dX9_readNumber_72 rfl (lv_at hl 0 rfl) ?_
  refine va_get (D := D) (ci := 11) (v := .long t0) (C := RX9) (T := TX9) (N := 32) hx hb hts (in_tb inX9) hown hK hP 0 rfl rfl 26 (by decide) (hts _ (List.mem_cons_of_mem _ tw_5_136)) (fun _ h9 => h9) rfl dX9_readNumber_73 ?_
  refine mS_i (As := [.long t0]) (rest := []) C (met_X9_isInt vE vM hw) (va_cwS 1 hts (TB_G (TB_3 tw_6_21 tw_6_22 tw_1_13) tw_6_23) rfl rfl rfl (by decide +kernel) ⟨by decide, by decide⟩) hP hD hS rfl hl.1 rfl (Nat.le_of_ble_eq_true rfl) dX9_readNumber_76 ⟨by decide, by decide⟩ (fun r_31 H locs hw hP hS => ?_)
  have hG : mG D cA h ad A s (wJ σ 26 t0) H locs := ⟨hP, hD, hS⟩
  refine lv_if_eq (tgt := 106) hx hb dX9_readNumber_79 (by decide) (fun q_ => ?_) (fun q_ => ?_)
  · have hw := hw.1 q_
    exact kB_X9_readNumber_106 C vM x3 (wJ σ 26 t0) _ _ _ hG (lv_sub hl [0, 2] rfl) hw
  · have hw := hw.2 q_
    refine lv_iload_n hx hb dX9_readNumber_82 rfl (lv_at hl 1 rfl) ?_
    refine lv_if_eq (tgt := 112) hx hb dX9_readNumber_83 (by decide) (fun q_ => ?_) (fun q_ => ?_)
    · have hw := hw.1 q_
      exact kB_X9_readNumber_112 C vM  (wJ σ 26 t0) _ _ _ hG (lv_sub hl [0] rfl) hw
    · have hw := hw.2 q_
      refine lv_aload_n hx hb dX9_readNumber_86 rfl (lv_at hl 0 rfl) ?_
      refine va_get (D := D) (ci := 11) (v := .long t0) (C := RX9) (T := TX9) (N := 32) hx hb hts (in_tb inX9) hown hK hP 0 rfl rfl 26 (by decide) (hts _ (List.mem_cons_of_mem _ tw_5_136)) (fun _ h9 => h9) rfl dX9_readNumber_87 ?_
      refine lv_lconst (v := 0) hx hb dX9_readNumber_90 (by decide) ?_
      refine W.lcmp hx hb dX9_readNumber_91 ?_
      refine lv_if_lt (tgt := 106) hx hb dX9_readNumber_92 (by decide) (fun q_ => ?_) (fun q_ => ?_)
      · have hw := hw.1 (lc_lt.mp q_)
        exact kB_X9_readNumber_106 C vM x3 (wJ σ 26 t0) _ _ _ hG (lv_sub hl [0, 2] rfl) hw
      · have hw := hw.2 (fun z => q_ (lc_lt.mpr z))
        refine lv_aload_n hx hb dX9_readNumber_95 rfl (lv_at hl 0 rfl) ?_
        refine va_get (D := D) (ci := 11) (v := .long t0) (C := RX9) (T := TX9) (N := 32) hx hb hts (in_tb inX9) hown hK hP 0 rfl rfl 26 (by decide) (hts _ (List.mem_cons_of_mem _ tw_5_136)) (fun _ h9 => h9) rfl dX9_readNumber_96 ?_
        refine lv_ldc2 (v := 63) hx hb hown (hts _ (List.mem_cons_of_mem _ tw_6_26)) dX9_readNumber_99 ?_
        refine W.lcmp hx hb dX9_readNumber_102 ?_
        refine lv_if_le (tgt := 112) hx hb dX9_readNumber_103 (by decide) (fun q_ => ?_) (fun q_ => ?_)
        · have hw := hw.1 (lc_le.mp q_)
          exact kB_X9_readNumber_112 C vM  (wJ σ 26 t0) _ _ _ hG (lv_sub hl [0] rfl) hw
        · have hw := hw.2 (fun z => q_ (lc_le.mpr z))
          exact kB_X9_readNumber_106 C vM x3 (wJ σ 26 t0) _ _ _ hG (lv_sub hl [0, 2] rfl) hw
set_option maxHeartbeats 4000000 in
set_option maxRecDepth 100000 in
theorem k_X9_readNumber {p : Program} {l : Launch} {e : Env} {s : State} {m : MethodId} {args : Array Value} {below : List Frame} {meth : Method} {c : Code} {A : Nat → Prop} {E : EnvT} {aK aV : Nat → Nat} {D : va_G} {cA : Nat → ClassId} {h : Nat} {ad : Nat → Nat} (C : mCx p s m args meth c cX9_readNumber 6 (some .boolean) wgX9_readNumber RX9 E D cA A) (vM : eMs aK aV E) {post : Int32 → MS → Prop} :
    ∀ (x1 : Int32) (x2 : Int32) (σ : MS) (H : Heap) (locs : List Loc) (ls : Array Slot), mG D cA h ad A s σ H locs → lv_has ls 6 [(0, .ref h), (1, .int x1), (2, .int x2)] → wp_X9_readNumber post x1 x2 σ → W p l e rm_X9_readNumber s m args below meth c H locs 0 0 (MQ below (va_Qi post (mAt D cA h ad A) A) args s 0 0 A) (F0 m 0 ls []) := by
  obtain ⟨hx, hb, hml, hr, hown, hts, hK, hA, hlk, hE, vE⟩ := id C
  intro x1 x2 σ H locs ls hG hl hw
  obtain ⟨hP, hD, hS⟩ := id hG
  refine lv_aload_n hx hb dX9_readNumber_0 rfl (lv_at hl 0 rfl) ?_
  refine va_get (D := D) (ci := 11) (v := .ref (ad 7)) (C := RX9) (T := TX9) (N := 32) hx hb hts (in_tb inX9) hown hK hP 0 rfl rfl 7 (by decide) (hts _ (List.mem_cons_of_mem _ tw_5_117)) (fun _ h9 => h9) rfl dX9_readNumber_1 ?_
  refine lv_aload_n hx hb dX9_readNumber_4 rfl (lv_at hl 0 rfl) ?_
  refine va_get (D := D) (ci := 11) (v := .int (mI σ 9)) (C := RX9) (T := TX9) (N := 32) hx hb hts (in_tb inX9) hown hK hP 0 rfl rfl 9 (by decide) (hts _ (List.mem_cons_of_mem _ tw_5_119)) (fun _ h9 => h9) rfl dX9_readNumber_5 ?_
  obtain ⟨h_1, hw⟩ := hw
  refine va_iald hx hb hK hP 3 0 rfl rfl h_1 dX9_readNumber_8 ?_
  refine lv_topi (fun x3_2 ex3_2 => ?_)
  have hw := hw x3_2 ex3_2
  refine lv_istore_n (lv' := [(3, .int x3_2), (0, .ref h), (1, .int x1), (2, .int x2)]) hx hb dX9_readNumber_9 rfl hl (by decide) rfl (fun ls hl => ?_)
  refine lv_aload_n hx hb dX9_readNumber_10 rfl (lv_at hl 1 rfl) ?_
  refine lv_bipush (v := 45) hx hb dX9_readNumber_11 (by decide) ?_
  refine mV_i (As := [.int 45]) (rest := []) C (met_X9_takes vE vM hw) (va_recv hK hP (ci := 11) (q0 := 0) rfl rfl) (cwV 1 hts (TB_G (TB_4 tw_6_13 tw_6_15 ts_33 tw_1_13) tw_6_16) rfl rfl rfl (by decide +kernel) ⟨by decide, by decide⟩) hP hD hS rfl hl.1 rfl (Nat.le_of_ble_eq_true rfl) dX9_readNumber_13 ⟨by decide, by decide⟩ (fun r_3 σ_4 H locs hw hP hD hS => ?_)
  have hG : mG D cA h ad A s σ_4 H locs := ⟨hP, hD, hS⟩
  refine lv_istore (lv' := [(4, .int r_3), (3, .int x3_2), (0, .ref h), (1, .int x1), (2, .int x2)]) hx hb dX9_readNumber_16 hl (by decide) rfl (fun ls hl => ?_)
  refine lv_aload_n hx hb dX9_readNumber_18 rfl (lv_at hl 2 rfl) ?_
  refine lv_iconst (v := 0) hx hb dX9_readNumber_19 (by decide) ?_
  refine va_put (D := D) (ci := 11) (v := .int 0) (ty := .boolean) (C := RX9) (T := TX9) (N := 32) hx hb hts (in_tb inX9) tyX9 tyX9_ok nmX9 hown hK hP hD hS 0 rfl rfl 27 (by decide) (hts _ (List.mem_cons_of_mem _ tw_5_137)) (fun _ h9 => h9) rfl (by decide +kernel) rfl rfl (Nat.le_of_ble_eq_true rfl) dX9_readNumber_20 (fun H locs hP hD hS => ?_)
  have hG : mG D cA h ad A s (wI σ_4 27 0) H locs := ⟨hP, hD, hS⟩
  obtain ⟨hP, hD, hS⟩ := id hG
  refine lv_aload_n hx hb dX9_readNumber_23 rfl (lv_at hl 2 rfl) ?_
  refine lv_lconst (v := 0) hx hb dX9_readNumber_24 (by decide) ?_
  refine va_put (D := D) (ci := 11) (v := .long 0) (ty := .long) (C := RX9) (T := TX9) (N := 32) hx hb hts (in_tb inX9) tyX9 tyX9_ok nmX9 hown hK hP hD hS 0 rfl rfl 26 (by decide) (hts _ (List.mem_cons_of_mem _ tw_5_136)) (fun _ h9 => h9) rfl (by decide +kernel) rfl rfl (Nat.le_of_ble_eq_true rfl) dX9_readNumber_25 (fun H locs hP hD hS => ?_)
  have hG : mG D cA h ad A s (wJ (wI σ_4 27 0) 26 0) H locs := ⟨hP, hD, hS⟩
  obtain ⟨hP, hD, hS⟩ := id hG
  refine lv_aload_n hx hb dX9_readNumber_28 rfl (lv_at hl 2 rfl) ?_
  refine va_get (D := D) (ci := 11) (v := .ref (ad 6)) (C := RX9) (T := TX9) (N := 32) hx hb hts (in_tb inX9) hown hK hP 0 rfl rfl 6 (by decide) (hts _ (List.mem_cons_of_mem _ tw_5_116)) (fun _ h9 => h9) rfl dX9_readNumber_29 ?_
  refine lv_aload_n hx hb dX9_readNumber_32 rfl (lv_at hl 2 rfl) ?_
  refine va_get (D := D) (ci := 11) (v := .int (mI σ_4 9)) (C := RX9) (T := TX9) (N := 32) hx hb hts (in_tb inX9) hown hK hP 0 rfl rfl 9 (by decide) (hts _ (List.mem_cons_of_mem _ tw_5_119)) (fun _ h9 => h9) rfl dX9_readNumber_33 ?_
  obtain ⟨h_5, hw⟩ := hw
  refine va_iald hx hb hK hP 2 0 rfl rfl h_5 dX9_readNumber_36 ?_
  refine lv_iconst (v := 2) hx hb dX9_readNumber_37 (by decide) ?_
  refine lv_icmp_ne (tgt := 124) hx hb dX9_readNumber_38 (by decide) (fun q_ => ?_) (fun q_ => ?_)
  · have hw := hw.2 q_
    refine lv_aload_n hx hb dX9_readNumber_124 rfl (lv_at hl 2 rfl) ?_
    refine va_get (D := D) (ci := 11) (v := .ref (ad 6)) (C := RX9) (T := TX9) (N := 32) hx hb hts (in_tb inX9) hown hK hP 0 rfl rfl 6 (by decide) (hts _ (List.mem_cons_of_mem _ tw_5_116)) (fun _ h9 => h9) rfl dX9_readNumber_125 ?_
    refine lv_aload_n hx hb dX9_readNumber_128 rfl (lv_at hl 2 rfl) ?_
    refine va_get (D := D) (ci := 11) (v := .int (mI σ_4 9)) (C := RX9) (T := TX9) (N := 32) hx hb hts (in_tb inX9) hown hK hP 0 rfl rfl 9 (by decide) (hts _ (List.mem_cons_of_mem _ tw_5_119)) (fun _ h9 => h9) rfl dX9_readNumber_129 ?_
    obtain ⟨h_6, hw⟩ := hw
    refine va_iald hx hb hK hP 2 0 rfl rfl h_6 dX9_readNumber_132 ?_
    refine lv_iconst (v := 1) hx hb dX9_readNumber_133 (by decide) ?_
    refine lv_icmp_eq (tgt := 142) hx hb dX9_readNumber_134 (by decide) (fun q_ => ?_) (fun q_ => ?_)
    · have hw := hw.1 q_
      refine lv_iload_n hx hb dX9_readNumber_142 rfl (lv_at hl 4 rfl) ?_
      refine lv_if_eq (tgt := 243) hx hb dX9_readNumber_143 (by decide) (fun q_ => ?_) (fun q_ => ?_)
      · have hw := hw.1 q_
        refine lv_aload_n hx hb dX9_readNumber_243 rfl (lv_at hl 2 rfl) ?_
        refine lv_iconst (v := 1) hx hb dX9_readNumber_244 (by decide) ?_
        refine va_put (D := D) (ci := 11) (v := .int 1) (ty := .boolean) (C := RX9) (T := TX9) (N := 32) hx hb hts (in_tb inX9) tyX9 tyX9_ok nmX9 hown hK hP hD hS 0 rfl rfl 27 (by decide) (hts _ (List.mem_cons_of_mem _ tw_5_137)) (fun _ h9 => h9) rfl (by decide +kernel) rfl rfl (Nat.le_of_ble_eq_true rfl) dX9_readNumber_245 (fun H locs hP hD hS => ?_)
        have hG : mG D cA h ad A s (wI (wJ (wI σ_4 27 0) 26 0) 27 1) H locs := ⟨hP, hD, hS⟩
        obtain ⟨hP, hD, hS⟩ := id hG
        refine lv_aload_n hx hb dX9_readNumber_248 rfl (lv_at hl 2 rfl) ?_
        refine va_get (D := D) (ci := 11) (v := .ref (ad 19)) (C := RX9) (T := TX9) (N := 32) hx hb hts (in_tb inX9) hown hK hP 0 rfl rfl 19 (by decide) (hts _ (List.mem_cons_of_mem _ tw_5_129)) (fun _ h9 => h9) rfl dX9_readNumber_249 ?_
        refine lv_aload_n hx hb dX9_readNumber_252 rfl (lv_at hl 2 rfl) ?_
        refine va_get (D := D) (ci := 11) (v := .int (mI σ_4 18)) (C := RX9) (T := TX9) (N := 32) hx hb hts (in_tb inX9) hown hK hP 0 rfl rfl 18 (by decide) (hts _ (List.mem_cons_of_mem _ tw_5_128)) (fun _ h9 => h9) rfl dX9_readNumber_253 ?_
        refine lv_aload_n hx hb dX9_readNumber_256 rfl (lv_at hl 2 rfl) ?_
        refine va_get (D := D) (ci := 11) (v := .int (mI σ_4 13)) (C := RX9) (T := TX9) (N := 32) hx hb hts (in_tb inX9) hown hK hP 0 rfl rfl 13 (by decide) (hts _ (List.mem_cons_of_mem _ tw_5_123)) (fun _ h9 => h9) rfl dX9_readNumber_257 ?_
        obtain ⟨h_7, hw⟩ := hw
        refine va_iast hx hb hK hP hD hS 10 0 rfl rfl h_7 dX9_readNumber_260 (fun H locs hP hD hS => ?_)
        have hG : mG D cA h ad A s (wA (wI (wJ (wI σ_4 27 0) 26 0) 27 1) 19 (mI σ_4 18).toNatClampNeg (mI σ_4 13)) H locs := ⟨hP, hD, hS⟩
        obtain ⟨hP, hD, hS⟩ := id hG
        refine lv_aload_n hx hb dX9_readNumber_261 rfl (lv_at hl 2 rfl) ?_
        refine va_get (D := D) (ci := 11) (v := .ref (ad 20)) (C := RX9) (T := TX9) (N := 32) hx hb hts (in_tb inX9) hown hK hP 0 rfl rfl 20 (by decide) (hts _ (List.mem_cons_of_mem _ tw_5_130)) (fun _ h9 => h9) rfl dX9_readNumber_262 ?_
        refine lv_aload_n hx hb dX9_readNumber_265 rfl (lv_at hl 2 rfl) ?_
        refine va_get (D := D) (ci := 11) (v := .int (mI σ_4 18)) (C := RX9) (T := TX9) (N := 32) hx hb hts (in_tb inX9) hown hK hP 0 rfl rfl 18 (by decide) (hts _ (List.mem_cons_of_mem _ tw_5_128)) (fun _ h9 => h9) rfl dX9_readNumber_266 ?_
        refine lv_aload_n hx hb dX9_readNumber_269 rfl (lv_at hl 2 rfl) ?_
        refine va_get (D := D) (ci := 11) (v := .ref (ad 8)) (C := RX9) (T := TX9) (N := 32) hx hb hts (in_tb inX9) hown hK hP 0 rfl rfl 8 (by decide) (hts _ (List.mem_cons_of_mem _ tw_5_118)) (fun _ h9 => h9) rfl dX9_readNumber_270 ?_
        refine lv_aload_n hx hb dX9_readNumber_273 rfl (lv_at hl 2 rfl) ?_
        refine va_get (D := D) (ci := 11) (v := .int (mI σ_4 9)) (C := RX9) (T := TX9) (N := 32) hx hb hts (in_tb inX9) hown hK hP 0 rfl rfl 9 (by decide) (hts _ (List.mem_cons_of_mem _ tw_5_119)) (fun _ h9 => h9) rfl dX9_readNumber_274 ?_
        obtain ⟨h_8, hw⟩ := hw
        refine va_lald hx hb hK hP 4 1 rfl rfl h_8 dX9_readNumber_277 ?_
        obtain ⟨h_9, hw⟩ := hw
        refine va_last hx hb hK hP hD hS 11 1 rfl rfl h_9 dX9_readNumber_278 (fun H locs hP hD hS => ?_)
        have hG : mG D cA h ad A s (wL (wA (wI (wJ (wI σ_4 27 0) 26 0) 27 1) 19 (mI σ_4 18).toNatClampNeg (mI σ_4 13)) 20 (mI σ_4 18).toNatClampNeg (mL σ_4 8 (mI σ_4 9).toNatClampNeg)) H locs := ⟨hP, hD, hS⟩
        obtain ⟨hP, hD, hS⟩ := id hG
        refine lv_aload_n hx hb dX9_readNumber_279 rfl (lv_at hl 2 rfl) ?_
        refine va_get (D := D) (ci := 11) (v := .ref (ad 21)) (C := RX9) (T := TX9) (N := 32) hx hb hts (in_tb inX9) hown hK hP 0 rfl rfl 21 (by decide) (hts _ (List.mem_cons_of_mem _ tw_5_131)) (fun _ h9 => h9) rfl dX9_readNumber_280 ?_
        refine lv_aload_n hx hb dX9_readNumber_283 rfl (lv_at hl 2 rfl) ?_
        refine va_get (D := D) (ci := 11) (v := .int (mI σ_4 18)) (C := RX9) (T := TX9) (N := 32) hx hb hts (in_tb inX9) hown hK hP 0 rfl rfl 18 (by decide) (hts _ (List.mem_cons_of_mem _ tw_5_128)) (fun _ h9 => h9) rfl dX9_readNumber_284 ?_
        refine lv_aload_n hx hb dX9_readNumber_287 rfl (lv_at hl 2 rfl) ?_
        refine va_get (D := D) (ci := 11) (v := .ref (ad 7)) (C := RX9) (T := TX9) (N := 32) hx hb hts (in_tb inX9) hown hK hP 0 rfl rfl 7 (by decide) (hts _ (List.mem_cons_of_mem _ tw_5_117)) (fun _ h9 => h9) rfl dX9_readNumber_288 ?_
        refine lv_aload_n hx hb dX9_readNumber_291 rfl (lv_at hl 2 rfl) ?_
        refine va_get (D := D) (ci := 11) (v := .int (mI σ_4 9)) (C := RX9) (T := TX9) (N := 32) hx hb hts (in_tb inX9) hown hK hP 0 rfl rfl 9 (by decide) (hts _ (List.mem_cons_of_mem _ tw_5_119)) (fun _ h9 => h9) rfl dX9_readNumber_292 ?_
        obtain ⟨h_10, hw⟩ := hw
        refine va_iald hx hb hK hP 3 0 rfl rfl h_10 dX9_readNumber_295 ?_
        obtain ⟨h_11, hw⟩ := hw
        refine va_iast hx hb hK hP hD hS 12 0 rfl rfl h_11 dX9_readNumber_296 (fun H locs hP hD hS => ?_)
        have hG : mG D cA h ad A s (wA (wL (wA (wI (wJ (wI σ_4 27 0) 26 0) 27 1) 19 (mI σ_4 18).toNatClampNeg (mI σ_4 13)) 20 (mI σ_4 18).toNatClampNeg (mL σ_4 8 (mI σ_4 9).toNatClampNeg)) 21 (mI σ_4 18).toNatClampNeg (mA σ_4 7 (mI σ_4 9).toNatClampNeg)) H locs := ⟨hP, hD, hS⟩
        obtain ⟨hP, hD, hS⟩ := id hG
        refine lv_aload_n hx hb dX9_readNumber_297 rfl (lv_at hl 2 rfl) ?_
        refine va_get (D := D) (ci := 11) (v := .ref (ad 22)) (C := RX9) (T := TX9) (N := 32) hx hb hts (in_tb inX9) hown hK hP 0 rfl rfl 22 (by decide) (hts _ (List.mem_cons_of_mem _ tw_5_132)) (fun _ h9 => h9) rfl dX9_readNumber_298 ?_
        refine lv_aload_n hx hb dX9_readNumber_301 rfl (lv_at hl 2 rfl) ?_
        refine va_get (D := D) (ci := 11) (v := .int (mI σ_4 18)) (C := RX9) (T := TX9) (N := 32) hx hb hts (in_tb inX9) hown hK hP 0 rfl rfl 18 (by decide) (hts _ (List.mem_cons_of_mem _ tw_5_128)) (fun _ h9 => h9) rfl dX9_readNumber_302 ?_
        refine lv_iload_n hx hb dX9_readNumber_305 rfl (lv_at hl 1 rfl) ?_
        obtain ⟨h_12, hw⟩ := hw
        refine va_iast hx hb hK hP hD hS 13 0 rfl rfl h_12 dX9_readNumber_306 (fun H locs hP hD hS => ?_)
        have hG : mG D cA h ad A s (wA (wA (wL (wA (wI (wJ (wI σ_4 27 0) 26 0) 27 1) 19 (mI σ_4 18).toNatClampNeg (mI σ_4 13)) 20 (mI σ_4 18).toNatClampNeg (mL σ_4 8 (mI σ_4 9).toNatClampNeg)) 21 (mI σ_4 18).toNatClampNeg (mA σ_4 7 (mI σ_4 9).toNatClampNeg)) 22 (mI σ_4 18).toNatClampNeg x3_2) H locs := ⟨hP, hD, hS⟩
        obtain ⟨hP, hD, hS⟩ := id hG
        refine lv_aload_n hx hb dX9_readNumber_307 rfl (lv_at hl 2 rfl) ?_
        refine va_get (D := D) (ci := 11) (v := .ref (ad 23)) (C := RX9) (T := TX9) (N := 32) hx hb hts (in_tb inX9) hown hK hP 0 rfl rfl 23 (by decide) (hts _ (List.mem_cons_of_mem _ tw_5_133)) (fun _ h9 => h9) rfl dX9_readNumber_308 ?_
        refine lv_aload_n hx hb dX9_readNumber_311 rfl (lv_at hl 2 rfl) ?_
        refine va_get (D := D) (ci := 11) (v := .int (mI σ_4 18)) (C := RX9) (T := TX9) (N := 32) hx hb hts (in_tb inX9) hown hK hP 0 rfl rfl 18 (by decide) (hts _ (List.mem_cons_of_mem _ tw_5_128)) (fun _ h9 => h9) rfl dX9_readNumber_312 ?_
        refine lv_iload hx hb dX9_readNumber_315 (lv_at hl 0 rfl) ?_
        obtain ⟨h_13, hw⟩ := hw
        refine va_zast hx hb hK hP hD hS 14 2 rfl rfl h_13 dX9_readNumber_317 (fun H locs hP hD hS => ?_)
        have hG : mG D cA h ad A s (wA (wA (wA (wL (wA (wI (wJ (wI σ_4 27 0) 26 0) 27 1) 19 (mI σ_4 18).toNatClampNeg (mI σ_4 13)) 20 (mI σ_4 18).toNatClampNeg (mL σ_4 8 (mI σ_4 9).toNatClampNeg)) 21 (mI σ_4 18).toNatClampNeg (mA σ_4 7 (mI σ_4 9).toNatClampNeg)) 22 (mI σ_4 18).toNatClampNeg x3_2) 23 (mI σ_4 18).toNatClampNeg (vp_nar .boolean r_3)) H locs := ⟨hP, hD, hS⟩
        obtain ⟨hP, hD, hS⟩ := id hG
        refine lv_aload_n hx hb dX9_readNumber_318 rfl (lv_at hl 2 rfl) ?_
        refine va_get (D := D) (ci := 11) (v := .ref (ad 24)) (C := RX9) (T := TX9) (N := 32) hx hb hts (in_tb inX9) hown hK hP 0 rfl rfl 24 (by decide) (hts _ (List.mem_cons_of_mem _ tw_5_134)) (fun _ h9 => h9) rfl dX9_readNumber_319 ?_
        refine lv_aload_n hx hb dX9_readNumber_322 rfl (lv_at hl 2 rfl) ?_
        refine va_get (D := D) (ci := 11) (v := .int (mI σ_4 18)) (C := RX9) (T := TX9) (N := 32) hx hb hts (in_tb inX9) hown hK hP 0 rfl rfl 18 (by decide) (hts _ (List.mem_cons_of_mem _ tw_5_128)) (fun _ h9 => h9) rfl dX9_readNumber_323 ?_
        refine lv_iload_n hx hb dX9_readNumber_326 rfl (lv_at hl 3 rfl) ?_
        obtain ⟨h_14, hw⟩ := hw
        refine va_zast hx hb hK hP hD hS 15 2 rfl rfl h_14 dX9_readNumber_327 (fun H locs hP hD hS => ?_)
        have hG : mG D cA h ad A s (wA (wA (wA (wA (wL (wA (wI (wJ (wI σ_4 27 0) 26 0) 27 1) 19 (mI σ_4 18).toNatClampNeg (mI σ_4 13)) 20 (mI σ_4 18).toNatClampNeg (mL σ_4 8 (mI σ_4 9).toNatClampNeg)) 21 (mI σ_4 18).toNatClampNeg (mA σ_4 7 (mI σ_4 9).toNatClampNeg)) 22 (mI σ_4 18).toNatClampNeg x3_2) 23 (mI σ_4 18).toNatClampNeg (vp_nar .boolean r_3)) 24 (mI σ_4 18).toNatClampNeg (vp_nar .boolean x1)) H locs := ⟨hP, hD, hS⟩
        obtain ⟨hP, hD, hS⟩ := id hG
        exact kB_X9_readNumber_328 C vM  (wA (wA (wA (wA (wL (wA (wI (wJ (wI σ_4 27 0) 26 0) 27 1) 19 (mI σ_4 18).toNatClampNeg (mI σ_4 13)) 20 (mI σ_4 18).toNatClampNeg (mL σ_4 8 (mI σ_4 9).toNatClampNeg)) 21 (mI σ_4 18).toNatClampNeg (mA σ_4 7 (mI σ_4 9).toNatClampNeg)) 22 (mI σ_4 18).toNatClampNeg x3_2) 23 (mI σ_4 18).toNatClampNeg (vp_nar .boolean r_3)) 24 (mI σ_4 18).toNatClampNeg (vp_nar .boolean x1)) _ _ _ hG (lv_sub hl [2] rfl) hw
      · have hw := hw.2 q_
        refine lv_aload_n hx hb dX9_readNumber_146 rfl (lv_at hl 2 rfl) ?_
        refine lv_iconst (v := 1) hx hb dX9_readNumber_147 (by decide) ?_
        refine lv_aload_n hx hb dX9_readNumber_148 rfl (lv_at hl 2 rfl) ?_
        refine va_get (D := D) (ci := 11) (v := .int (mI σ_4 14)) (C := RX9) (T := TX9) (N := 32) hx hb hts (in_tb inX9) hown hK hP 0 rfl rfl 14 (by decide) (hts _ (List.mem_cons_of_mem _ tw_5_124)) (fun _ h9 => h9) rfl dX9_readNumber_149 ?_
        refine lv_isub hx hb dX9_readNumber_152 ?_
        refine lv_aload_n hx hb dX9_readNumber_153 rfl (lv_at hl 2 rfl) ?_
        refine va_get (D := D) (ci := 11) (v := .ref (ad 8)) (C := RX9) (T := TX9) (N := 32) hx hb hts (in_tb inX9) hown hK hP 0 rfl rfl 8 (by decide) (hts _ (List.mem_cons_of_mem _ tw_5_118)) (fun _ h9 => h9) rfl dX9_readNumber_154 ?_
        refine lv_aload_n hx hb dX9_readNumber_157 rfl (lv_at hl 2 rfl) ?_
        refine va_get (D := D) (ci := 11) (v := .int (mI σ_4 9)) (C := RX9) (T := TX9) (N := 32) hx hb hts (in_tb inX9) hown hK hP 0 rfl rfl 9 (by decide) (hts _ (List.mem_cons_of_mem _ tw_5_119)) (fun _ h9 => h9) rfl dX9_readNumber_158 ?_
        obtain ⟨h_15, hw⟩ := hw
        refine va_lald hx hb hK hP 4 1 rfl rfl h_15 dX9_readNumber_161 ?_
        refine mV_i (As := [.int (1 - (mI σ_4 14)), .long (mL σ_4 8 (mI σ_4 9).toNatClampNeg)]) (rest := []) C (met_X9_find vE vM hw) (va_recv hK hP (ci := 11) (q0 := 0) rfl rfl) (cwV 2 hts (TB_G (TB_4 tw_6_35 tw_6_37 ts_37 tw_1_13) tw_6_38) rfl rfl rfl (by decide +kernel) ⟨by decide, by decide⟩) hP hD hS rfl hl.1 rfl (Nat.le_of_ble_eq_true rfl) dX9_readNumber_162 ⟨by decide, by decide⟩ (fun r_16 σ_17 H locs hw hP hD hS => ?_)
        have hG : mG D cA h ad A s σ_17 H locs := ⟨hP, hD, hS⟩
        refine lv_istore (lv' := [(5, .int r_16), (4, .int r_3), (3, .int x3_2), (0, .ref h), (1, .int x1), (2, .int x2)]) hx hb dX9_readNumber_165 hl (by decide) rfl (fun ls hl => ?_)
        refine lv_iload hx hb dX9_readNumber_167 (lv_at hl 0 rfl) ?_
        refine lv_iconst (v := (-1)) hx hb dX9_readNumber_169 (by decide) ?_
        refine lv_icmp_ne (tgt := 187) hx hb dX9_readNumber_170 (by decide) (fun q_ => ?_) (fun q_ => ?_)
        · have hw := hw.2 q_
          exact kB_X9_readNumber_187 C vM x3_2 r_3 r_16 σ_17 _ _ _ hG (lv_sub hl [3, 2, 1, 0] rfl) hw
        · have hw := hw.1 q_
          refine lv_aload_n hx hb dX9_readNumber_173 rfl (lv_at hl 3 rfl) ?_
          refine lv_iconst (v := 2) hx hb dX9_readNumber_174 (by decide) ?_
          refine lv_aload_n hx hb dX9_readNumber_175 rfl (lv_at hl 3 rfl) ?_
          refine va_get (D := D) (ci := 11) (v := .ref (ad 7)) (C := RX9) (T := TX9) (N := 32) hx hb hts (in_tb inX9) hown hK hP 0 rfl rfl 7 (by decide) (hts _ (List.mem_cons_of_mem _ tw_5_117)) (fun _ h9 => h9) rfl dX9_readNumber_176 ?_
          refine lv_aload_n hx hb dX9_readNumber_179 rfl (lv_at hl 3 rfl) ?_
          refine va_get (D := D) (ci := 11) (v := .int (mI σ_17 9)) (C := RX9) (T := TX9) (N := 32) hx hb hts (in_tb inX9) hown hK hP 0 rfl rfl 9 (by decide) (hts _ (List.mem_cons_of_mem _ tw_5_119)) (fun _ h9 => h9) rfl dX9_readNumber_180 ?_
          obtain ⟨h_24, hw⟩ := hw
          refine va_iald hx hb hK hP 3 0 rfl rfl h_24 dX9_readNumber_183 ?_
          refine mV_v (As := [.int 2, .int (mA σ_17 7 (mI σ_17 9).toNatClampNeg)]) (rest := []) C (met_X9_note vE vM hw) (va_recv hK hP (ci := 11) (q0 := 0) rfl rfl) (cwV 2 hts (TB_G (TB_4 tw_6_27 tw_6_29 ts_35 tw_1_13) tw_6_30) rfl rfl rfl (by decide +kernel) ⟨by decide, by decide⟩) hP hD hS rfl hl.1 rfl (Nat.le_of_ble_eq_true rfl) dX9_readNumber_184 ⟨by decide, by decide⟩ (fun σ_26 H locs hw hP hD hS => ?_)
          have hG : mG D cA h ad A s σ_26 H locs := ⟨hP, hD, hS⟩
          exact kB_X9_readNumber_187 C vM x3_2 r_3 r_16 σ_26 _ _ _ hG (lv_sub hl [3, 2, 1, 0] rfl) hw
    · have hw := hw.2 q_
      refine lv_aload_n hx hb dX9_readNumber_137 rfl (lv_at hl 2 rfl) ?_
      refine mV_i (As := []) (rest := []) C (met_X9_refuse vE vM hw) (va_recv hK hP (ci := 11) (q0 := 0) rfl rfl) (cwV 0 hts (TB_G (TB_4 tw_6_31 tw_6_33 ts_36 tw_1_13) tw_6_34) rfl rfl rfl (by decide +kernel) ⟨by decide, by decide⟩) hP hD hS rfl hl.1 rfl (Nat.le_of_ble_eq_true rfl) dX9_readNumber_138 ⟨by decide, by decide⟩ (fun r_27 σ_28 H locs hw hP hD hS => ?_)
      have hG : mG D cA h ad A s σ_28 H locs := ⟨hP, hD, hS⟩
      obtain ⟨h_29, hw⟩ := hw
      exact W.zret (v := r_27) (ty := .boolean) hx hb hr (isB.n h_29) (fun t ht hW => ⟨⟨_, σ_28, rfl, hw, by rw [ht]; exact hP, va_K.moved hW.alike hK, hD⟩, hS.F ht⟩) hS.2.2 dX9_readNumber_141 hlk
  · have hw := hw.1 q_
    refine lv_aload_n hx hb dX9_readNumber_41 rfl (lv_at hl 2 rfl) ?_
    refine lv_iload hx hb dX9_readNumber_42 (lv_at hl 0 rfl) ?_
    refine lv_if_eq (tgt := 60) hx hb dX9_readNumber_44 (by decide) (fun q_ => ?_) (fun q_ => ?_)
    · have hw := hw.1 q_
      refine lv_aload_n hx hb dX9_readNumber_60 rfl (lv_at hl 2 rfl) ?_
      refine va_get (D := D) (ci := 11) (v := .ref (ad 8)) (C := RX9) (T := TX9) (N := 32) hx hb hts (in_tb inX9) hown hK hP 0 rfl rfl 8 (by decide) (hts _ (List.mem_cons_of_mem _ tw_5_118)) (fun _ h9 => h9) rfl dX9_readNumber_61 ?_
      refine lv_aload_n hx hb dX9_readNumber_64 rfl (lv_at hl 2 rfl) ?_
      refine va_get (D := D) (ci := 11) (v := .int (mI σ_4 9)) (C := RX9) (T := TX9) (N := 32) hx hb hts (in_tb inX9) hown hK hP 0 rfl rfl 9 (by decide) (hts _ (List.mem_cons_of_mem _ tw_5_119)) (fun _ h9 => h9) rfl dX9_readNumber_65 ?_
      obtain ⟨h_30, hw⟩ := hw
      refine va_lald hx hb hK hP 4 1 rfl rfl h_30 dX9_readNumber_68 ?_
      exact kB_X9_readNumber_69 C vM x1 x3_2 (mL σ_4 8 (mI σ_4 9).toNatClampNeg) (wJ (wI σ_4 27 0) 26 0) _ _ _ hG (lv_sub hl [2, 3, 1] rfl) hw
    · have hw := hw.2 q_
      refine lv_aload_n hx hb dX9_readNumber_47 rfl (lv_at hl 2 rfl) ?_
      refine va_get (D := D) (ci := 11) (v := .ref (ad 8)) (C := RX9) (T := TX9) (N := 32) hx hb hts (in_tb inX9) hown hK hP 0 rfl rfl 8 (by decide) (hts _ (List.mem_cons_of_mem _ tw_5_118)) (fun _ h9 => h9) rfl dX9_readNumber_48 ?_
      refine lv_aload_n hx hb dX9_readNumber_51 rfl (lv_at hl 2 rfl) ?_
      refine va_get (D := D) (ci := 11) (v := .int (mI σ_4 9)) (C := RX9) (T := TX9) (N := 32) hx hb hts (in_tb inX9) hown hK hP 0 rfl rfl 9 (by decide) (hts _ (List.mem_cons_of_mem _ tw_5_119)) (fun _ h9 => h9) rfl dX9_readNumber_52 ?_
      obtain ⟨h_35, hw⟩ := hw
      refine va_lald hx hb hK hP 4 1 rfl rfl h_35 dX9_readNumber_55 ?_
      refine lv_lneg hx hb dX9_readNumber_56 ?_
      refine lv_goto (tgt := 69) hx hb dX9_readNumber_57 (by decide) ?_
      exact kB_X9_readNumber_69 C vM x1 x3_2 (-(mL σ_4 8 (mI σ_4 9).toNatClampNeg)) (wJ (wI σ_4 27 0) 26 0) _ _ _ hG (lv_sub hl [2, 3, 1] rfl) hw
set_option maxHeartbeats 4000000 in
set_option maxRecDepth 100000 in
theorem met_X9_readNumber {l : Launch} {E : EnvT} (vE : EnvOk E) {D : va_G} {cA : Nat → ClassId} {h : Nat} {ad : Nat → Nat} {σ : MS} {aK aV : Nat → Nat} (vM : eMs aK aV E) {sz : Nat} {x1 : Int32} {x2 : Int32} {post : Int32 → MS → Prop} (hw : wp_X9_readNumber post x1 x2 σ) : Met l yX9_readNumber wgX9_readNumber rm_X9_readNumber (va_Pc [.ref h, .int x1, .int x2] (mPre E D cA h ad sz σ)) (va_Qi post (mAt D cA h ad (va_A (mW cA h ad σ) sz)) (va_A (mW cA h ad σ) sz)) 0 0 (va_A (mW cA h ad σ) sz) := by
  refine Met.ofW (cc := cX9_readNumber) (maxL := 6) (ret := (some .boolean)) (by decide +kernel) rfl ?_
  intro p e s m args below meth c s₁ B hml hv
  obtain ⟨rfl, hsz, hP, hK, hD0, hE⟩ := hv
  subst hsz
  have hD := hD0.self (sz := s.heap.size)
  generalize hAe : va_A (mW cA h ad σ) s.heap.size = A at hD hE ⊢
  have hA : ∀ q : Nat, s.heap.size ≤ q → A q := fun q h => by rw [← hAe]; exact Or.inr h
  have hS : va_S A s.heap s.heap [] := va_S.rf
  have C : mCx p s m _ meth c cX9_readNumber 6 (some .boolean) wgX9_readNumber RX9 E D cA A := ⟨B.exec, B.bytes, hml, B.returns, findClass_of_methodNamed B.named, atoms_spec (ws := wgX9_readNumber) B.pre, hK, hA, B.notSynchronized, hE, vE⟩
  have hG : mG D cA h ad A s σ s.heap [] := ⟨hP, hD, hS⟩
  have hl := lv_entry ([.ref h, .int x1, .int x2]) (n := 6) (Nat.le_of_ble_eq_true rfl)
  rw [lg_entry_eq]
  generalize (lg_sl ([.ref h, .int x1, .int x2]) ++ List.replicate (6 - (lg_sl ([.ref h, .int x1, .int x2])).length) Slot.unset).toArray = ls at hl ⊢
  have hl : lv_has ls 6 [(0, .ref h), (1, .int x1), (2, .int x2)] := hl
  exact k_X9_readNumber C vM x1 x2 σ _ _ _ hG hl hw
/-! ===== number ===== -/
def rm_X9_number : Room := { frames := 0, cells := 0, slots := 0, locals := 0 }
abbrev wgX9_number : List Cond := .code yX9_number cX9_number 2 (some .long) :: TB
def wp_X9_number (post : Int64 → Prop) (x0 : Int64) : Prop :=
  post ((x0 &&& 4294967295) <<< ((32 : Int32).toInt64 &&& 63))
set_option maxHeartbeats 4000000 in
set_option maxRecDepth 100000 in
theorem k_X9_number {p : Program} {l : Launch} {e : Env} {s : State} {m : MethodId} {args : Array Value} {below : List Frame} {meth : Method} {c : Code} {A : Nat → Prop} {E : EnvT} {aK aV : Nat → Nat} (C : sCx p s m args meth c cX9_number 2 (some .long) wgX9_number RX9 E A) (vM : eMs aK aV E) {post : Int64 → Prop} :
    ∀ (x0 : Int64) (H : Heap) (locs : List Loc) (ls : Array Slot), va_S A s.heap H locs → lv_has ls 2 [(0, .long x0)] → wp_X9_number post x0 → W p l e rm_X9_number s m args below meth c H locs 0 0 (MQ below (va_Ql (S := Unit) (fun r _ => post r) (fun _ _ => True) A) args s 0 0 A) (F0 m 0 ls []) := by
  obtain ⟨hx, hb, hml, hr, hown, hts, hA, hlk, hE, vE⟩ := id C
  intro x0 H locs ls hG hl hw
  have hS := hG
  refine lv_lload_n hx hb dX9_number_0 rfl (lv_at hl 0 rfl) ?_
  refine lv_ldc2 (v := 4294967295) hx hb hown (hts _ (List.mem_cons_of_mem _ tw_6_76)) dX9_number_1 ?_
  refine lv_land hx hb dX9_number_4 ?_
  refine lv_bipush (v := 32) hx hb dX9_number_5 (by decide) ?_
  refine lv_lshl hx hb dX9_number_7 rfl ?_
  exact W.lret (v := (x0 &&& 4294967295) <<< ((32 : Int32).toInt64 &&& 63)) hx hb hr (fun t ht hW => ⟨⟨_, (), rfl, hw, trivial⟩, hS.F ht⟩) hS.2.2 dX9_number_8 hlk
set_option maxHeartbeats 4000000 in
set_option maxRecDepth 100000 in
theorem met_X9_number {l : Launch} {E : EnvT} (vE : EnvOk E) {aK aV : Nat → Nat} (vM : eMs aK aV E) {sz : Nat} {x0 : Int64} {post : Int64 → Prop} (hw : wp_X9_number post x0) : Met l yX9_number wgX9_number rm_X9_number (va_Pc [.long x0] (sPre E sz)) (va_Ql (S := Unit) (fun r _ => post r) (fun _ _ => True) (va_A [] sz)) 0 0 (va_A [] sz) := by
  refine Met.ofW (cc := cX9_number) (maxL := 2) (ret := (some .long)) (by decide +kernel) rfl ?_
  intro p e s m args below meth c s₁ B hml hv
  obtain ⟨rfl, hsz, hE⟩ := hv
  subst hsz
  generalize hAe : va_A [] s.heap.size = A at hE ⊢
  have hA : ∀ q : Nat, s.heap.size ≤ q → A q := fun q h => by rw [← hAe]; exact Or.inr h
  have hS : va_S A s.heap s.heap [] := va_S.rf
  have C : sCx p s m _ meth c cX9_number 2 (some .long) wgX9_number RX9 E A := ⟨B.exec, B.bytes, hml, B.returns, findClass_of_methodNamed B.named, atoms_spec (ws := wgX9_number) B.pre, hA, B.notSynchronized, hE, vE⟩
  have hG := hS
  have hl := lv_entry ([.long x0]) (n := 2) (Nat.le_of_ble_eq_true rfl)
  rw [lg_entry_eq]
  generalize (lg_sl ([.long x0]) ++ List.replicate (2 - (lg_sl ([.long x0])).length) Slot.unset).toArray = ls at hl ⊢
  have hl : lv_has ls 2 [(0, .long x0)] := hl
  exact k_X9_number C vM x0 _ _ _ hG hl hw
