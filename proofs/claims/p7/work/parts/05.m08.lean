/-! ===== readStatement ===== -/
def rm_X9_readStatement : Room := { frames := 7, cells := 0, slots := 0, locals := 151 }
abbrev wgX9_readStatement : List Cond := .code yX9_readStatement cX9_readStatement 4 (some .boolean) :: TB
def wB_X9_readStatement_302 (post : Int32 → MS → Prop) (t0 : Int32) (σ : MS) : Prop :=
  isB t0 ∧ (post t0 σ)
def wB_X9_readStatement_301 (post : Int32 → MS → Prop) (σ : MS) : Prop :=
  wB_X9_readStatement_302 post 0 σ
def wB_X9_readStatement_274 (post : Int32 → MS → Prop) (σ : MS) : Prop :=
  wp_X9_refuse (fun r_16 σ_17 => isB r_16 ∧ (post r_16 σ_17)) σ
def wB_X9_readStatement_264 (post : Int32 → MS → Prop) (σ : MS) : Prop :=
  wB_X9_readStatement_274 post (wI σ 9 ((mI σ 9) + 1))
def wB_X9_readStatement_210 (post : Int32 → MS → Prop) (x1 : Int64) (σ : MS) : Prop :=
  vp_in (mI σ 9) 702 ∧ (((mA σ 6 (mI σ 9).toNatClampNeg) = 1 → (vp_in (mI σ 9) 702 ∧ (wp_X9_wordOf (fun r_7  => (r_7 = (-1) → (wp_X9_isNext (fun r_14 σ_15 => (r_14 = 0 → (wp_X9_isNext (fun r_19 σ_20 => (r_19 = 0 → (wB_X9_readStatement_274 post σ_20)) ∧ (¬ r_19 = 0 → (wB_X9_readStatement_264 post σ_20))) 58 σ_15)) ∧ (¬ r_14 = 0 → (wB_X9_readStatement_264 post σ_15))) 61 σ)) ∧ (¬ r_7 = (-1) → (wp_X9_readWord (fun r_9 σ_10 => (r_9 = 0 → (wB_X9_readStatement_301 post σ_10)) ∧ (¬ r_9 = 0 → (wp_X9_want (fun r_12 σ_13 => (r_12 = 0 → (wB_X9_readStatement_301 post σ_13)) ∧ (¬ r_12 = 0 → (wB_X9_readStatement_302 post 1 σ_13))) 59 σ_10))) r_7 x1 σ))) (mL σ 8 (mI σ 9).toNatClampNeg)))) ∧ (¬ (mA σ 6 (mI σ 9).toNatClampNeg) = 1 → (wp_X9_refuse (fun r_21 σ_22 => isB r_21 ∧ (post r_21 σ_22)) σ)))
def wB_X9_readStatement_184 (post : Int32 → MS → Prop) (x1 : Int64) (σ : MS) : Prop :=
  (x1 = 0 → (vp_in (mI σ 9) 702 ∧ (((mA σ 6 (mI σ 9).toNatClampNeg) = 1 → (wB_X9_readStatement_210 post x1 σ)) ∧ (¬ (mA σ 6 (mI σ 9).toNatClampNeg) = 1 → (wp_X9_want (fun r_25 σ_26 => isB r_25 ∧ (post r_25 σ_26)) 59 σ))))) ∧ (¬ x1 = 0 → (wB_X9_readStatement_210 post x1 σ))
def wB_X9_readStatement_177 (post : Int32 → MS → Prop) (t0 : Int32) (σ : MS) : Prop :=
  ∀ x1_32 : Int64, x1_32 = (t0 + (mI σ 25)).toInt64 → wB_X9_readStatement_184 post x1_32 σ
def wB_X9_readStatement_137 (post : Int32 → MS → Prop) (σ : MS) : Prop :=
  wp_X9_takes (fun r_3 σ_4 => (r_3 = 0 → (wB_X9_readStatement_184 post 0 σ_4)) ∧ (¬ r_3 = 0 → (wp_X9_takes (fun r_28 σ_29 => wp_X9_readRegister (fun r_30 σ_31 => (r_30 = 0 → (post 0 σ_31)) ∧ (¬ r_30 = 0 → ((r_28 = 0 → (wB_X9_readStatement_177 post 8 σ_31)) ∧ (¬ r_28 = 0 → (wB_X9_readStatement_177 post 12 σ_31))))) 112 σ_29) 33 σ_4))) 64 σ
def wB_X9_readStatement_75 (post : Int32 → MS → Prop) (k75 : MS → Prop) (σ : MS) : Prop :=
  vp_in (mI σ 9) 702 ∧ (((mA σ 6 (mI σ 9).toNatClampNeg) = 1 → (wp_X9_isNext (fun r_33 σ_34 => (r_33 = 0 → (wB_X9_readStatement_137 post σ_34)) ∧ (¬ r_33 = 0 → (vp_in (mI σ_34 9) 702 ∧ (vp_in (mI σ_34 9) 702 ∧ (wp_X9_tell (fun σ_38 => k75 (wI σ_38 9 ((mI σ_38 9) + 2))) (mL σ_34 8 (mI σ_34 9).toNatClampNeg) (mA σ_34 7 (mI σ_34 9).toNatClampNeg) ((mI σ_34 13).toInt64) σ_34))))) 58 σ)) ∧ (¬ (mA σ 6 (mI σ 9).toNatClampNeg) = 1 → (wB_X9_readStatement_137 post σ)))
def wL_X9_readStatement_75 (post : Int32 → MS → Prop) : Nat → MS → Prop
  | 0 => fun _ => False
  | n + 1 => wB_X9_readStatement_75 post (wL_X9_readStatement_75 post n)
def wp_X9_readStatement (post : Int32 → MS → Prop) (σ : MS) : Prop :=
  vp_in (mI σ 9) 702 ∧ (((mA σ 6 (mI σ 9).toNatClampNeg) = 1 → (wp_X9_isNext (fun r_39 σ_40 => (r_39 = 0 → (∃ n, wL_X9_readStatement_75 post n σ_40)) ∧ (¬ r_39 = 0 → (∀ x1_41 : Int32, x1_41 = mI σ_40 9 → wp_X9_readNumber (fun r_42 σ_43 => (r_42 = 0 → (post 0 σ_43)) ∧ (¬ r_42 = 0 → (vp_in x1_41 702 ∧ (vp_in x1_41 702 ∧ (wp_X9_tell (fun σ_47 => wp_X9_want (fun r_48 σ_49 => isB r_48 ∧ (post r_48 σ_49)) 59 σ_47) (mL σ_43 8 x1_41.toNatClampNeg) (mA σ_43 7 x1_41.toNatClampNeg) (mJ σ_43 26) σ_43))))) 0 1 (wI σ_40 9 ((mI σ_40 9) + 2))))) 61 σ)) ∧ (¬ (mA σ 6 (mI σ 9).toNatClampNeg) = 1 → (∃ n, wL_X9_readStatement_75 post n σ)))
set_option maxHeartbeats 4000000 in
set_option maxRecDepth 100000 in
theorem kB_X9_readStatement_302 {p : Program} {l : Launch} {e : Env} {s : State} {m : MethodId} {args : Array Value} {below : List Frame} {meth : Method} {c : Code} {A : Nat → Prop} {E : EnvT} {aK aV : Nat → Nat} {D : va_G} {cA : Nat → ClassId} {h : Nat} {ad : Nat → Nat} (C : mCx p s m args meth c cX9_readStatement 4 (some .boolean) wgX9_readStatement RX9 E D cA A) (vM : eMs aK aV E) {post : Int32 → MS → Prop} :
    ∀ (t0 : Int32) (σ : MS) (H : Heap) (locs : List Loc) (ls : Array Slot), mG D cA h ad A s σ H locs → lv_has ls 4 [] → wB_X9_readStatement_302 post t0 σ → W p l e rm_X9_readStatement s m args below meth c H locs 0 0 (MQ below (va_Qi post (mAt D cA h ad A) A) args s 0 0 A) (F0 m 302 ls [.int t0]) := by
  obtain ⟨hx, hb, hml, hr, hown, hts, hK, hA, hlk, hE, vE⟩ := id C
  intro t0 σ H locs ls hG hl hw
  obtain ⟨hP, hD, hS⟩ := id hG
  obtain ⟨h_11, hw⟩ := hw
  exact W.zret (v := t0) (ty := .boolean) hx hb hr (isB.n h_11) (fun t ht hW => ⟨⟨_, σ, rfl, hw, by rw [ht]; exact hP, va_K.moved hW.alike hK, hD⟩, hS.F ht⟩) hS.2.2 dX9_readStatement_302 hlk
set_option maxHeartbeats 4000000 in
set_option maxRecDepth 100000 in
theorem kB_X9_readStatement_301 {p : Program} {l : Launch} {e : Env} {s : State} {m : MethodId} {args : Array Value} {below : List Frame} {meth : Method} {c : Code} {A : Nat → Prop} {E : EnvT} {aK aV : Nat → Nat} {D : va_G} {cA : Nat → ClassId} {h : Nat} {ad : Nat → Nat} (C : mCx p s m args meth c cX9_readStatement 4 (some .boolean) wgX9_readStatement RX9 E D cA A) (vM : eMs aK aV E) {post : Int32 → MS → Prop} :
    ∀ (σ : MS) (H : Heap) (locs : List Loc) (ls : Array Slot), mG D cA h ad A s σ H locs → lv_has ls 4 [] → wB_X9_readStatement_301 post σ → W p l e rm_X9_readStatement s m args below meth c H locs 0 0 (MQ below (va_Qi post (mAt D cA h ad A) A) args s 0 0 A) (F0 m 301 ls []) := by
  obtain ⟨hx, hb, hml, hr, hown, hts, hK, hA, hlk, hE, vE⟩ := id C
  intro σ H locs ls hG hl hw
  obtain ⟨hP, hD, hS⟩ := id hG
  refine lv_iconst (v := 0) hx hb dX9_readStatement_301 (by decide) ?_
  exact kB_X9_readStatement_302 C vM 0 σ _ _ _ hG (lv_sub hl [] rfl) hw
set_option maxHeartbeats 4000000 in
set_option maxRecDepth 100000 in
theorem kB_X9_readStatement_274 {p : Program} {l : Launch} {e : Env} {s : State} {m : MethodId} {args : Array Value} {below : List Frame} {meth : Method} {c : Code} {A : Nat → Prop} {E : EnvT} {aK aV : Nat → Nat} {D : va_G} {cA : Nat → ClassId} {h : Nat} {ad : Nat → Nat} (C : mCx p s m args meth c cX9_readStatement 4 (some .boolean) wgX9_readStatement RX9 E D cA A) (vM : eMs aK aV E) {post : Int32 → MS → Prop} :
    ∀ (σ : MS) (H : Heap) (locs : List Loc) (ls : Array Slot), mG D cA h ad A s σ H locs → lv_has ls 4 [(0, .ref h)] → wB_X9_readStatement_274 post σ → W p l e rm_X9_readStatement s m args below meth c H locs 0 0 (MQ below (va_Qi post (mAt D cA h ad A) A) args s 0 0 A) (F0 m 274 ls []) := by
  obtain ⟨hx, hb, hml, hr, hown, hts, hK, hA, hlk, hE, vE⟩ := id C
  intro σ H locs ls hG hl hw
  obtain ⟨hP, hD, hS⟩ := id hG
  refine lv_aload_n hx hb dX9_readStatement_274 rfl (lv_at hl 0 rfl) ?_
  refine mV_i (As := []) (rest := []) C (met_X9_refuse vE vM hw) (va_recv hK hP (ci := 11) (q0 := 0) rfl rfl) (cwV 0 hts (TB_G (TB_4 tw_6_31 tw_6_33 ts_36 tw_1_13) tw_6_34) rfl rfl rfl (by decide +kernel) ⟨by decide, by decide⟩) hP hD hS rfl hl.1 rfl (Nat.le_of_ble_eq_true rfl) dX9_readStatement_275 ⟨by decide, by decide⟩ (fun r_16 σ_17 H locs hw hP hD hS => ?_)
  have hG : mG D cA h ad A s σ_17 H locs := ⟨hP, hD, hS⟩
  obtain ⟨h_18, hw⟩ := hw
  exact W.zret (v := r_16) (ty := .boolean) hx hb hr (isB.n h_18) (fun t ht hW => ⟨⟨_, σ_17, rfl, hw, by rw [ht]; exact hP, va_K.moved hW.alike hK, hD⟩, hS.F ht⟩) hS.2.2 dX9_readStatement_278 hlk
set_option maxHeartbeats 4000000 in
set_option maxRecDepth 100000 in
theorem kB_X9_readStatement_264 {p : Program} {l : Launch} {e : Env} {s : State} {m : MethodId} {args : Array Value} {below : List Frame} {meth : Method} {c : Code} {A : Nat → Prop} {E : EnvT} {aK aV : Nat → Nat} {D : va_G} {cA : Nat → ClassId} {h : Nat} {ad : Nat → Nat} (C : mCx p s m args meth c cX9_readStatement 4 (some .boolean) wgX9_readStatement RX9 E D cA A) (vM : eMs aK aV E) {post : Int32 → MS → Prop} :
    ∀ (σ : MS) (H : Heap) (locs : List Loc) (ls : Array Slot), mG D cA h ad A s σ H locs → lv_has ls 4 [(0, .ref h)] → wB_X9_readStatement_264 post σ → W p l e rm_X9_readStatement s m args below meth c H locs 0 0 (MQ below (va_Qi post (mAt D cA h ad A) A) args s 0 0 A) (F0 m 264 ls []) := by
  obtain ⟨hx, hb, hml, hr, hown, hts, hK, hA, hlk, hE, vE⟩ := id C
  intro σ H locs ls hG hl hw
  obtain ⟨hP, hD, hS⟩ := id hG
  refine lv_aload_n hx hb dX9_readStatement_264 rfl (lv_at hl 0 rfl) ?_
  refine lv_dup hx hb dX9_readStatement_265 rfl ?_
  refine va_get (D := D) (ci := 11) (v := .int (mI σ 9)) (C := RX9) (T := TX9) (N := 32) hx hb hts (in_tb inX9) hown hK hP 0 rfl rfl 9 (by decide) (hts _ (List.mem_cons_of_mem _ tw_5_119)) (fun _ h9 => h9) rfl dX9_readStatement_266 ?_
  refine lv_iconst (v := 1) hx hb dX9_readStatement_269 (by decide) ?_
  refine lv_iadd hx hb dX9_readStatement_270 ?_
  refine va_put (D := D) (ci := 11) (v := .int ((mI σ 9) + 1)) (ty := .int) (C := RX9) (T := TX9) (N := 32) hx hb hts (in_tb inX9) tyX9 tyX9_ok nmX9 hown hK hP hD hS 0 rfl rfl 9 (by decide) (hts _ (List.mem_cons_of_mem _ tw_5_119)) (fun _ h9 => h9) rfl (by decide +kernel) rfl rfl (Nat.le_of_ble_eq_true rfl) dX9_readStatement_271 (fun H locs hP hD hS => ?_)
  have hG : mG D cA h ad A s (wI σ 9 ((mI σ 9) + 1)) H locs := ⟨hP, hD, hS⟩
  obtain ⟨hP, hD, hS⟩ := id hG
  exact kB_X9_readStatement_274 C vM  (wI σ 9 ((mI σ 9) + 1)) _ _ _ hG (lv_sub hl [0] rfl) hw
set_option maxHeartbeats 4000000 in
set_option maxRecDepth 100000 in
theorem kB_X9_readStatement_210 {p : Program} {l : Launch} {e : Env} {s : State} {m : MethodId} {args : Array Value} {below : List Frame} {meth : Method} {c : Code} {A : Nat → Prop} {E : EnvT} {aK aV : Nat → Nat} {D : va_G} {cA : Nat → ClassId} {h : Nat} {ad : Nat → Nat} (C : mCx p s m args meth c cX9_readStatement 4 (some .boolean) wgX9_readStatement RX9 E D cA A) (vM : eMs aK aV E) {post : Int32 → MS → Prop} :
    ∀ (x1 : Int64) (σ : MS) (H : Heap) (locs : List Loc) (ls : Array Slot), mG D cA h ad A s σ H locs → lv_has ls 4 [(0, .ref h), (1, .long x1)] → wB_X9_readStatement_210 post x1 σ → W p l e rm_X9_readStatement s m args below meth c H locs 0 0 (MQ below (va_Qi post (mAt D cA h ad A) A) args s 0 0 A) (F0 m 210 ls []) := by
  obtain ⟨hx, hb, hml, hr, hown, hts, hK, hA, hlk, hE, vE⟩ := id C
  intro x1 σ H locs ls hG hl hw
  obtain ⟨hP, hD, hS⟩ := id hG
  refine lv_aload_n hx hb dX9_readStatement_210 rfl (lv_at hl 0 rfl) ?_
  refine va_get (D := D) (ci := 11) (v := .ref (ad 6)) (C := RX9) (T := TX9) (N := 32) hx hb hts (in_tb inX9) hown hK hP 0 rfl rfl 6 (by decide) (hts _ (List.mem_cons_of_mem _ tw_5_116)) (fun _ h9 => h9) rfl dX9_readStatement_211 ?_
  refine lv_aload_n hx hb dX9_readStatement_214 rfl (lv_at hl 0 rfl) ?_
  refine va_get (D := D) (ci := 11) (v := .int (mI σ 9)) (C := RX9) (T := TX9) (N := 32) hx hb hts (in_tb inX9) hown hK hP 0 rfl rfl 9 (by decide) (hts _ (List.mem_cons_of_mem _ tw_5_119)) (fun _ h9 => h9) rfl dX9_readStatement_215 ?_
  obtain ⟨h_5, hw⟩ := hw
  refine va_iald hx hb hK hP 2 0 rfl rfl h_5 dX9_readStatement_218 ?_
  refine lv_iconst (v := 1) hx hb dX9_readStatement_219 (by decide) ?_
  refine lv_icmp_eq (tgt := 228) hx hb dX9_readStatement_220 (by decide) (fun q_ => ?_) (fun q_ => ?_)
  · have hw := hw.1 q_
    refine lv_aload_n hx hb dX9_readStatement_228 rfl (lv_at hl 0 rfl) ?_
    refine va_get (D := D) (ci := 11) (v := .ref (ad 8)) (C := RX9) (T := TX9) (N := 32) hx hb hts (in_tb inX9) hown hK hP 0 rfl rfl 8 (by decide) (hts _ (List.mem_cons_of_mem _ tw_5_118)) (fun _ h9 => h9) rfl dX9_readStatement_229 ?_
    refine lv_aload_n hx hb dX9_readStatement_232 rfl (lv_at hl 0 rfl) ?_
    refine va_get (D := D) (ci := 11) (v := .int (mI σ 9)) (C := RX9) (T := TX9) (N := 32) hx hb hts (in_tb inX9) hown hK hP 0 rfl rfl 9 (by decide) (hts _ (List.mem_cons_of_mem _ tw_5_119)) (fun _ h9 => h9) rfl dX9_readStatement_233 ?_
    obtain ⟨h_6, hw⟩ := hw
    refine va_lald hx hb hK hP 4 1 rfl rfl h_6 dX9_readStatement_236 ?_
    refine mS_i (As := [.long (mL σ 8 (mI σ 9).toNatClampNeg)]) (rest := []) C (met_X9_wordOf vE vM hw) (va_cwS 1 hts (TB_G (TB_3 tw_6_51 tw_6_52 tw_1_13) tw_6_53) rfl rfl rfl (by decide +kernel) ⟨by decide, by decide⟩) hP hD hS rfl hl.1 rfl (Nat.le_of_ble_eq_true rfl) dX9_readStatement_237 ⟨by decide, by decide⟩ (fun r_7 H locs hw hP hS => ?_)
    have hG : mG D cA h ad A s σ H locs := ⟨hP, hD, hS⟩
    refine lv_istore_n (lv' := [(3, .int r_7), (0, .ref h), (1, .long x1)]) hx hb dX9_readStatement_240 rfl hl (by decide) rfl (fun ls hl => ?_)
    refine lv_iload_n hx hb dX9_readStatement_241 rfl (lv_at hl 0 rfl) ?_
    refine lv_iconst (v := (-1)) hx hb dX9_readStatement_242 (by decide) ?_
    refine lv_icmp_ne (tgt := 279) hx hb dX9_readStatement_243 (by decide) (fun q_ => ?_) (fun q_ => ?_)
    · have hw := hw.2 q_
      refine lv_aload_n hx hb dX9_readStatement_279 rfl (lv_at hl 1 rfl) ?_
      refine lv_iload_n hx hb dX9_readStatement_280 rfl (lv_at hl 0 rfl) ?_
      refine lv_lload_n hx hb dX9_readStatement_281 rfl (lv_at hl 2 rfl) ?_
      refine mV_i (As := [.int r_7, .long x1]) (rest := []) C (met_X9_readWord vE vM hw) (va_recv hK hP (ci := 11) (q0 := 0) rfl rfl) (cwV 2 hts (TB_G (TB_4 tw_6_62 tw_6_64 ts_41 tw_1_13) tw_6_65) rfl rfl rfl (by decide +kernel) ⟨by decide, by decide⟩) hP hD hS rfl hl.1 rfl (Nat.le_of_ble_eq_true rfl) dX9_readStatement_282 ⟨by decide, by decide⟩ (fun r_9 σ_10 H locs hw hP hD hS => ?_)
      have hG : mG D cA h ad A s σ_10 H locs := ⟨hP, hD, hS⟩
      refine lv_if_eq (tgt := 301) hx hb dX9_readStatement_285 (by decide) (fun q_ => ?_) (fun q_ => ?_)
      · have hw := hw.1 q_
        exact kB_X9_readStatement_301 C vM  σ_10 _ _ _ hG (lv_sub hl [] rfl) hw
      · have hw := hw.2 q_
        refine lv_aload_n hx hb dX9_readStatement_288 rfl (lv_at hl 1 rfl) ?_
        refine lv_bipush (v := 59) hx hb dX9_readStatement_289 (by decide) ?_
        refine mV_i (As := [.int 59]) (rest := []) C (met_X9_want vE vM hw) (va_recv hK hP (ci := 11) (q0 := 0) rfl rfl) (cwV 1 hts (TB_G (TB_4 tw_6_43 tw_6_45 ts_39 tw_1_13) tw_6_46) rfl rfl rfl (by decide +kernel) ⟨by decide, by decide⟩) hP hD hS rfl hl.1 rfl (Nat.le_of_ble_eq_true rfl) dX9_readStatement_291 ⟨by decide, by decide⟩ (fun r_12 σ_13 H locs hw hP hD hS => ?_)
        have hG : mG D cA h ad A s σ_13 H locs := ⟨hP, hD, hS⟩
        refine lv_if_eq (tgt := 301) hx hb dX9_readStatement_294 (by decide) (fun q_ => ?_) (fun q_ => ?_)
        · have hw := hw.1 q_
          exact kB_X9_readStatement_301 C vM  σ_13 _ _ _ hG (lv_sub hl [] rfl) hw
        · have hw := hw.2 q_
          refine lv_iconst (v := 1) hx hb dX9_readStatement_297 (by decide) ?_
          refine lv_goto (tgt := 302) hx hb dX9_readStatement_298 (by decide) ?_
          exact kB_X9_readStatement_302 C vM 1 σ_13 _ _ _ hG (lv_sub hl [] rfl) hw
    · have hw := hw.1 q_
      refine lv_aload_n hx hb dX9_readStatement_246 rfl (lv_at hl 1 rfl) ?_
      refine lv_bipush (v := 61) hx hb dX9_readStatement_247 (by decide) ?_
      refine mV_i (As := [.int 61]) (rest := []) C (met_X9_isNext vE vM hw) (va_recv hK hP (ci := 11) (q0 := 0) rfl rfl) (cwV 1 hts (TB_G (TB_4 tw_6_5 tw_6_7 ts_31 tw_1_13) tw_6_8) rfl rfl rfl (by decide +kernel) ⟨by decide, by decide⟩) hP hD hS rfl hl.1 rfl (Nat.le_of_ble_eq_true rfl) dX9_readStatement_249 ⟨by decide, by decide⟩ (fun r_14 σ_15 H locs hw hP hD hS => ?_)
      have hG : mG D cA h ad A s σ_15 H locs := ⟨hP, hD, hS⟩
      refine lv_if_ne (tgt := 264) hx hb dX9_readStatement_252 (by decide) (fun q_ => ?_) (fun q_ => ?_)
      · have hw := hw.2 q_
        exact kB_X9_readStatement_264 C vM  σ_15 _ _ _ hG (lv_sub hl [1] rfl) hw
      · have hw := hw.1 q_
        refine lv_aload_n hx hb dX9_readStatement_255 rfl (lv_at hl 1 rfl) ?_
        refine lv_bipush (v := 58) hx hb dX9_readStatement_256 (by decide) ?_
        refine mV_i (As := [.int 58]) (rest := []) C (met_X9_isNext vE vM hw) (va_recv hK hP (ci := 11) (q0 := 0) rfl rfl) (cwV 1 hts (TB_G (TB_4 tw_6_5 tw_6_7 ts_31 tw_1_13) tw_6_8) rfl rfl rfl (by decide +kernel) ⟨by decide, by decide⟩) hP hD hS rfl hl.1 rfl (Nat.le_of_ble_eq_true rfl) dX9_readStatement_258 ⟨by decide, by decide⟩ (fun r_19 σ_20 H locs hw hP hD hS => ?_)
        have hG : mG D cA h ad A s σ_20 H locs := ⟨hP, hD, hS⟩
        refine lv_if_eq (tgt := 274) hx hb dX9_readStatement_261 (by decide) (fun q_ => ?_) (fun q_ => ?_)
        · have hw := hw.1 q_
          exact kB_X9_readStatement_274 C vM  σ_20 _ _ _ hG (lv_sub hl [1] rfl) hw
        · have hw := hw.2 q_
          exact kB_X9_readStatement_264 C vM  σ_20 _ _ _ hG (lv_sub hl [1] rfl) hw
  · have hw := hw.2 q_
    refine lv_aload_n hx hb dX9_readStatement_223 rfl (lv_at hl 0 rfl) ?_
    refine mV_i (As := []) (rest := []) C (met_X9_refuse vE vM hw) (va_recv hK hP (ci := 11) (q0 := 0) rfl rfl) (cwV 0 hts (TB_G (TB_4 tw_6_31 tw_6_33 ts_36 tw_1_13) tw_6_34) rfl rfl rfl (by decide +kernel) ⟨by decide, by decide⟩) hP hD hS rfl hl.1 rfl (Nat.le_of_ble_eq_true rfl) dX9_readStatement_224 ⟨by decide, by decide⟩ (fun r_21 σ_22 H locs hw hP hD hS => ?_)
    have hG : mG D cA h ad A s σ_22 H locs := ⟨hP, hD, hS⟩
    obtain ⟨h_23, hw⟩ := hw
    exact W.zret (v := r_21) (ty := .boolean) hx hb hr (isB.n h_23) (fun t ht hW => ⟨⟨_, σ_22, rfl, hw, by rw [ht]; exact hP, va_K.moved hW.alike hK, hD⟩, hS.F ht⟩) hS.2.2 dX9_readStatement_227 hlk
set_option maxHeartbeats 4000000 in
set_option maxRecDepth 100000 in
theorem kB_X9_readStatement_184 {p : Program} {l : Launch} {e : Env} {s : State} {m : MethodId} {args : Array Value} {below : List Frame} {meth : Method} {c : Code} {A : Nat → Prop} {E : EnvT} {aK aV : Nat → Nat} {D : va_G} {cA : Nat → ClassId} {h : Nat} {ad : Nat → Nat} (C : mCx p s m args meth c cX9_readStatement 4 (some .boolean) wgX9_readStatement RX9 E D cA A) (vM : eMs aK aV E) {post : Int32 → MS → Prop} :
    ∀ (x1 : Int64) (σ : MS) (H : Heap) (locs : List Loc) (ls : Array Slot), mG D cA h ad A s σ H locs → lv_has ls 4 [(0, .ref h), (1, .long x1)] → wB_X9_readStatement_184 post x1 σ → W p l e rm_X9_readStatement s m args below meth c H locs 0 0 (MQ below (va_Qi post (mAt D cA h ad A) A) args s 0 0 A) (F0 m 184 ls []) := by
  obtain ⟨hx, hb, hml, hr, hown, hts, hK, hA, hlk, hE, vE⟩ := id C
  intro x1 σ H locs ls hG hl hw
  obtain ⟨hP, hD, hS⟩ := id hG
  refine lv_lload_n hx hb dX9_readStatement_184 rfl (lv_at hl 1 rfl) ?_
  refine lv_lconst (v := 0) hx hb dX9_readStatement_185 (by decide) ?_
  refine W.lcmp hx hb dX9_readStatement_186 ?_
  refine lv_if_ne (tgt := 210) hx hb dX9_readStatement_187 (by decide) (fun q_ => ?_) (fun q_ => ?_)
  · have hw := hw.2 (fun z => q_ (lc_eq.mpr z))
    exact kB_X9_readStatement_210 C vM x1 σ _ _ _ hG (lv_sub hl [0, 1] rfl) hw
  · have hw := hw.1 (lc_eq.mp q_)
    refine lv_aload_n hx hb dX9_readStatement_190 rfl (lv_at hl 0 rfl) ?_
    refine va_get (D := D) (ci := 11) (v := .ref (ad 6)) (C := RX9) (T := TX9) (N := 32) hx hb hts (in_tb inX9) hown hK hP 0 rfl rfl 6 (by decide) (hts _ (List.mem_cons_of_mem _ tw_5_116)) (fun _ h9 => h9) rfl dX9_readStatement_191 ?_
    refine lv_aload_n hx hb dX9_readStatement_194 rfl (lv_at hl 0 rfl) ?_
    refine va_get (D := D) (ci := 11) (v := .int (mI σ 9)) (C := RX9) (T := TX9) (N := 32) hx hb hts (in_tb inX9) hown hK hP 0 rfl rfl 9 (by decide) (hts _ (List.mem_cons_of_mem _ tw_5_119)) (fun _ h9 => h9) rfl dX9_readStatement_195 ?_
    obtain ⟨h_24, hw⟩ := hw
    refine va_iald hx hb hK hP 2 0 rfl rfl h_24 dX9_readStatement_198 ?_
    refine lv_iconst (v := 1) hx hb dX9_readStatement_199 (by decide) ?_
    refine lv_icmp_eq (tgt := 210) hx hb dX9_readStatement_200 (by decide) (fun q_ => ?_) (fun q_ => ?_)
    · have hw := hw.1 q_
      exact kB_X9_readStatement_210 C vM x1 σ _ _ _ hG (lv_sub hl [0, 1] rfl) hw
    · have hw := hw.2 q_
      refine lv_aload_n hx hb dX9_readStatement_203 rfl (lv_at hl 0 rfl) ?_
      refine lv_bipush (v := 59) hx hb dX9_readStatement_204 (by decide) ?_
      refine mV_i (As := [.int 59]) (rest := []) C (met_X9_want vE vM hw) (va_recv hK hP (ci := 11) (q0 := 0) rfl rfl) (cwV 1 hts (TB_G (TB_4 tw_6_43 tw_6_45 ts_39 tw_1_13) tw_6_46) rfl rfl rfl (by decide +kernel) ⟨by decide, by decide⟩) hP hD hS rfl hl.1 rfl (Nat.le_of_ble_eq_true rfl) dX9_readStatement_206 ⟨by decide, by decide⟩ (fun r_25 σ_26 H locs hw hP hD hS => ?_)
      have hG : mG D cA h ad A s σ_26 H locs := ⟨hP, hD, hS⟩
      obtain ⟨h_27, hw⟩ := hw
      exact W.zret (v := r_25) (ty := .boolean) hx hb hr (isB.n h_27) (fun t ht hW => ⟨⟨_, σ_26, rfl, hw, by rw [ht]; exact hP, va_K.moved hW.alike hK, hD⟩, hS.F ht⟩) hS.2.2 dX9_readStatement_209 hlk
set_option maxHeartbeats 4000000 in
set_option maxRecDepth 100000 in
theorem kB_X9_readStatement_177 {p : Program} {l : Launch} {e : Env} {s : State} {m : MethodId} {args : Array Value} {below : List Frame} {meth : Method} {c : Code} {A : Nat → Prop} {E : EnvT} {aK aV : Nat → Nat} {D : va_G} {cA : Nat → ClassId} {h : Nat} {ad : Nat → Nat} (C : mCx p s m args meth c cX9_readStatement 4 (some .boolean) wgX9_readStatement RX9 E D cA A) (vM : eMs aK aV E) {post : Int32 → MS → Prop} :
    ∀ (t0 : Int32) (σ : MS) (H : Heap) (locs : List Loc) (ls : Array Slot), mG D cA h ad A s σ H locs → lv_has ls 4 [(0, .ref h)] → wB_X9_readStatement_177 post t0 σ → W p l e rm_X9_readStatement s m args below meth c H locs 0 0 (MQ below (va_Qi post (mAt D cA h ad A) A) args s 0 0 A) (F0 m 177 ls [.int t0]) := by
  obtain ⟨hx, hb, hml, hr, hown, hts, hK, hA, hlk, hE, vE⟩ := id C
  intro t0 σ H locs ls hG hl hw
  obtain ⟨hP, hD, hS⟩ := id hG
  refine lv_aload_n hx hb dX9_readStatement_177 rfl (lv_at hl 0 rfl) ?_
  refine va_get (D := D) (ci := 11) (v := .int (mI σ 25)) (C := RX9) (T := TX9) (N := 32) hx hb hts (in_tb inX9) hown hK hP 0 rfl rfl 25 (by decide) (hts _ (List.mem_cons_of_mem _ tw_5_135)) (fun _ h9 => h9) rfl dX9_readStatement_178 ?_
  refine lv_iadd hx hb dX9_readStatement_181 ?_
  refine lv_i2l hx hb dX9_readStatement_182 rfl ?_
  refine lv_topl (fun x1_32 ex1_32 => ?_)
  have hw := hw x1_32 ex1_32
  refine lv_lstore_n (lv' := [(1, .long x1_32), (0, .ref h)]) hx hb dX9_readStatement_183 rfl hl (by decide) rfl (fun ls hl => ?_)
  exact kB_X9_readStatement_184 C vM x1_32 σ _ _ _ hG (lv_sub hl [1, 0] rfl) hw
set_option maxHeartbeats 4000000 in
set_option maxRecDepth 100000 in
theorem kB_X9_readStatement_137 {p : Program} {l : Launch} {e : Env} {s : State} {m : MethodId} {args : Array Value} {below : List Frame} {meth : Method} {c : Code} {A : Nat → Prop} {E : EnvT} {aK aV : Nat → Nat} {D : va_G} {cA : Nat → ClassId} {h : Nat} {ad : Nat → Nat} (C : mCx p s m args meth c cX9_readStatement 4 (some .boolean) wgX9_readStatement RX9 E D cA A) (vM : eMs aK aV E) {post : Int32 → MS → Prop} :
    ∀ (σ : MS) (H : Heap) (locs : List Loc) (ls : Array Slot), mG D cA h ad A s σ H locs → lv_has ls 4 [(0, .ref h)] → wB_X9_readStatement_137 post σ → W p l e rm_X9_readStatement s m args below meth c H locs 0 0 (MQ below (va_Qi post (mAt D cA h ad A) A) args s 0 0 A) (F0 m 137 ls []) := by
  obtain ⟨hx, hb, hml, hr, hown, hts, hK, hA, hlk, hE, vE⟩ := id C
  intro σ H locs ls hG hl hw
  obtain ⟨hP, hD, hS⟩ := id hG
  refine lv_lconst (v := 0) hx hb dX9_readStatement_137 (by decide) ?_
  refine lv_lstore_n (lv' := [(1, .long 0), (0, .ref h)]) hx hb dX9_readStatement_138 rfl hl (by decide) rfl (fun ls hl => ?_)
  refine lv_aload_n hx hb dX9_readStatement_139 rfl (lv_at hl 1 rfl) ?_
  refine lv_bipush (v := 64) hx hb dX9_readStatement_140 (by decide) ?_
  refine mV_i (As := [.int 64]) (rest := []) C (met_X9_takes vE vM hw) (va_recv hK hP (ci := 11) (q0 := 0) rfl rfl) (cwV 1 hts (TB_G (TB_4 tw_6_13 tw_6_15 ts_33 tw_1_13) tw_6_16) rfl rfl rfl (by decide +kernel) ⟨by decide, by decide⟩) hP hD hS rfl hl.1 rfl (Nat.le_of_ble_eq_true rfl) dX9_readStatement_142 ⟨by decide, by decide⟩ (fun r_3 σ_4 H locs hw hP hD hS => ?_)
  have hG : mG D cA h ad A s σ_4 H locs := ⟨hP, hD, hS⟩
  refine lv_if_eq (tgt := 184) hx hb dX9_readStatement_145 (by decide) (fun q_ => ?_) (fun q_ => ?_)
  · have hw := hw.1 q_
    exact kB_X9_readStatement_184 C vM 0 σ_4 _ _ _ hG (lv_sub hl [1, 0] rfl) hw
  · have hw := hw.2 q_
    refine lv_aload_n hx hb dX9_readStatement_148 rfl (lv_at hl 1 rfl) ?_
    refine lv_bipush (v := 33) hx hb dX9_readStatement_149 (by decide) ?_
    refine mV_i (As := [.int 33]) (rest := []) C (met_X9_takes vE vM hw) (va_recv hK hP (ci := 11) (q0 := 0) rfl rfl) (cwV 1 hts (TB_G (TB_4 tw_6_13 tw_6_15 ts_33 tw_1_13) tw_6_16) rfl rfl rfl (by decide +kernel) ⟨by decide, by decide⟩) hP hD hS rfl hl.1 rfl (Nat.le_of_ble_eq_true rfl) dX9_readStatement_151 ⟨by decide, by decide⟩ (fun r_28 σ_29 H locs hw hP hD hS => ?_)
    have hG : mG D cA h ad A s σ_29 H locs := ⟨hP, hD, hS⟩
    refine lv_istore_n (lv' := [(3, .int r_28), (1, .long 0), (0, .ref h)]) hx hb dX9_readStatement_154 rfl hl (by decide) rfl (fun ls hl => ?_)
    refine lv_aload_n hx hb dX9_readStatement_155 rfl (lv_at hl 2 rfl) ?_
    refine lv_bipush (v := 112) hx hb dX9_readStatement_156 (by decide) ?_
    refine mV_i (As := [.int 112]) (rest := []) C (met_X9_readRegister vE vM hw) (va_recv hK hP (ci := 11) (q0 := 0) rfl rfl) (cwV 1 hts (TB_G (TB_4 tw_6_47 tw_6_49 ts_40 tw_1_13) tw_6_50) rfl rfl rfl (by decide +kernel) ⟨by decide, by decide⟩) hP hD hS rfl hl.1 rfl (Nat.le_of_ble_eq_true rfl) dX9_readStatement_158 ⟨by decide, by decide⟩ (fun r_30 σ_31 H locs hw hP hD hS => ?_)
    have hG : mG D cA h ad A s σ_31 H locs := ⟨hP, hD, hS⟩
    refine lv_if_ne (tgt := 166) hx hb dX9_readStatement_161 (by decide) (fun q_ => ?_) (fun q_ => ?_)
    · have hw := hw.2 q_
      refine lv_iload_n hx hb dX9_readStatement_166 rfl (lv_at hl 0 rfl) ?_
      refine lv_if_eq (tgt := 175) hx hb dX9_readStatement_167 (by decide) (fun q_ => ?_) (fun q_ => ?_)
      · have hw := hw.1 q_
        refine lv_bipush (v := 8) hx hb dX9_readStatement_175 (by decide) ?_
        exact kB_X9_readStatement_177 C vM 8 σ_31 _ _ _ hG (lv_sub hl [2] rfl) hw
      · have hw := hw.2 q_
        refine lv_bipush (v := 12) hx hb dX9_readStatement_170 (by decide) ?_
        refine lv_goto (tgt := 177) hx hb dX9_readStatement_172 (by decide) ?_
        exact kB_X9_readStatement_177 C vM 12 σ_31 _ _ _ hG (lv_sub hl [2] rfl) hw
    · have hw := hw.1 q_
      refine lv_iconst (v := 0) hx hb dX9_readStatement_164 (by decide) ?_
      exact W.zret (v := 0) (ty := .boolean) hx hb hr rfl (fun t ht hW => ⟨⟨_, σ_31, rfl, hw, by rw [ht]; exact hP, va_K.moved hW.alike hK, hD⟩, hS.F ht⟩) hS.2.2 dX9_readStatement_165 hlk
set_option maxHeartbeats 4000000 in
set_option maxRecDepth 100000 in
theorem kB_X9_readStatement_75 {p : Program} {l : Launch} {e : Env} {s : State} {m : MethodId} {args : Array Value} {below : List Frame} {meth : Method} {c : Code} {A : Nat → Prop} {E : EnvT} {aK aV : Nat → Nat} {D : va_G} {cA : Nat → ClassId} {h : Nat} {ad : Nat → Nat} (C : mCx p s m args meth c cX9_readStatement 4 (some .boolean) wgX9_readStatement RX9 E D cA A) (vM : eMs aK aV E) {post : Int32 → MS → Prop}
    {k75 : MS → Prop} (hk75 : ∀ (σ : MS) (H : Heap) (locs : List Loc) (ls : Array Slot), mG D cA h ad A s σ H locs → lv_has ls 4 [(0, .ref h)] → k75 σ → W p l e rm_X9_readStatement s m args below meth c H locs 0 0 (MQ below (va_Qi post (mAt D cA h ad A) A) args s 0 0 A) (F0 m 75 ls [])) :
    ∀ (σ : MS) (H : Heap) (locs : List Loc) (ls : Array Slot), mG D cA h ad A s σ H locs → lv_has ls 4 [(0, .ref h)] → wB_X9_readStatement_75 post k75 σ → W p l e rm_X9_readStatement s m args below meth c H locs 0 0 (MQ below (va_Qi post (mAt D cA h ad A) A) args s 0 0 A) (F0 m 75 ls []) := by
  obtain ⟨hx, hb, hml, hr, hown, hts, hK, hA, hlk, hE, vE⟩ := id C
  intro σ H locs ls hG hl hw
  obtain ⟨hP, hD, hS⟩ := id hG
  refine lv_aload_n hx hb dX9_readStatement_75 rfl (lv_at hl 0 rfl) ?_
  refine va_get (D := D) (ci := 11) (v := .ref (ad 6)) (C := RX9) (T := TX9) (N := 32) hx hb hts (in_tb inX9) hown hK hP 0 rfl rfl 6 (by decide) (hts _ (List.mem_cons_of_mem _ tw_5_116)) (fun _ h9 => h9) rfl dX9_readStatement_76 ?_
  refine lv_aload_n hx hb dX9_readStatement_79 rfl (lv_at hl 0 rfl) ?_
  refine va_get (D := D) (ci := 11) (v := .int (mI σ 9)) (C := RX9) (T := TX9) (N := 32) hx hb hts (in_tb inX9) hown hK hP 0 rfl rfl 9 (by decide) (hts _ (List.mem_cons_of_mem _ tw_5_119)) (fun _ h9 => h9) rfl dX9_readStatement_80 ?_
  obtain ⟨h_2, hw⟩ := hw
  refine va_iald hx hb hK hP 2 0 rfl rfl h_2 dX9_readStatement_83 ?_
  refine lv_iconst (v := 1) hx hb dX9_readStatement_84 (by decide) ?_
  refine lv_icmp_ne (tgt := 137) hx hb dX9_readStatement_85 (by decide) (fun q_ => ?_) (fun q_ => ?_)
  · have hw := hw.2 q_
    exact kB_X9_readStatement_137 C vM  σ _ _ _ hG (lv_sub hl [0] rfl) hw
  · have hw := hw.1 q_
    refine lv_aload_n hx hb dX9_readStatement_88 rfl (lv_at hl 0 rfl) ?_
    refine lv_bipush (v := 58) hx hb dX9_readStatement_89 (by decide) ?_
    refine mV_i (As := [.int 58]) (rest := []) C (met_X9_isNext vE vM hw) (va_recv hK hP (ci := 11) (q0 := 0) rfl rfl) (cwV 1 hts (TB_G (TB_4 tw_6_5 tw_6_7 ts_31 tw_1_13) tw_6_8) rfl rfl rfl (by decide +kernel) ⟨by decide, by decide⟩) hP hD hS rfl hl.1 rfl (Nat.le_of_ble_eq_true rfl) dX9_readStatement_91 ⟨by decide, by decide⟩ (fun r_33 σ_34 H locs hw hP hD hS => ?_)
    have hG : mG D cA h ad A s σ_34 H locs := ⟨hP, hD, hS⟩
    refine lv_if_eq (tgt := 137) hx hb dX9_readStatement_94 (by decide) (fun q_ => ?_) (fun q_ => ?_)
    · have hw := hw.1 q_
      exact kB_X9_readStatement_137 C vM  σ_34 _ _ _ hG (lv_sub hl [0] rfl) hw
    · have hw := hw.2 q_
      refine lv_aload_n hx hb dX9_readStatement_97 rfl (lv_at hl 0 rfl) ?_
      refine lv_aload_n hx hb dX9_readStatement_98 rfl (lv_at hl 0 rfl) ?_
      refine va_get (D := D) (ci := 11) (v := .ref (ad 8)) (C := RX9) (T := TX9) (N := 32) hx hb hts (in_tb inX9) hown hK hP 0 rfl rfl 8 (by decide) (hts _ (List.mem_cons_of_mem _ tw_5_118)) (fun _ h9 => h9) rfl dX9_readStatement_99 ?_
      refine lv_aload_n hx hb dX9_readStatement_102 rfl (lv_at hl 0 rfl) ?_
      refine va_get (D := D) (ci := 11) (v := .int (mI σ_34 9)) (C := RX9) (T := TX9) (N := 32) hx hb hts (in_tb inX9) hown hK hP 0 rfl rfl 9 (by decide) (hts _ (List.mem_cons_of_mem _ tw_5_119)) (fun _ h9 => h9) rfl dX9_readStatement_103 ?_
      obtain ⟨h_35, hw⟩ := hw
      refine va_lald hx hb hK hP 4 1 rfl rfl h_35 dX9_readStatement_106 ?_
      refine lv_aload_n hx hb dX9_readStatement_107 rfl (lv_at hl 0 rfl) ?_
      refine va_get (D := D) (ci := 11) (v := .ref (ad 7)) (C := RX9) (T := TX9) (N := 32) hx hb hts (in_tb inX9) hown hK hP 0 rfl rfl 7 (by decide) (hts _ (List.mem_cons_of_mem _ tw_5_117)) (fun _ h9 => h9) rfl dX9_readStatement_108 ?_
      refine lv_aload_n hx hb dX9_readStatement_111 rfl (lv_at hl 0 rfl) ?_
      refine va_get (D := D) (ci := 11) (v := .int (mI σ_34 9)) (C := RX9) (T := TX9) (N := 32) hx hb hts (in_tb inX9) hown hK hP 0 rfl rfl 9 (by decide) (hts _ (List.mem_cons_of_mem _ tw_5_119)) (fun _ h9 => h9) rfl dX9_readStatement_112 ?_
      obtain ⟨h_36, hw⟩ := hw
      refine va_iald hx hb hK hP 3 0 rfl rfl h_36 dX9_readStatement_115 ?_
      refine lv_aload_n hx hb dX9_readStatement_116 rfl (lv_at hl 0 rfl) ?_
      refine va_get (D := D) (ci := 11) (v := .int (mI σ_34 13)) (C := RX9) (T := TX9) (N := 32) hx hb hts (in_tb inX9) hown hK hP 0 rfl rfl 13 (by decide) (hts _ (List.mem_cons_of_mem _ tw_5_123)) (fun _ h9 => h9) rfl dX9_readStatement_117 ?_
      refine lv_i2l hx hb dX9_readStatement_120 rfl ?_
      refine mV_v (As := [.long (mL σ_34 8 (mI σ_34 9).toNatClampNeg), .int (mA σ_34 7 (mI σ_34 9).toNatClampNeg), .long ((mI σ_34 13).toInt64)]) (rest := []) C (met_X9_tell vE vM hw) (va_recv hK hP (ci := 11) (q0 := 0) rfl rfl) (cwV 3 hts (TB_G (TB_4 tw_6_39 tw_6_41 ts_38 tw_1_13) tw_6_42) rfl rfl rfl (by decide +kernel) ⟨by decide, by decide⟩) hP hD hS rfl hl.1 rfl (Nat.le_of_ble_eq_true rfl) dX9_readStatement_121 ⟨by decide, by decide⟩ (fun σ_38 H locs hw hP hD hS => ?_)
      have hG : mG D cA h ad A s σ_38 H locs := ⟨hP, hD, hS⟩
      refine lv_aload_n hx hb dX9_readStatement_124 rfl (lv_at hl 0 rfl) ?_
      refine lv_dup hx hb dX9_readStatement_125 rfl ?_
      refine va_get (D := D) (ci := 11) (v := .int (mI σ_38 9)) (C := RX9) (T := TX9) (N := 32) hx hb hts (in_tb inX9) hown hK hP 0 rfl rfl 9 (by decide) (hts _ (List.mem_cons_of_mem _ tw_5_119)) (fun _ h9 => h9) rfl dX9_readStatement_126 ?_
      refine lv_iconst (v := 2) hx hb dX9_readStatement_129 (by decide) ?_
      refine lv_iadd hx hb dX9_readStatement_130 ?_
      refine va_put (D := D) (ci := 11) (v := .int ((mI σ_38 9) + 2)) (ty := .int) (C := RX9) (T := TX9) (N := 32) hx hb hts (in_tb inX9) tyX9 tyX9_ok nmX9 hown hK hP hD hS 0 rfl rfl 9 (by decide) (hts _ (List.mem_cons_of_mem _ tw_5_119)) (fun _ h9 => h9) rfl (by decide +kernel) rfl rfl (Nat.le_of_ble_eq_true rfl) dX9_readStatement_131 (fun H locs hP hD hS => ?_)
      have hG : mG D cA h ad A s (wI σ_38 9 ((mI σ_38 9) + 2)) H locs := ⟨hP, hD, hS⟩
      obtain ⟨hP, hD, hS⟩ := id hG
      refine lv_goto (tgt := 75) hx hb dX9_readStatement_134 (by decide) ?_
      exact hk75  (wI σ_38 9 ((mI σ_38 9) + 2)) _ _ _ hG (lv_sub hl [0] rfl) hw
theorem kL_X9_readStatement_75 {p : Program} {l : Launch} {e : Env} {s : State} {m : MethodId} {args : Array Value} {below : List Frame} {meth : Method} {c : Code} {A : Nat → Prop} {E : EnvT} {aK aV : Nat → Nat} {D : va_G} {cA : Nat → ClassId} {h : Nat} {ad : Nat → Nat} (C : mCx p s m args meth c cX9_readStatement 4 (some .boolean) wgX9_readStatement RX9 E D cA A) (vM : eMs aK aV E) {post : Int32 → MS → Prop} :
    ∀ (n : Nat) (σ : MS) (H : Heap) (locs : List Loc) (ls : Array Slot), mG D cA h ad A s σ H locs → lv_has ls 4 [(0, .ref h)] → wL_X9_readStatement_75 post n σ → W p l e rm_X9_readStatement s m args below meth c H locs 0 0 (MQ below (va_Qi post (mAt D cA h ad A) A) args s 0 0 A) (F0 m 75 ls []) := by
  intro n
  induction n with
  | zero => intro σ H locs ls hG hl hw; exact hw.elim
  | succ n ih => exact kB_X9_readStatement_75 C vM ih
set_option maxHeartbeats 4000000 in
set_option maxRecDepth 100000 in
theorem k_X9_readStatement {p : Program} {l : Launch} {e : Env} {s : State} {m : MethodId} {args : Array Value} {below : List Frame} {meth : Method} {c : Code} {A : Nat → Prop} {E : EnvT} {aK aV : Nat → Nat} {D : va_G} {cA : Nat → ClassId} {h : Nat} {ad : Nat → Nat} (C : mCx p s m args meth c cX9_readStatement 4 (some .boolean) wgX9_readStatement RX9 E D cA A) (vM : eMs aK aV E) {post : Int32 → MS → Prop} :
    ∀ (σ : MS) (H : Heap) (locs : List Loc) (ls : Array Slot), mG D cA h ad A s σ H locs → lv_has ls 4 [(0, .ref h)] → wp_X9_readStatement post σ → W p l e rm_X9_readStatement s m args below meth c H locs 0 0 (MQ below (va_Qi post (mAt D cA h ad A) A) args s 0 0 A) (F0 m 0 ls []) := by
  obtain ⟨hx, hb, hml, hr, hown, hts, hK, hA, hlk, hE, vE⟩ := id C
  intro σ H locs ls hG hl hw
  obtain ⟨hP, hD, hS⟩ := id hG
  refine lv_aload_n hx hb dX9_readStatement_0 rfl (lv_at hl 0 rfl) ?_
  refine va_get (D := D) (ci := 11) (v := .ref (ad 6)) (C := RX9) (T := TX9) (N := 32) hx hb hts (in_tb inX9) hown hK hP 0 rfl rfl 6 (by decide) (hts _ (List.mem_cons_of_mem _ tw_5_116)) (fun _ h9 => h9) rfl dX9_readStatement_1 ?_
  refine lv_aload_n hx hb dX9_readStatement_4 rfl (lv_at hl 0 rfl) ?_
  refine va_get (D := D) (ci := 11) (v := .int (mI σ 9)) (C := RX9) (T := TX9) (N := 32) hx hb hts (in_tb inX9) hown hK hP 0 rfl rfl 9 (by decide) (hts _ (List.mem_cons_of_mem _ tw_5_119)) (fun _ h9 => h9) rfl dX9_readStatement_5 ?_
  obtain ⟨h_1, hw⟩ := hw
  refine va_iald hx hb hK hP 2 0 rfl rfl h_1 dX9_readStatement_8 ?_
  refine lv_iconst (v := 1) hx hb dX9_readStatement_9 (by decide) ?_
  refine lv_icmp_ne (tgt := 75) hx hb dX9_readStatement_10 (by decide) (fun q_ => ?_) (fun q_ => ?_)
  · have hw := hw.2 q_
    obtain ⟨n_, hw⟩ := hw
    exact kL_X9_readStatement_75 C vM n_  σ _ _ _ hG (lv_sub hl [0] rfl) hw
  · have hw := hw.1 q_
    refine lv_aload_n hx hb dX9_readStatement_13 rfl (lv_at hl 0 rfl) ?_
    refine lv_bipush (v := 61) hx hb dX9_readStatement_14 (by decide) ?_
    refine mV_i (As := [.int 61]) (rest := []) C (met_X9_isNext vE vM hw) (va_recv hK hP (ci := 11) (q0 := 0) rfl rfl) (cwV 1 hts (TB_G (TB_4 tw_6_5 tw_6_7 ts_31 tw_1_13) tw_6_8) rfl rfl rfl (by decide +kernel) ⟨by decide, by decide⟩) hP hD hS rfl hl.1 rfl (Nat.le_of_ble_eq_true rfl) dX9_readStatement_16 ⟨by decide, by decide⟩ (fun r_39 σ_40 H locs hw hP hD hS => ?_)
    have hG : mG D cA h ad A s σ_40 H locs := ⟨hP, hD, hS⟩
    refine lv_if_eq (tgt := 75) hx hb dX9_readStatement_19 (by decide) (fun q_ => ?_) (fun q_ => ?_)
    · have hw := hw.1 q_
      obtain ⟨n_, hw⟩ := hw
      exact kL_X9_readStatement_75 C vM n_  σ_40 _ _ _ hG (lv_sub hl [0] rfl) hw
    · have hw := hw.2 q_
      refine lv_aload_n hx hb dX9_readStatement_22 rfl (lv_at hl 0 rfl) ?_
      refine va_get (D := D) (ci := 11) (v := .int (mI σ_40 9)) (C := RX9) (T := TX9) (N := 32) hx hb hts (in_tb inX9) hown hK hP 0 rfl rfl 9 (by decide) (hts _ (List.mem_cons_of_mem _ tw_5_119)) (fun _ h9 => h9) rfl dX9_readStatement_23 ?_
      refine lv_topi (fun x1_41 ex1_41 => ?_)
      have hw := hw x1_41 ex1_41
      refine lv_istore_n (lv' := [(1, .int x1_41), (0, .ref h)]) hx hb dX9_readStatement_26 rfl hl (by decide) rfl (fun ls hl => ?_)
      refine lv_aload_n hx hb dX9_readStatement_27 rfl (lv_at hl 1 rfl) ?_
      refine lv_dup hx hb dX9_readStatement_28 rfl ?_
      refine va_get (D := D) (ci := 11) (v := .int (mI σ_40 9)) (C := RX9) (T := TX9) (N := 32) hx hb hts (in_tb inX9) hown hK hP 0 rfl rfl 9 (by decide) (hts _ (List.mem_cons_of_mem _ tw_5_119)) (fun _ h9 => h9) rfl dX9_readStatement_29 ?_
      refine lv_iconst (v := 2) hx hb dX9_readStatement_32 (by decide) ?_
      refine lv_iadd hx hb dX9_readStatement_33 ?_
      refine va_put (D := D) (ci := 11) (v := .int ((mI σ_40 9) + 2)) (ty := .int) (C := RX9) (T := TX9) (N := 32) hx hb hts (in_tb inX9) tyX9 tyX9_ok nmX9 hown hK hP hD hS 0 rfl rfl 9 (by decide) (hts _ (List.mem_cons_of_mem _ tw_5_119)) (fun _ h9 => h9) rfl (by decide +kernel) rfl rfl (Nat.le_of_ble_eq_true rfl) dX9_readStatement_34 (fun H locs hP hD hS => ?_)
      have hG : mG D cA h ad A s (wI σ_40 9 ((mI σ_40 9) + 2)) H locs := ⟨hP, hD, hS⟩
      obtain ⟨hP, hD, hS⟩ := id hG
      refine lv_aload_n hx hb dX9_readStatement_37 rfl (lv_at hl 1 rfl) ?_
      refine lv_iconst (v := 0) hx hb dX9_readStatement_38 (by decide) ?_
      refine lv_iconst (v := 1) hx hb dX9_readStatement_39 (by decide) ?_
      refine mV_i (As := [.int 0, .int 1]) (rest := []) C (met_X9_readNumber vE vM hw) (va_recv hK hP (ci := 11) (q0 := 0) rfl rfl) (cwV 2 hts (TB_G (TB_4 tw_6_9 tw_6_11 ts_32 tw_1_13) tw_6_12) rfl rfl rfl (by decide +kernel) ⟨by decide, by decide⟩) hP hD hS rfl hl.1 rfl (Nat.le_of_ble_eq_true rfl) dX9_readStatement_40 ⟨by decide, by decide⟩ (fun r_42 σ_43 H locs hw hP hD hS => ?_)
      have hG : mG D cA h ad A s σ_43 H locs := ⟨hP, hD, hS⟩
      refine lv_if_ne (tgt := 48) hx hb dX9_readStatement_43 (by decide) (fun q_ => ?_) (fun q_ => ?_)
      · have hw := hw.2 q_
        refine lv_aload_n hx hb dX9_readStatement_48 rfl (lv_at hl 1 rfl) ?_
        refine lv_aload_n hx hb dX9_readStatement_49 rfl (lv_at hl 1 rfl) ?_
        refine va_get (D := D) (ci := 11) (v := .ref (ad 8)) (C := RX9) (T := TX9) (N := 32) hx hb hts (in_tb inX9) hown hK hP 0 rfl rfl 8 (by decide) (hts _ (List.mem_cons_of_mem _ tw_5_118)) (fun _ h9 => h9) rfl dX9_readStatement_50 ?_
        refine lv_iload_n hx hb dX9_readStatement_53 rfl (lv_at hl 0 rfl) ?_
        obtain ⟨h_44, hw⟩ := hw
        refine va_lald hx hb hK hP 4 1 rfl rfl h_44 dX9_readStatement_54 ?_
        refine lv_aload_n hx hb dX9_readStatement_55 rfl (lv_at hl 1 rfl) ?_
        refine va_get (D := D) (ci := 11) (v := .ref (ad 7)) (C := RX9) (T := TX9) (N := 32) hx hb hts (in_tb inX9) hown hK hP 0 rfl rfl 7 (by decide) (hts _ (List.mem_cons_of_mem _ tw_5_117)) (fun _ h9 => h9) rfl dX9_readStatement_56 ?_
        refine lv_iload_n hx hb dX9_readStatement_59 rfl (lv_at hl 0 rfl) ?_
        obtain ⟨h_45, hw⟩ := hw
        refine va_iald hx hb hK hP 3 0 rfl rfl h_45 dX9_readStatement_60 ?_
        refine lv_aload_n hx hb dX9_readStatement_61 rfl (lv_at hl 1 rfl) ?_
        refine va_get (D := D) (ci := 11) (v := .long (mJ σ_43 26)) (C := RX9) (T := TX9) (N := 32) hx hb hts (in_tb inX9) hown hK hP 0 rfl rfl 26 (by decide) (hts _ (List.mem_cons_of_mem _ tw_5_136)) (fun _ h9 => h9) rfl dX9_readStatement_62 ?_
        refine mV_v (As := [.long (mL σ_43 8 x1_41.toNatClampNeg), .int (mA σ_43 7 x1_41.toNatClampNeg), .long (mJ σ_43 26)]) (rest := []) C (met_X9_tell vE vM hw) (va_recv hK hP (ci := 11) (q0 := 0) rfl rfl) (cwV 3 hts (TB_G (TB_4 tw_6_39 tw_6_41 ts_38 tw_1_13) tw_6_42) rfl rfl rfl (by decide +kernel) ⟨by decide, by decide⟩) hP hD hS rfl hl.1 rfl (Nat.le_of_ble_eq_true rfl) dX9_readStatement_65 ⟨by decide, by decide⟩ (fun σ_47 H locs hw hP hD hS => ?_)
        have hG : mG D cA h ad A s σ_47 H locs := ⟨hP, hD, hS⟩
        refine lv_aload_n hx hb dX9_readStatement_68 rfl (lv_at hl 1 rfl) ?_
        refine lv_bipush (v := 59) hx hb dX9_readStatement_69 (by decide) ?_
        refine mV_i (As := [.int 59]) (rest := []) C (met_X9_want vE vM hw) (va_recv hK hP (ci := 11) (q0 := 0) rfl rfl) (cwV 1 hts (TB_G (TB_4 tw_6_43 tw_6_45 ts_39 tw_1_13) tw_6_46) rfl rfl rfl (by decide +kernel) ⟨by decide, by decide⟩) hP hD hS rfl hl.1 rfl (Nat.le_of_ble_eq_true rfl) dX9_readStatement_71 ⟨by decide, by decide⟩ (fun r_48 σ_49 H locs hw hP hD hS => ?_)
        have hG : mG D cA h ad A s σ_49 H locs := ⟨hP, hD, hS⟩
        obtain ⟨h_50, hw⟩ := hw
        exact W.zret (v := r_48) (ty := .boolean) hx hb hr (isB.n h_50) (fun t ht hW => ⟨⟨_, σ_49, rfl, hw, by rw [ht]; exact hP, va_K.moved hW.alike hK, hD⟩, hS.F ht⟩) hS.2.2 dX9_readStatement_74 hlk
      · have hw := hw.1 q_
        refine lv_iconst (v := 0) hx hb dX9_readStatement_46 (by decide) ?_
        exact W.zret (v := 0) (ty := .boolean) hx hb hr rfl (fun t ht hW => ⟨⟨_, σ_43, rfl, hw, by rw [ht]; exact hP, va_K.moved hW.alike hK, hD⟩, hS.F ht⟩) hS.2.2 dX9_readStatement_47 hlk
set_option maxHeartbeats 4000000 in
set_option maxRecDepth 100000 in
theorem met_X9_readStatement {l : Launch} {E : EnvT} (vE : EnvOk E) {D : va_G} {cA : Nat → ClassId} {h : Nat} {ad : Nat → Nat} {σ : MS} {aK aV : Nat → Nat} (vM : eMs aK aV E) {sz : Nat} {post : Int32 → MS → Prop} (hw : wp_X9_readStatement post σ) : Met l yX9_readStatement wgX9_readStatement rm_X9_readStatement (va_Pc [.ref h] (mPre E D cA h ad sz σ)) (va_Qi post (mAt D cA h ad (va_A (mW cA h ad σ) sz)) (va_A (mW cA h ad σ) sz)) 0 0 (va_A (mW cA h ad σ) sz) := by
  refine Met.ofW (cc := cX9_readStatement) (maxL := 4) (ret := (some .boolean)) (by decide +kernel) rfl ?_
  intro p e s m args below meth c s₁ B hml hv
  obtain ⟨rfl, hsz, hP, hK, hD0, hE⟩ := hv
  subst hsz
  have hD := hD0.self (sz := s.heap.size)
  generalize hAe : va_A (mW cA h ad σ) s.heap.size = A at hD hE ⊢
  have hA : ∀ q : Nat, s.heap.size ≤ q → A q := fun q h => by rw [← hAe]; exact Or.inr h
  have hS : va_S A s.heap s.heap [] := va_S.rf
  have C : mCx p s m _ meth c cX9_readStatement 4 (some .boolean) wgX9_readStatement RX9 E D cA A := ⟨B.exec, B.bytes, hml, B.returns, findClass_of_methodNamed B.named, atoms_spec (ws := wgX9_readStatement) B.pre, hK, hA, B.notSynchronized, hE, vE⟩
  have hG : mG D cA h ad A s σ s.heap [] := ⟨hP, hD, hS⟩
  have hl := lv_entry ([.ref h]) (n := 4) (Nat.le_of_ble_eq_true rfl)
  rw [lg_entry_eq]
  generalize (lg_sl ([.ref h]) ++ List.replicate (4 - (lg_sl ([.ref h])).length) Slot.unset).toArray = ls at hl ⊢
  have hl : lv_has ls 4 [(0, .ref h)] := hl
  exact k_X9_readStatement C vM σ _ _ _ hG hl hw
/-! ===== resolve ===== -/
def rm_X9_resolve : Room := { frames := 1, cells := 0, slots := 0, locals := 24 }
abbrev wgX9_resolve : List Cond := .code yX9_resolve cX9_resolve 5 none :: TB
def wB_X9_resolve_131 (post : MS → Prop) (k2 : Int32 → MS → Prop) (x1 : Int32) (σ : MS) : Prop :=
  ∀ x1_16 : Int32, x1_16 = x1 + 1 → k2 x1_16 σ
def wB_X9_resolve_113 (post : MS → Prop) (k2 : Int32 → MS → Prop) (x1 : Int32) (x3 : Int64) (σ : MS) : Prop :=
  vp_in x1 64 ∧ (vp_in (mA σ 19 x1.toNatClampNeg) 65 ∧ (wp_X9_number (fun r_13  => vp_in (mA σ 19 x1.toNatClampNeg) 65 ∧ (wB_X9_resolve_131 post k2 x1 (wL σ 12 (mA σ 19 x1.toNatClampNeg).toNatClampNeg ((mL σ 12 (mA σ 19 x1.toNatClampNeg).toNatClampNeg) ||| r_13)))) x3))
def wB_X9_resolve_102 (post : MS → Prop) (k2 : Int32 → MS → Prop) (x1 : Int32) (x3 : Int64) (σ : MS) : Prop :=
  vp_in x1 64 ∧ (wp_X9_note (fun σ_10 => wB_X9_resolve_113 post k2 x1 x3 σ_10) 3 (mA σ 22 x1.toNatClampNeg) σ)
def wB_X9_resolve_71 (post : MS → Prop) (k2 : Int32 → MS → Prop) (x1 : Int32) (t0 : Int64) (σ : MS) : Prop :=
  wp_X9_isInt (fun r_6  => (r_6 = 0 → (wB_X9_resolve_102 post k2 x1 t0 σ)) ∧ (¬ r_6 = 0 → (vp_in x1 64 ∧ (((mA σ 24 x1.toNatClampNeg) = 0 → (wB_X9_resolve_113 post k2 x1 t0 σ)) ∧ (¬ (mA σ 24 x1.toNatClampNeg) = 0 → ((t0 < 0 → (wB_X9_resolve_102 post k2 x1 t0 σ)) ∧ (¬ t0 < 0 → ((t0 ≤ 63 → (wB_X9_resolve_113 post k2 x1 t0 σ)) ∧ (¬ t0 ≤ 63 → (wB_X9_resolve_102 post k2 x1 t0 σ)))))))))) t0
def wB_X9_resolve_2 (post : MS → Prop) (k2 : Int32 → MS → Prop) (x1 : Int32) (σ : MS) : Prop :=
  ((mI σ 18) ≤ x1 → (post σ)) ∧ (¬ (mI σ 18) ≤ x1 → (vp_in x1 64 ∧ (wp_X9_find (fun r_2 σ_3 => (r_2 = (-1) → (vp_in x1 64 ∧ (wp_X9_note (fun σ_21 => wB_X9_resolve_131 post k2 x1 σ_21) 2 (mA σ_3 21 x1.toNatClampNeg) σ_3))) ∧ (¬ r_2 = (-1) → (vp_in x1 64 ∧ (((mA σ_3 23 x1.toNatClampNeg) = 0 → (vp_in r_2 800 ∧ (wB_X9_resolve_71 post k2 x1 (mL σ_3 17 r_2.toNatClampNeg) σ_3))) ∧ (¬ (mA σ_3 23 x1.toNatClampNeg) = 0 → (vp_in r_2 800 ∧ (wB_X9_resolve_71 post k2 x1 (-(mL σ_3 17 r_2.toNatClampNeg)) σ_3))))))) (1 - (mI σ 14)) (mL σ 20 x1.toNatClampNeg) σ)))
def wL_X9_resolve_2 (post : MS → Prop) : Nat → Int32 → MS → Prop
  | 0 => fun _ _ => False
  | n + 1 => wB_X9_resolve_2 post (wL_X9_resolve_2 post n)
def wp_X9_resolve (post : MS → Prop) (σ : MS) : Prop :=
  ∃ n, wL_X9_resolve_2 post n 0 σ
set_option maxHeartbeats 4000000 in
set_option maxRecDepth 100000 in
theorem kB_X9_resolve_131 {p : Program} {l : Launch} {e : Env} {s : State} {m : MethodId} {args : Array Value} {below : List Frame} {meth : Method} {c : Code} {A : Nat → Prop} {E : EnvT} {aK aV : Nat → Nat} {D : va_G} {cA : Nat → ClassId} {h : Nat} {ad : Nat → Nat} (C : mCx p s m args meth c cX9_resolve 5 none wgX9_resolve RX9 E D cA A) (vM : eMs aK aV E) {post : MS → Prop}
    {k2 : Int32 → MS → Prop} (hk2 : ∀ (x1 : Int32) (σ : MS) (H : Heap) (locs : List Loc) (ls : Array Slot), mG D cA h ad A s σ H locs → lv_has ls 5 [(0, .ref h), (1, .int x1)] → k2 x1 σ → W p l e rm_X9_resolve s m args below meth c H locs 0 0 (MQ below (va_Qv post (mAt D cA h ad A) A) args s 0 0 A) (F0 m 2 ls [])) :
    ∀ (x1 : Int32) (σ : MS) (H : Heap) (locs : List Loc) (ls : Array Slot), mG D cA h ad A s σ H locs → lv_has ls 5 [(0, .ref h), (1, .int x1)] → wB_X9_resolve_131 post k2 x1 σ → W p l e rm_X9_resolve s m args below meth c H locs 0 0 (MQ below (va_Qv post (mAt D cA h ad A) A) args s 0 0 A) (F0 m 131 ls []) := by
  obtain ⟨hx, hb, hml, hr, hown, hts, hK, hA, hlk, hE, vE⟩ := id C
  intro x1 σ H locs ls hG hl hw
  obtain ⟨hP, hD, hS⟩ := id hG
  obtain ⟨x1_16, ex1_16⟩ : ∃ y : Int32, y = x1 + 1 := ⟨_, rfl⟩
  have hw := hw x1_16 ex1_16
  refine lv_iinc (v := x1_16) (lv' := [(1, .int x1_16), (0, .ref h)]) hx hb dX9_resolve_131 hl (k := 1) rfl (by rw [ex1_16]; rfl) (by decide) rfl (fun ls hl => ?_)
  refine lv_goto (tgt := 2) hx hb dX9_resolve_134 (by decide) ?_
  exact hk2 x1_16 σ _ _ _ hG (lv_sub hl [1, 0] rfl) hw
set_option maxHeartbeats 4000000 in
set_option maxRecDepth 100000 in
theorem kB_X9_resolve_113 {p : Program} {l : Launch} {e : Env} {s : State} {m : MethodId} {args : Array Value} {below : List Frame} {meth : Method} {c : Code} {A : Nat → Prop} {E : EnvT} {aK aV : Nat → Nat} {D : va_G} {cA : Nat → ClassId} {h : Nat} {ad : Nat → Nat} (C : mCx p s m args meth c cX9_resolve 5 none wgX9_resolve RX9 E D cA A) (vM : eMs aK aV E) {post : MS → Prop}
    {k2 : Int32 → MS → Prop} (hk2 : ∀ (x1 : Int32) (σ : MS) (H : Heap) (locs : List Loc) (ls : Array Slot), mG D cA h ad A s σ H locs → lv_has ls 5 [(0, .ref h), (1, .int x1)] → k2 x1 σ → W p l e rm_X9_resolve s m args below meth c H locs 0 0 (MQ below (va_Qv post (mAt D cA h ad A) A) args s 0 0 A) (F0 m 2 ls [])) :
    ∀ (x1 : Int32) (x3 : Int64) (σ : MS) (H : Heap) (locs : List Loc) (ls : Array Slot), mG D cA h ad A s σ H locs → lv_has ls 5 [(0, .ref h), (1, .int x1), (3, .long x3)] → wB_X9_resolve_113 post k2 x1 x3 σ → W p l e rm_X9_resolve s m args below meth c H locs 0 0 (MQ below (va_Qv post (mAt D cA h ad A) A) args s 0 0 A) (F0 m 113 ls []) := by
  obtain ⟨hx, hb, hml, hr, hown, hts, hK, hA, hlk, hE, vE⟩ := id C
  intro x1 x3 σ H locs ls hG hl hw
  obtain ⟨hP, hD, hS⟩ := id hG
  refine lv_aload_n hx hb dX9_resolve_113 rfl (lv_at hl 0 rfl) ?_
  refine va_get (D := D) (ci := 11) (v := .ref (ad 12)) (C := RX9) (T := TX9) (N := 32) hx hb hts (in_tb inX9) hown hK hP 0 rfl rfl 12 (by decide) (hts _ (List.mem_cons_of_mem _ tw_5_122)) (fun _ h9 => h9) rfl dX9_resolve_114 ?_
  refine lv_aload_n hx hb dX9_resolve_117 rfl (lv_at hl 0 rfl) ?_
  refine va_get (D := D) (ci := 11) (v := .ref (ad 19)) (C := RX9) (T := TX9) (N := 32) hx hb hts (in_tb inX9) hown hK hP 0 rfl rfl 19 (by decide) (hts _ (List.mem_cons_of_mem _ tw_5_129)) (fun _ h9 => h9) rfl dX9_resolve_118 ?_
  refine lv_iload_n hx hb dX9_resolve_121 rfl (lv_at hl 1 rfl) ?_
  obtain ⟨h_11, hw⟩ := hw
  refine va_iald hx hb hK hP 10 0 rfl rfl h_11 dX9_resolve_122 ?_
  refine lv_dup2_11 hx hb dX9_resolve_123 rfl rfl ?_
  obtain ⟨h_12, hw⟩ := hw
  refine va_lald hx hb hK hP 6 1 rfl rfl h_12 dX9_resolve_124 ?_
  refine lv_lload_n hx hb dX9_resolve_125 rfl (lv_at hl 2 rfl) ?_
  refine mS_l (As := [.long x3]) (rest := [.long (mL σ 12 (mA σ 19 x1.toNatClampNeg).toNatClampNeg), .int (mA σ 19 x1.toNatClampNeg), .ref (ad 12)]) C (met_X9_number vE vM hw) (va_cwS 1 hts (TB_G (TB_3 tw_6_73 tw_6_74 tw_1_13) tw_6_75) rfl rfl rfl (by decide +kernel) ⟨by decide, by decide⟩) hP hD hS rfl hl.1 rfl (Nat.le_of_ble_eq_true rfl) dX9_resolve_126 ⟨by decide, by decide⟩ (fun r_13 H locs hw hP hS => ?_)
  have hG : mG D cA h ad A s σ H locs := ⟨hP, hD, hS⟩
  refine lv_lor hx hb dX9_resolve_129 ?_
  obtain ⟨h_15, hw⟩ := hw
  refine va_last hx hb hK hP hD hS 6 1 rfl rfl h_15 dX9_resolve_130 (fun H locs hP hD hS => ?_)
  have hG : mG D cA h ad A s (wL σ 12 (mA σ 19 x1.toNatClampNeg).toNatClampNeg ((mL σ 12 (mA σ 19 x1.toNatClampNeg).toNatClampNeg) ||| r_13)) H locs := ⟨hP, hD, hS⟩
  obtain ⟨hP, hD, hS⟩ := id hG
  exact kB_X9_resolve_131 C vM hk2 x1 (wL σ 12 (mA σ 19 x1.toNatClampNeg).toNatClampNeg ((mL σ 12 (mA σ 19 x1.toNatClampNeg).toNatClampNeg) ||| r_13)) _ _ _ hG (lv_sub hl [0, 1] rfl) hw
set_option maxHeartbeats 4000000 in
set_option maxRecDepth 100000 in
theorem kB_X9_resolve_102 {p : Program} {l : Launch} {e : Env} {s : State} {m : MethodId} {args : Array Value} {below : List Frame} {meth : Method} {c : Code} {A : Nat → Prop} {E : EnvT} {aK aV : Nat → Nat} {D : va_G} {cA : Nat → ClassId} {h : Nat} {ad : Nat → Nat} (C : mCx p s m args meth c cX9_resolve 5 none wgX9_resolve RX9 E D cA A) (vM : eMs aK aV E) {post : MS → Prop}
    {k2 : Int32 → MS → Prop} (hk2 : ∀ (x1 : Int32) (σ : MS) (H : Heap) (locs : List Loc) (ls : Array Slot), mG D cA h ad A s σ H locs → lv_has ls 5 [(0, .ref h), (1, .int x1)] → k2 x1 σ → W p l e rm_X9_resolve s m args below meth c H locs 0 0 (MQ below (va_Qv post (mAt D cA h ad A) A) args s 0 0 A) (F0 m 2 ls [])) :
    ∀ (x1 : Int32) (x3 : Int64) (σ : MS) (H : Heap) (locs : List Loc) (ls : Array Slot), mG D cA h ad A s σ H locs → lv_has ls 5 [(0, .ref h), (1, .int x1), (3, .long x3)] → wB_X9_resolve_102 post k2 x1 x3 σ → W p l e rm_X9_resolve s m args below meth c H locs 0 0 (MQ below (va_Qv post (mAt D cA h ad A) A) args s 0 0 A) (F0 m 102 ls []) := by
  obtain ⟨hx, hb, hml, hr, hown, hts, hK, hA, hlk, hE, vE⟩ := id C
  intro x1 x3 σ H locs ls hG hl hw
  obtain ⟨hP, hD, hS⟩ := id hG
  refine lv_aload_n hx hb dX9_resolve_102 rfl (lv_at hl 0 rfl) ?_
  refine lv_iconst (v := 3) hx hb dX9_resolve_103 (by decide) ?_
  refine lv_aload_n hx hb dX9_resolve_104 rfl (lv_at hl 0 rfl) ?_
  refine va_get (D := D) (ci := 11) (v := .ref (ad 22)) (C := RX9) (T := TX9) (N := 32) hx hb hts (in_tb inX9) hown hK hP 0 rfl rfl 22 (by decide) (hts _ (List.mem_cons_of_mem _ tw_5_132)) (fun _ h9 => h9) rfl dX9_resolve_105 ?_
  refine lv_iload_n hx hb dX9_resolve_108 rfl (lv_at hl 1 rfl) ?_
  obtain ⟨h_8, hw⟩ := hw
  refine va_iald hx hb hK hP 13 0 rfl rfl h_8 dX9_resolve_109 ?_
  refine mV_v (As := [.int 3, .int (mA σ 22 x1.toNatClampNeg)]) (rest := []) C (met_X9_note vE vM hw) (va_recv hK hP (ci := 11) (q0 := 0) rfl rfl) (cwV 2 hts (TB_G (TB_4 tw_6_27 tw_6_29 ts_35 tw_1_13) tw_6_30) rfl rfl rfl (by decide +kernel) ⟨by decide, by decide⟩) hP hD hS rfl hl.1 rfl (Nat.le_of_ble_eq_true rfl) dX9_resolve_110 ⟨by decide, by decide⟩ (fun σ_10 H locs hw hP hD hS => ?_)
  have hG : mG D cA h ad A s σ_10 H locs := ⟨hP, hD, hS⟩
  exact kB_X9_resolve_113 C vM hk2 x1 x3 σ_10 _ _ _ hG (lv_sub hl [0, 1, 2] rfl) hw
set_option maxHeartbeats 4000000 in
set_option maxRecDepth 100000 in
theorem kB_X9_resolve_71 {p : Program} {l : Launch} {e : Env} {s : State} {m : MethodId} {args : Array Value} {below : List Frame} {meth : Method} {c : Code} {A : Nat → Prop} {E : EnvT} {aK aV : Nat → Nat} {D : va_G} {cA : Nat → ClassId} {h : Nat} {ad : Nat → Nat} (C : mCx p s m args meth c cX9_resolve 5 none wgX9_resolve RX9 E D cA A) (vM : eMs aK aV E) {post : MS → Prop}
    {k2 : Int32 → MS → Prop} (hk2 : ∀ (x1 : Int32) (σ : MS) (H : Heap) (locs : List Loc) (ls : Array Slot), mG D cA h ad A s σ H locs → lv_has ls 5 [(0, .ref h), (1, .int x1)] → k2 x1 σ → W p l e rm_X9_resolve s m args below meth c H locs 0 0 (MQ below (va_Qv post (mAt D cA h ad A) A) args s 0 0 A) (F0 m 2 ls [])) :
    ∀ (x1 : Int32) (t0 : Int64) (σ : MS) (H : Heap) (locs : List Loc) (ls : Array Slot), mG D cA h ad A s σ H locs → lv_has ls 5 [(0, .ref h), (1, .int x1)] → wB_X9_resolve_71 post k2 x1 t0 σ → W p l e rm_X9_resolve s m args below meth c H locs 0 0 (MQ below (va_Qv post (mAt D cA h ad A) A) args s 0 0 A) (F0 m 71 ls [.long t0]) := by
  obtain ⟨hx, hb, hml, hr, hown, hts, hK, hA, hlk, hE, vE⟩ := id C
  intro x1 t0 σ H locs ls hG hl hw
  obtain ⟨hP, hD, hS⟩ := id hG
  refine lv_lstore_n (lv' := [(3, .long t0), (0, .ref h), (1, .int x1)]) hx hb dX9_resolve_71 rfl hl (by decide) rfl (fun ls hl => ?_)
  refine lv_lload_n hx hb dX9_resolve_72 rfl (lv_at hl 0 rfl) ?_
  refine mS_i (As := [.long t0]) (rest := []) C (met_X9_isInt vE vM hw) (va_cwS 1 hts (TB_G (TB_3 tw_6_21 tw_6_22 tw_1_13) tw_6_23) rfl rfl rfl (by decide +kernel) ⟨by decide, by decide⟩) hP hD hS rfl hl.1 rfl (Nat.le_of_ble_eq_true rfl) dX9_resolve_73 ⟨by decide, by decide⟩ (fun r_6 H locs hw hP hS => ?_)
  have hG : mG D cA h ad A s σ H locs := ⟨hP, hD, hS⟩
  refine lv_if_eq (tgt := 102) hx hb dX9_resolve_76 (by decide) (fun q_ => ?_) (fun q_ => ?_)
  · have hw := hw.1 q_
    exact kB_X9_resolve_102 C vM hk2 x1 t0 σ _ _ _ hG (lv_sub hl [1, 2, 0] rfl) hw
  · have hw := hw.2 q_
    refine lv_aload_n hx hb dX9_resolve_79 rfl (lv_at hl 1 rfl) ?_
    refine va_get (D := D) (ci := 11) (v := .ref (ad 24)) (C := RX9) (T := TX9) (N := 32) hx hb hts (in_tb inX9) hown hK hP 0 rfl rfl 24 (by decide) (hts _ (List.mem_cons_of_mem _ tw_5_134)) (fun _ h9 => h9) rfl dX9_resolve_80 ?_
    refine lv_iload_n hx hb dX9_resolve_83 rfl (lv_at hl 2 rfl) ?_
    obtain ⟨h_17, hw⟩ := hw
    refine va_zald hx hb hK hP 15 2 rfl rfl h_17 dX9_resolve_84 ?_
    refine lv_if_eq (tgt := 113) hx hb dX9_resolve_85 (by decide) (fun q_ => ?_) (fun q_ => ?_)
    · have hw := hw.1 q_
      exact kB_X9_resolve_113 C vM hk2 x1 t0 σ _ _ _ hG (lv_sub hl [1, 2, 0] rfl) hw
    · have hw := hw.2 q_
      refine lv_lload_n hx hb dX9_resolve_88 rfl (lv_at hl 0 rfl) ?_
      refine lv_lconst (v := 0) hx hb dX9_resolve_89 (by decide) ?_
      refine W.lcmp hx hb dX9_resolve_90 ?_
      refine lv_if_lt (tgt := 102) hx hb dX9_resolve_91 (by decide) (fun q_ => ?_) (fun q_ => ?_)
      · have hw := hw.1 (lc_lt.mp q_)
        exact kB_X9_resolve_102 C vM hk2 x1 t0 σ _ _ _ hG (lv_sub hl [1, 2, 0] rfl) hw
      · have hw := hw.2 (fun z => q_ (lc_lt.mpr z))
        refine lv_lload_n hx hb dX9_resolve_94 rfl (lv_at hl 0 rfl) ?_
        refine lv_ldc2 (v := 63) hx hb hown (hts _ (List.mem_cons_of_mem _ tw_6_26)) dX9_resolve_95 ?_
        refine W.lcmp hx hb dX9_resolve_98 ?_
        refine lv_if_le (tgt := 113) hx hb dX9_resolve_99 (by decide) (fun q_ => ?_) (fun q_ => ?_)
        · have hw := hw.1 (lc_le.mp q_)
          exact kB_X9_resolve_113 C vM hk2 x1 t0 σ _ _ _ hG (lv_sub hl [1, 2, 0] rfl) hw
        · have hw := hw.2 (fun z => q_ (lc_le.mpr z))
          exact kB_X9_resolve_102 C vM hk2 x1 t0 σ _ _ _ hG (lv_sub hl [1, 2, 0] rfl) hw
set_option maxHeartbeats 4000000 in
set_option maxRecDepth 100000 in
theorem kB_X9_resolve_2 {p : Program} {l : Launch} {e : Env} {s : State} {m : MethodId} {args : Array Value} {below : List Frame} {meth : Method} {c : Code} {A : Nat → Prop} {E : EnvT} {aK aV : Nat → Nat} {D : va_G} {cA : Nat → ClassId} {h : Nat} {ad : Nat → Nat} (C : mCx p s m args meth c cX9_resolve 5 none wgX9_resolve RX9 E D cA A) (vM : eMs aK aV E) {post : MS → Prop}
    {k2 : Int32 → MS → Prop} (hk2 : ∀ (x1 : Int32) (σ : MS) (H : Heap) (locs : List Loc) (ls : Array Slot), mG D cA h ad A s σ H locs → lv_has ls 5 [(0, .ref h), (1, .int x1)] → k2 x1 σ → W p l e rm_X9_resolve s m args below meth c H locs 0 0 (MQ below (va_Qv post (mAt D cA h ad A) A) args s 0 0 A) (F0 m 2 ls [])) :
    ∀ (x1 : Int32) (σ : MS) (H : Heap) (locs : List Loc) (ls : Array Slot), mG D cA h ad A s σ H locs → lv_has ls 5 [(0, .ref h), (1, .int x1)] → wB_X9_resolve_2 post k2 x1 σ → W p l e rm_X9_resolve s m args below meth c H locs 0 0 (MQ below (va_Qv post (mAt D cA h ad A) A) args s 0 0 A) (F0 m 2 ls []) := by
  obtain ⟨hx, hb, hml, hr, hown, hts, hK, hA, hlk, hE, vE⟩ := id C
  intro x1 σ H locs ls hG hl hw
  obtain ⟨hP, hD, hS⟩ := id hG
  refine lv_iload_n hx hb dX9_resolve_2 rfl (lv_at hl 1 rfl) ?_
  refine lv_aload_n hx hb dX9_resolve_3 rfl (lv_at hl 0 rfl) ?_
  refine va_get (D := D) (ci := 11) (v := .int (mI σ 18)) (C := RX9) (T := TX9) (N := 32) hx hb hts (in_tb inX9) hown hK hP 0 rfl rfl 18 (by decide) (hts _ (List.mem_cons_of_mem _ tw_5_128)) (fun _ h9 => h9) rfl dX9_resolve_4 ?_
  refine lv_icmp_ge (tgt := 137) hx hb dX9_resolve_7 (by decide) (fun q_ => ?_) (fun q_ => ?_)
  · have hw := hw.1 q_
    exact W.vret hx hb hr (fun t ht hW => ⟨⟨σ, rfl, hw, by rw [ht]; exact hP, va_K.moved hW.alike hK, hD⟩, hS.F ht⟩) hS.2.2 dX9_resolve_137 hlk
  · have hw := hw.2 q_
    refine lv_aload_n hx hb dX9_resolve_10 rfl (lv_at hl 0 rfl) ?_
    refine lv_iconst (v := 1) hx hb dX9_resolve_11 (by decide) ?_
    refine lv_aload_n hx hb dX9_resolve_12 rfl (lv_at hl 0 rfl) ?_
    refine va_get (D := D) (ci := 11) (v := .int (mI σ 14)) (C := RX9) (T := TX9) (N := 32) hx hb hts (in_tb inX9) hown hK hP 0 rfl rfl 14 (by decide) (hts _ (List.mem_cons_of_mem _ tw_5_124)) (fun _ h9 => h9) rfl dX9_resolve_13 ?_
    refine lv_isub hx hb dX9_resolve_16 ?_
    refine lv_aload_n hx hb dX9_resolve_17 rfl (lv_at hl 0 rfl) ?_
    refine va_get (D := D) (ci := 11) (v := .ref (ad 20)) (C := RX9) (T := TX9) (N := 32) hx hb hts (in_tb inX9) hown hK hP 0 rfl rfl 20 (by decide) (hts _ (List.mem_cons_of_mem _ tw_5_130)) (fun _ h9 => h9) rfl dX9_resolve_18 ?_
    refine lv_iload_n hx hb dX9_resolve_21 rfl (lv_at hl 1 rfl) ?_
    obtain ⟨h_1, hw⟩ := hw
    refine va_lald hx hb hK hP 11 1 rfl rfl h_1 dX9_resolve_22 ?_
    refine mV_i (As := [.int (1 - (mI σ 14)), .long (mL σ 20 x1.toNatClampNeg)]) (rest := []) C (met_X9_find vE vM hw) (va_recv hK hP (ci := 11) (q0 := 0) rfl rfl) (cwV 2 hts (TB_G (TB_4 tw_6_35 tw_6_37 ts_37 tw_1_13) tw_6_38) rfl rfl rfl (by decide +kernel) ⟨by decide, by decide⟩) hP hD hS rfl hl.1 rfl (Nat.le_of_ble_eq_true rfl) dX9_resolve_23 ⟨by decide, by decide⟩ (fun r_2 σ_3 H locs hw hP hD hS => ?_)
    have hG : mG D cA h ad A s σ_3 H locs := ⟨hP, hD, hS⟩
    refine lv_istore_n (lv' := [(2, .int r_2), (0, .ref h), (1, .int x1)]) hx hb dX9_resolve_26 rfl hl (by decide) rfl (fun ls hl => ?_)
    refine lv_iload_n hx hb dX9_resolve_27 rfl (lv_at hl 0 rfl) ?_
    refine lv_iconst (v := (-1)) hx hb dX9_resolve_28 (by decide) ?_
    refine lv_icmp_ne (tgt := 46) hx hb dX9_resolve_29 (by decide) (fun q_ => ?_) (fun q_ => ?_)
    · have hw := hw.2 q_
      refine lv_aload_n hx hb dX9_resolve_46 rfl (lv_at hl 1 rfl) ?_
      refine va_get (D := D) (ci := 11) (v := .ref (ad 23)) (C := RX9) (T := TX9) (N := 32) hx hb hts (in_tb inX9) hown hK hP 0 rfl rfl 23 (by decide) (hts _ (List.mem_cons_of_mem _ tw_5_133)) (fun _ h9 => h9) rfl dX9_resolve_47 ?_
      refine lv_iload_n hx hb dX9_resolve_50 rfl (lv_at hl 2 rfl) ?_
      obtain ⟨h_4, hw⟩ := hw
      refine va_zald hx hb hK hP 14 2 rfl rfl h_4 dX9_resolve_51 ?_
      refine lv_if_eq (tgt := 65) hx hb dX9_resolve_52 (by decide) (fun q_ => ?_) (fun q_ => ?_)
      · have hw := hw.1 q_
        refine lv_aload_n hx hb dX9_resolve_65 rfl (lv_at hl 1 rfl) ?_
        refine va_get (D := D) (ci := 11) (v := .ref (ad 17)) (C := RX9) (T := TX9) (N := 32) hx hb hts (in_tb inX9) hown hK hP 0 rfl rfl 17 (by decide) (hts _ (List.mem_cons_of_mem _ tw_5_127)) (fun _ h9 => h9) rfl dX9_resolve_66 ?_
        refine lv_iload_n hx hb dX9_resolve_69 rfl (lv_at hl 0 rfl) ?_
        obtain ⟨h_5, hw⟩ := hw
        refine va_lald hx hb hK hP 9 1 rfl rfl h_5 dX9_resolve_70 ?_
        exact kB_X9_resolve_71 C vM hk2 x1 (mL σ_3 17 r_2.toNatClampNeg) σ_3 _ _ _ hG (lv_sub hl [1, 2] rfl) hw
      · have hw := hw.2 q_
        refine lv_aload_n hx hb dX9_resolve_55 rfl (lv_at hl 1 rfl) ?_
        refine va_get (D := D) (ci := 11) (v := .ref (ad 17)) (C := RX9) (T := TX9) (N := 32) hx hb hts (in_tb inX9) hown hK hP 0 rfl rfl 17 (by decide) (hts _ (List.mem_cons_of_mem _ tw_5_127)) (fun _ h9 => h9) rfl dX9_resolve_56 ?_
        refine lv_iload_n hx hb dX9_resolve_59 rfl (lv_at hl 0 rfl) ?_
        obtain ⟨h_18, hw⟩ := hw
        refine va_lald hx hb hK hP 9 1 rfl rfl h_18 dX9_resolve_60 ?_
        refine lv_lneg hx hb dX9_resolve_61 ?_
        refine lv_goto (tgt := 71) hx hb dX9_resolve_62 (by decide) ?_
        exact kB_X9_resolve_71 C vM hk2 x1 (-(mL σ_3 17 r_2.toNatClampNeg)) σ_3 _ _ _ hG (lv_sub hl [1, 2] rfl) hw
    · have hw := hw.1 q_
      refine lv_aload_n hx hb dX9_resolve_32 rfl (lv_at hl 1 rfl) ?_
      refine lv_iconst (v := 2) hx hb dX9_resolve_33 (by decide) ?_
      refine lv_aload_n hx hb dX9_resolve_34 rfl (lv_at hl 1 rfl) ?_
      refine va_get (D := D) (ci := 11) (v := .ref (ad 21)) (C := RX9) (T := TX9) (N := 32) hx hb hts (in_tb inX9) hown hK hP 0 rfl rfl 21 (by decide) (hts _ (List.mem_cons_of_mem _ tw_5_131)) (fun _ h9 => h9) rfl dX9_resolve_35 ?_
      refine lv_iload_n hx hb dX9_resolve_38 rfl (lv_at hl 2 rfl) ?_
      obtain ⟨h_19, hw⟩ := hw
      refine va_iald hx hb hK hP 12 0 rfl rfl h_19 dX9_resolve_39 ?_
      refine mV_v (As := [.int 2, .int (mA σ_3 21 x1.toNatClampNeg)]) (rest := []) C (met_X9_note vE vM hw) (va_recv hK hP (ci := 11) (q0 := 0) rfl rfl) (cwV 2 hts (TB_G (TB_4 tw_6_27 tw_6_29 ts_35 tw_1_13) tw_6_30) rfl rfl rfl (by decide +kernel) ⟨by decide, by decide⟩) hP hD hS rfl hl.1 rfl (Nat.le_of_ble_eq_true rfl) dX9_resolve_40 ⟨by decide, by decide⟩ (fun σ_21 H locs hw hP hD hS => ?_)
      have hG : mG D cA h ad A s σ_21 H locs := ⟨hP, hD, hS⟩
      refine lv_goto (tgt := 131) hx hb dX9_resolve_43 (by decide) ?_
      exact kB_X9_resolve_131 C vM hk2 x1 σ_21 _ _ _ hG (lv_sub hl [1, 2] rfl) hw
theorem kL_X9_resolve_2 {p : Program} {l : Launch} {e : Env} {s : State} {m : MethodId} {args : Array Value} {below : List Frame} {meth : Method} {c : Code} {A : Nat → Prop} {E : EnvT} {aK aV : Nat → Nat} {D : va_G} {cA : Nat → ClassId} {h : Nat} {ad : Nat → Nat} (C : mCx p s m args meth c cX9_resolve 5 none wgX9_resolve RX9 E D cA A) (vM : eMs aK aV E) {post : MS → Prop} :
    ∀ (n : Nat) (x1 : Int32) (σ : MS) (H : Heap) (locs : List Loc) (ls : Array Slot), mG D cA h ad A s σ H locs → lv_has ls 5 [(0, .ref h), (1, .int x1)] → wL_X9_resolve_2 post n x1 σ → W p l e rm_X9_resolve s m args below meth c H locs 0 0 (MQ below (va_Qv post (mAt D cA h ad A) A) args s 0 0 A) (F0 m 2 ls []) := by
  intro n
  induction n with
  | zero => intro x1 σ H locs ls hG hl hw; exact hw.elim
  | succ n ih => exact kB_X9_resolve_2 C vM ih
set_option maxHeartbeats 4000000 in
set_option maxRecDepth 100000 in
theorem k_X9_resolve {p : Program} {l : Launch} {e : Env} {s : State} {m : MethodId} {args : Array Value} {below : List Frame} {meth : Method} {c : Code} {A : Nat → Prop} {E : EnvT} {aK aV : Nat → Nat} {D : va_G} {cA : Nat → ClassId} {h : Nat} {ad : Nat → Nat} (C : mCx p s m args meth c cX9_resolve 5 none wgX9_resolve RX9 E D cA A) (vM : eMs aK aV E) {post : MS → Prop} :
    ∀ (σ : MS) (H : Heap) (locs : List Loc) (ls : Array Slot), mG D cA h ad A s σ H locs → lv_has ls 5 [(0, .ref h)] → wp_X9_resolve post σ → W p l e rm_X9_resolve s m args below meth c H locs 0 0 (MQ below (va_Qv post (mAt D cA h ad A) A) args s 0 0 A) (F0 m 0 ls []) := by
  obtain ⟨hx, hb, hml, hr, hown, hts, hK, hA, hlk, hE, vE⟩ := id C
  intro σ H locs ls hG hl hw
  obtain ⟨hP, hD, hS⟩ := id hG
  refine lv_iconst (v := 0) hx hb dX9_resolve_0 (by decide) ?_
  refine lv_istore_n (lv' := [(1, .int 0), (0, .ref h)]) hx hb dX9_resolve_1 rfl hl (by decide) rfl (fun ls hl => ?_)
  obtain ⟨n_, hw⟩ := hw
  exact kL_X9_resolve_2 C vM n_ 0 σ _ _ _ hG (lv_sub hl [1, 0] rfl) hw
set_option maxHeartbeats 4000000 in
set_option maxRecDepth 100000 in
theorem met_X9_resolve {l : Launch} {E : EnvT} (vE : EnvOk E) {D : va_G} {cA : Nat → ClassId} {h : Nat} {ad : Nat → Nat} {σ : MS} {aK aV : Nat → Nat} (vM : eMs aK aV E) {sz : Nat} {post : MS → Prop} (hw : wp_X9_resolve post σ) : Met l yX9_resolve wgX9_resolve rm_X9_resolve (va_Pc [.ref h] (mPre E D cA h ad sz σ)) (va_Qv post (mAt D cA h ad (va_A (mW cA h ad σ) sz)) (va_A (mW cA h ad σ) sz)) 0 0 (va_A (mW cA h ad σ) sz) := by
  refine Met.ofW (cc := cX9_resolve) (maxL := 5) (ret := none) (by decide +kernel) rfl ?_
  intro p e s m args below meth c s₁ B hml hv
  obtain ⟨rfl, hsz, hP, hK, hD0, hE⟩ := hv
  subst hsz
  have hD := hD0.self (sz := s.heap.size)
  generalize hAe : va_A (mW cA h ad σ) s.heap.size = A at hD hE ⊢
  have hA : ∀ q : Nat, s.heap.size ≤ q → A q := fun q h => by rw [← hAe]; exact Or.inr h
  have hS : va_S A s.heap s.heap [] := va_S.rf
  have C : mCx p s m _ meth c cX9_resolve 5 none wgX9_resolve RX9 E D cA A := ⟨B.exec, B.bytes, hml, B.returns, findClass_of_methodNamed B.named, atoms_spec (ws := wgX9_resolve) B.pre, hK, hA, B.notSynchronized, hE, vE⟩
  have hG : mG D cA h ad A s σ s.heap [] := ⟨hP, hD, hS⟩
  have hl := lv_entry ([.ref h]) (n := 5) (Nat.le_of_ble_eq_true rfl)
  rw [lg_entry_eq]
  generalize (lg_sl ([.ref h]) ++ List.replicate (5 - (lg_sl ([.ref h])).length) Slot.unset).toArray = ls at hl ⊢
  have hl : lv_has ls 5 [(0, .ref h)] := hl
  exact k_X9_resolve C vM σ _ _ _ hG hl hw
