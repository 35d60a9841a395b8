/-! ===== X3_amountAt parser ===== -/
def rm_X3_amountAt : Room := { frames := 2, cells := 0, slots := 0, locals := 44 }
abbrev wgX3_amountAt : List Cond := .code yX3_amountAt cX3_amountAt 7 (some .long) :: TB
def wB_X3_amountAt_119 (post : Int64 → XS → Prop) (x5 : Int64) (σ : XS) : Prop :=
  post x5 σ
def wB_X3_amountAt_113 (post : Int64 → XS → Prop) (x3 : Int32) (x5 : Int64) (σ : XS) : Prop :=
  wp_X3_noteFault (fun σ_16 => wB_X3_amountAt_119 post x5 σ_16) 3 x3 σ
def wB_X3_amountAt_91 (post : Int64 → XS → Prop) (x2 : Int32) (x3 : Int32) (x5 : Int64) (σ : XS) : Prop :=
  wp_X2_leastOf (fun r_13  => (x5 < (r_13.toInt64) → (wB_X3_amountAt_113 post x3 x5 σ)) ∧ (¬ x5 < (r_13.toInt64) → (wp_X2_mostOf (fun r_17  => (x5 ≤ (r_17.toInt64) → (wB_X3_amountAt_119 post x5 σ)) ∧ (¬ x5 ≤ (r_17.toInt64) → (wB_X3_amountAt_113 post x3 x5 σ))) x2))) x2
def wB_X3_amountAt_72 (post : Int64 → XS → Prop) (x2 : Int32) (x3 : Int32) (x4 : Int32) (t0 : Int64) (σ : XS) : Prop :=
  wp_X6_advance (fun σ_12 => (x4 = 0 → (wB_X3_amountAt_91 post x2 x3 t0 σ_12)) ∧ (¬ x4 = 0 → (∀ x5_19 : Int64, x5_19 = -t0 → wB_X3_amountAt_91 post x2 x3 x5_19 σ_12))) σ
def wB_X3_amountAt_47 (post : Int64 → XS → Prop) (x2 : Int32) (x3 : Int32) (x4 : Int32) (σ : XS) : Prop :=
  wp_X6_kind (fun r_7 σ_8 => (r_7 = 1 → (wp_X3_valueOfName (fun r_20 σ_21 => wB_X3_amountAt_72 post x2 x3 x4 r_20 σ_21) σ_8)) ∧ (¬ r_7 = 1 → (wp_X6_value (fun r_9 σ_10 => wB_X3_amountAt_72 post x2 x3 x4 r_9 σ_10) σ_8))) σ
def wB_X3_amountAt_33 (post : Int64 → XS → Prop) (x2 : Int32) (x3 : Int32) (t0 : Int32) (σ : XS) : Prop :=
  (t0 = 0 → (wB_X3_amountAt_47 post x2 x3 t0 σ)) ∧ (¬ t0 = 0 → (wp_X6_advance (fun σ_23 => wB_X3_amountAt_47 post x2 x3 t0 σ_23) σ))
def wp_X3_amountAt (post : Int64 → XS → Prop) (x1 : Int32) (x2 : Int32) (σ : XS) : Prop :=
  wp_X6_goTo (fun σ_2 => wp_X6_place (fun r_3 σ_4 => wp_X6_kind (fun r_5 σ_6 => (r_5 = 45 → (wB_X3_amountAt_33 post x2 r_3 1 σ_6)) ∧ (¬ r_5 = 45 → (wB_X3_amountAt_33 post x2 r_3 0 σ_6))) σ_4) σ_2) x1 σ
set_option maxHeartbeats 4000000 in
set_option maxRecDepth 100000 in
theorem kB_X3_amountAt_119 {p : Program} {l : Launch} {e : Env} {s : State} {m : MethodId} {args : Array Value} {below : List Frame} {meth : Method} {c : Code} {A : Nat → Prop} {E : EnvT} {aK aV : Nat → Nat} {aO : Nat} {D : va_G} {cA : Nat → ClassId} {aE ad : Nat → Nat} (C : xCx p s m args meth c cX3_amountAt 7 (some .long) wgX3_amountAt RX3 E D cA A) (vM : eXs aK aV aE aO E) {post : Int64 → XS → Prop} :
    ∀ (x5 : Int64) (σ : XS) (H : Heap) (locs : List Loc) (ls : Array Slot), xG D cA aE ad A s σ H locs → lv_has ls 7 [(5, .long x5)] → wB_X3_amountAt_119 post x5 σ → W p l e rm_X3_amountAt s m args below meth c H locs 0 0 (MQ below (va_Ql post (xAt D cA aE ad A) A) args s 0 0 A) (F0 m 119 ls []) := by
  obtain ⟨hx, hb, hml, hr, hown, hts, hK, hA, hlk, hE, vE⟩ := id C
  intro x5 σ H locs ls hG hl hw
  obtain ⟨hP, hD, hS⟩ := id hG
  refine lv_lload hx hb dX3_amountAt_119 (lv_at hl 0 rfl) ?_
  exact W.lret (v := x5) hx hb hr (fun t ht hW => ⟨⟨_, σ, rfl, hw, by rw [ht]; exact hP, va_K.moved hW.alike hK, hD⟩, hS.F ht⟩) hS.2.2 dX3_amountAt_121 hlk
set_option maxHeartbeats 4000000 in
set_option maxRecDepth 100000 in
theorem kB_X3_amountAt_113 {p : Program} {l : Launch} {e : Env} {s : State} {m : MethodId} {args : Array Value} {below : List Frame} {meth : Method} {c : Code} {A : Nat → Prop} {E : EnvT} {aK aV : Nat → Nat} {aO : Nat} {D : va_G} {cA : Nat → ClassId} {aE ad : Nat → Nat} (C : xCx p s m args meth c cX3_amountAt 7 (some .long) wgX3_amountAt RX3 E D cA A) (vM : eXs aK aV aE aO E) {post : Int64 → XS → Prop} :
    ∀ (x3 : Int32) (x5 : Int64) (σ : XS) (H : Heap) (locs : List Loc) (ls : Array Slot), xG D cA aE ad A s σ H locs → lv_has ls 7 [(0, .ref (ad 3)), (3, .int x3), (5, .long x5)] → wB_X3_amountAt_113 post x3 x5 σ → W p l e rm_X3_amountAt s m args below meth c H locs 0 0 (MQ below (va_Ql post (xAt D cA aE ad A) A) args s 0 0 A) (F0 m 113 ls []) := by
  obtain ⟨hx, hb, hml, hr, hown, hts, hK, hA, hlk, hE, vE⟩ := id C
  intro x3 x5 σ H locs ls hG hl hw
  obtain ⟨hP, hD, hS⟩ := id hG
  refine lv_aload_n hx hb dX3_amountAt_113 rfl (lv_at hl 0 rfl) ?_
  refine lv_iconst (v := 3) hx hb dX3_amountAt_114 (by decide) ?_
  refine lv_iload_n hx hb dX3_amountAt_115 rfl (lv_at hl 1 rfl) ?_
  refine xV_v (As := [.int 3, .int x3]) (rest := []) C (met_X3_noteFault vE vM hw) (va_recv hK hP (ci := 5) (q0 := 3) rfl rfl) (cwV 2 hts (TB_G (TB_4 tw_4_237 tw_4_239 ts_19 tw_1_3) tw_5_0) rfl rfl rfl (by decide +kernel) ⟨by decide, by decide⟩) hP hD hS rfl hl.1 rfl (Nat.le_of_ble_eq_true rfl) dX3_amountAt_116 ⟨by decide, by decide⟩ (fun σ_16 H locs hw hP hD hS => ?_)
  have hG : xG D cA aE ad A s σ_16 H locs := ⟨hP, hD, hS⟩
  exact kB_X3_amountAt_119 C vM x5 σ_16 _ _ _ hG (lv_sub hl [2] rfl) hw
set_option maxHeartbeats 4000000 in
set_option maxRecDepth 100000 in
theorem kB_X3_amountAt_91 {p : Program} {l : Launch} {e : Env} {s : State} {m : MethodId} {args : Array Value} {below : List Frame} {meth : Method} {c : Code} {A : Nat → Prop} {E : EnvT} {aK aV : Nat → Nat} {aO : Nat} {D : va_G} {cA : Nat → ClassId} {aE ad : Nat → Nat} (C : xCx p s m args meth c cX3_amountAt 7 (some .long) wgX3_amountAt RX3 E D cA A) (vM : eXs aK aV aE aO E) {post : Int64 → XS → Prop} :
    ∀ (x2 : Int32) (x3 : Int32) (x5 : Int64) (σ : XS) (H : Heap) (locs : List Loc) (ls : Array Slot), xG D cA aE ad A s σ H locs → lv_has ls 7 [(0, .ref (ad 3)), (2, .int x2), (3, .int x3), (5, .long x5)] → wB_X3_amountAt_91 post x2 x3 x5 σ → W p l e rm_X3_amountAt s m args below meth c H locs 0 0 (MQ below (va_Ql post (xAt D cA aE ad A) A) args s 0 0 A) (F0 m 91 ls []) := by
  obtain ⟨hx, hb, hml, hr, hown, hts, hK, hA, hlk, hE, vE⟩ := id C
  intro x2 x3 x5 σ H locs ls hG hl hw
  obtain ⟨hP, hD, hS⟩ := id hG
  refine lv_lload hx hb dX3_amountAt_91 (lv_at hl 3 rfl) ?_
  refine lv_iload_n hx hb dX3_amountAt_93 rfl (lv_at hl 1 rfl) ?_
  refine xS_i (As := [.int x2]) (rest := [.long x5]) C (met_X2_leastOf vE vM hw) (va_cwS 1 hts (TB_G (TB_3 tw_5_1 tw_2_101 tw_1_19) tw_2_102) rfl rfl rfl (by decide +kernel) ⟨by decide, by decide⟩) hP hD hS rfl hl.1 rfl (Nat.le_of_ble_eq_true rfl) dX3_amountAt_94 ⟨by decide, by decide⟩ (fun r_13 H locs hw hP hS => ?_)
  have hG : xG D cA aE ad A s σ H locs := ⟨hP, hD, hS⟩
  refine lv_i2l hx hb dX3_amountAt_97 rfl ?_
  refine W.lcmp hx hb dX3_amountAt_98 ?_
  refine lv_if_lt (tgt := 113) hx hb dX3_amountAt_99 (by decide) (fun q_ => ?_) (fun q_ => ?_)
  · have hw := hw.1 (lc_lt.mp q_)
    exact kB_X3_amountAt_113 C vM x3 x5 σ _ _ _ hG (lv_sub hl [0, 2, 3] rfl) hw
  · have hw := hw.2 (fun z => q_ (lc_lt.mpr z))
    refine lv_lload hx hb dX3_amountAt_102 (lv_at hl 3 rfl) ?_
    refine lv_iload_n hx hb dX3_amountAt_104 rfl (lv_at hl 1 rfl) ?_
    refine xS_i (As := [.int x2]) (rest := [.long x5]) C (met_X2_mostOf vE vM hw) (va_cwS 1 hts (TB_G (TB_3 tw_5_2 tw_2_105 tw_1_19) tw_2_106) rfl rfl rfl (by decide +kernel) ⟨by decide, by decide⟩) hP hD hS rfl hl.1 rfl (Nat.le_of_ble_eq_true rfl) dX3_amountAt_105 ⟨by decide, by decide⟩ (fun r_17 H locs hw hP hS => ?_)
    have hG : xG D cA aE ad A s σ H locs := ⟨hP, hD, hS⟩
    refine lv_i2l hx hb dX3_amountAt_108 rfl ?_
    refine W.lcmp hx hb dX3_amountAt_109 ?_
    refine lv_if_le (tgt := 119) hx hb dX3_amountAt_110 (by decide) (fun q_ => ?_) (fun q_ => ?_)
    · have hw := hw.1 (lc_le.mp q_)
      exact kB_X3_amountAt_119 C vM x5 σ _ _ _ hG (lv_sub hl [3] rfl) hw
    · have hw := hw.2 (fun z => q_ (lc_le.mpr z))
      exact kB_X3_amountAt_113 C vM x3 x5 σ _ _ _ hG (lv_sub hl [0, 2, 3] rfl) hw
set_option maxHeartbeats 4000000 in
set_option maxRecDepth 100000 in
theorem kB_X3_amountAt_72 {p : Program} {l : Launch} {e : Env} {s : State} {m : MethodId} {args : Array Value} {below : List Frame} {meth : Method} {c : Code} {A : Nat → Prop} {E : EnvT} {aK aV : Nat → Nat} {aO : Nat} {D : va_G} {cA : Nat → ClassId} {aE ad : Nat → Nat} (C : xCx p s m args meth c cX3_amountAt 7 (some .long) wgX3_amountAt RX3 E D cA A) (vM : eXs aK aV aE aO E) {post : Int64 → XS → Prop} :
    ∀ (x2 : Int32) (x3 : Int32) (x4 : Int32) (t0 : Int64) (σ : XS) (H : Heap) (locs : List Loc) (ls : Array Slot), xG D cA aE ad A s σ H locs → lv_has ls 7 [(0, .ref (ad 3)), (2, .int x2), (3, .int x3), (4, .int x4)] → wB_X3_amountAt_72 post x2 x3 x4 t0 σ → W p l e rm_X3_amountAt s m args below meth c H locs 0 0 (MQ below (va_Ql post (xAt D cA aE ad A) A) args s 0 0 A) (F0 m 72 ls [.long t0]) := by
  obtain ⟨hx, hb, hml, hr, hown, hts, hK, hA, hlk, hE, vE⟩ := id C
  intro x2 x3 x4 t0 σ H locs ls hG hl hw
  obtain ⟨hP, hD, hS⟩ := id hG
  refine lv_lstore (lv' := [(5, .long t0), (0, .ref (ad 3)), (2, .int x2), (3, .int x3), (4, .int x4)]) hx hb dX3_amountAt_72 hl (by decide) rfl (fun ls hl => ?_)
  refine lv_aload_n hx hb dX3_amountAt_74 rfl (lv_at hl 1 rfl) ?_
  refine va_get (D := D) (ci := 5) (v := .ref (ad 4)) (C := RX3) (T := TX3) (N := 8) hx hb hts (in_tb inX3) hown hK hP 3 rfl rfl 0 (by decide) (hts _ (List.mem_cons_of_mem _ tw_1_110)) (fun _ h9 => h9) rfl dX3_amountAt_75 ?_
  refine xV_v (As := []) (rest := []) C (met_X6_advance vE vM hw) (va_recv hK hP (ci := 8) (q0 := 4) rfl rfl) (cwV 0 hts (TB_G (TB_4 tw_4_204 tw_4_205 tw_4_206 tw_1_5) tw_4_207) rfl rfl rfl (by decide +kernel) ⟨by decide, by decide⟩) hP hD hS rfl hl.1 rfl (Nat.le_of_ble_eq_true rfl) dX3_amountAt_78 ⟨by decide, by decide⟩ (fun σ_12 H locs hw hP hD hS => ?_)
  have hG : xG D cA aE ad A s σ_12 H locs := ⟨hP, hD, hS⟩
  refine lv_iload hx hb dX3_amountAt_81 (lv_at hl 4 rfl) ?_
  refine lv_if_eq (tgt := 91) hx hb dX3_amountAt_83 (by decide) (fun q_ => ?_) (fun q_ => ?_)
  · have hw := hw.1 q_
    exact kB_X3_amountAt_91 C vM x2 x3 t0 σ_12 _ _ _ hG (lv_sub hl [1, 2, 3, 0] rfl) hw
  · have hw := hw.2 q_
    refine lv_lload hx hb dX3_amountAt_86 (lv_at hl 0 rfl) ?_
    refine lv_lneg hx hb dX3_amountAt_88 ?_
    refine lv_topl (fun x5_19 ex5_19 => ?_)
    have hw := hw x5_19 ex5_19
    refine lv_lstore (lv' := [(5, .long x5_19), (0, .ref (ad 3)), (2, .int x2), (3, .int x3), (4, .int x4)]) hx hb dX3_amountAt_89 hl (by decide) rfl (fun ls hl => ?_)
    exact kB_X3_amountAt_91 C vM x2 x3 x5_19 σ_12 _ _ _ hG (lv_sub hl [1, 2, 3, 0] rfl) hw
set_option maxHeartbeats 4000000 in
set_option maxRecDepth 100000 in
theorem kB_X3_amountAt_47 {p : Program} {l : Launch} {e : Env} {s : State} {m : MethodId} {args : Array Value} {below : List Frame} {meth : Method} {c : Code} {A : Nat → Prop} {E : EnvT} {aK aV : Nat → Nat} {aO : Nat} {D : va_G} {cA : Nat → ClassId} {aE ad : Nat → Nat} (C : xCx p s m args meth c cX3_amountAt 7 (some .long) wgX3_amountAt RX3 E D cA A) (vM : eXs aK aV aE aO E) {post : Int64 → XS → Prop} :
    ∀ (x2 : Int32) (x3 : Int32) (x4 : Int32) (σ : XS) (H : Heap) (locs : List Loc) (ls : Array Slot), xG D cA aE ad A s σ H locs → lv_has ls 7 [(0, .ref (ad 3)), (2, .int x2), (3, .int x3), (4, .int x4)] → wB_X3_amountAt_47 post x2 x3 x4 σ → W p l e rm_X3_amountAt s m args below meth c H locs 0 0 (MQ below (va_Ql post (xAt D cA aE ad A) A) args s 0 0 A) (F0 m 47 ls []) := by
  obtain ⟨hx, hb, hml, hr, hown, hts, hK, hA, hlk, hE, vE⟩ := id C
  intro x2 x3 x4 σ H locs ls hG hl hw
  obtain ⟨hP, hD, hS⟩ := id hG
  refine lv_aload_n hx hb dX3_amountAt_47 rfl (lv_at hl 0 rfl) ?_
  refine va_get (D := D) (ci := 5) (v := .ref (ad 4)) (C := RX3) (T := TX3) (N := 8) hx hb hts (in_tb inX3) hown hK hP 3 rfl rfl 0 (by decide) (hts _ (List.mem_cons_of_mem _ tw_1_110)) (fun _ h9 => h9) rfl dX3_amountAt_48 ?_
  refine xV_i (As := []) (rest := []) C (met_X6_kind vE vM hw) (va_recv hK hP (ci := 8) (q0 := 4) rfl rfl) (cwV 0 hts (TB_G (TB_4 tw_4_180 tw_4_181 tw_4_182 tw_1_5) tw_4_183) rfl rfl rfl (by decide +kernel) ⟨by decide, by decide⟩) hP hD hS rfl hl.1 rfl (Nat.le_of_ble_eq_true rfl) dX3_amountAt_51 ⟨by decide, by decide⟩ (fun r_7 σ_8 H locs hw hP hD hS => ?_)
  have hG : xG D cA aE ad A s σ_8 H locs := ⟨hP, hD, hS⟩
  refine lv_iconst (v := 1) hx hb dX3_amountAt_54 (by decide) ?_
  refine lv_icmp_ne (tgt := 65) hx hb dX3_amountAt_55 (by decide) (fun q_ => ?_) (fun q_ => ?_)
  · have hw := hw.2 q_
    refine lv_aload_n hx hb dX3_amountAt_65 rfl (lv_at hl 0 rfl) ?_
    refine va_get (D := D) (ci := 5) (v := .ref (ad 4)) (C := RX3) (T := TX3) (N := 8) hx hb hts (in_tb inX3) hown hK hP 3 rfl rfl 0 (by decide) (hts _ (List.mem_cons_of_mem _ tw_1_110)) (fun _ h9 => h9) rfl dX3_amountAt_66 ?_
    refine xV_l (As := []) (rest := []) C (met_X6_value vE vM hw) (va_recv hK hP (ci := 8) (q0 := 4) rfl rfl) (cwV 0 hts (TB_G (TB_4 tw_4_196 tw_4_197 tw_4_198 tw_1_5) tw_4_199) rfl rfl rfl (by decide +kernel) ⟨by decide, by decide⟩) hP hD hS rfl hl.1 rfl (Nat.le_of_ble_eq_true rfl) dX3_amountAt_69 ⟨by decide, by decide⟩ (fun r_9 σ_10 H locs hw hP hD hS => ?_)
    have hG : xG D cA aE ad A s σ_10 H locs := ⟨hP, hD, hS⟩
    exact kB_X3_amountAt_72 C vM x2 x3 x4 r_9 σ_10 _ _ _ hG (lv_sub hl [0, 1, 2, 3] rfl) hw
  · have hw := hw.1 q_
    refine lv_aload_n hx hb dX3_amountAt_58 rfl (lv_at hl 0 rfl) ?_
    refine xV_l (As := []) (rest := []) C (met_X3_valueOfName vE vM hw) (va_recv hK hP (ci := 5) (q0 := 3) rfl rfl) (cwV 0 hts (TB_G (TB_4 tw_4_229 tw_4_231 ts_18 tw_1_3) tw_4_232) rfl rfl rfl (by decide +kernel) ⟨by decide, by decide⟩) hP hD hS rfl hl.1 rfl (Nat.le_of_ble_eq_true rfl) dX3_amountAt_59 ⟨by decide, by decide⟩ (fun r_20 σ_21 H locs hw hP hD hS => ?_)
    have hG : xG D cA aE ad A s σ_21 H locs := ⟨hP, hD, hS⟩
    refine lv_goto (tgt := 72) hx hb dX3_amountAt_62 (by decide) ?_
    exact kB_X3_amountAt_72 C vM x2 x3 x4 r_20 σ_21 _ _ _ hG (lv_sub hl [0, 1, 2, 3] rfl) hw
set_option maxHeartbeats 4000000 in
set_option maxRecDepth 100000 in
theorem kB_X3_amountAt_33 {p : Program} {l : Launch} {e : Env} {s : State} {m : MethodId} {args : Array Value} {below : List Frame} {meth : Method} {c : Code} {A : Nat → Prop} {E : EnvT} {aK aV : Nat → Nat} {aO : Nat} {D : va_G} {cA : Nat → ClassId} {aE ad : Nat → Nat} (C : xCx p s m args meth c cX3_amountAt 7 (some .long) wgX3_amountAt RX3 E D cA A) (vM : eXs aK aV aE aO E) {post : Int64 → XS → Prop} :
    ∀ (x2 : Int32) (x3 : Int32) (t0 : Int32) (σ : XS) (H : Heap) (locs : List Loc) (ls : Array Slot), xG D cA aE ad A s σ H locs → lv_has ls 7 [(0, .ref (ad 3)), (2, .int x2), (3, .int x3)] → wB_X3_amountAt_33 post x2 x3 t0 σ → W p l e rm_X3_amountAt s m args below meth c H locs 0 0 (MQ below (va_Ql post (xAt D cA aE ad A) A) args s 0 0 A) (F0 m 33 ls [.int t0]) := by
  obtain ⟨hx, hb, hml, hr, hown, hts, hK, hA, hlk, hE, vE⟩ := id C
  intro x2 x3 t0 σ H locs ls hG hl hw
  obtain ⟨hP, hD, hS⟩ := id hG
  refine lv_istore (lv' := [(4, .int t0), (0, .ref (ad 3)), (2, .int x2), (3, .int x3)]) hx hb dX3_amountAt_33 hl (by decide) rfl (fun ls hl => ?_)
  refine lv_iload hx hb dX3_amountAt_35 (lv_at hl 0 rfl) ?_
  refine lv_if_eq (tgt := 47) hx hb dX3_amountAt_37 (by decide) (fun q_ => ?_) (fun q_ => ?_)
  · have hw := hw.1 q_
    exact kB_X3_amountAt_47 C vM x2 x3 t0 σ _ _ _ hG (lv_sub hl [1, 2, 3, 0] rfl) hw
  · have hw := hw.2 q_
    refine lv_aload_n hx hb dX3_amountAt_40 rfl (lv_at hl 1 rfl) ?_
    refine va_get (D := D) (ci := 5) (v := .ref (ad 4)) (C := RX3) (T := TX3) (N := 8) hx hb hts (in_tb inX3) hown hK hP 3 rfl rfl 0 (by decide) (hts _ (List.mem_cons_of_mem _ tw_1_110)) (fun _ h9 => h9) rfl dX3_amountAt_41 ?_
    refine xV_v (As := []) (rest := []) C (met_X6_advance vE vM hw) (va_recv hK hP (ci := 8) (q0 := 4) rfl rfl) (cwV 0 hts (TB_G (TB_4 tw_4_204 tw_4_205 tw_4_206 tw_1_5) tw_4_207) rfl rfl rfl (by decide +kernel) ⟨by decide, by decide⟩) hP hD hS rfl hl.1 rfl (Nat.le_of_ble_eq_true rfl) dX3_amountAt_44 ⟨by decide, by decide⟩ (fun σ_23 H locs hw hP hD hS => ?_)
    have hG : xG D cA aE ad A s σ_23 H locs := ⟨hP, hD, hS⟩
    exact kB_X3_amountAt_47 C vM x2 x3 t0 σ_23 _ _ _ hG (lv_sub hl [1, 2, 3, 0] rfl) hw
set_option maxHeartbeats 4000000 in
set_option maxRecDepth 100000 in
theorem k_X3_amountAt {p : Program} {l : Launch} {e : Env} {s : State} {m : MethodId} {args : Array Value} {below : List Frame} {meth : Method} {c : Code} {A : Nat → Prop} {E : EnvT} {aK aV : Nat → Nat} {aO : Nat} {D : va_G} {cA : Nat → ClassId} {aE ad : Nat → Nat} (C : xCx p s m args meth c cX3_amountAt 7 (some .long) wgX3_amountAt RX3 E D cA A) (vM : eXs aK aV aE aO E) {post : Int64 → XS → Prop} :
    ∀ (x1 : Int32) (x2 : Int32) (σ : XS) (H : Heap) (locs : List Loc) (ls : Array Slot), xG D cA aE ad A s σ H locs → lv_has ls 7 [(0, .ref (ad 3)), (1, .int x1), (2, .int x2)] → wp_X3_amountAt post x1 x2 σ → W p l e rm_X3_amountAt s m args below meth c H locs 0 0 (MQ below (va_Ql post (xAt D cA aE ad A) A) args s 0 0 A) (F0 m 0 ls []) := by
  obtain ⟨hx, hb, hml, hr, hown, hts, hK, hA, hlk, hE, vE⟩ := id C
  intro x1 x2 σ H locs ls hG hl hw
  obtain ⟨hP, hD, hS⟩ := id hG
  refine lv_aload_n hx hb dX3_amountAt_0 rfl (lv_at hl 0 rfl) ?_
  refine va_get (D := D) (ci := 5) (v := .ref (ad 4)) (C := RX3) (T := TX3) (N := 8) hx hb hts (in_tb inX3) hown hK hP 3 rfl rfl 0 (by decide) (hts _ (List.mem_cons_of_mem _ tw_1_110)) (fun _ h9 => h9) rfl dX3_amountAt_1 ?_
  refine lv_iload_n hx hb dX3_amountAt_4 rfl (lv_at hl 1 rfl) ?_
  refine xV_v (As := [.int x1]) (rest := []) C (met_X6_goTo vE vM hw) (va_recv hK hP (ci := 8) (q0 := 4) rfl rfl) (cwV 1 hts (TB_G (TB_4 tw_4_224 tw_4_225 tw_4_226 tw_1_5) tw_4_227) rfl rfl rfl (by decide +kernel) ⟨by decide, by decide⟩) hP hD hS rfl hl.1 rfl (Nat.le_of_ble_eq_true rfl) dX3_amountAt_5 ⟨by decide, by decide⟩ (fun σ_2 H locs hw hP hD hS => ?_)
  have hG : xG D cA aE ad A s σ_2 H locs := ⟨hP, hD, hS⟩
  refine lv_aload_n hx hb dX3_amountAt_8 rfl (lv_at hl 0 rfl) ?_
  refine va_get (D := D) (ci := 5) (v := .ref (ad 4)) (C := RX3) (T := TX3) (N := 8) hx hb hts (in_tb inX3) hown hK hP 3 rfl rfl 0 (by decide) (hts _ (List.mem_cons_of_mem _ tw_1_110)) (fun _ h9 => h9) rfl dX3_amountAt_9 ?_
  refine xV_i (As := []) (rest := []) C (met_X6_place vE vM hw) (va_recv hK hP (ci := 8) (q0 := 4) rfl rfl) (cwV 0 hts (TB_G (TB_4 tw_4_200 tw_4_201 tw_4_202 tw_1_5) tw_4_203) rfl rfl rfl (by decide +kernel) ⟨by decide, by decide⟩) hP hD hS rfl hl.1 rfl (Nat.le_of_ble_eq_true rfl) dX3_amountAt_12 ⟨by decide, by decide⟩ (fun r_3 σ_4 H locs hw hP hD hS => ?_)
  have hG : xG D cA aE ad A s σ_4 H locs := ⟨hP, hD, hS⟩
  refine lv_istore_n (lv' := [(3, .int r_3), (0, .ref (ad 3)), (1, .int x1), (2, .int x2)]) hx hb dX3_amountAt_15 rfl hl (by decide) rfl (fun ls hl => ?_)
  refine lv_aload_n hx hb dX3_amountAt_16 rfl (lv_at hl 1 rfl) ?_
  refine va_get (D := D) (ci := 5) (v := .ref (ad 4)) (C := RX3) (T := TX3) (N := 8) hx hb hts (in_tb inX3) hown hK hP 3 rfl rfl 0 (by decide) (hts _ (List.mem_cons_of_mem _ tw_1_110)) (fun _ h9 => h9) rfl dX3_amountAt_17 ?_
  refine xV_i (As := []) (rest := []) C (met_X6_kind vE vM hw) (va_recv hK hP (ci := 8) (q0 := 4) rfl rfl) (cwV 0 hts (TB_G (TB_4 tw_4_180 tw_4_181 tw_4_182 tw_1_5) tw_4_183) rfl rfl rfl (by decide +kernel) ⟨by decide, by decide⟩) hP hD hS rfl hl.1 rfl (Nat.le_of_ble_eq_true rfl) dX3_amountAt_20 ⟨by decide, by decide⟩ (fun r_5 σ_6 H locs hw hP hD hS => ?_)
  have hG : xG D cA aE ad A s σ_6 H locs := ⟨hP, hD, hS⟩
  refine lv_bipush (v := 45) hx hb dX3_amountAt_23 (by decide) ?_
  refine lv_icmp_ne (tgt := 32) hx hb dX3_amountAt_25 (by decide) (fun q_ => ?_) (fun q_ => ?_)
  · have hw := hw.2 q_
    refine lv_iconst (v := 0) hx hb dX3_amountAt_32 (by decide) ?_
    exact kB_X3_amountAt_33 C vM x2 r_3 0 σ_6 _ _ _ hG (lv_sub hl [1, 3, 0] rfl) hw
  · have hw := hw.1 q_
    refine lv_iconst (v := 1) hx hb dX3_amountAt_28 (by decide) ?_
    refine lv_goto (tgt := 33) hx hb dX3_amountAt_29 (by decide) ?_
    exact kB_X3_amountAt_33 C vM x2 r_3 1 σ_6 _ _ _ hG (lv_sub hl [1, 3, 0] rfl) hw
set_option maxHeartbeats 4000000 in
set_option maxRecDepth 100000 in
theorem met_X3_amountAt {l : Launch} {E : EnvT} (vE : EnvOk E) {D : va_G} {cA : Nat → ClassId} {aE ad : Nat → Nat} {σ : XS} {aK aV : Nat → Nat} {aO : Nat} (vM : eXs aK aV aE aO E) {sz : Nat} {x1 : Int32} {x2 : Int32} {post : Int64 → XS → Prop} (hw : wp_X3_amountAt post x1 x2 σ) : Met l yX3_amountAt wgX3_amountAt rm_X3_amountAt (va_Pc [.ref (ad 3), .int x1, .int x2] (xPre E D cA aE ad sz σ)) (va_Ql post (xAt D cA aE ad (va_A (xW cA aE ad σ) sz)) (va_A (xW cA aE ad σ) sz)) 0 0 (va_A (xW cA aE ad σ) sz) := by
  refine Met.ofW (cc := cX3_amountAt) (maxL := 7) (ret := (some .long)) (by decide +kernel) rfl ?_
  intro p e s m args below meth c s₁ B hml hv
  obtain ⟨rfl, hsz, hP, hK, hD0, hE⟩ := hv
  subst hsz
  have hD := hD0.self (sz := s.heap.size)
  generalize hAe : va_A (xW cA aE ad σ) s.heap.size = A at hD hE ⊢
  have hA : ∀ q : Nat, s.heap.size ≤ q → A q := fun q h => by rw [← hAe]; exact Or.inr h
  have hS : va_S A s.heap s.heap [] := va_S.rf
  have C : xCx p s m _ meth c cX3_amountAt 7 (some .long) wgX3_amountAt RX3 E D cA A := ⟨B.exec, B.bytes, hml, B.returns, findClass_of_methodNamed B.named, atoms_spec (ws := wgX3_amountAt) B.pre, hK, hA, B.notSynchronized, hE, vE⟩
  have hG : xG D cA aE ad A s σ s.heap [] := ⟨hP, hD, hS⟩
  have hl := lv_entry ([.ref (ad 3), .int x1, .int x2]) (n := 7) (Nat.le_of_ble_eq_true rfl)
  rw [lg_entry_eq]
  generalize (lg_sl ([.ref (ad 3), .int x1, .int x2]) ++ List.replicate (7 - (lg_sl ([.ref (ad 3), .int x1, .int x2])).length) Slot.unset).toArray = ls at hl ⊢
  have hl : lv_has ls 7 [(0, .ref (ad 3)), (1, .int x1), (2, .int x2)] := hl
  exact k_X3_amountAt C vM x1 x2 σ _ _ _ hG hl hw
/-! ===== X3_fillAmounts parser ===== -/
def rm_X3_fillAmounts : Room := { frames := 3, cells := 0, slots := 0, locals := 70 }
abbrev wgX3_fillAmounts : List Cond := .code yX3_fillAmounts cX3_fillAmounts 2 none :: TB
def wB_X3_fillAmounts_60 (post : XS → Prop) (k2 : Int32 → XS → Prop) (x1 : Int32) (σ : XS) : Prop :=
  ∀ x1_2 : Int32, x1_2 = x1 + 1 → k2 x1_2 σ
def wB_X3_fillAmounts_2 (post : XS → Prop) (k2 : Int32 → XS → Prop) (x1 : Int32) (σ : XS) : Prop :=
  ((xI σ 1) ≤ x1 → (post σ)) ∧ (¬ (xI σ 1) ≤ x1 → (vp_in x1 64 ∧ (((xA σ 3 x1.toNatClampNeg) = (-1) → (wB_X3_fillAmounts_60 post k2 x1 σ)) ∧ (¬ (xA σ 3 x1.toNatClampNeg) = (-1) → (vp_in x1 64 ∧ ((xQ σ 0 x1.toNatClampNeg = none → (wB_X3_fillAmounts_60 post k2 x1 σ)) ∧ (∀ e_4 : Nat, xQ σ 0 x1.toNatClampNeg = some e_4 → (vp_in x1 64 ∧ (vp_in x1 64 ∧ (vp_in x1 64 ∧ ((xQ σ 0 x1.toNatClampNeg = none → (False)) ∧ (∀ e_9 : Nat, xQ σ 0 x1.toNatClampNeg = some e_9 → (e_9 < 53 ∧ wp_X2_amountPart (fun r_11  => wp_X3_amountAt (fun r_13 σ_14 => vp_in x1 64 ∧ (wB_X3_fillAmounts_60 post k2 x1 (yL σ_14 3 x1.toNatClampNeg ((xL σ 3 x1.toNatClampNeg) ||| (r_13 <<< ((32 : Int32).toInt64 &&& 63)))))) (xA σ 3 x1.toNatClampNeg) r_11 σ) e_9)))))))))))))
def wL_X3_fillAmounts_2 (post : XS → Prop) : Nat → Int32 → XS → Prop
  | 0 => fun _ _ => False
  | n + 1 => wB_X3_fillAmounts_2 post (wL_X3_fillAmounts_2 post n)
def wp_X3_fillAmounts (post : XS → Prop) (σ : XS) : Prop :=
  ∃ n, wL_X3_fillAmounts_2 post n 0 σ
set_option maxHeartbeats 4000000 in
set_option maxRecDepth 100000 in
theorem kB_X3_fillAmounts_60 {p : Program} {l : Launch} {e : Env} {s : State} {m : MethodId} {args : Array Value} {below : List Frame} {meth : Method} {c : Code} {A : Nat → Prop} {E : EnvT} {aK aV : Nat → Nat} {aO : Nat} {D : va_G} {cA : Nat → ClassId} {aE ad : Nat → Nat} (C : xCx p s m args meth c cX3_fillAmounts 2 none wgX3_fillAmounts RX3 E D cA A) (vM : eXs aK aV aE aO E) {post : XS → Prop}
    {k2 : Int32 → XS → Prop} (hk2 : ∀ (x1 : Int32) (σ : XS) (H : Heap) (locs : List Loc) (ls : Array Slot), xG D cA aE ad A s σ H locs → lv_has ls 2 [(0, .ref (ad 3)), (1, .int x1)] → k2 x1 σ → W p l e rm_X3_fillAmounts s m args below meth c H locs 0 0 (MQ below (va_Qv post (xAt D cA aE ad A) A) args s 0 0 A) (F0 m 2 ls [])) :
    ∀ (x1 : Int32) (σ : XS) (H : Heap) (locs : List Loc) (ls : Array Slot), xG D cA aE ad A s σ H locs → lv_has ls 2 [(0, .ref (ad 3)), (1, .int x1)] → wB_X3_fillAmounts_60 post k2 x1 σ → W p l e rm_X3_fillAmounts s m args below meth c H locs 0 0 (MQ below (va_Qv post (xAt D cA aE ad A) A) args s 0 0 A) (F0 m 60 ls []) := by
  obtain ⟨hx, hb, hml, hr, hown, hts, hK, hA, hlk, hE, vE⟩ := id C
  intro x1 σ H locs ls hG hl hw
  obtain ⟨hP, hD, hS⟩ := id hG
  obtain ⟨x1_2, ex1_2⟩ : ∃ y : Int32, y = x1 + 1 := ⟨_, rfl⟩
  have hw := hw x1_2 ex1_2
  refine lv_iinc (v := x1_2) (lv' := [(1, .int x1_2), (0, .ref (ad 3))]) hx hb dX3_fillAmounts_60 hl (k := 1) rfl (by rw [ex1_2]; rfl) (by decide) rfl (fun ls hl => ?_)
  refine lv_goto (tgt := 2) hx hb dX3_fillAmounts_63 (by decide) ?_
  exact hk2 x1_2 σ _ _ _ hG (lv_sub hl [1, 0] rfl) hw
set_option maxHeartbeats 4000000 in
set_option maxRecDepth 100000 in
theorem kB_X3_fillAmounts_2 {p : Program} {l : Launch} {e : Env} {s : State} {m : MethodId} {args : Array Value} {below : List Frame} {meth : Method} {c : Code} {A : Nat → Prop} {E : EnvT} {aK aV : Nat → Nat} {aO : Nat} {D : va_G} {cA : Nat → ClassId} {aE ad : Nat → Nat} (C : xCx p s m args meth c cX3_fillAmounts 2 none wgX3_fillAmounts RX3 E D cA A) (vM : eXs aK aV aE aO E) {post : XS → Prop}
    {k2 : Int32 → XS → Prop} (hk2 : ∀ (x1 : Int32) (σ : XS) (H : Heap) (locs : List Loc) (ls : Array Slot), xG D cA aE ad A s σ H locs → lv_has ls 2 [(0, .ref (ad 3)), (1, .int x1)] → k2 x1 σ → W p l e rm_X3_fillAmounts s m args below meth c H locs 0 0 (MQ below (va_Qv post (xAt D cA aE ad A) A) args s 0 0 A) (F0 m 2 ls [])) :
    ∀ (x1 : Int32) (σ : XS) (H : Heap) (locs : List Loc) (ls : Array Slot), xG D cA aE ad A s σ H locs → lv_has ls 2 [(0, .ref (ad 3)), (1, .int x1)] → wB_X3_fillAmounts_2 post k2 x1 σ → W p l e rm_X3_fillAmounts s m args below meth c H locs 0 0 (MQ below (va_Qv post (xAt D cA aE ad A) A) args s 0 0 A) (F0 m 2 ls []) := by
  obtain ⟨hx, hb, hml, hr, hown, hts, hK, hA, hlk, hE, vE⟩ := id C
  intro x1 σ H locs ls hG hl hw
  obtain ⟨hP, hD, hS⟩ := id hG
  refine lv_iload_n hx hb dX3_fillAmounts_2 rfl (lv_at hl 1 rfl) ?_
  refine lv_aload_n hx hb dX3_fillAmounts_3 rfl (lv_at hl 0 rfl) ?_
  refine va_get (D := D) (ci := 5) (v := .int (xI σ 1)) (C := RX3) (T := TX3) (N := 8) hx hb hts (in_tb inX3) hown hK hP 3 rfl rfl 5 (by decide) (hts _ (List.mem_cons_of_mem _ tw_1_117)) (fun _ h9 => h9) rfl dX3_fillAmounts_4 ?_
  refine lv_icmp_ge (tgt := 66) hx hb dX3_fillAmounts_7 (by decide) (fun q_ => ?_) (fun q_ => ?_)
  · have hw := hw.1 q_
    exact W.vret hx hb hr (fun t ht hW => ⟨⟨σ, rfl, hw, by rw [ht]; exact hP, va_K.moved hW.alike hK, hD⟩, hS.F ht⟩) hS.2.2 dX3_fillAmounts_66 hlk
  · have hw := hw.2 q_
    refine lv_aload_n hx hb dX3_fillAmounts_10 rfl (lv_at hl 0 rfl) ?_
    refine va_get (D := D) (ci := 5) (v := .ref (ad 9)) (C := RX3) (T := TX3) (N := 8) hx hb hts (in_tb inX3) hown hK hP 3 rfl rfl 2 (by decide) (hts _ (List.mem_cons_of_mem _ tw_1_112)) (fun _ h9 => h9) rfl dX3_fillAmounts_11 ?_
    refine lv_iload_n hx hb dX3_fillAmounts_14 rfl (lv_at hl 1 rfl) ?_
    obtain ⟨h_1, hw⟩ := hw
    refine va_iald hx hb hK hP 9 0 rfl rfl h_1 dX3_fillAmounts_15 ?_
    refine lv_iconst (v := (-1)) hx hb dX3_fillAmounts_16 (by decide) ?_
    refine lv_icmp_eq (tgt := 60) hx hb dX3_fillAmounts_17 (by decide) (fun q_ => ?_) (fun q_ => ?_)
    · have hw := hw.1 q_
      exact kB_X3_fillAmounts_60 C vM hk2 x1 σ _ _ _ hG (lv_sub hl [0, 1] rfl) hw
    · have hw := hw.2 q_
      refine lv_aload_n hx hb dX3_fillAmounts_20 rfl (lv_at hl 0 rfl) ?_
      refine va_get (D := D) (ci := 5) (v := .ref (ad 8)) (C := RX3) (T := TX3) (N := 8) hx hb hts (in_tb inX3) hown hK hP 3 rfl rfl 1 (by decide) (hts _ (List.mem_cons_of_mem _ tw_1_111)) (fun _ h9 => h9) rfl dX3_fillAmounts_21 ?_
      refine lv_iload_n hx hb dX3_fillAmounts_24 rfl (lv_at hl 1 rfl) ?_
      obtain ⟨h_3, hw⟩ := hw
      refine va_aldq hx hb hK hP 8 3 rfl rfl h_3 dX3_fillAmounts_25 ?_
      rcases q_5 : xQ σ 0 x1.toNatClampNeg with _ | e_4
      · have hw := hw.1 q_5
        refine q_none rfl ?_
        refine lv_ifnullN (tgt := 60) hx hb dX3_fillAmounts_26 (by decide) ?_
        exact kB_X3_fillAmounts_60 C vM hk2 x1 σ _ _ _ hG (lv_sub hl [0, 1] rfl) hw
      · have hw := hw.2 e_4 q_5
        refine q_some rfl ?_
        refine lv_ifnull hx hb dX3_fillAmounts_26 ?_
        refine lv_aload_n hx hb dX3_fillAmounts_29 rfl (lv_at hl 0 rfl) ?_
        refine va_get (D := D) (ci := 5) (v := .ref (ad 13)) (C := RX3) (T := TX3) (N := 8) hx hb hts (in_tb inX3) hown hK hP 3 rfl rfl 4 (by decide) (hts _ (List.mem_cons_of_mem _ tw_1_115)) (fun _ h9 => h9) rfl dX3_fillAmounts_30 ?_
        refine lv_iload_n hx hb dX3_fillAmounts_33 rfl (lv_at hl 1 rfl) ?_
        refine lv_dup2_11 hx hb dX3_fillAmounts_34 rfl rfl ?_
        obtain ⟨h_6, hw⟩ := hw
        refine va_lald hx hb hK hP 13 1 rfl rfl h_6 dX3_fillAmounts_35 ?_
        refine lv_aload_n hx hb dX3_fillAmounts_36 rfl (lv_at hl 0 rfl) ?_
        refine lv_aload_n hx hb dX3_fillAmounts_37 rfl (lv_at hl 0 rfl) ?_
        refine va_get (D := D) (ci := 5) (v := .ref (ad 9)) (C := RX3) (T := TX3) (N := 8) hx hb hts (in_tb inX3) hown hK hP 3 rfl rfl 2 (by decide) (hts _ (List.mem_cons_of_mem _ tw_1_112)) (fun _ h9 => h9) rfl dX3_fillAmounts_38 ?_
        refine lv_iload_n hx hb dX3_fillAmounts_41 rfl (lv_at hl 1 rfl) ?_
        obtain ⟨h_7, hw⟩ := hw
        refine va_iald hx hb hK hP 9 0 rfl rfl h_7 dX3_fillAmounts_42 ?_
        refine lv_aload_n hx hb dX3_fillAmounts_43 rfl (lv_at hl 0 rfl) ?_
        refine va_get (D := D) (ci := 5) (v := .ref (ad 8)) (C := RX3) (T := TX3) (N := 8) hx hb hts (in_tb inX3) hown hK hP 3 rfl rfl 1 (by decide) (hts _ (List.mem_cons_of_mem _ tw_1_111)) (fun _ h9 => h9) rfl dX3_fillAmounts_44 ?_
        refine lv_iload_n hx hb dX3_fillAmounts_47 rfl (lv_at hl 1 rfl) ?_
        obtain ⟨h_8, hw⟩ := hw
        refine va_aldq hx hb hK hP 8 3 rfl rfl h_8 dX3_fillAmounts_48 ?_
        rcases q_10 : xQ σ 0 x1.toNatClampNeg with _ | e_9
        · have hw := hw.1 q_10
          refine q_none rfl ?_
          exact hw.elim
        · have hw := hw.2 e_9 q_10
          refine q_some rfl ?_
          obtain ⟨h_16, hw⟩ := hw
          refine xO_i (As := []) (rest := [.int (xA σ 3 x1.toNatClampNeg), .ref (ad 3), .long (xL σ 3 x1.toNatClampNeg), .int x1, .ref (ad 13)]) C (met_X2_amountPart vE vM hw) (va_Orecv (eX.o_obj (vM _ _ _ hE) h_16) hS) (cwV 0 hts (TB_G (TB_4 tw_5_53 tw_5_54 tw_5_55 tw_1_19) tw_5_56) rfl rfl rfl (by decide +kernel) ⟨by decide, by decide⟩) hP hD hS rfl hl.1 rfl (Nat.le_of_ble_eq_true rfl) dX3_fillAmounts_49 ⟨by decide, by decide⟩ (fun r_11 H locs hw hP hS => ?_)
          have hG : xG D cA aE ad A s σ H locs := ⟨hP, hD, hS⟩
          refine xV_l (As := [.int (xA σ 3 x1.toNatClampNeg), .int r_11]) (rest := [.long (xL σ 3 x1.toNatClampNeg), .int x1, .ref (ad 13)]) C (met_X3_amountAt vE vM hw) (va_recv hK hP (ci := 5) (q0 := 3) rfl rfl) (cwV 2 hts (TB_G (TB_4 tw_4_220 tw_4_222 ts_17 tw_1_3) tw_4_223) rfl rfl rfl (by decide +kernel) ⟨by decide, by decide⟩) hP hD hS rfl hl.1 rfl (Nat.le_of_ble_eq_true rfl) dX3_fillAmounts_52 ⟨by decide, by decide⟩ (fun r_13 σ_14 H locs hw hP hD hS => ?_)
          have hG : xG D cA aE ad A s σ_14 H locs := ⟨hP, hD, hS⟩
          refine lv_bipush (v := 32) hx hb dX3_fillAmounts_55 (by decide) ?_
          refine lv_lshl hx hb dX3_fillAmounts_57 rfl ?_
          refine lv_lor hx hb dX3_fillAmounts_58 ?_
          obtain ⟨h_15, hw⟩ := hw
          refine va_last hx hb hK hP hD hS 13 1 rfl rfl h_15 dX3_fillAmounts_59 (fun H locs hP hD hS => ?_)
          have hG : xG D cA aE ad A s (yL σ_14 3 x1.toNatClampNeg ((xL σ 3 x1.toNatClampNeg) ||| (r_13 <<< ((32 : Int32).toInt64 &&& 63)))) H locs := ⟨hP, hD, hS⟩
          obtain ⟨hP, hD, hS⟩ := id hG
          exact kB_X3_fillAmounts_60 C vM hk2 x1 (yL σ_14 3 x1.toNatClampNeg ((xL σ 3 x1.toNatClampNeg) ||| (r_13 <<< ((32 : Int32).toInt64 &&& 63)))) _ _ _ hG (lv_sub hl [0, 1] rfl) hw
theorem kL_X3_fillAmounts_2 {p : Program} {l : Launch} {e : Env} {s : State} {m : MethodId} {args : Array Value} {below : List Frame} {meth : Method} {c : Code} {A : Nat → Prop} {E : EnvT} {aK aV : Nat → Nat} {aO : Nat} {D : va_G} {cA : Nat → ClassId} {aE ad : Nat → Nat} (C : xCx p s m args meth c cX3_fillAmounts 2 none wgX3_fillAmounts RX3 E D cA A) (vM : eXs aK aV aE aO E) {post : XS → Prop} :
    ∀ (n : Nat) (x1 : Int32) (σ : XS) (H : Heap) (locs : List Loc) (ls : Array Slot), xG D cA aE ad A s σ H locs → lv_has ls 2 [(0, .ref (ad 3)), (1, .int x1)] → wL_X3_fillAmounts_2 post n x1 σ → W p l e rm_X3_fillAmounts s m args below meth c H locs 0 0 (MQ below (va_Qv post (xAt D cA aE ad A) A) args s 0 0 A) (F0 m 2 ls []) := by
  intro n
  induction n with
  | zero => intro x1 σ H locs ls hG hl hw; exact hw.elim
  | succ n ih => exact kB_X3_fillAmounts_2 C vM ih
set_option maxHeartbeats 4000000 in
set_option maxRecDepth 100000 in
theorem k_X3_fillAmounts {p : Program} {l : Launch} {e : Env} {s : State} {m : MethodId} {args : Array Value} {below : List Frame} {meth : Method} {c : Code} {A : Nat → Prop} {E : EnvT} {aK aV : Nat → Nat} {aO : Nat} {D : va_G} {cA : Nat → ClassId} {aE ad : Nat → Nat} (C : xCx p s m args meth c cX3_fillAmounts 2 none wgX3_fillAmounts RX3 E D cA A) (vM : eXs aK aV aE aO E) {post : XS → Prop} :
    ∀ (σ : XS) (H : Heap) (locs : List Loc) (ls : Array Slot), xG D cA aE ad A s σ H locs → lv_has ls 2 [(0, .ref (ad 3))] → wp_X3_fillAmounts post σ → W p l e rm_X3_fillAmounts s m args below meth c H locs 0 0 (MQ below (va_Qv post (xAt D cA aE ad A) A) args s 0 0 A) (F0 m 0 ls []) := by
  obtain ⟨hx, hb, hml, hr, hown, hts, hK, hA, hlk, hE, vE⟩ := id C
  intro σ H locs ls hG hl hw
  obtain ⟨hP, hD, hS⟩ := id hG
  refine lv_iconst (v := 0) hx hb dX3_fillAmounts_0 (by decide) ?_
  refine lv_istore_n (lv' := [(1, .int 0), (0, .ref (ad 3))]) hx hb dX3_fillAmounts_1 rfl hl (by decide) rfl (fun ls hl => ?_)
  obtain ⟨n_, hw⟩ := hw
  exact kL_X3_fillAmounts_2 C vM n_ 0 σ _ _ _ hG (lv_sub hl [1, 0] rfl) hw
set_option maxHeartbeats 4000000 in
set_option maxRecDepth 100000 in
theorem met_X3_fillAmounts {l : Launch} {E : EnvT} (vE : EnvOk E) {D : va_G} {cA : Nat → ClassId} {aE ad : Nat → Nat} {σ : XS} {aK aV : Nat → Nat} {aO : Nat} (vM : eXs aK aV aE aO E) {sz : Nat} {post : XS → Prop} (hw : wp_X3_fillAmounts post σ) : Met l yX3_fillAmounts wgX3_fillAmounts rm_X3_fillAmounts (va_Pc [.ref (ad 3)] (xPre E D cA aE ad sz σ)) (va_Qv post (xAt D cA aE ad (va_A (xW cA aE ad σ) sz)) (va_A (xW cA aE ad σ) sz)) 0 0 (va_A (xW cA aE ad σ) sz) := by
  refine Met.ofW (cc := cX3_fillAmounts) (maxL := 2) (ret := none) (by decide +kernel) rfl ?_
  intro p e s m args below meth c s₁ B hml hv
  obtain ⟨rfl, hsz, hP, hK, hD0, hE⟩ := hv
  subst hsz
  have hD := hD0.self (sz := s.heap.size)
  generalize hAe : va_A (xW cA aE ad σ) s.heap.size = A at hD hE ⊢
  have hA : ∀ q : Nat, s.heap.size ≤ q → A q := fun q h => by rw [← hAe]; exact Or.inr h
  have hS : va_S A s.heap s.heap [] := va_S.rf
  have C : xCx p s m _ meth c cX3_fillAmounts 2 none wgX3_fillAmounts RX3 E D cA A := ⟨B.exec, B.bytes, hml, B.returns, findClass_of_methodNamed B.named, atoms_spec (ws := wgX3_fillAmounts) B.pre, hK, hA, B.notSynchronized, hE, vE⟩
  have hG : xG D cA aE ad A s σ s.heap [] := ⟨hP, hD, hS⟩
  have hl := lv_entry ([.ref (ad 3)]) (n := 2) (Nat.le_of_ble_eq_true rfl)
  rw [lg_entry_eq]
  generalize (lg_sl ([.ref (ad 3)]) ++ List.replicate (2 - (lg_sl ([.ref (ad 3)])).length) Slot.unset).toArray = ls at hl ⊢
  have hl : lv_has ls 2 [(0, .ref (ad 3))] := hl
  exact k_X3_fillAmounts C vM σ _ _ _ hG hl hw
/-! ===== X3_refuse parser ===== -/
def rm_X3_refuse : Room := { frames := 1, cells := 0, slots := 0, locals := 20 }
abbrev wgX3_refuse : List Cond := .code yX3_refuse cX3_refuse 1 (some .boolean) :: TB
def wp_X3_refuse (post : Int32 → XS → Prop) (σ : XS) : Prop :=
  wp_X6_place (fun r_1 σ_2 => post 0 (yI σ_2 3 r_1)) (yI σ 2 1)
set_option maxHeartbeats 4000000 in
set_option maxRecDepth 100000 in
theorem k_X3_refuse {p : Program} {l : Launch} {e : Env} {s : State} {m : MethodId} {args : Array Value} {below : List Frame} {meth : Method} {c : Code} {A : Nat → Prop} {E : EnvT} {aK aV : Nat → Nat} {aO : Nat} {D : va_G} {cA : Nat → ClassId} {aE ad : Nat → Nat} (C : xCx p s m args meth c cX3_refuse 1 (some .boolean) wgX3_refuse RX3 E D cA A) (vM : eXs aK aV aE aO E) {post : Int32 → XS → Prop} :
    ∀ (σ : XS) (H : Heap) (locs : List Loc) (ls : Array Slot), xG D cA aE ad A s σ H locs → lv_has ls 1 [(0, .ref (ad 3))] → wp_X3_refuse post σ → W p l e rm_X3_refuse s m args below meth c H locs 0 0 (MQ below (va_Qi post (xAt D cA aE ad A) A) args s 0 0 A) (F0 m 0 ls []) := by
  obtain ⟨hx, hb, hml, hr, hown, hts, hK, hA, hlk, hE, vE⟩ := id C
  intro σ H locs ls hG hl hw
  obtain ⟨hP, hD, hS⟩ := id hG
  refine lv_aload_n hx hb dX3_refuse_0 rfl (lv_at hl 0 rfl) ?_
  refine lv_iconst (v := 1) hx hb dX3_refuse_1 (by decide) ?_
  refine va_put (D := D) (ci := 5) (v := .int 1) (ty := .int) (C := RX3) (T := TX3) (N := 8) hx hb hts (in_tb inX3) tyX3 tyX3_ok nmX3 hown hK hP hD hS 3 rfl rfl 6 (by decide) (hts _ (List.mem_cons_of_mem _ tw_1_119)) (fun _ h9 => h9) rfl (by decide +kernel) rfl rfl (Nat.le_of_ble_eq_true rfl) dX3_refuse_2 (fun H locs hP hD hS => ?_)
  have hG : xG D cA aE ad A s (yI σ 2 1) H locs := ⟨hP, hD, hS⟩
  obtain ⟨hP, hD, hS⟩ := id hG
  refine lv_aload_n hx hb dX3_refuse_5 rfl (lv_at hl 0 rfl) ?_
  refine lv_aload_n hx hb dX3_refuse_6 rfl (lv_at hl 0 rfl) ?_
  refine va_get (D := D) (ci := 5) (v := .ref (ad 4)) (C := RX3) (T := TX3) (N := 8) hx hb hts (in_tb inX3) hown hK hP 3 rfl rfl 0 (by decide) (hts _ (List.mem_cons_of_mem _ tw_1_110)) (fun _ h9 => h9) rfl dX3_refuse_7 ?_
  refine xV_i (As := []) (rest := [.ref (ad 3)]) C (met_X6_place vE vM hw) (va_recv hK hP (ci := 8) (q0 := 4) rfl rfl) (cwV 0 hts (TB_G (TB_4 tw_4_200 tw_4_201 tw_4_202 tw_1_5) tw_4_203) rfl rfl rfl (by decide +kernel) ⟨by decide, by decide⟩) hP hD hS rfl hl.1 rfl (Nat.le_of_ble_eq_true rfl) dX3_refuse_10 ⟨by decide, by decide⟩ (fun r_1 σ_2 H locs hw hP hD hS => ?_)
  have hG : xG D cA aE ad A s σ_2 H locs := ⟨hP, hD, hS⟩
  refine va_put (D := D) (ci := 5) (v := .int r_1) (ty := .int) (C := RX3) (T := TX3) (N := 8) hx hb hts (in_tb inX3) tyX3 tyX3_ok nmX3 hown hK hP hD hS 3 rfl rfl 7 (by decide) (hts _ (List.mem_cons_of_mem _ tw_1_121)) (fun _ h9 => h9) rfl (by decide +kernel) rfl rfl (Nat.le_of_ble_eq_true rfl) dX3_refuse_13 (fun H locs hP hD hS => ?_)
  have hG : xG D cA aE ad A s (yI σ_2 3 r_1) H locs := ⟨hP, hD, hS⟩
  obtain ⟨hP, hD, hS⟩ := id hG
  refine lv_iconst (v := 0) hx hb dX3_refuse_16 (by decide) ?_
  exact W.zret (v := 0) (ty := .boolean) hx hb hr rfl (fun t ht hW => ⟨⟨_, (yI σ_2 3 r_1), rfl, hw, by rw [ht]; exact hP, va_K.moved hW.alike hK, hD⟩, hS.F ht⟩) hS.2.2 dX3_refuse_17 hlk
set_option maxHeartbeats 4000000 in
set_option maxRecDepth 100000 in
theorem met_X3_refuse {l : Launch} {E : EnvT} (vE : EnvOk E) {D : va_G} {cA : Nat → ClassId} {aE ad : Nat → Nat} {σ : XS} {aK aV : Nat → Nat} {aO : Nat} (vM : eXs aK aV aE aO E) {sz : Nat} {post : Int32 → XS → Prop} (hw : wp_X3_refuse post σ) : Met l yX3_refuse wgX3_refuse rm_X3_refuse (va_Pc [.ref (ad 3)] (xPre E D cA aE ad sz σ)) (va_Qi post (xAt D cA aE ad (va_A (xW cA aE ad σ) sz)) (va_A (xW cA aE ad σ) sz)) 0 0 (va_A (xW cA aE ad σ) sz) := by
  refine Met.ofW (cc := cX3_refuse) (maxL := 1) (ret := (some .boolean)) (by decide +kernel) rfl ?_
  intro p e s m args below meth c s₁ B hml hv
  obtain ⟨rfl, hsz, hP, hK, hD0, hE⟩ := hv
  subst hsz
  have hD := hD0.self (sz := s.heap.size)
  generalize hAe : va_A (xW cA aE ad σ) s.heap.size = A at hD hE ⊢
  have hA : ∀ q : Nat, s.heap.size ≤ q → A q := fun q h => by rw [← hAe]; exact Or.inr h
  have hS : va_S A s.heap s.heap [] := va_S.rf
  have C : xCx p s m _ meth c cX3_refuse 1 (some .boolean) wgX3_refuse RX3 E D cA A := ⟨B.exec, B.bytes, hml, B.returns, findClass_of_methodNamed B.named, atoms_spec (ws := wgX3_refuse) B.pre, hK, hA, B.notSynchronized, hE, vE⟩
  have hG : xG D cA aE ad A s σ s.heap [] := ⟨hP, hD, hS⟩
  have hl := lv_entry ([.ref (ad 3)]) (n := 1) (Nat.le_of_ble_eq_true rfl)
  rw [lg_entry_eq]
  generalize (lg_sl ([.ref (ad 3)]) ++ List.replicate (1 - (lg_sl ([.ref (ad 3)])).length) Slot.unset).toArray = ls at hl ⊢
  have hl : lv_has ls 1 [(0, .ref (ad 3))] := hl
  exact k_X3_refuse C vM σ _ _ _ hG hl hw
/-! ===== X3_passAmount parser ===== -/
def rm_X3_passAmount : Room := { frames := 1, cells := 0, slots := 0, locals := 20 }
abbrev wgX3_passAmount : List Cond := .code yX3_passAmount cX3_passAmount 1 (some .boolean) :: TB
def wB_X3_passAmount_43 (post : Int32 → XS → Prop) (σ : XS) : Prop :=
  wp_X6_advance (fun σ_6 => post 1 σ_6) σ
def wB_X3_passAmount_19 (post : Int32 → XS → Prop) (σ : XS) : Prop :=
  wp_X6_kind (fun r_3 σ_4 => (r_3 = 1 → (wB_X3_passAmount_43 post σ_4)) ∧ (¬ r_3 = 1 → (wp_X6_kind (fun r_7 σ_8 => (r_7 = 2 → (wB_X3_passAmount_43 post σ_8)) ∧ (¬ r_7 = 2 → (post 0 σ_8))) σ_4))) σ
def wp_X3_passAmount (post : Int32 → XS → Prop) (σ : XS) : Prop :=
  wp_X6_kind (fun r_1 σ_2 => (r_1 = 45 → (wp_X6_advance (fun σ_10 => wB_X3_passAmount_19 post σ_10) σ_2)) ∧ (¬ r_1 = 45 → (wB_X3_passAmount_19 post σ_2))) σ
set_option maxHeartbeats 4000000 in
set_option maxRecDepth 100000 in
theorem kB_X3_passAmount_43 {p : Program} {l : Launch} {e : Env} {s : State} {m : MethodId} {args : Array Value} {below : List Frame} {meth : Method} {c : Code} {A : Nat → Prop} {E : EnvT} {aK aV : Nat → Nat} {aO : Nat} {D : va_G} {cA : Nat → ClassId} {aE ad : Nat → Nat} (C : xCx p s m args meth c cX3_passAmount 1 (some .boolean) wgX3_passAmount RX3 E D cA A) (vM : eXs aK aV aE aO E) {post : Int32 → XS → Prop} :
    ∀ (σ : XS) (H : Heap) (locs : List Loc) (ls : Array Slot), xG D cA aE ad A s σ H locs → lv_has ls 1 [(0, .ref (ad 3))] → wB_X3_passAmount_43 post σ → W p l e rm_X3_passAmount s m args below meth c H locs 0 0 (MQ below (va_Qi post (xAt D cA aE ad A) A) args s 0 0 A) (F0 m 43 ls []) := by
  obtain ⟨hx, hb, hml, hr, hown, hts, hK, hA, hlk, hE, vE⟩ := id C
  intro σ H locs ls hG hl hw
  obtain ⟨hP, hD, hS⟩ := id hG
  refine lv_aload_n hx hb dX3_passAmount_43 rfl (lv_at hl 0 rfl) ?_
  refine va_get (D := D) (ci := 5) (v := .ref (ad 4)) (C := RX3) (T := TX3) (N := 8) hx hb hts (in_tb inX3) hown hK hP 3 rfl rfl 0 (by decide) (hts _ (List.mem_cons_of_mem _ tw_1_110)) (fun _ h9 => h9) rfl dX3_passAmount_44 ?_
  refine xV_v (As := []) (rest := []) C (met_X6_advance vE vM hw) (va_recv hK hP (ci := 8) (q0 := 4) rfl rfl) (cwV 0 hts (TB_G (TB_4 tw_4_204 tw_4_205 tw_4_206 tw_1_5) tw_4_207) rfl rfl rfl (by decide +kernel) ⟨by decide, by decide⟩) hP hD hS rfl hl.1 rfl (Nat.le_of_ble_eq_true rfl) dX3_passAmount_47 ⟨by decide, by decide⟩ (fun σ_6 H locs hw hP hD hS => ?_)
  have hG : xG D cA aE ad A s σ_6 H locs := ⟨hP, hD, hS⟩
  refine lv_iconst (v := 1) hx hb dX3_passAmount_50 (by decide) ?_
  exact W.zret (v := 1) (ty := .boolean) hx hb hr rfl (fun t ht hW => ⟨⟨_, σ_6, rfl, hw, by rw [ht]; exact hP, va_K.moved hW.alike hK, hD⟩, hS.F ht⟩) hS.2.2 dX3_passAmount_51 hlk
set_option maxHeartbeats 4000000 in
set_option maxRecDepth 100000 in
theorem kB_X3_passAmount_19 {p : Program} {l : Launch} {e : Env} {s : State} {m : MethodId} {args : Array Value} {below : List Frame} {meth : Method} {c : Code} {A : Nat → Prop} {E : EnvT} {aK aV : Nat → Nat} {aO : Nat} {D : va_G} {cA : Nat → ClassId} {aE ad : Nat → Nat} (C : xCx p s m args meth c cX3_passAmount 1 (some .boolean) wgX3_passAmount RX3 E D cA A) (vM : eXs aK aV aE aO E) {post : Int32 → XS → Prop} :
    ∀ (σ : XS) (H : Heap) (locs : List Loc) (ls : Array Slot), xG D cA aE ad A s σ H locs → lv_has ls 1 [(0, .ref (ad 3))] → wB_X3_passAmount_19 post σ → W p l e rm_X3_passAmount s m args below meth c H locs 0 0 (MQ below (va_Qi post (xAt D cA aE ad A) A) args s 0 0 A) (F0 m 19 ls []) := by
  obtain ⟨hx, hb, hml, hr, hown, hts, hK, hA, hlk, hE, vE⟩ := id C
  intro σ H locs ls hG hl hw
  obtain ⟨hP, hD, hS⟩ := id hG
  refine lv_aload_n hx hb dX3_passAmount_19 rfl (lv_at hl 0 rfl) ?_
  refine va_get (D := D) (ci := 5) (v := .ref (ad 4)) (C := RX3) (T := TX3) (N := 8) hx hb hts (in_tb inX3) hown hK hP 3 rfl rfl 0 (by decide) (hts _ (List.mem_cons_of_mem _ tw_1_110)) (fun _ h9 => h9) rfl dX3_passAmount_20 ?_
  refine xV_i (As := []) (rest := []) C (met_X6_kind vE vM hw) (va_recv hK hP (ci := 8) (q0 := 4) rfl rfl) (cwV 0 hts (TB_G (TB_4 tw_4_180 tw_4_181 tw_4_182 tw_1_5) tw_4_183) rfl rfl rfl (by decide +kernel) ⟨by decide, by decide⟩) hP hD hS rfl hl.1 rfl (Nat.le_of_ble_eq_true rfl) dX3_passAmount_23 ⟨by decide, by decide⟩ (fun r_3 σ_4 H locs hw hP hD hS => ?_)
  have hG : xG D cA aE ad A s σ_4 H locs := ⟨hP, hD, hS⟩
  refine lv_iconst (v := 1) hx hb dX3_passAmount_26 (by decide) ?_
  refine lv_icmp_eq (tgt := 43) hx hb dX3_passAmount_27 (by decide) (fun q_ => ?_) (fun q_ => ?_)
  · have hw := hw.1 q_
    exact kB_X3_passAmount_43 C vM  σ_4 _ _ _ hG (lv_sub hl [0] rfl) hw
  · have hw := hw.2 q_
    refine lv_aload_n hx hb dX3_passAmount_30 rfl (lv_at hl 0 rfl) ?_
    refine va_get (D := D) (ci := 5) (v := .ref (ad 4)) (C := RX3) (T := TX3) (N := 8) hx hb hts (in_tb inX3) hown hK hP 3 rfl rfl 0 (by decide) (hts _ (List.mem_cons_of_mem _ tw_1_110)) (fun _ h9 => h9) rfl dX3_passAmount_31 ?_
    refine xV_i (As := []) (rest := []) C (met_X6_kind vE vM hw) (va_recv hK hP (ci := 8) (q0 := 4) rfl rfl) (cwV 0 hts (TB_G (TB_4 tw_4_180 tw_4_181 tw_4_182 tw_1_5) tw_4_183) rfl rfl rfl (by decide +kernel) ⟨by decide, by decide⟩) hP hD hS rfl hl.1 rfl (Nat.le_of_ble_eq_true rfl) dX3_passAmount_34 ⟨by decide, by decide⟩ (fun r_7 σ_8 H locs hw hP hD hS => ?_)
    have hG : xG D cA aE ad A s σ_8 H locs := ⟨hP, hD, hS⟩
    refine lv_iconst (v := 2) hx hb dX3_passAmount_37 (by decide) ?_
    refine lv_icmp_eq (tgt := 43) hx hb dX3_passAmount_38 (by decide) (fun q_ => ?_) (fun q_ => ?_)
    · have hw := hw.1 q_
      exact kB_X3_passAmount_43 C vM  σ_8 _ _ _ hG (lv_sub hl [0] rfl) hw
    · have hw := hw.2 q_
      refine lv_iconst (v := 0) hx hb dX3_passAmount_41 (by decide) ?_
      exact W.zret (v := 0) (ty := .boolean) hx hb hr rfl (fun t ht hW => ⟨⟨_, σ_8, rfl, hw, by rw [ht]; exact hP, va_K.moved hW.alike hK, hD⟩, hS.F ht⟩) hS.2.2 dX3_passAmount_42 hlk
set_option maxHeartbeats 4000000 in
set_option maxRecDepth 100000 in
theorem k_X3_passAmount {p : Program} {l : Launch} {e : Env} {s : State} {m : MethodId} {args : Array Value} {below : List Frame} {meth : Method} {c : Code} {A : Nat → Prop} {E : EnvT} {aK aV : Nat → Nat} {aO : Nat} {D : va_G} {cA : Nat → ClassId} {aE ad : Nat → Nat} (C : xCx p s m args meth c cX3_passAmount 1 (some .boolean) wgX3_passAmount RX3 E D cA A) (vM : eXs aK aV aE aO E) {post : Int32 → XS → Prop} :
    ∀ (σ : XS) (H : Heap) (locs : List Loc) (ls : Array Slot), xG D cA aE ad A s σ H locs → lv_has ls 1 [(0, .ref (ad 3))] → wp_X3_passAmount post σ → W p l e rm_X3_passAmount s m args below meth c H locs 0 0 (MQ below (va_Qi post (xAt D cA aE ad A) A) args s 0 0 A) (F0 m 0 ls []) := by
  obtain ⟨hx, hb, hml, hr, hown, hts, hK, hA, hlk, hE, vE⟩ := id C
  intro σ H locs ls hG hl hw
  obtain ⟨hP, hD, hS⟩ := id hG
  refine lv_aload_n hx hb dX3_passAmount_0 rfl (lv_at hl 0 rfl) ?_
  refine va_get (D := D) (ci := 5) (v := .ref (ad 4)) (C := RX3) (T := TX3) (N := 8) hx hb hts (in_tb inX3) hown hK hP 3 rfl rfl 0 (by decide) (hts _ (List.mem_cons_of_mem _ tw_1_110)) (fun _ h9 => h9) rfl dX3_passAmount_1 ?_
  refine xV_i (As := []) (rest := []) C (met_X6_kind vE vM hw) (va_recv hK hP (ci := 8) (q0 := 4) rfl rfl) (cwV 0 hts (TB_G (TB_4 tw_4_180 tw_4_181 tw_4_182 tw_1_5) tw_4_183) rfl rfl rfl (by decide +kernel) ⟨by decide, by decide⟩) hP hD hS rfl hl.1 rfl (Nat.le_of_ble_eq_true rfl) dX3_passAmount_4 ⟨by decide, by decide⟩ (fun r_1 σ_2 H locs hw hP hD hS => ?_)
  have hG : xG D cA aE ad A s σ_2 H locs := ⟨hP, hD, hS⟩
  refine lv_bipush (v := 45) hx hb dX3_passAmount_7 (by decide) ?_
  refine lv_icmp_ne (tgt := 19) hx hb dX3_passAmount_9 (by decide) (fun q_ => ?_) (fun q_ => ?_)
  · have hw := hw.2 q_
    exact kB_X3_passAmount_19 C vM  σ_2 _ _ _ hG (lv_sub hl [0] rfl) hw
  · have hw := hw.1 q_
    refine lv_aload_n hx hb dX3_passAmount_12 rfl (lv_at hl 0 rfl) ?_
    refine va_get (D := D) (ci := 5) (v := .ref (ad 4)) (C := RX3) (T := TX3) (N := 8) hx hb hts (in_tb inX3) hown hK hP 3 rfl rfl 0 (by decide) (hts _ (List.mem_cons_of_mem _ tw_1_110)) (fun _ h9 => h9) rfl dX3_passAmount_13 ?_
    refine xV_v (As := []) (rest := []) C (met_X6_advance vE vM hw) (va_recv hK hP (ci := 8) (q0 := 4) rfl rfl) (cwV 0 hts (TB_G (TB_4 tw_4_204 tw_4_205 tw_4_206 tw_1_5) tw_4_207) rfl rfl rfl (by decide +kernel) ⟨by decide, by decide⟩) hP hD hS rfl hl.1 rfl (Nat.le_of_ble_eq_true rfl) dX3_passAmount_16 ⟨by decide, by decide⟩ (fun σ_10 H locs hw hP hD hS => ?_)
    have hG : xG D cA aE ad A s σ_10 H locs := ⟨hP, hD, hS⟩
    exact kB_X3_passAmount_19 C vM  σ_10 _ _ _ hG (lv_sub hl [0] rfl) hw
set_option maxHeartbeats 4000000 in
set_option maxRecDepth 100000 in
theorem met_X3_passAmount {l : Launch} {E : EnvT} (vE : EnvOk E) {D : va_G} {cA : Nat → ClassId} {aE ad : Nat → Nat} {σ : XS} {aK aV : Nat → Nat} {aO : Nat} (vM : eXs aK aV aE aO E) {sz : Nat} {post : Int32 → XS → Prop} (hw : wp_X3_passAmount post σ) : Met l yX3_passAmount wgX3_passAmount rm_X3_passAmount (va_Pc [.ref (ad 3)] (xPre E D cA aE ad sz σ)) (va_Qi post (xAt D cA aE ad (va_A (xW cA aE ad σ) sz)) (va_A (xW cA aE ad σ) sz)) 0 0 (va_A (xW cA aE ad σ) sz) := by
  refine Met.ofW (cc := cX3_passAmount) (maxL := 1) (ret := (some .boolean)) (by decide +kernel) rfl ?_
  intro p e s m args below meth c s₁ B hml hv
  obtain ⟨rfl, hsz, hP, hK, hD0, hE⟩ := hv
  subst hsz
  have hD := hD0.self (sz := s.heap.size)
  generalize hAe : va_A (xW cA aE ad σ) s.heap.size = A at hD hE ⊢
  have hA : ∀ q : Nat, s.heap.size ≤ q → A q := fun q h => by rw [← hAe]; exact Or.inr h
  have hS : va_S A s.heap s.heap [] := va_S.rf
  have C : xCx p s m _ meth c cX3_passAmount 1 (some .boolean) wgX3_passAmount RX3 E D cA A := ⟨B.exec, B.bytes, hml, B.returns, findClass_of_methodNamed B.named, atoms_spec (ws := wgX3_passAmount) B.pre, hK, hA, B.notSynchronized, hE, vE⟩
  have hG : xG D cA aE ad A s σ s.heap [] := ⟨hP, hD, hS⟩
  have hl := lv_entry ([.ref (ad 3)]) (n := 1) (Nat.le_of_ble_eq_true rfl)
  rw [lg_entry_eq]
  generalize (lg_sl ([.ref (ad 3)]) ++ List.replicate (1 - (lg_sl ([.ref (ad 3)])).length) Slot.unset).toArray = ls at hl ⊢
  have hl : lv_has ls 1 [(0, .ref (ad 3))] := hl
  exact k_X3_passAmount C vM σ _ _ _ hG hl hw
/-! ===== X3_takeSign parser ===== -/
def rm_X3_takeSign : Room := { frames := 2, cells := 0, slots := 0, locals := 40 }
abbrev wgX3_takeSign : List Cond := .code yX3_takeSign cX3_takeSign 2 (some .boolean) :: TB
def wp_X3_takeSign (post : Int32 → XS → Prop) (x1 : Int32) (σ : XS) : Prop :=
  wp_X6_kind (fun r_1 σ_2 => (r_1 = x1 → (wp_X6_advance (fun σ_4 => post 1 σ_4) σ_2)) ∧ (¬ r_1 = x1 → (wp_X3_refuse (fun r_5 σ_6 => isB r_5 ∧ (post r_5 σ_6)) σ_2))) σ
set_option maxHeartbeats 4000000 in
set_option maxRecDepth 100000 in
theorem k_X3_takeSign {p : Program} {l : Launch} {e : Env} {s : State} {m : MethodId} {args : Array Value} {below : List Frame} {meth : Method} {c : Code} {A : Nat → Prop} {E : EnvT} {aK aV : Nat → Nat} {aO : Nat} {D : va_G} {cA : Nat → ClassId} {aE ad : Nat → Nat} (C : xCx p s m args meth c cX3_takeSign 2 (some .boolean) wgX3_takeSign RX3 E D cA A) (vM : eXs aK aV aE aO E) {post : Int32 → XS → Prop} :
    ∀ (x1 : Int32) (σ : XS) (H : Heap) (locs : List Loc) (ls : Array Slot), xG D cA aE ad A s σ H locs → lv_has ls 2 [(0, .ref (ad 3)), (1, .int x1)] → wp_X3_takeSign post x1 σ → W p l e rm_X3_takeSign s m args below meth c H locs 0 0 (MQ below (va_Qi post (xAt D cA aE ad A) A) args s 0 0 A) (F0 m 0 ls []) := by
  obtain ⟨hx, hb, hml, hr, hown, hts, hK, hA, hlk, hE, vE⟩ := id C
  intro x1 σ H locs ls hG hl hw
  obtain ⟨hP, hD, hS⟩ := id hG
  refine lv_aload_n hx hb dX3_takeSign_0 rfl (lv_at hl 0 rfl) ?_
  refine va_get (D := D) (ci := 5) (v := .ref (ad 4)) (C := RX3) (T := TX3) (N := 8) hx hb hts (in_tb inX3) hown hK hP 3 rfl rfl 0 (by decide) (hts _ (List.mem_cons_of_mem _ tw_1_110)) (fun _ h9 => h9) rfl dX3_takeSign_1 ?_
  refine xV_i (As := []) (rest := []) C (met_X6_kind vE vM hw) (va_recv hK hP (ci := 8) (q0 := 4) rfl rfl) (cwV 0 hts (TB_G (TB_4 tw_4_180 tw_4_181 tw_4_182 tw_1_5) tw_4_183) rfl rfl rfl (by decide +kernel) ⟨by decide, by decide⟩) hP hD hS rfl hl.1 rfl (Nat.le_of_ble_eq_true rfl) dX3_takeSign_4 ⟨by decide, by decide⟩ (fun r_1 σ_2 H locs hw hP hD hS => ?_)
  have hG : xG D cA aE ad A s σ_2 H locs := ⟨hP, hD, hS⟩
  refine lv_iload_n hx hb dX3_takeSign_7 rfl (lv_at hl 1 rfl) ?_
  refine lv_icmp_eq (tgt := 16) hx hb dX3_takeSign_8 (by decide) (fun q_ => ?_) (fun q_ => ?_)
  · have hw := hw.1 q_
    refine lv_aload_n hx hb dX3_takeSign_16 rfl (lv_at hl 0 rfl) ?_
    refine va_get (D := D) (ci := 5) (v := .ref (ad 4)) (C := RX3) (T := TX3) (N := 8) hx hb hts (in_tb inX3) hown hK hP 3 rfl rfl 0 (by decide) (hts _ (List.mem_cons_of_mem _ tw_1_110)) (fun _ h9 => h9) rfl dX3_takeSign_17 ?_
    refine xV_v (As := []) (rest := []) C (met_X6_advance vE vM hw) (va_recv hK hP (ci := 8) (q0 := 4) rfl rfl) (cwV 0 hts (TB_G (TB_4 tw_4_204 tw_4_205 tw_4_206 tw_1_5) tw_4_207) rfl rfl rfl (by decide +kernel) ⟨by decide, by decide⟩) hP hD hS rfl hl.1 rfl (Nat.le_of_ble_eq_true rfl) dX3_takeSign_20 ⟨by decide, by decide⟩ (fun σ_4 H locs hw hP hD hS => ?_)
    have hG : xG D cA aE ad A s σ_4 H locs := ⟨hP, hD, hS⟩
    refine lv_iconst (v := 1) hx hb dX3_takeSign_23 (by decide) ?_
    exact W.zret (v := 1) (ty := .boolean) hx hb hr rfl (fun t ht hW => ⟨⟨_, σ_4, rfl, hw, by rw [ht]; exact hP, va_K.moved hW.alike hK, hD⟩, hS.F ht⟩) hS.2.2 dX3_takeSign_24 hlk
  · have hw := hw.2 q_
    refine lv_aload_n hx hb dX3_takeSign_11 rfl (lv_at hl 0 rfl) ?_
    refine xV_i (As := []) (rest := []) C (met_X3_refuse vE vM hw) (va_recv hK hP (ci := 5) (q0 := 3) rfl rfl) (cwV 0 hts (TB_G (TB_4 tw_4_216 tw_4_218 ts_16 tw_1_3) tw_4_219) rfl rfl rfl (by decide +kernel) ⟨by decide, by decide⟩) hP hD hS rfl hl.1 rfl (Nat.le_of_ble_eq_true rfl) dX3_takeSign_12 ⟨by decide, by decide⟩ (fun r_5 σ_6 H locs hw hP hD hS => ?_)
    have hG : xG D cA aE ad A s σ_6 H locs := ⟨hP, hD, hS⟩
    obtain ⟨h_7, hw⟩ := hw
    exact W.zret (v := r_5) (ty := .boolean) hx hb hr (isB.n h_7) (fun t ht hW => ⟨⟨_, σ_6, rfl, hw, by rw [ht]; exact hP, va_K.moved hW.alike hK, hD⟩, hS.F ht⟩) hS.2.2 dX3_takeSign_15 hlk
set_option maxHeartbeats 4000000 in
set_option maxRecDepth 100000 in
theorem met_X3_takeSign {l : Launch} {E : EnvT} (vE : EnvOk E) {D : va_G} {cA : Nat → ClassId} {aE ad : Nat → Nat} {σ : XS} {aK aV : Nat → Nat} {aO : Nat} (vM : eXs aK aV aE aO E) {sz : Nat} {x1 : Int32} {post : Int32 → XS → Prop} (hw : wp_X3_takeSign post x1 σ) : Met l yX3_takeSign wgX3_takeSign rm_X3_takeSign (va_Pc [.ref (ad 3), .int x1] (xPre E D cA aE ad sz σ)) (va_Qi post (xAt D cA aE ad (va_A (xW cA aE ad σ) sz)) (va_A (xW cA aE ad σ) sz)) 0 0 (va_A (xW cA aE ad σ) sz) := by
  refine Met.ofW (cc := cX3_takeSign) (maxL := 2) (ret := (some .boolean)) (by decide +kernel) rfl ?_
  intro p e s m args below meth c s₁ B hml hv
  obtain ⟨rfl, hsz, hP, hK, hD0, hE⟩ := hv
  subst hsz
  have hD := hD0.self (sz := s.heap.size)
  generalize hAe : va_A (xW cA aE ad σ) s.heap.size = A at hD hE ⊢
  have hA : ∀ q : Nat, s.heap.size ≤ q → A q := fun q h => by rw [← hAe]; exact Or.inr h
  have hS : va_S A s.heap s.heap [] := va_S.rf
  have C : xCx p s m _ meth c cX3_takeSign 2 (some .boolean) wgX3_takeSign RX3 E D cA A := ⟨B.exec, B.bytes, hml, B.returns, findClass_of_methodNamed B.named, atoms_spec (ws := wgX3_takeSign) B.pre, hK, hA, B.notSynchronized, hE, vE⟩
  have hG : xG D cA aE ad A s σ s.heap [] := ⟨hP, hD, hS⟩
  have hl := lv_entry ([.ref (ad 3), .int x1]) (n := 2) (Nat.le_of_ble_eq_true rfl)
  rw [lg_entry_eq]
  generalize (lg_sl ([.ref (ad 3), .int x1]) ++ List.replicate (2 - (lg_sl ([.ref (ad 3), .int x1])).length) Slot.unset).toArray = ls at hl ⊢
  have hl : lv_has ls 2 [(0, .ref (ad 3)), (1, .int x1)] := hl
  exact k_X3_takeSign C vM x1 σ _ _ _ hG hl hw
/-! ===== X3_tellName parser ===== -/
def rm_X3_tellName : Room := { frames := 2, cells := 0, slots := 0, locals := 47 }
abbrev wgX3_tellName : List Cond := .code yX3_tellName cX3_tellName 6 none :: TB
def wB_X3_tellName_19 (post : XS → Prop) (σ : XS) : Prop :=
  post σ
def wp_X3_tellName (post : XS → Prop) (x1 : Int64) (x3 : Int32) (x4 : Int64) (σ : XS) : Prop :=
  wp_X1_tell_told (fun r_1 σ_2 => (r_1 = 0 → (wp_X3_noteFault (fun σ_4 => wB_X3_tellName_19 post σ_4) 2 x3 σ_2)) ∧ (¬ r_1 = 0 → (wB_X3_tellName_19 post σ_2))) x1 x4 σ
set_option maxHeartbeats 4000000 in
set_option maxRecDepth 100000 in
theorem kB_X3_tellName_19 {p : Program} {l : Launch} {e : Env} {s : State} {m : MethodId} {args : Array Value} {below : List Frame} {meth : Method} {c : Code} {A : Nat → Prop} {E : EnvT} {aK aV : Nat → Nat} {aO : Nat} {D : va_G} {cA : Nat → ClassId} {aE ad : Nat → Nat} (C : xCx p s m args meth c cX3_tellName 6 none wgX3_tellName RX3 E D cA A) (vM : eXs aK aV aE aO E) {post : XS → Prop} :
    ∀ (σ : XS) (H : Heap) (locs : List Loc) (ls : Array Slot), xG D cA aE ad A s σ H locs → lv_has ls 6 [] → wB_X3_tellName_19 post σ → W p l e rm_X3_tellName s m args below meth c H locs 0 0 (MQ below (va_Qv post (xAt D cA aE ad A) A) args s 0 0 A) (F0 m 19 ls []) := by
  obtain ⟨hx, hb, hml, hr, hown, hts, hK, hA, hlk, hE, vE⟩ := id C
  intro σ H locs ls hG hl hw
  obtain ⟨hP, hD, hS⟩ := id hG
  exact W.vret hx hb hr (fun t ht hW => ⟨⟨σ, rfl, hw, by rw [ht]; exact hP, va_K.moved hW.alike hK, hD⟩, hS.F ht⟩) hS.2.2 dX3_tellName_19 hlk
set_option maxHeartbeats 4000000 in
set_option maxRecDepth 100000 in
theorem k_X3_tellName {p : Program} {l : Launch} {e : Env} {s : State} {m : MethodId} {args : Array Value} {below : List Frame} {meth : Method} {c : Code} {A : Nat → Prop} {E : EnvT} {aK aV : Nat → Nat} {aO : Nat} {D : va_G} {cA : Nat → ClassId} {aE ad : Nat → Nat} (C : xCx p s m args meth c cX3_tellName 6 none wgX3_tellName RX3 E D cA A) (vM : eXs aK aV aE aO E) {post : XS → Prop} :
    ∀ (x1 : Int64) (x3 : Int32) (x4 : Int64) (σ : XS) (H : Heap) (locs : List Loc) (ls : Array Slot), xG D cA aE ad A s σ H locs → lv_has ls 6 [(0, .ref (ad 3)), (1, .long x1), (3, .int x3), (4, .long x4)] → wp_X3_tellName post x1 x3 x4 σ → W p l e rm_X3_tellName s m args below meth c H locs 0 0 (MQ below (va_Qv post (xAt D cA aE ad A) A) args s 0 0 A) (F0 m 0 ls []) := by
  obtain ⟨hx, hb, hml, hr, hown, hts, hK, hA, hlk, hE, vE⟩ := id C
  intro x1 x3 x4 σ H locs ls hG hl hw
  obtain ⟨hP, hD, hS⟩ := id hG
  refine lv_aload_n hx hb dX3_tellName_0 rfl (lv_at hl 0 rfl) ?_
  refine va_get (D := D) (ci := 5) (v := .ref (ad 10)) (C := RX3) (T := TX3) (N := 8) hx hb hts (in_tb inX3) hown hK hP 3 rfl rfl 3 (by decide) (hts _ (List.mem_cons_of_mem _ tw_1_113)) (fun _ h9 => h9) rfl dX3_tellName_1 ?_
  refine lv_lload_n hx hb dX3_tellName_4 rfl (lv_at hl 1 rfl) ?_
  refine lv_lload hx hb dX3_tellName_5 (lv_at hl 3 rfl) ?_
  refine xV_i (As := [.long x1, .long x4]) (rest := []) C (met_X1_tell_told vE vM hw) (va_recv hK hP (ci := 3) (q0 := 10) rfl rfl) (cwV 2 hts (TB_G (TB_4 tw_5_7 tw_5_8 tw_5_9 tw_1_4) tw_5_10) rfl rfl rfl (by decide +kernel) ⟨by decide, by decide⟩) hP hD hS rfl hl.1 rfl (Nat.le_of_ble_eq_true rfl) dX3_tellName_7 ⟨by decide, by decide⟩ (fun r_1 σ_2 H locs hw hP hD hS => ?_)
  have hG : xG D cA aE ad A s σ_2 H locs := ⟨hP, hD, hS⟩
  refine lv_if_ne (tgt := 19) hx hb dX3_tellName_10 (by decide) (fun q_ => ?_) (fun q_ => ?_)
  · have hw := hw.2 q_
    exact kB_X3_tellName_19 C vM  σ_2 _ _ _ hG (lv_sub hl [] rfl) hw
  · have hw := hw.1 q_
    refine lv_aload_n hx hb dX3_tellName_13 rfl (lv_at hl 0 rfl) ?_
    refine lv_iconst (v := 2) hx hb dX3_tellName_14 (by decide) ?_
    refine lv_iload_n hx hb dX3_tellName_15 rfl (lv_at hl 2 rfl) ?_
    refine xV_v (As := [.int 2, .int x3]) (rest := []) C (met_X3_noteFault vE vM hw) (va_recv hK hP (ci := 5) (q0 := 3) rfl rfl) (cwV 2 hts (TB_G (TB_4 tw_4_237 tw_4_239 ts_19 tw_1_3) tw_5_0) rfl rfl rfl (by decide +kernel) ⟨by decide, by decide⟩) hP hD hS rfl hl.1 rfl (Nat.le_of_ble_eq_true rfl) dX3_tellName_16 ⟨by decide, by decide⟩ (fun σ_4 H locs hw hP hD hS => ?_)
    have hG : xG D cA aE ad A s σ_4 H locs := ⟨hP, hD, hS⟩
    exact kB_X3_tellName_19 C vM  σ_4 _ _ _ hG (lv_sub hl [] rfl) hw
set_option maxHeartbeats 4000000 in
set_option maxRecDepth 100000 in
theorem met_X3_tellName {l : Launch} {E : EnvT} (vE : EnvOk E) {D : va_G} {cA : Nat → ClassId} {aE ad : Nat → Nat} {σ : XS} {aK aV : Nat → Nat} {aO : Nat} (vM : eXs aK aV aE aO E) {sz : Nat} {x1 : Int64} {x3 : Int32} {x4 : Int64} {post : XS → Prop} (hw : wp_X3_tellName post x1 x3 x4 σ) : Met l yX3_tellName wgX3_tellName rm_X3_tellName (va_Pc [.ref (ad 3), .long x1, .int x3, .long x4] (xPre E D cA aE ad sz σ)) (va_Qv post (xAt D cA aE ad (va_A (xW cA aE ad σ) sz)) (va_A (xW cA aE ad σ) sz)) 0 0 (va_A (xW cA aE ad σ) sz) := by
  refine Met.ofW (cc := cX3_tellName) (maxL := 6) (ret := none) (by decide +kernel) rfl ?_
  intro p e s m args below meth c s₁ B hml hv
  obtain ⟨rfl, hsz, hP, hK, hD0, hE⟩ := hv
  subst hsz
  have hD := hD0.self (sz := s.heap.size)
  generalize hAe : va_A (xW cA aE ad σ) s.heap.size = A at hD hE ⊢
  have hA : ∀ q : Nat, s.heap.size ≤ q → A q := fun q h => by rw [← hAe]; exact Or.inr h
  have hS : va_S A s.heap s.heap [] := va_S.rf
  have C : xCx p s m _ meth c cX3_tellName 6 none wgX3_tellName RX3 E D cA A := ⟨B.exec, B.bytes, hml, B.returns, findClass_of_methodNamed B.named, atoms_spec (ws := wgX3_tellName) B.pre, hK, hA, B.notSynchronized, hE, vE⟩
  have hG : xG D cA aE ad A s σ s.heap [] := ⟨hP, hD, hS⟩
  have hl := lv_entry ([.ref (ad 3), .long x1, .int x3, .long x4]) (n := 6) (Nat.le_of_ble_eq_true rfl)
  rw [lg_entry_eq]
  generalize (lg_sl ([.ref (ad 3), .long x1, .int x3, .long x4]) ++ List.replicate (6 - (lg_sl ([.ref (ad 3), .long x1, .int x3, .long x4])).length) Slot.unset).toArray = ls at hl ⊢
  have hl : lv_has ls 6 [(0, .ref (ad 3)), (1, .long x1), (3, .int x3), (4, .long x4)] := hl
  exact k_X3_tellName C vM x1 x3 x4 σ _ _ _ hG hl hw
