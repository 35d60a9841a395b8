/-! ===== X3_takeStatement parser ===== -/
def rm_X3_takeStatement : Room := { frames := 5, cells := 0, slots := 0, locals := 112 }
abbrev wgX3_takeStatement : List Cond := .code yX3_takeStatement cX3_takeStatement 2 (some .boolean) :: TB
def wB_X3_takeStatement_175 (post : Int32 → XS → Prop) (t0 : Int32) (σ : XS) : Prop :=
  isB t0 ∧ (post t0 σ)
def wB_X3_takeStatement_174 (post : Int32 → XS → Prop) (σ : XS) : Prop :=
  wB_X3_takeStatement_175 post 0 σ
def wB_X3_takeStatement_142 (post : Int32 → XS → Prop) (t0 : Int32) (σ : XS) : Prop :=
  (t0 = (-1) → (wp_X3_refuse (fun r_12 σ_13 => isB r_12 ∧ (post r_12 σ_13)) σ)) ∧ (¬ t0 = (-1) → (wp_X3_takeWord (fun r_7 σ_8 => (r_7 = 0 → (wB_X3_takeStatement_174 post σ_8)) ∧ (¬ r_7 = 0 → (wp_X3_takeSign (fun r_10 σ_11 => (r_10 = 0 → (wB_X3_takeStatement_174 post σ_11)) ∧ (¬ r_10 = 0 → (wB_X3_takeStatement_175 post 1 σ_11))) 59 σ_8))) t0 σ))
def wB_X3_takeStatement_103 (post : Int32 → XS → Prop) (σ : XS) : Prop :=
  wp_X6_kind (fun r_3 σ_4 => (r_3 = 59 → (wp_X3_takeSign (fun r_17 σ_18 => isB r_17 ∧ (post r_17 σ_18)) 59 σ_4)) ∧ (¬ r_3 = 59 → (wp_X6_kind (fun r_5 σ_6 => (r_5 = 64 → (wp_X3_takeGuard (fun r_15 σ_16 => wB_X3_takeStatement_142 post r_15 σ_16) σ_6)) ∧ (¬ r_5 = 64 → (wB_X3_takeStatement_142 post 0 σ_6))) σ_4))) σ
def wB_X3_takeStatement_30 (post : Int32 → XS → Prop) (k30 : Int32 → XS → Prop) (x1 : Int32) (σ : XS) : Prop :=
  (350 ≤ x1 → (wB_X3_takeStatement_103 post σ)) ∧ (¬ 350 ≤ x1 → (wp_X6_kind (fun r_20 σ_21 => (r_20 = 1 → (wp_X6_follower (fun r_22 σ_23 => (r_22 = 58 → (wp_X6_value (fun r_24 σ_25 => wp_X6_place (fun r_26 σ_27 => wp_X3_tellName (fun σ_29 => wp_X6_advance (fun σ_31 => wp_X6_advance (fun σ_33 => ∀ x1_34 : Int32, x1_34 = x1 + 1 → k30 x1_34 σ_33) σ_31) σ_29) r_24 r_26 ((xI σ_27 1).toInt64) σ_27) σ_25) σ_23)) ∧ (¬ r_22 = 58 → (wB_X3_takeStatement_103 post σ_23))) σ_21)) ∧ (¬ r_20 = 1 → (wB_X3_takeStatement_103 post σ_21))) σ))
def wL_X3_takeStatement_30 (post : Int32 → XS → Prop) : Nat → Int32 → XS → Prop
  | 0 => fun _ _ => False
  | n + 1 => wB_X3_takeStatement_30 post (wL_X3_takeStatement_30 post n)
def wB_X3_takeStatement_28 (post : Int32 → XS → Prop) (σ : XS) : Prop :=
  ∃ n, wL_X3_takeStatement_30 post n 0 σ
def wp_X3_takeStatement (post : Int32 → XS → Prop) (σ : XS) : Prop :=
  wp_X6_kind (fun r_1 σ_2 => (r_1 = 1 → (wp_X6_follower (fun r_35 σ_36 => (r_35 = 61 → (wp_X3_takeConstant (fun r_37 σ_38 => isB r_37 ∧ (post r_37 σ_38)) σ_36)) ∧ (¬ r_35 = 61 → (wB_X3_takeStatement_28 post σ_36))) σ_2)) ∧ (¬ r_1 = 1 → (wB_X3_takeStatement_28 post σ_2))) σ
set_option maxHeartbeats 4000000 in
set_option maxRecDepth 100000 in
theorem kB_X3_takeStatement_175 {p : Program} {l : Launch} {e : Env} {s : State} {m : MethodId} {args : Array Value} {below : List Frame} {meth : Method} {c : Code} {A : Nat → Prop} {E : EnvT} {aK aV : Nat → Nat} {aO : Nat} {D : va_G} {cA : Nat → ClassId} {aE ad : Nat → Nat} (C : xCx p s m args meth c cX3_takeStatement 2 (some .boolean) wgX3_takeStatement RX3 E D cA A) (vM : eXs aK aV aE aO E) {post : Int32 → XS → Prop} :
    ∀ (t0 : Int32) (σ : XS) (H : Heap) (locs : List Loc) (ls : Array Slot), xG D cA aE ad A s σ H locs → lv_has ls 2 [] → wB_X3_takeStatement_175 post t0 σ → W p l e rm_X3_takeStatement s m args below meth c H locs 0 0 (MQ below (va_Qi post (xAt D cA aE ad A) A) args s 0 0 A) (F0 m 175 ls [.int t0]) := by
  obtain ⟨hx, hb, hml, hr, hown, hts, hK, hA, hlk, hE, vE⟩ := id C
  intro t0 σ H locs ls hG hl hw
  obtain ⟨hP, hD, hS⟩ := id hG
  obtain ⟨h_9, hw⟩ := hw
  exact W.zret (v := t0) (ty := .boolean) hx hb hr (isB.n h_9) (fun t ht hW => ⟨⟨_, σ, rfl, hw, by rw [ht]; exact hP, va_K.moved hW.alike hK, hD⟩, hS.F ht⟩) hS.2.2 dX3_takeStatement_175 hlk
set_option maxHeartbeats 4000000 in
set_option maxRecDepth 100000 in
theorem kB_X3_takeStatement_174 {p : Program} {l : Launch} {e : Env} {s : State} {m : MethodId} {args : Array Value} {below : List Frame} {meth : Method} {c : Code} {A : Nat → Prop} {E : EnvT} {aK aV : Nat → Nat} {aO : Nat} {D : va_G} {cA : Nat → ClassId} {aE ad : Nat → Nat} (C : xCx p s m args meth c cX3_takeStatement 2 (some .boolean) wgX3_takeStatement RX3 E D cA A) (vM : eXs aK aV aE aO E) {post : Int32 → XS → Prop} :
    ∀ (σ : XS) (H : Heap) (locs : List Loc) (ls : Array Slot), xG D cA aE ad A s σ H locs → lv_has ls 2 [] → wB_X3_takeStatement_174 post σ → W p l e rm_X3_takeStatement s m args below meth c H locs 0 0 (MQ below (va_Qi post (xAt D cA aE ad A) A) args s 0 0 A) (F0 m 174 ls []) := by
  obtain ⟨hx, hb, hml, hr, hown, hts, hK, hA, hlk, hE, vE⟩ := id C
  intro σ H locs ls hG hl hw
  obtain ⟨hP, hD, hS⟩ := id hG
  refine lv_iconst (v := 0) hx hb dX3_takeStatement_174 (by decide) ?_
  exact kB_X3_takeStatement_175 C vM 0 σ _ _ _ hG (lv_sub hl [] rfl) hw
set_option maxHeartbeats 4000000 in
set_option maxRecDepth 100000 in
theorem kB_X3_takeStatement_142 {p : Program} {l : Launch} {e : Env} {s : State} {m : MethodId} {args : Array Value} {below : List Frame} {meth : Method} {c : Code} {A : Nat → Prop} {E : EnvT} {aK aV : Nat → Nat} {aO : Nat} {D : va_G} {cA : Nat → ClassId} {aE ad : Nat → Nat} (C : xCx p s m args meth c cX3_takeStatement 2 (some .boolean) wgX3_takeStatement RX3 E D cA A) (vM : eXs aK aV aE aO E) {post : Int32 → XS → Prop} :
    ∀ (t0 : Int32) (σ : XS) (H : Heap) (locs : List Loc) (ls : Array Slot), xG D cA aE ad A s σ H locs → lv_has ls 2 [(0, .ref (ad 3))] → wB_X3_takeStatement_142 post t0 σ → W p l e rm_X3_takeStatement s m args below meth c H locs 0 0 (MQ below (va_Qi post (xAt D cA aE ad A) A) args s 0 0 A) (F0 m 142 ls [.int t0]) := by
  obtain ⟨hx, hb, hml, hr, hown, hts, hK, hA, hlk, hE, vE⟩ := id C
  intro t0 σ H locs ls hG hl hw
  obtain ⟨hP, hD, hS⟩ := id hG
  refine lv_istore_n (lv' := [(1, .int t0), (0, .ref (ad 3))]) hx hb dX3_takeStatement_142 rfl hl (by decide) rfl (fun ls hl => ?_)
  refine lv_iload_n hx hb dX3_takeStatement_143 rfl (lv_at hl 0 rfl) ?_
  refine lv_iconst (v := (-1)) hx hb dX3_takeStatement_144 (by decide) ?_
  refine lv_icmp_ne (tgt := 153) hx hb dX3_takeStatement_145 (by decide) (fun q_ => ?_) (fun q_ => ?_)
  · have hw := hw.2 q_
    refine lv_aload_n hx hb dX3_takeStatement_153 rfl (lv_at hl 1 rfl) ?_
    refine lv_iload_n hx hb dX3_takeStatement_154 rfl (lv_at hl 0 rfl) ?_
    refine xV_i (As := [.int t0]) (rest := []) C (met_X3_takeWord vE vM hw) (va_recv hK hP (ci := 5) (q0 := 3) rfl rfl) (cwV 1 hts (TB_G (TB_4 tw_5_30 tw_5_32 ts_23 tw_1_3) tw_5_33) rfl rfl rfl (by decide +kernel) ⟨by decide, by decide⟩) hP hD hS rfl hl.1 rfl (Nat.le_of_ble_eq_true rfl) dX3_takeStatement_155 ⟨by decide, by decide⟩ (fun r_7 σ_8 H locs hw hP hD hS => ?_)
    have hG : xG D cA aE ad A s σ_8 H locs := ⟨hP, hD, hS⟩
    refine lv_if_eq (tgt := 174) hx hb dX3_takeStatement_158 (by decide) (fun q_ => ?_) (fun q_ => ?_)
    · have hw := hw.1 q_
      exact kB_X3_takeStatement_174 C vM  σ_8 _ _ _ hG (lv_sub hl [] rfl) hw
    · have hw := hw.2 q_
      refine lv_aload_n hx hb dX3_takeStatement_161 rfl (lv_at hl 1 rfl) ?_
      refine lv_bipush (v := 59) hx hb dX3_takeStatement_162 (by decide) ?_
      refine xV_i (As := [.int 59]) (rest := []) C (met_X3_takeSign vE vM hw) (va_recv hK hP (ci := 5) (q0 := 3) rfl rfl) (cwV 1 hts (TB_G (TB_4 tw_5_13 tw_5_15 ts_21 tw_1_3) tw_5_16) rfl rfl rfl (by decide +kernel) ⟨by decide, by decide⟩) hP hD hS rfl hl.1 rfl (Nat.le_of_ble_eq_true rfl) dX3_takeStatement_164 ⟨by decide, by decide⟩ (fun r_10 σ_11 H locs hw hP hD hS => ?_)
      have hG : xG D cA aE ad A s σ_11 H locs := ⟨hP, hD, hS⟩
      refine lv_if_eq (tgt := 174) hx hb dX3_takeStatement_167 (by decide) (fun q_ => ?_) (fun q_ => ?_)
      · have hw := hw.1 q_
        exact kB_X3_takeStatement_174 C vM  σ_11 _ _ _ hG (lv_sub hl [] rfl) hw
      · have hw := hw.2 q_
        refine lv_iconst (v := 1) hx hb dX3_takeStatement_170 (by decide) ?_
        refine lv_goto (tgt := 175) hx hb dX3_takeStatement_171 (by decide) ?_
        exact kB_X3_takeStatement_175 C vM 1 σ_11 _ _ _ hG (lv_sub hl [] rfl) hw
  · have hw := hw.1 q_
    refine lv_aload_n hx hb dX3_takeStatement_148 rfl (lv_at hl 1 rfl) ?_
    refine xV_i (As := []) (rest := []) C (met_X3_refuse vE vM hw) (va_recv hK hP (ci := 5) (q0 := 3) rfl rfl) (cwV 0 hts (TB_G (TB_4 tw_4_217 tw_4_219 ts_16 tw_1_3) tw_4_220) rfl rfl rfl (by decide +kernel) ⟨by decide, by decide⟩) hP hD hS rfl hl.1 rfl (Nat.le_of_ble_eq_true rfl) dX3_takeStatement_149 ⟨by decide, by decide⟩ (fun r_12 σ_13 H locs hw hP hD hS => ?_)
    have hG : xG D cA aE ad A s σ_13 H locs := ⟨hP, hD, hS⟩
    obtain ⟨h_14, hw⟩ := hw
    exact W.zret (v := r_12) (ty := .boolean) hx hb hr (isB.n h_14) (fun t ht hW => ⟨⟨_, σ_13, rfl, hw, by rw [ht]; exact hP, va_K.moved hW.alike hK, hD⟩, hS.F ht⟩) hS.2.2 dX3_takeStatement_152 hlk
set_option maxHeartbeats 4000000 in
set_option maxRecDepth 100000 in
theorem kB_X3_takeStatement_103 {p : Program} {l : Launch} {e : Env} {s : State} {m : MethodId} {args : Array Value} {below : List Frame} {meth : Method} {c : Code} {A : Nat → Prop} {E : EnvT} {aK aV : Nat → Nat} {aO : Nat} {D : va_G} {cA : Nat → ClassId} {aE ad : Nat → Nat} (C : xCx p s m args meth c cX3_takeStatement 2 (some .boolean) wgX3_takeStatement RX3 E D cA A) (vM : eXs aK aV aE aO E) {post : Int32 → XS → Prop} :
    ∀ (σ : XS) (H : Heap) (locs : List Loc) (ls : Array Slot), xG D cA aE ad A s σ H locs → lv_has ls 2 [(0, .ref (ad 3))] → wB_X3_takeStatement_103 post σ → W p l e rm_X3_takeStatement s m args below meth c H locs 0 0 (MQ below (va_Qi post (xAt D cA aE ad A) A) args s 0 0 A) (F0 m 103 ls []) := by
  obtain ⟨hx, hb, hml, hr, hown, hts, hK, hA, hlk, hE, vE⟩ := id C
  intro σ H locs ls hG hl hw
  obtain ⟨hP, hD, hS⟩ := id hG
  refine lv_aload_n hx hb dX3_takeStatement_103 rfl (lv_at hl 0 rfl) ?_
  refine va_get (D := D) (ci := 5) (v := .ref (ad 4)) (C := RX3) (T := TX3) (N := 8) hx hb hts (in_tb inX3) hown hK hP 3 rfl rfl 0 (by decide) (hts _ (List.mem_cons_of_mem _ tw_1_110)) (fun _ h9 => h9) rfl dX3_takeStatement_104 ?_
  refine xV_i (As := []) (rest := []) C (met_X6_kind vE vM hw) (va_recv hK hP (ci := 8) (q0 := 4) rfl rfl) (cwV 0 hts (TB_G (TB_4 tw_4_181 tw_4_182 tw_4_183 tw_1_5) tw_4_184) rfl rfl rfl (by decide +kernel) ⟨by decide, by decide⟩) hP hD hS rfl hl.1 rfl (Nat.le_of_ble_eq_true rfl) dX3_takeStatement_107 ⟨by decide, by decide⟩ (fun r_3 σ_4 H locs hw hP hD hS => ?_)
  have hG : xG D cA aE ad A s σ_4 H locs := ⟨hP, hD, hS⟩
  refine lv_bipush (v := 59) hx hb dX3_takeStatement_110 (by decide) ?_
  refine lv_icmp_ne (tgt := 122) hx hb dX3_takeStatement_112 (by decide) (fun q_ => ?_) (fun q_ => ?_)
  · have hw := hw.2 q_
    refine lv_aload_n hx hb dX3_takeStatement_122 rfl (lv_at hl 0 rfl) ?_
    refine va_get (D := D) (ci := 5) (v := .ref (ad 4)) (C := RX3) (T := TX3) (N := 8) hx hb hts (in_tb inX3) hown hK hP 3 rfl rfl 0 (by decide) (hts _ (List.mem_cons_of_mem _ tw_1_110)) (fun _ h9 => h9) rfl dX3_takeStatement_123 ?_
    refine xV_i (As := []) (rest := []) C (met_X6_kind vE vM hw) (va_recv hK hP (ci := 8) (q0 := 4) rfl rfl) (cwV 0 hts (TB_G (TB_4 tw_4_181 tw_4_182 tw_4_183 tw_1_5) tw_4_184) rfl rfl rfl (by decide +kernel) ⟨by decide, by decide⟩) hP hD hS rfl hl.1 rfl (Nat.le_of_ble_eq_true rfl) dX3_takeStatement_126 ⟨by decide, by decide⟩ (fun r_5 σ_6 H locs hw hP hD hS => ?_)
    have hG : xG D cA aE ad A s σ_6 H locs := ⟨hP, hD, hS⟩
    refine lv_bipush (v := 64) hx hb dX3_takeStatement_129 (by decide) ?_
    refine lv_icmp_ne (tgt := 141) hx hb dX3_takeStatement_131 (by decide) (fun q_ => ?_) (fun q_ => ?_)
    · have hw := hw.2 q_
      refine lv_iconst (v := 0) hx hb dX3_takeStatement_141 (by decide) ?_
      exact kB_X3_takeStatement_142 C vM 0 σ_6 _ _ _ hG (lv_sub hl [0] rfl) hw
    · have hw := hw.1 q_
      refine lv_aload_n hx hb dX3_takeStatement_134 rfl (lv_at hl 0 rfl) ?_
      refine xV_i (As := []) (rest := []) C (met_X3_takeGuard vE vM hw) (va_recv hK hP (ci := 5) (q0 := 3) rfl rfl) (cwV 0 hts (TB_G (TB_4 tw_5_17 tw_5_19 ts_22 tw_1_3) tw_5_20) rfl rfl rfl (by decide +kernel) ⟨by decide, by decide⟩) hP hD hS rfl hl.1 rfl (Nat.le_of_ble_eq_true rfl) dX3_takeStatement_135 ⟨by decide, by decide⟩ (fun r_15 σ_16 H locs hw hP hD hS => ?_)
      have hG : xG D cA aE ad A s σ_16 H locs := ⟨hP, hD, hS⟩
      refine lv_goto (tgt := 142) hx hb dX3_takeStatement_138 (by decide) ?_
      exact kB_X3_takeStatement_142 C vM r_15 σ_16 _ _ _ hG (lv_sub hl [0] rfl) hw
  · have hw := hw.1 q_
    refine lv_aload_n hx hb dX3_takeStatement_115 rfl (lv_at hl 0 rfl) ?_
    refine lv_bipush (v := 59) hx hb dX3_takeStatement_116 (by decide) ?_
    refine xV_i (As := [.int 59]) (rest := []) C (met_X3_takeSign vE vM hw) (va_recv hK hP (ci := 5) (q0 := 3) rfl rfl) (cwV 1 hts (TB_G (TB_4 tw_5_13 tw_5_15 ts_21 tw_1_3) tw_5_16) rfl rfl rfl (by decide +kernel) ⟨by decide, by decide⟩) hP hD hS rfl hl.1 rfl (Nat.le_of_ble_eq_true rfl) dX3_takeStatement_118 ⟨by decide, by decide⟩ (fun r_17 σ_18 H locs hw hP hD hS => ?_)
    have hG : xG D cA aE ad A s σ_18 H locs := ⟨hP, hD, hS⟩
    obtain ⟨h_19, hw⟩ := hw
    exact W.zret (v := r_17) (ty := .boolean) hx hb hr (isB.n h_19) (fun t ht hW => ⟨⟨_, σ_18, rfl, hw, by rw [ht]; exact hP, va_K.moved hW.alike hK, hD⟩, hS.F ht⟩) hS.2.2 dX3_takeStatement_121 hlk
set_option maxHeartbeats 4000000 in
set_option maxRecDepth 100000 in
theorem kB_X3_takeStatement_30 {p : Program} {l : Launch} {e : Env} {s : State} {m : MethodId} {args : Array Value} {below : List Frame} {meth : Method} {c : Code} {A : Nat → Prop} {E : EnvT} {aK aV : Nat → Nat} {aO : Nat} {D : va_G} {cA : Nat → ClassId} {aE ad : Nat → Nat} (C : xCx p s m args meth c cX3_takeStatement 2 (some .boolean) wgX3_takeStatement RX3 E D cA A) (vM : eXs aK aV aE aO E) {post : Int32 → XS → Prop}
    {k30 : Int32 → XS → Prop} (hk30 : ∀ (x1 : Int32) (σ : XS) (H : Heap) (locs : List Loc) (ls : Array Slot), xG D cA aE ad A s σ H locs → lv_has ls 2 [(0, .ref (ad 3)), (1, .int x1)] → k30 x1 σ → W p l e rm_X3_takeStatement s m args below meth c H locs 0 0 (MQ below (va_Qi post (xAt D cA aE ad A) A) args s 0 0 A) (F0 m 30 ls [])) :
    ∀ (x1 : Int32) (σ : XS) (H : Heap) (locs : List Loc) (ls : Array Slot), xG D cA aE ad A s σ H locs → lv_has ls 2 [(0, .ref (ad 3)), (1, .int x1)] → wB_X3_takeStatement_30 post k30 x1 σ → W p l e rm_X3_takeStatement s m args below meth c H locs 0 0 (MQ below (va_Qi post (xAt D cA aE ad A) A) args s 0 0 A) (F0 m 30 ls []) := by
  obtain ⟨hx, hb, hml, hr, hown, hts, hK, hA, hlk, hE, vE⟩ := id C
  intro x1 σ H locs ls hG hl hw
  obtain ⟨hP, hD, hS⟩ := id hG
  refine lv_iload_n hx hb dX3_takeStatement_30 rfl (lv_at hl 1 rfl) ?_
  refine lv_sipush (v := 350) hx hb dX3_takeStatement_31 (by decide) ?_
  refine lv_icmp_ge (tgt := 103) hx hb dX3_takeStatement_34 (by decide) (fun q_ => ?_) (fun q_ => ?_)
  · have hw := hw.1 q_
    exact kB_X3_takeStatement_103 C vM  σ _ _ _ hG (lv_sub hl [0] rfl) hw
  · have hw := hw.2 q_
    refine lv_aload_n hx hb dX3_takeStatement_37 rfl (lv_at hl 0 rfl) ?_
    refine va_get (D := D) (ci := 5) (v := .ref (ad 4)) (C := RX3) (T := TX3) (N := 8) hx hb hts (in_tb inX3) hown hK hP 3 rfl rfl 0 (by decide) (hts _ (List.mem_cons_of_mem _ tw_1_110)) (fun _ h9 => h9) rfl dX3_takeStatement_38 ?_
    refine xV_i (As := []) (rest := []) C (met_X6_kind vE vM hw) (va_recv hK hP (ci := 8) (q0 := 4) rfl rfl) (cwV 0 hts (TB_G (TB_4 tw_4_181 tw_4_182 tw_4_183 tw_1_5) tw_4_184) rfl rfl rfl (by decide +kernel) ⟨by decide, by decide⟩) hP hD hS rfl hl.1 rfl (Nat.le_of_ble_eq_true rfl) dX3_takeStatement_41 ⟨by decide, by decide⟩ (fun r_20 σ_21 H locs hw hP hD hS => ?_)
    have hG : xG D cA aE ad A s σ_21 H locs := ⟨hP, hD, hS⟩
    refine lv_iconst (v := 1) hx hb dX3_takeStatement_44 (by decide) ?_
    refine lv_icmp_ne (tgt := 103) hx hb dX3_takeStatement_45 (by decide) (fun q_ => ?_) (fun q_ => ?_)
    · have hw := hw.2 q_
      exact kB_X3_takeStatement_103 C vM  σ_21 _ _ _ hG (lv_sub hl [0] rfl) hw
    · have hw := hw.1 q_
      refine lv_aload_n hx hb dX3_takeStatement_48 rfl (lv_at hl 0 rfl) ?_
      refine va_get (D := D) (ci := 5) (v := .ref (ad 4)) (C := RX3) (T := TX3) (N := 8) hx hb hts (in_tb inX3) hown hK hP 3 rfl rfl 0 (by decide) (hts _ (List.mem_cons_of_mem _ tw_1_110)) (fun _ h9 => h9) rfl dX3_takeStatement_49 ?_
      refine xV_i (As := []) (rest := []) C (met_X6_follower vE vM hw) (va_recv hK hP (ci := 8) (q0 := 4) rfl rfl) (cwV 0 hts (TB_G (TB_4 tw_4_189 tw_4_190 tw_4_191 tw_1_5) tw_4_192) rfl rfl rfl (by decide +kernel) ⟨by decide, by decide⟩) hP hD hS rfl hl.1 rfl (Nat.le_of_ble_eq_true rfl) dX3_takeStatement_52 ⟨by decide, by decide⟩ (fun r_22 σ_23 H locs hw hP hD hS => ?_)
      have hG : xG D cA aE ad A s σ_23 H locs := ⟨hP, hD, hS⟩
      refine lv_bipush (v := 58) hx hb dX3_takeStatement_55 (by decide) ?_
      refine lv_icmp_ne (tgt := 103) hx hb dX3_takeStatement_57 (by decide) (fun q_ => ?_) (fun q_ => ?_)
      · have hw := hw.2 q_
        exact kB_X3_takeStatement_103 C vM  σ_23 _ _ _ hG (lv_sub hl [0] rfl) hw
      · have hw := hw.1 q_
        refine lv_aload_n hx hb dX3_takeStatement_60 rfl (lv_at hl 0 rfl) ?_
        refine lv_aload_n hx hb dX3_takeStatement_61 rfl (lv_at hl 0 rfl) ?_
        refine va_get (D := D) (ci := 5) (v := .ref (ad 4)) (C := RX3) (T := TX3) (N := 8) hx hb hts (in_tb inX3) hown hK hP 3 rfl rfl 0 (by decide) (hts _ (List.mem_cons_of_mem _ tw_1_110)) (fun _ h9 => h9) rfl dX3_takeStatement_62 ?_
        refine xV_l (As := []) (rest := [.ref (ad 3)]) C (met_X6_value vE vM hw) (va_recv hK hP (ci := 8) (q0 := 4) rfl rfl) (cwV 0 hts (TB_G (TB_4 tw_4_197 tw_4_198 tw_4_199 tw_1_5) tw_4_200) rfl rfl rfl (by decide +kernel) ⟨by decide, by decide⟩) hP hD hS rfl hl.1 rfl (Nat.le_of_ble_eq_true rfl) dX3_takeStatement_65 ⟨by decide, by decide⟩ (fun r_24 σ_25 H locs hw hP hD hS => ?_)
        have hG : xG D cA aE ad A s σ_25 H locs := ⟨hP, hD, hS⟩
        refine lv_aload_n hx hb dX3_takeStatement_68 rfl (lv_at hl 0 rfl) ?_
        refine va_get (D := D) (ci := 5) (v := .ref (ad 4)) (C := RX3) (T := TX3) (N := 8) hx hb hts (in_tb inX3) hown hK hP 3 rfl rfl 0 (by decide) (hts _ (List.mem_cons_of_mem _ tw_1_110)) (fun _ h9 => h9) rfl dX3_takeStatement_69 ?_
        refine xV_i (As := []) (rest := [.long r_24, .ref (ad 3)]) C (met_X6_place vE vM hw) (va_recv hK hP (ci := 8) (q0 := 4) rfl rfl) (cwV 0 hts (TB_G (TB_4 tw_4_201 tw_4_202 tw_4_203 tw_1_5) tw_4_204) rfl rfl rfl (by decide +kernel) ⟨by decide, by decide⟩) hP hD hS rfl hl.1 rfl (Nat.le_of_ble_eq_true rfl) dX3_takeStatement_72 ⟨by decide, by decide⟩ (fun r_26 σ_27 H locs hw hP hD hS => ?_)
        have hG : xG D cA aE ad A s σ_27 H locs := ⟨hP, hD, hS⟩
        refine lv_aload_n hx hb dX3_takeStatement_75 rfl (lv_at hl 0 rfl) ?_
        refine va_get (D := D) (ci := 5) (v := .int (xI σ_27 1)) (C := RX3) (T := TX3) (N := 8) hx hb hts (in_tb inX3) hown hK hP 3 rfl rfl 5 (by decide) (hts _ (List.mem_cons_of_mem _ tw_1_117)) (fun _ h9 => h9) rfl dX3_takeStatement_76 ?_
        refine lv_i2l hx hb dX3_takeStatement_79 rfl ?_
        refine xV_v (As := [.long r_24, .int r_26, .long ((xI σ_27 1).toInt64)]) (rest := []) C (met_X3_tellName vE vM hw) (va_recv hK hP (ci := 5) (q0 := 3) rfl rfl) (cwV 3 hts (TB_G (TB_4 tw_5_4 tw_5_6 ts_20 tw_1_3) tw_5_7) rfl rfl rfl (by decide +kernel) ⟨by decide, by decide⟩) hP hD hS rfl hl.1 rfl (Nat.le_of_ble_eq_true rfl) dX3_takeStatement_80 ⟨by decide, by decide⟩ (fun σ_29 H locs hw hP hD hS => ?_)
        have hG : xG D cA aE ad A s σ_29 H locs := ⟨hP, hD, hS⟩
        refine lv_aload_n hx hb dX3_takeStatement_83 rfl (lv_at hl 0 rfl) ?_
        refine va_get (D := D) (ci := 5) (v := .ref (ad 4)) (C := RX3) (T := TX3) (N := 8) hx hb hts (in_tb inX3) hown hK hP 3 rfl rfl 0 (by decide) (hts _ (List.mem_cons_of_mem _ tw_1_110)) (fun _ h9 => h9) rfl dX3_takeStatement_84 ?_
        refine xV_v (As := []) (rest := []) C (met_X6_advance vE vM hw) (va_recv hK hP (ci := 8) (q0 := 4) rfl rfl) (cwV 0 hts (TB_G (TB_4 tw_4_205 tw_4_206 tw_4_207 tw_1_5) tw_4_208) rfl rfl rfl (by decide +kernel) ⟨by decide, by decide⟩) hP hD hS rfl hl.1 rfl (Nat.le_of_ble_eq_true rfl) dX3_takeStatement_87 ⟨by decide, by decide⟩ (fun σ_31 H locs hw hP hD hS => ?_)
        have hG : xG D cA aE ad A s σ_31 H locs := ⟨hP, hD, hS⟩
        refine lv_aload_n hx hb dX3_takeStatement_90 rfl (lv_at hl 0 rfl) ?_
        refine va_get (D := D) (ci := 5) (v := .ref (ad 4)) (C := RX3) (T := TX3) (N := 8) hx hb hts (in_tb inX3) hown hK hP 3 rfl rfl 0 (by decide) (hts _ (List.mem_cons_of_mem _ tw_1_110)) (fun _ h9 => h9) rfl dX3_takeStatement_91 ?_
        refine xV_v (As := []) (rest := []) C (met_X6_advance vE vM hw) (va_recv hK hP (ci := 8) (q0 := 4) rfl rfl) (cwV 0 hts (TB_G (TB_4 tw_4_205 tw_4_206 tw_4_207 tw_1_5) tw_4_208) rfl rfl rfl (by decide +kernel) ⟨by decide, by decide⟩) hP hD hS rfl hl.1 rfl (Nat.le_of_ble_eq_true rfl) dX3_takeStatement_94 ⟨by decide, by decide⟩ (fun σ_33 H locs hw hP hD hS => ?_)
        have hG : xG D cA aE ad A s σ_33 H locs := ⟨hP, hD, hS⟩
        obtain ⟨x1_34, ex1_34⟩ : ∃ y : Int32, y = x1 + 1 := ⟨_, rfl⟩
        have hw := hw x1_34 ex1_34
        refine lv_iinc (v := x1_34) (lv' := [(1, .int x1_34), (0, .ref (ad 3))]) hx hb dX3_takeStatement_97 hl (k := 1) rfl (by rw [ex1_34]; rfl) (by decide) rfl (fun ls hl => ?_)
        refine lv_goto (tgt := 30) hx hb dX3_takeStatement_100 (by decide) ?_
        exact hk30 x1_34 σ_33 _ _ _ hG (lv_sub hl [1, 0] rfl) hw
theorem kL_X3_takeStatement_30 {p : Program} {l : Launch} {e : Env} {s : State} {m : MethodId} {args : Array Value} {below : List Frame} {meth : Method} {c : Code} {A : Nat → Prop} {E : EnvT} {aK aV : Nat → Nat} {aO : Nat} {D : va_G} {cA : Nat → ClassId} {aE ad : Nat → Nat} (C : xCx p s m args meth c cX3_takeStatement 2 (some .boolean) wgX3_takeStatement RX3 E D cA A) (vM : eXs aK aV aE aO E) {post : Int32 → XS → Prop} :
    ∀ (n : Nat) (x1 : Int32) (σ : XS) (H : Heap) (locs : List Loc) (ls : Array Slot), xG D cA aE ad A s σ H locs → lv_has ls 2 [(0, .ref (ad 3)), (1, .int x1)] → wL_X3_takeStatement_30 post n x1 σ → W p l e rm_X3_takeStatement s m args below meth c H locs 0 0 (MQ below (va_Qi post (xAt D cA aE ad A) A) args s 0 0 A) (F0 m 30 ls []) := by
  intro n
  induction n with
  | zero => intro x1 σ H locs ls hG hl hw; exact hw.elim
  | succ n ih => exact kB_X3_takeStatement_30 C vM ih
set_option maxHeartbeats 4000000 in
set_option maxRecDepth 100000 in
theorem kB_X3_takeStatement_28 {p : Program} {l : Launch} {e : Env} {s : State} {m : MethodId} {args : Array Value} {below : List Frame} {meth : Method} {c : Code} {A : Nat → Prop} {E : EnvT} {aK aV : Nat → Nat} {aO : Nat} {D : va_G} {cA : Nat → ClassId} {aE ad : Nat → Nat} (C : xCx p s m args meth c cX3_takeStatement 2 (some .boolean) wgX3_takeStatement RX3 E D cA A) (vM : eXs aK aV aE aO E) {post : Int32 → XS → Prop} :
    ∀ (σ : XS) (H : Heap) (locs : List Loc) (ls : Array Slot), xG D cA aE ad A s σ H locs → lv_has ls 2 [(0, .ref (ad 3))] → wB_X3_takeStatement_28 post σ → W p l e rm_X3_takeStatement s m args below meth c H locs 0 0 (MQ below (va_Qi post (xAt D cA aE ad A) A) args s 0 0 A) (F0 m 28 ls []) := by
  obtain ⟨hx, hb, hml, hr, hown, hts, hK, hA, hlk, hE, vE⟩ := id C
  intro σ H locs ls hG hl hw
  obtain ⟨hP, hD, hS⟩ := id hG
  refine lv_iconst (v := 0) hx hb dX3_takeStatement_28 (by decide) ?_
  refine lv_istore_n (lv' := [(1, .int 0), (0, .ref (ad 3))]) hx hb dX3_takeStatement_29 rfl hl (by decide) rfl (fun ls hl => ?_)
  obtain ⟨n_, hw⟩ := hw
  exact kL_X3_takeStatement_30 C vM n_ 0 σ _ _ _ hG (lv_sub hl [1, 0] rfl) hw
set_option maxHeartbeats 4000000 in
set_option maxRecDepth 100000 in
theorem k_X3_takeStatement {p : Program} {l : Launch} {e : Env} {s : State} {m : MethodId} {args : Array Value} {below : List Frame} {meth : Method} {c : Code} {A : Nat → Prop} {E : EnvT} {aK aV : Nat → Nat} {aO : Nat} {D : va_G} {cA : Nat → ClassId} {aE ad : Nat → Nat} (C : xCx p s m args meth c cX3_takeStatement 2 (some .boolean) wgX3_takeStatement RX3 E D cA A) (vM : eXs aK aV aE aO E) {post : Int32 → XS → Prop} :
    ∀ (σ : XS) (H : Heap) (locs : List Loc) (ls : Array Slot), xG D cA aE ad A s σ H locs → lv_has ls 2 [(0, .ref (ad 3))] → wp_X3_takeStatement post σ → W p l e rm_X3_takeStatement s m args below meth c H locs 0 0 (MQ below (va_Qi post (xAt D cA aE ad A) A) args s 0 0 A) (F0 m 0 ls []) := by
  obtain ⟨hx, hb, hml, hr, hown, hts, hK, hA, hlk, hE, vE⟩ := id C
  intro σ H locs ls hG hl hw
  obtain ⟨hP, hD, hS⟩ := id hG
  refine lv_aload_n hx hb dX3_takeStatement_0 rfl (lv_at hl 0 rfl) ?_
  refine va_get (D := D) (ci := 5) (v := .ref (ad 4)) (C := RX3) (T := TX3) (N := 8) hx hb hts (in_tb inX3) hown hK hP 3 rfl rfl 0 (by decide) (hts _ (List.mem_cons_of_mem _ tw_1_110)) (fun _ h9 => h9) rfl dX3_takeStatement_1 ?_
  refine xV_i (As := []) (rest := []) C (met_X6_kind vE vM hw) (va_recv hK hP (ci := 8) (q0 := 4) rfl rfl) (cwV 0 hts (TB_G (TB_4 tw_4_181 tw_4_182 tw_4_183 tw_1_5) tw_4_184) rfl rfl rfl (by decide +kernel) ⟨by decide, by decide⟩) hP hD hS rfl hl.1 rfl (Nat.le_of_ble_eq_true rfl) dX3_takeStatement_4 ⟨by decide, by decide⟩ (fun r_1 σ_2 H locs hw hP hD hS => ?_)
  have hG : xG D cA aE ad A s σ_2 H locs := ⟨hP, hD, hS⟩
  refine lv_iconst (v := 1) hx hb dX3_takeStatement_7 (by decide) ?_
  refine lv_icmp_ne (tgt := 28) hx hb dX3_takeStatement_8 (by decide) (fun q_ => ?_) (fun q_ => ?_)
  · have hw := hw.2 q_
    exact kB_X3_takeStatement_28 C vM  σ_2 _ _ _ hG (lv_sub hl [0] rfl) hw
  · have hw := hw.1 q_
    refine lv_aload_n hx hb dX3_takeStatement_11 rfl (lv_at hl 0 rfl) ?_
    refine va_get (D := D) (ci := 5) (v := .ref (ad 4)) (C := RX3) (T := TX3) (N := 8) hx hb hts (in_tb inX3) hown hK hP 3 rfl rfl 0 (by decide) (hts _ (List.mem_cons_of_mem _ tw_1_110)) (fun _ h9 => h9) rfl dX3_takeStatement_12 ?_
    refine xV_i (As := []) (rest := []) C (met_X6_follower vE vM hw) (va_recv hK hP (ci := 8) (q0 := 4) rfl rfl) (cwV 0 hts (TB_G (TB_4 tw_4_189 tw_4_190 tw_4_191 tw_1_5) tw_4_192) rfl rfl rfl (by decide +kernel) ⟨by decide, by decide⟩) hP hD hS rfl hl.1 rfl (Nat.le_of_ble_eq_true rfl) dX3_takeStatement_15 ⟨by decide, by decide⟩ (fun r_35 σ_36 H locs hw hP hD hS => ?_)
    have hG : xG D cA aE ad A s σ_36 H locs := ⟨hP, hD, hS⟩
    refine lv_bipush (v := 61) hx hb dX3_takeStatement_18 (by decide) ?_
    refine lv_icmp_ne (tgt := 28) hx hb dX3_takeStatement_20 (by decide) (fun q_ => ?_) (fun q_ => ?_)
    · have hw := hw.2 q_
      exact kB_X3_takeStatement_28 C vM  σ_36 _ _ _ hG (lv_sub hl [0] rfl) hw
    · have hw := hw.1 q_
      refine lv_aload_n hx hb dX3_takeStatement_23 rfl (lv_at hl 0 rfl) ?_
      refine xV_i (As := []) (rest := []) C (met_X3_takeConstant vE vM hw) (va_recv hK hP (ci := 5) (q0 := 3) rfl rfl) (cwV 0 hts (TB_G (TB_4 tw_4_193 tw_4_195 ts_14 tw_1_3) tw_4_196) rfl rfl rfl (by decide +kernel) ⟨by decide, by decide⟩) hP hD hS rfl hl.1 rfl (Nat.le_of_ble_eq_true rfl) dX3_takeStatement_24 ⟨by decide, by decide⟩ (fun r_37 σ_38 H locs hw hP hD hS => ?_)
      have hG : xG D cA aE ad A s σ_38 H locs := ⟨hP, hD, hS⟩
      obtain ⟨h_39, hw⟩ := hw
      exact W.zret (v := r_37) (ty := .boolean) hx hb hr (isB.n h_39) (fun t ht hW => ⟨⟨_, σ_38, rfl, hw, by rw [ht]; exact hP, va_K.moved hW.alike hK, hD⟩, hS.F ht⟩) hS.2.2 dX3_takeStatement_27 hlk
set_option maxHeartbeats 4000000 in
set_option maxRecDepth 100000 in
theorem met_X3_takeStatement {l : Launch} {E : EnvT} (vE : EnvOk E) {D : va_G} {cA : Nat → ClassId} {aE ad : Nat → Nat} {σ : XS} {aK aV : Nat → Nat} {aO : Nat} (vM : eXs aK aV aE aO E) {sz : Nat} {post : Int32 → XS → Prop} (hw : wp_X3_takeStatement post σ) : Met l yX3_takeStatement wgX3_takeStatement rm_X3_takeStatement (va_Pc [.ref (ad 3)] (xPre E D cA aE ad sz σ)) (va_Qi post (xAt D cA aE ad (va_A (xW cA aE ad σ) sz)) (va_A (xW cA aE ad σ) sz)) 0 0 (va_A (xW cA aE ad σ) sz) := by
  refine Met.ofW (cc := cX3_takeStatement) (maxL := 2) (ret := (some .boolean)) (by decide +kernel) rfl ?_
  intro p e s m args below meth c s₁ B hml hv
  obtain ⟨rfl, hsz, hP, hK, hD0, hE⟩ := hv
  subst hsz
  have hD := hD0.self (sz := s.heap.size)
  generalize hAe : va_A (xW cA aE ad σ) s.heap.size = A at hD hE ⊢
  have hA : ∀ q : Nat, s.heap.size ≤ q → A q := fun q h => by rw [← hAe]; exact Or.inr h
  have hS : va_S A s.heap s.heap [] := va_S.rf
  have C : xCx p s m _ meth c cX3_takeStatement 2 (some .boolean) wgX3_takeStatement RX3 E D cA A := ⟨B.exec, B.bytes, hml, B.returns, findClass_of_methodNamed B.named, atoms_spec (ws := wgX3_takeStatement) B.pre, hK, hA, B.notSynchronized, hE, vE⟩
  have hG : xG D cA aE ad A s σ s.heap [] := ⟨hP, hD, hS⟩
  have hl := lv_entry ([.ref (ad 3)]) (n := 2) (Nat.le_of_ble_eq_true rfl)
  rw [lg_entry_eq]
  generalize (lg_sl ([.ref (ad 3)]) ++ List.replicate (2 - (lg_sl ([.ref (ad 3)])).length) Slot.unset).toArray = ls at hl ⊢
  have hl : lv_has ls 2 [(0, .ref (ad 3))] := hl
  exact k_X3_takeStatement C vM σ _ _ _ hG hl hw
/-! ===== X3_parse parser ===== -/
def rm_X3_parse : Room := { frames := 6, cells := 0, slots := 0, locals := 133 }
abbrev wgX3_parse : List Cond := .code yX3_parse cX3_parse 3 (some .boolean) :: TB
def wB_X3_parse_86 (post : Int32 → XS → Prop) (t0 : Int32) (σ : XS) : Prop :=
  isB t0 ∧ (post t0 σ)
def wB_X3_parse_74 (post : Int32 → XS → Prop) (σ : XS) : Prop :=
  ((xI σ 2) = 0 → (wB_X3_parse_86 post 1 σ)) ∧ (¬ (xI σ 2) = 0 → (wB_X3_parse_86 post 0 σ))
def wB_X3_parse_66 (post : Int32 → XS → Prop) (x1 : Int32) (σ : XS) : Prop :=
  (x1 = 0 → (wB_X3_parse_74 post σ)) ∧ (¬ x1 = 0 → (wp_X3_fillAmounts (fun σ_5 => wB_X3_parse_74 post σ_5) σ))
def wB_X3_parse_34 (post : Int32 → XS → Prop) (k34 : Int32 → Int32 → XS → Prop) (x1 : Int32) (x2 : Int32) (σ : XS) : Prop :=
  (700 ≤ x2 → (wB_X3_parse_66 post x1 σ)) ∧ (¬ 700 ≤ x2 → ((x1 = 0 → (wB_X3_parse_66 post x1 σ)) ∧ (¬ x1 = 0 → (wp_X6_kind (fun r_6 σ_7 => (r_6 = 0 → (wB_X3_parse_66 post x1 σ_7)) ∧ (¬ r_6 = 0 → (wp_X3_takeStatement (fun r_8 σ_9 => ∀ x2_10 : Int32, x2_10 = x2 + 1 → k34 r_8 x2_10 σ_9) σ_7))) σ))))
def wL_X3_parse_34 (post : Int32 → XS → Prop) : Nat → Int32 → Int32 → XS → Prop
  | 0 => fun _ _ _ => False
  | n + 1 => wB_X3_parse_34 post (wL_X3_parse_34 post n)
def wp_X3_parse (post : Int32 → XS → Prop) (σ : XS) : Prop :=
  wp_X6_scan (fun σ_2 => ∃ n, wL_X3_parse_34 post n 1 0 σ_2) (yI (yI (yI (yI σ 1 0) 6 0) 2 0) 3 0)
set_option maxHeartbeats 4000000 in
set_option maxRecDepth 100000 in
theorem kB_X3_parse_86 {p : Program} {l : Launch} {e : Env} {s : State} {m : MethodId} {args : Array Value} {below : List Frame} {meth : Method} {c : Code} {A : Nat → Prop} {E : EnvT} {aK aV : Nat → Nat} {aO : Nat} {D : va_G} {cA : Nat → ClassId} {aE ad : Nat → Nat} (C : xCx p s m args meth c cX3_parse 3 (some .boolean) wgX3_parse RX3 E D cA A) (vM : eXs aK aV aE aO E) {post : Int32 → XS → Prop} :
    ∀ (t0 : Int32) (σ : XS) (H : Heap) (locs : List Loc) (ls : Array Slot), xG D cA aE ad A s σ H locs → lv_has ls 3 [] → wB_X3_parse_86 post t0 σ → W p l e rm_X3_parse s m args below meth c H locs 0 0 (MQ below (va_Qi post (xAt D cA aE ad A) A) args s 0 0 A) (F0 m 86 ls [.int t0]) := by
  obtain ⟨hx, hb, hml, hr, hown, hts, hK, hA, hlk, hE, vE⟩ := id C
  intro t0 σ H locs ls hG hl hw
  obtain ⟨hP, hD, hS⟩ := id hG
  obtain ⟨h_3, hw⟩ := hw
  exact W.zret (v := t0) (ty := .boolean) hx hb hr (isB.n h_3) (fun t ht hW => ⟨⟨_, σ, rfl, hw, by rw [ht]; exact hP, va_K.moved hW.alike hK, hD⟩, hS.F ht⟩) hS.2.2 dX3_parse_86 hlk
set_option maxHeartbeats 4000000 in
set_option maxRecDepth 100000 in
theorem kB_X3_parse_74 {p : Program} {l : Launch} {e : Env} {s : State} {m : MethodId} {args : Array Value} {below : List Frame} {meth : Method} {c : Code} {A : Nat → Prop} {E : EnvT} {aK aV : Nat → Nat} {aO : Nat} {D : va_G} {cA : Nat → ClassId} {aE ad : Nat → Nat} (C : xCx p s m args meth c cX3_parse 3 (some .boolean) wgX3_parse RX3 E D cA A) (vM : eXs aK aV aE aO E) {post : Int32 → XS → Prop} :
    ∀ (σ : XS) (H : Heap) (locs : List Loc) (ls : Array Slot), xG D cA aE ad A s σ H locs → lv_has ls 3 [(0, .ref (ad 3))] → wB_X3_parse_74 post σ → W p l e rm_X3_parse s m args below meth c H locs 0 0 (MQ below (va_Qi post (xAt D cA aE ad A) A) args s 0 0 A) (F0 m 74 ls []) := by
  obtain ⟨hx, hb, hml, hr, hown, hts, hK, hA, hlk, hE, vE⟩ := id C
  intro σ H locs ls hG hl hw
  obtain ⟨hP, hD, hS⟩ := id hG
  refine lv_aload_n hx hb dX3_parse_74 rfl (lv_at hl 0 rfl) ?_
  refine va_get (D := D) (ci := 5) (v := .int (xI σ 2)) (C := RX3) (T := TX3) (N := 8) hx hb hts (in_tb inX3) hown hK hP 3 rfl rfl 6 (by decide) (hts _ (List.mem_cons_of_mem _ tw_1_119)) (fun _ h9 => h9) rfl dX3_parse_75 ?_
  refine lv_if_ne (tgt := 85) hx hb dX3_parse_78 (by decide) (fun q_ => ?_) (fun q_ => ?_)
  · have hw := hw.2 q_
    refine lv_iconst (v := 0) hx hb dX3_parse_85 (by decide) ?_
    exact kB_X3_parse_86 C vM 0 σ _ _ _ hG (lv_sub hl [] rfl) hw
  · have hw := hw.1 q_
    refine lv_iconst (v := 1) hx hb dX3_parse_81 (by decide) ?_
    refine lv_goto (tgt := 86) hx hb dX3_parse_82 (by decide) ?_
    exact kB_X3_parse_86 C vM 1 σ _ _ _ hG (lv_sub hl [] rfl) hw
set_option maxHeartbeats 4000000 in
set_option maxRecDepth 100000 in
theorem kB_X3_parse_66 {p : Program} {l : Launch} {e : Env} {s : State} {m : MethodId} {args : Array Value} {below : List Frame} {meth : Method} {c : Code} {A : Nat → Prop} {E : EnvT} {aK aV : Nat → Nat} {aO : Nat} {D : va_G} {cA : Nat → ClassId} {aE ad : Nat → Nat} (C : xCx p s m args meth c cX3_parse 3 (some .boolean) wgX3_parse RX3 E D cA A) (vM : eXs aK aV aE aO E) {post : Int32 → XS → Prop} :
    ∀ (x1 : Int32) (σ : XS) (H : Heap) (locs : List Loc) (ls : Array Slot), xG D cA aE ad A s σ H locs → lv_has ls 3 [(0, .ref (ad 3)), (1, .int x1)] → wB_X3_parse_66 post x1 σ → W p l e rm_X3_parse s m args below meth c H locs 0 0 (MQ below (va_Qi post (xAt D cA aE ad A) A) args s 0 0 A) (F0 m 66 ls []) := by
  obtain ⟨hx, hb, hml, hr, hown, hts, hK, hA, hlk, hE, vE⟩ := id C
  intro x1 σ H locs ls hG hl hw
  obtain ⟨hP, hD, hS⟩ := id hG
  refine lv_iload_n hx hb dX3_parse_66 rfl (lv_at hl 1 rfl) ?_
  refine lv_if_eq (tgt := 74) hx hb dX3_parse_67 (by decide) (fun q_ => ?_) (fun q_ => ?_)
  · have hw := hw.1 q_
    exact kB_X3_parse_74 C vM  σ _ _ _ hG (lv_sub hl [0] rfl) hw
  · have hw := hw.2 q_
    refine lv_aload_n hx hb dX3_parse_70 rfl (lv_at hl 0 rfl) ?_
    refine xV_v (As := []) (rest := []) C (met_X3_fillAmounts vE vM hw) (va_recv hK hP (ci := 5) (q0 := 3) rfl rfl) (cwV 0 hts (TB_G (TB_4 tw_5_50 tw_5_52 ts_26 tw_1_3) tw_5_53) rfl rfl rfl (by decide +kernel) ⟨by decide, by decide⟩) hP hD hS rfl hl.1 rfl (Nat.le_of_ble_eq_true rfl) dX3_parse_71 ⟨by decide, by decide⟩ (fun σ_5 H locs hw hP hD hS => ?_)
    have hG : xG D cA aE ad A s σ_5 H locs := ⟨hP, hD, hS⟩
    exact kB_X3_parse_74 C vM  σ_5 _ _ _ hG (lv_sub hl [0] rfl) hw
set_option maxHeartbeats 4000000 in
set_option maxRecDepth 100000 in
theorem kB_X3_parse_34 {p : Program} {l : Launch} {e : Env} {s : State} {m : MethodId} {args : Array Value} {below : List Frame} {meth : Method} {c : Code} {A : Nat → Prop} {E : EnvT} {aK aV : Nat → Nat} {aO : Nat} {D : va_G} {cA : Nat → ClassId} {aE ad : Nat → Nat} (C : xCx p s m args meth c cX3_parse 3 (some .boolean) wgX3_parse RX3 E D cA A) (vM : eXs aK aV aE aO E) {post : Int32 → XS → Prop}
    {k34 : Int32 → Int32 → XS → Prop} (hk34 : ∀ (x1 : Int32) (x2 : Int32) (σ : XS) (H : Heap) (locs : List Loc) (ls : Array Slot), xG D cA aE ad A s σ H locs → lv_has ls 3 [(0, .ref (ad 3)), (1, .int x1), (2, .int x2)] → k34 x1 x2 σ → W p l e rm_X3_parse s m args below meth c H locs 0 0 (MQ below (va_Qi post (xAt D cA aE ad A) A) args s 0 0 A) (F0 m 34 ls [])) :
    ∀ (x1 : Int32) (x2 : Int32) (σ : XS) (H : Heap) (locs : List Loc) (ls : Array Slot), xG D cA aE ad A s σ H locs → lv_has ls 3 [(0, .ref (ad 3)), (1, .int x1), (2, .int x2)] → wB_X3_parse_34 post k34 x1 x2 σ → W p l e rm_X3_parse s m args below meth c H locs 0 0 (MQ below (va_Qi post (xAt D cA aE ad A) A) args s 0 0 A) (F0 m 34 ls []) := by
  obtain ⟨hx, hb, hml, hr, hown, hts, hK, hA, hlk, hE, vE⟩ := id C
  intro x1 x2 σ H locs ls hG hl hw
  obtain ⟨hP, hD, hS⟩ := id hG
  refine lv_iload_n hx hb dX3_parse_34 rfl (lv_at hl 2 rfl) ?_
  refine lv_sipush (v := 700) hx hb dX3_parse_35 (by decide) ?_
  refine lv_icmp_ge (tgt := 66) hx hb dX3_parse_38 (by decide) (fun q_ => ?_) (fun q_ => ?_)
  · have hw := hw.1 q_
    exact kB_X3_parse_66 C vM x1 σ _ _ _ hG (lv_sub hl [0, 1] rfl) hw
  · have hw := hw.2 q_
    refine lv_iload_n hx hb dX3_parse_41 rfl (lv_at hl 1 rfl) ?_
    refine lv_if_eq (tgt := 66) hx hb dX3_parse_42 (by decide) (fun q_ => ?_) (fun q_ => ?_)
    · have hw := hw.1 q_
      exact kB_X3_parse_66 C vM x1 σ _ _ _ hG (lv_sub hl [0, 1] rfl) hw
    · have hw := hw.2 q_
      refine lv_aload_n hx hb dX3_parse_45 rfl (lv_at hl 0 rfl) ?_
      refine va_get (D := D) (ci := 5) (v := .ref (ad 4)) (C := RX3) (T := TX3) (N := 8) hx hb hts (in_tb inX3) hown hK hP 3 rfl rfl 0 (by decide) (hts _ (List.mem_cons_of_mem _ tw_1_110)) (fun _ h9 => h9) rfl dX3_parse_46 ?_
      refine xV_i (As := []) (rest := []) C (met_X6_kind vE vM hw) (va_recv hK hP (ci := 8) (q0 := 4) rfl rfl) (cwV 0 hts (TB_G (TB_4 tw_4_181 tw_4_182 tw_4_183 tw_1_5) tw_4_184) rfl rfl rfl (by decide +kernel) ⟨by decide, by decide⟩) hP hD hS rfl hl.1 rfl (Nat.le_of_ble_eq_true rfl) dX3_parse_49 ⟨by decide, by decide⟩ (fun r_6 σ_7 H locs hw hP hD hS => ?_)
      have hG : xG D cA aE ad A s σ_7 H locs := ⟨hP, hD, hS⟩
      refine lv_if_eq (tgt := 66) hx hb dX3_parse_52 (by decide) (fun q_ => ?_) (fun q_ => ?_)
      · have hw := hw.1 q_
        exact kB_X3_parse_66 C vM x1 σ_7 _ _ _ hG (lv_sub hl [0, 1] rfl) hw
      · have hw := hw.2 q_
        refine lv_aload_n hx hb dX3_parse_55 rfl (lv_at hl 0 rfl) ?_
        refine xV_i (As := []) (rest := []) C (met_X3_takeStatement vE vM hw) (va_recv hK hP (ci := 5) (q0 := 3) rfl rfl) (cwV 0 hts (TB_G (TB_4 tw_4_185 tw_4_187 ts_13 tw_1_3) tw_4_188) rfl rfl rfl (by decide +kernel) ⟨by decide, by decide⟩) hP hD hS rfl hl.1 rfl (Nat.le_of_ble_eq_true rfl) dX3_parse_56 ⟨by decide, by decide⟩ (fun r_8 σ_9 H locs hw hP hD hS => ?_)
        have hG : xG D cA aE ad A s σ_9 H locs := ⟨hP, hD, hS⟩
        refine lv_istore_n (lv' := [(1, .int r_8), (0, .ref (ad 3)), (2, .int x2)]) hx hb dX3_parse_59 rfl hl (by decide) rfl (fun ls hl => ?_)
        obtain ⟨x2_10, ex2_10⟩ : ∃ y : Int32, y = x2 + 1 := ⟨_, rfl⟩
        have hw := hw x2_10 ex2_10
        refine lv_iinc (v := x2_10) (lv' := [(2, .int x2_10), (1, .int r_8), (0, .ref (ad 3))]) hx hb dX3_parse_60 hl (k := 2) rfl (by rw [ex2_10]; rfl) (by decide) rfl (fun ls hl => ?_)
        refine lv_goto (tgt := 34) hx hb dX3_parse_63 (by decide) ?_
        exact hk34 r_8 x2_10 σ_9 _ _ _ hG (lv_sub hl [2, 1, 0] rfl) hw
theorem kL_X3_parse_34 {p : Program} {l : Launch} {e : Env} {s : State} {m : MethodId} {args : Array Value} {below : List Frame} {meth : Method} {c : Code} {A : Nat → Prop} {E : EnvT} {aK aV : Nat → Nat} {aO : Nat} {D : va_G} {cA : Nat → ClassId} {aE ad : Nat → Nat} (C : xCx p s m args meth c cX3_parse 3 (some .boolean) wgX3_parse RX3 E D cA A) (vM : eXs aK aV aE aO E) {post : Int32 → XS → Prop} :
    ∀ (n : Nat) (x1 : Int32) (x2 : Int32) (σ : XS) (H : Heap) (locs : List Loc) (ls : Array Slot), xG D cA aE ad A s σ H locs → lv_has ls 3 [(0, .ref (ad 3)), (1, .int x1), (2, .int x2)] → wL_X3_parse_34 post n x1 x2 σ → W p l e rm_X3_parse s m args below meth c H locs 0 0 (MQ below (va_Qi post (xAt D cA aE ad A) A) args s 0 0 A) (F0 m 34 ls []) := by
  intro n
  induction n with
  | zero => intro x1 x2 σ H locs ls hG hl hw; exact hw.elim
  | succ n ih => exact kB_X3_parse_34 C vM ih
set_option maxHeartbeats 4000000 in
set_option maxRecDepth 100000 in
theorem k_X3_parse {p : Program} {l : Launch} {e : Env} {s : State} {m : MethodId} {args : Array Value} {below : List Frame} {meth : Method} {c : Code} {A : Nat → Prop} {E : EnvT} {aK aV : Nat → Nat} {aO : Nat} {D : va_G} {cA : Nat → ClassId} {aE ad : Nat → Nat} (C : xCx p s m args meth c cX3_parse 3 (some .boolean) wgX3_parse RX3 E D cA A) (vM : eXs aK aV aE aO E) {post : Int32 → XS → Prop} :
    ∀ (σ : XS) (H : Heap) (locs : List Loc) (ls : Array Slot), xG D cA aE ad A s σ H locs → lv_has ls 3 [(0, .ref (ad 3))] → wp_X3_parse post σ → W p l e rm_X3_parse s m args below meth c H locs 0 0 (MQ below (va_Qi post (xAt D cA aE ad A) A) args s 0 0 A) (F0 m 0 ls []) := by
  obtain ⟨hx, hb, hml, hr, hown, hts, hK, hA, hlk, hE, vE⟩ := id C
  intro σ H locs ls hG hl hw
  obtain ⟨hP, hD, hS⟩ := id hG
  refine lv_aload_n hx hb dX3_parse_0 rfl (lv_at hl 0 rfl) ?_
  refine lv_iconst (v := 0) hx hb dX3_parse_1 (by decide) ?_
  refine va_put (D := D) (ci := 5) (v := .int 0) (ty := .int) (C := RX3) (T := TX3) (N := 8) hx hb hts (in_tb inX3) tyX3 tyX3_ok nmX3 hown hK hP hD hS 3 rfl rfl 5 (by decide) (hts _ (List.mem_cons_of_mem _ tw_1_117)) (fun _ h9 => h9) rfl (by decide +kernel) rfl rfl (Nat.le_of_ble_eq_true rfl) dX3_parse_2 (fun H locs hP hD hS => ?_)
  have hG : xG D cA aE ad A s (yI σ 1 0) H locs := ⟨hP, hD, hS⟩
  obtain ⟨hP, hD, hS⟩ := id hG
  refine lv_aload_n hx hb dX3_parse_5 rfl (lv_at hl 0 rfl) ?_
  refine va_get (D := D) (ci := 5) (v := .ref (ad 10)) (C := RX3) (T := TX3) (N := 8) hx hb hts (in_tb inX3) hown hK hP 3 rfl rfl 3 (by decide) (hts _ (List.mem_cons_of_mem _ tw_1_113)) (fun _ h9 => h9) rfl dX3_parse_6 ?_
  refine lv_iconst (v := 0) hx hb dX3_parse_9 (by decide) ?_
  refine va_put (D := D) (ci := 3) (v := .int 0) (ty := .int) (C := RX1) (T := TX1) (N := 3) hx hb hts (in_tb inX1) tyX1 tyX1_ok nmX1 hown hK hP hD hS 10 rfl rfl 2 (by decide) (hts _ (List.mem_cons_of_mem _ tw_1_74)) (fun _ h9 => h9) rfl (by decide +kernel) rfl rfl (Nat.le_of_ble_eq_true rfl) dX3_parse_10 (fun H locs hP hD hS => ?_)
  have hG : xG D cA aE ad A s (yI (yI σ 1 0) 6 0) H locs := ⟨hP, hD, hS⟩
  obtain ⟨hP, hD, hS⟩ := id hG
  refine lv_aload_n hx hb dX3_parse_13 rfl (lv_at hl 0 rfl) ?_
  refine lv_iconst (v := 0) hx hb dX3_parse_14 (by decide) ?_
  refine va_put (D := D) (ci := 5) (v := .int 0) (ty := .int) (C := RX3) (T := TX3) (N := 8) hx hb hts (in_tb inX3) tyX3 tyX3_ok nmX3 hown hK hP hD hS 3 rfl rfl 6 (by decide) (hts _ (List.mem_cons_of_mem _ tw_1_119)) (fun _ h9 => h9) rfl (by decide +kernel) rfl rfl (Nat.le_of_ble_eq_true rfl) dX3_parse_15 (fun H locs hP hD hS => ?_)
  have hG : xG D cA aE ad A s (yI (yI (yI σ 1 0) 6 0) 2 0) H locs := ⟨hP, hD, hS⟩
  obtain ⟨hP, hD, hS⟩ := id hG
  refine lv_aload_n hx hb dX3_parse_18 rfl (lv_at hl 0 rfl) ?_
  refine lv_iconst (v := 0) hx hb dX3_parse_19 (by decide) ?_
  refine va_put (D := D) (ci := 5) (v := .int 0) (ty := .int) (C := RX3) (T := TX3) (N := 8) hx hb hts (in_tb inX3) tyX3 tyX3_ok nmX3 hown hK hP hD hS 3 rfl rfl 7 (by decide) (hts _ (List.mem_cons_of_mem _ tw_1_121)) (fun _ h9 => h9) rfl (by decide +kernel) rfl rfl (Nat.le_of_ble_eq_true rfl) dX3_parse_20 (fun H locs hP hD hS => ?_)
  have hG : xG D cA aE ad A s (yI (yI (yI (yI σ 1 0) 6 0) 2 0) 3 0) H locs := ⟨hP, hD, hS⟩
  obtain ⟨hP, hD, hS⟩ := id hG
  refine lv_aload_n hx hb dX3_parse_23 rfl (lv_at hl 0 rfl) ?_
  refine va_get (D := D) (ci := 5) (v := .ref (ad 4)) (C := RX3) (T := TX3) (N := 8) hx hb hts (in_tb inX3) hown hK hP 3 rfl rfl 0 (by decide) (hts _ (List.mem_cons_of_mem _ tw_1_110)) (fun _ h9 => h9) rfl dX3_parse_24 ?_
  refine xV_v (As := []) (rest := []) C (met_X6_scan vE vM hw) (va_recv hK hP (ci := 8) (q0 := 4) rfl rfl) (cwV 0 hts (TB_G (TB_4 tw_4_155 tw_4_156 tw_4_157 tw_1_5) tw_4_158) rfl rfl rfl (by decide +kernel) ⟨by decide, by decide⟩) hP hD hS rfl hl.1 rfl (Nat.le_of_ble_eq_true rfl) dX3_parse_27 ⟨by decide, by decide⟩ (fun σ_2 H locs hw hP hD hS => ?_)
  have hG : xG D cA aE ad A s σ_2 H locs := ⟨hP, hD, hS⟩
  refine lv_iconst (v := 1) hx hb dX3_parse_30 (by decide) ?_
  refine lv_istore_n (lv' := [(1, .int 1), (0, .ref (ad 3))]) hx hb dX3_parse_31 rfl hl (by decide) rfl (fun ls hl => ?_)
  refine lv_iconst (v := 0) hx hb dX3_parse_32 (by decide) ?_
  refine lv_istore_n (lv' := [(2, .int 0), (1, .int 1), (0, .ref (ad 3))]) hx hb dX3_parse_33 rfl hl (by decide) rfl (fun ls hl => ?_)
  obtain ⟨n_, hw⟩ := hw
  exact kL_X3_parse_34 C vM n_ 1 0 σ_2 _ _ _ hG (lv_sub hl [2, 1, 0] rfl) hw
set_option maxHeartbeats 4000000 in
set_option maxRecDepth 100000 in
theorem met_X3_parse {l : Launch} {E : EnvT} (vE : EnvOk E) {D : va_G} {cA : Nat → ClassId} {aE ad : Nat → Nat} {σ : XS} {aK aV : Nat → Nat} {aO : Nat} (vM : eXs aK aV aE aO E) {sz : Nat} {post : Int32 → XS → Prop} (hw : wp_X3_parse post σ) : Met l yX3_parse wgX3_parse rm_X3_parse (va_Pc [.ref (ad 3)] (xPre E D cA aE ad sz σ)) (va_Qi post (xAt D cA aE ad (va_A (xW cA aE ad σ) sz)) (va_A (xW cA aE ad σ) sz)) 0 0 (va_A (xW cA aE ad σ) sz) := by
  refine Met.ofW (cc := cX3_parse) (maxL := 3) (ret := (some .boolean)) (by decide +kernel) rfl ?_
  intro p e s m args below meth c s₁ B hml hv
  obtain ⟨rfl, hsz, hP, hK, hD0, hE⟩ := hv
  subst hsz
  have hD := hD0.self (sz := s.heap.size)
  generalize hAe : va_A (xW cA aE ad σ) s.heap.size = A at hD hE ⊢
  have hA : ∀ q : Nat, s.heap.size ≤ q → A q := fun q h => by rw [← hAe]; exact Or.inr h
  have hS : va_S A s.heap s.heap [] := va_S.rf
  have C : xCx p s m _ meth c cX3_parse 3 (some .boolean) wgX3_parse RX3 E D cA A := ⟨B.exec, B.bytes, hml, B.returns, findClass_of_methodNamed B.named, atoms_spec (ws := wgX3_parse) B.pre, hK, hA, B.notSynchronized, hE, vE⟩
  have hG : xG D cA aE ad A s σ s.heap [] := ⟨hP, hD, hS⟩
  have hl := lv_entry ([.ref (ad 3)]) (n := 3) (Nat.le_of_ble_eq_true rfl)
  rw [lg_entry_eq]
  generalize (lg_sl ([.ref (ad 3)]) ++ List.replicate (3 - (lg_sl ([.ref (ad 3)])).length) Slot.unset).toArray = ls at hl ⊢
  have hl : lv_has ls 3 [(0, .ref (ad 3))] := hl
  exact k_X3_parse C vM σ _ _ _ hG hl hw
/-! ===== X7_first ways ===== -/
def rm_X7_first : Room := { frames := 2, cells := 0, slots := 0, locals := 43 }
abbrev wgX7_first : List Cond := .code yX7_first cX7_first 2 (some .int) :: TB
def wB_X7_first_23 (post : Int32 → XS → Prop) (σ : XS) : Prop :=
  post (-1) σ
def wB_X7_first_92 (post : Int32 → XS → Prop) (t0 : Int32) (σ : XS) : Prop :=
  post t0 σ
def wB_X7_first_89 (post : Int32 → XS → Prop) (x1 : Int32) (σ : XS) : Prop :=
  wB_X7_first_92 post (x1 + 1) σ
def wp_X7_first (post : Int32 → XS → Prop) (x1 : Int32) (σ : XS) : Prop :=
  wp_X0_has (fun r_1 σ_2 => (r_1 = 0 → (wB_X7_first_23 post σ_2)) ∧ (¬ r_1 = 0 → (vp_in x1 64 ∧ ((xQ σ_2 1 x1.toNatClampNeg = none → (wB_X7_first_23 post σ_2)) ∧ (∀ e_4 : Nat, xQ σ_2 1 x1.toNatClampNeg = some e_4 → (vp_in x1 64 ∧ ((xQ σ_2 1 x1.toNatClampNeg = none → (False)) ∧ (∀ e_7 : Nat, xQ σ_2 1 x1.toNatClampNeg = some e_7 → (e_7 < 53 ∧ wp_X2_isJump (fun r_9  => (r_9 = 0 → (vp_in x1 64 ∧ ((xQ σ_2 1 x1.toNatClampNeg = none → (False)) ∧ (∀ e_12 : Nat, xQ σ_2 1 x1.toNatClampNeg = some e_12 → (e_12 < 53 ∧ wp_X2_isLast (fun r_14  => (r_14 = 0 → (wB_X7_first_89 post x1 σ_2)) ∧ (¬ r_14 = 0 → (vp_in x1 64 ∧ (wp_X2_isGuarded (fun r_17  => (r_17 = 0 → (wB_X7_first_92 post (-1) σ_2)) ∧ (¬ r_17 = 0 → (wB_X7_first_89 post x1 σ_2))) (xL σ_2 6 x1.toNatClampNeg))))) e_12))))) ∧ (¬ r_9 = 0 → (vp_in x1 64 ∧ (wp_X2_fieldOf (fun r_21  => post r_21 σ_2) 116 (xL σ_2 6 x1.toNatClampNeg))))) e_7))))))))) x1 σ
set_option maxHeartbeats 4000000 in
set_option maxRecDepth 100000 in
theorem kB_X7_first_23 {p : Program} {l : Launch} {e : Env} {s : State} {m : MethodId} {args : Array Value} {below : List Frame} {meth : Method} {c : Code} {A : Nat → Prop} {E : EnvT} {aK aV : Nat → Nat} {aO : Nat} {D : va_G} {cA : Nat → ClassId} {aE ad : Nat → Nat} (C : xCx p s m args meth c cX7_first 2 (some .int) wgX7_first RX7 E D cA A) (vM : eXs aK aV aE aO E) {post : Int32 → XS → Prop} :
    ∀ (σ : XS) (H : Heap) (locs : List Loc) (ls : Array Slot), xG D cA aE ad A s σ H locs → lv_has ls 2 [] → wB_X7_first_23 post σ → W p l e rm_X7_first s m args below meth c H locs 0 0 (MQ below (va_Qi post (xAt D cA aE ad A) A) args s 0 0 A) (F0 m 23 ls []) := by
  obtain ⟨hx, hb, hml, hr, hown, hts, hK, hA, hlk, hE, vE⟩ := id C
  intro σ H locs ls hG hl hw
  obtain ⟨hP, hD, hS⟩ := id hG
  refine lv_iconst (v := (-1)) hx hb dX7_first_23 (by decide) ?_
  exact W.iret (v := (-1)) hx hb hr (fun t ht hW => ⟨⟨_, σ, rfl, hw, by rw [ht]; exact hP, va_K.moved hW.alike hK, hD⟩, hS.F ht⟩) hS.2.2 dX7_first_24 hlk
set_option maxHeartbeats 4000000 in
set_option maxRecDepth 100000 in
theorem kB_X7_first_92 {p : Program} {l : Launch} {e : Env} {s : State} {m : MethodId} {args : Array Value} {below : List Frame} {meth : Method} {c : Code} {A : Nat → Prop} {E : EnvT} {aK aV : Nat → Nat} {aO : Nat} {D : va_G} {cA : Nat → ClassId} {aE ad : Nat → Nat} (C : xCx p s m args meth c cX7_first 2 (some .int) wgX7_first RX7 E D cA A) (vM : eXs aK aV aE aO E) {post : Int32 → XS → Prop} :
    ∀ (t0 : Int32) (σ : XS) (H : Heap) (locs : List Loc) (ls : Array Slot), xG D cA aE ad A s σ H locs → lv_has ls 2 [] → wB_X7_first_92 post t0 σ → W p l e rm_X7_first s m args below meth c H locs 0 0 (MQ below (va_Qi post (xAt D cA aE ad A) A) args s 0 0 A) (F0 m 92 ls [.int t0]) := by
  obtain ⟨hx, hb, hml, hr, hown, hts, hK, hA, hlk, hE, vE⟩ := id C
  intro t0 σ H locs ls hG hl hw
  obtain ⟨hP, hD, hS⟩ := id hG
  exact W.iret (v := t0) hx hb hr (fun t ht hW => ⟨⟨_, σ, rfl, hw, by rw [ht]; exact hP, va_K.moved hW.alike hK, hD⟩, hS.F ht⟩) hS.2.2 dX7_first_92 hlk
set_option maxHeartbeats 4000000 in
set_option maxRecDepth 100000 in
theorem kB_X7_first_89 {p : Program} {l : Launch} {e : Env} {s : State} {m : MethodId} {args : Array Value} {below : List Frame} {meth : Method} {c : Code} {A : Nat → Prop} {E : EnvT} {aK aV : Nat → Nat} {aO : Nat} {D : va_G} {cA : Nat → ClassId} {aE ad : Nat → Nat} (C : xCx p s m args meth c cX7_first 2 (some .int) wgX7_first RX7 E D cA A) (vM : eXs aK aV aE aO E) {post : Int32 → XS → Prop} :
    ∀ (x1 : Int32) (σ : XS) (H : Heap) (locs : List Loc) (ls : Array Slot), xG D cA aE ad A s σ H locs → lv_has ls 2 [(1, .int x1)] → wB_X7_first_89 post x1 σ → W p l e rm_X7_first s m args below meth c H locs 0 0 (MQ below (va_Qi post (xAt D cA aE ad A) A) args s 0 0 A) (F0 m 89 ls []) := by
  obtain ⟨hx, hb, hml, hr, hown, hts, hK, hA, hlk, hE, vE⟩ := id C
  intro x1 σ H locs ls hG hl hw
  obtain ⟨hP, hD, hS⟩ := id hG
  refine lv_iload_n hx hb dX7_first_89 rfl (lv_at hl 0 rfl) ?_
  refine lv_iconst (v := 1) hx hb dX7_first_90 (by decide) ?_
  refine lv_iadd hx hb dX7_first_91 ?_
  exact kB_X7_first_92 C vM (x1 + 1) σ _ _ _ hG (lv_sub hl [] rfl) hw
set_option maxHeartbeats 4000000 in
set_option maxRecDepth 100000 in
theorem k_X7_first {p : Program} {l : Launch} {e : Env} {s : State} {m : MethodId} {args : Array Value} {below : List Frame} {meth : Method} {c : Code} {A : Nat → Prop} {E : EnvT} {aK aV : Nat → Nat} {aO : Nat} {D : va_G} {cA : Nat → ClassId} {aE ad : Nat → Nat} (C : xCx p s m args meth c cX7_first 2 (some .int) wgX7_first RX7 E D cA A) (vM : eXs aK aV aE aO E) {post : Int32 → XS → Prop} :
    ∀ (x1 : Int32) (σ : XS) (H : Heap) (locs : List Loc) (ls : Array Slot), xG D cA aE ad A s σ H locs → lv_has ls 2 [(0, .ref (ad 22)), (1, .int x1)] → wp_X7_first post x1 σ → W p l e rm_X7_first s m args below meth c H locs 0 0 (MQ below (va_Qi post (xAt D cA aE ad A) A) args s 0 0 A) (F0 m 0 ls []) := by
  obtain ⟨hx, hb, hml, hr, hown, hts, hK, hA, hlk, hE, vE⟩ := id C
  intro x1 σ H locs ls hG hl hw
  obtain ⟨hP, hD, hS⟩ := id hG
  refine lv_aload_n hx hb dX7_first_0 rfl (lv_at hl 0 rfl) ?_
  refine va_get (D := D) (ci := 9) (v := .ref (ad 17)) (C := RX7) (T := TX7) (N := 1) hx hb hts (in_tb inX7) hown hK hP 22 rfl rfl 0 (by decide) (hts _ (List.mem_cons_of_mem _ tw_1_177)) (fun _ h9 => h9) rfl dX7_first_1 ?_
  refine lv_iload_n hx hb dX7_first_4 rfl (lv_at hl 1 rfl) ?_
  refine xV_i (As := [.int x1]) (rest := []) C (met_X0_has vE vM hw) (va_recv hK hP (ci := 2) (q0 := 17) rfl rfl) (cwV 1 hts (TB_G (TB_4 tw_4_40 tw_2_199 tw_2_200 tw_1_6) tw_2_201) rfl rfl rfl (by decide +kernel) ⟨by decide, by decide⟩) hP hD hS rfl hl.1 rfl (Nat.le_of_ble_eq_true rfl) dX7_first_5 ⟨by decide, by decide⟩ (fun r_1 σ_2 H locs hw hP hD hS => ?_)
  have hG : xG D cA aE ad A s σ_2 H locs := ⟨hP, hD, hS⟩
  refine lv_if_eq (tgt := 23) hx hb dX7_first_8 (by decide) (fun q_ => ?_) (fun q_ => ?_)
  · have hw := hw.1 q_
    exact kB_X7_first_23 C vM  σ_2 _ _ _ hG (lv_sub hl [] rfl) hw
  · have hw := hw.2 q_
    refine lv_aload_n hx hb dX7_first_11 rfl (lv_at hl 0 rfl) ?_
    refine va_get (D := D) (ci := 9) (v := .ref (ad 17)) (C := RX7) (T := TX7) (N := 1) hx hb hts (in_tb inX7) hown hK hP 22 rfl rfl 0 (by decide) (hts _ (List.mem_cons_of_mem _ tw_1_177)) (fun _ h9 => h9) rfl dX7_first_12 ?_
    refine va_get (D := D) (ci := 2) (v := .ref (ad 19)) (C := RX0) (T := TX0) (N := 5) hx hb hts (in_tb inX0) hown hK hP 17 rfl rfl 1 (by decide) (hts _ (List.mem_cons_of_mem _ tw_1_153)) (fun _ h9 => h9) rfl dX7_first_15 ?_
    refine lv_iload_n hx hb dX7_first_18 rfl (lv_at hl 1 rfl) ?_
    obtain ⟨h_3, hw⟩ := hw
    refine va_aldq hx hb hK hP 19 3 rfl rfl h_3 dX7_first_19 ?_
    rcases q_5 : xQ σ_2 1 x1.toNatClampNeg with _ | e_4
    · have hw := hw.1 q_5
      refine q_none rfl ?_
      refine lv_ifnonnullN hx hb dX7_first_20 ?_
      exact kB_X7_first_23 C vM  σ_2 _ _ _ hG (lv_sub hl [] rfl) hw
    · have hw := hw.2 e_4 q_5
      refine q_some rfl ?_
      refine lv_ifnonnull (tgt := 25) hx hb dX7_first_20 (by decide) ?_
      refine lv_aload_n hx hb dX7_first_25 rfl (lv_at hl 0 rfl) ?_
      refine va_get (D := D) (ci := 9) (v := .ref (ad 17)) (C := RX7) (T := TX7) (N := 1) hx hb hts (in_tb inX7) hown hK hP 22 rfl rfl 0 (by decide) (hts _ (List.mem_cons_of_mem _ tw_1_177)) (fun _ h9 => h9) rfl dX7_first_26 ?_
      refine va_get (D := D) (ci := 2) (v := .ref (ad 19)) (C := RX0) (T := TX0) (N := 5) hx hb hts (in_tb inX0) hown hK hP 17 rfl rfl 1 (by decide) (hts _ (List.mem_cons_of_mem _ tw_1_153)) (fun _ h9 => h9) rfl dX7_first_29 ?_
      refine lv_iload_n hx hb dX7_first_32 rfl (lv_at hl 1 rfl) ?_
      obtain ⟨h_6, hw⟩ := hw
      refine va_aldq hx hb hK hP 19 3 rfl rfl h_6 dX7_first_33 ?_
      rcases q_8 : xQ σ_2 1 x1.toNatClampNeg with _ | e_7
      · have hw := hw.1 q_8
        refine q_none rfl ?_
        exact hw.elim
      · have hw := hw.2 e_7 q_8
        refine q_some rfl ?_
        obtain ⟨h_23, hw⟩ := hw
        refine xO_i (As := []) (rest := []) C (met_X2_isJump vE vM hw) (va_Orecv (eX.o_obj (vM _ _ _ hE) h_23) hS) (cwV 0 hts (TB_G (TB_4 tw_4_41 tw_4_42 tw_4_43 tw_1_19) tw_4_44) rfl rfl rfl (by decide +kernel) ⟨by decide, by decide⟩) hP hD hS rfl hl.1 rfl (Nat.le_of_ble_eq_true rfl) dX7_first_34 ⟨by decide, by decide⟩ (fun r_9 H locs hw hP hS => ?_)
        have hG : xG D cA aE ad A s σ_2 H locs := ⟨hP, hD, hS⟩
        refine lv_if_eq (tgt := 55) hx hb dX7_first_37 (by decide) (fun q_ => ?_) (fun q_ => ?_)
        · have hw := hw.1 q_
          refine lv_aload_n hx hb dX7_first_55 rfl (lv_at hl 0 rfl) ?_
          refine va_get (D := D) (ci := 9) (v := .ref (ad 17)) (C := RX7) (T := TX7) (N := 1) hx hb hts (in_tb inX7) hown hK hP 22 rfl rfl 0 (by decide) (hts _ (List.mem_cons_of_mem _ tw_1_177)) (fun _ h9 => h9) rfl dX7_first_56 ?_
          refine va_get (D := D) (ci := 2) (v := .ref (ad 19)) (C := RX0) (T := TX0) (N := 5) hx hb hts (in_tb inX0) hown hK hP 17 rfl rfl 1 (by decide) (hts _ (List.mem_cons_of_mem _ tw_1_153)) (fun _ h9 => h9) rfl dX7_first_59 ?_
          refine lv_iload_n hx hb dX7_first_62 rfl (lv_at hl 1 rfl) ?_
          obtain ⟨h_11, hw⟩ := hw
          refine va_aldq hx hb hK hP 19 3 rfl rfl h_11 dX7_first_63 ?_
          rcases q_13 : xQ σ_2 1 x1.toNatClampNeg with _ | e_12
          · have hw := hw.1 q_13
            refine q_none rfl ?_
            exact hw.elim
          · have hw := hw.2 e_12 q_13
            refine q_some rfl ?_
            obtain ⟨h_19, hw⟩ := hw
            refine xO_i (As := []) (rest := []) C (met_X2_isLast vE vM hw) (va_Orecv (eX.o_obj (vM _ _ _ hE) h_19) hS) (cwV 0 hts (TB_G (TB_4 tw_4_50 tw_4_51 tw_4_52 tw_1_19) tw_4_53) rfl rfl rfl (by decide +kernel) ⟨by decide, by decide⟩) hP hD hS rfl hl.1 rfl (Nat.le_of_ble_eq_true rfl) dX7_first_64 ⟨by decide, by decide⟩ (fun r_14 H locs hw hP hS => ?_)
            have hG : xG D cA aE ad A s σ_2 H locs := ⟨hP, hD, hS⟩
            refine lv_if_eq (tgt := 89) hx hb dX7_first_67 (by decide) (fun q_ => ?_) (fun q_ => ?_)
            · have hw := hw.1 q_
              exact kB_X7_first_89 C vM x1 σ_2 _ _ _ hG (lv_sub hl [1] rfl) hw
            · have hw := hw.2 q_
              refine lv_aload_n hx hb dX7_first_70 rfl (lv_at hl 0 rfl) ?_
              refine va_get (D := D) (ci := 9) (v := .ref (ad 17)) (C := RX7) (T := TX7) (N := 1) hx hb hts (in_tb inX7) hown hK hP 22 rfl rfl 0 (by decide) (hts _ (List.mem_cons_of_mem _ tw_1_177)) (fun _ h9 => h9) rfl dX7_first_71 ?_
              refine va_get (D := D) (ci := 2) (v := .ref (ad 18)) (C := RX0) (T := TX0) (N := 5) hx hb hts (in_tb inX0) hown hK hP 17 rfl rfl 0 (by decide) (hts _ (List.mem_cons_of_mem _ tw_1_150)) (fun _ h9 => h9) rfl dX7_first_74 ?_
              refine lv_iload_n hx hb dX7_first_77 rfl (lv_at hl 1 rfl) ?_
              obtain ⟨h_16, hw⟩ := hw
              refine va_lald hx hb hK hP 18 1 rfl rfl h_16 dX7_first_78 ?_
              refine xS_i (As := [.long (xL σ_2 6 x1.toNatClampNeg)]) (rest := []) C (met_X2_isGuarded vE vM hw) (va_cwS 1 hts (TB_G (TB_3 tw_4_60 tw_2_129 tw_1_19) tw_2_130) rfl rfl rfl (by decide +kernel) ⟨by decide, by decide⟩) hP hD hS rfl hl.1 rfl (Nat.le_of_ble_eq_true rfl) dX7_first_79 ⟨by decide, by decide⟩ (fun r_17 H locs hw hP hS => ?_)
              have hG : xG D cA aE ad A s σ_2 H locs := ⟨hP, hD, hS⟩
              refine lv_if_ne (tgt := 89) hx hb dX7_first_82 (by decide) (fun q_ => ?_) (fun q_ => ?_)
              · have hw := hw.2 q_
                exact kB_X7_first_89 C vM x1 σ_2 _ _ _ hG (lv_sub hl [1] rfl) hw
              · have hw := hw.1 q_
                refine lv_iconst (v := (-1)) hx hb dX7_first_85 (by decide) ?_
                refine lv_goto (tgt := 92) hx hb dX7_first_86 (by decide) ?_
                exact kB_X7_first_92 C vM (-1) σ_2 _ _ _ hG (lv_sub hl [] rfl) hw
        · have hw := hw.2 q_
          refine lv_bipush (v := 116) hx hb dX7_first_40 (by decide) ?_
          refine lv_aload_n hx hb dX7_first_42 rfl (lv_at hl 0 rfl) ?_
          refine va_get (D := D) (ci := 9) (v := .ref (ad 17)) (C := RX7) (T := TX7) (N := 1) hx hb hts (in_tb inX7) hown hK hP 22 rfl rfl 0 (by decide) (hts _ (List.mem_cons_of_mem _ tw_1_177)) (fun _ h9 => h9) rfl dX7_first_43 ?_
          refine va_get (D := D) (ci := 2) (v := .ref (ad 18)) (C := RX0) (T := TX0) (N := 5) hx hb hts (in_tb inX0) hown hK hP 17 rfl rfl 0 (by decide) (hts _ (List.mem_cons_of_mem _ tw_1_150)) (fun _ h9 => h9) rfl dX7_first_46 ?_
          refine lv_iload_n hx hb dX7_first_49 rfl (lv_at hl 1 rfl) ?_
          obtain ⟨h_20, hw⟩ := hw
          refine va_lald hx hb hK hP 18 1 rfl rfl h_20 dX7_first_50 ?_
          refine xS_i (As := [.int 116, .long (xL σ_2 6 x1.toNatClampNeg)]) (rest := []) C (met_X2_fieldOf vE vM hw) (va_cwS 2 hts (TB_G (TB_3 tw_4_49 tw_2_98 tw_1_19) tw_2_99) rfl rfl rfl (by decide +kernel) ⟨by decide, by decide⟩) hP hD hS rfl hl.1 rfl (Nat.le_of_ble_eq_true rfl) dX7_first_51 ⟨by decide, by decide⟩ (fun r_21 H locs hw hP hS => ?_)
          have hG : xG D cA aE ad A s σ_2 H locs := ⟨hP, hD, hS⟩
          exact W.iret (v := r_21) hx hb hr (fun t ht hW => ⟨⟨_, σ_2, rfl, hw, by rw [ht]; exact hP, va_K.moved hW.alike hK, hD⟩, hS.F ht⟩) hS.2.2 dX7_first_54 hlk
set_option maxHeartbeats 4000000 in
set_option maxRecDepth 100000 in
theorem met_X7_first {l : Launch} {E : EnvT} (vE : EnvOk E) {D : va_G} {cA : Nat → ClassId} {aE ad : Nat → Nat} {σ : XS} {aK aV : Nat → Nat} {aO : Nat} (vM : eXs aK aV aE aO E) {sz : Nat} {x1 : Int32} {post : Int32 → XS → Prop} (hw : wp_X7_first post x1 σ) : Met l yX7_first wgX7_first rm_X7_first (va_Pc [.ref (ad 22), .int x1] (xPre E D cA aE ad sz σ)) (va_Qi post (xAt D cA aE ad (va_A (xW cA aE ad σ) sz)) (va_A (xW cA aE ad σ) sz)) 0 0 (va_A (xW cA aE ad σ) sz) := by
  refine Met.ofW (cc := cX7_first) (maxL := 2) (ret := (some .int)) (by decide +kernel) rfl ?_
  intro p e s m args below meth c s₁ B hml hv
  obtain ⟨rfl, hsz, hP, hK, hD0, hE⟩ := hv
  subst hsz
  have hD := hD0.self (sz := s.heap.size)
  generalize hAe : va_A (xW cA aE ad σ) s.heap.size = A at hD hE ⊢
  have hA : ∀ q : Nat, s.heap.size ≤ q → A q := fun q h => by rw [← hAe]; exact Or.inr h
  have hS : va_S A s.heap s.heap [] := va_S.rf
  have C : xCx p s m _ meth c cX7_first 2 (some .int) wgX7_first RX7 E D cA A := ⟨B.exec, B.bytes, hml, B.returns, findClass_of_methodNamed B.named, atoms_spec (ws := wgX7_first) B.pre, hK, hA, B.notSynchronized, hE, vE⟩
  have hG : xG D cA aE ad A s σ s.heap [] := ⟨hP, hD, hS⟩
  have hl := lv_entry ([.ref (ad 22), .int x1]) (n := 2) (Nat.le_of_ble_eq_true rfl)
  rw [lg_entry_eq]
  generalize (lg_sl ([.ref (ad 22), .int x1]) ++ List.replicate (2 - (lg_sl ([.ref (ad 22), .int x1])).length) Slot.unset).toArray = ls at hl ⊢
  have hl : lv_has ls 2 [(0, .ref (ad 22)), (1, .int x1)] := hl
  exact k_X7_first C vM x1 σ _ _ _ hG hl hw
