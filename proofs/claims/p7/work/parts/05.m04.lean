/-! ===== readRegister ===== -/
def rm_X9_readRegister : Room := { frames := 1, cells := 0, slots := 0, locals := 20 }
abbrev wgX9_readRegister : List Cond := .code yX9_readRegister cX9_readRegister 9 (some .boolean) :: TB
def wB_X9_readRegister_170 (post : Int32 → MS → Prop) (t0 : Int32) (σ : MS) : Prop :=
  post 1 (wI (wI σ 25 t0) 9 ((mI σ 9) + 1))
def wB_X9_readRegister_142 (post : Int32 → MS → Prop) (x4 : Int32) (x7 : Int32) (t0 : Int32) (σ : MS) : Prop :=
  (t0 = 0 → (wp_X9_refuse (fun r_6 σ_7 => isB r_6 ∧ (post r_6 σ_7)) σ)) ∧ (¬ t0 = 0 → ((x7 = 0 → (wB_X9_readRegister_170 post x4 σ)) ∧ (¬ x7 = 0 → (wB_X9_readRegister_170 post (10 + x4) σ))))
def wB_X9_readRegister_141 (post : Int32 → MS → Prop) (x4 : Int32) (x7 : Int32) (σ : MS) : Prop :=
  wB_X9_readRegister_142 post x4 x7 0 σ
def wB_X9_readRegister_137 (post : Int32 → MS → Prop) (x4 : Int32) (x7 : Int32) (σ : MS) : Prop :=
  wB_X9_readRegister_142 post x4 x7 1 σ
def wB_X9_readRegister_132 (post : Int32 → MS → Prop) (x4 : Int32) (x7 : Int32) (σ : MS) : Prop :=
  (x7 = 0 → (wB_X9_readRegister_141 post x4 x7 σ)) ∧ (¬ x7 = 0 → (wB_X9_readRegister_137 post x4 x7 σ))
def wB_X9_readRegister_100 (post : Int32 → MS → Prop) (x1 : Int32) (x4 : Int32) (x6 : Int32) (t0 : Int32) (σ : MS) : Prop :=
  vp_in (mI σ 9) 702 ∧ (((mA σ 6 (mI σ 9).toNatClampNeg) = 1 → ((x6 = 0 → (wB_X9_readRegister_132 post x4 t0 σ)) ∧ (¬ x6 = 0 → ((x1 = 114 → (wB_X9_readRegister_137 post x4 t0 σ)) ∧ (¬ x1 = 114 → ((x4 < 4 → (wB_X9_readRegister_137 post x4 t0 σ)) ∧ (¬ x4 < 4 → (wB_X9_readRegister_132 post x4 t0 σ)))))))) ∧ (¬ (mA σ 6 (mI σ 9).toNatClampNeg) = 1 → (wB_X9_readRegister_141 post x4 t0 σ)))
def wB_X9_readRegister_99 (post : Int32 → MS → Prop) (x1 : Int32) (x4 : Int32) (x6 : Int32) (σ : MS) : Prop :=
  wB_X9_readRegister_100 post x1 x4 x6 0 σ
def wB_X9_readRegister_59 (post : Int32 → MS → Prop) (x1 : Int32) (x2 : Int64) (x4 : Int32) (x5 : Int32) (t0 : Int32) (σ : MS) : Prop :=
  (x1 = 114 → (((x2 >>> ((16 : Int32).toInt64 &&& 63)) = (x1.toInt64) → ((x5 = 49 → ((x4 < 0 → (wB_X9_readRegister_99 post x1 x4 t0 σ)) ∧ (¬ x4 < 0 → ((5 < x4 → (wB_X9_readRegister_99 post x1 x4 t0 σ)) ∧ (¬ 5 < x4 → (wB_X9_readRegister_100 post x1 x4 t0 1 σ)))))) ∧ (¬ x5 = 49 → (wB_X9_readRegister_99 post x1 x4 t0 σ)))) ∧ (¬ (x2 >>> ((16 : Int32).toInt64 &&& 63)) = (x1.toInt64) → (wB_X9_readRegister_99 post x1 x4 t0 σ)))) ∧ (¬ x1 = 114 → (wB_X9_readRegister_99 post x1 x4 t0 σ))
def wB_X9_readRegister_58 (post : Int32 → MS → Prop) (x1 : Int32) (x2 : Int64) (x4 : Int32) (x5 : Int32) (σ : MS) : Prop :=
  wB_X9_readRegister_59 post x1 x2 x4 x5 0 σ
def wp_X9_readRegister (post : Int32 → MS → Prop) (x1 : Int32) (σ : MS) : Prop :=
  vp_in (mI σ 9) 702 ∧ (∀ x2_2 : Int64, x2_2 = mL σ 8 (mI σ 9).toNatClampNeg → ∀ x4_3 : Int32, x4_3 = ((x2_2 &&& 255).toInt32) - 48 → ∀ x5_4 : Int32, x5_4 = ((x2_2 >>> ((8 : Int32).toInt64 &&& 63)) &&& 255).toInt32 → ((x2_2 >>> ((8 : Int32).toInt64 &&& 63)) = (x1.toInt64) → ((x4_3 < 0 → (wB_X9_readRegister_58 post x1 x2_2 x4_3 x5_4 σ)) ∧ (¬ x4_3 < 0 → ((9 < x4_3 → (wB_X9_readRegister_58 post x1 x2_2 x4_3 x5_4 σ)) ∧ (¬ 9 < x4_3 → (wB_X9_readRegister_59 post x1 x2_2 x4_3 x5_4 1 σ)))))) ∧ (¬ (x2_2 >>> ((8 : Int32).toInt64 &&& 63)) = (x1.toInt64) → (wB_X9_readRegister_58 post x1 x2_2 x4_3 x5_4 σ)))
set_option maxHeartbeats 4000000 in
set_option maxRecDepth 100000 in
theorem kB_X9_readRegister_170 {p : Program} {l : Launch} {e : Env} {s : State} {m : MethodId} {args : Array Value} {below : List Frame} {meth : Method} {c : Code} {A : Nat → Prop} {E : EnvT} {aK aV : Nat → Nat} {D : va_G} {cA : Nat → ClassId} {h : Nat} {ad : Nat → Nat} (C : mCx p s m args meth c cX9_readRegister 9 (some .boolean) wgX9_readRegister RX9 E D cA A) (vM : eMs aK aV E) {post : Int32 → MS → Prop} :
    ∀ (t0 : Int32) (σ : MS) (H : Heap) (locs : List Loc) (ls : Array Slot), mG D cA h ad A s σ H locs → lv_has ls 9 [(0, .ref h)] → wB_X9_readRegister_170 post t0 σ → W p l e rm_X9_readRegister s m args below meth c H locs 0 0 (MQ below (va_Qi post (mAt D cA h ad A) A) args s 0 0 A) (F0 m 170 ls [.int t0, .ref h]) := by
  obtain ⟨hx, hb, hml, hr, hown, hts, hK, hA, hlk, hE, vE⟩ := id C
  intro t0 σ H locs ls hG hl hw
  obtain ⟨hP, hD, hS⟩ := id hG
  refine va_put (D := D) (ci := 11) (v := .int t0) (ty := .int) (C := RX9) (T := TX9) (N := 32) hx hb hts (in_tb inX9) tyX9 tyX9_ok nmX9 hown hK hP hD hS 0 rfl rfl 25 (by decide) (hts _ (List.mem_cons_of_mem _ tw_5_135)) (fun _ h9 => h9) rfl (by decide +kernel) rfl rfl (Nat.le_of_ble_eq_true rfl) dX9_readRegister_170 (fun H locs hP hD hS => ?_)
  have hG : mG D cA h ad A s (wI σ 25 t0) H locs := ⟨hP, hD, hS⟩
  obtain ⟨hP, hD, hS⟩ := id hG
  refine lv_aload_n hx hb dX9_readRegister_173 rfl (lv_at hl 0 rfl) ?_
  refine lv_dup hx hb dX9_readRegister_174 rfl ?_
  refine va_get (D := D) (ci := 11) (v := .int (mI σ 9)) (C := RX9) (T := TX9) (N := 32) hx hb hts (in_tb inX9) hown hK hP 0 rfl rfl 9 (by decide) (hts _ (List.mem_cons_of_mem _ tw_5_119)) (fun _ h9 => h9) rfl dX9_readRegister_175 ?_
  refine lv_iconst (v := 1) hx hb dX9_readRegister_178 (by decide) ?_
  refine lv_iadd hx hb dX9_readRegister_179 ?_
  refine va_put (D := D) (ci := 11) (v := .int ((mI σ 9) + 1)) (ty := .int) (C := RX9) (T := TX9) (N := 32) hx hb hts (in_tb inX9) tyX9 tyX9_ok nmX9 hown hK hP hD hS 0 rfl rfl 9 (by decide) (hts _ (List.mem_cons_of_mem _ tw_5_119)) (fun _ h9 => h9) rfl (by decide +kernel) rfl rfl (Nat.le_of_ble_eq_true rfl) dX9_readRegister_180 (fun H locs hP hD hS => ?_)
  have hG : mG D cA h ad A s (wI (wI σ 25 t0) 9 ((mI σ 9) + 1)) H locs := ⟨hP, hD, hS⟩
  obtain ⟨hP, hD, hS⟩ := id hG
  refine lv_iconst (v := 1) hx hb dX9_readRegister_183 (by decide) ?_
  exact W.zret (v := 1) (ty := .boolean) hx hb hr rfl (fun t ht hW => ⟨⟨_, (wI (wI σ 25 t0) 9 ((mI σ 9) + 1)), rfl, hw, by rw [ht]; exact hP, va_K.moved hW.alike hK, hD⟩, hS.F ht⟩) hS.2.2 dX9_readRegister_184 hlk
set_option maxHeartbeats 4000000 in
set_option maxRecDepth 100000 in
theorem kB_X9_readRegister_142 {p : Program} {l : Launch} {e : Env} {s : State} {m : MethodId} {args : Array Value} {below : List Frame} {meth : Method} {c : Code} {A : Nat → Prop} {E : EnvT} {aK aV : Nat → Nat} {D : va_G} {cA : Nat → ClassId} {h : Nat} {ad : Nat → Nat} (C : mCx p s m args meth c cX9_readRegister 9 (some .boolean) wgX9_readRegister RX9 E D cA A) (vM : eMs aK aV E) {post : Int32 → MS → Prop} :
    ∀ (x4 : Int32) (x7 : Int32) (t0 : Int32) (σ : MS) (H : Heap) (locs : List Loc) (ls : Array Slot), mG D cA h ad A s σ H locs → lv_has ls 9 [(0, .ref h), (4, .int x4), (7, .int x7)] → wB_X9_readRegister_142 post x4 x7 t0 σ → W p l e rm_X9_readRegister s m args below meth c H locs 0 0 (MQ below (va_Qi post (mAt D cA h ad A) A) args s 0 0 A) (F0 m 142 ls [.int t0]) := by
  obtain ⟨hx, hb, hml, hr, hown, hts, hK, hA, hlk, hE, vE⟩ := id C
  intro x4 x7 t0 σ H locs ls hG hl hw
  obtain ⟨hP, hD, hS⟩ := id hG
  refine lv_istore (lv' := [(8, .int t0), (0, .ref h), (4, .int x4), (7, .int x7)]) hx hb dX9_readRegister_142 hl (by decide) rfl (fun ls hl => ?_)
  refine lv_iload hx hb dX9_readRegister_144 (lv_at hl 0 rfl) ?_
  refine lv_if_ne (tgt := 154) hx hb dX9_readRegister_146 (by decide) (fun q_ => ?_) (fun q_ => ?_)
  · have hw := hw.2 q_
    refine lv_aload_n hx hb dX9_readRegister_154 rfl (lv_at hl 1 rfl) ?_
    refine lv_iload hx hb dX9_readRegister_155 (lv_at hl 3 rfl) ?_
    refine lv_if_eq (tgt := 168) hx hb dX9_readRegister_157 (by decide) (fun q_ => ?_) (fun q_ => ?_)
    · have hw := hw.1 q_
      refine lv_iload hx hb dX9_readRegister_168 (lv_at hl 2 rfl) ?_
      exact kB_X9_readRegister_170 C vM x4 σ _ _ _ hG (lv_sub hl [1] rfl) hw
    · have hw := hw.2 q_
      refine lv_bipush (v := 10) hx hb dX9_readRegister_160 (by decide) ?_
      refine lv_iload hx hb dX9_readRegister_162 (lv_at hl 2 rfl) ?_
      refine lv_iadd hx hb dX9_readRegister_164 ?_
      refine lv_goto (tgt := 170) hx hb dX9_readRegister_165 (by decide) ?_
      exact kB_X9_readRegister_170 C vM (10 + x4) σ _ _ _ hG (lv_sub hl [1] rfl) hw
  · have hw := hw.1 q_
    refine lv_aload_n hx hb dX9_readRegister_149 rfl (lv_at hl 1 rfl) ?_
    refine mV_i (As := []) (rest := []) C (met_X9_refuse vE vM hw) (va_recv hK hP (ci := 11) (q0 := 0) rfl rfl) (cwV 0 hts (TB_G (TB_4 tw_6_31 tw_6_33 ts_36 tw_1_13) tw_6_34) rfl rfl rfl (by decide +kernel) ⟨by decide, by decide⟩) hP hD hS rfl hl.1 rfl (Nat.le_of_ble_eq_true rfl) dX9_readRegister_150 ⟨by decide, by decide⟩ (fun r_6 σ_7 H locs hw hP hD hS => ?_)
    have hG : mG D cA h ad A s σ_7 H locs := ⟨hP, hD, hS⟩
    obtain ⟨h_8, hw⟩ := hw
    exact W.zret (v := r_6) (ty := .boolean) hx hb hr (isB.n h_8) (fun t ht hW => ⟨⟨_, σ_7, rfl, hw, by rw [ht]; exact hP, va_K.moved hW.alike hK, hD⟩, hS.F ht⟩) hS.2.2 dX9_readRegister_153 hlk
set_option maxHeartbeats 4000000 in
set_option maxRecDepth 100000 in
theorem kB_X9_readRegister_141 {p : Program} {l : Launch} {e : Env} {s : State} {m : MethodId} {args : Array Value} {below : List Frame} {meth : Method} {c : Code} {A : Nat → Prop} {E : EnvT} {aK aV : Nat → Nat} {D : va_G} {cA : Nat → ClassId} {h : Nat} {ad : Nat → Nat} (C : mCx p s m args meth c cX9_readRegister 9 (some .boolean) wgX9_readRegister RX9 E D cA A) (vM : eMs aK aV E) {post : Int32 → MS → Prop} :
    ∀ (x4 : Int32) (x7 : Int32) (σ : MS) (H : Heap) (locs : List Loc) (ls : Array Slot), mG D cA h ad A s σ H locs → lv_has ls 9 [(0, .ref h), (4, .int x4), (7, .int x7)] → wB_X9_readRegister_141 post x4 x7 σ → W p l e rm_X9_readRegister s m args below meth c H locs 0 0 (MQ below (va_Qi post (mAt D cA h ad A) A) args s 0 0 A) (F0 m 141 ls []) := by
  obtain ⟨hx, hb, hml, hr, hown, hts, hK, hA, hlk, hE, vE⟩ := id C
  intro x4 x7 σ H locs ls hG hl hw
  obtain ⟨hP, hD, hS⟩ := id hG
  refine lv_iconst (v := 0) hx hb dX9_readRegister_141 (by decide) ?_
  exact kB_X9_readRegister_142 C vM x4 x7 0 σ _ _ _ hG (lv_sub hl [0, 1, 2] rfl) hw
set_option maxHeartbeats 4000000 in
set_option maxRecDepth 100000 in
theorem kB_X9_readRegister_137 {p : Program} {l : Launch} {e : Env} {s : State} {m : MethodId} {args : Array Value} {below : List Frame} {meth : Method} {c : Code} {A : Nat → Prop} {E : EnvT} {aK aV : Nat → Nat} {D : va_G} {cA : Nat → ClassId} {h : Nat} {ad : Nat → Nat} (C : mCx p s m args meth c cX9_readRegister 9 (some .boolean) wgX9_readRegister RX9 E D cA A) (vM : eMs aK aV E) {post : Int32 → MS → Prop} :
    ∀ (x4 : Int32) (x7 : Int32) (σ : MS) (H : Heap) (locs : List Loc) (ls : Array Slot), mG D cA h ad A s σ H locs → lv_has ls 9 [(0, .ref h), (4, .int x4), (7, .int x7)] → wB_X9_readRegister_137 post x4 x7 σ → W p l e rm_X9_readRegister s m args below meth c H locs 0 0 (MQ below (va_Qi post (mAt D cA h ad A) A) args s 0 0 A) (F0 m 137 ls []) := by
  obtain ⟨hx, hb, hml, hr, hown, hts, hK, hA, hlk, hE, vE⟩ := id C
  intro x4 x7 σ H locs ls hG hl hw
  obtain ⟨hP, hD, hS⟩ := id hG
  refine lv_iconst (v := 1) hx hb dX9_readRegister_137 (by decide) ?_
  refine lv_goto (tgt := 142) hx hb dX9_readRegister_138 (by decide) ?_
  exact kB_X9_readRegister_142 C vM x4 x7 1 σ _ _ _ hG (lv_sub hl [0, 1, 2] rfl) hw
set_option maxHeartbeats 4000000 in
set_option maxRecDepth 100000 in
theorem kB_X9_readRegister_132 {p : Program} {l : Launch} {e : Env} {s : State} {m : MethodId} {args : Array Value} {below : List Frame} {meth : Method} {c : Code} {A : Nat → Prop} {E : EnvT} {aK aV : Nat → Nat} {D : va_G} {cA : Nat → ClassId} {h : Nat} {ad : Nat → Nat} (C : mCx p s m args meth c cX9_readRegister 9 (some .boolean) wgX9_readRegister RX9 E D cA A) (vM : eMs aK aV E) {post : Int32 → MS → Prop} :
    ∀ (x4 : Int32) (x7 : Int32) (σ : MS) (H : Heap) (locs : List Loc) (ls : Array Slot), mG D cA h ad A s σ H locs → lv_has ls 9 [(0, .ref h), (4, .int x4), (7, .int x7)] → wB_X9_readRegister_132 post x4 x7 σ → W p l e rm_X9_readRegister s m args below meth c H locs 0 0 (MQ below (va_Qi post (mAt D cA h ad A) A) args s 0 0 A) (F0 m 132 ls []) := by
  obtain ⟨hx, hb, hml, hr, hown, hts, hK, hA, hlk, hE, vE⟩ := id C
  intro x4 x7 σ H locs ls hG hl hw
  obtain ⟨hP, hD, hS⟩ := id hG
  refine lv_iload hx hb dX9_readRegister_132 (lv_at hl 2 rfl) ?_
  refine lv_if_eq (tgt := 141) hx hb dX9_readRegister_134 (by decide) (fun q_ => ?_) (fun q_ => ?_)
  · have hw := hw.1 q_
    exact kB_X9_readRegister_141 C vM x4 x7 σ _ _ _ hG (lv_sub hl [0, 1, 2] rfl) hw
  · have hw := hw.2 q_
    exact kB_X9_readRegister_137 C vM x4 x7 σ _ _ _ hG (lv_sub hl [0, 1, 2] rfl) hw
set_option maxHeartbeats 4000000 in
set_option maxRecDepth 100000 in
theorem kB_X9_readRegister_100 {p : Program} {l : Launch} {e : Env} {s : State} {m : MethodId} {args : Array Value} {below : List Frame} {meth : Method} {c : Code} {A : Nat → Prop} {E : EnvT} {aK aV : Nat → Nat} {D : va_G} {cA : Nat → ClassId} {h : Nat} {ad : Nat → Nat} (C : mCx p s m args meth c cX9_readRegister 9 (some .boolean) wgX9_readRegister RX9 E D cA A) (vM : eMs aK aV E) {post : Int32 → MS → Prop} :
    ∀ (x1 : Int32) (x4 : Int32) (x6 : Int32) (t0 : Int32) (σ : MS) (H : Heap) (locs : List Loc) (ls : Array Slot), mG D cA h ad A s σ H locs → lv_has ls 9 [(0, .ref h), (1, .int x1), (4, .int x4), (6, .int x6)] → wB_X9_readRegister_100 post x1 x4 x6 t0 σ → W p l e rm_X9_readRegister s m args below meth c H locs 0 0 (MQ below (va_Qi post (mAt D cA h ad A) A) args s 0 0 A) (F0 m 100 ls [.int t0]) := by
  obtain ⟨hx, hb, hml, hr, hown, hts, hK, hA, hlk, hE, vE⟩ := id C
  intro x1 x4 x6 t0 σ H locs ls hG hl hw
  obtain ⟨hP, hD, hS⟩ := id hG
  refine lv_istore (lv' := [(7, .int t0), (0, .ref h), (1, .int x1), (4, .int x4), (6, .int x6)]) hx hb dX9_readRegister_100 hl (by decide) rfl (fun ls hl => ?_)
  refine lv_aload_n hx hb dX9_readRegister_102 rfl (lv_at hl 1 rfl) ?_
  refine va_get (D := D) (ci := 11) (v := .ref (ad 6)) (C := RX9) (T := TX9) (N := 32) hx hb hts (in_tb inX9) hown hK hP 0 rfl rfl 6 (by decide) (hts _ (List.mem_cons_of_mem _ tw_5_116)) (fun _ h9 => h9) rfl dX9_readRegister_103 ?_
  refine lv_aload_n hx hb dX9_readRegister_106 rfl (lv_at hl 1 rfl) ?_
  refine va_get (D := D) (ci := 11) (v := .int (mI σ 9)) (C := RX9) (T := TX9) (N := 32) hx hb hts (in_tb inX9) hown hK hP 0 rfl rfl 9 (by decide) (hts _ (List.mem_cons_of_mem _ tw_5_119)) (fun _ h9 => h9) rfl dX9_readRegister_107 ?_
  obtain ⟨h_5, hw⟩ := hw
  refine va_iald hx hb hK hP 2 0 rfl rfl h_5 dX9_readRegister_110 ?_
  refine lv_iconst (v := 1) hx hb dX9_readRegister_111 (by decide) ?_
  refine lv_icmp_ne (tgt := 141) hx hb dX9_readRegister_112 (by decide) (fun q_ => ?_) (fun q_ => ?_)
  · have hw := hw.2 q_
    exact kB_X9_readRegister_141 C vM x4 t0 σ _ _ _ hG (lv_sub hl [1, 3, 0] rfl) hw
  · have hw := hw.1 q_
    refine lv_iload hx hb dX9_readRegister_115 (lv_at hl 4 rfl) ?_
    refine lv_if_eq (tgt := 132) hx hb dX9_readRegister_117 (by decide) (fun q_ => ?_) (fun q_ => ?_)
    · have hw := hw.1 q_
      exact kB_X9_readRegister_132 C vM x4 t0 σ _ _ _ hG (lv_sub hl [1, 3, 0] rfl) hw
    · have hw := hw.2 q_
      refine lv_iload_n hx hb dX9_readRegister_120 rfl (lv_at hl 2 rfl) ?_
      refine lv_bipush (v := 114) hx hb dX9_readRegister_121 (by decide) ?_
      refine lv_icmp_eq (tgt := 137) hx hb dX9_readRegister_123 (by decide) (fun q_ => ?_) (fun q_ => ?_)
      · have hw := hw.1 q_
        exact kB_X9_readRegister_137 C vM x4 t0 σ _ _ _ hG (lv_sub hl [1, 3, 0] rfl) hw
      · have hw := hw.2 q_
        refine lv_iload hx hb dX9_readRegister_126 (lv_at hl 3 rfl) ?_
        refine lv_iconst (v := 4) hx hb dX9_readRegister_128 (by decide) ?_
        refine lv_icmp_lt (tgt := 137) hx hb dX9_readRegister_129 (by decide) (fun q_ => ?_) (fun q_ => ?_)
        · have hw := hw.1 q_
          exact kB_X9_readRegister_137 C vM x4 t0 σ _ _ _ hG (lv_sub hl [1, 3, 0] rfl) hw
        · have hw := hw.2 q_
          exact kB_X9_readRegister_132 C vM x4 t0 σ _ _ _ hG (lv_sub hl [1, 3, 0] rfl) hw
set_option maxHeartbeats 4000000 in
set_option maxRecDepth 100000 in
theorem kB_X9_readRegister_99 {p : Program} {l : Launch} {e : Env} {s : State} {m : MethodId} {args : Array Value} {below : List Frame} {meth : Method} {c : Code} {A : Nat → Prop} {E : EnvT} {aK aV : Nat → Nat} {D : va_G} {cA : Nat → ClassId} {h : Nat} {ad : Nat → Nat} (C : mCx p s m args meth c cX9_readRegister 9 (some .boolean) wgX9_readRegister RX9 E D cA A) (vM : eMs aK aV E) {post : Int32 → MS → Prop} :
    ∀ (x1 : Int32) (x4 : Int32) (x6 : Int32) (σ : MS) (H : Heap) (locs : List Loc) (ls : Array Slot), mG D cA h ad A s σ H locs → lv_has ls 9 [(0, .ref h), (1, .int x1), (4, .int x4), (6, .int x6)] → wB_X9_readRegister_99 post x1 x4 x6 σ → W p l e rm_X9_readRegister s m args below meth c H locs 0 0 (MQ below (va_Qi post (mAt D cA h ad A) A) args s 0 0 A) (F0 m 99 ls []) := by
  obtain ⟨hx, hb, hml, hr, hown, hts, hK, hA, hlk, hE, vE⟩ := id C
  intro x1 x4 x6 σ H locs ls hG hl hw
  obtain ⟨hP, hD, hS⟩ := id hG
  refine lv_iconst (v := 0) hx hb dX9_readRegister_99 (by decide) ?_
  exact kB_X9_readRegister_100 C vM x1 x4 x6 0 σ _ _ _ hG (lv_sub hl [0, 1, 2, 3] rfl) hw
set_option maxHeartbeats 4000000 in
set_option maxRecDepth 100000 in
theorem kB_X9_readRegister_59 {p : Program} {l : Launch} {e : Env} {s : State} {m : MethodId} {args : Array Value} {below : List Frame} {meth : Method} {c : Code} {A : Nat → Prop} {E : EnvT} {aK aV : Nat → Nat} {D : va_G} {cA : Nat → ClassId} {h : Nat} {ad : Nat → Nat} (C : mCx p s m args meth c cX9_readRegister 9 (some .boolean) wgX9_readRegister RX9 E D cA A) (vM : eMs aK aV E) {post : Int32 → MS → Prop} :
    ∀ (x1 : Int32) (x2 : Int64) (x4 : Int32) (x5 : Int32) (t0 : Int32) (σ : MS) (H : Heap) (locs : List Loc) (ls : Array Slot), mG D cA h ad A s σ H locs → lv_has ls 9 [(0, .ref h), (1, .int x1), (2, .long x2), (4, .int x4), (5, .int x5)] → wB_X9_readRegister_59 post x1 x2 x4 x5 t0 σ → W p l e rm_X9_readRegister s m args below meth c H locs 0 0 (MQ below (va_Qi post (mAt D cA h ad A) A) args s 0 0 A) (F0 m 59 ls [.int t0]) := by
  obtain ⟨hx, hb, hml, hr, hown, hts, hK, hA, hlk, hE, vE⟩ := id C
  intro x1 x2 x4 x5 t0 σ H locs ls hG hl hw
  obtain ⟨hP, hD, hS⟩ := id hG
  refine lv_istore (lv' := [(6, .int t0), (0, .ref h), (1, .int x1), (2, .long x2), (4, .int x4), (5, .int x5)]) hx hb dX9_readRegister_59 hl (by decide) rfl (fun ls hl => ?_)
  refine lv_iload_n hx hb dX9_readRegister_61 rfl (lv_at hl 2 rfl) ?_
  refine lv_bipush (v := 114) hx hb dX9_readRegister_62 (by decide) ?_
  refine lv_icmp_ne (tgt := 99) hx hb dX9_readRegister_64 (by decide) (fun q_ => ?_) (fun q_ => ?_)
  · have hw := hw.2 q_
    exact kB_X9_readRegister_99 C vM x1 x4 t0 σ _ _ _ hG (lv_sub hl [1, 2, 4, 0] rfl) hw
  · have hw := hw.1 q_
    refine lv_lload_n hx hb dX9_readRegister_67 rfl (lv_at hl 3 rfl) ?_
    refine lv_bipush (v := 16) hx hb dX9_readRegister_68 (by decide) ?_
    refine lv_lshr hx hb dX9_readRegister_70 rfl ?_
    refine lv_iload_n hx hb dX9_readRegister_71 rfl (lv_at hl 2 rfl) ?_
    refine lv_i2l hx hb dX9_readRegister_72 rfl ?_
    refine W.lcmp hx hb dX9_readRegister_73 ?_
    refine lv_if_ne (tgt := 99) hx hb dX9_readRegister_74 (by decide) (fun q_ => ?_) (fun q_ => ?_)
    · have hw := hw.2 (fun z => q_ (lc_eq.mpr z))
      exact kB_X9_readRegister_99 C vM x1 x4 t0 σ _ _ _ hG (lv_sub hl [1, 2, 4, 0] rfl) hw
    · have hw := hw.1 (lc_eq.mp q_)
      refine lv_iload hx hb dX9_readRegister_77 (lv_at hl 5 rfl) ?_
      refine lv_bipush (v := 49) hx hb dX9_readRegister_79 (by decide) ?_
      refine lv_icmp_ne (tgt := 99) hx hb dX9_readRegister_81 (by decide) (fun q_ => ?_) (fun q_ => ?_)
      · have hw := hw.2 q_
        exact kB_X9_readRegister_99 C vM x1 x4 t0 σ _ _ _ hG (lv_sub hl [1, 2, 4, 0] rfl) hw
      · have hw := hw.1 q_
        refine lv_iload hx hb dX9_readRegister_84 (lv_at hl 4 rfl) ?_
        refine lv_if_lt (tgt := 99) hx hb dX9_readRegister_86 (by decide) (fun q_ => ?_) (fun q_ => ?_)
        · have hw := hw.1 q_
          exact kB_X9_readRegister_99 C vM x1 x4 t0 σ _ _ _ hG (lv_sub hl [1, 2, 4, 0] rfl) hw
        · have hw := hw.2 q_
          refine lv_iload hx hb dX9_readRegister_89 (lv_at hl 4 rfl) ?_
          refine lv_iconst (v := 5) hx hb dX9_readRegister_91 (by decide) ?_
          refine lv_icmp_gt (tgt := 99) hx hb dX9_readRegister_92 (by decide) (fun q_ => ?_) (fun q_ => ?_)
          · have hw := hw.1 q_
            exact kB_X9_readRegister_99 C vM x1 x4 t0 σ _ _ _ hG (lv_sub hl [1, 2, 4, 0] rfl) hw
          · have hw := hw.2 q_
            refine lv_iconst (v := 1) hx hb dX9_readRegister_95 (by decide) ?_
            refine lv_goto (tgt := 100) hx hb dX9_readRegister_96 (by decide) ?_
            exact kB_X9_readRegister_100 C vM x1 x4 t0 1 σ _ _ _ hG (lv_sub hl [1, 2, 4, 0] rfl) hw
set_option maxHeartbeats 4000000 in
set_option maxRecDepth 100000 in
theorem kB_X9_readRegister_58 {p : Program} {l : Launch} {e : Env} {s : State} {m : MethodId} {args : Array Value} {below : List Frame} {meth : Method} {c : Code} {A : Nat → Prop} {E : EnvT} {aK aV : Nat → Nat} {D : va_G} {cA : Nat → ClassId} {h : Nat} {ad : Nat → Nat} (C : mCx p s m args meth c cX9_readRegister 9 (some .boolean) wgX9_readRegister RX9 E D cA A) (vM : eMs aK aV E) {post : Int32 → MS → Prop} :
    ∀ (x1 : Int32) (x2 : Int64) (x4 : Int32) (x5 : Int32) (σ : MS) (H : Heap) (locs : List Loc) (ls : Array Slot), mG D cA h ad A s σ H locs → lv_has ls 9 [(0, .ref h), (1, .int x1), (2, .long x2), (4, .int x4), (5, .int x5)] → wB_X9_readRegister_58 post x1 x2 x4 x5 σ → W p l e rm_X9_readRegister s m args below meth c H locs 0 0 (MQ below (va_Qi post (mAt D cA h ad A) A) args s 0 0 A) (F0 m 58 ls []) := by
  obtain ⟨hx, hb, hml, hr, hown, hts, hK, hA, hlk, hE, vE⟩ := id C
  intro x1 x2 x4 x5 σ H locs ls hG hl hw
  obtain ⟨hP, hD, hS⟩ := id hG
  refine lv_iconst (v := 0) hx hb dX9_readRegister_58 (by decide) ?_
  exact kB_X9_readRegister_59 C vM x1 x2 x4 x5 0 σ _ _ _ hG (lv_sub hl [0, 1, 2, 3, 4] rfl) hw
set_option maxHeartbeats 4000000 in
set_option maxRecDepth 100000 in
theorem k_X9_readRegister {p : Program} {l : Launch} {e : Env} {s : State} {m : MethodId} {args : Array Value} {below : List Frame} {meth : Method} {c : Code} {A : Nat → Prop} {E : EnvT} {aK aV : Nat → Nat} {D : va_G} {cA : Nat → ClassId} {h : Nat} {ad : Nat → Nat} (C : mCx p s m args meth c cX9_readRegister 9 (some .boolean) wgX9_readRegister RX9 E D cA A) (vM : eMs aK aV E) {post : Int32 → MS → Prop} :
    ∀ (x1 : Int32) (σ : MS) (H : Heap) (locs : List Loc) (ls : Array Slot), mG D cA h ad A s σ H locs → lv_has ls 9 [(0, .ref h), (1, .int x1)] → wp_X9_readRegister post x1 σ → W p l e rm_X9_readRegister s m args below meth c H locs 0 0 (MQ below (va_Qi post (mAt D cA h ad A) A) args s 0 0 A) (F0 m 0 ls []) := by
  obtain ⟨hx, hb, hml, hr, hown, hts, hK, hA, hlk, hE, vE⟩ := id C
  intro x1 σ H locs ls hG hl hw
  obtain ⟨hP, hD, hS⟩ := id hG
  refine lv_aload_n hx hb dX9_readRegister_0 rfl (lv_at hl 0 rfl) ?_
  refine va_get (D := D) (ci := 11) (v := .ref (ad 8)) (C := RX9) (T := TX9) (N := 32) hx hb hts (in_tb inX9) hown hK hP 0 rfl rfl 8 (by decide) (hts _ (List.mem_cons_of_mem _ tw_5_118)) (fun _ h9 => h9) rfl dX9_readRegister_1 ?_
  refine lv_aload_n hx hb dX9_readRegister_4 rfl (lv_at hl 0 rfl) ?_
  refine va_get (D := D) (ci := 11) (v := .int (mI σ 9)) (C := RX9) (T := TX9) (N := 32) hx hb hts (in_tb inX9) hown hK hP 0 rfl rfl 9 (by decide) (hts _ (List.mem_cons_of_mem _ tw_5_119)) (fun _ h9 => h9) rfl dX9_readRegister_5 ?_
  obtain ⟨h_1, hw⟩ := hw
  refine va_lald hx hb hK hP 4 1 rfl rfl h_1 dX9_readRegister_8 ?_
  refine lv_topl (fun x2_2 ex2_2 => ?_)
  have hw := hw x2_2 ex2_2
  refine lv_lstore_n (lv' := [(2, .long x2_2), (0, .ref h), (1, .int x1)]) hx hb dX9_readRegister_9 rfl hl (by decide) rfl (fun ls hl => ?_)
  refine lv_lload_n hx hb dX9_readRegister_10 rfl (lv_at hl 0 rfl) ?_
  refine lv_ldc2 (v := 255) hx hb hown (hts _ (List.mem_cons_of_mem _ tw_5_212)) dX9_readRegister_11 ?_
  refine lv_land hx hb dX9_readRegister_14 ?_
  refine lv_l2i hx hb dX9_readRegister_15 rfl ?_
  refine lv_bipush (v := 48) hx hb dX9_readRegister_16 (by decide) ?_
  refine lv_isub hx hb dX9_readRegister_18 ?_
  refine lv_topi (fun x4_3 ex4_3 => ?_)
  have hw := hw x4_3 ex4_3
  refine lv_istore (lv' := [(4, .int x4_3), (2, .long x2_2), (0, .ref h), (1, .int x1)]) hx hb dX9_readRegister_19 hl (by decide) rfl (fun ls hl => ?_)
  refine lv_lload_n hx hb dX9_readRegister_21 rfl (lv_at hl 1 rfl) ?_
  refine lv_bipush (v := 8) hx hb dX9_readRegister_22 (by decide) ?_
  refine lv_lshr hx hb dX9_readRegister_24 rfl ?_
  refine lv_ldc2 (v := 255) hx hb hown (hts _ (List.mem_cons_of_mem _ tw_5_212)) dX9_readRegister_25 ?_
  refine lv_land hx hb dX9_readRegister_28 ?_
  refine lv_l2i hx hb dX9_readRegister_29 rfl ?_
  refine lv_topi (fun x5_4 ex5_4 => ?_)
  have hw := hw x5_4 ex5_4
  refine lv_istore (lv' := [(5, .int x5_4), (4, .int x4_3), (2, .long x2_2), (0, .ref h), (1, .int x1)]) hx hb dX9_readRegister_30 hl (by decide) rfl (fun ls hl => ?_)
  refine lv_lload_n hx hb dX9_readRegister_32 rfl (lv_at hl 2 rfl) ?_
  refine lv_bipush (v := 8) hx hb dX9_readRegister_33 (by decide) ?_
  refine lv_lshr hx hb dX9_readRegister_35 rfl ?_
  refine lv_iload_n hx hb dX9_readRegister_36 rfl (lv_at hl 4 rfl) ?_
  refine lv_i2l hx hb dX9_readRegister_37 rfl ?_
  refine W.lcmp hx hb dX9_readRegister_38 ?_
  refine lv_if_ne (tgt := 58) hx hb dX9_readRegister_39 (by decide) (fun q_ => ?_) (fun q_ => ?_)
  · have hw := hw.2 (fun z => q_ (lc_eq.mpr z))
    exact kB_X9_readRegister_58 C vM x1 x2_2 x4_3 x5_4 σ _ _ _ hG (lv_sub hl [3, 4, 2, 1, 0] rfl) hw
  · have hw := hw.1 (lc_eq.mp q_)
    refine lv_iload hx hb dX9_readRegister_42 (lv_at hl 1 rfl) ?_
    refine lv_if_lt (tgt := 58) hx hb dX9_readRegister_44 (by decide) (fun q_ => ?_) (fun q_ => ?_)
    · have hw := hw.1 q_
      exact kB_X9_readRegister_58 C vM x1 x2_2 x4_3 x5_4 σ _ _ _ hG (lv_sub hl [3, 4, 2, 1, 0] rfl) hw
    · have hw := hw.2 q_
      refine lv_iload hx hb dX9_readRegister_47 (lv_at hl 1 rfl) ?_
      refine lv_bipush (v := 9) hx hb dX9_readRegister_49 (by decide) ?_
      refine lv_icmp_gt (tgt := 58) hx hb dX9_readRegister_51 (by decide) (fun q_ => ?_) (fun q_ => ?_)
      · have hw := hw.1 q_
        exact kB_X9_readRegister_58 C vM x1 x2_2 x4_3 x5_4 σ _ _ _ hG (lv_sub hl [3, 4, 2, 1, 0] rfl) hw
      · have hw := hw.2 q_
        refine lv_iconst (v := 1) hx hb dX9_readRegister_54 (by decide) ?_
        refine lv_goto (tgt := 59) hx hb dX9_readRegister_55 (by decide) ?_
        exact kB_X9_readRegister_59 C vM x1 x2_2 x4_3 x5_4 1 σ _ _ _ hG (lv_sub hl [3, 4, 2, 1, 0] rfl) hw
set_option maxHeartbeats 4000000 in
set_option maxRecDepth 100000 in
theorem met_X9_readRegister {l : Launch} {E : EnvT} (vE : EnvOk E) {D : va_G} {cA : Nat → ClassId} {h : Nat} {ad : Nat → Nat} {σ : MS} {aK aV : Nat → Nat} (vM : eMs aK aV E) {sz : Nat} {x1 : Int32} {post : Int32 → MS → Prop} (hw : wp_X9_readRegister post x1 σ) : Met l yX9_readRegister wgX9_readRegister rm_X9_readRegister (va_Pc [.ref h, .int x1] (mPre E D cA h ad sz σ)) (va_Qi post (mAt D cA h ad (va_A (mW cA h ad σ) sz)) (va_A (mW cA h ad σ) sz)) 0 0 (va_A (mW cA h ad σ) sz) := by
  refine Met.ofW (cc := cX9_readRegister) (maxL := 9) (ret := (some .boolean)) (by decide +kernel) rfl ?_
  intro p e s m args below meth c s₁ B hml hv
  obtain ⟨rfl, hsz, hP, hK, hD0, hE⟩ := hv
  subst hsz
  have hD := hD0.self (sz := s.heap.size)
  generalize hAe : va_A (mW cA h ad σ) s.heap.size = A at hD hE ⊢
  have hA : ∀ q : Nat, s.heap.size ≤ q → A q := fun q h => by rw [← hAe]; exact Or.inr h
  have hS : va_S A s.heap s.heap [] := va_S.rf
  have C : mCx p s m _ meth c cX9_readRegister 9 (some .boolean) wgX9_readRegister RX9 E D cA A := ⟨B.exec, B.bytes, hml, B.returns, findClass_of_methodNamed B.named, atoms_spec (ws := wgX9_readRegister) B.pre, hK, hA, B.notSynchronized, hE, vE⟩
  have hG : mG D cA h ad A s σ s.heap [] := ⟨hP, hD, hS⟩
  have hl := lv_entry ([.ref h, .int x1]) (n := 9) (Nat.le_of_ble_eq_true rfl)
  rw [lg_entry_eq]
  generalize (lg_sl ([.ref h, .int x1]) ++ List.replicate (9 - (lg_sl ([.ref h, .int x1])).length) Slot.unset).toArray = ls at hl ⊢
  have hl : lv_has ls 9 [(0, .ref h), (1, .int x1)] := hl
  exact k_X9_readRegister C vM x1 σ _ _ _ hG hl hw
/-! ===== isInt ===== -/
def rm_X9_isInt : Room := { frames := 0, cells := 0, slots := 0, locals := 0 }
abbrev wgX9_isInt : List Cond := .code yX9_isInt cX9_isInt 2 (some .boolean) :: TB
def wB_X9_isInt_21 (post : Int32 → Prop) (t0 : Int32) : Prop :=
  isB t0 ∧ (post t0)
def wB_X9_isInt_20 (post : Int32 → Prop) : Prop :=
  wB_X9_isInt_21 post 0
def wp_X9_isInt (post : Int32 → Prop) (x0 : Int64) : Prop :=
  (x0 < (-2147483648) → (wB_X9_isInt_20 post)) ∧ (¬ x0 < (-2147483648) → ((2147483647 < x0 → (wB_X9_isInt_20 post)) ∧ (¬ 2147483647 < x0 → (wB_X9_isInt_21 post 1))))
set_option maxHeartbeats 4000000 in
set_option maxRecDepth 100000 in
theorem kB_X9_isInt_21 {p : Program} {l : Launch} {e : Env} {s : State} {m : MethodId} {args : Array Value} {below : List Frame} {meth : Method} {c : Code} {A : Nat → Prop} {E : EnvT} {aK aV : Nat → Nat} (C : sCx p s m args meth c cX9_isInt 2 (some .boolean) wgX9_isInt RX9 E A) (vM : eMs aK aV E) {post : Int32 → Prop} :
    ∀ (t0 : Int32) (H : Heap) (locs : List Loc) (ls : Array Slot), va_S A s.heap H locs → lv_has ls 2 [] → wB_X9_isInt_21 post t0 → W p l e rm_X9_isInt s m args below meth c H locs 0 0 (MQ below (va_Qi (S := Unit) (fun r _ => post r) (fun _ _ => True) A) args s 0 0 A) (F0 m 21 ls [.int t0]) := by
  obtain ⟨hx, hb, hml, hr, hown, hts, hA, hlk, hE, vE⟩ := id C
  intro t0 H locs ls hG hl hw
  have hS := hG
  obtain ⟨h_1, hw⟩ := hw
  exact W.zret (v := t0) (ty := .boolean) hx hb hr (isB.n h_1) (fun t ht hW => ⟨⟨_, (), rfl, hw, trivial⟩, hS.F ht⟩) hS.2.2 dX9_isInt_21 hlk
set_option maxHeartbeats 4000000 in
set_option maxRecDepth 100000 in
theorem kB_X9_isInt_20 {p : Program} {l : Launch} {e : Env} {s : State} {m : MethodId} {args : Array Value} {below : List Frame} {meth : Method} {c : Code} {A : Nat → Prop} {E : EnvT} {aK aV : Nat → Nat} (C : sCx p s m args meth c cX9_isInt 2 (some .boolean) wgX9_isInt RX9 E A) (vM : eMs aK aV E) {post : Int32 → Prop} :
    ∀ (H : Heap) (locs : List Loc) (ls : Array Slot), va_S A s.heap H locs → lv_has ls 2 [] → wB_X9_isInt_20 post → W p l e rm_X9_isInt s m args below meth c H locs 0 0 (MQ below (va_Qi (S := Unit) (fun r _ => post r) (fun _ _ => True) A) args s 0 0 A) (F0 m 20 ls []) := by
  obtain ⟨hx, hb, hml, hr, hown, hts, hA, hlk, hE, vE⟩ := id C
  intro H locs ls hG hl hw
  have hS := hG
  refine lv_iconst (v := 0) hx hb dX9_isInt_20 (by decide) ?_
  exact kB_X9_isInt_21 C vM 0 _ _ _ hG (lv_sub hl [] rfl) hw
set_option maxHeartbeats 4000000 in
set_option maxRecDepth 100000 in
theorem k_X9_isInt {p : Program} {l : Launch} {e : Env} {s : State} {m : MethodId} {args : Array Value} {below : List Frame} {meth : Method} {c : Code} {A : Nat → Prop} {E : EnvT} {aK aV : Nat → Nat} (C : sCx p s m args meth c cX9_isInt 2 (some .boolean) wgX9_isInt RX9 E A) (vM : eMs aK aV E) {post : Int32 → Prop} :
    ∀ (x0 : Int64) (H : Heap) (locs : List Loc) (ls : Array Slot), va_S A s.heap H locs → lv_has ls 2 [(0, .long x0)] → wp_X9_isInt post x0 → W p l e rm_X9_isInt s m args below meth c H locs 0 0 (MQ below (va_Qi (S := Unit) (fun r _ => post r) (fun _ _ => True) A) args s 0 0 A) (F0 m 0 ls []) := by
  obtain ⟨hx, hb, hml, hr, hown, hts, hA, hlk, hE, vE⟩ := id C
  intro x0 H locs ls hG hl hw
  have hS := hG
  refine lv_lload_n hx hb dX9_isInt_0 rfl (lv_at hl 0 rfl) ?_
  refine lv_ldc2 (v := (-2147483648)) hx hb hown (hts _ (List.mem_cons_of_mem _ tw_6_24)) dX9_isInt_1 ?_
  refine W.lcmp hx hb dX9_isInt_4 ?_
  refine lv_if_lt (tgt := 20) hx hb dX9_isInt_5 (by decide) (fun q_ => ?_) (fun q_ => ?_)
  · have hw := hw.1 (lc_lt.mp q_)
    exact kB_X9_isInt_20 C vM  _ _ _ hG (lv_sub hl [] rfl) hw
  · have hw := hw.2 (fun z => q_ (lc_lt.mpr z))
    refine lv_lload_n hx hb dX9_isInt_8 rfl (lv_at hl 0 rfl) ?_
    refine lv_ldc2 (v := 2147483647) hx hb hown (hts _ (List.mem_cons_of_mem _ tw_6_25)) dX9_isInt_9 ?_
    refine W.lcmp hx hb dX9_isInt_12 ?_
    refine lv_if_gt (tgt := 20) hx hb dX9_isInt_13 (by decide) (fun q_ => ?_) (fun q_ => ?_)
    · have hw := hw.1 (lc_gt.mp q_)
      exact kB_X9_isInt_20 C vM  _ _ _ hG (lv_sub hl [] rfl) hw
    · have hw := hw.2 (fun z => q_ (lc_gt.mpr z))
      refine lv_iconst (v := 1) hx hb dX9_isInt_16 (by decide) ?_
      refine lv_goto (tgt := 21) hx hb dX9_isInt_17 (by decide) ?_
      exact kB_X9_isInt_21 C vM 1 _ _ _ hG (lv_sub hl [] rfl) hw
set_option maxHeartbeats 4000000 in
set_option maxRecDepth 100000 in
theorem met_X9_isInt {l : Launch} {E : EnvT} (vE : EnvOk E) {aK aV : Nat → Nat} (vM : eMs aK aV E) {sz : Nat} {x0 : Int64} {post : Int32 → Prop} (hw : wp_X9_isInt post x0) : Met l yX9_isInt wgX9_isInt rm_X9_isInt (va_Pc [.long x0] (sPre E sz)) (va_Qi (S := Unit) (fun r _ => post r) (fun _ _ => True) (va_A [] sz)) 0 0 (va_A [] sz) := by
  refine Met.ofW (cc := cX9_isInt) (maxL := 2) (ret := (some .boolean)) (by decide +kernel) rfl ?_
  intro p e s m args below meth c s₁ B hml hv
  obtain ⟨rfl, hsz, hE⟩ := hv
  subst hsz
  generalize hAe : va_A [] s.heap.size = A at hE ⊢
  have hA : ∀ q : Nat, s.heap.size ≤ q → A q := fun q h => by rw [← hAe]; exact Or.inr h
  have hS : va_S A s.heap s.heap [] := va_S.rf
  have C : sCx p s m _ meth c cX9_isInt 2 (some .boolean) wgX9_isInt RX9 E A := ⟨B.exec, B.bytes, hml, B.returns, findClass_of_methodNamed B.named, atoms_spec (ws := wgX9_isInt) B.pre, hA, B.notSynchronized, hE, vE⟩
  have hG := hS
  have hl := lv_entry ([.long x0]) (n := 2) (Nat.le_of_ble_eq_true rfl)
  rw [lg_entry_eq]
  generalize (lg_sl ([.long x0]) ++ List.replicate (2 - (lg_sl ([.long x0])).length) Slot.unset).toArray = ls at hl ⊢
  have hl : lv_has ls 2 [(0, .long x0)] := hl
  exact k_X9_isInt C vM x0 _ _ _ hG hl hw
