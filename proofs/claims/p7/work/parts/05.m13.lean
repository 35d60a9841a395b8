/-! ===== name ===== -/
def rm_X9_name : Room := { frames := 1, cells := 0, slots := 0, locals := 24 }
abbrev wgX9_name : List Cond := .code yX9_name cX9_name 4 (some .int) :: TB
def wB_X9_name_40 (post : Int32 → MS → Prop) (t0 : Int32) (σ : MS) : Prop :=
  post t0 σ
def wB_X9_name_21 (post : Int32 → MS → Prop) (x3 : Int32) (t0 : Int32) (σ : MS) : Prop :=
  (x3 = (-1) → (wB_X9_name_40 post 0 (wI σ 0 t0))) ∧ (¬ x3 = (-1) → (vp_in x3 800 ∧ (wB_X9_name_40 post ((mL σ 17 x3.toNatClampNeg).toInt32) (wI σ 0 t0))))
def wp_X9_name (post : Int32 → MS → Prop) (x1 : Int64) (σ : MS) : Prop :=
  wp_X9_find (fun r_1 σ_2 => (r_1 = (-1) → (wB_X9_name_21 post r_1 1 σ_2)) ∧ (¬ r_1 = (-1) → (wB_X9_name_21 post r_1 0 σ_2))) (mI σ 14) x1 σ
set_option maxHeartbeats 4000000 in
set_option maxRecDepth 100000 in
theorem kB_X9_name_40 {p : Program} {l : Launch} {e : Env} {s : State} {m : MethodId} {args : Array Value} {below : List Frame} {meth : Method} {c : Code} {A : Nat → Prop} {E : EnvT} {aK aV : Nat → Nat} {D : va_G} {cA : Nat → ClassId} {h : Nat} {ad : Nat → Nat} (C : mCx p s m args meth c cX9_name 4 (some .int) wgX9_name RX9 E D cA A) (vM : eMs aK aV E) {post : Int32 → MS → Prop} :
    ∀ (t0 : Int32) (σ : MS) (H : Heap) (locs : List Loc) (ls : Array Slot), mG D cA h ad A s σ H locs → lv_has ls 4 [] → wB_X9_name_40 post t0 σ → W p l e rm_X9_name s m args below meth c H locs 0 0 (MQ below (va_Qi post (mAt D cA h ad A) A) args s 0 0 A) (F0 m 40 ls [.int t0]) := by
  obtain ⟨hx, hb, hml, hr, hown, hts, hK, hA, hlk, hE, vE⟩ := id C
  intro t0 σ H locs ls hG hl hw
  obtain ⟨hP, hD, hS⟩ := id hG
  exact W.iret (v := t0) hx hb hr (fun t ht hW => ⟨⟨_, σ, rfl, hw, by rw [ht]; exact hP, va_K.moved hW.alike hK, hD⟩, hS.F ht⟩) hS.2.2 dX9_name_40 hlk
set_option maxHeartbeats 4000000 in
set_option maxRecDepth 100000 in
theorem kB_X9_name_21 {p : Program} {l : Launch} {e : Env} {s : State} {m : MethodId} {args : Array Value} {below : List Frame} {meth : Method} {c : Code} {A : Nat → Prop} {E : EnvT} {aK aV : Nat → Nat} {D : va_G} {cA : Nat → ClassId} {h : Nat} {ad : Nat → Nat} (C : mCx p s m args meth c cX9_name 4 (some .int) wgX9_name RX9 E D cA A) (vM : eMs aK aV E) {post : Int32 → MS → Prop} :
    ∀ (x3 : Int32) (t0 : Int32) (σ : MS) (H : Heap) (locs : List Loc) (ls : Array Slot), mG D cA h ad A s σ H locs → lv_has ls 4 [(0, .ref h), (3, .int x3)] → wB_X9_name_21 post x3 t0 σ → W p l e rm_X9_name s m args below meth c H locs 0 0 (MQ below (va_Qi post (mAt D cA h ad A) A) args s 0 0 A) (F0 m 21 ls [.int t0, .ref h]) := by
  obtain ⟨hx, hb, hml, hr, hown, hts, hK, hA, hlk, hE, vE⟩ := id C
  intro x3 t0 σ H locs ls hG hl hw
  obtain ⟨hP, hD, hS⟩ := id hG
  refine va_put (D := D) (ci := 11) (v := .int t0) (ty := .int) (C := RX9) (T := TX9) (N := 32) hx hb hts (in_tb inX9) tyX9 tyX9_ok nmX9 hown hK hP hD hS 0 rfl rfl 0 (by decide) (hts _ (List.mem_cons_of_mem _ tw_5_110)) (fun _ h9 => h9) rfl (by decide +kernel) rfl rfl (Nat.le_of_ble_eq_true rfl) dX9_name_21 (fun H locs hP hD hS => ?_)
  have hG : mG D cA h ad A s (wI σ 0 t0) H locs := ⟨hP, hD, hS⟩
  obtain ⟨hP, hD, hS⟩ := id hG
  refine lv_iload_n hx hb dX9_name_24 rfl (lv_at hl 1 rfl) ?_
  refine lv_iconst (v := (-1)) hx hb dX9_name_25 (by decide) ?_
  refine lv_icmp_ne (tgt := 33) hx hb dX9_name_26 (by decide) (fun q_ => ?_) (fun q_ => ?_)
  · have hw := hw.2 q_
    refine lv_aload_n hx hb dX9_name_33 rfl (lv_at hl 0 rfl) ?_
    refine va_get (D := D) (ci := 11) (v := .ref (ad 17)) (C := RX9) (T := TX9) (N := 32) hx hb hts (in_tb inX9) hown hK hP 0 rfl rfl 17 (by decide) (hts _ (List.mem_cons_of_mem _ tw_5_127)) (fun _ h9 => h9) rfl dX9_name_34 ?_
    refine lv_iload_n hx hb dX9_name_37 rfl (lv_at hl 1 rfl) ?_
    obtain ⟨h_3, hw⟩ := hw
    refine va_lald hx hb hK hP 9 1 rfl rfl h_3 dX9_name_38 ?_
    refine lv_l2i hx hb dX9_name_39 rfl ?_
    exact kB_X9_name_40 C vM ((mL σ 17 x3.toNatClampNeg).toInt32) (wI σ 0 t0) _ _ _ hG (lv_sub hl [] rfl) hw
  · have hw := hw.1 q_
    refine lv_iconst (v := 0) hx hb dX9_name_29 (by decide) ?_
    refine lv_goto (tgt := 40) hx hb dX9_name_30 (by decide) ?_
    exact kB_X9_name_40 C vM 0 (wI σ 0 t0) _ _ _ hG (lv_sub hl [] rfl) hw
set_option maxHeartbeats 4000000 in
set_option maxRecDepth 100000 in
theorem k_X9_name {p : Program} {l : Launch} {e : Env} {s : State} {m : MethodId} {args : Array Value} {below : List Frame} {meth : Method} {c : Code} {A : Nat → Prop} {E : EnvT} {aK aV : Nat → Nat} {D : va_G} {cA : Nat → ClassId} {h : Nat} {ad : Nat → Nat} (C : mCx p s m args meth c cX9_name 4 (some .int) wgX9_name RX9 E D cA A) (vM : eMs aK aV E) {post : Int32 → MS → Prop} :
    ∀ (x1 : Int64) (σ : MS) (H : Heap) (locs : List Loc) (ls : Array Slot), mG D cA h ad A s σ H locs → lv_has ls 4 [(0, .ref h), (1, .long x1)] → wp_X9_name post x1 σ → W p l e rm_X9_name s m args below meth c H locs 0 0 (MQ below (va_Qi post (mAt D cA h ad A) A) args s 0 0 A) (F0 m 0 ls []) := by
  obtain ⟨hx, hb, hml, hr, hown, hts, hK, hA, hlk, hE, vE⟩ := id C
  intro x1 σ H locs ls hG hl hw
  obtain ⟨hP, hD, hS⟩ := id hG
  refine lv_aload_n hx hb dX9_name_0 rfl (lv_at hl 0 rfl) ?_
  refine lv_aload_n hx hb dX9_name_1 rfl (lv_at hl 0 rfl) ?_
  refine va_get (D := D) (ci := 11) (v := .int (mI σ 14)) (C := RX9) (T := TX9) (N := 32) hx hb hts (in_tb inX9) hown hK hP 0 rfl rfl 14 (by decide) (hts _ (List.mem_cons_of_mem _ tw_5_124)) (fun _ h9 => h9) rfl dX9_name_2 ?_
  refine lv_lload_n hx hb dX9_name_5 rfl (lv_at hl 1 rfl) ?_
  refine mV_i (As := [.int (mI σ 14), .long x1]) (rest := []) C (met_X9_find vE vM hw) (va_recv hK hP (ci := 11) (q0 := 0) rfl rfl) (cwV 2 hts (TB_G (TB_4 tw_6_35 tw_6_37 ts_37 tw_1_13) tw_6_38) rfl rfl rfl (by decide +kernel) ⟨by decide, by decide⟩) hP hD hS rfl hl.1 rfl (Nat.le_of_ble_eq_true rfl) dX9_name_6 ⟨by decide, by decide⟩ (fun r_1 σ_2 H locs hw hP hD hS => ?_)
  have hG : mG D cA h ad A s σ_2 H locs := ⟨hP, hD, hS⟩
  refine lv_istore_n (lv' := [(3, .int r_1), (0, .ref h), (1, .long x1)]) hx hb dX9_name_9 rfl hl (by decide) rfl (fun ls hl => ?_)
  refine lv_aload_n hx hb dX9_name_10 rfl (lv_at hl 1 rfl) ?_
  refine lv_iload_n hx hb dX9_name_11 rfl (lv_at hl 0 rfl) ?_
  refine lv_iconst (v := (-1)) hx hb dX9_name_12 (by decide) ?_
  refine lv_icmp_ne (tgt := 20) hx hb dX9_name_13 (by decide) (fun q_ => ?_) (fun q_ => ?_)
  · have hw := hw.2 q_
    refine lv_iconst (v := 0) hx hb dX9_name_20 (by decide) ?_
    exact kB_X9_name_21 C vM r_1 0 σ_2 _ _ _ hG (lv_sub hl [1, 0] rfl) hw
  · have hw := hw.1 q_
    refine lv_iconst (v := 1) hx hb dX9_name_16 (by decide) ?_
    refine lv_goto (tgt := 21) hx hb dX9_name_17 (by decide) ?_
    exact kB_X9_name_21 C vM r_1 1 σ_2 _ _ _ hG (lv_sub hl [1, 0] rfl) hw
set_option maxHeartbeats 4000000 in
set_option maxRecDepth 100000 in
theorem met_X9_name {l : Launch} {E : EnvT} (vE : EnvOk E) {D : va_G} {cA : Nat → ClassId} {h : Nat} {ad : Nat → Nat} {σ : MS} {aK aV : Nat → Nat} (vM : eMs aK aV E) {sz : Nat} {x1 : Int64} {post : Int32 → MS → Prop} (hw : wp_X9_name post x1 σ) : Met l yX9_name wgX9_name rm_X9_name (va_Pc [.ref h, .long x1] (mPre E D cA h ad sz σ)) (va_Qi post (mAt D cA h ad (va_A (mW cA h ad σ) sz)) (va_A (mW cA h ad σ) sz)) 0 0 (va_A (mW cA h ad σ) sz) := by
  refine Met.ofW (cc := cX9_name) (maxL := 4) (ret := (some .int)) (by decide +kernel) rfl ?_
  intro p e s m args below meth c s₁ B hml hv
  obtain ⟨rfl, hsz, hP, hK, hD0, hE⟩ := hv
  subst hsz
  have hD := hD0.self (sz := s.heap.size)
  generalize hAe : va_A (mW cA h ad σ) s.heap.size = A at hD hE ⊢
  have hA : ∀ q : Nat, s.heap.size ≤ q → A q := fun q h => by rw [← hAe]; exact Or.inr h
  have hS : va_S A s.heap s.heap [] := va_S.rf
  have C : mCx p s m _ meth c cX9_name 4 (some .int) wgX9_name RX9 E D cA A := ⟨B.exec, B.bytes, hml, B.returns, findClass_of_methodNamed B.named, atoms_spec (ws := wgX9_name) B.pre, hK, hA, B.notSynchronized, hE, vE⟩
  have hG : mG D cA h ad A s σ s.heap [] := ⟨hP, hD, hS⟩
  have hl := lv_entry ([.ref h, .long x1]) (n := 4) (Nat.le_of_ble_eq_true rfl)
  rw [lg_entry_eq]
  generalize (lg_sl ([.ref h, .long x1]) ++ List.replicate (4 - (lg_sl ([.ref h, .long x1])).length) Slot.unset).toArray = ls at hl ⊢
  have hl : lv_has ls 4 [(0, .ref h), (1, .long x1)] := hl
  exact k_X9_name C vM x1 σ _ _ _ hG hl hw
/-! ===== isGuarded ===== -/
def rm_X9_isGuarded : Room := { frames := 1, cells := 0, slots := 0, locals := 21 }
abbrev wgX9_isGuarded : List Cond := .code yX9_isGuarded cX9_isGuarded 2 (some .boolean) :: TB
def wB_X9_isGuarded_17 (post : Int32 → MS → Prop) (t0 : Int32) (σ : MS) : Prop :=
  isB t0 ∧ (post t0 σ)
def wp_X9_isGuarded (post : Int32 → MS → Prop) (x1 : Int32) (σ : MS) : Prop :=
  vp_in x1 64 ∧ (wp_X9_g (fun r_2  => (r_2 ≤ 0 → (wB_X9_isGuarded_17 post 0 σ)) ∧ (¬ r_2 ≤ 0 → (wB_X9_isGuarded_17 post 1 σ))) (mL σ 10 x1.toNatClampNeg))
set_option maxHeartbeats 4000000 in
set_option maxRecDepth 100000 in
theorem kB_X9_isGuarded_17 {p : Program} {l : Launch} {e : Env} {s : State} {m : MethodId} {args : Array Value} {below : List Frame} {meth : Method} {c : Code} {A : Nat → Prop} {E : EnvT} {aK aV : Nat → Nat} {D : va_G} {cA : Nat → ClassId} {h : Nat} {ad : Nat → Nat} (C : mCx p s m args meth c cX9_isGuarded 2 (some .boolean) wgX9_isGuarded RX9 E D cA A) (vM : eMs aK aV E) {post : Int32 → MS → Prop} :
    ∀ (t0 : Int32) (σ : MS) (H : Heap) (locs : List Loc) (ls : Array Slot), mG D cA h ad A s σ H locs → lv_has ls 2 [] → wB_X9_isGuarded_17 post t0 σ → W p l e rm_X9_isGuarded s m args below meth c H locs 0 0 (MQ below (va_Qi post (mAt D cA h ad A) A) args s 0 0 A) (F0 m 17 ls [.int t0]) := by
  obtain ⟨hx, hb, hml, hr, hown, hts, hK, hA, hlk, hE, vE⟩ := id C
  intro t0 σ H locs ls hG hl hw
  obtain ⟨hP, hD, hS⟩ := id hG
  obtain ⟨h_4, hw⟩ := hw
  exact W.zret (v := t0) (ty := .boolean) hx hb hr (isB.n h_4) (fun t ht hW => ⟨⟨_, σ, rfl, hw, by rw [ht]; exact hP, va_K.moved hW.alike hK, hD⟩, hS.F ht⟩) hS.2.2 dX9_isGuarded_17 hlk
set_option maxHeartbeats 4000000 in
set_option maxRecDepth 100000 in
theorem k_X9_isGuarded {p : Program} {l : Launch} {e : Env} {s : State} {m : MethodId} {args : Array Value} {below : List Frame} {meth : Method} {c : Code} {A : Nat → Prop} {E : EnvT} {aK aV : Nat → Nat} {D : va_G} {cA : Nat → ClassId} {h : Nat} {ad : Nat → Nat} (C : mCx p s m args meth c cX9_isGuarded 2 (some .boolean) wgX9_isGuarded RX9 E D cA A) (vM : eMs aK aV E) {post : Int32 → MS → Prop} :
    ∀ (x1 : Int32) (σ : MS) (H : Heap) (locs : List Loc) (ls : Array Slot), mG D cA h ad A s σ H locs → lv_has ls 2 [(0, .ref h), (1, .int x1)] → wp_X9_isGuarded post x1 σ → W p l e rm_X9_isGuarded s m args below meth c H locs 0 0 (MQ below (va_Qi post (mAt D cA h ad A) A) args s 0 0 A) (F0 m 0 ls []) := by
  obtain ⟨hx, hb, hml, hr, hown, hts, hK, hA, hlk, hE, vE⟩ := id C
  intro x1 σ H locs ls hG hl hw
  obtain ⟨hP, hD, hS⟩ := id hG
  refine lv_aload_n hx hb dX9_isGuarded_0 rfl (lv_at hl 0 rfl) ?_
  refine va_get (D := D) (ci := 11) (v := .ref (ad 10)) (C := RX9) (T := TX9) (N := 32) hx hb hts (in_tb inX9) hown hK hP 0 rfl rfl 10 (by decide) (hts _ (List.mem_cons_of_mem _ tw_5_120)) (fun _ h9 => h9) rfl dX9_isGuarded_1 ?_
  refine lv_iload_n hx hb dX9_isGuarded_4 rfl (lv_at hl 1 rfl) ?_
  obtain ⟨h_1, hw⟩ := hw
  refine va_lald hx hb hK hP 5 1 rfl rfl h_1 dX9_isGuarded_5 ?_
  refine mS_i (As := [.long (mL σ 10 x1.toNatClampNeg)]) (rest := []) C (met_X9_g vE vM hw) (va_cwS 1 hts (TB_G (TB_3 tw_6_129 tw_6_130 tw_1_13) tw_6_131) rfl rfl rfl (by decide +kernel) ⟨by decide, by decide⟩) hP hD hS rfl hl.1 rfl (Nat.le_of_ble_eq_true rfl) dX9_isGuarded_6 ⟨by decide, by decide⟩ (fun r_2 H locs hw hP hS => ?_)
  have hG : mG D cA h ad A s σ H locs := ⟨hP, hD, hS⟩
  refine lv_if_le (tgt := 16) hx hb dX9_isGuarded_9 (by decide) (fun q_ => ?_) (fun q_ => ?_)
  · have hw := hw.1 q_
    refine lv_iconst (v := 0) hx hb dX9_isGuarded_16 (by decide) ?_
    exact kB_X9_isGuarded_17 C vM 0 σ _ _ _ hG (lv_sub hl [] rfl) hw
  · have hw := hw.2 q_
    refine lv_iconst (v := 1) hx hb dX9_isGuarded_12 (by decide) ?_
    refine lv_goto (tgt := 17) hx hb dX9_isGuarded_13 (by decide) ?_
    exact kB_X9_isGuarded_17 C vM 1 σ _ _ _ hG (lv_sub hl [] rfl) hw
set_option maxHeartbeats 4000000 in
set_option maxRecDepth 100000 in
theorem met_X9_isGuarded {l : Launch} {E : EnvT} (vE : EnvOk E) {D : va_G} {cA : Nat → ClassId} {h : Nat} {ad : Nat → Nat} {σ : MS} {aK aV : Nat → Nat} (vM : eMs aK aV E) {sz : Nat} {x1 : Int32} {post : Int32 → MS → Prop} (hw : wp_X9_isGuarded post x1 σ) : Met l yX9_isGuarded wgX9_isGuarded rm_X9_isGuarded (va_Pc [.ref h, .int x1] (mPre E D cA h ad sz σ)) (va_Qi post (mAt D cA h ad (va_A (mW cA h ad σ) sz)) (va_A (mW cA h ad σ) sz)) 0 0 (va_A (mW cA h ad σ) sz) := by
  refine Met.ofW (cc := cX9_isGuarded) (maxL := 2) (ret := (some .boolean)) (by decide +kernel) rfl ?_
  intro p e s m args below meth c s₁ B hml hv
  obtain ⟨rfl, hsz, hP, hK, hD0, hE⟩ := hv
  subst hsz
  have hD := hD0.self (sz := s.heap.size)
  generalize hAe : va_A (mW cA h ad σ) s.heap.size = A at hD hE ⊢
  have hA : ∀ q : Nat, s.heap.size ≤ q → A q := fun q h => by rw [← hAe]; exact Or.inr h
  have hS : va_S A s.heap s.heap [] := va_S.rf
  have C : mCx p s m _ meth c cX9_isGuarded 2 (some .boolean) wgX9_isGuarded RX9 E D cA A := ⟨B.exec, B.bytes, hml, B.returns, findClass_of_methodNamed B.named, atoms_spec (ws := wgX9_isGuarded) B.pre, hK, hA, B.notSynchronized, hE, vE⟩
  have hG : mG D cA h ad A s σ s.heap [] := ⟨hP, hD, hS⟩
  have hl := lv_entry ([.ref h, .int x1]) (n := 2) (Nat.le_of_ble_eq_true rfl)
  rw [lg_entry_eq]
  generalize (lg_sl ([.ref h, .int x1]) ++ List.replicate (2 - (lg_sl ([.ref h, .int x1])).length) Slot.unset).toArray = ls at hl ⊢
  have hl : lv_has ls 2 [(0, .ref h), (1, .int x1)] := hl
  exact k_X9_isGuarded C vM x1 σ _ _ _ hG hl hw
/-! ===== wayOf ===== -/
def rm_X9_wayOf : Room := { frames := 7, cells := 0, slots := 0, locals := 156 }
abbrev wgX9_wayOf : List Cond := .code yX9_wayOf cX9_wayOf 6 (some .int) :: TB
def wB_X9_wayOf_111 (post : Int32 → MS → Prop) (t0 : Int32) (σ : MS) : Prop :=
  post t0 σ
def wB_X9_wayOf_109 (post : Int32 → MS → Prop) (σ : MS) : Prop :=
  wB_X9_wayOf_111 post (-2) σ
def wB_X9_wayOf_100 (post : Int32 → MS → Prop) (x1 : Int32) (t0 : Int32) (t1 : Int32) (σ : MS) : Prop :=
  (t1 = t0 → (wB_X9_wayOf_111 post (x1 + 1) σ)) ∧ (¬ t1 = t0 → (wB_X9_wayOf_109 post σ))
def wB_X9_wayOf_81 (post : Int32 → MS → Prop) (x1 : Int32) (x2 : Int32) (x5 : Int32) (σ : MS) : Prop :=
  wp_X9_isGuarded (fun r_6 σ_7 => (r_6 = 0 → (wB_X9_wayOf_109 post σ_7)) ∧ (¬ r_6 = 0 → ((x5 = 0 → (wB_X9_wayOf_100 post x1 0 x2 σ_7)) ∧ (¬ x5 = 0 → (wB_X9_wayOf_100 post x1 1 x2 σ_7))))) x1 σ
def wB_X9_wayOf_124 (post : Int32 → MS → Prop) (t0 : Int32) (σ : MS) : Prop :=
  post t0 σ
def wB_X9_wayOf_64 (post : Int32 → MS → Prop) (x1 : Int32) (x2 : Int32) (x4 : Int32) (x5 : Int32) (σ : MS) : Prop :=
  (x4 = 0 → (wB_X9_wayOf_81 post x1 x2 x5 σ)) ∧ (¬ x4 = 0 → ((x5 = 0 → ((x4 = 42 → (wB_X9_wayOf_81 post x1 x2 x5 σ)) ∧ (¬ x4 = 42 → ((x2 = 0 → (wB_X9_wayOf_124 post (x1 + 1) σ)) ∧ (¬ x2 = 0 → (wB_X9_wayOf_124 post (-2) σ)))))) ∧ (¬ x5 = 0 → (wB_X9_wayOf_81 post x1 x2 x5 σ))))
def wB_X9_wayOf_43 (post : Int32 → MS → Prop) (x1 : Int32) (x2 : Int32) (x4 : Int32) (t0 : Int32) (σ : MS) : Prop :=
  (t0 = 0 → (wB_X9_wayOf_64 post x1 x2 x4 t0 σ)) ∧ (¬ t0 = 0 → ((x2 = 0 → (vp_in x1 64 ∧ (wp_X9_n (fun r_9  => post r_9 σ) (mL σ 10 x1.toNatClampNeg)))) ∧ (¬ x2 = 0 → (wB_X9_wayOf_64 post x1 x2 x4 t0 σ))))
def wB_X9_wayOf_38 (post : Int32 → MS → Prop) (x1 : Int32) (x2 : Int32) (x4 : Int32) (σ : MS) : Prop :=
  wB_X9_wayOf_43 post x1 x2 x4 1 σ
def wp_X9_wayOf (post : Int32 → MS → Prop) (x1 : Int32) (x2 : Int32) (σ : MS) : Prop :=
  vp_in x1 64 ∧ (wp_X9_listed (fun r_2  => (r_2 = (-1) → (post (-2) σ)) ∧ (¬ r_2 = (-1) → (wp_X9_opOf (fun r_4  => (r_4 = 40 → (wB_X9_wayOf_38 post x1 x2 r_4 σ)) ∧ (¬ r_4 = 40 → ((r_4 = 41 → (wB_X9_wayOf_38 post x1 x2 r_4 σ)) ∧ (¬ r_4 = 41 → (wB_X9_wayOf_43 post x1 x2 r_4 0 σ))))) r_2))) (mL σ 10 x1.toNatClampNeg))
set_option maxHeartbeats 4000000 in
set_option maxRecDepth 100000 in
theorem kB_X9_wayOf_111 {p : Program} {l : Launch} {e : Env} {s : State} {m : MethodId} {args : Array Value} {below : List Frame} {meth : Method} {c : Code} {A : Nat → Prop} {E : EnvT} {aK aV : Nat → Nat} {D : va_G} {cA : Nat → ClassId} {h : Nat} {ad : Nat → Nat} (C : mCx p s m args meth c cX9_wayOf 6 (some .int) wgX9_wayOf RX9 E D cA A) (vM : eMs aK aV E) {post : Int32 → MS → Prop} :
    ∀ (t0 : Int32) (σ : MS) (H : Heap) (locs : List Loc) (ls : Array Slot), mG D cA h ad A s σ H locs → lv_has ls 6 [] → wB_X9_wayOf_111 post t0 σ → W p l e rm_X9_wayOf s m args below meth c H locs 0 0 (MQ below (va_Qi post (mAt D cA h ad A) A) args s 0 0 A) (F0 m 111 ls [.int t0]) := by
  obtain ⟨hx, hb, hml, hr, hown, hts, hK, hA, hlk, hE, vE⟩ := id C
  intro t0 σ H locs ls hG hl hw
  obtain ⟨hP, hD, hS⟩ := id hG
  exact W.iret (v := t0) hx hb hr (fun t ht hW => ⟨⟨_, σ, rfl, hw, by rw [ht]; exact hP, va_K.moved hW.alike hK, hD⟩, hS.F ht⟩) hS.2.2 dX9_wayOf_111 hlk
set_option maxHeartbeats 4000000 in
set_option maxRecDepth 100000 in
theorem kB_X9_wayOf_109 {p : Program} {l : Launch} {e : Env} {s : State} {m : MethodId} {args : Array Value} {below : List Frame} {meth : Method} {c : Code} {A : Nat → Prop} {E : EnvT} {aK aV : Nat → Nat} {D : va_G} {cA : Nat → ClassId} {h : Nat} {ad : Nat → Nat} (C : mCx p s m args meth c cX9_wayOf 6 (some .int) wgX9_wayOf RX9 E D cA A) (vM : eMs aK aV E) {post : Int32 → MS → Prop} :
    ∀ (σ : MS) (H : Heap) (locs : List Loc) (ls : Array Slot), mG D cA h ad A s σ H locs → lv_has ls 6 [] → wB_X9_wayOf_109 post σ → W p l e rm_X9_wayOf s m args below meth c H locs 0 0 (MQ below (va_Qi post (mAt D cA h ad A) A) args s 0 0 A) (F0 m 109 ls []) := by
  obtain ⟨hx, hb, hml, hr, hown, hts, hK, hA, hlk, hE, vE⟩ := id C
  intro σ H locs ls hG hl hw
  obtain ⟨hP, hD, hS⟩ := id hG
  refine lv_bipush (v := (-2)) hx hb dX9_wayOf_109 (by decide) ?_
  exact kB_X9_wayOf_111 C vM (-2) σ _ _ _ hG (lv_sub hl [] rfl) hw
set_option maxHeartbeats 4000000 in
set_option maxRecDepth 100000 in
theorem kB_X9_wayOf_100 {p : Program} {l : Launch} {e : Env} {s : State} {m : MethodId} {args : Array Value} {below : List Frame} {meth : Method} {c : Code} {A : Nat → Prop} {E : EnvT} {aK aV : Nat → Nat} {D : va_G} {cA : Nat → ClassId} {h : Nat} {ad : Nat → Nat} (C : mCx p s m args meth c cX9_wayOf 6 (some .int) wgX9_wayOf RX9 E D cA A) (vM : eMs aK aV E) {post : Int32 → MS → Prop} :
    ∀ (x1 : Int32) (t0 : Int32) (t1 : Int32) (σ : MS) (H : Heap) (locs : List Loc) (ls : Array Slot), mG D cA h ad A s σ H locs → lv_has ls 6 [(1, .int x1)] → wB_X9_wayOf_100 post x1 t0 t1 σ → W p l e rm_X9_wayOf s m args below meth c H locs 0 0 (MQ below (va_Qi post (mAt D cA h ad A) A) args s 0 0 A) (F0 m 100 ls [.int t0, .int t1]) := by
  obtain ⟨hx, hb, hml, hr, hown, hts, hK, hA, hlk, hE, vE⟩ := id C
  intro x1 t0 t1 σ H locs ls hG hl hw
  obtain ⟨hP, hD, hS⟩ := id hG
  refine lv_icmp_ne (tgt := 109) hx hb dX9_wayOf_100 (by decide) (fun q_ => ?_) (fun q_ => ?_)
  · have hw := hw.2 q_
    exact kB_X9_wayOf_109 C vM  σ _ _ _ hG (lv_sub hl [] rfl) hw
  · have hw := hw.1 q_
    refine lv_iload_n hx hb dX9_wayOf_103 rfl (lv_at hl 0 rfl) ?_
    refine lv_iconst (v := 1) hx hb dX9_wayOf_104 (by decide) ?_
    refine lv_iadd hx hb dX9_wayOf_105 ?_
    refine lv_goto (tgt := 111) hx hb dX9_wayOf_106 (by decide) ?_
    exact kB_X9_wayOf_111 C vM (x1 + 1) σ _ _ _ hG (lv_sub hl [] rfl) hw
set_option maxHeartbeats 4000000 in
set_option maxRecDepth 100000 in
theorem kB_X9_wayOf_81 {p : Program} {l : Launch} {e : Env} {s : State} {m : MethodId} {args : Array Value} {below : List Frame} {meth : Method} {c : Code} {A : Nat → Prop} {E : EnvT} {aK aV : Nat → Nat} {D : va_G} {cA : Nat → ClassId} {h : Nat} {ad : Nat → Nat} (C : mCx p s m args meth c cX9_wayOf 6 (some .int) wgX9_wayOf RX9 E D cA A) (vM : eMs aK aV E) {post : Int32 → MS → Prop} :
    ∀ (x1 : Int32) (x2 : Int32) (x5 : Int32) (σ : MS) (H : Heap) (locs : List Loc) (ls : Array Slot), mG D cA h ad A s σ H locs → lv_has ls 6 [(0, .ref h), (1, .int x1), (2, .int x2), (5, .int x5)] → wB_X9_wayOf_81 post x1 x2 x5 σ → W p l e rm_X9_wayOf s m args below meth c H locs 0 0 (MQ below (va_Qi post (mAt D cA h ad A) A) args s 0 0 A) (F0 m 81 ls []) := by
  obtain ⟨hx, hb, hml, hr, hown, hts, hK, hA, hlk, hE, vE⟩ := id C
  intro x1 x2 x5 σ H locs ls hG hl hw
  obtain ⟨hP, hD, hS⟩ := id hG
  refine lv_aload_n hx hb dX9_wayOf_81 rfl (lv_at hl 0 rfl) ?_
  refine lv_iload_n hx hb dX9_wayOf_82 rfl (lv_at hl 1 rfl) ?_
  refine mV_i (As := [.int x1]) (rest := []) C (met_X9_isGuarded vE vM hw) (va_recv hK hP (ci := 11) (q0 := 0) rfl rfl) (cwV 1 hts (TB_G (TB_4 tw_6_170 tw_6_172 ts_51 tw_1_13) tw_6_173) rfl rfl rfl (by decide +kernel) ⟨by decide, by decide⟩) hP hD hS rfl hl.1 rfl (Nat.le_of_ble_eq_true rfl) dX9_wayOf_83 ⟨by decide, by decide⟩ (fun r_6 σ_7 H locs hw hP hD hS => ?_)
  have hG : mG D cA h ad A s σ_7 H locs := ⟨hP, hD, hS⟩
  refine lv_if_eq (tgt := 109) hx hb dX9_wayOf_86 (by decide) (fun q_ => ?_) (fun q_ => ?_)
  · have hw := hw.1 q_
    exact kB_X9_wayOf_109 C vM  σ_7 _ _ _ hG (lv_sub hl [] rfl) hw
  · have hw := hw.2 q_
    refine lv_iload_n hx hb dX9_wayOf_89 rfl (lv_at hl 2 rfl) ?_
    refine lv_iload hx hb dX9_wayOf_90 (lv_at hl 3 rfl) ?_
    refine lv_if_eq (tgt := 99) hx hb dX9_wayOf_92 (by decide) (fun q_ => ?_) (fun q_ => ?_)
    · have hw := hw.1 q_
      refine lv_iconst (v := 0) hx hb dX9_wayOf_99 (by decide) ?_
      exact kB_X9_wayOf_100 C vM x1 0 x2 σ_7 _ _ _ hG (lv_sub hl [1] rfl) hw
    · have hw := hw.2 q_
      refine lv_iconst (v := 1) hx hb dX9_wayOf_95 (by decide) ?_
      refine lv_goto (tgt := 100) hx hb dX9_wayOf_96 (by decide) ?_
      exact kB_X9_wayOf_100 C vM x1 1 x2 σ_7 _ _ _ hG (lv_sub hl [1] rfl) hw
set_option maxHeartbeats 4000000 in
set_option maxRecDepth 100000 in
theorem kB_X9_wayOf_124 {p : Program} {l : Launch} {e : Env} {s : State} {m : MethodId} {args : Array Value} {below : List Frame} {meth : Method} {c : Code} {A : Nat → Prop} {E : EnvT} {aK aV : Nat → Nat} {D : va_G} {cA : Nat → ClassId} {h : Nat} {ad : Nat → Nat} (C : mCx p s m args meth c cX9_wayOf 6 (some .int) wgX9_wayOf RX9 E D cA A) (vM : eMs aK aV E) {post : Int32 → MS → Prop} :
    ∀ (t0 : Int32) (σ : MS) (H : Heap) (locs : List Loc) (ls : Array Slot), mG D cA h ad A s σ H locs → lv_has ls 6 [] → wB_X9_wayOf_124 post t0 σ → W p l e rm_X9_wayOf s m args below meth c H locs 0 0 (MQ below (va_Qi post (mAt D cA h ad A) A) args s 0 0 A) (F0 m 124 ls [.int t0]) := by
  obtain ⟨hx, hb, hml, hr, hown, hts, hK, hA, hlk, hE, vE⟩ := id C
  intro t0 σ H locs ls hG hl hw
  obtain ⟨hP, hD, hS⟩ := id hG
  exact W.iret (v := t0) hx hb hr (fun t ht hW => ⟨⟨_, σ, rfl, hw, by rw [ht]; exact hP, va_K.moved hW.alike hK, hD⟩, hS.F ht⟩) hS.2.2 dX9_wayOf_124 hlk
set_option maxHeartbeats 4000000 in
set_option maxRecDepth 100000 in
theorem kB_X9_wayOf_64 {p : Program} {l : Launch} {e : Env} {s : State} {m : MethodId} {args : Array Value} {below : List Frame} {meth : Method} {c : Code} {A : Nat → Prop} {E : EnvT} {aK aV : Nat → Nat} {D : va_G} {cA : Nat → ClassId} {h : Nat} {ad : Nat → Nat} (C : mCx p s m args meth c cX9_wayOf 6 (some .int) wgX9_wayOf RX9 E D cA A) (vM : eMs aK aV E) {post : Int32 → MS → Prop} :
    ∀ (x1 : Int32) (x2 : Int32) (x4 : Int32) (x5 : Int32) (σ : MS) (H : Heap) (locs : List Loc) (ls : Array Slot), mG D cA h ad A s σ H locs → lv_has ls 6 [(0, .ref h), (1, .int x1), (2, .int x2), (4, .int x4), (5, .int x5)] → wB_X9_wayOf_64 post x1 x2 x4 x5 σ → W p l e rm_X9_wayOf s m args below meth c H locs 0 0 (MQ below (va_Qi post (mAt D cA h ad A) A) args s 0 0 A) (F0 m 64 ls []) := by
  obtain ⟨hx, hb, hml, hr, hown, hts, hK, hA, hlk, hE, vE⟩ := id C
  intro x1 x2 x4 x5 σ H locs ls hG hl hw
  obtain ⟨hP, hD, hS⟩ := id hG
  refine lv_iload hx hb dX9_wayOf_64 (lv_at hl 3 rfl) ?_
  refine lv_if_eq (tgt := 81) hx hb dX9_wayOf_66 (by decide) (fun q_ => ?_) (fun q_ => ?_)
  · have hw := hw.1 q_
    exact kB_X9_wayOf_81 C vM x1 x2 x5 σ _ _ _ hG (lv_sub hl [0, 1, 2, 4] rfl) hw
  · have hw := hw.2 q_
    refine lv_iload hx hb dX9_wayOf_69 (lv_at hl 4 rfl) ?_
    refine lv_if_ne (tgt := 81) hx hb dX9_wayOf_71 (by decide) (fun q_ => ?_) (fun q_ => ?_)
    · have hw := hw.2 q_
      exact kB_X9_wayOf_81 C vM x1 x2 x5 σ _ _ _ hG (lv_sub hl [0, 1, 2, 4] rfl) hw
    · have hw := hw.1 q_
      refine lv_iload hx hb dX9_wayOf_74 (lv_at hl 3 rfl) ?_
      refine lv_bipush (v := 42) hx hb dX9_wayOf_76 (by decide) ?_
      refine lv_icmp_ne (tgt := 112) hx hb dX9_wayOf_78 (by decide) (fun q_ => ?_) (fun q_ => ?_)
      · have hw := hw.2 q_
        refine lv_iload_n hx hb dX9_wayOf_112 rfl (lv_at hl 2 rfl) ?_
        refine lv_if_ne (tgt := 122) hx hb dX9_wayOf_113 (by decide) (fun q_ => ?_) (fun q_ => ?_)
        · have hw := hw.2 q_
          refine lv_bipush (v := (-2)) hx hb dX9_wayOf_122 (by decide) ?_
          exact kB_X9_wayOf_124 C vM (-2) σ _ _ _ hG (lv_sub hl [] rfl) hw
        · have hw := hw.1 q_
          refine lv_iload_n hx hb dX9_wayOf_116 rfl (lv_at hl 1 rfl) ?_
          refine lv_iconst (v := 1) hx hb dX9_wayOf_117 (by decide) ?_
          refine lv_iadd hx hb dX9_wayOf_118 ?_
          refine lv_goto (tgt := 124) hx hb dX9_wayOf_119 (by decide) ?_
          exact kB_X9_wayOf_124 C vM (x1 + 1) σ _ _ _ hG (lv_sub hl [] rfl) hw
      · have hw := hw.1 q_
        exact kB_X9_wayOf_81 C vM x1 x2 x5 σ _ _ _ hG (lv_sub hl [0, 1, 2, 4] rfl) hw
set_option maxHeartbeats 4000000 in
set_option maxRecDepth 100000 in
theorem kB_X9_wayOf_43 {p : Program} {l : Launch} {e : Env} {s : State} {m : MethodId} {args : Array Value} {below : List Frame} {meth : Method} {c : Code} {A : Nat → Prop} {E : EnvT} {aK aV : Nat → Nat} {D : va_G} {cA : Nat → ClassId} {h : Nat} {ad : Nat → Nat} (C : mCx p s m args meth c cX9_wayOf 6 (some .int) wgX9_wayOf RX9 E D cA A) (vM : eMs aK aV E) {post : Int32 → MS → Prop} :
    ∀ (x1 : Int32) (x2 : Int32) (x4 : Int32) (t0 : Int32) (σ : MS) (H : Heap) (locs : List Loc) (ls : Array Slot), mG D cA h ad A s σ H locs → lv_has ls 6 [(0, .ref h), (1, .int x1), (2, .int x2), (4, .int x4)] → wB_X9_wayOf_43 post x1 x2 x4 t0 σ → W p l e rm_X9_wayOf s m args below meth c H locs 0 0 (MQ below (va_Qi post (mAt D cA h ad A) A) args s 0 0 A) (F0 m 43 ls [.int t0]) := by
  obtain ⟨hx, hb, hml, hr, hown, hts, hK, hA, hlk, hE, vE⟩ := id C
  intro x1 x2 x4 t0 σ H locs ls hG hl hw
  obtain ⟨hP, hD, hS⟩ := id hG
  refine lv_istore (lv' := [(5, .int t0), (0, .ref h), (1, .int x1), (2, .int x2), (4, .int x4)]) hx hb dX9_wayOf_43 hl (by decide) rfl (fun ls hl => ?_)
  refine lv_iload hx hb dX9_wayOf_45 (lv_at hl 0 rfl) ?_
  refine lv_if_eq (tgt := 64) hx hb dX9_wayOf_47 (by decide) (fun q_ => ?_) (fun q_ => ?_)
  · have hw := hw.1 q_
    exact kB_X9_wayOf_64 C vM x1 x2 x4 t0 σ _ _ _ hG (lv_sub hl [1, 2, 3, 4, 0] rfl) hw
  · have hw := hw.2 q_
    refine lv_iload_n hx hb dX9_wayOf_50 rfl (lv_at hl 3 rfl) ?_
    refine lv_if_ne (tgt := 64) hx hb dX9_wayOf_51 (by decide) (fun q_ => ?_) (fun q_ => ?_)
    · have hw := hw.2 q_
      exact kB_X9_wayOf_64 C vM x1 x2 x4 t0 σ _ _ _ hG (lv_sub hl [1, 2, 3, 4, 0] rfl) hw
    · have hw := hw.1 q_
      refine lv_aload_n hx hb dX9_wayOf_54 rfl (lv_at hl 1 rfl) ?_
      refine va_get (D := D) (ci := 11) (v := .ref (ad 10)) (C := RX9) (T := TX9) (N := 32) hx hb hts (in_tb inX9) hown hK hP 0 rfl rfl 10 (by decide) (hts _ (List.mem_cons_of_mem _ tw_5_120)) (fun _ h9 => h9) rfl dX9_wayOf_55 ?_
      refine lv_iload_n hx hb dX9_wayOf_58 rfl (lv_at hl 2 rfl) ?_
      obtain ⟨h_8, hw⟩ := hw
      refine va_lald hx hb hK hP 5 1 rfl rfl h_8 dX9_wayOf_59 ?_
      refine mS_i (As := [.long (mL σ 10 x1.toNatClampNeg)]) (rest := []) C (met_X9_n vE vM hw) (va_cwS 1 hts (TB_G (TB_3 tw_6_133 tw_6_134 tw_1_13) tw_6_135) rfl rfl rfl (by decide +kernel) ⟨by decide, by decide⟩) hP hD hS rfl hl.1 rfl (Nat.le_of_ble_eq_true rfl) dX9_wayOf_60 ⟨by decide, by decide⟩ (fun r_9 H locs hw hP hS => ?_)
      have hG : mG D cA h ad A s σ H locs := ⟨hP, hD, hS⟩
      exact W.iret (v := r_9) hx hb hr (fun t ht hW => ⟨⟨_, σ, rfl, hw, by rw [ht]; exact hP, va_K.moved hW.alike hK, hD⟩, hS.F ht⟩) hS.2.2 dX9_wayOf_63 hlk
set_option maxHeartbeats 4000000 in
set_option maxRecDepth 100000 in
theorem kB_X9_wayOf_38 {p : Program} {l : Launch} {e : Env} {s : State} {m : MethodId} {args : Array Value} {below : List Frame} {meth : Method} {c : Code} {A : Nat → Prop} {E : EnvT} {aK aV : Nat → Nat} {D : va_G} {cA : Nat → ClassId} {h : Nat} {ad : Nat → Nat} (C : mCx p s m args meth c cX9_wayOf 6 (some .int) wgX9_wayOf RX9 E D cA A) (vM : eMs aK aV E) {post : Int32 → MS → Prop} :
    ∀ (x1 : Int32) (x2 : Int32) (x4 : Int32) (σ : MS) (H : Heap) (locs : List Loc) (ls : Array Slot), mG D cA h ad A s σ H locs → lv_has ls 6 [(0, .ref h), (1, .int x1), (2, .int x2), (4, .int x4)] → wB_X9_wayOf_38 post x1 x2 x4 σ → W p l e rm_X9_wayOf s m args below meth c H locs 0 0 (MQ below (va_Qi post (mAt D cA h ad A) A) args s 0 0 A) (F0 m 38 ls []) := by
  obtain ⟨hx, hb, hml, hr, hown, hts, hK, hA, hlk, hE, vE⟩ := id C
  intro x1 x2 x4 σ H locs ls hG hl hw
  obtain ⟨hP, hD, hS⟩ := id hG
  refine lv_iconst (v := 1) hx hb dX9_wayOf_38 (by decide) ?_
  refine lv_goto (tgt := 43) hx hb dX9_wayOf_39 (by decide) ?_
  exact kB_X9_wayOf_43 C vM x1 x2 x4 1 σ _ _ _ hG (lv_sub hl [0, 1, 2, 3] rfl) hw
set_option maxHeartbeats 4000000 in
set_option maxRecDepth 100000 in
theorem k_X9_wayOf {p : Program} {l : Launch} {e : Env} {s : State} {m : MethodId} {args : Array Value} {below : List Frame} {meth : Method} {c : Code} {A : Nat → Prop} {E : EnvT} {aK aV : Nat → Nat} {D : va_G} {cA : Nat → ClassId} {h : Nat} {ad : Nat → Nat} (C : mCx p s m args meth c cX9_wayOf 6 (some .int) wgX9_wayOf RX9 E D cA A) (vM : eMs aK aV E) {post : Int32 → MS → Prop} :
    ∀ (x1 : Int32) (x2 : Int32) (σ : MS) (H : Heap) (locs : List Loc) (ls : Array Slot), mG D cA h ad A s σ H locs → lv_has ls 6 [(0, .ref h), (1, .int x1), (2, .int x2)] → wp_X9_wayOf post x1 x2 σ → W p l e rm_X9_wayOf s m args below meth c H locs 0 0 (MQ below (va_Qi post (mAt D cA h ad A) A) args s 0 0 A) (F0 m 0 ls []) := by
  obtain ⟨hx, hb, hml, hr, hown, hts, hK, hA, hlk, hE, vE⟩ := id C
  intro x1 x2 σ H locs ls hG hl hw
  obtain ⟨hP, hD, hS⟩ := id hG
  refine lv_aload_n hx hb dX9_wayOf_0 rfl (lv_at hl 0 rfl) ?_
  refine va_get (D := D) (ci := 11) (v := .ref (ad 10)) (C := RX9) (T := TX9) (N := 32) hx hb hts (in_tb inX9) hown hK hP 0 rfl rfl 10 (by decide) (hts _ (List.mem_cons_of_mem _ tw_5_120)) (fun _ h9 => h9) rfl dX9_wayOf_1 ?_
  refine lv_iload_n hx hb dX9_wayOf_4 rfl (lv_at hl 1 rfl) ?_
  obtain ⟨h_1, hw⟩ := hw
  refine va_lald hx hb hK hP 5 1 rfl rfl h_1 dX9_wayOf_5 ?_
  refine mS_i (As := [.long (mL σ 10 x1.toNatClampNeg)]) (rest := []) C (met_X9_listed vE vM hw) (va_cwS 1 hts (TB_G (TB_3 tw_6_120 tw_6_121 tw_1_13) tw_6_122) rfl rfl rfl (by decide +kernel) ⟨by decide, by decide⟩) hP hD hS rfl hl.1 rfl (Nat.le_of_ble_eq_true rfl) dX9_wayOf_6 ⟨by decide, by decide⟩ (fun r_2 H locs hw hP hS => ?_)
  have hG : mG D cA h ad A s σ H locs := ⟨hP, hD, hS⟩
  refine lv_istore_n (lv' := [(3, .int r_2), (0, .ref h), (1, .int x1), (2, .int x2)]) hx hb dX9_wayOf_9 rfl hl (by decide) rfl (fun ls hl => ?_)
  refine lv_iload_n hx hb dX9_wayOf_10 rfl (lv_at hl 0 rfl) ?_
  refine lv_iconst (v := (-1)) hx hb dX9_wayOf_11 (by decide) ?_
  refine lv_icmp_ne (tgt := 18) hx hb dX9_wayOf_12 (by decide) (fun q_ => ?_) (fun q_ => ?_)
  · have hw := hw.2 q_
    refine lv_iload_n hx hb dX9_wayOf_18 rfl (lv_at hl 0 rfl) ?_
    refine mS_i (As := [.int r_2]) (rest := []) C (met_X9_opOf vE vM hw) (va_cwS 1 hts (TB_G (TB_3 tw_6_66 tw_6_67 tw_1_13) tw_6_68) rfl rfl rfl (by decide +kernel) ⟨by decide, by decide⟩) hP hD hS rfl hl.1 rfl (Nat.le_of_ble_eq_true rfl) dX9_wayOf_19 ⟨by decide, by decide⟩ (fun r_4 H locs hw hP hS => ?_)
    have hG : mG D cA h ad A s σ H locs := ⟨hP, hD, hS⟩
    refine lv_istore (lv' := [(4, .int r_4), (3, .int r_2), (0, .ref h), (1, .int x1), (2, .int x2)]) hx hb dX9_wayOf_22 hl (by decide) rfl (fun ls hl => ?_)
    refine lv_iload hx hb dX9_wayOf_24 (lv_at hl 0 rfl) ?_
    refine lv_bipush (v := 40) hx hb dX9_wayOf_26 (by decide) ?_
    refine lv_icmp_eq (tgt := 38) hx hb dX9_wayOf_28 (by decide) (fun q_ => ?_) (fun q_ => ?_)
    · have hw := hw.1 q_
      exact kB_X9_wayOf_38 C vM x1 x2 r_4 σ _ _ _ hG (lv_sub hl [2, 3, 4, 0] rfl) hw
    · have hw := hw.2 q_
      refine lv_iload hx hb dX9_wayOf_31 (lv_at hl 0 rfl) ?_
      refine lv_bipush (v := 41) hx hb dX9_wayOf_33 (by decide) ?_
      refine lv_icmp_ne (tgt := 42) hx hb dX9_wayOf_35 (by decide) (fun q_ => ?_) (fun q_ => ?_)
      · have hw := hw.2 q_
        refine lv_iconst (v := 0) hx hb dX9_wayOf_42 (by decide) ?_
        exact kB_X9_wayOf_43 C vM x1 x2 r_4 0 σ _ _ _ hG (lv_sub hl [2, 3, 4, 0] rfl) hw
      · have hw := hw.1 q_
        exact kB_X9_wayOf_38 C vM x1 x2 r_4 σ _ _ _ hG (lv_sub hl [2, 3, 4, 0] rfl) hw
  · have hw := hw.1 q_
    refine lv_bipush (v := (-2)) hx hb dX9_wayOf_15 (by decide) ?_
    exact W.iret (v := (-2)) hx hb hr (fun t ht hW => ⟨⟨_, σ, rfl, hw, by rw [ht]; exact hP, va_K.moved hW.alike hK, hD⟩, hS.F ht⟩) hS.2.2 dX9_wayOf_17 hlk
set_option maxHeartbeats 4000000 in
set_option maxRecDepth 100000 in
theorem met_X9_wayOf {l : Launch} {E : EnvT} (vE : EnvOk E) {D : va_G} {cA : Nat → ClassId} {h : Nat} {ad : Nat → Nat} {σ : MS} {aK aV : Nat → Nat} (vM : eMs aK aV E) {sz : Nat} {x1 : Int32} {x2 : Int32} {post : Int32 → MS → Prop} (hw : wp_X9_wayOf post x1 x2 σ) : Met l yX9_wayOf wgX9_wayOf rm_X9_wayOf (va_Pc [.ref h, .int x1, .int x2] (mPre E D cA h ad sz σ)) (va_Qi post (mAt D cA h ad (va_A (mW cA h ad σ) sz)) (va_A (mW cA h ad σ) sz)) 0 0 (va_A (mW cA h ad σ) sz) := by
  refine Met.ofW (cc := cX9_wayOf) (maxL := 6) (ret := (some .int)) (by decide +kernel) rfl ?_
  intro p e s m args below meth c s₁ B hml hv
  obtain ⟨rfl, hsz, hP, hK, hD0, hE⟩ := hv
  subst hsz
  have hD := hD0.self (sz := s.heap.size)
  generalize hAe : va_A (mW cA h ad σ) s.heap.size = A at hD hE ⊢
  have hA : ∀ q : Nat, s.heap.size ≤ q → A q := fun q h => by rw [← hAe]; exact Or.inr h
  have hS : va_S A s.heap s.heap [] := va_S.rf
  have C : mCx p s m _ meth c cX9_wayOf 6 (some .int) wgX9_wayOf RX9 E D cA A := ⟨B.exec, B.bytes, hml, B.returns, findClass_of_methodNamed B.named, atoms_spec (ws := wgX9_wayOf) B.pre, hK, hA, B.notSynchronized, hE, vE⟩
  have hG : mG D cA h ad A s σ s.heap [] := ⟨hP, hD, hS⟩
  have hl := lv_entry ([.ref h, .int x1, .int x2]) (n := 6) (Nat.le_of_ble_eq_true rfl)
  rw [lg_entry_eq]
  generalize (lg_sl ([.ref h, .int x1, .int x2]) ++ List.replicate (6 - (lg_sl ([.ref h, .int x1, .int x2])).length) Slot.unset).toArray = ls at hl ⊢
  have hl : lv_has ls 6 [(0, .ref h), (1, .int x1), (2, .int x2)] := hl
  exact k_X9_wayOf C vM x1 x2 σ _ _ _ hG hl hw
/-! ===== way ===== -/
def rm_X9_way : Room := { frames := 8, cells := 0, slots := 0, locals := 181 }
abbrev wgX9_way : List Cond := .code yX9_way cX9_way 4 (some .int) :: TB
def wB_X9_way_22 (post : Int32 → MS → Prop) (σ : MS) : Prop :=
  post (-1) σ
def wB_X9_way_42 (post : Int32 → MS → Prop) (t0 : Int32) (σ : MS) : Prop :=
  post t0 σ
def wp_X9_way (post : Int32 → MS → Prop) (x1 : Int32) (x2 : Int32) (σ : MS) : Prop :=
  wp_X9_isPlace (fun r_1 σ_2 => (r_1 = 0 → (wB_X9_way_22 post σ_2)) ∧ (¬ r_1 = 0 → ((x2 < 0 → (wB_X9_way_22 post σ_2)) ∧ (¬ x2 < 0 → ((x2 ≤ 1 → (wp_X9_wayOf (fun r_3 σ_4 => (r_3 = (-2) → (wB_X9_way_42 post (-1) σ_4)) ∧ (¬ r_3 = (-2) → (wB_X9_way_42 post r_3 σ_4))) x1 x2 σ_2)) ∧ (¬ x2 ≤ 1 → (wB_X9_way_22 post σ_2))))))) x1 (wI σ 0 0)
set_option maxHeartbeats 4000000 in
set_option maxRecDepth 100000 in
theorem kB_X9_way_22 {p : Program} {l : Launch} {e : Env} {s : State} {m : MethodId} {args : Array Value} {below : List Frame} {meth : Method} {c : Code} {A : Nat → Prop} {E : EnvT} {aK aV : Nat → Nat} {D : va_G} {cA : Nat → ClassId} {h : Nat} {ad : Nat → Nat} (C : mCx p s m args meth c cX9_way 4 (some .int) wgX9_way RX9 E D cA A) (vM : eMs aK aV E) {post : Int32 → MS → Prop} :
    ∀ (σ : MS) (H : Heap) (locs : List Loc) (ls : Array Slot), mG D cA h ad A s σ H locs → lv_has ls 4 [] → wB_X9_way_22 post σ → W p l e rm_X9_way s m args below meth c H locs 0 0 (MQ below (va_Qi post (mAt D cA h ad A) A) args s 0 0 A) (F0 m 22 ls []) := by
  obtain ⟨hx, hb, hml, hr, hown, hts, hK, hA, hlk, hE, vE⟩ := id C
  intro σ H locs ls hG hl hw
  obtain ⟨hP, hD, hS⟩ := id hG
  refine lv_iconst (v := (-1)) hx hb dX9_way_22 (by decide) ?_
  exact W.iret (v := (-1)) hx hb hr (fun t ht hW => ⟨⟨_, σ, rfl, hw, by rw [ht]; exact hP, va_K.moved hW.alike hK, hD⟩, hS.F ht⟩) hS.2.2 dX9_way_23 hlk
set_option maxHeartbeats 4000000 in
set_option maxRecDepth 100000 in
theorem kB_X9_way_42 {p : Program} {l : Launch} {e : Env} {s : State} {m : MethodId} {args : Array Value} {below : List Frame} {meth : Method} {c : Code} {A : Nat → Prop} {E : EnvT} {aK aV : Nat → Nat} {D : va_G} {cA : Nat → ClassId} {h : Nat} {ad : Nat → Nat} (C : mCx p s m args meth c cX9_way 4 (some .int) wgX9_way RX9 E D cA A) (vM : eMs aK aV E) {post : Int32 → MS → Prop} :
    ∀ (t0 : Int32) (σ : MS) (H : Heap) (locs : List Loc) (ls : Array Slot), mG D cA h ad A s σ H locs → lv_has ls 4 [] → wB_X9_way_42 post t0 σ → W p l e rm_X9_way s m args below meth c H locs 0 0 (MQ below (va_Qi post (mAt D cA h ad A) A) args s 0 0 A) (F0 m 42 ls [.int t0]) := by
  obtain ⟨hx, hb, hml, hr, hown, hts, hK, hA, hlk, hE, vE⟩ := id C
  intro t0 σ H locs ls hG hl hw
  obtain ⟨hP, hD, hS⟩ := id hG
  exact W.iret (v := t0) hx hb hr (fun t ht hW => ⟨⟨_, σ, rfl, hw, by rw [ht]; exact hP, va_K.moved hW.alike hK, hD⟩, hS.F ht⟩) hS.2.2 dX9_way_42 hlk
set_option maxHeartbeats 4000000 in
set_option maxRecDepth 100000 in
theorem k_X9_way {p : Program} {l : Launch} {e : Env} {s : State} {m : MethodId} {args : Array Value} {below : List Frame} {meth : Method} {c : Code} {A : Nat → Prop} {E : EnvT} {aK aV : Nat → Nat} {D : va_G} {cA : Nat → ClassId} {h : Nat} {ad : Nat → Nat} (C : mCx p s m args meth c cX9_way 4 (some .int) wgX9_way RX9 E D cA A) (vM : eMs aK aV E) {post : Int32 → MS → Prop} :
    ∀ (x1 : Int32) (x2 : Int32) (σ : MS) (H : Heap) (locs : List Loc) (ls : Array Slot), mG D cA h ad A s σ H locs → lv_has ls 4 [(0, .ref h), (1, .int x1), (2, .int x2)] → wp_X9_way post x1 x2 σ → W p l e rm_X9_way s m args below meth c H locs 0 0 (MQ below (va_Qi post (mAt D cA h ad A) A) args s 0 0 A) (F0 m 0 ls []) := by
  obtain ⟨hx, hb, hml, hr, hown, hts, hK, hA, hlk, hE, vE⟩ := id C
  intro x1 x2 σ H locs ls hG hl hw
  obtain ⟨hP, hD, hS⟩ := id hG
  refine lv_aload_n hx hb dX9_way_0 rfl (lv_at hl 0 rfl) ?_
  refine lv_iconst (v := 0) hx hb dX9_way_1 (by decide) ?_
  refine va_put (D := D) (ci := 11) (v := .int 0) (ty := .int) (C := RX9) (T := TX9) (N := 32) hx hb hts (in_tb inX9) tyX9 tyX9_ok nmX9 hown hK hP hD hS 0 rfl rfl 0 (by decide) (hts _ (List.mem_cons_of_mem _ tw_5_110)) (fun _ h9 => h9) rfl (by decide +kernel) rfl rfl (Nat.le_of_ble_eq_true rfl) dX9_way_2 (fun H locs hP hD hS => ?_)
  have hG : mG D cA h ad A s (wI σ 0 0) H locs := ⟨hP, hD, hS⟩
  obtain ⟨hP, hD, hS⟩ := id hG
  refine lv_aload_n hx hb dX9_way_5 rfl (lv_at hl 0 rfl) ?_
  refine lv_iload_n hx hb dX9_way_6 rfl (lv_at hl 1 rfl) ?_
  refine mV_i (As := [.int x1]) (rest := []) C (met_X9_isPlace vE vM hw) (va_recv hK hP (ci := 11) (q0 := 0) rfl rfl) (cwV 1 hts (TB_G (TB_4 tw_6_108 tw_6_110 ts_45 tw_1_13) tw_6_111) rfl rfl rfl (by decide +kernel) ⟨by decide, by decide⟩) hP hD hS rfl hl.1 rfl (Nat.le_of_ble_eq_true rfl) dX9_way_7 ⟨by decide, by decide⟩ (fun r_1 σ_2 H locs hw hP hD hS => ?_)
  have hG : mG D cA h ad A s σ_2 H locs := ⟨hP, hD, hS⟩
  refine lv_if_eq (tgt := 22) hx hb dX9_way_10 (by decide) (fun q_ => ?_) (fun q_ => ?_)
  · have hw := hw.1 q_
    exact kB_X9_way_22 C vM  σ_2 _ _ _ hG (lv_sub hl [] rfl) hw
  · have hw := hw.2 q_
    refine lv_iload_n hx hb dX9_way_13 rfl (lv_at hl 2 rfl) ?_
    refine lv_if_lt (tgt := 22) hx hb dX9_way_14 (by decide) (fun q_ => ?_) (fun q_ => ?_)
    · have hw := hw.1 q_
      exact kB_X9_way_22 C vM  σ_2 _ _ _ hG (lv_sub hl [] rfl) hw
    · have hw := hw.2 q_
      refine lv_iload_n hx hb dX9_way_17 rfl (lv_at hl 2 rfl) ?_
      refine lv_iconst (v := 1) hx hb dX9_way_18 (by decide) ?_
      refine lv_icmp_le (tgt := 24) hx hb dX9_way_19 (by decide) (fun q_ => ?_) (fun q_ => ?_)
      · have hw := hw.1 q_
        refine lv_aload_n hx hb dX9_way_24 rfl (lv_at hl 0 rfl) ?_
        refine lv_iload_n hx hb dX9_way_25 rfl (lv_at hl 1 rfl) ?_
        refine lv_iload_n hx hb dX9_way_26 rfl (lv_at hl 2 rfl) ?_
        refine mV_i (As := [.int x1, .int x2]) (rest := []) C (met_X9_wayOf vE vM hw) (va_recv hK hP (ci := 11) (q0 := 0) rfl rfl) (cwV 2 hts (TB_G (TB_4 tw_6_166 tw_6_168 ts_50 tw_1_13) tw_6_169) rfl rfl rfl (by decide +kernel) ⟨by decide, by decide⟩) hP hD hS rfl hl.1 rfl (Nat.le_of_ble_eq_true rfl) dX9_way_27 ⟨by decide, by decide⟩ (fun r_3 σ_4 H locs hw hP hD hS => ?_)
        have hG : mG D cA h ad A s σ_4 H locs := ⟨hP, hD, hS⟩
        refine lv_istore_n (lv' := [(3, .int r_3), (0, .ref h), (1, .int x1), (2, .int x2)]) hx hb dX9_way_30 rfl hl (by decide) rfl (fun ls hl => ?_)
        refine lv_iload_n hx hb dX9_way_31 rfl (lv_at hl 0 rfl) ?_
        refine lv_bipush (v := (-2)) hx hb dX9_way_32 (by decide) ?_
        refine lv_icmp_ne (tgt := 41) hx hb dX9_way_34 (by decide) (fun q_ => ?_) (fun q_ => ?_)
        · have hw := hw.2 q_
          refine lv_iload_n hx hb dX9_way_41 rfl (lv_at hl 0 rfl) ?_
          exact kB_X9_way_42 C vM r_3 σ_4 _ _ _ hG (lv_sub hl [] rfl) hw
        · have hw := hw.1 q_
          refine lv_iconst (v := (-1)) hx hb dX9_way_37 (by decide) ?_
          refine lv_goto (tgt := 42) hx hb dX9_way_38 (by decide) ?_
          exact kB_X9_way_42 C vM (-1) σ_4 _ _ _ hG (lv_sub hl [] rfl) hw
      · have hw := hw.2 q_
        exact kB_X9_way_22 C vM  σ_2 _ _ _ hG (lv_sub hl [] rfl) hw
set_option maxHeartbeats 4000000 in
set_option maxRecDepth 100000 in
theorem met_X9_way {l : Launch} {E : EnvT} (vE : EnvOk E) {D : va_G} {cA : Nat → ClassId} {h : Nat} {ad : Nat → Nat} {σ : MS} {aK aV : Nat → Nat} (vM : eMs aK aV E) {sz : Nat} {x1 : Int32} {x2 : Int32} {post : Int32 → MS → Prop} (hw : wp_X9_way post x1 x2 σ) : Met l yX9_way wgX9_way rm_X9_way (va_Pc [.ref h, .int x1, .int x2] (mPre E D cA h ad sz σ)) (va_Qi post (mAt D cA h ad (va_A (mW cA h ad σ) sz)) (va_A (mW cA h ad σ) sz)) 0 0 (va_A (mW cA h ad σ) sz) := by
  refine Met.ofW (cc := cX9_way) (maxL := 4) (ret := (some .int)) (by decide +kernel) rfl ?_
  intro p e s m args below meth c s₁ B hml hv
  obtain ⟨rfl, hsz, hP, hK, hD0, hE⟩ := hv
  subst hsz
  have hD := hD0.self (sz := s.heap.size)
  generalize hAe : va_A (mW cA h ad σ) s.heap.size = A at hD hE ⊢
  have hA : ∀ q : Nat, s.heap.size ≤ q → A q := fun q h => by rw [← hAe]; exact Or.inr h
  have hS : va_S A s.heap s.heap [] := va_S.rf
  have C : mCx p s m _ meth c cX9_way 4 (some .int) wgX9_way RX9 E D cA A := ⟨B.exec, B.bytes, hml, B.returns, findClass_of_methodNamed B.named, atoms_spec (ws := wgX9_way) B.pre, hK, hA, B.notSynchronized, hE, vE⟩
  have hG : mG D cA h ad A s σ s.heap [] := ⟨hP, hD, hS⟩
  have hl := lv_entry ([.ref h, .int x1, .int x2]) (n := 4) (Nat.le_of_ble_eq_true rfl)
  rw [lg_entry_eq]
  generalize (lg_sl ([.ref h, .int x1, .int x2]) ++ List.replicate (4 - (lg_sl ([.ref h, .int x1, .int x2])).length) Slot.unset).toArray = ls at hl ⊢
  have hl : lv_has ls 4 [(0, .ref h), (1, .int x1), (2, .int x2)] := hl
  exact k_X9_way C vM x1 x2 σ _ _ _ hG hl hw
