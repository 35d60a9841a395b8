/-! ===== is ===== -/
def rm_X9_is : Room := { frames := 0, cells := 0, slots := 0, locals := 0 }
abbrev wgX9_is : List Cond := .code yX9_is cX9_is 2 (some .boolean) :: TB
def wB_X9_is_33 (post : Int32 → MS → Prop) (t0 : Int32) (σ : MS) : Prop :=
  isB t0 ∧ (post t0 σ)
def wB_X9_is_32 (post : Int32 → MS → Prop) (σ : MS) : Prop :=
  wB_X9_is_33 post 0 σ
def wp_X9_is (post : Int32 → MS → Prop) (x1 : Int32) (σ : MS) : Prop :=
  vp_in (mI σ 9) 702 ∧ (((mA σ 6 (mI σ 9).toNatClampNeg) = 3 → (vp_in (mI σ 9) 702 ∧ (((mL σ 8 (mI σ 9).toNatClampNeg) = (x1.toInt64) → (wB_X9_is_33 post 1 σ)) ∧ (¬ (mL σ 8 (mI σ 9).toNatClampNeg) = (x1.toInt64) → (wB_X9_is_32 post σ))))) ∧ (¬ (mA σ 6 (mI σ 9).toNatClampNeg) = 3 → (wB_X9_is_32 post σ)))
set_option maxHeartbeats 4000000 in
set_option maxRecDepth 100000 in
theorem kB_X9_is_33 {p : Program} {l : Launch} {e : Env} {s : State} {m : MethodId} {args : Array Value} {below : List Frame} {meth : Method} {c : Code} {A : Nat → Prop} {E : EnvT} {aK aV : Nat → Nat} {D : va_G} {cA : Nat → ClassId} {h : Nat} {ad : Nat → Nat} (C : mCx p s m args meth c cX9_is 2 (some .boolean) wgX9_is RX9 E D cA A) (vM : eMs aK aV E) {post : Int32 → MS → Prop} :
    ∀ (t0 : Int32) (σ : MS) (H : Heap) (locs : List Loc) (ls : Array Slot), mG D cA h ad A s σ H locs → lv_has ls 2 [] → wB_X9_is_33 post t0 σ → W p l e rm_X9_is s m args below meth c H locs 0 0 (MQ below (va_Qi post (mAt D cA h ad A) A) args s 0 0 A) (F0 m 33 ls [.int t0]) := by
  obtain ⟨hx, hb, hml, hr, hown, hts, hK, hA, hlk, hE, vE⟩ := id C
  intro t0 σ H locs ls hG hl hw
  obtain ⟨hP, hD, hS⟩ := id hG
  obtain ⟨h_2, hw⟩ := hw
  exact W.zret (v := t0) (ty := .boolean) hx hb hr (isB.n h_2) (fun t ht hW => ⟨⟨_, σ, rfl, hw, by rw [ht]; exact hP, va_K.moved hW.alike hK, hD⟩, hS.F ht⟩) hS.2.2 dX9_is_33 hlk
set_option maxHeartbeats 4000000 in
set_option maxRecDepth 100000 in
theorem kB_X9_is_32 {p : Program} {l : Launch} {e : Env} {s : State} {m : MethodId} {args : Array Value} {below : List Frame} {meth : Method} {c : Code} {A : Nat → Prop} {E : EnvT} {aK aV : Nat → Nat} {D : va_G} {cA : Nat → ClassId} {h : Nat} {ad : Nat → Nat} (C : mCx p s m args meth c cX9_is 2 (some .boolean) wgX9_is RX9 E D cA A) (vM : eMs aK aV E) {post : Int32 → MS → Prop} :
    ∀ (σ : MS) (H : Heap) (locs : List Loc) (ls : Array Slot), mG D cA h ad A s σ H locs → lv_has ls 2 [] → wB_X9_is_32 post σ → W p l e rm_X9_is s m args below meth c H locs 0 0 (MQ below (va_Qi post (mAt D cA h ad A) A) args s 0 0 A) (F0 m 32 ls []) := by
  obtain ⟨hx, hb, hml, hr, hown, hts, hK, hA, hlk, hE, vE⟩ := id C
  intro σ H locs ls hG hl hw
  obtain ⟨hP, hD, hS⟩ := id hG
  refine lv_iconst (v := 0) hx hb dX9_is_32 (by decide) ?_
  exact kB_X9_is_33 C vM 0 σ _ _ _ hG (lv_sub hl [] rfl) hw
set_option maxHeartbeats 4000000 in
set_option maxRecDepth 100000 in
theorem k_X9_is {p : Program} {l : Launch} {e : Env} {s : State} {m : MethodId} {args : Array Value} {below : List Frame} {meth : Method} {c : Code} {A : Nat → Prop} {E : EnvT} {aK aV : Nat → Nat} {D : va_G} {cA : Nat → ClassId} {h : Nat} {ad : Nat → Nat} (C : mCx p s m args meth c cX9_is 2 (some .boolean) wgX9_is RX9 E D cA A) (vM : eMs aK aV E) {post : Int32 → MS → Prop} :
    ∀ (x1 : Int32) (σ : MS) (H : Heap) (locs : List Loc) (ls : Array Slot), mG D cA h ad A s σ H locs → lv_has ls 2 [(0, .ref h), (1, .int x1)] → wp_X9_is post x1 σ → W p l e rm_X9_is s m args below meth c H locs 0 0 (MQ below (va_Qi post (mAt D cA h ad A) A) args s 0 0 A) (F0 m 0 ls []) := by
  obtain ⟨hx, hb, hml, hr, hown, hts, hK, hA, hlk, hE, vE⟩ := id C
  intro x1 σ H locs ls hG hl hw
  obtain ⟨hP, hD, hS⟩ := id hG
  refine lv_aload_n hx hb dX9_is_0 rfl (lv_at hl 0 rfl) ?_
  refine va_get (D := D) (ci := 11) (v := .ref (ad 6)) (C := RX9) (T := TX9) (N := 32) hx hb hts (in_tb inX9) hown hK hP 0 rfl rfl 6 (by decide) (hts _ (List.mem_cons_of_mem _ tw_5_116)) (fun _ h9 => h9) rfl dX9_is_1 ?_
  refine lv_aload_n hx hb dX9_is_4 rfl (lv_at hl 0 rfl) ?_
  refine va_get (D := D) (ci := 11) (v := .int (mI σ 9)) (C := RX9) (T := TX9) (N := 32) hx hb hts (in_tb inX9) hown hK hP 0 rfl rfl 9 (by decide) (hts _ (List.mem_cons_of_mem _ tw_5_119)) (fun _ h9 => h9) rfl dX9_is_5 ?_
  obtain ⟨h_1, hw⟩ := hw
  refine va_iald hx hb hK hP 2 0 rfl rfl h_1 dX9_is_8 ?_
  refine lv_iconst (v := 3) hx hb dX9_is_9 (by decide) ?_
  refine lv_icmp_ne (tgt := 32) hx hb dX9_is_10 (by decide) (fun q_ => ?_) (fun q_ => ?_)
  · have hw := hw.2 q_
    exact kB_X9_is_32 C vM  σ _ _ _ hG (lv_sub hl [] rfl) hw
  · have hw := hw.1 q_
    refine lv_aload_n hx hb dX9_is_13 rfl (lv_at hl 0 rfl) ?_
    refine va_get (D := D) (ci := 11) (v := .ref (ad 8)) (C := RX9) (T := TX9) (N := 32) hx hb hts (in_tb inX9) hown hK hP 0 rfl rfl 8 (by decide) (hts _ (List.mem_cons_of_mem _ tw_5_118)) (fun _ h9 => h9) rfl dX9_is_14 ?_
    refine lv_aload_n hx hb dX9_is_17 rfl (lv_at hl 0 rfl) ?_
    refine va_get (D := D) (ci := 11) (v := .int (mI σ 9)) (C := RX9) (T := TX9) (N := 32) hx hb hts (in_tb inX9) hown hK hP 0 rfl rfl 9 (by decide) (hts _ (List.mem_cons_of_mem _ tw_5_119)) (fun _ h9 => h9) rfl dX9_is_18 ?_
    obtain ⟨h_3, hw⟩ := hw
    refine va_lald hx hb hK hP 4 1 rfl rfl h_3 dX9_is_21 ?_
    refine lv_iload_n hx hb dX9_is_22 rfl (lv_at hl 1 rfl) ?_
    refine lv_i2l hx hb dX9_is_23 rfl ?_
    refine W.lcmp hx hb dX9_is_24 ?_
    refine lv_if_ne (tgt := 32) hx hb dX9_is_25 (by decide) (fun q_ => ?_) (fun q_ => ?_)
    · have hw := hw.2 (fun z => q_ (lc_eq.mpr z))
      exact kB_X9_is_32 C vM  σ _ _ _ hG (lv_sub hl [] rfl) hw
    · have hw := hw.1 (lc_eq.mp q_)
      refine lv_iconst (v := 1) hx hb dX9_is_28 (by decide) ?_
      refine lv_goto (tgt := 33) hx hb dX9_is_29 (by decide) ?_
      exact kB_X9_is_33 C vM 1 σ _ _ _ hG (lv_sub hl [] rfl) hw
set_option maxHeartbeats 4000000 in
set_option maxRecDepth 100000 in
theorem met_X9_is {l : Launch} {E : EnvT} (vE : EnvOk E) {D : va_G} {cA : Nat → ClassId} {h : Nat} {ad : Nat → Nat} {σ : MS} {aK aV : Nat → Nat} (vM : eMs aK aV E) {sz : Nat} {x1 : Int32} {post : Int32 → MS → Prop} (hw : wp_X9_is post x1 σ) : Met l yX9_is wgX9_is rm_X9_is (va_Pc [.ref h, .int x1] (mPre E D cA h ad sz σ)) (va_Qi post (mAt D cA h ad (va_A (mW cA h ad σ) sz)) (va_A (mW cA h ad σ) sz)) 0 0 (va_A (mW cA h ad σ) sz) := by
  refine Met.ofW (cc := cX9_is) (maxL := 2) (ret := (some .boolean)) (by decide +kernel) rfl ?_
  intro p e s m args below meth c s₁ B hml hv
  obtain ⟨rfl, hsz, hP, hK, hD0, hE⟩ := hv
  subst hsz
  have hD := hD0.self (sz := s.heap.size)
  generalize hAe : va_A (mW cA h ad σ) s.heap.size = A at hD hE ⊢
  have hA : ∀ q : Nat, s.heap.size ≤ q → A q := fun q h => by rw [← hAe]; exact Or.inr h
  have hS : va_S A s.heap s.heap [] := va_S.rf
  have C : mCx p s m _ meth c cX9_is 2 (some .boolean) wgX9_is RX9 E D cA A := ⟨B.exec, B.bytes, hml, B.returns, findClass_of_methodNamed B.named, atoms_spec (ws := wgX9_is) B.pre, hK, hA, B.notSynchronized, hE, vE⟩
  have hG : mG D cA h ad A s σ s.heap [] := ⟨hP, hD, hS⟩
  have hl := lv_entry ([.ref h, .int x1]) (n := 2) (Nat.le_of_ble_eq_true rfl)
  rw [lg_entry_eq]
  generalize (lg_sl ([.ref h, .int x1]) ++ List.replicate (2 - (lg_sl ([.ref h, .int x1])).length) Slot.unset).toArray = ls at hl ⊢
  have hl : lv_has ls 2 [(0, .ref h), (1, .int x1)] := hl
  exact k_X9_is C vM x1 σ _ _ _ hG hl hw
/-! ===== isNext ===== -/
def rm_X9_isNext : Room := { frames := 0, cells := 0, slots := 0, locals := 0 }
abbrev wgX9_isNext : List Cond := .code yX9_isNext cX9_isNext 2 (some .boolean) :: TB
def wB_X9_isNext_37 (post : Int32 → MS → Prop) (t0 : Int32) (σ : MS) : Prop :=
  isB t0 ∧ (post t0 σ)
def wB_X9_isNext_36 (post : Int32 → MS → Prop) (σ : MS) : Prop :=
  wB_X9_isNext_37 post 0 σ
def wp_X9_isNext (post : Int32 → MS → Prop) (x1 : Int32) (σ : MS) : Prop :=
  vp_in ((mI σ 9) + 1) 702 ∧ (((mA σ 6 ((mI σ 9) + 1).toNatClampNeg) = 3 → (vp_in ((mI σ 9) + 1) 702 ∧ (((mL σ 8 ((mI σ 9) + 1).toNatClampNeg) = (x1.toInt64) → (wB_X9_isNext_37 post 1 σ)) ∧ (¬ (mL σ 8 ((mI σ 9) + 1).toNatClampNeg) = (x1.toInt64) → (wB_X9_isNext_36 post σ))))) ∧ (¬ (mA σ 6 ((mI σ 9) + 1).toNatClampNeg) = 3 → (wB_X9_isNext_36 post σ)))
set_option maxHeartbeats 4000000 in
set_option maxRecDepth 100000 in
theorem kB_X9_isNext_37 {p : Program} {l : Launch} {e : Env} {s : State} {m : MethodId} {args : Array Value} {below : List Frame} {meth : Method} {c : Code} {A : Nat → Prop} {E : EnvT} {aK aV : Nat → Nat} {D : va_G} {cA : Nat → ClassId} {h : Nat} {ad : Nat → Nat} (C : mCx p s m args meth c cX9_isNext 2 (some .boolean) wgX9_isNext RX9 E D cA A) (vM : eMs aK aV E) {post : Int32 → MS → Prop} :
    ∀ (t0 : Int32) (σ : MS) (H : Heap) (locs : List Loc) (ls : Array Slot), mG D cA h ad A s σ H locs → lv_has ls 2 [] → wB_X9_isNext_37 post t0 σ → W p l e rm_X9_isNext s m args below meth c H locs 0 0 (MQ below (va_Qi post (mAt D cA h ad A) A) args s 0 0 A) (F0 m 37 ls [.int t0]) := by
  obtain ⟨hx, hb, hml, hr, hown, hts, hK, hA, hlk, hE, vE⟩ := id C
  intro t0 σ H locs ls hG hl hw
  obtain ⟨hP, hD, hS⟩ := id hG
  obtain ⟨h_2, hw⟩ := hw
  exact W.zret (v := t0) (ty := .boolean) hx hb hr (isB.n h_2) (fun t ht hW => ⟨⟨_, σ, rfl, hw, by rw [ht]; exact hP, va_K.moved hW.alike hK, hD⟩, hS.F ht⟩) hS.2.2 dX9_isNext_37 hlk
set_option maxHeartbeats 4000000 in
set_option maxRecDepth 100000 in
theorem kB_X9_isNext_36 {p : Program} {l : Launch} {e : Env} {s : State} {m : MethodId} {args : Array Value} {below : List Frame} {meth : Method} {c : Code} {A : Nat → Prop} {E : EnvT} {aK aV : Nat → Nat} {D : va_G} {cA : Nat → ClassId} {h : Nat} {ad : Nat → Nat} (C : mCx p s m args meth c cX9_isNext 2 (some .boolean) wgX9_isNext RX9 E D cA A) (vM : eMs aK aV E) {post : Int32 → MS → Prop} :
    ∀ (σ : MS) (H : Heap) (locs : List Loc) (ls : Array Slot), mG D cA h ad A s σ H locs → lv_has ls 2 [] → wB_X9_isNext_36 post σ → W p l e rm_X9_isNext s m args below meth c H locs 0 0 (MQ below (va_Qi post (mAt D cA h ad A) A) args s 0 0 A) (F0 m 36 ls []) := by
  obtain ⟨hx, hb, hml, hr, hown, hts, hK, hA, hlk, hE, vE⟩ := id C
  intro σ H locs ls hG hl hw
  obtain ⟨hP, hD, hS⟩ := id hG
  refine lv_iconst (v := 0) hx hb dX9_isNext_36 (by decide) ?_
  exact kB_X9_isNext_37 C vM 0 σ _ _ _ hG (lv_sub hl [] rfl) hw
set_option maxHeartbeats 4000000 in
set_option maxRecDepth 100000 in
theorem k_X9_isNext {p : Program} {l : Launch} {e : Env} {s : State} {m : MethodId} {args : Array Value} {below : List Frame} {meth : Method} {c : Code} {A : Nat → Prop} {E : EnvT} {aK aV : Nat → Nat} {D : va_G} {cA : Nat → ClassId} {h : Nat} {ad : Nat → Nat} (C : mCx p s m args meth c cX9_isNext 2 (some .boolean) wgX9_isNext RX9 E D cA A) (vM : eMs aK aV E) {post : Int32 → MS → Prop} :
    ∀ (x1 : Int32) (σ : MS) (H : Heap) (locs : List Loc) (ls : Array Slot), mG D cA h ad A s σ H locs → lv_has ls 2 [(0, .ref h), (1, .int x1)] → wp_X9_isNext post x1 σ → W p l e rm_X9_isNext s m args below meth c H locs 0 0 (MQ below (va_Qi post (mAt D cA h ad A) A) args s 0 0 A) (F0 m 0 ls []) := by
  obtain ⟨hx, hb, hml, hr, hown, hts, hK, hA, hlk, hE, vE⟩ := id C
  intro x1 σ H locs ls hG hl hw
  obtain ⟨hP, hD, hS⟩ := id hG
  refine lv_aload_n hx hb dX9_isNext_0 rfl (lv_at hl 0 rfl) ?_
  refine va_get (D := D) (ci := 11) (v := .ref (ad 6)) (C := RX9) (T := TX9) (N := 32) hx hb hts (in_tb inX9) hown hK hP 0 rfl rfl 6 (by decide) (hts _ (List.mem_cons_of_mem _ tw_5_116)) (fun _ h9 => h9) rfl dX9_isNext_1 ?_
  refine lv_aload_n hx hb dX9_isNext_4 rfl (lv_at hl 0 rfl) ?_
  refine va_get (D := D) (ci := 11) (v := .int (mI σ 9)) (C := RX9) (T := TX9) (N := 32) hx hb hts (in_tb inX9) hown hK hP 0 rfl rfl 9 (by decide) (hts _ (List.mem_cons_of_mem _ tw_5_119)) (fun _ h9 => h9) rfl dX9_isNext_5 ?_
  refine lv_iconst (v := 1) hx hb dX9_isNext_8 (by decide) ?_
  refine lv_iadd hx hb dX9_isNext_9 ?_
  obtain ⟨h_1, hw⟩ := hw
  refine va_iald hx hb hK hP 2 0 rfl rfl h_1 dX9_isNext_10 ?_
  refine lv_iconst (v := 3) hx hb dX9_isNext_11 (by decide) ?_
  refine lv_icmp_ne (tgt := 36) hx hb dX9_isNext_12 (by decide) (fun q_ => ?_) (fun q_ => ?_)
  · have hw := hw.2 q_
    exact kB_X9_isNext_36 C vM  σ _ _ _ hG (lv_sub hl [] rfl) hw
  · have hw := hw.1 q_
    refine lv_aload_n hx hb dX9_isNext_15 rfl (lv_at hl 0 rfl) ?_
    refine va_get (D := D) (ci := 11) (v := .ref (ad 8)) (C := RX9) (T := TX9) (N := 32) hx hb hts (in_tb inX9) hown hK hP 0 rfl rfl 8 (by decide) (hts _ (List.mem_cons_of_mem _ tw_5_118)) (fun _ h9 => h9) rfl dX9_isNext_16 ?_
    refine lv_aload_n hx hb dX9_isNext_19 rfl (lv_at hl 0 rfl) ?_
    refine va_get (D := D) (ci := 11) (v := .int (mI σ 9)) (C := RX9) (T := TX9) (N := 32) hx hb hts (in_tb inX9) hown hK hP 0 rfl rfl 9 (by decide) (hts _ (List.mem_cons_of_mem _ tw_5_119)) (fun _ h9 => h9) rfl dX9_isNext_20 ?_
    refine lv_iconst (v := 1) hx hb dX9_isNext_23 (by decide) ?_
    refine lv_iadd hx hb dX9_isNext_24 ?_
    obtain ⟨h_3, hw⟩ := hw
    refine va_lald hx hb hK hP 4 1 rfl rfl h_3 dX9_isNext_25 ?_
    refine lv_iload_n hx hb dX9_isNext_26 rfl (lv_at hl 1 rfl) ?_
    refine lv_i2l hx hb dX9_isNext_27 rfl ?_
    refine W.lcmp hx hb dX9_isNext_28 ?_
    refine lv_if_ne (tgt := 36) hx hb dX9_isNext_29 (by decide) (fun q_ => ?_) (fun q_ => ?_)
    · have hw := hw.2 (fun z => q_ (lc_eq.mpr z))
      exact kB_X9_isNext_36 C vM  σ _ _ _ hG (lv_sub hl [] rfl) hw
    · have hw := hw.1 (lc_eq.mp q_)
      refine lv_iconst (v := 1) hx hb dX9_isNext_32 (by decide) ?_
      refine lv_goto (tgt := 37) hx hb dX9_isNext_33 (by decide) ?_
      exact kB_X9_isNext_37 C vM 1 σ _ _ _ hG (lv_sub hl [] rfl) hw
set_option maxHeartbeats 4000000 in
set_option maxRecDepth 100000 in
theorem met_X9_isNext {l : Launch} {E : EnvT} (vE : EnvOk E) {D : va_G} {cA : Nat → ClassId} {h : Nat} {ad : Nat → Nat} {σ : MS} {aK aV : Nat → Nat} (vM : eMs aK aV E) {sz : Nat} {x1 : Int32} {post : Int32 → MS → Prop} (hw : wp_X9_isNext post x1 σ) : Met l yX9_isNext wgX9_isNext rm_X9_isNext (va_Pc [.ref h, .int x1] (mPre E D cA h ad sz σ)) (va_Qi post (mAt D cA h ad (va_A (mW cA h ad σ) sz)) (va_A (mW cA h ad σ) sz)) 0 0 (va_A (mW cA h ad σ) sz) := by
  refine Met.ofW (cc := cX9_isNext) (maxL := 2) (ret := (some .boolean)) (by decide +kernel) rfl ?_
  intro p e s m args below meth c s₁ B hml hv
  obtain ⟨rfl, hsz, hP, hK, hD0, hE⟩ := hv
  subst hsz
  have hD := hD0.self (sz := s.heap.size)
  generalize hAe : va_A (mW cA h ad σ) s.heap.size = A at hD hE ⊢
  have hA : ∀ q : Nat, s.heap.size ≤ q → A q := fun q h => by rw [← hAe]; exact Or.inr h
  have hS : va_S A s.heap s.heap [] := va_S.rf
  have C : mCx p s m _ meth c cX9_isNext 2 (some .boolean) wgX9_isNext RX9 E D cA A := ⟨B.exec, B.bytes, hml, B.returns, findClass_of_methodNamed B.named, atoms_spec (ws := wgX9_isNext) B.pre, hK, hA, B.notSynchronized, hE, vE⟩
  have hG : mG D cA h ad A s σ s.heap [] := ⟨hP, hD, hS⟩
  have hl := lv_entry ([.ref h, .int x1]) (n := 2) (Nat.le_of_ble_eq_true rfl)
  rw [lg_entry_eq]
  generalize (lg_sl ([.ref h, .int x1]) ++ List.replicate (2 - (lg_sl ([.ref h, .int x1])).length) Slot.unset).toArray = ls at hl ⊢
  have hl : lv_has ls 2 [(0, .ref h), (1, .int x1)] := hl
  exact k_X9_isNext C vM x1 σ _ _ _ hG hl hw
/-! ===== takes ===== -/
def rm_X9_takes : Room := { frames := 1, cells := 0, slots := 0, locals := 21 }
abbrev wgX9_takes : List Cond := .code yX9_takes cX9_takes 3 (some .boolean) :: TB
def wB_X9_takes_20 (post : Int32 → MS → Prop) (x2 : Int32) (σ : MS) : Prop :=
  isB x2 ∧ (post x2 σ)
def wp_X9_takes (post : Int32 → MS → Prop) (x1 : Int32) (σ : MS) : Prop :=
  wp_X9_is (fun r_1 σ_2 => (r_1 = 0 → (wB_X9_takes_20 post r_1 σ_2)) ∧ (¬ r_1 = 0 → (wB_X9_takes_20 post r_1 (wI σ_2 9 ((mI σ_2 9) + 1))))) x1 σ
set_option maxHeartbeats 4000000 in
set_option maxRecDepth 100000 in
theorem kB_X9_takes_20 {p : Program} {l : Launch} {e : Env} {s : State} {m : MethodId} {args : Array Value} {below : List Frame} {meth : Method} {c : Code} {A : Nat → Prop} {E : EnvT} {aK aV : Nat → Nat} {D : va_G} {cA : Nat → ClassId} {h : Nat} {ad : Nat → Nat} (C : mCx p s m args meth c cX9_takes 3 (some .boolean) wgX9_takes RX9 E D cA A) (vM : eMs aK aV E) {post : Int32 → MS → Prop} :
    ∀ (x2 : Int32) (σ : MS) (H : Heap) (locs : List Loc) (ls : Array Slot), mG D cA h ad A s σ H locs → lv_has ls 3 [(2, .int x2)] → wB_X9_takes_20 post x2 σ → W p l e rm_X9_takes s m args below meth c H locs 0 0 (MQ below (va_Qi post (mAt D cA h ad A) A) args s 0 0 A) (F0 m 20 ls []) := by
  obtain ⟨hx, hb, hml, hr, hown, hts, hK, hA, hlk, hE, vE⟩ := id C
  intro x2 σ H locs ls hG hl hw
  obtain ⟨hP, hD, hS⟩ := id hG
  refine lv_iload_n hx hb dX9_takes_20 rfl (lv_at hl 0 rfl) ?_
  obtain ⟨h_3, hw⟩ := hw
  exact W.zret (v := x2) (ty := .boolean) hx hb hr (isB.n h_3) (fun t ht hW => ⟨⟨_, σ, rfl, hw, by rw [ht]; exact hP, va_K.moved hW.alike hK, hD⟩, hS.F ht⟩) hS.2.2 dX9_takes_21 hlk
set_option maxHeartbeats 4000000 in
set_option maxRecDepth 100000 in
theorem k_X9_takes {p : Program} {l : Launch} {e : Env} {s : State} {m : MethodId} {args : Array Value} {below : List Frame} {meth : Method} {c : Code} {A : Nat → Prop} {E : EnvT} {aK aV : Nat → Nat} {D : va_G} {cA : Nat → ClassId} {h : Nat} {ad : Nat → Nat} (C : mCx p s m args meth c cX9_takes 3 (some .boolean) wgX9_takes RX9 E D cA A) (vM : eMs aK aV E) {post : Int32 → MS → Prop} :
    ∀ (x1 : Int32) (σ : MS) (H : Heap) (locs : List Loc) (ls : Array Slot), mG D cA h ad A s σ H locs → lv_has ls 3 [(0, .ref h), (1, .int x1)] → wp_X9_takes post x1 σ → W p l e rm_X9_takes s m args below meth c H locs 0 0 (MQ below (va_Qi post (mAt D cA h ad A) A) args s 0 0 A) (F0 m 0 ls []) := by
  obtain ⟨hx, hb, hml, hr, hown, hts, hK, hA, hlk, hE, vE⟩ := id C
  intro x1 σ H locs ls hG hl hw
  obtain ⟨hP, hD, hS⟩ := id hG
  refine lv_aload_n hx hb dX9_takes_0 rfl (lv_at hl 0 rfl) ?_
  refine lv_iload_n hx hb dX9_takes_1 rfl (lv_at hl 1 rfl) ?_
  refine mV_i (As := [.int x1]) (rest := []) C (met_X9_is vE vM hw) (va_recv hK hP (ci := 11) (q0 := 0) rfl rfl) (cwV 1 hts (TB_G (TB_4 tw_6_17 tw_6_19 ts_34 tw_1_13) tw_6_20) rfl rfl rfl (by decide +kernel) ⟨by decide, by decide⟩) hP hD hS rfl hl.1 rfl (Nat.le_of_ble_eq_true rfl) dX9_takes_2 ⟨by decide, by decide⟩ (fun r_1 σ_2 H locs hw hP hD hS => ?_)
  have hG : mG D cA h ad A s σ_2 H locs := ⟨hP, hD, hS⟩
  refine lv_istore_n (lv' := [(2, .int r_1), (0, .ref h), (1, .int x1)]) hx hb dX9_takes_5 rfl hl (by decide) rfl (fun ls hl => ?_)
  refine lv_iload_n hx hb dX9_takes_6 rfl (lv_at hl 0 rfl) ?_
  refine lv_if_eq (tgt := 20) hx hb dX9_takes_7 (by decide) (fun q_ => ?_) (fun q_ => ?_)
  · have hw := hw.1 q_
    exact kB_X9_takes_20 C vM r_1 σ_2 _ _ _ hG (lv_sub hl [0] rfl) hw
  · have hw := hw.2 q_
    refine lv_aload_n hx hb dX9_takes_10 rfl (lv_at hl 1 rfl) ?_
    refine lv_dup hx hb dX9_takes_11 rfl ?_
    refine va_get (D := D) (ci := 11) (v := .int (mI σ_2 9)) (C := RX9) (T := TX9) (N := 32) hx hb hts (in_tb inX9) hown hK hP 0 rfl rfl 9 (by decide) (hts _ (List.mem_cons_of_mem _ tw_5_119)) (fun _ h9 => h9) rfl dX9_takes_12 ?_
    refine lv_iconst (v := 1) hx hb dX9_takes_15 (by decide) ?_
    refine lv_iadd hx hb dX9_takes_16 ?_
    refine va_put (D := D) (ci := 11) (v := .int ((mI σ_2 9) + 1)) (ty := .int) (C := RX9) (T := TX9) (N := 32) hx hb hts (in_tb inX9) tyX9 tyX9_ok nmX9 hown hK hP hD hS 0 rfl rfl 9 (by decide) (hts _ (List.mem_cons_of_mem _ tw_5_119)) (fun _ h9 => h9) rfl (by decide +kernel) rfl rfl (Nat.le_of_ble_eq_true rfl) dX9_takes_17 (fun H locs hP hD hS => ?_)
    have hG : mG D cA h ad A s (wI σ_2 9 ((mI σ_2 9) + 1)) H locs := ⟨hP, hD, hS⟩
    obtain ⟨hP, hD, hS⟩ := id hG
    exact kB_X9_takes_20 C vM r_1 (wI σ_2 9 ((mI σ_2 9) + 1)) _ _ _ hG (lv_sub hl [0] rfl) hw
set_option maxHeartbeats 4000000 in
set_option maxRecDepth 100000 in
theorem met_X9_takes {l : Launch} {E : EnvT} (vE : EnvOk E) {D : va_G} {cA : Nat → ClassId} {h : Nat} {ad : Nat → Nat} {σ : MS} {aK aV : Nat → Nat} (vM : eMs aK aV E) {sz : Nat} {x1 : Int32} {post : Int32 → MS → Prop} (hw : wp_X9_takes post x1 σ) : Met l yX9_takes wgX9_takes rm_X9_takes (va_Pc [.ref h, .int x1] (mPre E D cA h ad sz σ)) (va_Qi post (mAt D cA h ad (va_A (mW cA h ad σ) sz)) (va_A (mW cA h ad σ) sz)) 0 0 (va_A (mW cA h ad σ) sz) := by
  refine Met.ofW (cc := cX9_takes) (maxL := 3) (ret := (some .boolean)) (by decide +kernel) rfl ?_
  intro p e s m args below meth c s₁ B hml hv
  obtain ⟨rfl, hsz, hP, hK, hD0, hE⟩ := hv
  subst hsz
  have hD := hD0.self (sz := s.heap.size)
  generalize hAe : va_A (mW cA h ad σ) s.heap.size = A at hD hE ⊢
  have hA : ∀ q : Nat, s.heap.size ≤ q → A q := fun q h => by rw [← hAe]; exact Or.inr h
  have hS : va_S A s.heap s.heap [] := va_S.rf
  have C : mCx p s m _ meth c cX9_takes 3 (some .boolean) wgX9_takes RX9 E D cA A := ⟨B.exec, B.bytes, hml, B.returns, findClass_of_methodNamed B.named, atoms_spec (ws := wgX9_takes) B.pre, hK, hA, B.notSynchronized, hE, vE⟩
  have hG : mG D cA h ad A s σ s.heap [] := ⟨hP, hD, hS⟩
  have hl := lv_entry ([.ref h, .int x1]) (n := 3) (Nat.le_of_ble_eq_true rfl)
  rw [lg_entry_eq]
  generalize (lg_sl ([.ref h, .int x1]) ++ List.replicate (3 - (lg_sl ([.ref h, .int x1])).length) Slot.unset).toArray = ls at hl ⊢
  have hl : lv_has ls 3 [(0, .ref h), (1, .int x1)] := hl
  exact k_X9_takes C vM x1 σ _ _ _ hG hl hw
/-! ===== want ===== -/
def rm_X9_want : Room := { frames := 2, cells := 0, slots := 0, locals := 43 }
abbrev wgX9_want : List Cond := .code yX9_want cX9_want 2 (some .boolean) :: TB
def wB_X9_want_20 (post : Int32 → MS → Prop) (t0 : Int32) (σ : MS) : Prop :=
  isB t0 ∧ (post t0 σ)
def wB_X9_want_15 (post : Int32 → MS → Prop) (σ : MS) : Prop :=
  wB_X9_want_20 post 1 σ
def wp_X9_want (post : Int32 → MS → Prop) (x1 : Int32) (σ : MS) : Prop :=
  wp_X9_takes (fun r_1 σ_2 => (r_1 = 0 → (wp_X9_refuse (fun r_4 σ_5 => (r_4 = 0 → (wB_X9_want_20 post 0 σ_5)) ∧ (¬ r_4 = 0 → (wB_X9_want_15 post σ_5))) σ_2)) ∧ (¬ r_1 = 0 → (wB_X9_want_15 post σ_2))) x1 σ
set_option maxHeartbeats 4000000 in
set_option maxRecDepth 100000 in
theorem kB_X9_want_20 {p : Program} {l : Launch} {e : Env} {s : State} {m : MethodId} {args : Array Value} {below : List Frame} {meth : Method} {c : Code} {A : Nat → Prop} {E : EnvT} {aK aV : Nat → Nat} {D : va_G} {cA : Nat → ClassId} {h : Nat} {ad : Nat → Nat} (C : mCx p s m args meth c cX9_want 2 (some .boolean) wgX9_want RX9 E D cA A) (vM : eMs aK aV E) {post : Int32 → MS → Prop} :
    ∀ (t0 : Int32) (σ : MS) (H : Heap) (locs : List Loc) (ls : Array Slot), mG D cA h ad A s σ H locs → lv_has ls 2 [] → wB_X9_want_20 post t0 σ → W p l e rm_X9_want s m args below meth c H locs 0 0 (MQ below (va_Qi post (mAt D cA h ad A) A) args s 0 0 A) (F0 m 20 ls [.int t0]) := by
  obtain ⟨hx, hb, hml, hr, hown, hts, hK, hA, hlk, hE, vE⟩ := id C
  intro t0 σ H locs ls hG hl hw
  obtain ⟨hP, hD, hS⟩ := id hG
  obtain ⟨h_3, hw⟩ := hw
  exact W.zret (v := t0) (ty := .boolean) hx hb hr (isB.n h_3) (fun t ht hW => ⟨⟨_, σ, rfl, hw, by rw [ht]; exact hP, va_K.moved hW.alike hK, hD⟩, hS.F ht⟩) hS.2.2 dX9_want_20 hlk
set_option maxHeartbeats 4000000 in
set_option maxRecDepth 100000 in
theorem kB_X9_want_15 {p : Program} {l : Launch} {e : Env} {s : State} {m : MethodId} {args : Array Value} {below : List Frame} {meth : Method} {c : Code} {A : Nat → Prop} {E : EnvT} {aK aV : Nat → Nat} {D : va_G} {cA : Nat → ClassId} {h : Nat} {ad : Nat → Nat} (C : mCx p s m args meth c cX9_want 2 (some .boolean) wgX9_want RX9 E D cA A) (vM : eMs aK aV E) {post : Int32 → MS → Prop} :
    ∀ (σ : MS) (H : Heap) (locs : List Loc) (ls : Array Slot), mG D cA h ad A s σ H locs → lv_has ls 2 [] → wB_X9_want_15 post σ → W p l e rm_X9_want s m args below meth c H locs 0 0 (MQ below (va_Qi post (mAt D cA h ad A) A) args s 0 0 A) (F0 m 15 ls []) := by
  obtain ⟨hx, hb, hml, hr, hown, hts, hK, hA, hlk, hE, vE⟩ := id C
  intro σ H locs ls hG hl hw
  obtain ⟨hP, hD, hS⟩ := id hG
  refine lv_iconst (v := 1) hx hb dX9_want_15 (by decide) ?_
  refine lv_goto (tgt := 20) hx hb dX9_want_16 (by decide) ?_
  exact kB_X9_want_20 C vM 1 σ _ _ _ hG (lv_sub hl [] rfl) hw
set_option maxHeartbeats 4000000 in
set_option maxRecDepth 100000 in
theorem k_X9_want {p : Program} {l : Launch} {e : Env} {s : State} {m : MethodId} {args : Array Value} {below : List Frame} {meth : Method} {c : Code} {A : Nat → Prop} {E : EnvT} {aK aV : Nat → Nat} {D : va_G} {cA : Nat → ClassId} {h : Nat} {ad : Nat → Nat} (C : mCx p s m args meth c cX9_want 2 (some .boolean) wgX9_want RX9 E D cA A) (vM : eMs aK aV E) {post : Int32 → MS → Prop} :
    ∀ (x1 : Int32) (σ : MS) (H : Heap) (locs : List Loc) (ls : Array Slot), mG D cA h ad A s σ H locs → lv_has ls 2 [(0, .ref h), (1, .int x1)] → wp_X9_want post x1 σ → W p l e rm_X9_want s m args below meth c H locs 0 0 (MQ below (va_Qi post (mAt D cA h ad A) A) args s 0 0 A) (F0 m 0 ls []) := by
  obtain ⟨hx, hb, hml, hr, hown, hts, hK, hA, hlk, hE, vE⟩ := id C
  intro x1 σ H locs ls hG hl hw
  obtain ⟨hP, hD, hS⟩ := id hG
  refine lv_aload_n hx hb dX9_want_0 rfl (lv_at hl 0 rfl) ?_
  refine lv_iload_n hx hb dX9_want_1 rfl (lv_at hl 1 rfl) ?_
  refine mV_i (As := [.int x1]) (rest := []) C (met_X9_takes vE vM hw) (va_recv hK hP (ci := 11) (q0 := 0) rfl rfl) (cwV 1 hts (TB_G (TB_4 tw_6_13 tw_6_15 ts_33 tw_1_13) tw_6_16) rfl rfl rfl (by decide +kernel) ⟨by decide, by decide⟩) hP hD hS rfl hl.1 rfl (Nat.le_of_ble_eq_true rfl) dX9_want_2 ⟨by decide, by decide⟩ (fun r_1 σ_2 H locs hw hP hD hS => ?_)
  have hG : mG D cA h ad A s σ_2 H locs := ⟨hP, hD, hS⟩
  refine lv_if_ne (tgt := 15) hx hb dX9_want_5 (by decide) (fun q_ => ?_) (fun q_ => ?_)
  · have hw := hw.2 q_
    exact kB_X9_want_15 C vM  σ_2 _ _ _ hG (lv_sub hl [] rfl) hw
  · have hw := hw.1 q_
    refine lv_aload_n hx hb dX9_want_8 rfl (lv_at hl 0 rfl) ?_
    refine mV_i (As := []) (rest := []) C (met_X9_refuse vE vM hw) (va_recv hK hP (ci := 11) (q0 := 0) rfl rfl) (cwV 0 hts (TB_G (TB_4 tw_6_31 tw_6_33 ts_36 tw_1_13) tw_6_34) rfl rfl rfl (by decide +kernel) ⟨by decide, by decide⟩) hP hD hS rfl hl.1 rfl (Nat.le_of_ble_eq_true rfl) dX9_want_9 ⟨by decide, by decide⟩ (fun r_4 σ_5 H locs hw hP hD hS => ?_)
    have hG : mG D cA h ad A s σ_5 H locs := ⟨hP, hD, hS⟩
    refine lv_if_eq (tgt := 19) hx hb dX9_want_12 (by decide) (fun q_ => ?_) (fun q_ => ?_)
    · have hw := hw.1 q_
      refine lv_iconst (v := 0) hx hb dX9_want_19 (by decide) ?_
      exact kB_X9_want_20 C vM 0 σ_5 _ _ _ hG (lv_sub hl [] rfl) hw
    · have hw := hw.2 q_
      exact kB_X9_want_15 C vM  σ_5 _ _ _ hG (lv_sub hl [] rfl) hw
set_option maxHeartbeats 4000000 in
set_option maxRecDepth 100000 in
theorem met_X9_want {l : Launch} {E : EnvT} (vE : EnvOk E) {D : va_G} {cA : Nat → ClassId} {h : Nat} {ad : Nat → Nat} {σ : MS} {aK aV : Nat → Nat} (vM : eMs aK aV E) {sz : Nat} {x1 : Int32} {post : Int32 → MS → Prop} (hw : wp_X9_want post x1 σ) : Met l yX9_want wgX9_want rm_X9_want (va_Pc [.ref h, .int x1] (mPre E D cA h ad sz σ)) (va_Qi post (mAt D cA h ad (va_A (mW cA h ad σ) sz)) (va_A (mW cA h ad σ) sz)) 0 0 (va_A (mW cA h ad σ) sz) := by
  refine Met.ofW (cc := cX9_want) (maxL := 2) (ret := (some .boolean)) (by decide +kernel) rfl ?_
  intro p e s m args below meth c s₁ B hml hv
  obtain ⟨rfl, hsz, hP, hK, hD0, hE⟩ := hv
  subst hsz
  have hD := hD0.self (sz := s.heap.size)
  generalize hAe : va_A (mW cA h ad σ) s.heap.size = A at hD hE ⊢
  have hA : ∀ q : Nat, s.heap.size ≤ q → A q := fun q h => by rw [← hAe]; exact Or.inr h
  have hS : va_S A s.heap s.heap [] := va_S.rf
  have C : mCx p s m _ meth c cX9_want 2 (some .boolean) wgX9_want RX9 E D cA A := ⟨B.exec, B.bytes, hml, B.returns, findClass_of_methodNamed B.named, atoms_spec (ws := wgX9_want) B.pre, hK, hA, B.notSynchronized, hE, vE⟩
  have hG : mG D cA h ad A s σ s.heap [] := ⟨hP, hD, hS⟩
  have hl := lv_entry ([.ref h, .int x1]) (n := 2) (Nat.le_of_ble_eq_true rfl)
  rw [lg_entry_eq]
  generalize (lg_sl ([.ref h, .int x1]) ++ List.replicate (2 - (lg_sl ([.ref h, .int x1])).length) Slot.unset).toArray = ls at hl ⊢
  have hl : lv_has ls 2 [(0, .ref h), (1, .int x1)] := hl
  exact k_X9_want C vM x1 σ _ _ _ hG hl hw
/-! ===== find ===== -/
def rm_X9_find : Room := { frames := 0, cells := 0, slots := 0, locals := 0 }
abbrev wgX9_find : List Cond := .code yX9_find cX9_find 5 (some .int) :: TB
def wB_X9_find_7 (post : Int32 → MS → Prop) (k7 : Int32 → Int64 → Int32 → MS → Prop) (x1 : Int32) (x2 : Int64) (x4 : Int32) (σ : MS) : Prop :=
  vp_in x1 2 ∧ ((((400 * x1) + (mA σ 15 x1.toNatClampNeg)) ≤ x4 → (post (-1) σ)) ∧ (¬ ((400 * x1) + (mA σ 15 x1.toNatClampNeg)) ≤ x4 → (vp_in x4 800 ∧ (((mL σ 16 x4.toNatClampNeg) = x2 → (post x4 σ)) ∧ (¬ (mL σ 16 x4.toNatClampNeg) = x2 → (∀ x4_4 : Int32, x4_4 = x4 + 1 → k7 x1 x2 x4_4 σ))))))
def wL_X9_find_7 (post : Int32 → MS → Prop) : Nat → Int32 → Int64 → Int32 → MS → Prop
  | 0 => fun _ _ _ _ => False
  | n + 1 => wB_X9_find_7 post (wL_X9_find_7 post n)
def wp_X9_find (post : Int32 → MS → Prop) (x1 : Int32) (x2 : Int64) (σ : MS) : Prop :=
  ∀ x4_1 : Int32, x4_1 = 400 * x1 → ∃ n, wL_X9_find_7 post n x1 x2 x4_1 σ
set_option maxHeartbeats 4000000 in
set_option maxRecDepth 100000 in
theorem kB_X9_find_7 {p : Program} {l : Launch} {e : Env} {s : State} {m : MethodId} {args : Array Value} {below : List Frame} {meth : Method} {c : Code} {A : Nat → Prop} {E : EnvT} {aK aV : Nat → Nat} {D : va_G} {cA : Nat → ClassId} {h : Nat} {ad : Nat → Nat} (C : mCx p s m args meth c cX9_find 5 (some .int) wgX9_find RX9 E D cA A) (vM : eMs aK aV E) {post : Int32 → MS → Prop}
    {k7 : Int32 → Int64 → Int32 → MS → Prop} (hk7 : ∀ (x1 : Int32) (x2 : Int64) (x4 : Int32) (σ : MS) (H : Heap) (locs : List Loc) (ls : Array Slot), mG D cA h ad A s σ H locs → lv_has ls 5 [(0, .ref h), (1, .int x1), (2, .long x2), (4, .int x4)] → k7 x1 x2 x4 σ → W p l e rm_X9_find s m args below meth c H locs 0 0 (MQ below (va_Qi post (mAt D cA h ad A) A) args s 0 0 A) (F0 m 7 ls [])) :
    ∀ (x1 : Int32) (x2 : Int64) (x4 : Int32) (σ : MS) (H : Heap) (locs : List Loc) (ls : Array Slot), mG D cA h ad A s σ H locs → lv_has ls 5 [(0, .ref h), (1, .int x1), (2, .long x2), (4, .int x4)] → wB_X9_find_7 post k7 x1 x2 x4 σ → W p l e rm_X9_find s m args below meth c H locs 0 0 (MQ below (va_Qi post (mAt D cA h ad A) A) args s 0 0 A) (F0 m 7 ls []) := by
  obtain ⟨hx, hb, hml, hr, hown, hts, hK, hA, hlk, hE, vE⟩ := id C
  intro x1 x2 x4 σ H locs ls hG hl hw
  obtain ⟨hP, hD, hS⟩ := id hG
  refine lv_iload hx hb dX9_find_7 (lv_at hl 3 rfl) ?_
  refine lv_sipush (v := 400) hx hb dX9_find_9 (by decide) ?_
  refine lv_iload_n hx hb dX9_find_12 rfl (lv_at hl 1 rfl) ?_
  refine lv_imul hx hb dX9_find_13 ?_
  refine lv_aload_n hx hb dX9_find_14 rfl (lv_at hl 0 rfl) ?_
  refine va_get (D := D) (ci := 11) (v := .ref (ad 15)) (C := RX9) (T := TX9) (N := 32) hx hb hts (in_tb inX9) hown hK hP 0 rfl rfl 15 (by decide) (hts _ (List.mem_cons_of_mem _ tw_5_125)) (fun _ h9 => h9) rfl dX9_find_15 ?_
  refine lv_iload_n hx hb dX9_find_18 rfl (lv_at hl 1 rfl) ?_
  obtain ⟨h_2, hw⟩ := hw
  refine va_iald hx hb hK hP 7 0 rfl rfl h_2 dX9_find_19 ?_
  refine lv_iadd hx hb dX9_find_20 ?_
  refine lv_icmp_ge (tgt := 45) hx hb dX9_find_21 (by decide) (fun q_ => ?_) (fun q_ => ?_)
  · have hw := hw.1 q_
    refine lv_iconst (v := (-1)) hx hb dX9_find_45 (by decide) ?_
    exact W.iret (v := (-1)) hx hb hr (fun t ht hW => ⟨⟨_, σ, rfl, hw, by rw [ht]; exact hP, va_K.moved hW.alike hK, hD⟩, hS.F ht⟩) hS.2.2 dX9_find_46 hlk
  · have hw := hw.2 q_
    refine lv_aload_n hx hb dX9_find_24 rfl (lv_at hl 0 rfl) ?_
    refine va_get (D := D) (ci := 11) (v := .ref (ad 16)) (C := RX9) (T := TX9) (N := 32) hx hb hts (in_tb inX9) hown hK hP 0 rfl rfl 16 (by decide) (hts _ (List.mem_cons_of_mem _ tw_5_126)) (fun _ h9 => h9) rfl dX9_find_25 ?_
    refine lv_iload hx hb dX9_find_28 (lv_at hl 3 rfl) ?_
    obtain ⟨h_3, hw⟩ := hw
    refine va_lald hx hb hK hP 8 1 rfl rfl h_3 dX9_find_30 ?_
    refine lv_lload_n hx hb dX9_find_31 rfl (lv_at hl 2 rfl) ?_
    refine W.lcmp hx hb dX9_find_32 ?_
    refine lv_if_ne (tgt := 39) hx hb dX9_find_33 (by decide) (fun q_ => ?_) (fun q_ => ?_)
    · have hw := hw.2 (fun z => q_ (lc_eq.mpr z))
      obtain ⟨x4_4, ex4_4⟩ : ∃ y : Int32, y = x4 + 1 := ⟨_, rfl⟩
      have hw := hw x4_4 ex4_4
      refine lv_iinc (v := x4_4) (lv' := [(4, .int x4_4), (0, .ref h), (1, .int x1), (2, .long x2)]) hx hb dX9_find_39 hl (k := 3) rfl (by rw [ex4_4]; rfl) (by decide) rfl (fun ls hl => ?_)
      refine lv_goto (tgt := 7) hx hb dX9_find_42 (by decide) ?_
      exact hk7 x1 x2 x4_4 σ _ _ _ hG (lv_sub hl [1, 2, 3, 0] rfl) hw
    · have hw := hw.1 (lc_eq.mp q_)
      refine lv_iload hx hb dX9_find_36 (lv_at hl 3 rfl) ?_
      exact W.iret (v := x4) hx hb hr (fun t ht hW => ⟨⟨_, σ, rfl, hw, by rw [ht]; exact hP, va_K.moved hW.alike hK, hD⟩, hS.F ht⟩) hS.2.2 dX9_find_38 hlk
theorem kL_X9_find_7 {p : Program} {l : Launch} {e : Env} {s : State} {m : MethodId} {args : Array Value} {below : List Frame} {meth : Method} {c : Code} {A : Nat → Prop} {E : EnvT} {aK aV : Nat → Nat} {D : va_G} {cA : Nat → ClassId} {h : Nat} {ad : Nat → Nat} (C : mCx p s m args meth c cX9_find 5 (some .int) wgX9_find RX9 E D cA A) (vM : eMs aK aV E) {post : Int32 → MS → Prop} :
    ∀ (n : Nat) (x1 : Int32) (x2 : Int64) (x4 : Int32) (σ : MS) (H : Heap) (locs : List Loc) (ls : Array Slot), mG D cA h ad A s σ H locs → lv_has ls 5 [(0, .ref h), (1, .int x1), (2, .long x2), (4, .int x4)] → wL_X9_find_7 post n x1 x2 x4 σ → W p l e rm_X9_find s m args below meth c H locs 0 0 (MQ below (va_Qi post (mAt D cA h ad A) A) args s 0 0 A) (F0 m 7 ls []) := by
  intro n
  induction n with
  | zero => intro x1 x2 x4 σ H locs ls hG hl hw; exact hw.elim
  | succ n ih => exact kB_X9_find_7 C vM ih
set_option maxHeartbeats 4000000 in
set_option maxRecDepth 100000 in
theorem k_X9_find {p : Program} {l : Launch} {e : Env} {s : State} {m : MethodId} {args : Array Value} {below : List Frame} {meth : Method} {c : Code} {A : Nat → Prop} {E : EnvT} {aK aV : Nat → Nat} {D : va_G} {cA : Nat → ClassId} {h : Nat} {ad : Nat → Nat} (C : mCx p s m args meth c cX9_find 5 (some .int) wgX9_find RX9 E D cA A) (vM : eMs aK aV E) {post : Int32 → MS → Prop} :
    ∀ (x1 : Int32) (x2 : Int64) (σ : MS) (H : Heap) (locs : List Loc) (ls : Array Slot), mG D cA h ad A s σ H locs → lv_has ls 5 [(0, .ref h), (1, .int x1), (2, .long x2)] → wp_X9_find post x1 x2 σ → W p l e rm_X9_find s m args below meth c H locs 0 0 (MQ below (va_Qi post (mAt D cA h ad A) A) args s 0 0 A) (F0 m 0 ls []) := by
  obtain ⟨hx, hb, hml, hr, hown, hts, hK, hA, hlk, hE, vE⟩ := id C
  intro x1 x2 σ H locs ls hG hl hw
  obtain ⟨hP, hD, hS⟩ := id hG
  refine lv_sipush (v := 400) hx hb dX9_find_0 (by decide) ?_
  refine lv_iload_n hx hb dX9_find_3 rfl (lv_at hl 1 rfl) ?_
  refine lv_imul hx hb dX9_find_4 ?_
  refine lv_topi (fun x4_1 ex4_1 => ?_)
  have hw := hw x4_1 ex4_1
  refine lv_istore (lv' := [(4, .int x4_1), (0, .ref h), (1, .int x1), (2, .long x2)]) hx hb dX9_find_5 hl (by decide) rfl (fun ls hl => ?_)
  obtain ⟨n_, hw⟩ := hw
  exact kL_X9_find_7 C vM n_ x1 x2 x4_1 σ _ _ _ hG (lv_sub hl [1, 2, 3, 0] rfl) hw
set_option maxHeartbeats 4000000 in
set_option maxRecDepth 100000 in
theorem met_X9_find {l : Launch} {E : EnvT} (vE : EnvOk E) {D : va_G} {cA : Nat → ClassId} {h : Nat} {ad : Nat → Nat} {σ : MS} {aK aV : Nat → Nat} (vM : eMs aK aV E) {sz : Nat} {x1 : Int32} {x2 : Int64} {post : Int32 → MS → Prop} (hw : wp_X9_find post x1 x2 σ) : Met l yX9_find wgX9_find rm_X9_find (va_Pc [.ref h, .int x1, .long x2] (mPre E D cA h ad sz σ)) (va_Qi post (mAt D cA h ad (va_A (mW cA h ad σ) sz)) (va_A (mW cA h ad σ) sz)) 0 0 (va_A (mW cA h ad σ) sz) := by
  refine Met.ofW (cc := cX9_find) (maxL := 5) (ret := (some .int)) (by decide +kernel) rfl ?_
  intro p e s m args below meth c s₁ B hml hv
  obtain ⟨rfl, hsz, hP, hK, hD0, hE⟩ := hv
  subst hsz
  have hD := hD0.self (sz := s.heap.size)
  generalize hAe : va_A (mW cA h ad σ) s.heap.size = A at hD hE ⊢
  have hA : ∀ q : Nat, s.heap.size ≤ q → A q := fun q h => by rw [← hAe]; exact Or.inr h
  have hS : va_S A s.heap s.heap [] := va_S.rf
  have C : mCx p s m _ meth c cX9_find 5 (some .int) wgX9_find RX9 E D cA A := ⟨B.exec, B.bytes, hml, B.returns, findClass_of_methodNamed B.named, atoms_spec (ws := wgX9_find) B.pre, hK, hA, B.notSynchronized, hE, vE⟩
  have hG : mG D cA h ad A s σ s.heap [] := ⟨hP, hD, hS⟩
  have hl := lv_entry ([.ref h, .int x1, .long x2]) (n := 5) (Nat.le_of_ble_eq_true rfl)
  rw [lg_entry_eq]
  generalize (lg_sl ([.ref h, .int x1, .long x2]) ++ List.replicate (5 - (lg_sl ([.ref h, .int x1, .long x2])).length) Slot.unset).toArray = ls at hl ⊢
  have hl : lv_has ls 5 [(0, .ref h), (1, .int x1), (2, .long x2)] := hl
  exact k_X9_find C vM x1 x2 σ _ _ _ hG hl hw
/-! ===== tell ===== -/
def rm_X9_tell : Room := { frames := 1, cells := 0, slots := 0, locals := 24 }
abbrev wgX9_tell : List Cond := .code yX9_tell cX9_tell 7 none :: TB
def wB_X9_tell_21 (post : MS → Prop) (x1 : Int64) (x4 : Int64) (σ : MS) : Prop :=
  vp_in (1 - (mI σ 14)) 2 ∧ (∀ x6_4 : Int32, x6_4 = (400 * (1 - (mI σ 14))) + (mA σ 15 (1 - (mI σ 14)).toNatClampNeg) → wp_X9_find (fun r_5 σ_6 => (r_5 = (-1) → (vp_in x6_4 800 ∧ (vp_in x6_4 800 ∧ (vp_in (1 - (mI σ_6 14)) 2 ∧ (vp_in (1 - (mI σ_6 14)) 2 ∧ (post (wA (wL (wL σ_6 16 x6_4.toNatClampNeg x1) 17 x6_4.toNatClampNeg x4) 15 (1 - (mI σ_6 14)).toNatClampNeg ((mA σ_6 15 (1 - (mI σ_6 14)).toNatClampNeg) + 1)))))))) ∧ (¬ r_5 = (-1) → (post σ_6))) (1 - (mI σ 14)) x1 σ)
def wp_X9_tell (post : MS → Prop) (x1 : Int64) (x3 : Int32) (x4 : Int64) (σ : MS) : Prop :=
  wp_X9_find (fun r_1 σ_2 => (r_1 = (-1) → (wB_X9_tell_21 post x1 x4 σ_2)) ∧ (¬ r_1 = (-1) → (wp_X9_note (fun σ_12 => wB_X9_tell_21 post x1 x4 σ_12) 2 x3 σ_2))) (1 - (mI σ 14)) x1 σ
set_option maxHeartbeats 4000000 in
set_option maxRecDepth 100000 in
theorem kB_X9_tell_21 {p : Program} {l : Launch} {e : Env} {s : State} {m : MethodId} {args : Array Value} {below : List Frame} {meth : Method} {c : Code} {A : Nat → Prop} {E : EnvT} {aK aV : Nat → Nat} {D : va_G} {cA : Nat → ClassId} {h : Nat} {ad : Nat → Nat} (C : mCx p s m args meth c cX9_tell 7 none wgX9_tell RX9 E D cA A) (vM : eMs aK aV E) {post : MS → Prop} :
    ∀ (x1 : Int64) (x4 : Int64) (σ : MS) (H : Heap) (locs : List Loc) (ls : Array Slot), mG D cA h ad A s σ H locs → lv_has ls 7 [(0, .ref h), (1, .long x1), (4, .long x4)] → wB_X9_tell_21 post x1 x4 σ → W p l e rm_X9_tell s m args below meth c H locs 0 0 (MQ below (va_Qv post (mAt D cA h ad A) A) args s 0 0 A) (F0 m 21 ls []) := by
  obtain ⟨hx, hb, hml, hr, hown, hts, hK, hA, hlk, hE, vE⟩ := id C
  intro x1 x4 σ H locs ls hG hl hw
  obtain ⟨hP, hD, hS⟩ := id hG
  refine lv_sipush (v := 400) hx hb dX9_tell_21 (by decide) ?_
  refine lv_iconst (v := 1) hx hb dX9_tell_24 (by decide) ?_
  refine lv_aload_n hx hb dX9_tell_25 rfl (lv_at hl 0 rfl) ?_
  refine va_get (D := D) (ci := 11) (v := .int (mI σ 14)) (C := RX9) (T := TX9) (N := 32) hx hb hts (in_tb inX9) hown hK hP 0 rfl rfl 14 (by decide) (hts _ (List.mem_cons_of_mem _ tw_5_124)) (fun _ h9 => h9) rfl dX9_tell_26 ?_
  refine lv_isub hx hb dX9_tell_29 ?_
  refine lv_imul hx hb dX9_tell_30 ?_
  refine lv_aload_n hx hb dX9_tell_31 rfl (lv_at hl 0 rfl) ?_
  refine va_get (D := D) (ci := 11) (v := .ref (ad 15)) (C := RX9) (T := TX9) (N := 32) hx hb hts (in_tb inX9) hown hK hP 0 rfl rfl 15 (by decide) (hts _ (List.mem_cons_of_mem _ tw_5_125)) (fun _ h9 => h9) rfl dX9_tell_32 ?_
  refine lv_iconst (v := 1) hx hb dX9_tell_35 (by decide) ?_
  refine lv_aload_n hx hb dX9_tell_36 rfl (lv_at hl 0 rfl) ?_
  refine va_get (D := D) (ci := 11) (v := .int (mI σ 14)) (C := RX9) (T := TX9) (N := 32) hx hb hts (in_tb inX9) hown hK hP 0 rfl rfl 14 (by decide) (hts _ (List.mem_cons_of_mem _ tw_5_124)) (fun _ h9 => h9) rfl dX9_tell_37 ?_
  refine lv_isub hx hb dX9_tell_40 ?_
  obtain ⟨h_3, hw⟩ := hw
  refine va_iald hx hb hK hP 7 0 rfl rfl h_3 dX9_tell_41 ?_
  refine lv_iadd hx hb dX9_tell_42 ?_
  refine lv_topi (fun x6_4 ex6_4 => ?_)
  have hw := hw x6_4 ex6_4
  refine lv_istore (lv' := [(6, .int x6_4), (0, .ref h), (1, .long x1), (4, .long x4)]) hx hb dX9_tell_43 hl (by decide) rfl (fun ls hl => ?_)
  refine lv_aload_n hx hb dX9_tell_45 rfl (lv_at hl 1 rfl) ?_
  refine lv_iconst (v := 1) hx hb dX9_tell_46 (by decide) ?_
  refine lv_aload_n hx hb dX9_tell_47 rfl (lv_at hl 1 rfl) ?_
  refine va_get (D := D) (ci := 11) (v := .int (mI σ 14)) (C := RX9) (T := TX9) (N := 32) hx hb hts (in_tb inX9) hown hK hP 0 rfl rfl 14 (by decide) (hts _ (List.mem_cons_of_mem _ tw_5_124)) (fun _ h9 => h9) rfl dX9_tell_48 ?_
  refine lv_isub hx hb dX9_tell_51 ?_
  refine lv_lload_n hx hb dX9_tell_52 rfl (lv_at hl 2 rfl) ?_
  refine mV_i (As := [.int (1 - (mI σ 14)), .long x1]) (rest := []) C (met_X9_find vE vM hw) (va_recv hK hP (ci := 11) (q0 := 0) rfl rfl) (cwV 2 hts (TB_G (TB_4 tw_6_35 tw_6_37 ts_37 tw_1_13) tw_6_38) rfl rfl rfl (by decide +kernel) ⟨by decide, by decide⟩) hP hD hS rfl hl.1 rfl (Nat.le_of_ble_eq_true rfl) dX9_tell_53 ⟨by decide, by decide⟩ (fun r_5 σ_6 H locs hw hP hD hS => ?_)
  have hG : mG D cA h ad A s σ_6 H locs := ⟨hP, hD, hS⟩
  refine lv_iconst (v := (-1)) hx hb dX9_tell_56 (by decide) ?_
  refine lv_icmp_eq (tgt := 61) hx hb dX9_tell_57 (by decide) (fun q_ => ?_) (fun q_ => ?_)
  · have hw := hw.1 q_
    refine lv_aload_n hx hb dX9_tell_61 rfl (lv_at hl 1 rfl) ?_
    refine va_get (D := D) (ci := 11) (v := .ref (ad 16)) (C := RX9) (T := TX9) (N := 32) hx hb hts (in_tb inX9) hown hK hP 0 rfl rfl 16 (by decide) (hts _ (List.mem_cons_of_mem _ tw_5_126)) (fun _ h9 => h9) rfl dX9_tell_62 ?_
    refine lv_iload hx hb dX9_tell_65 (lv_at hl 0 rfl) ?_
    refine lv_lload_n hx hb dX9_tell_67 rfl (lv_at hl 2 rfl) ?_
    obtain ⟨h_7, hw⟩ := hw
    refine va_last hx hb hK hP hD hS 8 1 rfl rfl h_7 dX9_tell_68 (fun H locs hP hD hS => ?_)
    have hG : mG D cA h ad A s (wL σ_6 16 x6_4.toNatClampNeg x1) H locs := ⟨hP, hD, hS⟩
    obtain ⟨hP, hD, hS⟩ := id hG
    refine lv_aload_n hx hb dX9_tell_69 rfl (lv_at hl 1 rfl) ?_
    refine va_get (D := D) (ci := 11) (v := .ref (ad 17)) (C := RX9) (T := TX9) (N := 32) hx hb hts (in_tb inX9) hown hK hP 0 rfl rfl 17 (by decide) (hts _ (List.mem_cons_of_mem _ tw_5_127)) (fun _ h9 => h9) rfl dX9_tell_70 ?_
    refine lv_iload hx hb dX9_tell_73 (lv_at hl 0 rfl) ?_
    refine lv_lload hx hb dX9_tell_75 (lv_at hl 3 rfl) ?_
    obtain ⟨h_8, hw⟩ := hw
    refine va_last hx hb hK hP hD hS 9 1 rfl rfl h_8 dX9_tell_77 (fun H locs hP hD hS => ?_)
    have hG : mG D cA h ad A s (wL (wL σ_6 16 x6_4.toNatClampNeg x1) 17 x6_4.toNatClampNeg x4) H locs := ⟨hP, hD, hS⟩
    obtain ⟨hP, hD, hS⟩ := id hG
    refine lv_aload_n hx hb dX9_tell_78 rfl (lv_at hl 1 rfl) ?_
    refine va_get (D := D) (ci := 11) (v := .ref (ad 15)) (C := RX9) (T := TX9) (N := 32) hx hb hts (in_tb inX9) hown hK hP 0 rfl rfl 15 (by decide) (hts _ (List.mem_cons_of_mem _ tw_5_125)) (fun _ h9 => h9) rfl dX9_tell_79 ?_
    refine lv_iconst (v := 1) hx hb dX9_tell_82 (by decide) ?_
    refine lv_aload_n hx hb dX9_tell_83 rfl (lv_at hl 1 rfl) ?_
    refine va_get (D := D) (ci := 11) (v := .int (mI σ_6 14)) (C := RX9) (T := TX9) (N := 32) hx hb hts (in_tb inX9) hown hK hP 0 rfl rfl 14 (by decide) (hts _ (List.mem_cons_of_mem _ tw_5_124)) (fun _ h9 => h9) rfl dX9_tell_84 ?_
    refine lv_isub hx hb dX9_tell_87 ?_
    refine lv_dup2_11 hx hb dX9_tell_88 rfl rfl ?_
    obtain ⟨h_9, hw⟩ := hw
    refine va_iald hx hb hK hP 7 0 rfl rfl h_9 dX9_tell_89 ?_
    refine lv_iconst (v := 1) hx hb dX9_tell_90 (by decide) ?_
    refine lv_iadd hx hb dX9_tell_91 ?_
    obtain ⟨h_10, hw⟩ := hw
    refine va_iast hx hb hK hP hD hS 7 0 rfl rfl h_10 dX9_tell_92 (fun H locs hP hD hS => ?_)
    have hG : mG D cA h ad A s (wA (wL (wL σ_6 16 x6_4.toNatClampNeg x1) 17 x6_4.toNatClampNeg x4) 15 (1 - (mI σ_6 14)).toNatClampNeg ((mA σ_6 15 (1 - (mI σ_6 14)).toNatClampNeg) + 1)) H locs := ⟨hP, hD, hS⟩
    obtain ⟨hP, hD, hS⟩ := id hG
    exact W.vret hx hb hr (fun t ht hW => ⟨⟨(wA (wL (wL σ_6 16 x6_4.toNatClampNeg x1) 17 x6_4.toNatClampNeg x4) 15 (1 - (mI σ_6 14)).toNatClampNeg ((mA σ_6 15 (1 - (mI σ_6 14)).toNatClampNeg) + 1)), rfl, hw, by rw [ht]; exact hP, va_K.moved hW.alike hK, hD⟩, hS.F ht⟩) hS.2.2 dX9_tell_93 hlk
  · have hw := hw.2 q_
    exact W.vret hx hb hr (fun t ht hW => ⟨⟨σ_6, rfl, hw, by rw [ht]; exact hP, va_K.moved hW.alike hK, hD⟩, hS.F ht⟩) hS.2.2 dX9_tell_60 hlk
set_option maxHeartbeats 4000000 in
set_option maxRecDepth 100000 in
theorem k_X9_tell {p : Program} {l : Launch} {e : Env} {s : State} {m : MethodId} {args : Array Value} {below : List Frame} {meth : Method} {c : Code} {A : Nat → Prop} {E : EnvT} {aK aV : Nat → Nat} {D : va_G} {cA : Nat → ClassId} {h : Nat} {ad : Nat → Nat} (C : mCx p s m args meth c cX9_tell 7 none wgX9_tell RX9 E D cA A) (vM : eMs aK aV E) {post : MS → Prop} :
    ∀ (x1 : Int64) (x3 : Int32) (x4 : Int64) (σ : MS) (H : Heap) (locs : List Loc) (ls : Array Slot), mG D cA h ad A s σ H locs → lv_has ls 7 [(0, .ref h), (1, .long x1), (3, .int x3), (4, .long x4)] → wp_X9_tell post x1 x3 x4 σ → W p l e rm_X9_tell s m args below meth c H locs 0 0 (MQ below (va_Qv post (mAt D cA h ad A) A) args s 0 0 A) (F0 m 0 ls []) := by
  obtain ⟨hx, hb, hml, hr, hown, hts, hK, hA, hlk, hE, vE⟩ := id C
  intro x1 x3 x4 σ H locs ls hG hl hw
  obtain ⟨hP, hD, hS⟩ := id hG
  refine lv_aload_n hx hb dX9_tell_0 rfl (lv_at hl 0 rfl) ?_
  refine lv_iconst (v := 1) hx hb dX9_tell_1 (by decide) ?_
  refine lv_aload_n hx hb dX9_tell_2 rfl (lv_at hl 0 rfl) ?_
  refine va_get (D := D) (ci := 11) (v := .int (mI σ 14)) (C := RX9) (T := TX9) (N := 32) hx hb hts (in_tb inX9) hown hK hP 0 rfl rfl 14 (by decide) (hts _ (List.mem_cons_of_mem _ tw_5_124)) (fun _ h9 => h9) rfl dX9_tell_3 ?_
  refine lv_isub hx hb dX9_tell_6 ?_
  refine lv_lload_n hx hb dX9_tell_7 rfl (lv_at hl 1 rfl) ?_
  refine mV_i (As := [.int (1 - (mI σ 14)), .long x1]) (rest := []) C (met_X9_find vE vM hw) (va_recv hK hP (ci := 11) (q0 := 0) rfl rfl) (cwV 2 hts (TB_G (TB_4 tw_6_35 tw_6_37 ts_37 tw_1_13) tw_6_38) rfl rfl rfl (by decide +kernel) ⟨by decide, by decide⟩) hP hD hS rfl hl.1 rfl (Nat.le_of_ble_eq_true rfl) dX9_tell_8 ⟨by decide, by decide⟩ (fun r_1 σ_2 H locs hw hP hD hS => ?_)
  have hG : mG D cA h ad A s σ_2 H locs := ⟨hP, hD, hS⟩
  refine lv_iconst (v := (-1)) hx hb dX9_tell_11 (by decide) ?_
  refine lv_icmp_eq (tgt := 21) hx hb dX9_tell_12 (by decide) (fun q_ => ?_) (fun q_ => ?_)
  · have hw := hw.1 q_
    exact kB_X9_tell_21 C vM x1 x4 σ_2 _ _ _ hG (lv_sub hl [0, 1, 3] rfl) hw
  · have hw := hw.2 q_
    refine lv_aload_n hx hb dX9_tell_15 rfl (lv_at hl 0 rfl) ?_
    refine lv_iconst (v := 2) hx hb dX9_tell_16 (by decide) ?_
    refine lv_iload_n hx hb dX9_tell_17 rfl (lv_at hl 2 rfl) ?_
    refine mV_v (As := [.int 2, .int x3]) (rest := []) C (met_X9_note vE vM hw) (va_recv hK hP (ci := 11) (q0 := 0) rfl rfl) (cwV 2 hts (TB_G (TB_4 tw_6_27 tw_6_29 ts_35 tw_1_13) tw_6_30) rfl rfl rfl (by decide +kernel) ⟨by decide, by decide⟩) hP hD hS rfl hl.1 rfl (Nat.le_of_ble_eq_true rfl) dX9_tell_18 ⟨by decide, by decide⟩ (fun σ_12 H locs hw hP hD hS => ?_)
    have hG : mG D cA h ad A s σ_12 H locs := ⟨hP, hD, hS⟩
    exact kB_X9_tell_21 C vM x1 x4 σ_12 _ _ _ hG (lv_sub hl [0, 1, 3] rfl) hw
set_option maxHeartbeats 4000000 in
set_option maxRecDepth 100000 in
theorem met_X9_tell {l : Launch} {E : EnvT} (vE : EnvOk E) {D : va_G} {cA : Nat → ClassId} {h : Nat} {ad : Nat → Nat} {σ : MS} {aK aV : Nat → Nat} (vM : eMs aK aV E) {sz : Nat} {x1 : Int64} {x3 : Int32} {x4 : Int64} {post : MS → Prop} (hw : wp_X9_tell post x1 x3 x4 σ) : Met l yX9_tell wgX9_tell rm_X9_tell (va_Pc [.ref h, .long x1, .int x3, .long x4] (mPre E D cA h ad sz σ)) (va_Qv post (mAt D cA h ad (va_A (mW cA h ad σ) sz)) (va_A (mW cA h ad σ) sz)) 0 0 (va_A (mW cA h ad σ) sz) := by
  refine Met.ofW (cc := cX9_tell) (maxL := 7) (ret := none) (by decide +kernel) rfl ?_
  intro p e s m args below meth c s₁ B hml hv
  obtain ⟨rfl, hsz, hP, hK, hD0, hE⟩ := hv
  subst hsz
  have hD := hD0.self (sz := s.heap.size)
  generalize hAe : va_A (mW cA h ad σ) s.heap.size = A at hD hE ⊢
  have hA : ∀ q : Nat, s.heap.size ≤ q → A q := fun q h => by rw [← hAe]; exact Or.inr h
  have hS : va_S A s.heap s.heap [] := va_S.rf
  have C : mCx p s m _ meth c cX9_tell 7 none wgX9_tell RX9 E D cA A := ⟨B.exec, B.bytes, hml, B.returns, findClass_of_methodNamed B.named, atoms_spec (ws := wgX9_tell) B.pre, hK, hA, B.notSynchronized, hE, vE⟩
  have hG : mG D cA h ad A s σ s.heap [] := ⟨hP, hD, hS⟩
  have hl := lv_entry ([.ref h, .long x1, .int x3, .long x4]) (n := 7) (Nat.le_of_ble_eq_true rfl)
  rw [lg_entry_eq]
  generalize (lg_sl ([.ref h, .long x1, .int x3, .long x4]) ++ List.replicate (7 - (lg_sl ([.ref h, .long x1, .int x3, .long x4])).length) Slot.unset).toArray = ls at hl ⊢
  have hl : lv_has ls 7 [(0, .ref h), (1, .long x1), (3, .int x3), (4, .long x4)] := hl
  exact k_X9_tell C vM x1 x3 x4 σ _ _ _ hG hl hw
