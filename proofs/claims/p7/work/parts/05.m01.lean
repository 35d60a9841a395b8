/-! ===== see ===== -/
def rm_X9_see : Room := { frames := 0, cells := 0, slots := 0, locals := 0 }
abbrev wgX9_see : List Cond := .code yX9_see cX9_see 2 (some .int) :: TB
def wB_X9_see_18 (post : Int32 → MS → Prop) (t0 : Int32) (σ : MS) : Prop :=
  post t0 σ
def wp_X9_see (post : Int32 → MS → Prop) (x1 : Int32) (σ : MS) : Prop :=
  ((mI σ 2) ≤ x1 → (wB_X9_see_18 post 0 σ)) ∧ (¬ (mI σ 2) ≤ x1 → (vp_in x1 700 ∧ (wB_X9_see_18 post (mA σ 1 x1.toNatClampNeg) σ)))
set_option maxHeartbeats 4000000 in
set_option maxRecDepth 100000 in
theorem kB_X9_see_18 {p : Program} {l : Launch} {e : Env} {s : State} {m : MethodId} {args : Array Value} {below : List Frame} {meth : Method} {c : Code} {A : Nat → Prop} {E : EnvT} {aK aV : Nat → Nat} {D : va_G} {cA : Nat → ClassId} {h : Nat} {ad : Nat → Nat} (C : mCx p s m args meth c cX9_see 2 (some .int) wgX9_see RX9 E D cA A) (vM : eMs aK aV E) {post : Int32 → MS → Prop} :
    ∀ (t0 : Int32) (σ : MS) (H : Heap) (locs : List Loc) (ls : Array Slot), mG D cA h ad A s σ H locs → lv_has ls 2 [] → wB_X9_see_18 post t0 σ → W p l e rm_X9_see s m args below meth c H locs 0 0 (MQ below (va_Qi post (mAt D cA h ad A) A) args s 0 0 A) (F0 m 18 ls [.int t0]) := by
  obtain ⟨hx, hb, hml, hr, hown, hts, hK, hA, hlk, hE, vE⟩ := id C
  intro t0 σ H locs ls hG hl hw
  obtain ⟨hP, hD, hS⟩ := id hG
  exact W.iret (v := t0) hx hb hr (fun t ht hW => ⟨⟨_, σ, rfl, hw, by rw [ht]; exact hP, va_K.moved hW.alike hK, hD⟩, hS.F ht⟩) hS.2.2 dX9_see_18 hlk
set_option maxHeartbeats 4000000 in
set_option maxRecDepth 100000 in
theorem k_X9_see {p : Program} {l : Launch} {e : Env} {s : State} {m : MethodId} {args : Array Value} {below : List Frame} {meth : Method} {c : Code} {A : Nat → Prop} {E : EnvT} {aK aV : Nat → Nat} {D : va_G} {cA : Nat → ClassId} {h : Nat} {ad : Nat → Nat} (C : mCx p s m args meth c cX9_see 2 (some .int) wgX9_see RX9 E D cA A) (vM : eMs aK aV E) {post : Int32 → MS → Prop} :
    ∀ (x1 : Int32) (σ : MS) (H : Heap) (locs : List Loc) (ls : Array Slot), mG D cA h ad A s σ H locs → lv_has ls 2 [(0, .ref h), (1, .int x1)] → wp_X9_see post x1 σ → W p l e rm_X9_see s m args below meth c H locs 0 0 (MQ below (va_Qi post (mAt D cA h ad A) A) args s 0 0 A) (F0 m 0 ls []) := by
  obtain ⟨hx, hb, hml, hr, hown, hts, hK, hA, hlk, hE, vE⟩ := id C
  intro x1 σ H locs ls hG hl hw
  obtain ⟨hP, hD, hS⟩ := id hG
  refine lv_iload_n hx hb dX9_see_0 rfl (lv_at hl 1 rfl) ?_
  refine lv_aload_n hx hb dX9_see_1 rfl (lv_at hl 0 rfl) ?_
  refine va_get (D := D) (ci := 11) (v := .int (mI σ 2)) (C := RX9) (T := TX9) (N := 32) hx hb hts (in_tb inX9) hown hK hP 0 rfl rfl 2 (by decide) (hts _ (List.mem_cons_of_mem _ tw_5_112)) (fun _ h9 => h9) rfl dX9_see_2 ?_
  refine lv_icmp_ge (tgt := 17) hx hb dX9_see_5 (by decide) (fun q_ => ?_) (fun q_ => ?_)
  · have hw := hw.1 q_
    refine lv_iconst (v := 0) hx hb dX9_see_17 (by decide) ?_
    exact kB_X9_see_18 C vM 0 σ _ _ _ hG (lv_sub hl [] rfl) hw
  · have hw := hw.2 q_
    refine lv_aload_n hx hb dX9_see_8 rfl (lv_at hl 0 rfl) ?_
    refine va_get (D := D) (ci := 11) (v := .ref (ad 1)) (C := RX9) (T := TX9) (N := 32) hx hb hts (in_tb inX9) hown hK hP 0 rfl rfl 1 (by decide) (hts _ (List.mem_cons_of_mem _ tw_5_111)) (fun _ h9 => h9) rfl dX9_see_9 ?_
    refine lv_iload_n hx hb dX9_see_12 rfl (lv_at hl 1 rfl) ?_
    obtain ⟨h_1, hw⟩ := hw
    refine va_iald hx hb hK hP 1 0 rfl rfl h_1 dX9_see_13 ?_
    refine lv_goto (tgt := 18) hx hb dX9_see_14 (by decide) ?_
    exact kB_X9_see_18 C vM (mA σ 1 x1.toNatClampNeg) σ _ _ _ hG (lv_sub hl [] rfl) hw
set_option maxHeartbeats 4000000 in
set_option maxRecDepth 100000 in
theorem met_X9_see {l : Launch} {E : EnvT} (vE : EnvOk E) {D : va_G} {cA : Nat → ClassId} {h : Nat} {ad : Nat → Nat} {σ : MS} {aK aV : Nat → Nat} (vM : eMs aK aV E) {sz : Nat} {x1 : Int32} {post : Int32 → MS → Prop} (hw : wp_X9_see post x1 σ) : Met l yX9_see wgX9_see rm_X9_see (va_Pc [.ref h, .int x1] (mPre E D cA h ad sz σ)) (va_Qi post (mAt D cA h ad (va_A (mW cA h ad σ) sz)) (va_A (mW cA h ad σ) sz)) 0 0 (va_A (mW cA h ad σ) sz) := by
  refine Met.ofW (cc := cX9_see) (maxL := 2) (ret := (some .int)) (by decide +kernel) rfl ?_
  intro p e s m args below meth c s₁ B hml hv
  obtain ⟨rfl, hsz, hP, hK, hD0, hE⟩ := hv
  subst hsz
  have hD := hD0.self (sz := s.heap.size)
  generalize hAe : va_A (mW cA h ad σ) s.heap.size = A at hD hE ⊢
  have hA : ∀ q : Nat, s.heap.size ≤ q → A q := fun q h => by rw [← hAe]; exact Or.inr h
  have hS : va_S A s.heap s.heap [] := va_S.rf
  have C : mCx p s m _ meth c cX9_see 2 (some .int) wgX9_see RX9 E D cA A := ⟨B.exec, B.bytes, hml, B.returns, findClass_of_methodNamed B.named, atoms_spec (ws := wgX9_see) B.pre, hK, hA, B.notSynchronized, hE, vE⟩
  have hG : mG D cA h ad A s σ s.heap [] := ⟨hP, hD, hS⟩
  have hl := lv_entry ([.ref h, .int x1]) (n := 2) (Nat.le_of_ble_eq_true rfl)
  rw [lg_entry_eq]
  generalize (lg_sl ([.ref h, .int x1]) ++ List.replicate (2 - (lg_sl ([.ref h, .int x1])).length) Slot.unset).toArray = ls at hl ⊢
  have hl : lv_has ls 2 [(0, .ref h), (1, .int x1)] := hl
  exact k_X9_see C vM x1 σ _ _ _ hG hl hw
/-! ===== isDigit ===== -/
def rm_X9_isDigit : Room := { frames := 0, cells := 0, slots := 0, locals := 0 }
abbrev wgX9_isDigit : List Cond := .code yX9_isDigit cX9_isDigit 1 (some .boolean) :: TB
def wB_X9_isDigit_17 (post : Int32 → Prop) (t0 : Int32) : Prop :=
  isB t0 ∧ (post t0)
def wB_X9_isDigit_16 (post : Int32 → Prop) : Prop :=
  wB_X9_isDigit_17 post 0
def wp_X9_isDigit (post : Int32 → Prop) (x0 : Int32) : Prop :=
  (x0 < 48 → (wB_X9_isDigit_16 post)) ∧ (¬ x0 < 48 → ((57 < x0 → (wB_X9_isDigit_16 post)) ∧ (¬ 57 < x0 → (wB_X9_isDigit_17 post 1))))
set_option maxHeartbeats 4000000 in
set_option maxRecDepth 100000 in
theorem kB_X9_isDigit_17 {p : Program} {l : Launch} {e : Env} {s : State} {m : MethodId} {args : Array Value} {below : List Frame} {meth : Method} {c : Code} {A : Nat → Prop} {E : EnvT} {aK aV : Nat → Nat} (C : sCx p s m args meth c cX9_isDigit 1 (some .boolean) wgX9_isDigit RX9 E A) (vM : eMs aK aV E) {post : Int32 → Prop} :
    ∀ (t0 : Int32) (H : Heap) (locs : List Loc) (ls : Array Slot), va_S A s.heap H locs → lv_has ls 1 [] → wB_X9_isDigit_17 post t0 → W p l e rm_X9_isDigit s m args below meth c H locs 0 0 (MQ below (va_Qi (S := Unit) (fun r _ => post r) (fun _ _ => True) A) args s 0 0 A) (F0 m 17 ls [.int t0]) := by
  obtain ⟨hx, hb, hml, hr, hown, hts, hA, hlk, hE, vE⟩ := id C
  intro t0 H locs ls hG hl hw
  have hS := hG
  obtain ⟨h_1, hw⟩ := hw
  exact W.zret (v := t0) (ty := .boolean) hx hb hr (isB.n h_1) (fun t ht hW => ⟨⟨_, (), rfl, hw, trivial⟩, hS.F ht⟩) hS.2.2 dX9_isDigit_17 hlk
set_option maxHeartbeats 4000000 in
set_option maxRecDepth 100000 in
theorem kB_X9_isDigit_16 {p : Program} {l : Launch} {e : Env} {s : State} {m : MethodId} {args : Array Value} {below : List Frame} {meth : Method} {c : Code} {A : Nat → Prop} {E : EnvT} {aK aV : Nat → Nat} (C : sCx p s m args meth c cX9_isDigit 1 (some .boolean) wgX9_isDigit RX9 E A) (vM : eMs aK aV E) {post : Int32 → Prop} :
    ∀ (H : Heap) (locs : List Loc) (ls : Array Slot), va_S A s.heap H locs → lv_has ls 1 [] → wB_X9_isDigit_16 post → W p l e rm_X9_isDigit s m args below meth c H locs 0 0 (MQ below (va_Qi (S := Unit) (fun r _ => post r) (fun _ _ => True) A) args s 0 0 A) (F0 m 16 ls []) := by
  obtain ⟨hx, hb, hml, hr, hown, hts, hA, hlk, hE, vE⟩ := id C
  intro H locs ls hG hl hw
  have hS := hG
  refine lv_iconst (v := 0) hx hb dX9_isDigit_16 (by decide) ?_
  exact kB_X9_isDigit_17 C vM 0 _ _ _ hG (lv_sub hl [] rfl) hw
set_option maxHeartbeats 4000000 in
set_option maxRecDepth 100000 in
theorem k_X9_isDigit {p : Program} {l : Launch} {e : Env} {s : State} {m : MethodId} {args : Array Value} {below : List Frame} {meth : Method} {c : Code} {A : Nat → Prop} {E : EnvT} {aK aV : Nat → Nat} (C : sCx p s m args meth c cX9_isDigit 1 (some .boolean) wgX9_isDigit RX9 E A) (vM : eMs aK aV E) {post : Int32 → Prop} :
    ∀ (x0 : Int32) (H : Heap) (locs : List Loc) (ls : Array Slot), va_S A s.heap H locs → lv_has ls 1 [(0, .int x0)] → wp_X9_isDigit post x0 → W p l e rm_X9_isDigit s m args below meth c H locs 0 0 (MQ below (va_Qi (S := Unit) (fun r _ => post r) (fun _ _ => True) A) args s 0 0 A) (F0 m 0 ls []) := by
  obtain ⟨hx, hb, hml, hr, hown, hts, hA, hlk, hE, vE⟩ := id C
  intro x0 H locs ls hG hl hw
  have hS := hG
  refine lv_iload_n hx hb dX9_isDigit_0 rfl (lv_at hl 0 rfl) ?_
  refine lv_bipush (v := 48) hx hb dX9_isDigit_1 (by decide) ?_
  refine lv_icmp_lt (tgt := 16) hx hb dX9_isDigit_3 (by decide) (fun q_ => ?_) (fun q_ => ?_)
  · have hw := hw.1 q_
    exact kB_X9_isDigit_16 C vM  _ _ _ hG (lv_sub hl [] rfl) hw
  · have hw := hw.2 q_
    refine lv_iload_n hx hb dX9_isDigit_6 rfl (lv_at hl 0 rfl) ?_
    refine lv_bipush (v := 57) hx hb dX9_isDigit_7 (by decide) ?_
    refine lv_icmp_gt (tgt := 16) hx hb dX9_isDigit_9 (by decide) (fun q_ => ?_) (fun q_ => ?_)
    · have hw := hw.1 q_
      exact kB_X9_isDigit_16 C vM  _ _ _ hG (lv_sub hl [] rfl) hw
    · have hw := hw.2 q_
      refine lv_iconst (v := 1) hx hb dX9_isDigit_12 (by decide) ?_
      refine lv_goto (tgt := 17) hx hb dX9_isDigit_13 (by decide) ?_
      exact kB_X9_isDigit_17 C vM 1 _ _ _ hG (lv_sub hl [] rfl) hw
set_option maxHeartbeats 4000000 in
set_option maxRecDepth 100000 in
theorem met_X9_isDigit {l : Launch} {E : EnvT} (vE : EnvOk E) {aK aV : Nat → Nat} (vM : eMs aK aV E) {sz : Nat} {x0 : Int32} {post : Int32 → Prop} (hw : wp_X9_isDigit post x0) : Met l yX9_isDigit wgX9_isDigit rm_X9_isDigit (va_Pc [.int x0] (sPre E sz)) (va_Qi (S := Unit) (fun r _ => post r) (fun _ _ => True) (va_A [] sz)) 0 0 (va_A [] sz) := by
  refine Met.ofW (cc := cX9_isDigit) (maxL := 1) (ret := (some .boolean)) (by decide +kernel) rfl ?_
  intro p e s m args below meth c s₁ B hml hv
  obtain ⟨rfl, hsz, hE⟩ := hv
  subst hsz
  generalize hAe : va_A [] s.heap.size = A at hE ⊢
  have hA : ∀ q : Nat, s.heap.size ≤ q → A q := fun q h => by rw [← hAe]; exact Or.inr h
  have hS : va_S A s.heap s.heap [] := va_S.rf
  have C : sCx p s m _ meth c cX9_isDigit 1 (some .boolean) wgX9_isDigit RX9 E A := ⟨B.exec, B.bytes, hml, B.returns, findClass_of_methodNamed B.named, atoms_spec (ws := wgX9_isDigit) B.pre, hA, B.notSynchronized, hE, vE⟩
  have hG := hS
  have hl := lv_entry ([.int x0]) (n := 1) (Nat.le_of_ble_eq_true rfl)
  rw [lg_entry_eq]
  generalize (lg_sl ([.int x0]) ++ List.replicate (1 - (lg_sl ([.int x0])).length) Slot.unset).toArray = ls at hl ⊢
  have hl : lv_has ls 1 [(0, .int x0)] := hl
  exact k_X9_isDigit C vM x0 _ _ _ hG hl hw
/-! ===== isLetter ===== -/
def rm_X9_isLetter : Room := { frames := 0, cells := 0, slots := 0, locals := 0 }
abbrev wgX9_isLetter : List Cond := .code yX9_isLetter cX9_isLetter 1 (some .boolean) :: TB
def wB_X9_isLetter_17 (post : Int32 → Prop) (t0 : Int32) : Prop :=
  isB t0 ∧ (post t0)
def wB_X9_isLetter_16 (post : Int32 → Prop) : Prop :=
  wB_X9_isLetter_17 post 0
def wp_X9_isLetter (post : Int32 → Prop) (x0 : Int32) : Prop :=
  (x0 < 97 → (wB_X9_isLetter_16 post)) ∧ (¬ x0 < 97 → ((122 < x0 → (wB_X9_isLetter_16 post)) ∧ (¬ 122 < x0 → (wB_X9_isLetter_17 post 1))))
set_option maxHeartbeats 4000000 in
set_option maxRecDepth 100000 in
theorem kB_X9_isLetter_17 {p : Program} {l : Launch} {e : Env} {s : State} {m : MethodId} {args : Array Value} {below : List Frame} {meth : Method} {c : Code} {A : Nat → Prop} {E : EnvT} {aK aV : Nat → Nat} (C : sCx p s m args meth c cX9_isLetter 1 (some .boolean) wgX9_isLetter RX9 E A) (vM : eMs aK aV E) {post : Int32 → Prop} :
    ∀ (t0 : Int32) (H : Heap) (locs : List Loc) (ls : Array Slot), va_S A s.heap H locs → lv_has ls 1 [] → wB_X9_isLetter_17 post t0 → W p l e rm_X9_isLetter s m args below meth c H locs 0 0 (MQ below (va_Qi (S := Unit) (fun r _ => post r) (fun _ _ => True) A) args s 0 0 A) (F0 m 17 ls [.int t0]) := by
  obtain ⟨hx, hb, hml, hr, hown, hts, hA, hlk, hE, vE⟩ := id C
  intro t0 H locs ls hG hl hw
  have hS := hG
  obtain ⟨h_1, hw⟩ := hw
  exact W.zret (v := t0) (ty := .boolean) hx hb hr (isB.n h_1) (fun t ht hW => ⟨⟨_, (), rfl, hw, trivial⟩, hS.F ht⟩) hS.2.2 dX9_isLetter_17 hlk
set_option maxHeartbeats 4000000 in
set_option maxRecDepth 100000 in
theorem kB_X9_isLetter_16 {p : Program} {l : Launch} {e : Env} {s : State} {m : MethodId} {args : Array Value} {below : List Frame} {meth : Method} {c : Code} {A : Nat → Prop} {E : EnvT} {aK aV : Nat → Nat} (C : sCx p s m args meth c cX9_isLetter 1 (some .boolean) wgX9_isLetter RX9 E A) (vM : eMs aK aV E) {post : Int32 → Prop} :
    ∀ (H : Heap) (locs : List Loc) (ls : Array Slot), va_S A s.heap H locs → lv_has ls 1 [] → wB_X9_isLetter_16 post → W p l e rm_X9_isLetter s m args below meth c H locs 0 0 (MQ below (va_Qi (S := Unit) (fun r _ => post r) (fun _ _ => True) A) args s 0 0 A) (F0 m 16 ls []) := by
  obtain ⟨hx, hb, hml, hr, hown, hts, hA, hlk, hE, vE⟩ := id C
  intro H locs ls hG hl hw
  have hS := hG
  refine lv_iconst (v := 0) hx hb dX9_isLetter_16 (by decide) ?_
  exact kB_X9_isLetter_17 C vM 0 _ _ _ hG (lv_sub hl [] rfl) hw
set_option maxHeartbeats 4000000 in
set_option maxRecDepth 100000 in
theorem k_X9_isLetter {p : Program} {l : Launch} {e : Env} {s : State} {m : MethodId} {args : Array Value} {below : List Frame} {meth : Method} {c : Code} {A : Nat → Prop} {E : EnvT} {aK aV : Nat → Nat} (C : sCx p s m args meth c cX9_isLetter 1 (some .boolean) wgX9_isLetter RX9 E A) (vM : eMs aK aV E) {post : Int32 → Prop} :
    ∀ (x0 : Int32) (H : Heap) (locs : List Loc) (ls : Array Slot), va_S A s.heap H locs → lv_has ls 1 [(0, .int x0)] → wp_X9_isLetter post x0 → W p l e rm_X9_isLetter s m args below meth c H locs 0 0 (MQ below (va_Qi (S := Unit) (fun r _ => post r) (fun _ _ => True) A) args s 0 0 A) (F0 m 0 ls []) := by
  obtain ⟨hx, hb, hml, hr, hown, hts, hA, hlk, hE, vE⟩ := id C
  intro x0 H locs ls hG hl hw
  have hS := hG
  refine lv_iload_n hx hb dX9_isLetter_0 rfl (lv_at hl 0 rfl) ?_
  refine lv_bipush (v := 97) hx hb dX9_isLetter_1 (by decide) ?_
  refine lv_icmp_lt (tgt := 16) hx hb dX9_isLetter_3 (by decide) (fun q_ => ?_) (fun q_ => ?_)
  · have hw := hw.1 q_
    exact kB_X9_isLetter_16 C vM  _ _ _ hG (lv_sub hl [] rfl) hw
  · have hw := hw.2 q_
    refine lv_iload_n hx hb dX9_isLetter_6 rfl (lv_at hl 0 rfl) ?_
    refine lv_bipush (v := 122) hx hb dX9_isLetter_7 (by decide) ?_
    refine lv_icmp_gt (tgt := 16) hx hb dX9_isLetter_9 (by decide) (fun q_ => ?_) (fun q_ => ?_)
    · have hw := hw.1 q_
      exact kB_X9_isLetter_16 C vM  _ _ _ hG (lv_sub hl [] rfl) hw
    · have hw := hw.2 q_
      refine lv_iconst (v := 1) hx hb dX9_isLetter_12 (by decide) ?_
      refine lv_goto (tgt := 17) hx hb dX9_isLetter_13 (by decide) ?_
      exact kB_X9_isLetter_17 C vM 1 _ _ _ hG (lv_sub hl [] rfl) hw
set_option maxHeartbeats 4000000 in
set_option maxRecDepth 100000 in
theorem met_X9_isLetter {l : Launch} {E : EnvT} (vE : EnvOk E) {aK aV : Nat → Nat} (vM : eMs aK aV E) {sz : Nat} {x0 : Int32} {post : Int32 → Prop} (hw : wp_X9_isLetter post x0) : Met l yX9_isLetter wgX9_isLetter rm_X9_isLetter (va_Pc [.int x0] (sPre E sz)) (va_Qi (S := Unit) (fun r _ => post r) (fun _ _ => True) (va_A [] sz)) 0 0 (va_A [] sz) := by
  refine Met.ofW (cc := cX9_isLetter) (maxL := 1) (ret := (some .boolean)) (by decide +kernel) rfl ?_
  intro p e s m args below meth c s₁ B hml hv
  obtain ⟨rfl, hsz, hE⟩ := hv
  subst hsz
  generalize hAe : va_A [] s.heap.size = A at hE ⊢
  have hA : ∀ q : Nat, s.heap.size ≤ q → A q := fun q h => by rw [← hAe]; exact Or.inr h
  have hS : va_S A s.heap s.heap [] := va_S.rf
  have C : sCx p s m _ meth c cX9_isLetter 1 (some .boolean) wgX9_isLetter RX9 E A := ⟨B.exec, B.bytes, hml, B.returns, findClass_of_methodNamed B.named, atoms_spec (ws := wgX9_isLetter) B.pre, hA, B.notSynchronized, hE, vE⟩
  have hG := hS
  have hl := lv_entry ([.int x0]) (n := 1) (Nat.le_of_ble_eq_true rfl)
  rw [lg_entry_eq]
  generalize (lg_sl ([.int x0]) ++ List.replicate (1 - (lg_sl ([.int x0])).length) Slot.unset).toArray = ls at hl ⊢
  have hl : lv_has ls 1 [(0, .int x0)] := hl
  exact k_X9_isLetter C vM x0 _ _ _ hG hl hw
/-! ===== isSign ===== -/
def rm_X9_isSign : Room := { frames := 0, cells := 0, slots := 0, locals := 0 }
abbrev wgX9_isSign : List Cond := .code yX9_isSign cX9_isSign 1 (some .boolean) :: TB
def wB_X9_isSign_65 (post : Int32 → Prop) (t0 : Int32) : Prop :=
  isB t0 ∧ (post t0)
def wB_X9_isSign_60 (post : Int32 → Prop) : Prop :=
  wB_X9_isSign_65 post 1
def wp_X9_isSign (post : Int32 → Prop) (x0 : Int32) : Prop :=
  (x0 = 59 → (wB_X9_isSign_60 post)) ∧ (¬ x0 = 59 → ((x0 = 58 → (wB_X9_isSign_60 post)) ∧ (¬ x0 = 58 → ((x0 = 44 → (wB_X9_isSign_60 post)) ∧ (¬ x0 = 44 → ((x0 = 64 → (wB_X9_isSign_60 post)) ∧ (¬ x0 = 64 → ((x0 = 33 → (wB_X9_isSign_60 post)) ∧ (¬ x0 = 33 → ((x0 = 61 → (wB_X9_isSign_60 post)) ∧ (¬ x0 = 61 → ((x0 = 45 → (wB_X9_isSign_60 post)) ∧ (¬ x0 = 45 → ((x0 = 40 → (wB_X9_isSign_60 post)) ∧ (¬ x0 = 40 → ((x0 = 41 → (wB_X9_isSign_60 post)) ∧ (¬ x0 = 41 → ((x0 = 43 → (wB_X9_isSign_60 post)) ∧ (¬ x0 = 43 → (wB_X9_isSign_65 post 0))))))))))))))))))))
set_option maxHeartbeats 4000000 in
set_option maxRecDepth 100000 in
theorem kB_X9_isSign_65 {p : Program} {l : Launch} {e : Env} {s : State} {m : MethodId} {args : Array Value} {below : List Frame} {meth : Method} {c : Code} {A : Nat → Prop} {E : EnvT} {aK aV : Nat → Nat} (C : sCx p s m args meth c cX9_isSign 1 (some .boolean) wgX9_isSign RX9 E A) (vM : eMs aK aV E) {post : Int32 → Prop} :
    ∀ (t0 : Int32) (H : Heap) (locs : List Loc) (ls : Array Slot), va_S A s.heap H locs → lv_has ls 1 [] → wB_X9_isSign_65 post t0 → W p l e rm_X9_isSign s m args below meth c H locs 0 0 (MQ below (va_Qi (S := Unit) (fun r _ => post r) (fun _ _ => True) A) args s 0 0 A) (F0 m 65 ls [.int t0]) := by
  obtain ⟨hx, hb, hml, hr, hown, hts, hA, hlk, hE, vE⟩ := id C
  intro t0 H locs ls hG hl hw
  have hS := hG
  obtain ⟨h_1, hw⟩ := hw
  exact W.zret (v := t0) (ty := .boolean) hx hb hr (isB.n h_1) (fun t ht hW => ⟨⟨_, (), rfl, hw, trivial⟩, hS.F ht⟩) hS.2.2 dX9_isSign_65 hlk
set_option maxHeartbeats 4000000 in
set_option maxRecDepth 100000 in
theorem kB_X9_isSign_60 {p : Program} {l : Launch} {e : Env} {s : State} {m : MethodId} {args : Array Value} {below : List Frame} {meth : Method} {c : Code} {A : Nat → Prop} {E : EnvT} {aK aV : Nat → Nat} (C : sCx p s m args meth c cX9_isSign 1 (some .boolean) wgX9_isSign RX9 E A) (vM : eMs aK aV E) {post : Int32 → Prop} :
    ∀ (H : Heap) (locs : List Loc) (ls : Array Slot), va_S A s.heap H locs → lv_has ls 1 [] → wB_X9_isSign_60 post → W p l e rm_X9_isSign s m args below meth c H locs 0 0 (MQ below (va_Qi (S := Unit) (fun r _ => post r) (fun _ _ => True) A) args s 0 0 A) (F0 m 60 ls []) := by
  obtain ⟨hx, hb, hml, hr, hown, hts, hA, hlk, hE, vE⟩ := id C
  intro H locs ls hG hl hw
  have hS := hG
  refine lv_iconst (v := 1) hx hb dX9_isSign_60 (by decide) ?_
  refine lv_goto (tgt := 65) hx hb dX9_isSign_61 (by decide) ?_
  exact kB_X9_isSign_65 C vM 1 _ _ _ hG (lv_sub hl [] rfl) hw
set_option maxHeartbeats 4000000 in
set_option maxRecDepth 100000 in
theorem k_X9_isSign {p : Program} {l : Launch} {e : Env} {s : State} {m : MethodId} {args : Array Value} {below : List Frame} {meth : Method} {c : Code} {A : Nat → Prop} {E : EnvT} {aK aV : Nat → Nat} (C : sCx p s m args meth c cX9_isSign 1 (some .boolean) wgX9_isSign RX9 E A) (vM : eMs aK aV E) {post : Int32 → Prop} :
    ∀ (x0 : Int32) (H : Heap) (locs : List Loc) (ls : Array Slot), va_S A s.heap H locs → lv_has ls 1 [(0, .int x0)] → wp_X9_isSign post x0 → W p l e rm_X9_isSign s m args below meth c H locs 0 0 (MQ below (va_Qi (S := Unit) (fun r _ => post r) (fun _ _ => True) A) args s 0 0 A) (F0 m 0 ls []) := by
  obtain ⟨hx, hb, hml, hr, hown, hts, hA, hlk, hE, vE⟩ := id C
  intro x0 H locs ls hG hl hw
  have hS := hG
  refine lv_iload_n hx hb dX9_isSign_0 rfl (lv_at hl 0 rfl) ?_
  refine lv_bipush (v := 59) hx hb dX9_isSign_1 (by decide) ?_
  refine lv_icmp_eq (tgt := 60) hx hb dX9_isSign_3 (by decide) (fun q_ => ?_) (fun q_ => ?_)
  · have hw := hw.1 q_
    exact kB_X9_isSign_60 C vM  _ _ _ hG (lv_sub hl [] rfl) hw
  · have hw := hw.2 q_
    refine lv_iload_n hx hb dX9_isSign_6 rfl (lv_at hl 0 rfl) ?_
    refine lv_bipush (v := 58) hx hb dX9_isSign_7 (by decide) ?_
    refine lv_icmp_eq (tgt := 60) hx hb dX9_isSign_9 (by decide) (fun q_ => ?_) (fun q_ => ?_)
    · have hw := hw.1 q_
      exact kB_X9_isSign_60 C vM  _ _ _ hG (lv_sub hl [] rfl) hw
    · have hw := hw.2 q_
      refine lv_iload_n hx hb dX9_isSign_12 rfl (lv_at hl 0 rfl) ?_
      refine lv_bipush (v := 44) hx hb dX9_isSign_13 (by decide) ?_
      refine lv_icmp_eq (tgt := 60) hx hb dX9_isSign_15 (by decide) (fun q_ => ?_) (fun q_ => ?_)
      · have hw := hw.1 q_
        exact kB_X9_isSign_60 C vM  _ _ _ hG (lv_sub hl [] rfl) hw
      · have hw := hw.2 q_
        refine lv_iload_n hx hb dX9_isSign_18 rfl (lv_at hl 0 rfl) ?_
        refine lv_bipush (v := 64) hx hb dX9_isSign_19 (by decide) ?_
        refine lv_icmp_eq (tgt := 60) hx hb dX9_isSign_21 (by decide) (fun q_ => ?_) (fun q_ => ?_)
        · have hw := hw.1 q_
          exact kB_X9_isSign_60 C vM  _ _ _ hG (lv_sub hl [] rfl) hw
        · have hw := hw.2 q_
          refine lv_iload_n hx hb dX9_isSign_24 rfl (lv_at hl 0 rfl) ?_
          refine lv_bipush (v := 33) hx hb dX9_isSign_25 (by decide) ?_
          refine lv_icmp_eq (tgt := 60) hx hb dX9_isSign_27 (by decide) (fun q_ => ?_) (fun q_ => ?_)
          · have hw := hw.1 q_
            exact kB_X9_isSign_60 C vM  _ _ _ hG (lv_sub hl [] rfl) hw
          · have hw := hw.2 q_
            refine lv_iload_n hx hb dX9_isSign_30 rfl (lv_at hl 0 rfl) ?_
            refine lv_bipush (v := 61) hx hb dX9_isSign_31 (by decide) ?_
            refine lv_icmp_eq (tgt := 60) hx hb dX9_isSign_33 (by decide) (fun q_ => ?_) (fun q_ => ?_)
            · have hw := hw.1 q_
              exact kB_X9_isSign_60 C vM  _ _ _ hG (lv_sub hl [] rfl) hw
            · have hw := hw.2 q_
              refine lv_iload_n hx hb dX9_isSign_36 rfl (lv_at hl 0 rfl) ?_
              refine lv_bipush (v := 45) hx hb dX9_isSign_37 (by decide) ?_
              refine lv_icmp_eq (tgt := 60) hx hb dX9_isSign_39 (by decide) (fun q_ => ?_) (fun q_ => ?_)
              · have hw := hw.1 q_
                exact kB_X9_isSign_60 C vM  _ _ _ hG (lv_sub hl [] rfl) hw
              · have hw := hw.2 q_
                refine lv_iload_n hx hb dX9_isSign_42 rfl (lv_at hl 0 rfl) ?_
                refine lv_bipush (v := 40) hx hb dX9_isSign_43 (by decide) ?_
                refine lv_icmp_eq (tgt := 60) hx hb dX9_isSign_45 (by decide) (fun q_ => ?_) (fun q_ => ?_)
                · have hw := hw.1 q_
                  exact kB_X9_isSign_60 C vM  _ _ _ hG (lv_sub hl [] rfl) hw
                · have hw := hw.2 q_
                  refine lv_iload_n hx hb dX9_isSign_48 rfl (lv_at hl 0 rfl) ?_
                  refine lv_bipush (v := 41) hx hb dX9_isSign_49 (by decide) ?_
                  refine lv_icmp_eq (tgt := 60) hx hb dX9_isSign_51 (by decide) (fun q_ => ?_) (fun q_ => ?_)
                  · have hw := hw.1 q_
                    exact kB_X9_isSign_60 C vM  _ _ _ hG (lv_sub hl [] rfl) hw
                  · have hw := hw.2 q_
                    refine lv_iload_n hx hb dX9_isSign_54 rfl (lv_at hl 0 rfl) ?_
                    refine lv_bipush (v := 43) hx hb dX9_isSign_55 (by decide) ?_
                    refine lv_icmp_ne (tgt := 64) hx hb dX9_isSign_57 (by decide) (fun q_ => ?_) (fun q_ => ?_)
                    · have hw := hw.2 q_
                      refine lv_iconst (v := 0) hx hb dX9_isSign_64 (by decide) ?_
                      exact kB_X9_isSign_65 C vM 0 _ _ _ hG (lv_sub hl [] rfl) hw
                    · have hw := hw.1 q_
                      exact kB_X9_isSign_60 C vM  _ _ _ hG (lv_sub hl [] rfl) hw
set_option maxHeartbeats 4000000 in
set_option maxRecDepth 100000 in
theorem met_X9_isSign {l : Launch} {E : EnvT} (vE : EnvOk E) {aK aV : Nat → Nat} (vM : eMs aK aV E) {sz : Nat} {x0 : Int32} {post : Int32 → Prop} (hw : wp_X9_isSign post x0) : Met l yX9_isSign wgX9_isSign rm_X9_isSign (va_Pc [.int x0] (sPre E sz)) (va_Qi (S := Unit) (fun r _ => post r) (fun _ _ => True) (va_A [] sz)) 0 0 (va_A [] sz) := by
  refine Met.ofW (cc := cX9_isSign) (maxL := 1) (ret := (some .boolean)) (by decide +kernel) rfl ?_
  intro p e s m args below meth c s₁ B hml hv
  obtain ⟨rfl, hsz, hE⟩ := hv
  subst hsz
  generalize hAe : va_A [] s.heap.size = A at hE ⊢
  have hA : ∀ q : Nat, s.heap.size ≤ q → A q := fun q h => by rw [← hAe]; exact Or.inr h
  have hS : va_S A s.heap s.heap [] := va_S.rf
  have C : sCx p s m _ meth c cX9_isSign 1 (some .boolean) wgX9_isSign RX9 E A := ⟨B.exec, B.bytes, hml, B.returns, findClass_of_methodNamed B.named, atoms_spec (ws := wgX9_isSign) B.pre, hA, B.notSynchronized, hE, vE⟩
  have hG := hS
  have hl := lv_entry ([.int x0]) (n := 1) (Nat.le_of_ble_eq_true rfl)
  rw [lg_entry_eq]
  generalize (lg_sl ([.int x0]) ++ List.replicate (1 - (lg_sl ([.int x0])).length) Slot.unset).toArray = ls at hl ⊢
  have hl : lv_has ls 1 [(0, .int x0)] := hl
  exact k_X9_isSign C vM x0 _ _ _ hG hl hw
/-! ===== token ===== -/
def rm_X9_token : Room := { frames := 0, cells := 0, slots := 0, locals := 0 }
abbrev wgX9_token : List Cond := .code yX9_token cX9_token 5 none :: TB
def wp_X9_token (post : MS → Prop) (x1 : Int32) (x2 : Int32) (x3 : Int64) (σ : MS) : Prop :=
  vp_in (mI σ 5) 702 ∧ (vp_in (mI σ 5) 702 ∧ (vp_in (mI σ 5) 702 ∧ (post (wI (wL (wA (wA σ 6 (mI σ 5).toNatClampNeg x1) 7 (mI σ 5).toNatClampNeg x2) 8 (mI σ 5).toNatClampNeg x3) 5 ((mI σ 5) + 1)))))
set_option maxHeartbeats 4000000 in
set_option maxRecDepth 100000 in
theorem k_X9_token {p : Program} {l : Launch} {e : Env} {s : State} {m : MethodId} {args : Array Value} {below : List Frame} {meth : Method} {c : Code} {A : Nat → Prop} {E : EnvT} {aK aV : Nat → Nat} {D : va_G} {cA : Nat → ClassId} {h : Nat} {ad : Nat → Nat} (C : mCx p s m args meth c cX9_token 5 none wgX9_token RX9 E D cA A) (vM : eMs aK aV E) {post : MS → Prop} :
    ∀ (x1 : Int32) (x2 : Int32) (x3 : Int64) (σ : MS) (H : Heap) (locs : List Loc) (ls : Array Slot), mG D cA h ad A s σ H locs → lv_has ls 5 [(0, .ref h), (1, .int x1), (2, .int x2), (3, .long x3)] → wp_X9_token post x1 x2 x3 σ → W p l e rm_X9_token s m args below meth c H locs 0 0 (MQ below (va_Qv post (mAt D cA h ad A) A) args s 0 0 A) (F0 m 0 ls []) := by
  obtain ⟨hx, hb, hml, hr, hown, hts, hK, hA, hlk, hE, vE⟩ := id C
  intro x1 x2 x3 σ H locs ls hG hl hw
  obtain ⟨hP, hD, hS⟩ := id hG
  refine lv_aload_n hx hb dX9_token_0 rfl (lv_at hl 0 rfl) ?_
  refine va_get (D := D) (ci := 11) (v := .ref (ad 6)) (C := RX9) (T := TX9) (N := 32) hx hb hts (in_tb inX9) hown hK hP 0 rfl rfl 6 (by decide) (hts _ (List.mem_cons_of_mem _ tw_5_116)) (fun _ h9 => h9) rfl dX9_token_1 ?_
  refine lv_aload_n hx hb dX9_token_4 rfl (lv_at hl 0 rfl) ?_
  refine va_get (D := D) (ci := 11) (v := .int (mI σ 5)) (C := RX9) (T := TX9) (N := 32) hx hb hts (in_tb inX9) hown hK hP 0 rfl rfl 5 (by decide) (hts _ (List.mem_cons_of_mem _ tw_5_115)) (fun _ h9 => h9) rfl dX9_token_5 ?_
  refine lv_iload_n hx hb dX9_token_8 rfl (lv_at hl 1 rfl) ?_
  obtain ⟨h_1, hw⟩ := hw
  refine va_iast hx hb hK hP hD hS 2 0 rfl rfl h_1 dX9_token_9 (fun H locs hP hD hS => ?_)
  have hG : mG D cA h ad A s (wA σ 6 (mI σ 5).toNatClampNeg x1) H locs := ⟨hP, hD, hS⟩
  obtain ⟨hP, hD, hS⟩ := id hG
  refine lv_aload_n hx hb dX9_token_10 rfl (lv_at hl 0 rfl) ?_
  refine va_get (D := D) (ci := 11) (v := .ref (ad 7)) (C := RX9) (T := TX9) (N := 32) hx hb hts (in_tb inX9) hown hK hP 0 rfl rfl 7 (by decide) (hts _ (List.mem_cons_of_mem _ tw_5_117)) (fun _ h9 => h9) rfl dX9_token_11 ?_
  refine lv_aload_n hx hb dX9_token_14 rfl (lv_at hl 0 rfl) ?_
  refine va_get (D := D) (ci := 11) (v := .int (mI σ 5)) (C := RX9) (T := TX9) (N := 32) hx hb hts (in_tb inX9) hown hK hP 0 rfl rfl 5 (by decide) (hts _ (List.mem_cons_of_mem _ tw_5_115)) (fun _ h9 => h9) rfl dX9_token_15 ?_
  refine lv_iload_n hx hb dX9_token_18 rfl (lv_at hl 2 rfl) ?_
  obtain ⟨h_2, hw⟩ := hw
  refine va_iast hx hb hK hP hD hS 3 0 rfl rfl h_2 dX9_token_19 (fun H locs hP hD hS => ?_)
  have hG : mG D cA h ad A s (wA (wA σ 6 (mI σ 5).toNatClampNeg x1) 7 (mI σ 5).toNatClampNeg x2) H locs := ⟨hP, hD, hS⟩
  obtain ⟨hP, hD, hS⟩ := id hG
  refine lv_aload_n hx hb dX9_token_20 rfl (lv_at hl 0 rfl) ?_
  refine va_get (D := D) (ci := 11) (v := .ref (ad 8)) (C := RX9) (T := TX9) (N := 32) hx hb hts (in_tb inX9) hown hK hP 0 rfl rfl 8 (by decide) (hts _ (List.mem_cons_of_mem _ tw_5_118)) (fun _ h9 => h9) rfl dX9_token_21 ?_
  refine lv_aload_n hx hb dX9_token_24 rfl (lv_at hl 0 rfl) ?_
  refine va_get (D := D) (ci := 11) (v := .int (mI σ 5)) (C := RX9) (T := TX9) (N := 32) hx hb hts (in_tb inX9) hown hK hP 0 rfl rfl 5 (by decide) (hts _ (List.mem_cons_of_mem _ tw_5_115)) (fun _ h9 => h9) rfl dX9_token_25 ?_
  refine lv_lload_n hx hb dX9_token_28 rfl (lv_at hl 3 rfl) ?_
  obtain ⟨h_3, hw⟩ := hw
  refine va_last hx hb hK hP hD hS 4 1 rfl rfl h_3 dX9_token_29 (fun H locs hP hD hS => ?_)
  have hG : mG D cA h ad A s (wL (wA (wA σ 6 (mI σ 5).toNatClampNeg x1) 7 (mI σ 5).toNatClampNeg x2) 8 (mI σ 5).toNatClampNeg x3) H locs := ⟨hP, hD, hS⟩
  obtain ⟨hP, hD, hS⟩ := id hG
  refine lv_aload_n hx hb dX9_token_30 rfl (lv_at hl 0 rfl) ?_
  refine lv_dup hx hb dX9_token_31 rfl ?_
  refine va_get (D := D) (ci := 11) (v := .int (mI σ 5)) (C := RX9) (T := TX9) (N := 32) hx hb hts (in_tb inX9) hown hK hP 0 rfl rfl 5 (by decide) (hts _ (List.mem_cons_of_mem _ tw_5_115)) (fun _ h9 => h9) rfl dX9_token_32 ?_
  refine lv_iconst (v := 1) hx hb dX9_token_35 (by decide) ?_
  refine lv_iadd hx hb dX9_token_36 ?_
  refine va_put (D := D) (ci := 11) (v := .int ((mI σ 5) + 1)) (ty := .int) (C := RX9) (T := TX9) (N := 32) hx hb hts (in_tb inX9) tyX9 tyX9_ok nmX9 hown hK hP hD hS 0 rfl rfl 5 (by decide) (hts _ (List.mem_cons_of_mem _ tw_5_115)) (fun _ h9 => h9) rfl (by decide +kernel) rfl rfl (Nat.le_of_ble_eq_true rfl) dX9_token_37 (fun H locs hP hD hS => ?_)
  have hG : mG D cA h ad A s (wI (wL (wA (wA σ 6 (mI σ 5).toNatClampNeg x1) 7 (mI σ 5).toNatClampNeg x2) 8 (mI σ 5).toNatClampNeg x3) 5 ((mI σ 5) + 1)) H locs := ⟨hP, hD, hS⟩
  obtain ⟨hP, hD, hS⟩ := id hG
  exact W.vret hx hb hr (fun t ht hW => ⟨⟨(wI (wL (wA (wA σ 6 (mI σ 5).toNatClampNeg x1) 7 (mI σ 5).toNatClampNeg x2) 8 (mI σ 5).toNatClampNeg x3) 5 ((mI σ 5) + 1)), rfl, hw, by rw [ht]; exact hP, va_K.moved hW.alike hK, hD⟩, hS.F ht⟩) hS.2.2 dX9_token_40 hlk
set_option maxHeartbeats 4000000 in
set_option maxRecDepth 100000 in
theorem met_X9_token {l : Launch} {E : EnvT} (vE : EnvOk E) {D : va_G} {cA : Nat → ClassId} {h : Nat} {ad : Nat → Nat} {σ : MS} {aK aV : Nat → Nat} (vM : eMs aK aV E) {sz : Nat} {x1 : Int32} {x2 : Int32} {x3 : Int64} {post : MS → Prop} (hw : wp_X9_token post x1 x2 x3 σ) : Met l yX9_token wgX9_token rm_X9_token (va_Pc [.ref h, .int x1, .int x2, .long x3] (mPre E D cA h ad sz σ)) (va_Qv post (mAt D cA h ad (va_A (mW cA h ad σ) sz)) (va_A (mW cA h ad σ) sz)) 0 0 (va_A (mW cA h ad σ) sz) := by
  refine Met.ofW (cc := cX9_token) (maxL := 5) (ret := none) (by decide +kernel) rfl ?_
  intro p e s m args below meth c s₁ B hml hv
  obtain ⟨rfl, hsz, hP, hK, hD0, hE⟩ := hv
  subst hsz
  have hD := hD0.self (sz := s.heap.size)
  generalize hAe : va_A (mW cA h ad σ) s.heap.size = A at hD hE ⊢
  have hA : ∀ q : Nat, s.heap.size ≤ q → A q := fun q h => by rw [← hAe]; exact Or.inr h
  have hS : va_S A s.heap s.heap [] := va_S.rf
  have C : mCx p s m _ meth c cX9_token 5 none wgX9_token RX9 E D cA A := ⟨B.exec, B.bytes, hml, B.returns, findClass_of_methodNamed B.named, atoms_spec (ws := wgX9_token) B.pre, hK, hA, B.notSynchronized, hE, vE⟩
  have hG : mG D cA h ad A s σ s.heap [] := ⟨hP, hD, hS⟩
  have hl := lv_entry ([.ref h, .int x1, .int x2, .long x3]) (n := 5) (Nat.le_of_ble_eq_true rfl)
  rw [lg_entry_eq]
  generalize (lg_sl ([.ref h, .int x1, .int x2, .long x3]) ++ List.replicate (5 - (lg_sl ([.ref h, .int x1, .int x2, .long x3])).length) Slot.unset).toArray = ls at hl ⊢
  have hl : lv_has ls 5 [(0, .ref h), (1, .int x1), (2, .int x2), (3, .long x3)] := hl
  exact k_X9_token C vM x1 x2 x3 σ _ _ _ hG hl hw
