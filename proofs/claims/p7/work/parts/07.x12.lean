/-! ===== X7_comesToRead ways ===== -/
def rm_X7_comesToRead : Room := { frames := 4, cells := 0, slots := 0, locals := 97 }
abbrev wgX7_comesToRead : List Cond := .code yX7_comesToRead cX7_comesToRead 3 (some .boolean) :: TB
def wB_X7_comesToRead_32 (post : Int32 → XS → Prop) (t0 : Int32) (σ : XS) : Prop :=
  isB t0 ∧ (post t0 σ)
def wp_X7_comesToRead (post : Int32 → XS → Prop) (x1 : Int32) (x2 : Int32) (σ : XS) : Prop :=
  wp_X0_overwritersOf (fun r_1 σ_2 => wp_X7_walk (fun r_3 σ_4 => wp_X0_readersOf (fun r_5 σ_6 => ((r_3 &&& r_5) = 0 → (wB_X7_comesToRead_32 post 0 σ_6)) ∧ (¬ (r_3 &&& r_5) = 0 → (wB_X7_comesToRead_32 post 1 σ_6))) x2 σ_4) x1 r_1 σ_2) x2 σ
set_option maxHeartbeats 4000000 in
set_option maxRecDepth 100000 in
theorem kB_X7_comesToRead_32 {p : Program} {l : Launch} {e : Env} {s : State} {m : MethodId} {args : Array Value} {below : List Frame} {meth : Method} {c : Code} {A : Nat → Prop} {E : EnvT} {aK aV : Nat → Nat} {aO : Nat} {D : va_G} {cA : Nat → ClassId} {aE ad : Nat → Nat} (C : xCx p s m args meth c cX7_comesToRead 3 (some .boolean) wgX7_comesToRead RX7 E D cA A) (vM : eXs aK aV aE aO E) {post : Int32 → XS → Prop} :
    ∀ (t0 : Int32) (σ : XS) (H : Heap) (locs : List Loc) (ls : Array Slot), xG D cA aE ad A s σ H locs → lv_has ls 3 [] → wB_X7_comesToRead_32 post t0 σ → W p l e rm_X7_comesToRead s m args below meth c H locs 0 0 (MQ below (va_Qi post (xAt D cA aE ad A) A) args s 0 0 A) (F0 m 32 ls [.int t0]) := by
  obtain ⟨hx, hb, hml, hr, hown, hts, hK, hA, hlk, hE, vE⟩ := id C
  intro t0 σ H locs ls hG hl hw
  obtain ⟨hP, hD, hS⟩ := id hG
  obtain ⟨h_7, hw⟩ := hw
  exact W.zret (v := t0) (ty := .boolean) hx hb hr (isB.n h_7) (fun t ht hW => ⟨⟨_, σ, rfl, hw, by rw [ht]; exact hP, va_K.moved hW.alike hK, hD⟩, hS.F ht⟩) hS.2.2 dX7_comesToRead_32 hlk
set_option maxHeartbeats 4000000 in
set_option maxRecDepth 100000 in
theorem k_X7_comesToRead {p : Program} {l : Launch} {e : Env} {s : State} {m : MethodId} {args : Array Value} {below : List Frame} {meth : Method} {c : Code} {A : Nat → Prop} {E : EnvT} {aK aV : Nat → Nat} {aO : Nat} {D : va_G} {cA : Nat → ClassId} {aE ad : Nat → Nat} (C : xCx p s m args meth c cX7_comesToRead 3 (some .boolean) wgX7_comesToRead RX7 E D cA A) (vM : eXs aK aV aE aO E) {post : Int32 → XS → Prop} :
    ∀ (x1 : Int32) (x2 : Int32) (σ : XS) (H : Heap) (locs : List Loc) (ls : Array Slot), xG D cA aE ad A s σ H locs → lv_has ls 3 [(0, .ref (ad 22)), (1, .int x1), (2, .int x2)] → wp_X7_comesToRead post x1 x2 σ → W p l e rm_X7_comesToRead s m args below meth c H locs 0 0 (MQ below (va_Qi post (xAt D cA aE ad A) A) args s 0 0 A) (F0 m 0 ls []) := by
  obtain ⟨hx, hb, hml, hr, hown, hts, hK, hA, hlk, hE, vE⟩ := id C
  intro x1 x2 σ H locs ls hG hl hw
  obtain ⟨hP, hD, hS⟩ := id hG
  refine lv_aload_n hx hb dX7_comesToRead_0 rfl (lv_at hl 0 rfl) ?_
  refine lv_iload_n hx hb dX7_comesToRead_1 rfl (lv_at hl 1 rfl) ?_
  refine lv_aload_n hx hb dX7_comesToRead_2 rfl (lv_at hl 0 rfl) ?_
  refine va_get (D := D) (ci := 9) (v := .ref (ad 17)) (C := RX7) (T := TX7) (N := 1) hx hb hts (in_tb inX7) hown hK hP 22 rfl rfl 0 (by decide) (hts _ (List.mem_cons_of_mem _ tw_1_177)) (fun _ h9 => h9) rfl dX7_comesToRead_3 ?_
  refine lv_iload_n hx hb dX7_comesToRead_6 rfl (lv_at hl 2 rfl) ?_
  refine xV_l (As := [.int x2]) (rest := [.int x1, .ref (ad 22)]) C (met_X0_overwritersOf vE vM hw) (va_recv hK hP (ci := 2) (q0 := 17) rfl rfl) (cwV 1 hts (TB_G (TB_4 tw_4_99 tw_4_100 tw_4_101 tw_1_6) tw_4_102) rfl rfl rfl (by decide +kernel) ⟨by decide, by decide⟩) hP hD hS rfl hl.1 rfl (Nat.le_of_ble_eq_true rfl) dX7_comesToRead_7 ⟨by decide, by decide⟩ (fun r_1 σ_2 H locs hw hP hD hS => ?_)
  have hG : xG D cA aE ad A s σ_2 H locs := ⟨hP, hD, hS⟩
  refine xV_l (As := [.int x1, .long r_1]) (rest := []) C (met_X7_walk vE vM hw) (va_recv hK hP (ci := 9) (q0 := 22) rfl rfl) (cwV 2 hts (TB_G (TB_4 tw_4_72 tw_4_74 ts_5 tw_1_7) tw_4_75) rfl rfl rfl (by decide +kernel) ⟨by decide, by decide⟩) hP hD hS rfl hl.1 rfl (Nat.le_of_ble_eq_true rfl) dX7_comesToRead_10 ⟨by decide, by decide⟩ (fun r_3 σ_4 H locs hw hP hD hS => ?_)
  have hG : xG D cA aE ad A s σ_4 H locs := ⟨hP, hD, hS⟩
  refine lv_aload_n hx hb dX7_comesToRead_13 rfl (lv_at hl 0 rfl) ?_
  refine va_get (D := D) (ci := 9) (v := .ref (ad 17)) (C := RX7) (T := TX7) (N := 1) hx hb hts (in_tb inX7) hown hK hP 22 rfl rfl 0 (by decide) (hts _ (List.mem_cons_of_mem _ tw_1_177)) (fun _ h9 => h9) rfl dX7_comesToRead_14 ?_
  refine lv_iload_n hx hb dX7_comesToRead_17 rfl (lv_at hl 2 rfl) ?_
  refine xV_l (As := [.int x2]) (rest := [.long r_3]) C (met_X0_readersOf vE vM hw) (va_recv hK hP (ci := 2) (q0 := 17) rfl rfl) (cwV 1 hts (TB_G (TB_4 tw_4_108 tw_4_109 tw_4_110 tw_1_6) tw_4_111) rfl rfl rfl (by decide +kernel) ⟨by decide, by decide⟩) hP hD hS rfl hl.1 rfl (Nat.le_of_ble_eq_true rfl) dX7_comesToRead_18 ⟨by decide, by decide⟩ (fun r_5 σ_6 H locs hw hP hD hS => ?_)
  have hG : xG D cA aE ad A s σ_6 H locs := ⟨hP, hD, hS⟩
  refine lv_land hx hb dX7_comesToRead_21 ?_
  refine lv_lconst (v := 0) hx hb dX7_comesToRead_22 (by decide) ?_
  refine W.lcmp hx hb dX7_comesToRead_23 ?_
  refine lv_if_eq (tgt := 31) hx hb dX7_comesToRead_24 (by decide) (fun q_ => ?_) (fun q_ => ?_)
  · have hw := hw.1 (lc_eq.mp q_)
    refine lv_iconst (v := 0) hx hb dX7_comesToRead_31 (by decide) ?_
    exact kB_X7_comesToRead_32 C vM 0 σ_6 _ _ _ hG (lv_sub hl [] rfl) hw
  · have hw := hw.2 (fun z => q_ (lc_eq.mpr z))
    refine lv_iconst (v := 1) hx hb dX7_comesToRead_27 (by decide) ?_
    refine lv_goto (tgt := 32) hx hb dX7_comesToRead_28 (by decide) ?_
    exact kB_X7_comesToRead_32 C vM 1 σ_6 _ _ _ hG (lv_sub hl [] rfl) hw
set_option maxHeartbeats 4000000 in
set_option maxRecDepth 100000 in
theorem met_X7_comesToRead {l : Launch} {E : EnvT} (vE : EnvOk E) {D : va_G} {cA : Nat → ClassId} {aE ad : Nat → Nat} {σ : XS} {aK aV : Nat → Nat} {aO : Nat} (vM : eXs aK aV aE aO E) {sz : Nat} {x1 : Int32} {x2 : Int32} {post : Int32 → XS → Prop} (hw : wp_X7_comesToRead post x1 x2 σ) : Met l yX7_comesToRead wgX7_comesToRead rm_X7_comesToRead (va_Pc [.ref (ad 22), .int x1, .int x2] (xPre E D cA aE ad sz σ)) (va_Qi post (xAt D cA aE ad (va_A (xW cA aE ad σ) sz)) (va_A (xW cA aE ad σ) sz)) 0 0 (va_A (xW cA aE ad σ) sz) := by
  refine Met.ofW (cc := cX7_comesToRead) (maxL := 3) (ret := (some .boolean)) (by decide +kernel) rfl ?_
  intro p e s m args below meth c s₁ B hml hv
  obtain ⟨rfl, hsz, hP, hK, hD0, hE⟩ := hv
  subst hsz
  have hD := hD0.self (sz := s.heap.size)
  generalize hAe : va_A (xW cA aE ad σ) s.heap.size = A at hD hE ⊢
  have hA : ∀ q : Nat, s.heap.size ≤ q → A q := fun q h => by rw [← hAe]; exact Or.inr h
  have hS : va_S A s.heap s.heap [] := va_S.rf
  have C : xCx p s m _ meth c cX7_comesToRead 3 (some .boolean) wgX7_comesToRead RX7 E D cA A := ⟨B.exec, B.bytes, hml, B.returns, findClass_of_methodNamed B.named, atoms_spec (ws := wgX7_comesToRead) B.pre, hK, hA, B.notSynchronized, hE, vE⟩
  have hG : xG D cA aE ad A s σ s.heap [] := ⟨hP, hD, hS⟩
  have hl := lv_entry ([.ref (ad 22), .int x1, .int x2]) (n := 3) (Nat.le_of_ble_eq_true rfl)
  rw [lg_entry_eq]
  generalize (lg_sl ([.ref (ad 22), .int x1, .int x2]) ++ List.replicate (3 - (lg_sl ([.ref (ad 22), .int x1, .int x2])).length) Slot.unset).toArray = ls at hl ⊢
  have hl : lv_has ls 3 [(0, .ref (ad 22)), (1, .int x1), (2, .int x2)] := hl
  exact k_X7_comesToRead C vM x1 x2 σ _ _ _ hG hl hw
/-! ===== X7_isEnd ways ===== -/
def rm_X7_isEnd : Room := { frames := 3, cells := 0, slots := 0, locals := 64 }
abbrev wgX7_isEnd : List Cond := .code yX7_isEnd cX7_isEnd 3 (some .boolean) :: TB
def wB_X7_isEnd_54 (post : Int32 → XS → Prop) (t0 : Int32) (σ : XS) : Prop :=
  isB t0 ∧ (post t0 σ)
def wB_X7_isEnd_49 (post : Int32 → XS → Prop) (σ : XS) : Prop :=
  wB_X7_isEnd_54 post 1 σ
def wB_X7_isEnd_29 (post : Int32 → XS → Prop) (x1 : Int32) (t0 : Int32) (σ : XS) : Prop :=
  (t0 = 0 → (wp_X7_first (fun r_4 σ_5 => wp_X0_has (fun r_6 σ_7 => (r_6 = 0 → (wB_X7_isEnd_49 post σ_7)) ∧ (¬ r_6 = 0 → (wB_X7_isEnd_54 post 0 σ_7))) r_4 σ_5) x1 σ)) ∧ (¬ t0 = 0 → (wB_X7_isEnd_49 post σ))
def wB_X7_isEnd_28 (post : Int32 → XS → Prop) (x1 : Int32) (σ : XS) : Prop :=
  wB_X7_isEnd_29 post x1 0 σ
def wp_X7_isEnd (post : Int32 → XS → Prop) (x1 : Int32) (σ : XS) : Prop :=
  wp_X7_second (fun r_1 σ_2 => (r_1 = (-1) → (wB_X7_isEnd_28 post x1 σ_2)) ∧ (¬ r_1 = (-1) → (wp_X7_second (fun r_8 σ_9 => wp_X0_has (fun r_10 σ_11 => (r_10 = 0 → (wB_X7_isEnd_29 post x1 1 σ_11)) ∧ (¬ r_10 = 0 → (wB_X7_isEnd_28 post x1 σ_11))) r_8 σ_9) x1 σ_2))) x1 σ
set_option maxHeartbeats 4000000 in
set_option maxRecDepth 100000 in
theorem kB_X7_isEnd_54 {p : Program} {l : Launch} {e : Env} {s : State} {m : MethodId} {args : Array Value} {below : List Frame} {meth : Method} {c : Code} {A : Nat → Prop} {E : EnvT} {aK aV : Nat → Nat} {aO : Nat} {D : va_G} {cA : Nat → ClassId} {aE ad : Nat → Nat} (C : xCx p s m args meth c cX7_isEnd 3 (some .boolean) wgX7_isEnd RX7 E D cA A) (vM : eXs aK aV aE aO E) {post : Int32 → XS → Prop} :
    ∀ (t0 : Int32) (σ : XS) (H : Heap) (locs : List Loc) (ls : Array Slot), xG D cA aE ad A s σ H locs → lv_has ls 3 [] → wB_X7_isEnd_54 post t0 σ → W p l e rm_X7_isEnd s m args below meth c H locs 0 0 (MQ below (va_Qi post (xAt D cA aE ad A) A) args s 0 0 A) (F0 m 54 ls [.int t0]) := by
  obtain ⟨hx, hb, hml, hr, hown, hts, hK, hA, hlk, hE, vE⟩ := id C
  intro t0 σ H locs ls hG hl hw
  obtain ⟨hP, hD, hS⟩ := id hG
  obtain ⟨h_3, hw⟩ := hw
  exact W.zret (v := t0) (ty := .boolean) hx hb hr (isB.n h_3) (fun t ht hW => ⟨⟨_, σ, rfl, hw, by rw [ht]; exact hP, va_K.moved hW.alike hK, hD⟩, hS.F ht⟩) hS.2.2 dX7_isEnd_54 hlk
set_option maxHeartbeats 4000000 in
set_option maxRecDepth 100000 in
theorem kB_X7_isEnd_49 {p : Program} {l : Launch} {e : Env} {s : State} {m : MethodId} {args : Array Value} {below : List Frame} {meth : Method} {c : Code} {A : Nat → Prop} {E : EnvT} {aK aV : Nat → Nat} {aO : Nat} {D : va_G} {cA : Nat → ClassId} {aE ad : Nat → Nat} (C : xCx p s m args meth c cX7_isEnd 3 (some .boolean) wgX7_isEnd RX7 E D cA A) (vM : eXs aK aV aE aO E) {post : Int32 → XS → Prop} :
    ∀ (σ : XS) (H : Heap) (locs : List Loc) (ls : Array Slot), xG D cA aE ad A s σ H locs → lv_has ls 3 [] → wB_X7_isEnd_49 post σ → W p l e rm_X7_isEnd s m args below meth c H locs 0 0 (MQ below (va_Qi post (xAt D cA aE ad A) A) args s 0 0 A) (F0 m 49 ls []) := by
  obtain ⟨hx, hb, hml, hr, hown, hts, hK, hA, hlk, hE, vE⟩ := id C
  intro σ H locs ls hG hl hw
  obtain ⟨hP, hD, hS⟩ := id hG
  refine lv_iconst (v := 1) hx hb dX7_isEnd_49 (by decide) ?_
  refine lv_goto (tgt := 54) hx hb dX7_isEnd_50 (by decide) ?_
  exact kB_X7_isEnd_54 C vM 1 σ _ _ _ hG (lv_sub hl [] rfl) hw
set_option maxHeartbeats 4000000 in
set_option maxRecDepth 100000 in
theorem kB_X7_isEnd_29 {p : Program} {l : Launch} {e : Env} {s : State} {m : MethodId} {args : Array Value} {below : List Frame} {meth : Method} {c : Code} {A : Nat → Prop} {E : EnvT} {aK aV : Nat → Nat} {aO : Nat} {D : va_G} {cA : Nat → ClassId} {aE ad : Nat → Nat} (C : xCx p s m args meth c cX7_isEnd 3 (some .boolean) wgX7_isEnd RX7 E D cA A) (vM : eXs aK aV aE aO E) {post : Int32 → XS → Prop} :
    ∀ (x1 : Int32) (t0 : Int32) (σ : XS) (H : Heap) (locs : List Loc) (ls : Array Slot), xG D cA aE ad A s σ H locs → lv_has ls 3 [(0, .ref (ad 22)), (1, .int x1)] → wB_X7_isEnd_29 post x1 t0 σ → W p l e rm_X7_isEnd s m args below meth c H locs 0 0 (MQ below (va_Qi post (xAt D cA aE ad A) A) args s 0 0 A) (F0 m 29 ls [.int t0]) := by
  obtain ⟨hx, hb, hml, hr, hown, hts, hK, hA, hlk, hE, vE⟩ := id C
  intro x1 t0 σ H locs ls hG hl hw
  obtain ⟨hP, hD, hS⟩ := id hG
  refine lv_istore_n (lv' := [(2, .int t0), (0, .ref (ad 22)), (1, .int x1)]) hx hb dX7_isEnd_29 rfl hl (by decide) rfl (fun ls hl => ?_)
  refine lv_iload_n hx hb dX7_isEnd_30 rfl (lv_at hl 0 rfl) ?_
  refine lv_if_ne (tgt := 49) hx hb dX7_isEnd_31 (by decide) (fun q_ => ?_) (fun q_ => ?_)
  · have hw := hw.2 q_
    exact kB_X7_isEnd_49 C vM  σ _ _ _ hG (lv_sub hl [] rfl) hw
  · have hw := hw.1 q_
    refine lv_aload_n hx hb dX7_isEnd_34 rfl (lv_at hl 1 rfl) ?_
    refine va_get (D := D) (ci := 9) (v := .ref (ad 17)) (C := RX7) (T := TX7) (N := 1) hx hb hts (in_tb inX7) hown hK hP 22 rfl rfl 0 (by decide) (hts _ (List.mem_cons_of_mem _ tw_1_177)) (fun _ h9 => h9) rfl dX7_isEnd_35 ?_
    refine lv_aload_n hx hb dX7_isEnd_38 rfl (lv_at hl 1 rfl) ?_
    refine lv_iload_n hx hb dX7_isEnd_39 rfl (lv_at hl 2 rfl) ?_
    refine xV_i (As := [.int x1]) (rest := [.ref (ad 17)]) C (met_X7_first vE vM hw) (va_recv hK hP (ci := 9) (q0 := 22) rfl rfl) (cwV 1 hts (TB_G (TB_4 tw_4_88 tw_4_36 tw_4_37 tw_1_7) tw_4_38) rfl rfl rfl (by decide +kernel) ⟨by decide, by decide⟩) hP hD hS rfl hl.1 rfl (Nat.le_of_ble_eq_true rfl) dX7_isEnd_40 ⟨by decide, by decide⟩ (fun r_4 σ_5 H locs hw hP hD hS => ?_)
    have hG : xG D cA aE ad A s σ_5 H locs := ⟨hP, hD, hS⟩
    refine xV_i (As := [.int r_4]) (rest := []) C (met_X0_has vE vM hw) (va_recv hK hP (ci := 2) (q0 := 17) rfl rfl) (cwV 1 hts (TB_G (TB_4 tw_4_39 tw_2_198 tw_2_199 tw_1_6) tw_2_200) rfl rfl rfl (by decide +kernel) ⟨by decide, by decide⟩) hP hD hS rfl hl.1 rfl (Nat.le_of_ble_eq_true rfl) dX7_isEnd_43 ⟨by decide, by decide⟩ (fun r_6 σ_7 H locs hw hP hD hS => ?_)
    have hG : xG D cA aE ad A s σ_7 H locs := ⟨hP, hD, hS⟩
    refine lv_if_ne (tgt := 53) hx hb dX7_isEnd_46 (by decide) (fun q_ => ?_) (fun q_ => ?_)
    · have hw := hw.2 q_
      refine lv_iconst (v := 0) hx hb dX7_isEnd_53 (by decide) ?_
      exact kB_X7_isEnd_54 C vM 0 σ_7 _ _ _ hG (lv_sub hl [] rfl) hw
    · have hw := hw.1 q_
      exact kB_X7_isEnd_49 C vM  σ_7 _ _ _ hG (lv_sub hl [] rfl) hw
set_option maxHeartbeats 4000000 in
set_option maxRecDepth 100000 in
theorem kB_X7_isEnd_28 {p : Program} {l : Launch} {e : Env} {s : State} {m : MethodId} {args : Array Value} {below : List Frame} {meth : Method} {c : Code} {A : Nat → Prop} {E : EnvT} {aK aV : Nat → Nat} {aO : Nat} {D : va_G} {cA : Nat → ClassId} {aE ad : Nat → Nat} (C : xCx p s m args meth c cX7_isEnd 3 (some .boolean) wgX7_isEnd RX7 E D cA A) (vM : eXs aK aV aE aO E) {post : Int32 → XS → Prop} :
    ∀ (x1 : Int32) (σ : XS) (H : Heap) (locs : List Loc) (ls : Array Slot), xG D cA aE ad A s σ H locs → lv_has ls 3 [(0, .ref (ad 22)), (1, .int x1)] → wB_X7_isEnd_28 post x1 σ → W p l e rm_X7_isEnd s m args below meth c H locs 0 0 (MQ below (va_Qi post (xAt D cA aE ad A) A) args s 0 0 A) (F0 m 28 ls []) := by
  obtain ⟨hx, hb, hml, hr, hown, hts, hK, hA, hlk, hE, vE⟩ := id C
  intro x1 σ H locs ls hG hl hw
  obtain ⟨hP, hD, hS⟩ := id hG
  refine lv_iconst (v := 0) hx hb dX7_isEnd_28 (by decide) ?_
  exact kB_X7_isEnd_29 C vM x1 0 σ _ _ _ hG (lv_sub hl [0, 1] rfl) hw
set_option maxHeartbeats 4000000 in
set_option maxRecDepth 100000 in
theorem k_X7_isEnd {p : Program} {l : Launch} {e : Env} {s : State} {m : MethodId} {args : Array Value} {below : List Frame} {meth : Method} {c : Code} {A : Nat → Prop} {E : EnvT} {aK aV : Nat → Nat} {aO : Nat} {D : va_G} {cA : Nat → ClassId} {aE ad : Nat → Nat} (C : xCx p s m args meth c cX7_isEnd 3 (some .boolean) wgX7_isEnd RX7 E D cA A) (vM : eXs aK aV aE aO E) {post : Int32 → XS → Prop} :
    ∀ (x1 : Int32) (σ : XS) (H : Heap) (locs : List Loc) (ls : Array Slot), xG D cA aE ad A s σ H locs → lv_has ls 3 [(0, .ref (ad 22)), (1, .int x1)] → wp_X7_isEnd post x1 σ → W p l e rm_X7_isEnd s m args below meth c H locs 0 0 (MQ below (va_Qi post (xAt D cA aE ad A) A) args s 0 0 A) (F0 m 0 ls []) := by
  obtain ⟨hx, hb, hml, hr, hown, hts, hK, hA, hlk, hE, vE⟩ := id C
  intro x1 σ H locs ls hG hl hw
  obtain ⟨hP, hD, hS⟩ := id hG
  refine lv_aload_n hx hb dX7_isEnd_0 rfl (lv_at hl 0 rfl) ?_
  refine lv_iload_n hx hb dX7_isEnd_1 rfl (lv_at hl 1 rfl) ?_
  refine xV_i (As := [.int x1]) (rest := []) C (met_X7_second vE vM hw) (va_recv hK hP (ci := 9) (q0 := 22) rfl rfl) (cwV 1 hts (TB_G (TB_4 tw_4_89 tw_4_61 tw_4_62 tw_1_7) tw_4_63) rfl rfl rfl (by decide +kernel) ⟨by decide, by decide⟩) hP hD hS rfl hl.1 rfl (Nat.le_of_ble_eq_true rfl) dX7_isEnd_2 ⟨by decide, by decide⟩ (fun r_1 σ_2 H locs hw hP hD hS => ?_)
  have hG : xG D cA aE ad A s σ_2 H locs := ⟨hP, hD, hS⟩
  refine lv_iconst (v := (-1)) hx hb dX7_isEnd_5 (by decide) ?_
  refine lv_icmp_eq (tgt := 28) hx hb dX7_isEnd_6 (by decide) (fun q_ => ?_) (fun q_ => ?_)
  · have hw := hw.1 q_
    exact kB_X7_isEnd_28 C vM x1 σ_2 _ _ _ hG (lv_sub hl [0, 1] rfl) hw
  · have hw := hw.2 q_
    refine lv_aload_n hx hb dX7_isEnd_9 rfl (lv_at hl 0 rfl) ?_
    refine va_get (D := D) (ci := 9) (v := .ref (ad 17)) (C := RX7) (T := TX7) (N := 1) hx hb hts (in_tb inX7) hown hK hP 22 rfl rfl 0 (by decide) (hts _ (List.mem_cons_of_mem _ tw_1_177)) (fun _ h9 => h9) rfl dX7_isEnd_10 ?_
    refine lv_aload_n hx hb dX7_isEnd_13 rfl (lv_at hl 0 rfl) ?_
    refine lv_iload_n hx hb dX7_isEnd_14 rfl (lv_at hl 1 rfl) ?_
    refine xV_i (As := [.int x1]) (rest := [.ref (ad 17)]) C (met_X7_second vE vM hw) (va_recv hK hP (ci := 9) (q0 := 22) rfl rfl) (cwV 1 hts (TB_G (TB_4 tw_4_89 tw_4_61 tw_4_62 tw_1_7) tw_4_63) rfl rfl rfl (by decide +kernel) ⟨by decide, by decide⟩) hP hD hS rfl hl.1 rfl (Nat.le_of_ble_eq_true rfl) dX7_isEnd_15 ⟨by decide, by decide⟩ (fun r_8 σ_9 H locs hw hP hD hS => ?_)
    have hG : xG D cA aE ad A s σ_9 H locs := ⟨hP, hD, hS⟩
    refine xV_i (As := [.int r_8]) (rest := []) C (met_X0_has vE vM hw) (va_recv hK hP (ci := 2) (q0 := 17) rfl rfl) (cwV 1 hts (TB_G (TB_4 tw_4_39 tw_2_198 tw_2_199 tw_1_6) tw_2_200) rfl rfl rfl (by decide +kernel) ⟨by decide, by decide⟩) hP hD hS rfl hl.1 rfl (Nat.le_of_ble_eq_true rfl) dX7_isEnd_18 ⟨by decide, by decide⟩ (fun r_10 σ_11 H locs hw hP hD hS => ?_)
    have hG : xG D cA aE ad A s σ_11 H locs := ⟨hP, hD, hS⟩
    refine lv_if_ne (tgt := 28) hx hb dX7_isEnd_21 (by decide) (fun q_ => ?_) (fun q_ => ?_)
    · have hw := hw.2 q_
      exact kB_X7_isEnd_28 C vM x1 σ_11 _ _ _ hG (lv_sub hl [0, 1] rfl) hw
    · have hw := hw.1 q_
      refine lv_iconst (v := 1) hx hb dX7_isEnd_24 (by decide) ?_
      refine lv_goto (tgt := 29) hx hb dX7_isEnd_25 (by decide) ?_
      exact kB_X7_isEnd_29 C vM x1 1 σ_11 _ _ _ hG (lv_sub hl [0, 1] rfl) hw
set_option maxHeartbeats 4000000 in
set_option maxRecDepth 100000 in
theorem met_X7_isEnd {l : Launch} {E : EnvT} (vE : EnvOk E) {D : va_G} {cA : Nat → ClassId} {aE ad : Nat → Nat} {σ : XS} {aK aV : Nat → Nat} {aO : Nat} (vM : eXs aK aV aE aO E) {sz : Nat} {x1 : Int32} {post : Int32 → XS → Prop} (hw : wp_X7_isEnd post x1 σ) : Met l yX7_isEnd wgX7_isEnd rm_X7_isEnd (va_Pc [.ref (ad 22), .int x1] (xPre E D cA aE ad sz σ)) (va_Qi post (xAt D cA aE ad (va_A (xW cA aE ad σ) sz)) (va_A (xW cA aE ad σ) sz)) 0 0 (va_A (xW cA aE ad σ) sz) := by
  refine Met.ofW (cc := cX7_isEnd) (maxL := 3) (ret := (some .boolean)) (by decide +kernel) rfl ?_
  intro p e s m args below meth c s₁ B hml hv
  obtain ⟨rfl, hsz, hP, hK, hD0, hE⟩ := hv
  subst hsz
  have hD := hD0.self (sz := s.heap.size)
  generalize hAe : va_A (xW cA aE ad σ) s.heap.size = A at hD hE ⊢
  have hA : ∀ q : Nat, s.heap.size ≤ q → A q := fun q h => by rw [← hAe]; exact Or.inr h
  have hS : va_S A s.heap s.heap [] := va_S.rf
  have C : xCx p s m _ meth c cX7_isEnd 3 (some .boolean) wgX7_isEnd RX7 E D cA A := ⟨B.exec, B.bytes, hml, B.returns, findClass_of_methodNamed B.named, atoms_spec (ws := wgX7_isEnd) B.pre, hK, hA, B.notSynchronized, hE, vE⟩
  have hG : xG D cA aE ad A s σ s.heap [] := ⟨hP, hD, hS⟩
  have hl := lv_entry ([.ref (ad 22), .int x1]) (n := 3) (Nat.le_of_ble_eq_true rfl)
  rw [lg_entry_eq]
  generalize (lg_sl ([.ref (ad 22), .int x1]) ++ List.replicate (3 - (lg_sl ([.ref (ad 22), .int x1])).length) Slot.unset).toArray = ls at hl ⊢
  have hl : lv_has ls 3 [(0, .ref (ad 22)), (1, .int x1)] := hl
  exact k_X7_isEnd C vM x1 σ _ _ _ hG hl hw
/-! ===== X7_hasEnd ways ===== -/
def rm_X7_hasEnd : Room := { frames := 4, cells := 0, slots := 0, locals := 86 }
abbrev wgX7_hasEnd : List Cond := .code yX7_hasEnd cX7_hasEnd 4 (some .boolean) :: TB
def wB_X7_hasEnd_38 (post : Int32 → XS → Prop) (k2 : Int64 → Int32 → XS → Prop) (x1 : Int64) (x3 : Int32) (σ : XS) : Prop :=
  ∀ x3_3 : Int32, x3_3 = x3 + 1 → k2 x1 x3_3 σ
def wB_X7_hasEnd_2 (post : Int32 → XS → Prop) (k2 : Int64 → Int32 → XS → Prop) (x1 : Int64) (x3 : Int32) (σ : XS) : Prop :=
  ((xI σ 8) ≤ x3 → (post 0 σ)) ∧ (¬ (xI σ 8) ≤ x3 → (wp_X0_bitOf (fun r_1 σ_2 => ((x1 &&& r_1) = 0 → (wB_X7_hasEnd_38 post k2 x1 x3 σ_2)) ∧ (¬ (x1 &&& r_1) = 0 → (wp_X7_isEnd (fun r_4 σ_5 => (r_4 = 0 → (wB_X7_hasEnd_38 post k2 x1 x3 σ_5)) ∧ (¬ r_4 = 0 → (post 1 σ_5))) x3 σ_2))) x3 σ))
def wL_X7_hasEnd_2 (post : Int32 → XS → Prop) : Nat → Int64 → Int32 → XS → Prop
  | 0 => fun _ _ _ => False
  | n + 1 => wB_X7_hasEnd_2 post (wL_X7_hasEnd_2 post n)
def wp_X7_hasEnd (post : Int32 → XS → Prop) (x1 : Int64) (σ : XS) : Prop :=
  ∃ n, wL_X7_hasEnd_2 post n x1 0 σ
set_option maxHeartbeats 4000000 in
set_option maxRecDepth 100000 in
theorem kB_X7_hasEnd_38 {p : Program} {l : Launch} {e : Env} {s : State} {m : MethodId} {args : Array Value} {below : List Frame} {meth : Method} {c : Code} {A : Nat → Prop} {E : EnvT} {aK aV : Nat → Nat} {aO : Nat} {D : va_G} {cA : Nat → ClassId} {aE ad : Nat → Nat} (C : xCx p s m args meth c cX7_hasEnd 4 (some .boolean) wgX7_hasEnd RX7 E D cA A) (vM : eXs aK aV aE aO E) {post : Int32 → XS → Prop}
    {k2 : Int64 → Int32 → XS → Prop} (hk2 : ∀ (x1 : Int64) (x3 : Int32) (σ : XS) (H : Heap) (locs : List Loc) (ls : Array Slot), xG D cA aE ad A s σ H locs → lv_has ls 4 [(0, .ref (ad 22)), (1, .long x1), (3, .int x3)] → k2 x1 x3 σ → W p l e rm_X7_hasEnd s m args below meth c H locs 0 0 (MQ below (va_Qi post (xAt D cA aE ad A) A) args s 0 0 A) (F0 m 2 ls [])) :
    ∀ (x1 : Int64) (x3 : Int32) (σ : XS) (H : Heap) (locs : List Loc) (ls : Array Slot), xG D cA aE ad A s σ H locs → lv_has ls 4 [(0, .ref (ad 22)), (1, .long x1), (3, .int x3)] → wB_X7_hasEnd_38 post k2 x1 x3 σ → W p l e rm_X7_hasEnd s m args below meth c H locs 0 0 (MQ below (va_Qi post (xAt D cA aE ad A) A) args s 0 0 A) (F0 m 38 ls []) := by
  obtain ⟨hx, hb, hml, hr, hown, hts, hK, hA, hlk, hE, vE⟩ := id C
  intro x1 x3 σ H locs ls hG hl hw
  obtain ⟨hP, hD, hS⟩ := id hG
  obtain ⟨x3_3, ex3_3⟩ : ∃ y : Int32, y = x3 + 1 := ⟨_, rfl⟩
  have hw := hw x3_3 ex3_3
  refine lv_iinc (v := x3_3) (lv' := [(3, .int x3_3), (0, .ref (ad 22)), (1, .long x1)]) hx hb dX7_hasEnd_38 hl (k := 2) rfl (by rw [ex3_3]; rfl) (by decide) rfl (fun ls hl => ?_)
  refine lv_goto (tgt := 2) hx hb dX7_hasEnd_41 (by decide) ?_
  exact hk2 x1 x3_3 σ _ _ _ hG (lv_sub hl [1, 2, 0] rfl) hw
set_option maxHeartbeats 4000000 in
set_option maxRecDepth 100000 in
theorem kB_X7_hasEnd_2 {p : Program} {l : Launch} {e : Env} {s : State} {m : MethodId} {args : Array Value} {below : List Frame} {meth : Method} {c : Code} {A : Nat → Prop} {E : EnvT} {aK aV : Nat → Nat} {aO : Nat} {D : va_G} {cA : Nat → ClassId} {aE ad : Nat → Nat} (C : xCx p s m args meth c cX7_hasEnd 4 (some .boolean) wgX7_hasEnd RX7 E D cA A) (vM : eXs aK aV aE aO E) {post : Int32 → XS → Prop}
    {k2 : Int64 → Int32 → XS → Prop} (hk2 : ∀ (x1 : Int64) (x3 : Int32) (σ : XS) (H : Heap) (locs : List Loc) (ls : Array Slot), xG D cA aE ad A s σ H locs → lv_has ls 4 [(0, .ref (ad 22)), (1, .long x1), (3, .int x3)] → k2 x1 x3 σ → W p l e rm_X7_hasEnd s m args below meth c H locs 0 0 (MQ below (va_Qi post (xAt D cA aE ad A) A) args s 0 0 A) (F0 m 2 ls [])) :
    ∀ (x1 : Int64) (x3 : Int32) (σ : XS) (H : Heap) (locs : List Loc) (ls : Array Slot), xG D cA aE ad A s σ H locs → lv_has ls 4 [(0, .ref (ad 22)), (1, .long x1), (3, .int x3)] → wB_X7_hasEnd_2 post k2 x1 x3 σ → W p l e rm_X7_hasEnd s m args below meth c H locs 0 0 (MQ below (va_Qi post (xAt D cA aE ad A) A) args s 0 0 A) (F0 m 2 ls []) := by
  obtain ⟨hx, hb, hml, hr, hown, hts, hK, hA, hlk, hE, vE⟩ := id C
  intro x1 x3 σ H locs ls hG hl hw
  obtain ⟨hP, hD, hS⟩ := id hG
  refine lv_iload_n hx hb dX7_hasEnd_2 rfl (lv_at hl 2 rfl) ?_
  refine lv_aload_n hx hb dX7_hasEnd_3 rfl (lv_at hl 0 rfl) ?_
  refine va_get (D := D) (ci := 9) (v := .ref (ad 17)) (C := RX7) (T := TX7) (N := 1) hx hb hts (in_tb inX7) hown hK hP 22 rfl rfl 0 (by decide) (hts _ (List.mem_cons_of_mem _ tw_1_177)) (fun _ h9 => h9) rfl dX7_hasEnd_4 ?_
  refine va_get (D := D) (ci := 2) (v := .int (xI σ 8)) (C := RX0) (T := TX0) (N := 5) hx hb hts (in_tb inX0) hown hK hP 17 rfl rfl 4 (by decide) (hts _ (List.mem_cons_of_mem _ tw_1_159)) (fun _ h9 => h9) rfl dX7_hasEnd_7 ?_
  refine lv_icmp_ge (tgt := 44) hx hb dX7_hasEnd_10 (by decide) (fun q_ => ?_) (fun q_ => ?_)
  · have hw := hw.1 q_
    refine lv_iconst (v := 0) hx hb dX7_hasEnd_44 (by decide) ?_
    exact W.zret (v := 0) (ty := .boolean) hx hb hr rfl (fun t ht hW => ⟨⟨_, σ, rfl, hw, by rw [ht]; exact hP, va_K.moved hW.alike hK, hD⟩, hS.F ht⟩) hS.2.2 dX7_hasEnd_45 hlk
  · have hw := hw.2 q_
    refine lv_lload_n hx hb dX7_hasEnd_13 rfl (lv_at hl 1 rfl) ?_
    refine lv_aload_n hx hb dX7_hasEnd_14 rfl (lv_at hl 0 rfl) ?_
    refine va_get (D := D) (ci := 9) (v := .ref (ad 17)) (C := RX7) (T := TX7) (N := 1) hx hb hts (in_tb inX7) hown hK hP 22 rfl rfl 0 (by decide) (hts _ (List.mem_cons_of_mem _ tw_1_177)) (fun _ h9 => h9) rfl dX7_hasEnd_15 ?_
    refine lv_iload_n hx hb dX7_hasEnd_18 rfl (lv_at hl 2 rfl) ?_
    refine xV_l (As := [.int x3]) (rest := [.long x1]) C (met_X0_bitOf vE vM hw) (va_recv hK hP (ci := 2) (q0 := 17) rfl rfl) (cwV 1 hts (TB_G (TB_4 tw_4_76 tw_4_77 tw_4_78 tw_1_6) tw_4_79) rfl rfl rfl (by decide +kernel) ⟨by decide, by decide⟩) hP hD hS rfl hl.1 rfl (Nat.le_of_ble_eq_true rfl) dX7_hasEnd_19 ⟨by decide, by decide⟩ (fun r_1 σ_2 H locs hw hP hD hS => ?_)
    have hG : xG D cA aE ad A s σ_2 H locs := ⟨hP, hD, hS⟩
    refine lv_land hx hb dX7_hasEnd_22 ?_
    refine lv_lconst (v := 0) hx hb dX7_hasEnd_23 (by decide) ?_
    refine W.lcmp hx hb dX7_hasEnd_24 ?_
    refine lv_if_eq (tgt := 38) hx hb dX7_hasEnd_25 (by decide) (fun q_ => ?_) (fun q_ => ?_)
    · have hw := hw.1 (lc_eq.mp q_)
      exact kB_X7_hasEnd_38 C vM hk2 x1 x3 σ_2 _ _ _ hG (lv_sub hl [0, 1, 2] rfl) hw
    · have hw := hw.2 (fun z => q_ (lc_eq.mpr z))
      refine lv_aload_n hx hb dX7_hasEnd_28 rfl (lv_at hl 0 rfl) ?_
      refine lv_iload_n hx hb dX7_hasEnd_29 rfl (lv_at hl 2 rfl) ?_
      refine xV_i (As := [.int x3]) (rest := []) C (met_X7_isEnd vE vM hw) (va_recv hK hP (ci := 9) (q0 := 22) rfl rfl) (cwV 1 hts (TB_G (TB_4 tw_4_125 tw_4_127 ts_8 tw_1_7) tw_4_128) rfl rfl rfl (by decide +kernel) ⟨by decide, by decide⟩) hP hD hS rfl hl.1 rfl (Nat.le_of_ble_eq_true rfl) dX7_hasEnd_30 ⟨by decide, by decide⟩ (fun r_4 σ_5 H locs hw hP hD hS => ?_)
      have hG : xG D cA aE ad A s σ_5 H locs := ⟨hP, hD, hS⟩
      refine lv_if_eq (tgt := 38) hx hb dX7_hasEnd_33 (by decide) (fun q_ => ?_) (fun q_ => ?_)
      · have hw := hw.1 q_
        exact kB_X7_hasEnd_38 C vM hk2 x1 x3 σ_5 _ _ _ hG (lv_sub hl [0, 1, 2] rfl) hw
      · have hw := hw.2 q_
        refine lv_iconst (v := 1) hx hb dX7_hasEnd_36 (by decide) ?_
        exact W.zret (v := 1) (ty := .boolean) hx hb hr rfl (fun t ht hW => ⟨⟨_, σ_5, rfl, hw, by rw [ht]; exact hP, va_K.moved hW.alike hK, hD⟩, hS.F ht⟩) hS.2.2 dX7_hasEnd_37 hlk
theorem kL_X7_hasEnd_2 {p : Program} {l : Launch} {e : Env} {s : State} {m : MethodId} {args : Array Value} {below : List Frame} {meth : Method} {c : Code} {A : Nat → Prop} {E : EnvT} {aK aV : Nat → Nat} {aO : Nat} {D : va_G} {cA : Nat → ClassId} {aE ad : Nat → Nat} (C : xCx p s m args meth c cX7_hasEnd 4 (some .boolean) wgX7_hasEnd RX7 E D cA A) (vM : eXs aK aV aE aO E) {post : Int32 → XS → Prop} :
    ∀ (n : Nat) (x1 : Int64) (x3 : Int32) (σ : XS) (H : Heap) (locs : List Loc) (ls : Array Slot), xG D cA aE ad A s σ H locs → lv_has ls 4 [(0, .ref (ad 22)), (1, .long x1), (3, .int x3)] → wL_X7_hasEnd_2 post n x1 x3 σ → W p l e rm_X7_hasEnd s m args below meth c H locs 0 0 (MQ below (va_Qi post (xAt D cA aE ad A) A) args s 0 0 A) (F0 m 2 ls []) := by
  intro n
  induction n with
  | zero => intro x1 x3 σ H locs ls hG hl hw; exact hw.elim
  | succ n ih => exact kB_X7_hasEnd_2 C vM ih
set_option maxHeartbeats 4000000 in
set_option maxRecDepth 100000 in
theorem k_X7_hasEnd {p : Program} {l : Launch} {e : Env} {s : State} {m : MethodId} {args : Array Value} {below : List Frame} {meth : Method} {c : Code} {A : Nat → Prop} {E : EnvT} {aK aV : Nat → Nat} {aO : Nat} {D : va_G} {cA : Nat → ClassId} {aE ad : Nat → Nat} (C : xCx p s m args meth c cX7_hasEnd 4 (some .boolean) wgX7_hasEnd RX7 E D cA A) (vM : eXs aK aV aE aO E) {post : Int32 → XS → Prop} :
    ∀ (x1 : Int64) (σ : XS) (H : Heap) (locs : List Loc) (ls : Array Slot), xG D cA aE ad A s σ H locs → lv_has ls 4 [(0, .ref (ad 22)), (1, .long x1)] → wp_X7_hasEnd post x1 σ → W p l e rm_X7_hasEnd s m args below meth c H locs 0 0 (MQ below (va_Qi post (xAt D cA aE ad A) A) args s 0 0 A) (F0 m 0 ls []) := by
  obtain ⟨hx, hb, hml, hr, hown, hts, hK, hA, hlk, hE, vE⟩ := id C
  intro x1 σ H locs ls hG hl hw
  obtain ⟨hP, hD, hS⟩ := id hG
  refine lv_iconst (v := 0) hx hb dX7_hasEnd_0 (by decide) ?_
  refine lv_istore_n (lv' := [(3, .int 0), (0, .ref (ad 22)), (1, .long x1)]) hx hb dX7_hasEnd_1 rfl hl (by decide) rfl (fun ls hl => ?_)
  obtain ⟨n_, hw⟩ := hw
  exact kL_X7_hasEnd_2 C vM n_ x1 0 σ _ _ _ hG (lv_sub hl [1, 2, 0] rfl) hw
set_option maxHeartbeats 4000000 in
set_option maxRecDepth 100000 in
theorem met_X7_hasEnd {l : Launch} {E : EnvT} (vE : EnvOk E) {D : va_G} {cA : Nat → ClassId} {aE ad : Nat → Nat} {σ : XS} {aK aV : Nat → Nat} {aO : Nat} (vM : eXs aK aV aE aO E) {sz : Nat} {x1 : Int64} {post : Int32 → XS → Prop} (hw : wp_X7_hasEnd post x1 σ) : Met l yX7_hasEnd wgX7_hasEnd rm_X7_hasEnd (va_Pc [.ref (ad 22), .long x1] (xPre E D cA aE ad sz σ)) (va_Qi post (xAt D cA aE ad (va_A (xW cA aE ad σ) sz)) (va_A (xW cA aE ad σ) sz)) 0 0 (va_A (xW cA aE ad σ) sz) := by
  refine Met.ofW (cc := cX7_hasEnd) (maxL := 4) (ret := (some .boolean)) (by decide +kernel) rfl ?_
  intro p e s m args below meth c s₁ B hml hv
  obtain ⟨rfl, hsz, hP, hK, hD0, hE⟩ := hv
  subst hsz
  have hD := hD0.self (sz := s.heap.size)
  generalize hAe : va_A (xW cA aE ad σ) s.heap.size = A at hD hE ⊢
  have hA : ∀ q : Nat, s.heap.size ≤ q → A q := fun q h => by rw [← hAe]; exact Or.inr h
  have hS : va_S A s.heap s.heap [] := va_S.rf
  have C : xCx p s m _ meth c cX7_hasEnd 4 (some .boolean) wgX7_hasEnd RX7 E D cA A := ⟨B.exec, B.bytes, hml, B.returns, findClass_of_methodNamed B.named, atoms_spec (ws := wgX7_hasEnd) B.pre, hK, hA, B.notSynchronized, hE, vE⟩
  have hG : xG D cA aE ad A s σ s.heap [] := ⟨hP, hD, hS⟩
  have hl := lv_entry ([.ref (ad 22), .long x1]) (n := 4) (Nat.le_of_ble_eq_true rfl)
  rw [lg_entry_eq]
  generalize (lg_sl ([.ref (ad 22), .long x1]) ++ List.replicate (4 - (lg_sl ([.ref (ad 22), .long x1])).length) Slot.unset).toArray = ls at hl ⊢
  have hl : lv_has ls 4 [(0, .ref (ad 22)), (1, .long x1)] := hl
  exact k_X7_hasEnd C vM x1 σ _ _ _ hG hl hw
/-! ===== X7_throughAll ways ===== -/
def rm_X7_throughAll : Room := { frames := 5, cells := 0, slots := 0, locals := 109 }
abbrev wgX7_throughAll : List Cond := .code yX7_throughAll cX7_throughAll 7 (some .long) :: TB
def wB_X7_throughAll_60 (post : Int64 → XS → Prop) (k5 : Int32 → Int64 → Int32 → XS → Prop) (x1 : Int32) (x2 : Int64) (x4 : Int32) (σ : XS) : Prop :=
  ∀ x4_3 : Int32, x4_3 = x4 + 1 → k5 x1 x2 x4_3 σ
def wB_X7_throughAll_5 (post : Int64 → XS → Prop) (k5 : Int32 → Int64 → Int32 → XS → Prop) (x1 : Int32) (x2 : Int64) (x4 : Int32) (σ : XS) : Prop :=
  ((xI σ 8) ≤ x4 → (post x2 σ)) ∧ (¬ (xI σ 8) ≤ x4 → (wp_X0_bitOf (fun r_1 σ_2 => (x4 = x1 → (wB_X7_throughAll_60 post k5 x1 x2 x4 σ_2)) ∧ (¬ x4 = x1 → (wp_X7_walk (fun r_4 σ_5 => wp_X7_hasEnd (fun r_6 σ_7 => (r_6 = 0 → (∀ x2_8 : Int64, x2_8 = x2 ||| r_1 → wB_X7_throughAll_60 post k5 x1 x2_8 x4 σ_7)) ∧ (¬ r_6 = 0 → (wB_X7_throughAll_60 post k5 x1 x2 x4 σ_7))) (r_4 &&& (r_1 ^^^ (-1))) σ_5) x1 r_1 σ_2))) x4 σ))
def wL_X7_throughAll_5 (post : Int64 → XS → Prop) : Nat → Int32 → Int64 → Int32 → XS → Prop
  | 0 => fun _ _ _ _ => False
  | n + 1 => wB_X7_throughAll_5 post (wL_X7_throughAll_5 post n)
def wp_X7_throughAll (post : Int64 → XS → Prop) (x1 : Int32) (σ : XS) : Prop :=
  ∃ n, wL_X7_throughAll_5 post n x1 0 0 σ
set_option maxHeartbeats 4000000 in
set_option maxRecDepth 100000 in
theorem kB_X7_throughAll_60 {p : Program} {l : Launch} {e : Env} {s : State} {m : MethodId} {args : Array Value} {below : List Frame} {meth : Method} {c : Code} {A : Nat → Prop} {E : EnvT} {aK aV : Nat → Nat} {aO : Nat} {D : va_G} {cA : Nat → ClassId} {aE ad : Nat → Nat} (C : xCx p s m args meth c cX7_throughAll 7 (some .long) wgX7_throughAll RX7 E D cA A) (vM : eXs aK aV aE aO E) {post : Int64 → XS → Prop}
    {k5 : Int32 → Int64 → Int32 → XS → Prop} (hk5 : ∀ (x1 : Int32) (x2 : Int64) (x4 : Int32) (σ : XS) (H : Heap) (locs : List Loc) (ls : Array Slot), xG D cA aE ad A s σ H locs → lv_has ls 7 [(0, .ref (ad 22)), (1, .int x1), (2, .long x2), (4, .int x4)] → k5 x1 x2 x4 σ → W p l e rm_X7_throughAll s m args below meth c H locs 0 0 (MQ below (va_Ql post (xAt D cA aE ad A) A) args s 0 0 A) (F0 m 5 ls [])) :
    ∀ (x1 : Int32) (x2 : Int64) (x4 : Int32) (σ : XS) (H : Heap) (locs : List Loc) (ls : Array Slot), xG D cA aE ad A s σ H locs → lv_has ls 7 [(0, .ref (ad 22)), (1, .int x1), (2, .long x2), (4, .int x4)] → wB_X7_throughAll_60 post k5 x1 x2 x4 σ → W p l e rm_X7_throughAll s m args below meth c H locs 0 0 (MQ below (va_Ql post (xAt D cA aE ad A) A) args s 0 0 A) (F0 m 60 ls []) := by
  obtain ⟨hx, hb, hml, hr, hown, hts, hK, hA, hlk, hE, vE⟩ := id C
  intro x1 x2 x4 σ H locs ls hG hl hw
  obtain ⟨hP, hD, hS⟩ := id hG
  obtain ⟨x4_3, ex4_3⟩ : ∃ y : Int32, y = x4 + 1 := ⟨_, rfl⟩
  have hw := hw x4_3 ex4_3
  refine lv_iinc (v := x4_3) (lv' := [(4, .int x4_3), (0, .ref (ad 22)), (1, .int x1), (2, .long x2)]) hx hb dX7_throughAll_60 hl (k := 3) rfl (by rw [ex4_3]; rfl) (by decide) rfl (fun ls hl => ?_)
  refine lv_goto (tgt := 5) hx hb dX7_throughAll_63 (by decide) ?_
  exact hk5 x1 x2 x4_3 σ _ _ _ hG (lv_sub hl [1, 2, 3, 0] rfl) hw
set_option maxHeartbeats 4000000 in
set_option maxRecDepth 100000 in
theorem kB_X7_throughAll_5 {p : Program} {l : Launch} {e : Env} {s : State} {m : MethodId} {args : Array Value} {below : List Frame} {meth : Method} {c : Code} {A : Nat → Prop} {E : EnvT} {aK aV : Nat → Nat} {aO : Nat} {D : va_G} {cA : Nat → ClassId} {aE ad : Nat → Nat} (C : xCx p s m args meth c cX7_throughAll 7 (some .long) wgX7_throughAll RX7 E D cA A) (vM : eXs aK aV aE aO E) {post : Int64 → XS → Prop}
    {k5 : Int32 → Int64 → Int32 → XS → Prop} (hk5 : ∀ (x1 : Int32) (x2 : Int64) (x4 : Int32) (σ : XS) (H : Heap) (locs : List Loc) (ls : Array Slot), xG D cA aE ad A s σ H locs → lv_has ls 7 [(0, .ref (ad 22)), (1, .int x1), (2, .long x2), (4, .int x4)] → k5 x1 x2 x4 σ → W p l e rm_X7_throughAll s m args below meth c H locs 0 0 (MQ below (va_Ql post (xAt D cA aE ad A) A) args s 0 0 A) (F0 m 5 ls [])) :
    ∀ (x1 : Int32) (x2 : Int64) (x4 : Int32) (σ : XS) (H : Heap) (locs : List Loc) (ls : Array Slot), xG D cA aE ad A s σ H locs → lv_has ls 7 [(0, .ref (ad 22)), (1, .int x1), (2, .long x2), (4, .int x4)] → wB_X7_throughAll_5 post k5 x1 x2 x4 σ → W p l e rm_X7_throughAll s m args below meth c H locs 0 0 (MQ below (va_Ql post (xAt D cA aE ad A) A) args s 0 0 A) (F0 m 5 ls []) := by
  obtain ⟨hx, hb, hml, hr, hown, hts, hK, hA, hlk, hE, vE⟩ := id C
  intro x1 x2 x4 σ H locs ls hG hl hw
  obtain ⟨hP, hD, hS⟩ := id hG
  refine lv_iload hx hb dX7_throughAll_5 (lv_at hl 3 rfl) ?_
  refine lv_aload_n hx hb dX7_throughAll_7 rfl (lv_at hl 0 rfl) ?_
  refine va_get (D := D) (ci := 9) (v := .ref (ad 17)) (C := RX7) (T := TX7) (N := 1) hx hb hts (in_tb inX7) hown hK hP 22 rfl rfl 0 (by decide) (hts _ (List.mem_cons_of_mem _ tw_1_177)) (fun _ h9 => h9) rfl dX7_throughAll_8 ?_
  refine va_get (D := D) (ci := 2) (v := .int (xI σ 8)) (C := RX0) (T := TX0) (N := 5) hx hb hts (in_tb inX0) hown hK hP 17 rfl rfl 4 (by decide) (hts _ (List.mem_cons_of_mem _ tw_1_159)) (fun _ h9 => h9) rfl dX7_throughAll_11 ?_
  refine lv_icmp_ge (tgt := 66) hx hb dX7_throughAll_14 (by decide) (fun q_ => ?_) (fun q_ => ?_)
  · have hw := hw.1 q_
    refine lv_lload_n hx hb dX7_throughAll_66 rfl (lv_at hl 2 rfl) ?_
    exact W.lret (v := x2) hx hb hr (fun t ht hW => ⟨⟨_, σ, rfl, hw, by rw [ht]; exact hP, va_K.moved hW.alike hK, hD⟩, hS.F ht⟩) hS.2.2 dX7_throughAll_67 hlk
  · have hw := hw.2 q_
    refine lv_aload_n hx hb dX7_throughAll_17 rfl (lv_at hl 0 rfl) ?_
    refine va_get (D := D) (ci := 9) (v := .ref (ad 17)) (C := RX7) (T := TX7) (N := 1) hx hb hts (in_tb inX7) hown hK hP 22 rfl rfl 0 (by decide) (hts _ (List.mem_cons_of_mem _ tw_1_177)) (fun _ h9 => h9) rfl dX7_throughAll_18 ?_
    refine lv_iload hx hb dX7_throughAll_21 (lv_at hl 3 rfl) ?_
    refine xV_l (As := [.int x4]) (rest := []) C (met_X0_bitOf vE vM hw) (va_recv hK hP (ci := 2) (q0 := 17) rfl rfl) (cwV 1 hts (TB_G (TB_4 tw_4_76 tw_4_77 tw_4_78 tw_1_6) tw_4_79) rfl rfl rfl (by decide +kernel) ⟨by decide, by decide⟩) hP hD hS rfl hl.1 rfl (Nat.le_of_ble_eq_true rfl) dX7_throughAll_23 ⟨by decide, by decide⟩ (fun r_1 σ_2 H locs hw hP hD hS => ?_)
    have hG : xG D cA aE ad A s σ_2 H locs := ⟨hP, hD, hS⟩
    refine lv_lstore (lv' := [(5, .long r_1), (0, .ref (ad 22)), (1, .int x1), (2, .long x2), (4, .int x4)]) hx hb dX7_throughAll_26 hl (by decide) rfl (fun ls hl => ?_)
    refine lv_iload hx hb dX7_throughAll_28 (lv_at hl 4 rfl) ?_
    refine lv_iload_n hx hb dX7_throughAll_30 rfl (lv_at hl 2 rfl) ?_
    refine lv_icmp_eq (tgt := 60) hx hb dX7_throughAll_31 (by decide) (fun q_ => ?_) (fun q_ => ?_)
    · have hw := hw.1 q_
      exact kB_X7_throughAll_60 C vM hk5 x1 x2 x4 σ_2 _ _ _ hG (lv_sub hl [1, 2, 3, 4] rfl) hw
    · have hw := hw.2 q_
      refine lv_aload_n hx hb dX7_throughAll_34 rfl (lv_at hl 1 rfl) ?_
      refine lv_aload_n hx hb dX7_throughAll_35 rfl (lv_at hl 1 rfl) ?_
      refine lv_iload_n hx hb dX7_throughAll_36 rfl (lv_at hl 2 rfl) ?_
      refine lv_lload hx hb dX7_throughAll_37 (lv_at hl 0 rfl) ?_
      refine xV_l (As := [.int x1, .long r_1]) (rest := [.ref (ad 22)]) C (met_X7_walk vE vM hw) (va_recv hK hP (ci := 9) (q0 := 22) rfl rfl) (cwV 2 hts (TB_G (TB_4 tw_4_72 tw_4_74 ts_5 tw_1_7) tw_4_75) rfl rfl rfl (by decide +kernel) ⟨by decide, by decide⟩) hP hD hS rfl hl.1 rfl (Nat.le_of_ble_eq_true rfl) dX7_throughAll_39 ⟨by decide, by decide⟩ (fun r_4 σ_5 H locs hw hP hD hS => ?_)
      have hG : xG D cA aE ad A s σ_5 H locs := ⟨hP, hD, hS⟩
      refine lv_lload hx hb dX7_throughAll_42 (lv_at hl 0 rfl) ?_
      refine lv_ldc2 (v := (-1)) hx hb hown (hts _ (List.mem_cons_of_mem _ tw_4_81)) dX7_throughAll_44 ?_
      refine lv_lxor hx hb dX7_throughAll_47 ?_
      refine lv_land hx hb dX7_throughAll_48 ?_
      refine xV_i (As := [.long (r_4 &&& (r_1 ^^^ (-1)))]) (rest := []) C (met_X7_hasEnd vE vM hw) (va_recv hK hP (ci := 9) (q0 := 22) rfl rfl) (cwV 1 hts (TB_G (TB_4 tw_4_121 tw_4_123 ts_7 tw_1_7) tw_4_124) rfl rfl rfl (by decide +kernel) ⟨by decide, by decide⟩) hP hD hS rfl hl.1 rfl (Nat.le_of_ble_eq_true rfl) dX7_throughAll_49 ⟨by decide, by decide⟩ (fun r_6 σ_7 H locs hw hP hD hS => ?_)
      have hG : xG D cA aE ad A s σ_7 H locs := ⟨hP, hD, hS⟩
      refine lv_if_ne (tgt := 60) hx hb dX7_throughAll_52 (by decide) (fun q_ => ?_) (fun q_ => ?_)
      · have hw := hw.2 q_
        exact kB_X7_throughAll_60 C vM hk5 x1 x2 x4 σ_7 _ _ _ hG (lv_sub hl [1, 2, 3, 4] rfl) hw
      · have hw := hw.1 q_
        refine lv_lload_n hx hb dX7_throughAll_55 rfl (lv_at hl 3 rfl) ?_
        refine lv_lload hx hb dX7_throughAll_56 (lv_at hl 0 rfl) ?_
        refine lv_lor hx hb dX7_throughAll_58 ?_
        refine lv_topl (fun x2_8 ex2_8 => ?_)
        have hw := hw x2_8 ex2_8
        refine lv_lstore_n (lv' := [(2, .long x2_8), (5, .long r_1), (0, .ref (ad 22)), (1, .int x1), (4, .int x4)]) hx hb dX7_throughAll_59 rfl hl (by decide) rfl (fun ls hl => ?_)
        exact kB_X7_throughAll_60 C vM hk5 x1 x2_8 x4 σ_7 _ _ _ hG (lv_sub hl [2, 3, 0, 4] rfl) hw
theorem kL_X7_throughAll_5 {p : Program} {l : Launch} {e : Env} {s : State} {m : MethodId} {args : Array Value} {below : List Frame} {meth : Method} {c : Code} {A : Nat → Prop} {E : EnvT} {aK aV : Nat → Nat} {aO : Nat} {D : va_G} {cA : Nat → ClassId} {aE ad : Nat → Nat} (C : xCx p s m args meth c cX7_throughAll 7 (some .long) wgX7_throughAll RX7 E D cA A) (vM : eXs aK aV aE aO E) {post : Int64 → XS → Prop} :
    ∀ (n : Nat) (x1 : Int32) (x2 : Int64) (x4 : Int32) (σ : XS) (H : Heap) (locs : List Loc) (ls : Array Slot), xG D cA aE ad A s σ H locs → lv_has ls 7 [(0, .ref (ad 22)), (1, .int x1), (2, .long x2), (4, .int x4)] → wL_X7_throughAll_5 post n x1 x2 x4 σ → W p l e rm_X7_throughAll s m args below meth c H locs 0 0 (MQ below (va_Ql post (xAt D cA aE ad A) A) args s 0 0 A) (F0 m 5 ls []) := by
  intro n
  induction n with
  | zero => intro x1 x2 x4 σ H locs ls hG hl hw; exact hw.elim
  | succ n ih => exact kB_X7_throughAll_5 C vM ih
set_option maxHeartbeats 4000000 in
set_option maxRecDepth 100000 in
theorem k_X7_throughAll {p : Program} {l : Launch} {e : Env} {s : State} {m : MethodId} {args : Array Value} {below : List Frame} {meth : Method} {c : Code} {A : Nat → Prop} {E : EnvT} {aK aV : Nat → Nat} {aO : Nat} {D : va_G} {cA : Nat → ClassId} {aE ad : Nat → Nat} (C : xCx p s m args meth c cX7_throughAll 7 (some .long) wgX7_throughAll RX7 E D cA A) (vM : eXs aK aV aE aO E) {post : Int64 → XS → Prop} :
    ∀ (x1 : Int32) (σ : XS) (H : Heap) (locs : List Loc) (ls : Array Slot), xG D cA aE ad A s σ H locs → lv_has ls 7 [(0, .ref (ad 22)), (1, .int x1)] → wp_X7_throughAll post x1 σ → W p l e rm_X7_throughAll s m args below meth c H locs 0 0 (MQ below (va_Ql post (xAt D cA aE ad A) A) args s 0 0 A) (F0 m 0 ls []) := by
  obtain ⟨hx, hb, hml, hr, hown, hts, hK, hA, hlk, hE, vE⟩ := id C
  intro x1 σ H locs ls hG hl hw
  obtain ⟨hP, hD, hS⟩ := id hG
  refine lv_lconst (v := 0) hx hb dX7_throughAll_0 (by decide) ?_
  refine lv_lstore_n (lv' := [(2, .long 0), (0, .ref (ad 22)), (1, .int x1)]) hx hb dX7_throughAll_1 rfl hl (by decide) rfl (fun ls hl => ?_)
  refine lv_iconst (v := 0) hx hb dX7_throughAll_2 (by decide) ?_
  refine lv_istore (lv' := [(4, .int 0), (2, .long 0), (0, .ref (ad 22)), (1, .int x1)]) hx hb dX7_throughAll_3 hl (by decide) rfl (fun ls hl => ?_)
  obtain ⟨n_, hw⟩ := hw
  exact kL_X7_throughAll_5 C vM n_ x1 0 0 σ _ _ _ hG (lv_sub hl [2, 3, 1, 0] rfl) hw
set_option maxHeartbeats 4000000 in
set_option maxRecDepth 100000 in
theorem met_X7_throughAll {l : Launch} {E : EnvT} (vE : EnvOk E) {D : va_G} {cA : Nat → ClassId} {aE ad : Nat → Nat} {σ : XS} {aK aV : Nat → Nat} {aO : Nat} (vM : eXs aK aV aE aO E) {sz : Nat} {x1 : Int32} {post : Int64 → XS → Prop} (hw : wp_X7_throughAll post x1 σ) : Met l yX7_throughAll wgX7_throughAll rm_X7_throughAll (va_Pc [.ref (ad 22), .int x1] (xPre E D cA aE ad sz σ)) (va_Ql post (xAt D cA aE ad (va_A (xW cA aE ad σ) sz)) (va_A (xW cA aE ad σ) sz)) 0 0 (va_A (xW cA aE ad σ) sz) := by
  refine Met.ofW (cc := cX7_throughAll) (maxL := 7) (ret := (some .long)) (by decide +kernel) rfl ?_
  intro p e s m args below meth c s₁ B hml hv
  obtain ⟨rfl, hsz, hP, hK, hD0, hE⟩ := hv
  subst hsz
  have hD := hD0.self (sz := s.heap.size)
  generalize hAe : va_A (xW cA aE ad σ) s.heap.size = A at hD hE ⊢
  have hA : ∀ q : Nat, s.heap.size ≤ q → A q := fun q h => by rw [← hAe]; exact Or.inr h
  have hS : va_S A s.heap s.heap [] := va_S.rf
  have C : xCx p s m _ meth c cX7_throughAll 7 (some .long) wgX7_throughAll RX7 E D cA A := ⟨B.exec, B.bytes, hml, B.returns, findClass_of_methodNamed B.named, atoms_spec (ws := wgX7_throughAll) B.pre, hK, hA, B.notSynchronized, hE, vE⟩
  have hG : xG D cA aE ad A s σ s.heap [] := ⟨hP, hD, hS⟩
  have hl := lv_entry ([.ref (ad 22), .int x1]) (n := 7) (Nat.le_of_ble_eq_true rfl)
  rw [lg_entry_eq]
  generalize (lg_sl ([.ref (ad 22), .int x1]) ++ List.replicate (7 - (lg_sl ([.ref (ad 22), .int x1])).length) Slot.unset).toArray = ls at hl ⊢
  have hl : lv_has ls 7 [(0, .ref (ad 22)), (1, .int x1)] := hl
  exact k_X7_throughAll C vM x1 σ _ _ _ hG hl hw
/-! ===== X7_meetOf ways ===== -/
def rm_X7_meetOf : Room := { frames := 6, cells := 0, slots := 0, locals := 135 }
abbrev wgX7_meetOf : List Cond := .code yX7_meetOf cX7_meetOf 8 (some .int) :: TB
def wB_X7_meetOf_63 (post : Int32 → XS → Prop) (σ : XS) : Prop :=
  post (-1) σ
def wB_X7_meetOf_124 (post : Int32 → XS → Prop) (k74 : Int32 → Int64 → Int32 → XS → Prop) (x1 : Int32) (x3 : Int64) (x5 : Int32) (σ : XS) : Prop :=
  ∀ x5_15 : Int32, x5_15 = x5 + 1 → k74 x1 x3 x5_15 σ
def wB_X7_meetOf_74 (post : Int32 → XS → Prop) (k74 : Int32 → Int64 → Int32 → XS → Prop) (x1 : Int32) (x3 : Int64) (x5 : Int32) (σ : XS) : Prop :=
  ((xI σ 8) ≤ x5 → (post (-1) σ)) ∧ (¬ (xI σ 8) ≤ x5 → (wp_X0_bitOf (fun r_13 σ_14 => ((x3 &&& r_13) = 0 → (wB_X7_meetOf_124 post k74 x1 x3 x5 σ_14)) ∧ (¬ (x3 &&& r_13) = 0 → (wp_X7_walk (fun r_16 σ_17 => ((r_16 &&& x3) = r_13 → (post x5 σ_17)) ∧ (¬ (r_16 &&& x3) = r_13 → (wB_X7_meetOf_124 post k74 x1 x3 x5 σ_17))) x1 r_13 σ_14))) x5 σ))
def wL_X7_meetOf_74 (post : Int32 → XS → Prop) : Nat → Int32 → Int64 → Int32 → XS → Prop
  | 0 => fun _ _ _ _ => False
  | n + 1 => wB_X7_meetOf_74 post (wL_X7_meetOf_74 post n)
def wB_X7_meetOf_27 (post : Int32 → XS → Prop) (x1 : Int32) (t0 : Int32) (σ : XS) : Prop :=
  (t0 = 0 → (wB_X7_meetOf_63 post σ)) ∧ (¬ t0 = 0 → (wp_X7_fromStart (fun r_3 σ_4 => wp_X0_bitOf (fun r_5 σ_6 => ((r_3 &&& r_5) = 0 → (wB_X7_meetOf_63 post σ_6)) ∧ (¬ (r_3 &&& r_5) = 0 → (wp_X7_walk (fun r_7 σ_8 => wp_X7_hasEnd (fun r_9 σ_10 => (r_9 = 0 → (wB_X7_meetOf_63 post σ_10)) ∧ (¬ r_9 = 0 → (wp_X7_throughAll (fun r_11 σ_12 => ∃ n, wL_X7_meetOf_74 post n x1 r_11 0 σ_12) x1 σ_10))) r_7 σ_8) x1 0 σ_6))) x1 σ_4) σ))
def wB_X7_meetOf_26 (post : Int32 → XS → Prop) (x1 : Int32) (σ : XS) : Prop :=
  wB_X7_meetOf_27 post x1 0 σ
def wp_X7_meetOf (post : Int32 → XS → Prop) (x1 : Int32) (σ : XS) : Prop :=
  wp_X7_second (fun r_1 σ_2 => (r_1 = (-1) → (wB_X7_meetOf_26 post x1 σ_2)) ∧ (¬ r_1 = (-1) → (wp_X7_first (fun r_18 σ_19 => wp_X7_second (fun r_20 σ_21 => (r_18 = r_20 → (wB_X7_meetOf_26 post x1 σ_21)) ∧ (¬ r_18 = r_20 → (wB_X7_meetOf_27 post x1 1 σ_21))) x1 σ_19) x1 σ_2))) x1 σ
set_option maxHeartbeats 4000000 in
set_option maxRecDepth 100000 in
theorem kB_X7_meetOf_63 {p : Program} {l : Launch} {e : Env} {s : State} {m : MethodId} {args : Array Value} {below : List Frame} {meth : Method} {c : Code} {A : Nat → Prop} {E : EnvT} {aK aV : Nat → Nat} {aO : Nat} {D : va_G} {cA : Nat → ClassId} {aE ad : Nat → Nat} (C : xCx p s m args meth c cX7_meetOf 8 (some .int) wgX7_meetOf RX7 E D cA A) (vM : eXs aK aV aE aO E) {post : Int32 → XS → Prop} :
    ∀ (σ : XS) (H : Heap) (locs : List Loc) (ls : Array Slot), xG D cA aE ad A s σ H locs → lv_has ls 8 [] → wB_X7_meetOf_63 post σ → W p l e rm_X7_meetOf s m args below meth c H locs 0 0 (MQ below (va_Qi post (xAt D cA aE ad A) A) args s 0 0 A) (F0 m 63 ls []) := by
  obtain ⟨hx, hb, hml, hr, hown, hts, hK, hA, hlk, hE, vE⟩ := id C
  intro σ H locs ls hG hl hw
  obtain ⟨hP, hD, hS⟩ := id hG
  refine lv_iconst (v := (-1)) hx hb dX7_meetOf_63 (by decide) ?_
  exact W.iret (v := (-1)) hx hb hr (fun t ht hW => ⟨⟨_, σ, rfl, hw, by rw [ht]; exact hP, va_K.moved hW.alike hK, hD⟩, hS.F ht⟩) hS.2.2 dX7_meetOf_64 hlk
set_option maxHeartbeats 4000000 in
set_option maxRecDepth 100000 in
theorem kB_X7_meetOf_124 {p : Program} {l : Launch} {e : Env} {s : State} {m : MethodId} {args : Array Value} {below : List Frame} {meth : Method} {c : Code} {A : Nat → Prop} {E : EnvT} {aK aV : Nat → Nat} {aO : Nat} {D : va_G} {cA : Nat → ClassId} {aE ad : Nat → Nat} (C : xCx p s m args meth c cX7_meetOf 8 (some .int) wgX7_meetOf RX7 E D cA A) (vM : eXs aK aV aE aO E) {post : Int32 → XS → Prop}
    {k74 : Int32 → Int64 → Int32 → XS → Prop} (hk74 : ∀ (x1 : Int32) (x3 : Int64) (x5 : Int32) (σ : XS) (H : Heap) (locs : List Loc) (ls : Array Slot), xG D cA aE ad A s σ H locs → lv_has ls 8 [(0, .ref (ad 22)), (1, .int x1), (3, .long x3), (5, .int x5)] → k74 x1 x3 x5 σ → W p l e rm_X7_meetOf s m args below meth c H locs 0 0 (MQ below (va_Qi post (xAt D cA aE ad A) A) args s 0 0 A) (F0 m 74 ls [])) :
    ∀ (x1 : Int32) (x3 : Int64) (x5 : Int32) (σ : XS) (H : Heap) (locs : List Loc) (ls : Array Slot), xG D cA aE ad A s σ H locs → lv_has ls 8 [(0, .ref (ad 22)), (1, .int x1), (3, .long x3), (5, .int x5)] → wB_X7_meetOf_124 post k74 x1 x3 x5 σ → W p l e rm_X7_meetOf s m args below meth c H locs 0 0 (MQ below (va_Qi post (xAt D cA aE ad A) A) args s 0 0 A) (F0 m 124 ls []) := by
  obtain ⟨hx, hb, hml, hr, hown, hts, hK, hA, hlk, hE, vE⟩ := id C
  intro x1 x3 x5 σ H locs ls hG hl hw
  obtain ⟨hP, hD, hS⟩ := id hG
  obtain ⟨x5_15, ex5_15⟩ : ∃ y : Int32, y = x5 + 1 := ⟨_, rfl⟩
  have hw := hw x5_15 ex5_15
  refine lv_iinc (v := x5_15) (lv' := [(5, .int x5_15), (0, .ref (ad 22)), (1, .int x1), (3, .long x3)]) hx hb dX7_meetOf_124 hl (k := 3) rfl (by rw [ex5_15]; rfl) (by decide) rfl (fun ls hl => ?_)
  refine lv_goto (tgt := 74) hx hb dX7_meetOf_127 (by decide) ?_
  exact hk74 x1 x3 x5_15 σ _ _ _ hG (lv_sub hl [1, 2, 3, 0] rfl) hw
set_option maxHeartbeats 4000000 in
set_option maxRecDepth 100000 in
theorem kB_X7_meetOf_74 {p : Program} {l : Launch} {e : Env} {s : State} {m : MethodId} {args : Array Value} {below : List Frame} {meth : Method} {c : Code} {A : Nat → Prop} {E : EnvT} {aK aV : Nat → Nat} {aO : Nat} {D : va_G} {cA : Nat → ClassId} {aE ad : Nat → Nat} (C : xCx p s m args meth c cX7_meetOf 8 (some .int) wgX7_meetOf RX7 E D cA A) (vM : eXs aK aV aE aO E) {post : Int32 → XS → Prop}
    {k74 : Int32 → Int64 → Int32 → XS → Prop} (hk74 : ∀ (x1 : Int32) (x3 : Int64) (x5 : Int32) (σ : XS) (H : Heap) (locs : List Loc) (ls : Array Slot), xG D cA aE ad A s σ H locs → lv_has ls 8 [(0, .ref (ad 22)), (1, .int x1), (3, .long x3), (5, .int x5)] → k74 x1 x3 x5 σ → W p l e rm_X7_meetOf s m args below meth c H locs 0 0 (MQ below (va_Qi post (xAt D cA aE ad A) A) args s 0 0 A) (F0 m 74 ls [])) :
    ∀ (x1 : Int32) (x3 : Int64) (x5 : Int32) (σ : XS) (H : Heap) (locs : List Loc) (ls : Array Slot), xG D cA aE ad A s σ H locs → lv_has ls 8 [(0, .ref (ad 22)), (1, .int x1), (3, .long x3), (5, .int x5)] → wB_X7_meetOf_74 post k74 x1 x3 x5 σ → W p l e rm_X7_meetOf s m args below meth c H locs 0 0 (MQ below (va_Qi post (xAt D cA aE ad A) A) args s 0 0 A) (F0 m 74 ls []) := by
  obtain ⟨hx, hb, hml, hr, hown, hts, hK, hA, hlk, hE, vE⟩ := id C
  intro x1 x3 x5 σ H locs ls hG hl hw
  obtain ⟨hP, hD, hS⟩ := id hG
  refine lv_iload hx hb dX7_meetOf_74 (lv_at hl 3 rfl) ?_
  refine lv_aload_n hx hb dX7_meetOf_76 rfl (lv_at hl 0 rfl) ?_
  refine va_get (D := D) (ci := 9) (v := .ref (ad 17)) (C := RX7) (T := TX7) (N := 1) hx hb hts (in_tb inX7) hown hK hP 22 rfl rfl 0 (by decide) (hts _ (List.mem_cons_of_mem _ tw_1_177)) (fun _ h9 => h9) rfl dX7_meetOf_77 ?_
  refine va_get (D := D) (ci := 2) (v := .int (xI σ 8)) (C := RX0) (T := TX0) (N := 5) hx hb hts (in_tb inX0) hown hK hP 17 rfl rfl 4 (by decide) (hts _ (List.mem_cons_of_mem _ tw_1_159)) (fun _ h9 => h9) rfl dX7_meetOf_80 ?_
  refine lv_icmp_ge (tgt := 130) hx hb dX7_meetOf_83 (by decide) (fun q_ => ?_) (fun q_ => ?_)
  · have hw := hw.1 q_
    refine lv_iconst (v := (-1)) hx hb dX7_meetOf_130 (by decide) ?_
    exact W.iret (v := (-1)) hx hb hr (fun t ht hW => ⟨⟨_, σ, rfl, hw, by rw [ht]; exact hP, va_K.moved hW.alike hK, hD⟩, hS.F ht⟩) hS.2.2 dX7_meetOf_131 hlk
  · have hw := hw.2 q_
    refine lv_aload_n hx hb dX7_meetOf_86 rfl (lv_at hl 0 rfl) ?_
    refine va_get (D := D) (ci := 9) (v := .ref (ad 17)) (C := RX7) (T := TX7) (N := 1) hx hb hts (in_tb inX7) hown hK hP 22 rfl rfl 0 (by decide) (hts _ (List.mem_cons_of_mem _ tw_1_177)) (fun _ h9 => h9) rfl dX7_meetOf_87 ?_
    refine lv_iload hx hb dX7_meetOf_90 (lv_at hl 3 rfl) ?_
    refine xV_l (As := [.int x5]) (rest := []) C (met_X0_bitOf vE vM hw) (va_recv hK hP (ci := 2) (q0 := 17) rfl rfl) (cwV 1 hts (TB_G (TB_4 tw_4_76 tw_4_77 tw_4_78 tw_1_6) tw_4_79) rfl rfl rfl (by decide +kernel) ⟨by decide, by decide⟩) hP hD hS rfl hl.1 rfl (Nat.le_of_ble_eq_true rfl) dX7_meetOf_92 ⟨by decide, by decide⟩ (fun r_13 σ_14 H locs hw hP hD hS => ?_)
    have hG : xG D cA aE ad A s σ_14 H locs := ⟨hP, hD, hS⟩
    refine lv_lstore (lv' := [(6, .long r_13), (0, .ref (ad 22)), (1, .int x1), (3, .long x3), (5, .int x5)]) hx hb dX7_meetOf_95 hl (by decide) rfl (fun ls hl => ?_)
    refine lv_lload_n hx hb dX7_meetOf_97 rfl (lv_at hl 3 rfl) ?_
    refine lv_lload hx hb dX7_meetOf_98 (lv_at hl 0 rfl) ?_
    refine lv_land hx hb dX7_meetOf_100 ?_
    refine lv_lconst (v := 0) hx hb dX7_meetOf_101 (by decide) ?_
    refine W.lcmp hx hb dX7_meetOf_102 ?_
    refine lv_if_eq (tgt := 124) hx hb dX7_meetOf_103 (by decide) (fun q_ => ?_) (fun q_ => ?_)
    · have hw := hw.1 (lc_eq.mp q_)
      exact kB_X7_meetOf_124 C vM hk74 x1 x3 x5 σ_14 _ _ _ hG (lv_sub hl [1, 2, 3, 4] rfl) hw
    · have hw := hw.2 (fun z => q_ (lc_eq.mpr z))
      refine lv_aload_n hx hb dX7_meetOf_106 rfl (lv_at hl 1 rfl) ?_
      refine lv_iload_n hx hb dX7_meetOf_107 rfl (lv_at hl 2 rfl) ?_
      refine lv_lload hx hb dX7_meetOf_108 (lv_at hl 0 rfl) ?_
      refine xV_l (As := [.int x1, .long r_13]) (rest := []) C (met_X7_walk vE vM hw) (va_recv hK hP (ci := 9) (q0 := 22) rfl rfl) (cwV 2 hts (TB_G (TB_4 tw_4_72 tw_4_74 ts_5 tw_1_7) tw_4_75) rfl rfl rfl (by decide +kernel) ⟨by decide, by decide⟩) hP hD hS rfl hl.1 rfl (Nat.le_of_ble_eq_true rfl) dX7_meetOf_110 ⟨by decide, by decide⟩ (fun r_16 σ_17 H locs hw hP hD hS => ?_)
      have hG : xG D cA aE ad A s σ_17 H locs := ⟨hP, hD, hS⟩
      refine lv_lload_n hx hb dX7_meetOf_113 rfl (lv_at hl 3 rfl) ?_
      refine lv_land hx hb dX7_meetOf_114 ?_
      refine lv_lload hx hb dX7_meetOf_115 (lv_at hl 0 rfl) ?_
      refine W.lcmp hx hb dX7_meetOf_117 ?_
      refine lv_if_ne (tgt := 124) hx hb dX7_meetOf_118 (by decide) (fun q_ => ?_) (fun q_ => ?_)
      · have hw := hw.2 (fun z => q_ (lc_eq.mpr z))
        exact kB_X7_meetOf_124 C vM hk74 x1 x3 x5 σ_17 _ _ _ hG (lv_sub hl [1, 2, 3, 4] rfl) hw
      · have hw := hw.1 (lc_eq.mp q_)
        refine lv_iload hx hb dX7_meetOf_121 (lv_at hl 4 rfl) ?_
        exact W.iret (v := x5) hx hb hr (fun t ht hW => ⟨⟨_, σ_17, rfl, hw, by rw [ht]; exact hP, va_K.moved hW.alike hK, hD⟩, hS.F ht⟩) hS.2.2 dX7_meetOf_123 hlk
theorem kL_X7_meetOf_74 {p : Program} {l : Launch} {e : Env} {s : State} {m : MethodId} {args : Array Value} {below : List Frame} {meth : Method} {c : Code} {A : Nat → Prop} {E : EnvT} {aK aV : Nat → Nat} {aO : Nat} {D : va_G} {cA : Nat → ClassId} {aE ad : Nat → Nat} (C : xCx p s m args meth c cX7_meetOf 8 (some .int) wgX7_meetOf RX7 E D cA A) (vM : eXs aK aV aE aO E) {post : Int32 → XS → Prop} :
    ∀ (n : Nat) (x1 : Int32) (x3 : Int64) (x5 : Int32) (σ : XS) (H : Heap) (locs : List Loc) (ls : Array Slot), xG D cA aE ad A s σ H locs → lv_has ls 8 [(0, .ref (ad 22)), (1, .int x1), (3, .long x3), (5, .int x5)] → wL_X7_meetOf_74 post n x1 x3 x5 σ → W p l e rm_X7_meetOf s m args below meth c H locs 0 0 (MQ below (va_Qi post (xAt D cA aE ad A) A) args s 0 0 A) (F0 m 74 ls []) := by
  intro n
  induction n with
  | zero => intro x1 x3 x5 σ H locs ls hG hl hw; exact hw.elim
  | succ n ih => exact kB_X7_meetOf_74 C vM ih
set_option maxHeartbeats 4000000 in
set_option maxRecDepth 100000 in
theorem kB_X7_meetOf_27 {p : Program} {l : Launch} {e : Env} {s : State} {m : MethodId} {args : Array Value} {below : List Frame} {meth : Method} {c : Code} {A : Nat → Prop} {E : EnvT} {aK aV : Nat → Nat} {aO : Nat} {D : va_G} {cA : Nat → ClassId} {aE ad : Nat → Nat} (C : xCx p s m args meth c cX7_meetOf 8 (some .int) wgX7_meetOf RX7 E D cA A) (vM : eXs aK aV aE aO E) {post : Int32 → XS → Prop} :
    ∀ (x1 : Int32) (t0 : Int32) (σ : XS) (H : Heap) (locs : List Loc) (ls : Array Slot), xG D cA aE ad A s σ H locs → lv_has ls 8 [(0, .ref (ad 22)), (1, .int x1)] → wB_X7_meetOf_27 post x1 t0 σ → W p l e rm_X7_meetOf s m args below meth c H locs 0 0 (MQ below (va_Qi post (xAt D cA aE ad A) A) args s 0 0 A) (F0 m 27 ls [.int t0]) := by
  obtain ⟨hx, hb, hml, hr, hown, hts, hK, hA, hlk, hE, vE⟩ := id C
  intro x1 t0 σ H locs ls hG hl hw
  obtain ⟨hP, hD, hS⟩ := id hG
  refine lv_istore_n (lv' := [(2, .int t0), (0, .ref (ad 22)), (1, .int x1)]) hx hb dX7_meetOf_27 rfl hl (by decide) rfl (fun ls hl => ?_)
  refine lv_iload_n hx hb dX7_meetOf_28 rfl (lv_at hl 0 rfl) ?_
  refine lv_if_eq (tgt := 63) hx hb dX7_meetOf_29 (by decide) (fun q_ => ?_) (fun q_ => ?_)
  · have hw := hw.1 q_
    exact kB_X7_meetOf_63 C vM  σ _ _ _ hG (lv_sub hl [] rfl) hw
  · have hw := hw.2 q_
    refine lv_aload_n hx hb dX7_meetOf_32 rfl (lv_at hl 1 rfl) ?_
    refine xV_l (As := []) (rest := []) C (met_X7_fromStart vE vM hw) (va_recv hK hP (ci := 9) (q0 := 22) rfl rfl) (cwV 0 hts (TB_G (TB_4 tw_4_120 tw_4_69 tw_4_70 tw_1_7) tw_4_71) rfl rfl rfl (by decide +kernel) ⟨by decide, by decide⟩) hP hD hS rfl hl.1 rfl (Nat.le_of_ble_eq_true rfl) dX7_meetOf_33 ⟨by decide, by decide⟩ (fun r_3 σ_4 H locs hw hP hD hS => ?_)
    have hG : xG D cA aE ad A s σ_4 H locs := ⟨hP, hD, hS⟩
    refine lv_aload_n hx hb dX7_meetOf_36 rfl (lv_at hl 1 rfl) ?_
    refine va_get (D := D) (ci := 9) (v := .ref (ad 17)) (C := RX7) (T := TX7) (N := 1) hx hb hts (in_tb inX7) hown hK hP 22 rfl rfl 0 (by decide) (hts _ (List.mem_cons_of_mem _ tw_1_177)) (fun _ h9 => h9) rfl dX7_meetOf_37 ?_
    refine lv_iload_n hx hb dX7_meetOf_40 rfl (lv_at hl 2 rfl) ?_
    refine xV_l (As := [.int x1]) (rest := [.long r_3]) C (met_X0_bitOf vE vM hw) (va_recv hK hP (ci := 2) (q0 := 17) rfl rfl) (cwV 1 hts (TB_G (TB_4 tw_4_76 tw_4_77 tw_4_78 tw_1_6) tw_4_79) rfl rfl rfl (by decide +kernel) ⟨by decide, by decide⟩) hP hD hS rfl hl.1 rfl (Nat.le_of_ble_eq_true rfl) dX7_meetOf_41 ⟨by decide, by decide⟩ (fun r_5 σ_6 H locs hw hP hD hS => ?_)
    have hG : xG D cA aE ad A s σ_6 H locs := ⟨hP, hD, hS⟩
    refine lv_land hx hb dX7_meetOf_44 ?_
    refine lv_lconst (v := 0) hx hb dX7_meetOf_45 (by decide) ?_
    refine W.lcmp hx hb dX7_meetOf_46 ?_
    refine lv_if_eq (tgt := 63) hx hb dX7_meetOf_47 (by decide) (fun q_ => ?_) (fun q_ => ?_)
    · have hw := hw.1 (lc_eq.mp q_)
      exact kB_X7_meetOf_63 C vM  σ_6 _ _ _ hG (lv_sub hl [] rfl) hw
    · have hw := hw.2 (fun z => q_ (lc_eq.mpr z))
      refine lv_aload_n hx hb dX7_meetOf_50 rfl (lv_at hl 1 rfl) ?_
      refine lv_aload_n hx hb dX7_meetOf_51 rfl (lv_at hl 1 rfl) ?_
      refine lv_iload_n hx hb dX7_meetOf_52 rfl (lv_at hl 2 rfl) ?_
      refine lv_lconst (v := 0) hx hb dX7_meetOf_53 (by decide) ?_
      refine xV_l (As := [.int x1, .long 0]) (rest := [.ref (ad 22)]) C (met_X7_walk vE vM hw) (va_recv hK hP (ci := 9) (q0 := 22) rfl rfl) (cwV 2 hts (TB_G (TB_4 tw_4_72 tw_4_74 ts_5 tw_1_7) tw_4_75) rfl rfl rfl (by decide +kernel) ⟨by decide, by decide⟩) hP hD hS rfl hl.1 rfl (Nat.le_of_ble_eq_true rfl) dX7_meetOf_54 ⟨by decide, by decide⟩ (fun r_7 σ_8 H locs hw hP hD hS => ?_)
      have hG : xG D cA aE ad A s σ_8 H locs := ⟨hP, hD, hS⟩
      refine xV_i (As := [.long r_7]) (rest := []) C (met_X7_hasEnd vE vM hw) (va_recv hK hP (ci := 9) (q0 := 22) rfl rfl) (cwV 1 hts (TB_G (TB_4 tw_4_121 tw_4_123 ts_7 tw_1_7) tw_4_124) rfl rfl rfl (by decide +kernel) ⟨by decide, by decide⟩) hP hD hS rfl hl.1 rfl (Nat.le_of_ble_eq_true rfl) dX7_meetOf_57 ⟨by decide, by decide⟩ (fun r_9 σ_10 H locs hw hP hD hS => ?_)
      have hG : xG D cA aE ad A s σ_10 H locs := ⟨hP, hD, hS⟩
      refine lv_if_ne (tgt := 65) hx hb dX7_meetOf_60 (by decide) (fun q_ => ?_) (fun q_ => ?_)
      · have hw := hw.2 q_
        refine lv_aload_n hx hb dX7_meetOf_65 rfl (lv_at hl 1 rfl) ?_
        refine lv_iload_n hx hb dX7_meetOf_66 rfl (lv_at hl 2 rfl) ?_
        refine xV_l (As := [.int x1]) (rest := []) C (met_X7_throughAll vE vM hw) (va_recv hK hP (ci := 9) (q0 := 22) rfl rfl) (cwV 1 hts (TB_G (TB_4 tw_4_129 tw_4_131 ts_9 tw_1_7) tw_4_132) rfl rfl rfl (by decide +kernel) ⟨by decide, by decide⟩) hP hD hS rfl hl.1 rfl (Nat.le_of_ble_eq_true rfl) dX7_meetOf_67 ⟨by decide, by decide⟩ (fun r_11 σ_12 H locs hw hP hD hS => ?_)
        have hG : xG D cA aE ad A s σ_12 H locs := ⟨hP, hD, hS⟩
        refine lv_lstore_n (lv' := [(3, .long r_11), (2, .int t0), (0, .ref (ad 22)), (1, .int x1)]) hx hb dX7_meetOf_70 rfl hl (by decide) rfl (fun ls hl => ?_)
        refine lv_iconst (v := 0) hx hb dX7_meetOf_71 (by decide) ?_
        refine lv_istore (lv' := [(5, .int 0), (3, .long r_11), (2, .int t0), (0, .ref (ad 22)), (1, .int x1)]) hx hb dX7_meetOf_72 hl (by decide) rfl (fun ls hl => ?_)
        obtain ⟨n_, hw⟩ := hw
        exact kL_X7_meetOf_74 C vM n_ x1 r_11 0 σ_12 _ _ _ hG (lv_sub hl [3, 4, 1, 0] rfl) hw
      · have hw := hw.1 q_
        exact kB_X7_meetOf_63 C vM  σ_10 _ _ _ hG (lv_sub hl [] rfl) hw
set_option maxHeartbeats 4000000 in
set_option maxRecDepth 100000 in
theorem kB_X7_meetOf_26 {p : Program} {l : Launch} {e : Env} {s : State} {m : MethodId} {args : Array Value} {below : List Frame} {meth : Method} {c : Code} {A : Nat → Prop} {E : EnvT} {aK aV : Nat → Nat} {aO : Nat} {D : va_G} {cA : Nat → ClassId} {aE ad : Nat → Nat} (C : xCx p s m args meth c cX7_meetOf 8 (some .int) wgX7_meetOf RX7 E D cA A) (vM : eXs aK aV aE aO E) {post : Int32 → XS → Prop} :
    ∀ (x1 : Int32) (σ : XS) (H : Heap) (locs : List Loc) (ls : Array Slot), xG D cA aE ad A s σ H locs → lv_has ls 8 [(0, .ref (ad 22)), (1, .int x1)] → wB_X7_meetOf_26 post x1 σ → W p l e rm_X7_meetOf s m args below meth c H locs 0 0 (MQ below (va_Qi post (xAt D cA aE ad A) A) args s 0 0 A) (F0 m 26 ls []) := by
  obtain ⟨hx, hb, hml, hr, hown, hts, hK, hA, hlk, hE, vE⟩ := id C
  intro x1 σ H locs ls hG hl hw
  obtain ⟨hP, hD, hS⟩ := id hG
  refine lv_iconst (v := 0) hx hb dX7_meetOf_26 (by decide) ?_
  exact kB_X7_meetOf_27 C vM x1 0 σ _ _ _ hG (lv_sub hl [0, 1] rfl) hw
set_option maxHeartbeats 4000000 in
set_option maxRecDepth 100000 in
theorem k_X7_meetOf {p : Program} {l : Launch} {e : Env} {s : State} {m : MethodId} {args : Array Value} {below : List Frame} {meth : Method} {c : Code} {A : Nat → Prop} {E : EnvT} {aK aV : Nat → Nat} {aO : Nat} {D : va_G} {cA : Nat → ClassId} {aE ad : Nat → Nat} (C : xCx p s m args meth c cX7_meetOf 8 (some .int) wgX7_meetOf RX7 E D cA A) (vM : eXs aK aV aE aO E) {post : Int32 → XS → Prop} :
    ∀ (x1 : Int32) (σ : XS) (H : Heap) (locs : List Loc) (ls : Array Slot), xG D cA aE ad A s σ H locs → lv_has ls 8 [(0, .ref (ad 22)), (1, .int x1)] → wp_X7_meetOf post x1 σ → W p l e rm_X7_meetOf s m args below meth c H locs 0 0 (MQ below (va_Qi post (xAt D cA aE ad A) A) args s 0 0 A) (F0 m 0 ls []) := by
  obtain ⟨hx, hb, hml, hr, hown, hts, hK, hA, hlk, hE, vE⟩ := id C
  intro x1 σ H locs ls hG hl hw
  obtain ⟨hP, hD, hS⟩ := id hG
  refine lv_aload_n hx hb dX7_meetOf_0 rfl (lv_at hl 0 rfl) ?_
  refine lv_iload_n hx hb dX7_meetOf_1 rfl (lv_at hl 1 rfl) ?_
  refine xV_i (As := [.int x1]) (rest := []) C (met_X7_second vE vM hw) (va_recv hK hP (ci := 9) (q0 := 22) rfl rfl) (cwV 1 hts (TB_G (TB_4 tw_4_89 tw_4_61 tw_4_62 tw_1_7) tw_4_63) rfl rfl rfl (by decide +kernel) ⟨by decide, by decide⟩) hP hD hS rfl hl.1 rfl (Nat.le_of_ble_eq_true rfl) dX7_meetOf_2 ⟨by decide, by decide⟩ (fun r_1 σ_2 H locs hw hP hD hS => ?_)
  have hG : xG D cA aE ad A s σ_2 H locs := ⟨hP, hD, hS⟩
  refine lv_iconst (v := (-1)) hx hb dX7_meetOf_5 (by decide) ?_
  refine lv_icmp_eq (tgt := 26) hx hb dX7_meetOf_6 (by decide) (fun q_ => ?_) (fun q_ => ?_)
  · have hw := hw.1 q_
    exact kB_X7_meetOf_26 C vM x1 σ_2 _ _ _ hG (lv_sub hl [0, 1] rfl) hw
  · have hw := hw.2 q_
    refine lv_aload_n hx hb dX7_meetOf_9 rfl (lv_at hl 0 rfl) ?_
    refine lv_iload_n hx hb dX7_meetOf_10 rfl (lv_at hl 1 rfl) ?_
    refine xV_i (As := [.int x1]) (rest := []) C (met_X7_first vE vM hw) (va_recv hK hP (ci := 9) (q0 := 22) rfl rfl) (cwV 1 hts (TB_G (TB_4 tw_4_88 tw_4_36 tw_4_37 tw_1_7) tw_4_38) rfl rfl rfl (by decide +kernel) ⟨by decide, by decide⟩) hP hD hS rfl hl.1 rfl (Nat.le_of_ble_eq_true rfl) dX7_meetOf_11 ⟨by decide, by decide⟩ (fun r_18 σ_19 H locs hw hP hD hS => ?_)
    have hG : xG D cA aE ad A s σ_19 H locs := ⟨hP, hD, hS⟩
    refine lv_aload_n hx hb dX7_meetOf_14 rfl (lv_at hl 0 rfl) ?_
    refine lv_iload_n hx hb dX7_meetOf_15 rfl (lv_at hl 1 rfl) ?_
    refine xV_i (As := [.int x1]) (rest := [.int r_18]) C (met_X7_second vE vM hw) (va_recv hK hP (ci := 9) (q0 := 22) rfl rfl) (cwV 1 hts (TB_G (TB_4 tw_4_89 tw_4_61 tw_4_62 tw_1_7) tw_4_63) rfl rfl rfl (by decide +kernel) ⟨by decide, by decide⟩) hP hD hS rfl hl.1 rfl (Nat.le_of_ble_eq_true rfl) dX7_meetOf_16 ⟨by decide, by decide⟩ (fun r_20 σ_21 H locs hw hP hD hS => ?_)
    have hG : xG D cA aE ad A s σ_21 H locs := ⟨hP, hD, hS⟩
    refine lv_icmp_eq (tgt := 26) hx hb dX7_meetOf_19 (by decide) (fun q_ => ?_) (fun q_ => ?_)
    · have hw := hw.1 q_
      exact kB_X7_meetOf_26 C vM x1 σ_21 _ _ _ hG (lv_sub hl [0, 1] rfl) hw
    · have hw := hw.2 q_
      refine lv_iconst (v := 1) hx hb dX7_meetOf_22 (by decide) ?_
      refine lv_goto (tgt := 27) hx hb dX7_meetOf_23 (by decide) ?_
      exact kB_X7_meetOf_27 C vM x1 1 σ_21 _ _ _ hG (lv_sub hl [0, 1] rfl) hw
set_option maxHeartbeats 4000000 in
set_option maxRecDepth 100000 in
theorem met_X7_meetOf {l : Launch} {E : EnvT} (vE : EnvOk E) {D : va_G} {cA : Nat → ClassId} {aE ad : Nat → Nat} {σ : XS} {aK aV : Nat → Nat} {aO : Nat} (vM : eXs aK aV aE aO E) {sz : Nat} {x1 : Int32} {post : Int32 → XS → Prop} (hw : wp_X7_meetOf post x1 σ) : Met l yX7_meetOf wgX7_meetOf rm_X7_meetOf (va_Pc [.ref (ad 22), .int x1] (xPre E D cA aE ad sz σ)) (va_Qi post (xAt D cA aE ad (va_A (xW cA aE ad σ) sz)) (va_A (xW cA aE ad σ) sz)) 0 0 (va_A (xW cA aE ad σ) sz) := by
  refine Met.ofW (cc := cX7_meetOf) (maxL := 8) (ret := (some .int)) (by decide +kernel) rfl ?_
  intro p e s m args below meth c s₁ B hml hv
  obtain ⟨rfl, hsz, hP, hK, hD0, hE⟩ := hv
  subst hsz
  have hD := hD0.self (sz := s.heap.size)
  generalize hAe : va_A (xW cA aE ad σ) s.heap.size = A at hD hE ⊢
  have hA : ∀ q : Nat, s.heap.size ≤ q → A q := fun q h => by rw [← hAe]; exact Or.inr h
  have hS : va_S A s.heap s.heap [] := va_S.rf
  have C : xCx p s m _ meth c cX7_meetOf 8 (some .int) wgX7_meetOf RX7 E D cA A := ⟨B.exec, B.bytes, hml, B.returns, findClass_of_methodNamed B.named, atoms_spec (ws := wgX7_meetOf) B.pre, hK, hA, B.notSynchronized, hE, vE⟩
  have hG : xG D cA aE ad A s σ s.heap [] := ⟨hP, hD, hS⟩
  have hl := lv_entry ([.ref (ad 22), .int x1]) (n := 8) (Nat.le_of_ble_eq_true rfl)
  rw [lg_entry_eq]
  generalize (lg_sl ([.ref (ad 22), .int x1]) ++ List.replicate (8 - (lg_sl ([.ref (ad 22), .int x1])).length) Slot.unset).toArray = ls at hl ⊢
  have hl : lv_has ls 8 [(0, .ref (ad 22)), (1, .int x1)] := hl
  exact k_X7_meetOf C vM x1 σ _ _ _ hG hl hw
