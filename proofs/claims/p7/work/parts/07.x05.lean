/-! ===== X6_follower tokens ===== -/
def rm_X6_follower : Room := { frames := 0, cells := 0, slots := 0, locals := 0 }
abbrev wgX6_follower : List Cond := .code yX6_follower cX6_follower 1 (some .int) :: TB
def wB_X6_follower_28 (post : Int32 → XS → Prop) (t0 : Int32) (σ : XS) : Prop :=
  post t0 σ
def wp_X6_follower (post : Int32 → XS → Prop) (σ : XS) : Prop :=
  ((xI σ 4) ≤ ((xI σ 5) + 1) → (wB_X6_follower_28 post 0 σ)) ∧ (¬ (xI σ 4) ≤ ((xI σ 5) + 1) → (vp_in ((xI σ 5) + 1) 701 ∧ (wB_X6_follower_28 post (xA σ 1 ((xI σ 5) + 1).toNatClampNeg) σ)))
set_option maxHeartbeats 4000000 in
set_option maxRecDepth 100000 in
theorem kB_X6_follower_28 {p : Program} {l : Launch} {e : Env} {s : State} {m : MethodId} {args : Array Value} {below : List Frame} {meth : Method} {c : Code} {A : Nat → Prop} {E : EnvT} {aK aV : Nat → Nat} {aO : Nat} {D : va_G} {cA : Nat → ClassId} {aE ad : Nat → Nat} (C : xCx p s m args meth c cX6_follower 1 (some .int) wgX6_follower RX6 E D cA A) (vM : eXs aK aV aE aO E) {post : Int32 → XS → Prop} :
    ∀ (t0 : Int32) (σ : XS) (H : Heap) (locs : List Loc) (ls : Array Slot), xG D cA aE ad A s σ H locs → lv_has ls 1 [] → wB_X6_follower_28 post t0 σ → W p l e rm_X6_follower s m args below meth c H locs 0 0 (MQ below (va_Qi post (xAt D cA aE ad A) A) args s 0 0 A) (F0 m 28 ls [.int t0]) := by
  obtain ⟨hx, hb, hml, hr, hown, hts, hK, hA, hlk, hE, vE⟩ := id C
  intro t0 σ H locs ls hG hl hw
  obtain ⟨hP, hD, hS⟩ := id hG
  exact W.iret (v := t0) hx hb hr (fun t ht hW => ⟨⟨_, σ, rfl, hw, by rw [ht]; exact hP, va_K.moved hW.alike hK, hD⟩, hS.F ht⟩) hS.2.2 dX6_follower_28 hlk
set_option maxHeartbeats 4000000 in
set_option maxRecDepth 100000 in
theorem k_X6_follower {p : Program} {l : Launch} {e : Env} {s : State} {m : MethodId} {args : Array Value} {below : List Frame} {meth : Method} {c : Code} {A : Nat → Prop} {E : EnvT} {aK aV : Nat → Nat} {aO : Nat} {D : va_G} {cA : Nat → ClassId} {aE ad : Nat → Nat} (C : xCx p s m args meth c cX6_follower 1 (some .int) wgX6_follower RX6 E D cA A) (vM : eXs aK aV aE aO E) {post : Int32 → XS → Prop} :
    ∀ (σ : XS) (H : Heap) (locs : List Loc) (ls : Array Slot), xG D cA aE ad A s σ H locs → lv_has ls 1 [(0, .ref (ad 4))] → wp_X6_follower post σ → W p l e rm_X6_follower s m args below meth c H locs 0 0 (MQ below (va_Qi post (xAt D cA aE ad A) A) args s 0 0 A) (F0 m 0 ls []) := by
  obtain ⟨hx, hb, hml, hr, hown, hts, hK, hA, hlk, hE, vE⟩ := id C
  intro σ H locs ls hG hl hw
  obtain ⟨hP, hD, hS⟩ := id hG
  refine lv_aload_n hx hb dX6_follower_0 rfl (lv_at hl 0 rfl) ?_
  refine va_get (D := D) (ci := 8) (v := .int (xI σ 5)) (C := RX6) (T := TX6) (N := 6) hx hb hts (in_tb inX6) hown hK hP 4 rfl rfl 5 (by decide) (hts _ (List.mem_cons_of_mem _ tw_1_96)) (fun _ h9 => h9) rfl dX6_follower_1 ?_
  refine lv_iconst (v := 1) hx hb dX6_follower_4 (by decide) ?_
  refine lv_iadd hx hb dX6_follower_5 ?_
  refine lv_aload_n hx hb dX6_follower_6 rfl (lv_at hl 0 rfl) ?_
  refine va_get (D := D) (ci := 8) (v := .int (xI σ 4)) (C := RX6) (T := TX6) (N := 6) hx hb hts (in_tb inX6) hown hK hP 4 rfl rfl 4 (by decide) (hts _ (List.mem_cons_of_mem _ tw_1_95)) (fun _ h9 => h9) rfl dX6_follower_7 ?_
  refine lv_icmp_ge (tgt := 27) hx hb dX6_follower_10 (by decide) (fun q_ => ?_) (fun q_ => ?_)
  · have hw := hw.1 q_
    refine lv_iconst (v := 0) hx hb dX6_follower_27 (by decide) ?_
    exact kB_X6_follower_28 C vM 0 σ _ _ _ hG (lv_sub hl [] rfl) hw
  · have hw := hw.2 q_
    refine lv_aload_n hx hb dX6_follower_13 rfl (lv_at hl 0 rfl) ?_
    refine va_get (D := D) (ci := 8) (v := .ref (ad 5)) (C := RX6) (T := TX6) (N := 6) hx hb hts (in_tb inX6) hown hK hP 4 rfl rfl 1 (by decide) (hts _ (List.mem_cons_of_mem _ tw_1_92)) (fun _ h9 => h9) rfl dX6_follower_14 ?_
    refine lv_aload_n hx hb dX6_follower_17 rfl (lv_at hl 0 rfl) ?_
    refine va_get (D := D) (ci := 8) (v := .int (xI σ 5)) (C := RX6) (T := TX6) (N := 6) hx hb hts (in_tb inX6) hown hK hP 4 rfl rfl 5 (by decide) (hts _ (List.mem_cons_of_mem _ tw_1_96)) (fun _ h9 => h9) rfl dX6_follower_18 ?_
    refine lv_iconst (v := 1) hx hb dX6_follower_21 (by decide) ?_
    refine lv_iadd hx hb dX6_follower_22 ?_
    obtain ⟨h_1, hw⟩ := hw
    refine va_iald hx hb hK hP 5 0 rfl rfl h_1 dX6_follower_23 ?_
    refine lv_goto (tgt := 28) hx hb dX6_follower_24 (by decide) ?_
    exact kB_X6_follower_28 C vM (xA σ 1 ((xI σ 5) + 1).toNatClampNeg) σ _ _ _ hG (lv_sub hl [] rfl) hw
set_option maxHeartbeats 4000000 in
set_option maxRecDepth 100000 in
theorem met_X6_follower {l : Launch} {E : EnvT} (vE : EnvOk E) {D : va_G} {cA : Nat → ClassId} {aE ad : Nat → Nat} {σ : XS} {aK aV : Nat → Nat} {aO : Nat} (vM : eXs aK aV aE aO E) {sz : Nat} {post : Int32 → XS → Prop} (hw : wp_X6_follower post σ) : Met l yX6_follower wgX6_follower rm_X6_follower (va_Pc [.ref (ad 4)] (xPre E D cA aE ad sz σ)) (va_Qi post (xAt D cA aE ad (va_A (xW cA aE ad σ) sz)) (va_A (xW cA aE ad σ) sz)) 0 0 (va_A (xW cA aE ad σ) sz) := by
  refine Met.ofW (cc := cX6_follower) (maxL := 1) (ret := (some .int)) (by decide +kernel) rfl ?_
  intro p e s m args below meth c s₁ B hml hv
  obtain ⟨rfl, hsz, hP, hK, hD0, hE⟩ := hv
  subst hsz
  have hD := hD0.self (sz := s.heap.size)
  generalize hAe : va_A (xW cA aE ad σ) s.heap.size = A at hD hE ⊢
  have hA : ∀ q : Nat, s.heap.size ≤ q → A q := fun q h => by rw [← hAe]; exact Or.inr h
  have hS : va_S A s.heap s.heap [] := va_S.rf
  have C : xCx p s m _ meth c cX6_follower 1 (some .int) wgX6_follower RX6 E D cA A := ⟨B.exec, B.bytes, hml, B.returns, findClass_of_methodNamed B.named, atoms_spec (ws := wgX6_follower) B.pre, hK, hA, B.notSynchronized, hE, vE⟩
  have hG : xG D cA aE ad A s σ s.heap [] := ⟨hP, hD, hS⟩
  have hl := lv_entry ([.ref (ad 4)]) (n := 1) (Nat.le_of_ble_eq_true rfl)
  rw [lg_entry_eq]
  generalize (lg_sl ([.ref (ad 4)]) ++ List.replicate (1 - (lg_sl ([.ref (ad 4)])).length) Slot.unset).toArray = ls at hl ⊢
  have hl : lv_has ls 1 [(0, .ref (ad 4))] := hl
  exact k_X6_follower C vM σ _ _ _ hG hl hw
/-! ===== X6_place tokens ===== -/
def rm_X6_place : Room := { frames := 0, cells := 0, slots := 0, locals := 0 }
abbrev wgX6_place : List Cond := .code yX6_place cX6_place 1 (some .int) :: TB
def wB_X6_place_30 (post : Int32 → XS → Prop) (t0 : Int32) (σ : XS) : Prop :=
  post t0 σ
def wp_X6_place (post : Int32 → XS → Prop) (σ : XS) : Prop :=
  ((xI σ 4) ≤ (xI σ 5) → (wB_X6_place_30 post (xI σ 0) σ)) ∧ (¬ (xI σ 4) ≤ (xI σ 5) → (vp_in (xI σ 5) 701 ∧ (wB_X6_place_30 post (xA σ 2 (xI σ 5).toNatClampNeg) σ)))
set_option maxHeartbeats 4000000 in
set_option maxRecDepth 100000 in
theorem kB_X6_place_30 {p : Program} {l : Launch} {e : Env} {s : State} {m : MethodId} {args : Array Value} {below : List Frame} {meth : Method} {c : Code} {A : Nat → Prop} {E : EnvT} {aK aV : Nat → Nat} {aO : Nat} {D : va_G} {cA : Nat → ClassId} {aE ad : Nat → Nat} (C : xCx p s m args meth c cX6_place 1 (some .int) wgX6_place RX6 E D cA A) (vM : eXs aK aV aE aO E) {post : Int32 → XS → Prop} :
    ∀ (t0 : Int32) (σ : XS) (H : Heap) (locs : List Loc) (ls : Array Slot), xG D cA aE ad A s σ H locs → lv_has ls 1 [] → wB_X6_place_30 post t0 σ → W p l e rm_X6_place s m args below meth c H locs 0 0 (MQ below (va_Qi post (xAt D cA aE ad A) A) args s 0 0 A) (F0 m 30 ls [.int t0]) := by
  obtain ⟨hx, hb, hml, hr, hown, hts, hK, hA, hlk, hE, vE⟩ := id C
  intro t0 σ H locs ls hG hl hw
  obtain ⟨hP, hD, hS⟩ := id hG
  exact W.iret (v := t0) hx hb hr (fun t ht hW => ⟨⟨_, σ, rfl, hw, by rw [ht]; exact hP, va_K.moved hW.alike hK, hD⟩, hS.F ht⟩) hS.2.2 dX6_place_30 hlk
set_option maxHeartbeats 4000000 in
set_option maxRecDepth 100000 in
theorem k_X6_place {p : Program} {l : Launch} {e : Env} {s : State} {m : MethodId} {args : Array Value} {below : List Frame} {meth : Method} {c : Code} {A : Nat → Prop} {E : EnvT} {aK aV : Nat → Nat} {aO : Nat} {D : va_G} {cA : Nat → ClassId} {aE ad : Nat → Nat} (C : xCx p s m args meth c cX6_place 1 (some .int) wgX6_place RX6 E D cA A) (vM : eXs aK aV aE aO E) {post : Int32 → XS → Prop} :
    ∀ (σ : XS) (H : Heap) (locs : List Loc) (ls : Array Slot), xG D cA aE ad A s σ H locs → lv_has ls 1 [(0, .ref (ad 4))] → wp_X6_place post σ → W p l e rm_X6_place s m args below meth c H locs 0 0 (MQ below (va_Qi post (xAt D cA aE ad A) A) args s 0 0 A) (F0 m 0 ls []) := by
  obtain ⟨hx, hb, hml, hr, hown, hts, hK, hA, hlk, hE, vE⟩ := id C
  intro σ H locs ls hG hl hw
  obtain ⟨hP, hD, hS⟩ := id hG
  refine lv_aload_n hx hb dX6_place_0 rfl (lv_at hl 0 rfl) ?_
  refine va_get (D := D) (ci := 8) (v := .int (xI σ 5)) (C := RX6) (T := TX6) (N := 6) hx hb hts (in_tb inX6) hown hK hP 4 rfl rfl 5 (by decide) (hts _ (List.mem_cons_of_mem _ tw_1_96)) (fun _ h9 => h9) rfl dX6_place_1 ?_
  refine lv_aload_n hx hb dX6_place_4 rfl (lv_at hl 0 rfl) ?_
  refine va_get (D := D) (ci := 8) (v := .int (xI σ 4)) (C := RX6) (T := TX6) (N := 6) hx hb hts (in_tb inX6) hown hK hP 4 rfl rfl 4 (by decide) (hts _ (List.mem_cons_of_mem _ tw_1_95)) (fun _ h9 => h9) rfl dX6_place_5 ?_
  refine lv_icmp_ge (tgt := 23) hx hb dX6_place_8 (by decide) (fun q_ => ?_) (fun q_ => ?_)
  · have hw := hw.1 q_
    refine lv_aload_n hx hb dX6_place_23 rfl (lv_at hl 0 rfl) ?_
    refine va_get (D := D) (ci := 8) (v := .ref (ad 1)) (C := RX6) (T := TX6) (N := 6) hx hb hts (in_tb inX6) hown hK hP 4 rfl rfl 0 (by decide) (hts _ (List.mem_cons_of_mem _ tw_1_91)) (fun _ h9 => h9) rfl dX6_place_24 ?_
    refine va_get (D := D) (ci := 7) (v := .int (xI σ 0)) (C := RX5) (T := TX5) (N := 2) hx hb hts (in_tb inX5) hown hK hP 1 rfl rfl 1 (by decide) (hts _ (List.mem_cons_of_mem _ tw_1_47)) (fun _ h9 => h9) rfl dX6_place_27 ?_
    exact kB_X6_place_30 C vM (xI σ 0) σ _ _ _ hG (lv_sub hl [] rfl) hw
  · have hw := hw.2 q_
    refine lv_aload_n hx hb dX6_place_11 rfl (lv_at hl 0 rfl) ?_
    refine va_get (D := D) (ci := 8) (v := .ref (ad 6)) (C := RX6) (T := TX6) (N := 6) hx hb hts (in_tb inX6) hown hK hP 4 rfl rfl 2 (by decide) (hts _ (List.mem_cons_of_mem _ tw_1_93)) (fun _ h9 => h9) rfl dX6_place_12 ?_
    refine lv_aload_n hx hb dX6_place_15 rfl (lv_at hl 0 rfl) ?_
    refine va_get (D := D) (ci := 8) (v := .int (xI σ 5)) (C := RX6) (T := TX6) (N := 6) hx hb hts (in_tb inX6) hown hK hP 4 rfl rfl 5 (by decide) (hts _ (List.mem_cons_of_mem _ tw_1_96)) (fun _ h9 => h9) rfl dX6_place_16 ?_
    obtain ⟨h_1, hw⟩ := hw
    refine va_iald hx hb hK hP 6 0 rfl rfl h_1 dX6_place_19 ?_
    refine lv_goto (tgt := 30) hx hb dX6_place_20 (by decide) ?_
    exact kB_X6_place_30 C vM (xA σ 2 (xI σ 5).toNatClampNeg) σ _ _ _ hG (lv_sub hl [] rfl) hw
set_option maxHeartbeats 4000000 in
set_option maxRecDepth 100000 in
theorem met_X6_place {l : Launch} {E : EnvT} (vE : EnvOk E) {D : va_G} {cA : Nat → ClassId} {aE ad : Nat → Nat} {σ : XS} {aK aV : Nat → Nat} {aO : Nat} (vM : eXs aK aV aE aO E) {sz : Nat} {post : Int32 → XS → Prop} (hw : wp_X6_place post σ) : Met l yX6_place wgX6_place rm_X6_place (va_Pc [.ref (ad 4)] (xPre E D cA aE ad sz σ)) (va_Qi post (xAt D cA aE ad (va_A (xW cA aE ad σ) sz)) (va_A (xW cA aE ad σ) sz)) 0 0 (va_A (xW cA aE ad σ) sz) := by
  refine Met.ofW (cc := cX6_place) (maxL := 1) (ret := (some .int)) (by decide +kernel) rfl ?_
  intro p e s m args below meth c s₁ B hml hv
  obtain ⟨rfl, hsz, hP, hK, hD0, hE⟩ := hv
  subst hsz
  have hD := hD0.self (sz := s.heap.size)
  generalize hAe : va_A (xW cA aE ad σ) s.heap.size = A at hD hE ⊢
  have hA : ∀ q : Nat, s.heap.size ≤ q → A q := fun q h => by rw [← hAe]; exact Or.inr h
  have hS : va_S A s.heap s.heap [] := va_S.rf
  have C : xCx p s m _ meth c cX6_place 1 (some .int) wgX6_place RX6 E D cA A := ⟨B.exec, B.bytes, hml, B.returns, findClass_of_methodNamed B.named, atoms_spec (ws := wgX6_place) B.pre, hK, hA, B.notSynchronized, hE, vE⟩
  have hG : xG D cA aE ad A s σ s.heap [] := ⟨hP, hD, hS⟩
  have hl := lv_entry ([.ref (ad 4)]) (n := 1) (Nat.le_of_ble_eq_true rfl)
  rw [lg_entry_eq]
  generalize (lg_sl ([.ref (ad 4)]) ++ List.replicate (1 - (lg_sl ([.ref (ad 4)])).length) Slot.unset).toArray = ls at hl ⊢
  have hl : lv_has ls 1 [(0, .ref (ad 4))] := hl
  exact k_X6_place C vM σ _ _ _ hG hl hw
/-! ===== X6_value tokens ===== -/
def rm_X6_value : Room := { frames := 0, cells := 0, slots := 0, locals := 0 }
abbrev wgX6_value : List Cond := .code yX6_value cX6_value 1 (some .long) :: TB
def wB_X6_value_24 (post : Int64 → XS → Prop) (t0 : Int64) (σ : XS) : Prop :=
  post t0 σ
def wp_X6_value (post : Int64 → XS → Prop) (σ : XS) : Prop :=
  ((xI σ 4) ≤ (xI σ 5) → (wB_X6_value_24 post 0 σ)) ∧ (¬ (xI σ 4) ≤ (xI σ 5) → (vp_in (xI σ 5) 701 ∧ (wB_X6_value_24 post (xL σ 0 (xI σ 5).toNatClampNeg) σ)))
set_option maxHeartbeats 4000000 in
set_option maxRecDepth 100000 in
theorem kB_X6_value_24 {p : Program} {l : Launch} {e : Env} {s : State} {m : MethodId} {args : Array Value} {below : List Frame} {meth : Method} {c : Code} {A : Nat → Prop} {E : EnvT} {aK aV : Nat → Nat} {aO : Nat} {D : va_G} {cA : Nat → ClassId} {aE ad : Nat → Nat} (C : xCx p s m args meth c cX6_value 1 (some .long) wgX6_value RX6 E D cA A) (vM : eXs aK aV aE aO E) {post : Int64 → XS → Prop} :
    ∀ (t0 : Int64) (σ : XS) (H : Heap) (locs : List Loc) (ls : Array Slot), xG D cA aE ad A s σ H locs → lv_has ls 1 [] → wB_X6_value_24 post t0 σ → W p l e rm_X6_value s m args below meth c H locs 0 0 (MQ below (va_Ql post (xAt D cA aE ad A) A) args s 0 0 A) (F0 m 24 ls [.long t0]) := by
  obtain ⟨hx, hb, hml, hr, hown, hts, hK, hA, hlk, hE, vE⟩ := id C
  intro t0 σ H locs ls hG hl hw
  obtain ⟨hP, hD, hS⟩ := id hG
  exact W.lret (v := t0) hx hb hr (fun t ht hW => ⟨⟨_, σ, rfl, hw, by rw [ht]; exact hP, va_K.moved hW.alike hK, hD⟩, hS.F ht⟩) hS.2.2 dX6_value_24 hlk
set_option maxHeartbeats 4000000 in
set_option maxRecDepth 100000 in
theorem k_X6_value {p : Program} {l : Launch} {e : Env} {s : State} {m : MethodId} {args : Array Value} {below : List Frame} {meth : Method} {c : Code} {A : Nat → Prop} {E : EnvT} {aK aV : Nat → Nat} {aO : Nat} {D : va_G} {cA : Nat → ClassId} {aE ad : Nat → Nat} (C : xCx p s m args meth c cX6_value 1 (some .long) wgX6_value RX6 E D cA A) (vM : eXs aK aV aE aO E) {post : Int64 → XS → Prop} :
    ∀ (σ : XS) (H : Heap) (locs : List Loc) (ls : Array Slot), xG D cA aE ad A s σ H locs → lv_has ls 1 [(0, .ref (ad 4))] → wp_X6_value post σ → W p l e rm_X6_value s m args below meth c H locs 0 0 (MQ below (va_Ql post (xAt D cA aE ad A) A) args s 0 0 A) (F0 m 0 ls []) := by
  obtain ⟨hx, hb, hml, hr, hown, hts, hK, hA, hlk, hE, vE⟩ := id C
  intro σ H locs ls hG hl hw
  obtain ⟨hP, hD, hS⟩ := id hG
  refine lv_aload_n hx hb dX6_value_0 rfl (lv_at hl 0 rfl) ?_
  refine va_get (D := D) (ci := 8) (v := .int (xI σ 5)) (C := RX6) (T := TX6) (N := 6) hx hb hts (in_tb inX6) hown hK hP 4 rfl rfl 5 (by decide) (hts _ (List.mem_cons_of_mem _ tw_1_96)) (fun _ h9 => h9) rfl dX6_value_1 ?_
  refine lv_aload_n hx hb dX6_value_4 rfl (lv_at hl 0 rfl) ?_
  refine va_get (D := D) (ci := 8) (v := .int (xI σ 4)) (C := RX6) (T := TX6) (N := 6) hx hb hts (in_tb inX6) hown hK hP 4 rfl rfl 4 (by decide) (hts _ (List.mem_cons_of_mem _ tw_1_95)) (fun _ h9 => h9) rfl dX6_value_5 ?_
  refine lv_icmp_ge (tgt := 23) hx hb dX6_value_8 (by decide) (fun q_ => ?_) (fun q_ => ?_)
  · have hw := hw.1 q_
    refine lv_lconst (v := 0) hx hb dX6_value_23 (by decide) ?_
    exact kB_X6_value_24 C vM 0 σ _ _ _ hG (lv_sub hl [] rfl) hw
  · have hw := hw.2 q_
    refine lv_aload_n hx hb dX6_value_11 rfl (lv_at hl 0 rfl) ?_
    refine va_get (D := D) (ci := 8) (v := .ref (ad 7)) (C := RX6) (T := TX6) (N := 6) hx hb hts (in_tb inX6) hown hK hP 4 rfl rfl 3 (by decide) (hts _ (List.mem_cons_of_mem _ tw_1_94)) (fun _ h9 => h9) rfl dX6_value_12 ?_
    refine lv_aload_n hx hb dX6_value_15 rfl (lv_at hl 0 rfl) ?_
    refine va_get (D := D) (ci := 8) (v := .int (xI σ 5)) (C := RX6) (T := TX6) (N := 6) hx hb hts (in_tb inX6) hown hK hP 4 rfl rfl 5 (by decide) (hts _ (List.mem_cons_of_mem _ tw_1_96)) (fun _ h9 => h9) rfl dX6_value_16 ?_
    obtain ⟨h_1, hw⟩ := hw
    refine va_lald hx hb hK hP 7 1 rfl rfl h_1 dX6_value_19 ?_
    refine lv_goto (tgt := 24) hx hb dX6_value_20 (by decide) ?_
    exact kB_X6_value_24 C vM (xL σ 0 (xI σ 5).toNatClampNeg) σ _ _ _ hG (lv_sub hl [] rfl) hw
set_option maxHeartbeats 4000000 in
set_option maxRecDepth 100000 in
theorem met_X6_value {l : Launch} {E : EnvT} (vE : EnvOk E) {D : va_G} {cA : Nat → ClassId} {aE ad : Nat → Nat} {σ : XS} {aK aV : Nat → Nat} {aO : Nat} (vM : eXs aK aV aE aO E) {sz : Nat} {post : Int64 → XS → Prop} (hw : wp_X6_value post σ) : Met l yX6_value wgX6_value rm_X6_value (va_Pc [.ref (ad 4)] (xPre E D cA aE ad sz σ)) (va_Ql post (xAt D cA aE ad (va_A (xW cA aE ad σ) sz)) (va_A (xW cA aE ad σ) sz)) 0 0 (va_A (xW cA aE ad σ) sz) := by
  refine Met.ofW (cc := cX6_value) (maxL := 1) (ret := (some .long)) (by decide +kernel) rfl ?_
  intro p e s m args below meth c s₁ B hml hv
  obtain ⟨rfl, hsz, hP, hK, hD0, hE⟩ := hv
  subst hsz
  have hD := hD0.self (sz := s.heap.size)
  generalize hAe : va_A (xW cA aE ad σ) s.heap.size = A at hD hE ⊢
  have hA : ∀ q : Nat, s.heap.size ≤ q → A q := fun q h => by rw [← hAe]; exact Or.inr h
  have hS : va_S A s.heap s.heap [] := va_S.rf
  have C : xCx p s m _ meth c cX6_value 1 (some .long) wgX6_value RX6 E D cA A := ⟨B.exec, B.bytes, hml, B.returns, findClass_of_methodNamed B.named, atoms_spec (ws := wgX6_value) B.pre, hK, hA, B.notSynchronized, hE, vE⟩
  have hG : xG D cA aE ad A s σ s.heap [] := ⟨hP, hD, hS⟩
  have hl := lv_entry ([.ref (ad 4)]) (n := 1) (Nat.le_of_ble_eq_true rfl)
  rw [lg_entry_eq]
  generalize (lg_sl ([.ref (ad 4)]) ++ List.replicate (1 - (lg_sl ([.ref (ad 4)])).length) Slot.unset).toArray = ls at hl ⊢
  have hl : lv_has ls 1 [(0, .ref (ad 4))] := hl
  exact k_X6_value C vM σ _ _ _ hG hl hw
/-! ===== X6_index tokens ===== -/
def rm_X6_index : Room := { frames := 0, cells := 0, slots := 0, locals := 0 }
abbrev wgX6_index : List Cond := .code yX6_index cX6_index 1 (some .int) :: TB
def wp_X6_index (post : Int32 → XS → Prop) (σ : XS) : Prop :=
  post (xI σ 5) σ
set_option maxHeartbeats 4000000 in
set_option maxRecDepth 100000 in
theorem k_X6_index {p : Program} {l : Launch} {e : Env} {s : State} {m : MethodId} {args : Array Value} {below : List Frame} {meth : Method} {c : Code} {A : Nat → Prop} {E : EnvT} {aK aV : Nat → Nat} {aO : Nat} {D : va_G} {cA : Nat → ClassId} {aE ad : Nat → Nat} (C : xCx p s m args meth c cX6_index 1 (some .int) wgX6_index RX6 E D cA A) (vM : eXs aK aV aE aO E) {post : Int32 → XS → Prop} :
    ∀ (σ : XS) (H : Heap) (locs : List Loc) (ls : Array Slot), xG D cA aE ad A s σ H locs → lv_has ls 1 [(0, .ref (ad 4))] → wp_X6_index post σ → W p l e rm_X6_index s m args below meth c H locs 0 0 (MQ below (va_Qi post (xAt D cA aE ad A) A) args s 0 0 A) (F0 m 0 ls []) := by
  obtain ⟨hx, hb, hml, hr, hown, hts, hK, hA, hlk, hE, vE⟩ := id C
  intro σ H locs ls hG hl hw
  obtain ⟨hP, hD, hS⟩ := id hG
  refine lv_aload_n hx hb dX6_index_0 rfl (lv_at hl 0 rfl) ?_
  refine va_get (D := D) (ci := 8) (v := .int (xI σ 5)) (C := RX6) (T := TX6) (N := 6) hx hb hts (in_tb inX6) hown hK hP 4 rfl rfl 5 (by decide) (hts _ (List.mem_cons_of_mem _ tw_1_96)) (fun _ h9 => h9) rfl dX6_index_1 ?_
  exact W.iret (v := xI σ 5) hx hb hr (fun t ht hW => ⟨⟨_, σ, rfl, hw, by rw [ht]; exact hP, va_K.moved hW.alike hK, hD⟩, hS.F ht⟩) hS.2.2 dX6_index_4 hlk
set_option maxHeartbeats 4000000 in
set_option maxRecDepth 100000 in
theorem met_X6_index {l : Launch} {E : EnvT} (vE : EnvOk E) {D : va_G} {cA : Nat → ClassId} {aE ad : Nat → Nat} {σ : XS} {aK aV : Nat → Nat} {aO : Nat} (vM : eXs aK aV aE aO E) {sz : Nat} {post : Int32 → XS → Prop} (hw : wp_X6_index post σ) : Met l yX6_index wgX6_index rm_X6_index (va_Pc [.ref (ad 4)] (xPre E D cA aE ad sz σ)) (va_Qi post (xAt D cA aE ad (va_A (xW cA aE ad σ) sz)) (va_A (xW cA aE ad σ) sz)) 0 0 (va_A (xW cA aE ad σ) sz) := by
  refine Met.ofW (cc := cX6_index) (maxL := 1) (ret := (some .int)) (by decide +kernel) rfl ?_
  intro p e s m args below meth c s₁ B hml hv
  obtain ⟨rfl, hsz, hP, hK, hD0, hE⟩ := hv
  subst hsz
  have hD := hD0.self (sz := s.heap.size)
  generalize hAe : va_A (xW cA aE ad σ) s.heap.size = A at hD hE ⊢
  have hA : ∀ q : Nat, s.heap.size ≤ q → A q := fun q h => by rw [← hAe]; exact Or.inr h
  have hS : va_S A s.heap s.heap [] := va_S.rf
  have C : xCx p s m _ meth c cX6_index 1 (some .int) wgX6_index RX6 E D cA A := ⟨B.exec, B.bytes, hml, B.returns, findClass_of_methodNamed B.named, atoms_spec (ws := wgX6_index) B.pre, hK, hA, B.notSynchronized, hE, vE⟩
  have hG : xG D cA aE ad A s σ s.heap [] := ⟨hP, hD, hS⟩
  have hl := lv_entry ([.ref (ad 4)]) (n := 1) (Nat.le_of_ble_eq_true rfl)
  rw [lg_entry_eq]
  generalize (lg_sl ([.ref (ad 4)]) ++ List.replicate (1 - (lg_sl ([.ref (ad 4)])).length) Slot.unset).toArray = ls at hl ⊢
  have hl : lv_has ls 1 [(0, .ref (ad 4))] := hl
  exact k_X6_index C vM σ _ _ _ hG hl hw
/-! ===== X6_goTo tokens ===== -/
def rm_X6_goTo : Room := { frames := 1, cells := 0, slots := 0, locals := 21 }
abbrev wgX6_goTo : List Cond := .code yX6_goTo cX6_goTo 2 none :: TB
def wp_X6_goTo (post : XS → Prop) (x1 : Int32) (σ : XS) : Prop :=
  wp_J9_max_7cf53 (fun r_1  => post (yI σ 5 r_1)) x1 0
set_option maxHeartbeats 4000000 in
set_option maxRecDepth 100000 in
theorem k_X6_goTo {p : Program} {l : Launch} {e : Env} {s : State} {m : MethodId} {args : Array Value} {below : List Frame} {meth : Method} {c : Code} {A : Nat → Prop} {E : EnvT} {aK aV : Nat → Nat} {aO : Nat} {D : va_G} {cA : Nat → ClassId} {aE ad : Nat → Nat} (C : xCx p s m args meth c cX6_goTo 2 none wgX6_goTo RX6 E D cA A) (vM : eXs aK aV aE aO E) {post : XS → Prop} :
    ∀ (x1 : Int32) (σ : XS) (H : Heap) (locs : List Loc) (ls : Array Slot), xG D cA aE ad A s σ H locs → lv_has ls 2 [(0, .ref (ad 4)), (1, .int x1)] → wp_X6_goTo post x1 σ → W p l e rm_X6_goTo s m args below meth c H locs 0 0 (MQ below (va_Qv post (xAt D cA aE ad A) A) args s 0 0 A) (F0 m 0 ls []) := by
  obtain ⟨hx, hb, hml, hr, hown, hts, hK, hA, hlk, hE, vE⟩ := id C
  intro x1 σ H locs ls hG hl hw
  obtain ⟨hP, hD, hS⟩ := id hG
  refine lv_aload_n hx hb dX6_goTo_0 rfl (lv_at hl 0 rfl) ?_
  refine lv_iload_n hx hb dX6_goTo_1 rfl (lv_at hl 1 rfl) ?_
  refine lv_iconst (v := 0) hx hb dX6_goTo_2 (by decide) ?_
  refine xS_i (As := [.int x1, .int 0]) (rest := [.ref (ad 4)]) C (met_J9_max_7cf53 vE vM hw) (va_cwS 2 hts (TB_G (TB_3 tw_4_228 tw_2_149 tw_1_15) tw_2_150) rfl rfl rfl (by decide +kernel) ⟨by decide, by decide⟩) hP hD hS rfl hl.1 rfl (Nat.le_of_ble_eq_true rfl) dX6_goTo_3 ⟨by decide, by decide⟩ (fun r_1 H locs hw hP hS => ?_)
  have hG : xG D cA aE ad A s σ H locs := ⟨hP, hD, hS⟩
  refine va_put (D := D) (ci := 8) (v := .int r_1) (ty := .int) (C := RX6) (T := TX6) (N := 6) hx hb hts (in_tb inX6) tyX6 tyX6_ok nmX6 hown hK hP hD hS 4 rfl rfl 5 (by decide) (hts _ (List.mem_cons_of_mem _ tw_1_96)) (fun _ h9 => h9) rfl (by decide +kernel) rfl rfl (Nat.le_of_ble_eq_true rfl) dX6_goTo_6 (fun H locs hP hD hS => ?_)
  have hG : xG D cA aE ad A s (yI σ 5 r_1) H locs := ⟨hP, hD, hS⟩
  obtain ⟨hP, hD, hS⟩ := id hG
  exact W.vret hx hb hr (fun t ht hW => ⟨⟨(yI σ 5 r_1), rfl, hw, by rw [ht]; exact hP, va_K.moved hW.alike hK, hD⟩, hS.F ht⟩) hS.2.2 dX6_goTo_9 hlk
set_option maxHeartbeats 4000000 in
set_option maxRecDepth 100000 in
theorem met_X6_goTo {l : Launch} {E : EnvT} (vE : EnvOk E) {D : va_G} {cA : Nat → ClassId} {aE ad : Nat → Nat} {σ : XS} {aK aV : Nat → Nat} {aO : Nat} (vM : eXs aK aV aE aO E) {sz : Nat} {x1 : Int32} {post : XS → Prop} (hw : wp_X6_goTo post x1 σ) : Met l yX6_goTo wgX6_goTo rm_X6_goTo (va_Pc [.ref (ad 4), .int x1] (xPre E D cA aE ad sz σ)) (va_Qv post (xAt D cA aE ad (va_A (xW cA aE ad σ) sz)) (va_A (xW cA aE ad σ) sz)) 0 0 (va_A (xW cA aE ad σ) sz) := by
  refine Met.ofW (cc := cX6_goTo) (maxL := 2) (ret := none) (by decide +kernel) rfl ?_
  intro p e s m args below meth c s₁ B hml hv
  obtain ⟨rfl, hsz, hP, hK, hD0, hE⟩ := hv
  subst hsz
  have hD := hD0.self (sz := s.heap.size)
  generalize hAe : va_A (xW cA aE ad σ) s.heap.size = A at hD hE ⊢
  have hA : ∀ q : Nat, s.heap.size ≤ q → A q := fun q h => by rw [← hAe]; exact Or.inr h
  have hS : va_S A s.heap s.heap [] := va_S.rf
  have C : xCx p s m _ meth c cX6_goTo 2 none wgX6_goTo RX6 E D cA A := ⟨B.exec, B.bytes, hml, B.returns, findClass_of_methodNamed B.named, atoms_spec (ws := wgX6_goTo) B.pre, hK, hA, B.notSynchronized, hE, vE⟩
  have hG : xG D cA aE ad A s σ s.heap [] := ⟨hP, hD, hS⟩
  have hl := lv_entry ([.ref (ad 4), .int x1]) (n := 2) (Nat.le_of_ble_eq_true rfl)
  rw [lg_entry_eq]
  generalize (lg_sl ([.ref (ad 4), .int x1]) ++ List.replicate (2 - (lg_sl ([.ref (ad 4), .int x1])).length) Slot.unset).toArray = ls at hl ⊢
  have hl : lv_has ls 2 [(0, .ref (ad 4)), (1, .int x1)] := hl
  exact k_X6_goTo C vM x1 σ _ _ _ hG hl hw
/-! ===== X6_advance tokens ===== -/
def rm_X6_advance : Room := { frames := 0, cells := 0, slots := 0, locals := 0 }
abbrev wgX6_advance : List Cond := .code yX6_advance cX6_advance 1 none :: TB
def wp_X6_advance (post : XS → Prop) (σ : XS) : Prop :=
  post (yI σ 5 ((xI σ 5) + 1))
set_option maxHeartbeats 4000000 in
set_option maxRecDepth 100000 in
theorem k_X6_advance {p : Program} {l : Launch} {e : Env} {s : State} {m : MethodId} {args : Array Value} {below : List Frame} {meth : Method} {c : Code} {A : Nat → Prop} {E : EnvT} {aK aV : Nat → Nat} {aO : Nat} {D : va_G} {cA : Nat → ClassId} {aE ad : Nat → Nat} (C : xCx p s m args meth c cX6_advance 1 none wgX6_advance RX6 E D cA A) (vM : eXs aK aV aE aO E) {post : XS → Prop} :
    ∀ (σ : XS) (H : Heap) (locs : List Loc) (ls : Array Slot), xG D cA aE ad A s σ H locs → lv_has ls 1 [(0, .ref (ad 4))] → wp_X6_advance post σ → W p l e rm_X6_advance s m args below meth c H locs 0 0 (MQ below (va_Qv post (xAt D cA aE ad A) A) args s 0 0 A) (F0 m 0 ls []) := by
  obtain ⟨hx, hb, hml, hr, hown, hts, hK, hA, hlk, hE, vE⟩ := id C
  intro σ H locs ls hG hl hw
  obtain ⟨hP, hD, hS⟩ := id hG
  refine lv_aload_n hx hb dX6_advance_0 rfl (lv_at hl 0 rfl) ?_
  refine lv_dup hx hb dX6_advance_1 rfl ?_
  refine va_get (D := D) (ci := 8) (v := .int (xI σ 5)) (C := RX6) (T := TX6) (N := 6) hx hb hts (in_tb inX6) hown hK hP 4 rfl rfl 5 (by decide) (hts _ (List.mem_cons_of_mem _ tw_1_96)) (fun _ h9 => h9) rfl dX6_advance_2 ?_
  refine lv_iconst (v := 1) hx hb dX6_advance_5 (by decide) ?_
  refine lv_iadd hx hb dX6_advance_6 ?_
  refine va_put (D := D) (ci := 8) (v := .int ((xI σ 5) + 1)) (ty := .int) (C := RX6) (T := TX6) (N := 6) hx hb hts (in_tb inX6) tyX6 tyX6_ok nmX6 hown hK hP hD hS 4 rfl rfl 5 (by decide) (hts _ (List.mem_cons_of_mem _ tw_1_96)) (fun _ h9 => h9) rfl (by decide +kernel) rfl rfl (Nat.le_of_ble_eq_true rfl) dX6_advance_7 (fun H locs hP hD hS => ?_)
  have hG : xG D cA aE ad A s (yI σ 5 ((xI σ 5) + 1)) H locs := ⟨hP, hD, hS⟩
  obtain ⟨hP, hD, hS⟩ := id hG
  exact W.vret hx hb hr (fun t ht hW => ⟨⟨(yI σ 5 ((xI σ 5) + 1)), rfl, hw, by rw [ht]; exact hP, va_K.moved hW.alike hK, hD⟩, hS.F ht⟩) hS.2.2 dX6_advance_10 hlk
set_option maxHeartbeats 4000000 in
set_option maxRecDepth 100000 in
theorem met_X6_advance {l : Launch} {E : EnvT} (vE : EnvOk E) {D : va_G} {cA : Nat → ClassId} {aE ad : Nat → Nat} {σ : XS} {aK aV : Nat → Nat} {aO : Nat} (vM : eXs aK aV aE aO E) {sz : Nat} {post : XS → Prop} (hw : wp_X6_advance post σ) : Met l yX6_advance wgX6_advance rm_X6_advance (va_Pc [.ref (ad 4)] (xPre E D cA aE ad sz σ)) (va_Qv post (xAt D cA aE ad (va_A (xW cA aE ad σ) sz)) (va_A (xW cA aE ad σ) sz)) 0 0 (va_A (xW cA aE ad σ) sz) := by
  refine Met.ofW (cc := cX6_advance) (maxL := 1) (ret := none) (by decide +kernel) rfl ?_
  intro p e s m args below meth c s₁ B hml hv
  obtain ⟨rfl, hsz, hP, hK, hD0, hE⟩ := hv
  subst hsz
  have hD := hD0.self (sz := s.heap.size)
  generalize hAe : va_A (xW cA aE ad σ) s.heap.size = A at hD hE ⊢
  have hA : ∀ q : Nat, s.heap.size ≤ q → A q := fun q h => by rw [← hAe]; exact Or.inr h
  have hS : va_S A s.heap s.heap [] := va_S.rf
  have C : xCx p s m _ meth c cX6_advance 1 none wgX6_advance RX6 E D cA A := ⟨B.exec, B.bytes, hml, B.returns, findClass_of_methodNamed B.named, atoms_spec (ws := wgX6_advance) B.pre, hK, hA, B.notSynchronized, hE, vE⟩
  have hG : xG D cA aE ad A s σ s.heap [] := ⟨hP, hD, hS⟩
  have hl := lv_entry ([.ref (ad 4)]) (n := 1) (Nat.le_of_ble_eq_true rfl)
  rw [lg_entry_eq]
  generalize (lg_sl ([.ref (ad 4)]) ++ List.replicate (1 - (lg_sl ([.ref (ad 4)])).length) Slot.unset).toArray = ls at hl ⊢
  have hl : lv_has ls 1 [(0, .ref (ad 4))] := hl
  exact k_X6_advance C vM σ _ _ _ hG hl hw
/-! ===== X6_numberedKey  ===== -/
def rm_X6_numberedKey : Room := { frames := 0, cells := 0, slots := 0, locals := 0 }
abbrev wgX6_numberedKey : List Cond := .code yX6_numberedKey cX6_numberedKey 4 (some .long) :: TB
def wp_X6_numberedKey (post : Int64 → Prop) (x0 : Int32) (x1 : Int32) : Prop :=
  ∀ x2_1 : Int64, x2_1 = (48 + (x1 - x1 / 10 * 10)).toInt64 → (10 ≤ x1 → (post ((((x0.toInt64) <<< ((16 : Int32).toInt64 &&& 63)) ||| (((48 + (x1 / 10)).toInt64) <<< ((8 : Int32).toInt64 &&& 63))) ||| x2_1))) ∧ (¬ 10 ≤ x1 → (post (((x0.toInt64) <<< ((8 : Int32).toInt64 &&& 63)) ||| x2_1)))
set_option maxHeartbeats 4000000 in
set_option maxRecDepth 100000 in
theorem k_X6_numberedKey {p : Program} {l : Launch} {e : Env} {s : State} {m : MethodId} {args : Array Value} {below : List Frame} {meth : Method} {c : Code} {A : Nat → Prop} {E : EnvT} {aK aV aE : Nat → Nat} {aO : Nat} (C : sCx p s m args meth c cX6_numberedKey 4 (some .long) wgX6_numberedKey RX6 E A) (vM : eXs aK aV aE aO E) {post : Int64 → Prop} :
    ∀ (x0 : Int32) (x1 : Int32) (H : Heap) (locs : List Loc) (ls : Array Slot), va_S A s.heap H locs → lv_has ls 4 [(0, .int x0), (1, .int x1)] → wp_X6_numberedKey post x0 x1 → W p l e rm_X6_numberedKey s m args below meth c H locs 0 0 (MQ below (va_Ql (S := Unit) (fun r _ => post r) (fun _ _ => True) A) args s 0 0 A) (F0 m 0 ls []) := by
  obtain ⟨hx, hb, hml, hr, hown, hts, hA, hlk, hE, vE⟩ := id C
  intro x0 x1 H locs ls hG hl hw
  have hS := hG
  refine lv_bipush (v := 48) hx hb dX6_numberedKey_0 (by decide) ?_
  refine lv_iload_n hx hb dX6_numberedKey_2 rfl (lv_at hl 1 rfl) ?_
  refine lv_bipush (v := 10) hx hb dX6_numberedKey_3 (by decide) ?_
  refine lv_irem hx hb dX6_numberedKey_5 (by decide) ?_
  refine lv_iadd hx hb dX6_numberedKey_6 ?_
  refine lv_i2l hx hb dX6_numberedKey_7 rfl ?_
  refine lv_topl (fun x2_1 ex2_1 => ?_)
  have hw := hw x2_1 ex2_1
  refine lv_lstore_n (lv' := [(2, .long x2_1), (0, .int x0), (1, .int x1)]) hx hb dX6_numberedKey_8 rfl hl (by decide) rfl (fun ls hl => ?_)
  refine lv_iload_n hx hb dX6_numberedKey_9 rfl (lv_at hl 2 rfl) ?_
  refine lv_bipush (v := 10) hx hb dX6_numberedKey_10 (by decide) ?_
  refine lv_icmp_ge (tgt := 23) hx hb dX6_numberedKey_12 (by decide) (fun q_ => ?_) (fun q_ => ?_)
  · have hw := hw.1 q_
    refine lv_iload_n hx hb dX6_numberedKey_23 rfl (lv_at hl 1 rfl) ?_
    refine lv_i2l hx hb dX6_numberedKey_24 rfl ?_
    refine lv_bipush (v := 16) hx hb dX6_numberedKey_25 (by decide) ?_
    refine lv_lshl hx hb dX6_numberedKey_27 rfl ?_
    refine lv_bipush (v := 48) hx hb dX6_numberedKey_28 (by decide) ?_
    refine lv_iload_n hx hb dX6_numberedKey_30 rfl (lv_at hl 2 rfl) ?_
    refine lv_bipush (v := 10) hx hb dX6_numberedKey_31 (by decide) ?_
    refine lv_idiv hx hb dX6_numberedKey_33 (by decide) ?_
    refine lv_iadd hx hb dX6_numberedKey_34 ?_
    refine lv_i2l hx hb dX6_numberedKey_35 rfl ?_
    refine lv_bipush (v := 8) hx hb dX6_numberedKey_36 (by decide) ?_
    refine lv_lshl hx hb dX6_numberedKey_38 rfl ?_
    refine lv_lor hx hb dX6_numberedKey_39 ?_
    refine lv_lload_n hx hb dX6_numberedKey_40 rfl (lv_at hl 0 rfl) ?_
    refine lv_lor hx hb dX6_numberedKey_41 ?_
    exact W.lret (v := (((x0.toInt64) <<< ((16 : Int32).toInt64 &&& 63)) ||| (((48 + (x1 / 10)).toInt64) <<< ((8 : Int32).toInt64 &&& 63))) ||| x2_1) hx hb hr (fun t ht hW => ⟨⟨_, (), rfl, hw, trivial⟩, hS.F ht⟩) hS.2.2 dX6_numberedKey_42 hlk
  · have hw := hw.2 q_
    refine lv_iload_n hx hb dX6_numberedKey_15 rfl (lv_at hl 1 rfl) ?_
    refine lv_i2l hx hb dX6_numberedKey_16 rfl ?_
    refine lv_bipush (v := 8) hx hb dX6_numberedKey_17 (by decide) ?_
    refine lv_lshl hx hb dX6_numberedKey_19 rfl ?_
    refine lv_lload_n hx hb dX6_numberedKey_20 rfl (lv_at hl 0 rfl) ?_
    refine lv_lor hx hb dX6_numberedKey_21 ?_
    exact W.lret (v := ((x0.toInt64) <<< ((8 : Int32).toInt64 &&& 63)) ||| x2_1) hx hb hr (fun t ht hW => ⟨⟨_, (), rfl, hw, trivial⟩, hS.F ht⟩) hS.2.2 dX6_numberedKey_22 hlk
set_option maxHeartbeats 4000000 in
set_option maxRecDepth 100000 in
theorem met_X6_numberedKey {l : Launch} {E : EnvT} (vE : EnvOk E) {aK aV aE : Nat → Nat} {aO : Nat} (vM : eXs aK aV aE aO E) {sz : Nat} {x0 : Int32} {x1 : Int32} {post : Int64 → Prop} (hw : wp_X6_numberedKey post x0 x1) : Met l yX6_numberedKey wgX6_numberedKey rm_X6_numberedKey (va_Pc [.int x0, .int x1] (sPre E sz)) (va_Ql (S := Unit) (fun r _ => post r) (fun _ _ => True) (va_A [] sz)) 0 0 (va_A [] sz) := by
  refine Met.ofW (cc := cX6_numberedKey) (maxL := 4) (ret := (some .long)) (by decide +kernel) rfl ?_
  intro p e s m args below meth c s₁ B hml hv
  obtain ⟨rfl, hsz, hE⟩ := hv
  subst hsz
  generalize hAe : va_A [] s.heap.size = A at hE ⊢
  have hA : ∀ q : Nat, s.heap.size ≤ q → A q := fun q h => by rw [← hAe]; exact Or.inr h
  have hS : va_S A s.heap s.heap [] := va_S.rf
  have C : sCx p s m _ meth c cX6_numberedKey 4 (some .long) wgX6_numberedKey RX6 E A := ⟨B.exec, B.bytes, hml, B.returns, findClass_of_methodNamed B.named, atoms_spec (ws := wgX6_numberedKey) B.pre, hA, B.notSynchronized, hE, vE⟩
  have hG := hS
  have hl := lv_entry ([.int x0, .int x1]) (n := 4) (Nat.le_of_ble_eq_true rfl)
  rw [lg_entry_eq]
  generalize (lg_sl ([.int x0, .int x1]) ++ List.replicate (4 - (lg_sl ([.int x0, .int x1])).length) Slot.unset).toArray = ls at hl ⊢
  have hl : lv_has ls 4 [(0, .int x0), (1, .int x1)] := hl
  exact k_X6_numberedKey C vM x0 x1 _ _ _ hG hl hw
/-! ===== X6_numbered tokens ===== -/
def rm_X6_numbered : Room := { frames := 1, cells := 0, slots := 0, locals := 23 }
abbrev wgX6_numbered : List Cond := .code yX6_numbered cX6_numbered 4 (some .int) :: TB
def wB_X6_numbered_12 (post : Int32 → XS → Prop) (k12 : Int32 → Int32 → Int32 → XS → Prop) (x1 : Int32) (x2 : Int32) (x3 : Int32) (σ : XS) : Prop :=
  (x2 < x3 → (post (-1) σ)) ∧ (¬ x2 < x3 → (wp_X6_value (fun r_3 σ_4 => wp_X6_numberedKey (fun r_5  => (r_3 = r_5 → (post x3 σ_4)) ∧ (¬ r_3 = r_5 → (∀ x3_7 : Int32, x3_7 = x3 + 1 → k12 x1 x2 x3_7 σ_4))) x1 x3) σ))
def wL_X6_numbered_12 (post : Int32 → XS → Prop) : Nat → Int32 → Int32 → Int32 → XS → Prop
  | 0 => fun _ _ _ _ => False
  | n + 1 => wB_X6_numbered_12 post (wL_X6_numbered_12 post n)
def wp_X6_numbered (post : Int32 → XS → Prop) (x1 : Int32) (x2 : Int32) (σ : XS) : Prop :=
  wp_X6_kind (fun r_1 σ_2 => (r_1 = 1 → (∃ n, wL_X6_numbered_12 post n x1 x2 0 σ_2)) ∧ (¬ r_1 = 1 → (post (-1) σ_2))) σ
set_option maxHeartbeats 4000000 in
set_option maxRecDepth 100000 in
theorem kB_X6_numbered_12 {p : Program} {l : Launch} {e : Env} {s : State} {m : MethodId} {args : Array Value} {below : List Frame} {meth : Method} {c : Code} {A : Nat → Prop} {E : EnvT} {aK aV : Nat → Nat} {aO : Nat} {D : va_G} {cA : Nat → ClassId} {aE ad : Nat → Nat} (C : xCx p s m args meth c cX6_numbered 4 (some .int) wgX6_numbered RX6 E D cA A) (vM : eXs aK aV aE aO E) {post : Int32 → XS → Prop}
    {k12 : Int32 → Int32 → Int32 → XS → Prop} (hk12 : ∀ (x1 : Int32) (x2 : Int32) (x3 : Int32) (σ : XS) (H : Heap) (locs : List Loc) (ls : Array Slot), xG D cA aE ad A s σ H locs → lv_has ls 4 [(0, .ref (ad 4)), (1, .int x1), (2, .int x2), (3, .int x3)] → k12 x1 x2 x3 σ → W p l e rm_X6_numbered s m args below meth c H locs 0 0 (MQ below (va_Qi post (xAt D cA aE ad A) A) args s 0 0 A) (F0 m 12 ls [])) :
    ∀ (x1 : Int32) (x2 : Int32) (x3 : Int32) (σ : XS) (H : Heap) (locs : List Loc) (ls : Array Slot), xG D cA aE ad A s σ H locs → lv_has ls 4 [(0, .ref (ad 4)), (1, .int x1), (2, .int x2), (3, .int x3)] → wB_X6_numbered_12 post k12 x1 x2 x3 σ → W p l e rm_X6_numbered s m args below meth c H locs 0 0 (MQ below (va_Qi post (xAt D cA aE ad A) A) args s 0 0 A) (F0 m 12 ls []) := by
  obtain ⟨hx, hb, hml, hr, hown, hts, hK, hA, hlk, hE, vE⟩ := id C
  intro x1 x2 x3 σ H locs ls hG hl hw
  obtain ⟨hP, hD, hS⟩ := id hG
  refine lv_iload_n hx hb dX6_numbered_12 rfl (lv_at hl 3 rfl) ?_
  refine lv_iload_n hx hb dX6_numbered_13 rfl (lv_at hl 2 rfl) ?_
  refine lv_icmp_gt (tgt := 38) hx hb dX6_numbered_14 (by decide) (fun q_ => ?_) (fun q_ => ?_)
  · have hw := hw.1 q_
    refine lv_iconst (v := (-1)) hx hb dX6_numbered_38 (by decide) ?_
    exact W.iret (v := (-1)) hx hb hr (fun t ht hW => ⟨⟨_, σ, rfl, hw, by rw [ht]; exact hP, va_K.moved hW.alike hK, hD⟩, hS.F ht⟩) hS.2.2 dX6_numbered_39 hlk
  · have hw := hw.2 q_
    refine lv_aload_n hx hb dX6_numbered_17 rfl (lv_at hl 0 rfl) ?_
    refine xV_l (As := []) (rest := []) C (met_X6_value vE vM hw) (va_recv hK hP (ci := 8) (q0 := 4) rfl rfl) (cwV 0 hts (TB_G (TB_4 tw_5_25 tw_4_197 tw_4_198 tw_1_5) tw_4_199) rfl rfl rfl (by decide +kernel) ⟨by decide, by decide⟩) hP hD hS rfl hl.1 rfl (Nat.le_of_ble_eq_true rfl) dX6_numbered_18 ⟨by decide, by decide⟩ (fun r_3 σ_4 H locs hw hP hD hS => ?_)
    have hG : xG D cA aE ad A s σ_4 H locs := ⟨hP, hD, hS⟩
    refine lv_iload_n hx hb dX6_numbered_21 rfl (lv_at hl 1 rfl) ?_
    refine lv_iload_n hx hb dX6_numbered_22 rfl (lv_at hl 3 rfl) ?_
    refine xS_l (As := [.int x1, .int x3]) (rest := [.long r_3]) C (met_X6_numberedKey vE vM hw) (va_cwS 2 hts (TB_G (TB_3 tw_5_26 tw_5_27 tw_1_5) tw_5_28) rfl rfl rfl (by decide +kernel) ⟨by decide, by decide⟩) hP hD hS rfl hl.1 rfl (Nat.le_of_ble_eq_true rfl) dX6_numbered_23 ⟨by decide, by decide⟩ (fun r_5 H locs hw hP hS => ?_)
    have hG : xG D cA aE ad A s σ_4 H locs := ⟨hP, hD, hS⟩
    refine W.lcmp hx hb dX6_numbered_26 ?_
    refine lv_if_ne (tgt := 32) hx hb dX6_numbered_27 (by decide) (fun q_ => ?_) (fun q_ => ?_)
    · have hw := hw.2 (fun z => q_ (lc_eq.mpr z))
      obtain ⟨x3_7, ex3_7⟩ : ∃ y : Int32, y = x3 + 1 := ⟨_, rfl⟩
      have hw := hw x3_7 ex3_7
      refine lv_iinc (v := x3_7) (lv' := [(3, .int x3_7), (0, .ref (ad 4)), (1, .int x1), (2, .int x2)]) hx hb dX6_numbered_32 hl (k := 3) rfl (by rw [ex3_7]; rfl) (by decide) rfl (fun ls hl => ?_)
      refine lv_goto (tgt := 12) hx hb dX6_numbered_35 (by decide) ?_
      exact hk12 x1 x2 x3_7 σ_4 _ _ _ hG (lv_sub hl [1, 2, 3, 0] rfl) hw
    · have hw := hw.1 (lc_eq.mp q_)
      refine lv_iload_n hx hb dX6_numbered_30 rfl (lv_at hl 3 rfl) ?_
      exact W.iret (v := x3) hx hb hr (fun t ht hW => ⟨⟨_, σ_4, rfl, hw, by rw [ht]; exact hP, va_K.moved hW.alike hK, hD⟩, hS.F ht⟩) hS.2.2 dX6_numbered_31 hlk
theorem kL_X6_numbered_12 {p : Program} {l : Launch} {e : Env} {s : State} {m : MethodId} {args : Array Value} {below : List Frame} {meth : Method} {c : Code} {A : Nat → Prop} {E : EnvT} {aK aV : Nat → Nat} {aO : Nat} {D : va_G} {cA : Nat → ClassId} {aE ad : Nat → Nat} (C : xCx p s m args meth c cX6_numbered 4 (some .int) wgX6_numbered RX6 E D cA A) (vM : eXs aK aV aE aO E) {post : Int32 → XS → Prop} :
    ∀ (n : Nat) (x1 : Int32) (x2 : Int32) (x3 : Int32) (σ : XS) (H : Heap) (locs : List Loc) (ls : Array Slot), xG D cA aE ad A s σ H locs → lv_has ls 4 [(0, .ref (ad 4)), (1, .int x1), (2, .int x2), (3, .int x3)] → wL_X6_numbered_12 post n x1 x2 x3 σ → W p l e rm_X6_numbered s m args below meth c H locs 0 0 (MQ below (va_Qi post (xAt D cA aE ad A) A) args s 0 0 A) (F0 m 12 ls []) := by
  intro n
  induction n with
  | zero => intro x1 x2 x3 σ H locs ls hG hl hw; exact hw.elim
  | succ n ih => exact kB_X6_numbered_12 C vM ih
set_option maxHeartbeats 4000000 in
set_option maxRecDepth 100000 in
theorem k_X6_numbered {p : Program} {l : Launch} {e : Env} {s : State} {m : MethodId} {args : Array Value} {below : List Frame} {meth : Method} {c : Code} {A : Nat → Prop} {E : EnvT} {aK aV : Nat → Nat} {aO : Nat} {D : va_G} {cA : Nat → ClassId} {aE ad : Nat → Nat} (C : xCx p s m args meth c cX6_numbered 4 (some .int) wgX6_numbered RX6 E D cA A) (vM : eXs aK aV aE aO E) {post : Int32 → XS → Prop} :
    ∀ (x1 : Int32) (x2 : Int32) (σ : XS) (H : Heap) (locs : List Loc) (ls : Array Slot), xG D cA aE ad A s σ H locs → lv_has ls 4 [(0, .ref (ad 4)), (1, .int x1), (2, .int x2)] → wp_X6_numbered post x1 x2 σ → W p l e rm_X6_numbered s m args below meth c H locs 0 0 (MQ below (va_Qi post (xAt D cA aE ad A) A) args s 0 0 A) (F0 m 0 ls []) := by
  obtain ⟨hx, hb, hml, hr, hown, hts, hK, hA, hlk, hE, vE⟩ := id C
  intro x1 x2 σ H locs ls hG hl hw
  obtain ⟨hP, hD, hS⟩ := id hG
  refine lv_aload_n hx hb dX6_numbered_0 rfl (lv_at hl 0 rfl) ?_
  refine xV_i (As := []) (rest := []) C (met_X6_kind vE vM hw) (va_recv hK hP (ci := 8) (q0 := 4) rfl rfl) (cwV 0 hts (TB_G (TB_4 tw_5_24 tw_4_181 tw_4_182 tw_1_5) tw_4_183) rfl rfl rfl (by decide +kernel) ⟨by decide, by decide⟩) hP hD hS rfl hl.1 rfl (Nat.le_of_ble_eq_true rfl) dX6_numbered_1 ⟨by decide, by decide⟩ (fun r_1 σ_2 H locs hw hP hD hS => ?_)
  have hG : xG D cA aE ad A s σ_2 H locs := ⟨hP, hD, hS⟩
  refine lv_iconst (v := 1) hx hb dX6_numbered_4 (by decide) ?_
  refine lv_icmp_eq (tgt := 10) hx hb dX6_numbered_5 (by decide) (fun q_ => ?_) (fun q_ => ?_)
  · have hw := hw.1 q_
    refine lv_iconst (v := 0) hx hb dX6_numbered_10 (by decide) ?_
    refine lv_istore_n (lv' := [(3, .int 0), (0, .ref (ad 4)), (1, .int x1), (2, .int x2)]) hx hb dX6_numbered_11 rfl hl (by decide) rfl (fun ls hl => ?_)
    obtain ⟨n_, hw⟩ := hw
    exact kL_X6_numbered_12 C vM n_ x1 x2 0 σ_2 _ _ _ hG (lv_sub hl [1, 2, 3, 0] rfl) hw
  · have hw := hw.2 q_
    refine lv_iconst (v := (-1)) hx hb dX6_numbered_8 (by decide) ?_
    exact W.iret (v := (-1)) hx hb hr (fun t ht hW => ⟨⟨_, σ_2, rfl, hw, by rw [ht]; exact hP, va_K.moved hW.alike hK, hD⟩, hS.F ht⟩) hS.2.2 dX6_numbered_9 hlk
set_option maxHeartbeats 4000000 in
set_option maxRecDepth 100000 in
theorem met_X6_numbered {l : Launch} {E : EnvT} (vE : EnvOk E) {D : va_G} {cA : Nat → ClassId} {aE ad : Nat → Nat} {σ : XS} {aK aV : Nat → Nat} {aO : Nat} (vM : eXs aK aV aE aO E) {sz : Nat} {x1 : Int32} {x2 : Int32} {post : Int32 → XS → Prop} (hw : wp_X6_numbered post x1 x2 σ) : Met l yX6_numbered wgX6_numbered rm_X6_numbered (va_Pc [.ref (ad 4), .int x1, .int x2] (xPre E D cA aE ad sz σ)) (va_Qi post (xAt D cA aE ad (va_A (xW cA aE ad σ) sz)) (va_A (xW cA aE ad σ) sz)) 0 0 (va_A (xW cA aE ad σ) sz) := by
  refine Met.ofW (cc := cX6_numbered) (maxL := 4) (ret := (some .int)) (by decide +kernel) rfl ?_
  intro p e s m args below meth c s₁ B hml hv
  obtain ⟨rfl, hsz, hP, hK, hD0, hE⟩ := hv
  subst hsz
  have hD := hD0.self (sz := s.heap.size)
  generalize hAe : va_A (xW cA aE ad σ) s.heap.size = A at hD hE ⊢
  have hA : ∀ q : Nat, s.heap.size ≤ q → A q := fun q h => by rw [← hAe]; exact Or.inr h
  have hS : va_S A s.heap s.heap [] := va_S.rf
  have C : xCx p s m _ meth c cX6_numbered 4 (some .int) wgX6_numbered RX6 E D cA A := ⟨B.exec, B.bytes, hml, B.returns, findClass_of_methodNamed B.named, atoms_spec (ws := wgX6_numbered) B.pre, hK, hA, B.notSynchronized, hE, vE⟩
  have hG : xG D cA aE ad A s σ s.heap [] := ⟨hP, hD, hS⟩
  have hl := lv_entry ([.ref (ad 4), .int x1, .int x2]) (n := 4) (Nat.le_of_ble_eq_true rfl)
  rw [lg_entry_eq]
  generalize (lg_sl ([.ref (ad 4), .int x1, .int x2]) ++ List.replicate (4 - (lg_sl ([.ref (ad 4), .int x1, .int x2])).length) Slot.unset).toArray = ls at hl ⊢
  have hl : lv_has ls 4 [(0, .ref (ad 4)), (1, .int x1), (2, .int x2)] := hl
  exact k_X6_numbered C vM x1 x2 σ _ _ _ hG hl hw
/-! ===== X1_find told ===== -/
def rm_X1_find_told : Room := { frames := 0, cells := 0, slots := 0, locals := 0 }
abbrev wgX1_find : List Cond := .code yX1_find cX1_find 4 (some .int) :: TB
def wB_X1_find_told_2 (post : Int32 → XS → Prop) (k2 : Int64 → Int32 → XS → Prop) (x1 : Int64) (x3 : Int32) (σ : XS) : Prop :=
  ((xI σ 6) ≤ x3 → (post (-1) σ)) ∧ (¬ (xI σ 6) ≤ x3 → (vp_in x3 350 ∧ (((xL σ 1 x3.toNatClampNeg) = x1 → (post x3 σ)) ∧ (¬ (xL σ 1 x3.toNatClampNeg) = x1 → (∀ x3_2 : Int32, x3_2 = x3 + 1 → k2 x1 x3_2 σ)))))
def wL_X1_find_told_2 (post : Int32 → XS → Prop) : Nat → Int64 → Int32 → XS → Prop
  | 0 => fun _ _ _ => False
  | n + 1 => wB_X1_find_told_2 post (wL_X1_find_told_2 post n)
def wp_X1_find_told (post : Int32 → XS → Prop) (x1 : Int64) (σ : XS) : Prop :=
  ∃ n, wL_X1_find_told_2 post n x1 0 σ
set_option maxHeartbeats 4000000 in
set_option maxRecDepth 100000 in
theorem kB_X1_find_told_2 {p : Program} {l : Launch} {e : Env} {s : State} {m : MethodId} {args : Array Value} {below : List Frame} {meth : Method} {c : Code} {A : Nat → Prop} {E : EnvT} {aK aV : Nat → Nat} {aO : Nat} {D : va_G} {cA : Nat → ClassId} {aE ad : Nat → Nat} (C : xCx p s m args meth c cX1_find 4 (some .int) wgX1_find RX1 E D cA A) (vM : eXs aK aV aE aO E) {post : Int32 → XS → Prop}
    {k2 : Int64 → Int32 → XS → Prop} (hk2 : ∀ (x1 : Int64) (x3 : Int32) (σ : XS) (H : Heap) (locs : List Loc) (ls : Array Slot), xG D cA aE ad A s σ H locs → lv_has ls 4 [(0, .ref (ad 10)), (1, .long x1), (3, .int x3)] → k2 x1 x3 σ → W p l e rm_X1_find_told s m args below meth c H locs 0 0 (MQ below (va_Qi post (xAt D cA aE ad A) A) args s 0 0 A) (F0 m 2 ls [])) :
    ∀ (x1 : Int64) (x3 : Int32) (σ : XS) (H : Heap) (locs : List Loc) (ls : Array Slot), xG D cA aE ad A s σ H locs → lv_has ls 4 [(0, .ref (ad 10)), (1, .long x1), (3, .int x3)] → wB_X1_find_told_2 post k2 x1 x3 σ → W p l e rm_X1_find_told s m args below meth c H locs 0 0 (MQ below (va_Qi post (xAt D cA aE ad A) A) args s 0 0 A) (F0 m 2 ls []) := by
  obtain ⟨hx, hb, hml, hr, hown, hts, hK, hA, hlk, hE, vE⟩ := id C
  intro x1 x3 σ H locs ls hG hl hw
  obtain ⟨hP, hD, hS⟩ := id hG
  refine lv_iload_n hx hb dX1_find_2 rfl (lv_at hl 2 rfl) ?_
  refine lv_aload_n hx hb dX1_find_3 rfl (lv_at hl 0 rfl) ?_
  refine va_get (D := D) (ci := 3) (v := .int (xI σ 6)) (C := RX1) (T := TX1) (N := 3) hx hb hts (in_tb inX1) hown hK hP 10 rfl rfl 2 (by decide) (hts _ (List.mem_cons_of_mem _ tw_1_73)) (fun _ h9 => h9) rfl dX1_find_4 ?_
  refine lv_icmp_ge (tgt := 29) hx hb dX1_find_7 (by decide) (fun q_ => ?_) (fun q_ => ?_)
  · have hw := hw.1 q_
    refine lv_iconst (v := (-1)) hx hb dX1_find_29 (by decide) ?_
    exact W.iret (v := (-1)) hx hb hr (fun t ht hW => ⟨⟨_, σ, rfl, hw, by rw [ht]; exact hP, va_K.moved hW.alike hK, hD⟩, hS.F ht⟩) hS.2.2 dX1_find_30 hlk
  · have hw := hw.2 q_
    refine lv_aload_n hx hb dX1_find_10 rfl (lv_at hl 0 rfl) ?_
    refine va_get (D := D) (ci := 3) (v := .ref (ad 11)) (C := RX1) (T := TX1) (N := 3) hx hb hts (in_tb inX1) hown hK hP 10 rfl rfl 0 (by decide) (hts _ (List.mem_cons_of_mem _ tw_1_69)) (fun _ h9 => h9) rfl dX1_find_11 ?_
    refine lv_iload_n hx hb dX1_find_14 rfl (lv_at hl 2 rfl) ?_
    obtain ⟨h_1, hw⟩ := hw
    refine va_lald hx hb hK hP 11 1 rfl rfl h_1 dX1_find_15 ?_
    refine lv_lload_n hx hb dX1_find_16 rfl (lv_at hl 1 rfl) ?_
    refine W.lcmp hx hb dX1_find_17 ?_
    refine lv_if_ne (tgt := 23) hx hb dX1_find_18 (by decide) (fun q_ => ?_) (fun q_ => ?_)
    · have hw := hw.2 (fun z => q_ (lc_eq.mpr z))
      obtain ⟨x3_2, ex3_2⟩ : ∃ y : Int32, y = x3 + 1 := ⟨_, rfl⟩
      have hw := hw x3_2 ex3_2
      refine lv_iinc (v := x3_2) (lv' := [(3, .int x3_2), (0, .ref (ad 10)), (1, .long x1)]) hx hb dX1_find_23 hl (k := 2) rfl (by rw [ex3_2]; rfl) (by decide) rfl (fun ls hl => ?_)
      refine lv_goto (tgt := 2) hx hb dX1_find_26 (by decide) ?_
      exact hk2 x1 x3_2 σ _ _ _ hG (lv_sub hl [1, 2, 0] rfl) hw
    · have hw := hw.1 (lc_eq.mp q_)
      refine lv_iload_n hx hb dX1_find_21 rfl (lv_at hl 2 rfl) ?_
      exact W.iret (v := x3) hx hb hr (fun t ht hW => ⟨⟨_, σ, rfl, hw, by rw [ht]; exact hP, va_K.moved hW.alike hK, hD⟩, hS.F ht⟩) hS.2.2 dX1_find_22 hlk
theorem kL_X1_find_told_2 {p : Program} {l : Launch} {e : Env} {s : State} {m : MethodId} {args : Array Value} {below : List Frame} {meth : Method} {c : Code} {A : Nat → Prop} {E : EnvT} {aK aV : Nat → Nat} {aO : Nat} {D : va_G} {cA : Nat → ClassId} {aE ad : Nat → Nat} (C : xCx p s m args meth c cX1_find 4 (some .int) wgX1_find RX1 E D cA A) (vM : eXs aK aV aE aO E) {post : Int32 → XS → Prop} :
    ∀ (n : Nat) (x1 : Int64) (x3 : Int32) (σ : XS) (H : Heap) (locs : List Loc) (ls : Array Slot), xG D cA aE ad A s σ H locs → lv_has ls 4 [(0, .ref (ad 10)), (1, .long x1), (3, .int x3)] → wL_X1_find_told_2 post n x1 x3 σ → W p l e rm_X1_find_told s m args below meth c H locs 0 0 (MQ below (va_Qi post (xAt D cA aE ad A) A) args s 0 0 A) (F0 m 2 ls []) := by
  intro n
  induction n with
  | zero => intro x1 x3 σ H locs ls hG hl hw; exact hw.elim
  | succ n ih => exact kB_X1_find_told_2 C vM ih
set_option maxHeartbeats 4000000 in
set_option maxRecDepth 100000 in
theorem k_X1_find_told {p : Program} {l : Launch} {e : Env} {s : State} {m : MethodId} {args : Array Value} {below : List Frame} {meth : Method} {c : Code} {A : Nat → Prop} {E : EnvT} {aK aV : Nat → Nat} {aO : Nat} {D : va_G} {cA : Nat → ClassId} {aE ad : Nat → Nat} (C : xCx p s m args meth c cX1_find 4 (some .int) wgX1_find RX1 E D cA A) (vM : eXs aK aV aE aO E) {post : Int32 → XS → Prop} :
    ∀ (x1 : Int64) (σ : XS) (H : Heap) (locs : List Loc) (ls : Array Slot), xG D cA aE ad A s σ H locs → lv_has ls 4 [(0, .ref (ad 10)), (1, .long x1)] → wp_X1_find_told post x1 σ → W p l e rm_X1_find_told s m args below meth c H locs 0 0 (MQ below (va_Qi post (xAt D cA aE ad A) A) args s 0 0 A) (F0 m 0 ls []) := by
  obtain ⟨hx, hb, hml, hr, hown, hts, hK, hA, hlk, hE, vE⟩ := id C
  intro x1 σ H locs ls hG hl hw
  obtain ⟨hP, hD, hS⟩ := id hG
  refine lv_iconst (v := 0) hx hb dX1_find_0 (by decide) ?_
  refine lv_istore_n (lv' := [(3, .int 0), (0, .ref (ad 10)), (1, .long x1)]) hx hb dX1_find_1 rfl hl (by decide) rfl (fun ls hl => ?_)
  obtain ⟨n_, hw⟩ := hw
  exact kL_X1_find_told_2 C vM n_ x1 0 σ _ _ _ hG (lv_sub hl [1, 2, 0] rfl) hw
set_option maxHeartbeats 4000000 in
set_option maxRecDepth 100000 in
theorem met_X1_find_told {l : Launch} {E : EnvT} (vE : EnvOk E) {D : va_G} {cA : Nat → ClassId} {aE ad : Nat → Nat} {σ : XS} {aK aV : Nat → Nat} {aO : Nat} (vM : eXs aK aV aE aO E) {sz : Nat} {x1 : Int64} {post : Int32 → XS → Prop} (hw : wp_X1_find_told post x1 σ) : Met l yX1_find wgX1_find rm_X1_find_told (va_Pc [.ref (ad 10), .long x1] (xPre E D cA aE ad sz σ)) (va_Qi post (xAt D cA aE ad (va_A (xW cA aE ad σ) sz)) (va_A (xW cA aE ad σ) sz)) 0 0 (va_A (xW cA aE ad σ) sz) := by
  refine Met.ofW (cc := cX1_find) (maxL := 4) (ret := (some .int)) (by decide +kernel) rfl ?_
  intro p e s m args below meth c s₁ B hml hv
  obtain ⟨rfl, hsz, hP, hK, hD0, hE⟩ := hv
  subst hsz
  have hD := hD0.self (sz := s.heap.size)
  generalize hAe : va_A (xW cA aE ad σ) s.heap.size = A at hD hE ⊢
  have hA : ∀ q : Nat, s.heap.size ≤ q → A q := fun q h => by rw [← hAe]; exact Or.inr h
  have hS : va_S A s.heap s.heap [] := va_S.rf
  have C : xCx p s m _ meth c cX1_find 4 (some .int) wgX1_find RX1 E D cA A := ⟨B.exec, B.bytes, hml, B.returns, findClass_of_methodNamed B.named, atoms_spec (ws := wgX1_find) B.pre, hK, hA, B.notSynchronized, hE, vE⟩
  have hG : xG D cA aE ad A s σ s.heap [] := ⟨hP, hD, hS⟩
  have hl := lv_entry ([.ref (ad 10), .long x1]) (n := 4) (Nat.le_of_ble_eq_true rfl)
  rw [lg_entry_eq]
  generalize (lg_sl ([.ref (ad 10), .long x1]) ++ List.replicate (4 - (lg_sl ([.ref (ad 10), .long x1])).length) Slot.unset).toArray = ls at hl ⊢
  have hl : lv_has ls 4 [(0, .ref (ad 10)), (1, .long x1)] := hl
  exact k_X1_find_told C vM x1 σ _ _ _ hG hl hw
/-! ===== X1_find names ===== -/
def rm_X1_find_names : Room := { frames := 0, cells := 0, slots := 0, locals := 0 }
def wB_X1_find_names_2 (post : Int32 → XS → Prop) (k2 : Int64 → Int32 → XS → Prop) (x1 : Int64) (x3 : Int32) (σ : XS) : Prop :=
  ((xI σ 7) ≤ x3 → (post (-1) σ)) ∧ (¬ (xI σ 7) ≤ x3 → (vp_in x3 350 ∧ (((xL σ 4 x3.toNatClampNeg) = x1 → (post x3 σ)) ∧ (¬ (xL σ 4 x3.toNatClampNeg) = x1 → (∀ x3_2 : Int32, x3_2 = x3 + 1 → k2 x1 x3_2 σ)))))
def wL_X1_find_names_2 (post : Int32 → XS → Prop) : Nat → Int64 → Int32 → XS → Prop
  | 0 => fun _ _ _ => False
  | n + 1 => wB_X1_find_names_2 post (wL_X1_find_names_2 post n)
def wp_X1_find_names (post : Int32 → XS → Prop) (x1 : Int64) (σ : XS) : Prop :=
  ∃ n, wL_X1_find_names_2 post n x1 0 σ
set_option maxHeartbeats 4000000 in
set_option maxRecDepth 100000 in
theorem kB_X1_find_names_2 {p : Program} {l : Launch} {e : Env} {s : State} {m : MethodId} {args : Array Value} {below : List Frame} {meth : Method} {c : Code} {A : Nat → Prop} {E : EnvT} {aK aV : Nat → Nat} {aO : Nat} {D : va_G} {cA : Nat → ClassId} {aE ad : Nat → Nat} (C : xCx p s m args meth c cX1_find 4 (some .int) wgX1_find RX1 E D cA A) (vM : eXs aK aV aE aO E) {post : Int32 → XS → Prop}
    {k2 : Int64 → Int32 → XS → Prop} (hk2 : ∀ (x1 : Int64) (x3 : Int32) (σ : XS) (H : Heap) (locs : List Loc) (ls : Array Slot), xG D cA aE ad A s σ H locs → lv_has ls 4 [(0, .ref (ad 14)), (1, .long x1), (3, .int x3)] → k2 x1 x3 σ → W p l e rm_X1_find_names s m args below meth c H locs 0 0 (MQ below (va_Qi post (xAt D cA aE ad A) A) args s 0 0 A) (F0 m 2 ls [])) :
    ∀ (x1 : Int64) (x3 : Int32) (σ : XS) (H : Heap) (locs : List Loc) (ls : Array Slot), xG D cA aE ad A s σ H locs → lv_has ls 4 [(0, .ref (ad 14)), (1, .long x1), (3, .int x3)] → wB_X1_find_names_2 post k2 x1 x3 σ → W p l e rm_X1_find_names s m args below meth c H locs 0 0 (MQ below (va_Qi post (xAt D cA aE ad A) A) args s 0 0 A) (F0 m 2 ls []) := by
  obtain ⟨hx, hb, hml, hr, hown, hts, hK, hA, hlk, hE, vE⟩ := id C
  intro x1 x3 σ H locs ls hG hl hw
  obtain ⟨hP, hD, hS⟩ := id hG
  refine lv_iload_n hx hb dX1_find_2 rfl (lv_at hl 2 rfl) ?_
  refine lv_aload_n hx hb dX1_find_3 rfl (lv_at hl 0 rfl) ?_
  refine va_get (D := D) (ci := 3) (v := .int (xI σ 7)) (C := RX1) (T := TX1) (N := 3) hx hb hts (in_tb inX1) hown hK hP 14 rfl rfl 2 (by decide) (hts _ (List.mem_cons_of_mem _ tw_1_73)) (fun _ h9 => h9) rfl dX1_find_4 ?_
  refine lv_icmp_ge (tgt := 29) hx hb dX1_find_7 (by decide) (fun q_ => ?_) (fun q_ => ?_)
  · have hw := hw.1 q_
    refine lv_iconst (v := (-1)) hx hb dX1_find_29 (by decide) ?_
    exact W.iret (v := (-1)) hx hb hr (fun t ht hW => ⟨⟨_, σ, rfl, hw, by rw [ht]; exact hP, va_K.moved hW.alike hK, hD⟩, hS.F ht⟩) hS.2.2 dX1_find_30 hlk
  · have hw := hw.2 q_
    refine lv_aload_n hx hb dX1_find_10 rfl (lv_at hl 0 rfl) ?_
    refine va_get (D := D) (ci := 3) (v := .ref (ad 15)) (C := RX1) (T := TX1) (N := 3) hx hb hts (in_tb inX1) hown hK hP 14 rfl rfl 0 (by decide) (hts _ (List.mem_cons_of_mem _ tw_1_69)) (fun _ h9 => h9) rfl dX1_find_11 ?_
    refine lv_iload_n hx hb dX1_find_14 rfl (lv_at hl 2 rfl) ?_
    obtain ⟨h_1, hw⟩ := hw
    refine va_lald hx hb hK hP 15 1 rfl rfl h_1 dX1_find_15 ?_
    refine lv_lload_n hx hb dX1_find_16 rfl (lv_at hl 1 rfl) ?_
    refine W.lcmp hx hb dX1_find_17 ?_
    refine lv_if_ne (tgt := 23) hx hb dX1_find_18 (by decide) (fun q_ => ?_) (fun q_ => ?_)
    · have hw := hw.2 (fun z => q_ (lc_eq.mpr z))
      obtain ⟨x3_2, ex3_2⟩ : ∃ y : Int32, y = x3 + 1 := ⟨_, rfl⟩
      have hw := hw x3_2 ex3_2
      refine lv_iinc (v := x3_2) (lv' := [(3, .int x3_2), (0, .ref (ad 14)), (1, .long x1)]) hx hb dX1_find_23 hl (k := 2) rfl (by rw [ex3_2]; rfl) (by decide) rfl (fun ls hl => ?_)
      refine lv_goto (tgt := 2) hx hb dX1_find_26 (by decide) ?_
      exact hk2 x1 x3_2 σ _ _ _ hG (lv_sub hl [1, 2, 0] rfl) hw
    · have hw := hw.1 (lc_eq.mp q_)
      refine lv_iload_n hx hb dX1_find_21 rfl (lv_at hl 2 rfl) ?_
      exact W.iret (v := x3) hx hb hr (fun t ht hW => ⟨⟨_, σ, rfl, hw, by rw [ht]; exact hP, va_K.moved hW.alike hK, hD⟩, hS.F ht⟩) hS.2.2 dX1_find_22 hlk
theorem kL_X1_find_names_2 {p : Program} {l : Launch} {e : Env} {s : State} {m : MethodId} {args : Array Value} {below : List Frame} {meth : Method} {c : Code} {A : Nat → Prop} {E : EnvT} {aK aV : Nat → Nat} {aO : Nat} {D : va_G} {cA : Nat → ClassId} {aE ad : Nat → Nat} (C : xCx p s m args meth c cX1_find 4 (some .int) wgX1_find RX1 E D cA A) (vM : eXs aK aV aE aO E) {post : Int32 → XS → Prop} :
    ∀ (n : Nat) (x1 : Int64) (x3 : Int32) (σ : XS) (H : Heap) (locs : List Loc) (ls : Array Slot), xG D cA aE ad A s σ H locs → lv_has ls 4 [(0, .ref (ad 14)), (1, .long x1), (3, .int x3)] → wL_X1_find_names_2 post n x1 x3 σ → W p l e rm_X1_find_names s m args below meth c H locs 0 0 (MQ below (va_Qi post (xAt D cA aE ad A) A) args s 0 0 A) (F0 m 2 ls []) := by
  intro n
  induction n with
  | zero => intro x1 x3 σ H locs ls hG hl hw; exact hw.elim
  | succ n ih => exact kB_X1_find_names_2 C vM ih
set_option maxHeartbeats 4000000 in
set_option maxRecDepth 100000 in
theorem k_X1_find_names {p : Program} {l : Launch} {e : Env} {s : State} {m : MethodId} {args : Array Value} {below : List Frame} {meth : Method} {c : Code} {A : Nat → Prop} {E : EnvT} {aK aV : Nat → Nat} {aO : Nat} {D : va_G} {cA : Nat → ClassId} {aE ad : Nat → Nat} (C : xCx p s m args meth c cX1_find 4 (some .int) wgX1_find RX1 E D cA A) (vM : eXs aK aV aE aO E) {post : Int32 → XS → Prop} :
    ∀ (x1 : Int64) (σ : XS) (H : Heap) (locs : List Loc) (ls : Array Slot), xG D cA aE ad A s σ H locs → lv_has ls 4 [(0, .ref (ad 14)), (1, .long x1)] → wp_X1_find_names post x1 σ → W p l e rm_X1_find_names s m args below meth c H locs 0 0 (MQ below (va_Qi post (xAt D cA aE ad A) A) args s 0 0 A) (F0 m 0 ls []) := by
  obtain ⟨hx, hb, hml, hr, hown, hts, hK, hA, hlk, hE, vE⟩ := id C
  intro x1 σ H locs ls hG hl hw
  obtain ⟨hP, hD, hS⟩ := id hG
  refine lv_iconst (v := 0) hx hb dX1_find_0 (by decide) ?_
  refine lv_istore_n (lv' := [(3, .int 0), (0, .ref (ad 14)), (1, .long x1)]) hx hb dX1_find_1 rfl hl (by decide) rfl (fun ls hl => ?_)
  obtain ⟨n_, hw⟩ := hw
  exact kL_X1_find_names_2 C vM n_ x1 0 σ _ _ _ hG (lv_sub hl [1, 2, 0] rfl) hw
set_option maxHeartbeats 4000000 in
set_option maxRecDepth 100000 in
theorem met_X1_find_names {l : Launch} {E : EnvT} (vE : EnvOk E) {D : va_G} {cA : Nat → ClassId} {aE ad : Nat → Nat} {σ : XS} {aK aV : Nat → Nat} {aO : Nat} (vM : eXs aK aV aE aO E) {sz : Nat} {x1 : Int64} {post : Int32 → XS → Prop} (hw : wp_X1_find_names post x1 σ) : Met l yX1_find wgX1_find rm_X1_find_names (va_Pc [.ref (ad 14), .long x1] (xPre E D cA aE ad sz σ)) (va_Qi post (xAt D cA aE ad (va_A (xW cA aE ad σ) sz)) (va_A (xW cA aE ad σ) sz)) 0 0 (va_A (xW cA aE ad σ) sz) := by
  refine Met.ofW (cc := cX1_find) (maxL := 4) (ret := (some .int)) (by decide +kernel) rfl ?_
  intro p e s m args below meth c s₁ B hml hv
  obtain ⟨rfl, hsz, hP, hK, hD0, hE⟩ := hv
  subst hsz
  have hD := hD0.self (sz := s.heap.size)
  generalize hAe : va_A (xW cA aE ad σ) s.heap.size = A at hD hE ⊢
  have hA : ∀ q : Nat, s.heap.size ≤ q → A q := fun q h => by rw [← hAe]; exact Or.inr h
  have hS : va_S A s.heap s.heap [] := va_S.rf
  have C : xCx p s m _ meth c cX1_find 4 (some .int) wgX1_find RX1 E D cA A := ⟨B.exec, B.bytes, hml, B.returns, findClass_of_methodNamed B.named, atoms_spec (ws := wgX1_find) B.pre, hK, hA, B.notSynchronized, hE, vE⟩
  have hG : xG D cA aE ad A s σ s.heap [] := ⟨hP, hD, hS⟩
  have hl := lv_entry ([.ref (ad 14), .long x1]) (n := 4) (Nat.le_of_ble_eq_true rfl)
  rw [lg_entry_eq]
  generalize (lg_sl ([.ref (ad 14), .long x1]) ++ List.replicate (4 - (lg_sl ([.ref (ad 14), .long x1])).length) Slot.unset).toArray = ls at hl ⊢
  have hl : lv_has ls 4 [(0, .ref (ad 14)), (1, .long x1)] := hl
  exact k_X1_find_names C vM x1 σ _ _ _ hG hl hw
/-! ===== X1_tell told ===== -/
def rm_X1_tell_told : Room := { frames := 1, cells := 0, slots := 0, locals := 23 }
abbrev wgX1_tell : List Cond := .code yX1_tell cX1_tell 5 (some .boolean) :: TB
def wB_X1_tell_told_19 (post : Int32 → XS → Prop) (σ : XS) : Prop :=
  post 0 σ
def wp_X1_tell_told (post : Int32 → XS → Prop) (x1 : Int64) (x3 : Int64) (σ : XS) : Prop :=
  wp_X1_find_told (fun r_1 σ_2 => (r_1 = (-1) → (((xI σ_2 6) < 350 → (vp_in (xI σ_2 6) 350 ∧ (vp_in (xI σ_2 6) 350 ∧ (post 1 (yI (yL (yL σ_2 1 (xI σ_2 6).toNatClampNeg x1) 2 (xI σ_2 6).toNatClampNeg x3) 6 ((xI σ_2 6) + 1)))))) ∧ (¬ (xI σ_2 6) < 350 → (wB_X1_tell_told_19 post σ_2)))) ∧ (¬ r_1 = (-1) → (wB_X1_tell_told_19 post σ_2))) x1 σ
set_option maxHeartbeats 4000000 in
set_option maxRecDepth 100000 in
theorem kB_X1_tell_told_19 {p : Program} {l : Launch} {e : Env} {s : State} {m : MethodId} {args : Array Value} {below : List Frame} {meth : Method} {c : Code} {A : Nat → Prop} {E : EnvT} {aK aV : Nat → Nat} {aO : Nat} {D : va_G} {cA : Nat → ClassId} {aE ad : Nat → Nat} (C : xCx p s m args meth c cX1_tell 5 (some .boolean) wgX1_tell RX1 E D cA A) (vM : eXs aK aV aE aO E) {post : Int32 → XS → Prop} :
    ∀ (σ : XS) (H : Heap) (locs : List Loc) (ls : Array Slot), xG D cA aE ad A s σ H locs → lv_has ls 5 [] → wB_X1_tell_told_19 post σ → W p l e rm_X1_tell_told s m args below meth c H locs 0 0 (MQ below (va_Qi post (xAt D cA aE ad A) A) args s 0 0 A) (F0 m 19 ls []) := by
  obtain ⟨hx, hb, hml, hr, hown, hts, hK, hA, hlk, hE, vE⟩ := id C
  intro σ H locs ls hG hl hw
  obtain ⟨hP, hD, hS⟩ := id hG
  refine lv_iconst (v := 0) hx hb dX1_tell_19 (by decide) ?_
  exact W.zret (v := 0) (ty := .boolean) hx hb hr rfl (fun t ht hW => ⟨⟨_, σ, rfl, hw, by rw [ht]; exact hP, va_K.moved hW.alike hK, hD⟩, hS.F ht⟩) hS.2.2 dX1_tell_20 hlk
set_option maxHeartbeats 4000000 in
set_option maxRecDepth 100000 in
theorem k_X1_tell_told {p : Program} {l : Launch} {e : Env} {s : State} {m : MethodId} {args : Array Value} {below : List Frame} {meth : Method} {c : Code} {A : Nat → Prop} {E : EnvT} {aK aV : Nat → Nat} {aO : Nat} {D : va_G} {cA : Nat → ClassId} {aE ad : Nat → Nat} (C : xCx p s m args meth c cX1_tell 5 (some .boolean) wgX1_tell RX1 E D cA A) (vM : eXs aK aV aE aO E) {post : Int32 → XS → Prop} :
    ∀ (x1 : Int64) (x3 : Int64) (σ : XS) (H : Heap) (locs : List Loc) (ls : Array Slot), xG D cA aE ad A s σ H locs → lv_has ls 5 [(0, .ref (ad 10)), (1, .long x1), (3, .long x3)] → wp_X1_tell_told post x1 x3 σ → W p l e rm_X1_tell_told s m args below meth c H locs 0 0 (MQ below (va_Qi post (xAt D cA aE ad A) A) args s 0 0 A) (F0 m 0 ls []) := by
  obtain ⟨hx, hb, hml, hr, hown, hts, hK, hA, hlk, hE, vE⟩ := id C
  intro x1 x3 σ H locs ls hG hl hw
  obtain ⟨hP, hD, hS⟩ := id hG
  refine lv_aload_n hx hb dX1_tell_0 rfl (lv_at hl 0 rfl) ?_
  refine lv_lload_n hx hb dX1_tell_1 rfl (lv_at hl 1 rfl) ?_
  refine xV_i (As := [.long x1]) (rest := []) C (met_X1_find_told vE vM hw) (va_recv hK hP (ci := 3) (q0 := 10) rfl rfl) (cwV 1 hts (TB_G (TB_4 tw_5_11 tw_4_234 tw_4_235 tw_1_4) tw_4_236) rfl rfl rfl (by decide +kernel) ⟨by decide, by decide⟩) hP hD hS rfl hl.1 rfl (Nat.le_of_ble_eq_true rfl) dX1_tell_2 ⟨by decide, by decide⟩ (fun r_1 σ_2 H locs hw hP hD hS => ?_)
  have hG : xG D cA aE ad A s σ_2 H locs := ⟨hP, hD, hS⟩
  refine lv_iconst (v := (-1)) hx hb dX1_tell_5 (by decide) ?_
  refine lv_icmp_ne (tgt := 19) hx hb dX1_tell_6 (by decide) (fun q_ => ?_) (fun q_ => ?_)
  · have hw := hw.2 q_
    exact kB_X1_tell_told_19 C vM  σ_2 _ _ _ hG (lv_sub hl [] rfl) hw
  · have hw := hw.1 q_
    refine lv_aload_n hx hb dX1_tell_9 rfl (lv_at hl 0 rfl) ?_
    refine va_get (D := D) (ci := 3) (v := .int (xI σ_2 6)) (C := RX1) (T := TX1) (N := 3) hx hb hts (in_tb inX1) hown hK hP 10 rfl rfl 2 (by decide) (hts _ (List.mem_cons_of_mem _ tw_1_73)) (fun _ h9 => h9) rfl dX1_tell_10 ?_
    refine lv_sipush (v := 350) hx hb dX1_tell_13 (by decide) ?_
    refine lv_icmp_lt (tgt := 21) hx hb dX1_tell_16 (by decide) (fun q_ => ?_) (fun q_ => ?_)
    · have hw := hw.1 q_
      refine lv_aload_n hx hb dX1_tell_21 rfl (lv_at hl 0 rfl) ?_
      refine va_get (D := D) (ci := 3) (v := .ref (ad 11)) (C := RX1) (T := TX1) (N := 3) hx hb hts (in_tb inX1) hown hK hP 10 rfl rfl 0 (by decide) (hts _ (List.mem_cons_of_mem _ tw_1_69)) (fun _ h9 => h9) rfl dX1_tell_22 ?_
      refine lv_aload_n hx hb dX1_tell_25 rfl (lv_at hl 0 rfl) ?_
      refine va_get (D := D) (ci := 3) (v := .int (xI σ_2 6)) (C := RX1) (T := TX1) (N := 3) hx hb hts (in_tb inX1) hown hK hP 10 rfl rfl 2 (by decide) (hts _ (List.mem_cons_of_mem _ tw_1_73)) (fun _ h9 => h9) rfl dX1_tell_26 ?_
      refine lv_lload_n hx hb dX1_tell_29 rfl (lv_at hl 1 rfl) ?_
      obtain ⟨h_3, hw⟩ := hw
      refine va_last hx hb hK hP hD hS 11 1 rfl rfl h_3 dX1_tell_30 (fun H locs hP hD hS => ?_)
      have hG : xG D cA aE ad A s (yL σ_2 1 (xI σ_2 6).toNatClampNeg x1) H locs := ⟨hP, hD, hS⟩
      obtain ⟨hP, hD, hS⟩ := id hG
      refine lv_aload_n hx hb dX1_tell_31 rfl (lv_at hl 0 rfl) ?_
      refine va_get (D := D) (ci := 3) (v := .ref (ad 12)) (C := RX1) (T := TX1) (N := 3) hx hb hts (in_tb inX1) hown hK hP 10 rfl rfl 1 (by decide) (hts _ (List.mem_cons_of_mem _ tw_1_70)) (fun _ h9 => h9) rfl dX1_tell_32 ?_
      refine lv_aload_n hx hb dX1_tell_35 rfl (lv_at hl 0 rfl) ?_
      refine va_get (D := D) (ci := 3) (v := .int (xI σ_2 6)) (C := RX1) (T := TX1) (N := 3) hx hb hts (in_tb inX1) hown hK hP 10 rfl rfl 2 (by decide) (hts _ (List.mem_cons_of_mem _ tw_1_73)) (fun _ h9 => h9) rfl dX1_tell_36 ?_
      refine lv_lload_n hx hb dX1_tell_39 rfl (lv_at hl 2 rfl) ?_
      obtain ⟨h_4, hw⟩ := hw
      refine va_last hx hb hK hP hD hS 12 1 rfl rfl h_4 dX1_tell_40 (fun H locs hP hD hS => ?_)
      have hG : xG D cA aE ad A s (yL (yL σ_2 1 (xI σ_2 6).toNatClampNeg x1) 2 (xI σ_2 6).toNatClampNeg x3) H locs := ⟨hP, hD, hS⟩
      obtain ⟨hP, hD, hS⟩ := id hG
      refine lv_aload_n hx hb dX1_tell_41 rfl (lv_at hl 0 rfl) ?_
      refine lv_dup hx hb dX1_tell_42 rfl ?_
      refine va_get (D := D) (ci := 3) (v := .int (xI σ_2 6)) (C := RX1) (T := TX1) (N := 3) hx hb hts (in_tb inX1) hown hK hP 10 rfl rfl 2 (by decide) (hts _ (List.mem_cons_of_mem _ tw_1_73)) (fun _ h9 => h9) rfl dX1_tell_43 ?_
      refine lv_iconst (v := 1) hx hb dX1_tell_46 (by decide) ?_
      refine lv_iadd hx hb dX1_tell_47 ?_
      refine va_put (D := D) (ci := 3) (v := .int ((xI σ_2 6) + 1)) (ty := .int) (C := RX1) (T := TX1) (N := 3) hx hb hts (in_tb inX1) tyX1 tyX1_ok nmX1 hown hK hP hD hS 10 rfl rfl 2 (by decide) (hts _ (List.mem_cons_of_mem _ tw_1_73)) (fun _ h9 => h9) rfl (by decide +kernel) rfl rfl (Nat.le_of_ble_eq_true rfl) dX1_tell_48 (fun H locs hP hD hS => ?_)
      have hG : xG D cA aE ad A s (yI (yL (yL σ_2 1 (xI σ_2 6).toNatClampNeg x1) 2 (xI σ_2 6).toNatClampNeg x3) 6 ((xI σ_2 6) + 1)) H locs := ⟨hP, hD, hS⟩
      obtain ⟨hP, hD, hS⟩ := id hG
      refine lv_iconst (v := 1) hx hb dX1_tell_51 (by decide) ?_
      exact W.zret (v := 1) (ty := .boolean) hx hb hr rfl (fun t ht hW => ⟨⟨_, (yI (yL (yL σ_2 1 (xI σ_2 6).toNatClampNeg x1) 2 (xI σ_2 6).toNatClampNeg x3) 6 ((xI σ_2 6) + 1)), rfl, hw, by rw [ht]; exact hP, va_K.moved hW.alike hK, hD⟩, hS.F ht⟩) hS.2.2 dX1_tell_52 hlk
    · have hw := hw.2 q_
      exact kB_X1_tell_told_19 C vM  σ_2 _ _ _ hG (lv_sub hl [] rfl) hw
set_option maxHeartbeats 4000000 in
set_option maxRecDepth 100000 in
theorem met_X1_tell_told {l : Launch} {E : EnvT} (vE : EnvOk E) {D : va_G} {cA : Nat → ClassId} {aE ad : Nat → Nat} {σ : XS} {aK aV : Nat → Nat} {aO : Nat} (vM : eXs aK aV aE aO E) {sz : Nat} {x1 : Int64} {x3 : Int64} {post : Int32 → XS → Prop} (hw : wp_X1_tell_told post x1 x3 σ) : Met l yX1_tell wgX1_tell rm_X1_tell_told (va_Pc [.ref (ad 10), .long x1, .long x3] (xPre E D cA aE ad sz σ)) (va_Qi post (xAt D cA aE ad (va_A (xW cA aE ad σ) sz)) (va_A (xW cA aE ad σ) sz)) 0 0 (va_A (xW cA aE ad σ) sz) := by
  refine Met.ofW (cc := cX1_tell) (maxL := 5) (ret := (some .boolean)) (by decide +kernel) rfl ?_
  intro p e s m args below meth c s₁ B hml hv
  obtain ⟨rfl, hsz, hP, hK, hD0, hE⟩ := hv
  subst hsz
  have hD := hD0.self (sz := s.heap.size)
  generalize hAe : va_A (xW cA aE ad σ) s.heap.size = A at hD hE ⊢
  have hA : ∀ q : Nat, s.heap.size ≤ q → A q := fun q h => by rw [← hAe]; exact Or.inr h
  have hS : va_S A s.heap s.heap [] := va_S.rf
  have C : xCx p s m _ meth c cX1_tell 5 (some .boolean) wgX1_tell RX1 E D cA A := ⟨B.exec, B.bytes, hml, B.returns, findClass_of_methodNamed B.named, atoms_spec (ws := wgX1_tell) B.pre, hK, hA, B.notSynchronized, hE, vE⟩
  have hG : xG D cA aE ad A s σ s.heap [] := ⟨hP, hD, hS⟩
  have hl := lv_entry ([.ref (ad 10), .long x1, .long x3]) (n := 5) (Nat.le_of_ble_eq_true rfl)
  rw [lg_entry_eq]
  generalize (lg_sl ([.ref (ad 10), .long x1, .long x3]) ++ List.replicate (5 - (lg_sl ([.ref (ad 10), .long x1, .long x3])).length) Slot.unset).toArray = ls at hl ⊢
  have hl : lv_has ls 5 [(0, .ref (ad 10)), (1, .long x1), (3, .long x3)] := hl
  exact k_X1_tell_told C vM x1 x3 σ _ _ _ hG hl hw
