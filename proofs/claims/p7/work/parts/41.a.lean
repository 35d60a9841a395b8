/-! ===== J1_canEncode_fc78d ===== -/
def rm_J1_canEncode_fc78d : Room := { frames := 0, cells := 0, slots := 0, locals := 0 }
abbrev wgJ1_canEncode_fc78d : List Cond := .code yJ1_canEncode_fc78d cJ1_canEncode_fc78d 1 (some .boolean) :: TB
def wB_J1_canEncode_fc78d_12 (post : Int32 → Prop) (t0 : Int32) : Prop :=
  isB t0 ∧ (post t0)
def wp_J1_canEncode_fc78d (post : Int32 → Prop) (x0 : Int32) : Prop :=
  (255 < x0 → (wB_J1_canEncode_fc78d_12 post 0)) ∧ (¬ 255 < x0 → (wB_J1_canEncode_fc78d_12 post 1))
set_option maxHeartbeats 4000000 in
set_option maxRecDepth 100000 in
theorem kB_J1_canEncode_fc78d_12 {p : Program} {l : Launch} {e : Env} {s : State} {m : MethodId} {args : Array Value} {below : List Frame} {meth : Method} {c : Code} {A : Nat → Prop} {E : EnvT} {aK aV aE : Nat → Nat} {aO : Nat} (C : sCx p s m args meth c cJ1_canEncode_fc78d 1 (some .boolean) wgJ1_canEncode_fc78d RJ1 E A) (vM : eXs aK aV aE aO E) {post : Int32 → Prop} :
    ∀ (t0 : Int32) (H : Heap) (locs : List Loc) (ls : Array Slot), va_S A s.heap H locs → lv_has ls 1 [] → wB_J1_canEncode_fc78d_12 post t0 → W p l e rm_J1_canEncode_fc78d s m args below meth c H locs 0 0 (MQ below (va_Qi (S := Unit) (fun r _ => post r) (fun _ _ => True) A) args s 0 0 A) (F0 m 12 ls [.int t0]) := by
  obtain ⟨hx, hb, hml, hr, hown, hts, hA, hlk, hE, vE⟩ := id C
  intro t0 H locs ls hG hl hw
  have hS := hG
  obtain ⟨h_1, hw⟩ := hw
  exact W.zret (v := t0) (ty := .boolean) hx hb hr (isB.n h_1) (fun t ht hW => ⟨⟨_, (), rfl, hw, trivial⟩, hS.F ht⟩) hS.2.2 dJ1_canEncode_fc78d_12 hlk
set_option maxHeartbeats 4000000 in
set_option maxRecDepth 100000 in
theorem k_J1_canEncode_fc78d {p : Program} {l : Launch} {e : Env} {s : State} {m : MethodId} {args : Array Value} {below : List Frame} {meth : Method} {c : Code} {A : Nat → Prop} {E : EnvT} {aK aV aE : Nat → Nat} {aO : Nat} (C : sCx p s m args meth c cJ1_canEncode_fc78d 1 (some .boolean) wgJ1_canEncode_fc78d RJ1 E A) (vM : eXs aK aV aE aO E) {post : Int32 → Prop} :
    ∀ (x0 : Int32) (H : Heap) (locs : List Loc) (ls : Array Slot), va_S A s.heap H locs → lv_has ls 1 [(0, .int x0)] → wp_J1_canEncode_fc78d post x0 → W p l e rm_J1_canEncode_fc78d s m args below meth c H locs 0 0 (MQ below (va_Qi (S := Unit) (fun r _ => post r) (fun _ _ => True) A) args s 0 0 A) (F0 m 0 ls []) := by
  obtain ⟨hx, hb, hml, hr, hown, hts, hA, hlk, hE, vE⟩ := id C
  intro x0 H locs ls hG hl hw
  have hS := hG
  refine lv_iload_n hx hb dJ1_canEncode_fc78d_0 rfl (lv_at hl 0 rfl) ?_
  refine lv_sipush (v := 255) hx hb dJ1_canEncode_fc78d_1 (by decide) ?_
  refine lv_icmp_gt (tgt := 11) hx hb dJ1_canEncode_fc78d_4 (by decide) (fun q_ => ?_) (fun q_ => ?_)
  · have hw := hw.1 q_
    refine lv_iconst (v := 0) hx hb dJ1_canEncode_fc78d_11 (by decide) ?_
    exact kB_J1_canEncode_fc78d_12 C vM 0 _ _ _ hG (lv_sub hl [] rfl) hw
  · have hw := hw.2 q_
    refine lv_iconst (v := 1) hx hb dJ1_canEncode_fc78d_7 (by decide) ?_
    refine lv_goto (tgt := 12) hx hb dJ1_canEncode_fc78d_8 (by decide) ?_
    exact kB_J1_canEncode_fc78d_12 C vM 1 _ _ _ hG (lv_sub hl [] rfl) hw
set_option maxHeartbeats 4000000 in
set_option maxRecDepth 100000 in
theorem met_J1_canEncode_fc78d {l : Launch} {E : EnvT} (vE : EnvOk E) {aK aV aE : Nat → Nat} {aO : Nat} (vM : eXs aK aV aE aO E) {sz : Nat} {x0 : Int32} {post : Int32 → Prop} (hw : wp_J1_canEncode_fc78d post x0) : Met l yJ1_canEncode_fc78d wgJ1_canEncode_fc78d rm_J1_canEncode_fc78d (va_Pc [.int x0] (sPre E sz)) (va_Qi (S := Unit) (fun r _ => post r) (fun _ _ => True) (va_A [] sz)) 0 0 (va_A [] sz) := by
  refine Met.ofW (cc := cJ1_canEncode_fc78d) (maxL := 1) (ret := (some .boolean)) (by decide +kernel) rfl ?_
  intro p e s m args below meth c s₁ B hml hv
  obtain ⟨rfl, hsz, hE⟩ := hv
  subst hsz
  generalize hAe : va_A [] s.heap.size = A at hE ⊢
  have hA : ∀ q : Nat, s.heap.size ≤ q → A q := fun q h => by rw [← hAe]; exact Or.inr h
  have hS : va_S A s.heap s.heap [] := va_S.rf
  have C : sCx p s m _ meth c cJ1_canEncode_fc78d 1 (some .boolean) wgJ1_canEncode_fc78d RJ1 E A := ⟨B.exec, B.bytes, hml, B.returns, findClass_of_methodNamed B.named, atoms_spec (ws := wgJ1_canEncode_fc78d) B.pre, hA, B.notSynchronized, hE, vE⟩
  have hG := hS
  have hl := lv_entry ([.int x0]) (n := 1) (Nat.le_of_ble_eq_true rfl)
  rw [lg_entry_eq]
  generalize (lg_sl ([.int x0]) ++ List.replicate (1 - (lg_sl ([.int x0])).length) Slot.unset).toArray = ls at hl ⊢
  have hl : lv_has ls 1 [(0, .int x0)] := hl
  exact k_J1_canEncode_fc78d C vM x0 _ _ _ hG hl hw
/-! ===== J8_newLength_cabcc ===== -/
def rm_J8_newLength_cabcc : Room := { frames := 1, cells := 0, slots := 0, locals := 21 }
abbrev wgJ8_newLength_cabcc : List Cond := .code yJ8_newLength_cabcc cJ8_newLength_cabcc 4 (some .int) :: TB
def wB_J8_newLength_cabcc_21 (post : Int32 → Prop) (x0 : Int32) (x1 : Int32) : Prop :=
  False
def wp_J8_newLength_cabcc (post : Int32 → Prop) (x0 : Int32) (x1 : Int32) (x2 : Int32) : Prop :=
  wp_J9_max_7cf53 (fun r_1  => ∀ x3_3 : Int32, x3_3 = x0 + r_1 → (x3_3 ≤ 0 → (wB_J8_newLength_cabcc_21 post x0 x1)) ∧ (¬ x3_3 ≤ 0 → ((2147483639 < x3_3 → (wB_J8_newLength_cabcc_21 post x0 x1)) ∧ (¬ 2147483639 < x3_3 → (post x3_3))))) x1 x2
set_option maxHeartbeats 4000000 in
set_option maxRecDepth 100000 in
theorem kB_J8_newLength_cabcc_21 {p : Program} {l : Launch} {e : Env} {s : State} {m : MethodId} {args : Array Value} {below : List Frame} {meth : Method} {c : Code} {A : Nat → Prop} {E : EnvT} {aK aV aE : Nat → Nat} {aO : Nat} (C : sCx p s m args meth c cJ8_newLength_cabcc 4 (some .int) wgJ8_newLength_cabcc RJ8 E A) (vM : eXs aK aV aE aO E) {post : Int32 → Prop} :
    ∀ (x0 : Int32) (x1 : Int32) (H : Heap) (locs : List Loc) (ls : Array Slot), va_S A s.heap H locs → lv_has ls 4 [(0, .int x0), (1, .int x1)] → wB_J8_newLength_cabcc_21 post x0 x1 → W p l e rm_J8_newLength_cabcc s m args below meth c H locs 0 0 (MQ below (va_Qi (S := Unit) (fun r _ => post r) (fun _ _ => True) A) args s 0 0 A) (F0 m 21 ls []) := by
  obtain ⟨hx, hb, hml, hr, hown, hts, hA, hlk, hE, vE⟩ := id C
  intro x0 x1 H locs ls hG hl hw
  have hS := hG
  refine lv_iload_n hx hb dJ8_newLength_cabcc_21 rfl (lv_at hl 0 rfl) ?_
  refine lv_iload_n hx hb dJ8_newLength_cabcc_22 rfl (lv_at hl 1 rfl) ?_
  exact hw.elim
set_option maxHeartbeats 4000000 in
set_option maxRecDepth 100000 in
theorem k_J8_newLength_cabcc {p : Program} {l : Launch} {e : Env} {s : State} {m : MethodId} {args : Array Value} {below : List Frame} {meth : Method} {c : Code} {A : Nat → Prop} {E : EnvT} {aK aV aE : Nat → Nat} {aO : Nat} (C : sCx p s m args meth c cJ8_newLength_cabcc 4 (some .int) wgJ8_newLength_cabcc RJ8 E A) (vM : eXs aK aV aE aO E) {post : Int32 → Prop} :
    ∀ (x0 : Int32) (x1 : Int32) (x2 : Int32) (H : Heap) (locs : List Loc) (ls : Array Slot), va_S A s.heap H locs → lv_has ls 4 [(0, .int x0), (1, .int x1), (2, .int x2)] → wp_J8_newLength_cabcc post x0 x1 x2 → W p l e rm_J8_newLength_cabcc s m args below meth c H locs 0 0 (MQ below (va_Qi (S := Unit) (fun r _ => post r) (fun _ _ => True) A) args s 0 0 A) (F0 m 0 ls []) := by
  obtain ⟨hx, hb, hml, hr, hown, hts, hA, hlk, hE, vE⟩ := id C
  intro x0 x1 x2 H locs ls hG hl hw
  have hS := hG
  refine lv_iload_n hx hb dJ8_newLength_cabcc_0 rfl (lv_at hl 0 rfl) ?_
  refine lv_iload_n hx hb dJ8_newLength_cabcc_1 rfl (lv_at hl 1 rfl) ?_
  refine lv_iload_n hx hb dJ8_newLength_cabcc_2 rfl (lv_at hl 2 rfl) ?_
  refine sS_i (As := [.int x1, .int x2]) (rest := [.int x0]) C (met_J9_max_7cf53 vE vM hw) (va_cwS 2 hts (TB_G (TB_3 tw_2_223 tw_2_149 tw_1_15) tw_2_150) rfl rfl rfl (by decide +kernel) ⟨by decide, by decide⟩) hS rfl hl.1 rfl (Nat.le_of_ble_eq_true rfl) dJ8_newLength_cabcc_3 ⟨by decide, by decide⟩ (fun r_1 H locs hw hS => ?_)
  have hG := hS
  refine lv_iadd hx hb dJ8_newLength_cabcc_6 ?_
  refine lv_topi (fun x3_3 ex3_3 => ?_)
  have hw := hw x3_3 ex3_3
  refine lv_istore_n (lv' := [(3, .int x3_3), (0, .int x0), (1, .int x1), (2, .int x2)]) hx hb dJ8_newLength_cabcc_7 rfl hl (by decide) rfl (fun ls hl => ?_)
  refine lv_iconst (v := 0) hx hb dJ8_newLength_cabcc_8 (by decide) ?_
  refine lv_iload_n hx hb dJ8_newLength_cabcc_9 rfl (lv_at hl 0 rfl) ?_
  refine lv_icmp_ge (tgt := 21) hx hb dJ8_newLength_cabcc_10 (by decide) (fun q_ => ?_) (fun q_ => ?_)
  · have hw := hw.1 q_
    exact kB_J8_newLength_cabcc_21 C vM x0 x1 _ _ _ hG (lv_sub hl [1, 2] rfl) hw
  · have hw := hw.2 q_
    refine lv_iload_n hx hb dJ8_newLength_cabcc_13 rfl (lv_at hl 0 rfl) ?_
    refine lv_ldc (v := 2147483639) hx hb hown (hts _ (List.mem_cons_of_mem _ tw_2_224)) dJ8_newLength_cabcc_14 ?_
    refine lv_icmp_gt (tgt := 21) hx hb dJ8_newLength_cabcc_16 (by decide) (fun q_ => ?_) (fun q_ => ?_)
    · have hw := hw.1 q_
      exact kB_J8_newLength_cabcc_21 C vM x0 x1 _ _ _ hG (lv_sub hl [1, 2] rfl) hw
    · have hw := hw.2 q_
      refine lv_iload_n hx hb dJ8_newLength_cabcc_19 rfl (lv_at hl 0 rfl) ?_
      exact W.iret (v := x3_3) hx hb hr (fun t ht hW => ⟨⟨_, (), rfl, hw, trivial⟩, hS.F ht⟩) hS.2.2 dJ8_newLength_cabcc_20 hlk
set_option maxHeartbeats 4000000 in
set_option maxRecDepth 100000 in
theorem met_J8_newLength_cabcc {l : Launch} {E : EnvT} (vE : EnvOk E) {aK aV aE : Nat → Nat} {aO : Nat} (vM : eXs aK aV aE aO E) {sz : Nat} {x0 : Int32} {x1 : Int32} {x2 : Int32} {post : Int32 → Prop} (hw : wp_J8_newLength_cabcc post x0 x1 x2) : Met l yJ8_newLength_cabcc wgJ8_newLength_cabcc rm_J8_newLength_cabcc (va_Pc [.int x0, .int x1, .int x2] (sPre E sz)) (va_Qi (S := Unit) (fun r _ => post r) (fun _ _ => True) (va_A [] sz)) 0 0 (va_A [] sz) := by
  refine Met.ofW (cc := cJ8_newLength_cabcc) (maxL := 4) (ret := (some .int)) (by decide +kernel) rfl ?_
  intro p e s m args below meth c s₁ B hml hv
  obtain ⟨rfl, hsz, hE⟩ := hv
  subst hsz
  generalize hAe : va_A [] s.heap.size = A at hE ⊢
  have hA : ∀ q : Nat, s.heap.size ≤ q → A q := fun q h => by rw [← hAe]; exact Or.inr h
  have hS : va_S A s.heap s.heap [] := va_S.rf
  have C : sCx p s m _ meth c cJ8_newLength_cabcc 4 (some .int) wgJ8_newLength_cabcc RJ8 E A := ⟨B.exec, B.bytes, hml, B.returns, findClass_of_methodNamed B.named, atoms_spec (ws := wgJ8_newLength_cabcc) B.pre, hA, B.notSynchronized, hE, vE⟩
  have hG := hS
  have hl := lv_entry ([.int x0, .int x1, .int x2]) (n := 4) (Nat.le_of_ble_eq_true rfl)
  rw [lg_entry_eq]
  generalize (lg_sl ([.int x0, .int x1, .int x2]) ++ List.replicate (4 - (lg_sl ([.int x0, .int x1, .int x2])).length) Slot.unset).toArray = ls at hl ⊢
  have hl : lv_has ls 4 [(0, .int x0), (1, .int x1), (2, .int x2)] := hl
  exact k_J8_newLength_cabcc C vM x0 x1 x2 _ _ _ hG hl hw
/-! ===== J6_stringSize_0f7a4 ===== -/
def rm_J6_stringSize_0f7a4 : Room := { frames := 0, cells := 0, slots := 0, locals := 0 }
abbrev wgJ6_stringSize_0f7a4 : List Cond := .code yJ6_stringSize_0f7a4 cJ6_stringSize_0f7a4 4 (some .int) :: TB
def wB_J6_stringSize_0f7a4_16 (post : Int32 → Prop) (k16 : Int32 → Int32 → Int32 → Int32 → Prop) (x0 : Int32) (x1 : Int32) (x2 : Int32) (x3 : Int32) : Prop :=
  (10 ≤ x3 → (post (10 + x1))) ∧ (¬ 10 ≤ x3 → ((x0 ≤ x2 → (∀ x2_1 : Int32, x2_1 = 10 * x2 → ∀ x3_2 : Int32, x3_2 = x3 + 1 → k16 x0 x1 x2_1 x3_2)) ∧ (¬ x0 ≤ x2 → (post (x3 + x1)))))
def wL_J6_stringSize_0f7a4_16 (post : Int32 → Prop) : Nat → Int32 → Int32 → Int32 → Int32 → Prop
  | 0 => fun _ _ _ _ => False
  | n + 1 => wB_J6_stringSize_0f7a4_16 post (wL_J6_stringSize_0f7a4_16 post n)
def wB_J6_stringSize_0f7a4_11 (post : Int32 → Prop) (x0 : Int32) (x1 : Int32) : Prop :=
  ∃ n, wL_J6_stringSize_0f7a4_16 post n x0 x1 (-10) 1
def wp_J6_stringSize_0f7a4 (post : Int32 → Prop) (x0 : Int32) : Prop :=
  (x0 < 0 → (wB_J6_stringSize_0f7a4_11 post x0 1)) ∧ (¬ x0 < 0 → (∀ x0_3 : Int32, x0_3 = -x0 → wB_J6_stringSize_0f7a4_11 post x0_3 0))
set_option maxHeartbeats 4000000 in
set_option maxRecDepth 100000 in
theorem kB_J6_stringSize_0f7a4_16 {p : Program} {l : Launch} {e : Env} {s : State} {m : MethodId} {args : Array Value} {below : List Frame} {meth : Method} {c : Code} {A : Nat → Prop} {E : EnvT} {aK aV aE : Nat → Nat} {aO : Nat} (C : sCx p s m args meth c cJ6_stringSize_0f7a4 4 (some .int) wgJ6_stringSize_0f7a4 RJ6 E A) (vM : eXs aK aV aE aO E) {post : Int32 → Prop}
    {k16 : Int32 → Int32 → Int32 → Int32 → Prop} (hk16 : ∀ (x0 : Int32) (x1 : Int32) (x2 : Int32) (x3 : Int32) (H : Heap) (locs : List Loc) (ls : Array Slot), va_S A s.heap H locs → lv_has ls 4 [(0, .int x0), (1, .int x1), (2, .int x2), (3, .int x3)] → k16 x0 x1 x2 x3 → W p l e rm_J6_stringSize_0f7a4 s m args below meth c H locs 0 0 (MQ below (va_Qi (S := Unit) (fun r _ => post r) (fun _ _ => True) A) args s 0 0 A) (F0 m 16 ls [])) :
    ∀ (x0 : Int32) (x1 : Int32) (x2 : Int32) (x3 : Int32) (H : Heap) (locs : List Loc) (ls : Array Slot), va_S A s.heap H locs → lv_has ls 4 [(0, .int x0), (1, .int x1), (2, .int x2), (3, .int x3)] → wB_J6_stringSize_0f7a4_16 post k16 x0 x1 x2 x3 → W p l e rm_J6_stringSize_0f7a4 s m args below meth c H locs 0 0 (MQ below (va_Qi (S := Unit) (fun r _ => post r) (fun _ _ => True) A) args s 0 0 A) (F0 m 16 ls []) := by
  obtain ⟨hx, hb, hml, hr, hown, hts, hA, hlk, hE, vE⟩ := id C
  intro x0 x1 x2 x3 H locs ls hG hl hw
  have hS := hG
  refine lv_iload_n hx hb dJ6_stringSize_0f7a4_16 rfl (lv_at hl 3 rfl) ?_
  refine lv_bipush (v := 10) hx hb dJ6_stringSize_0f7a4_17 (by decide) ?_
  refine lv_icmp_ge (tgt := 42) hx hb dJ6_stringSize_0f7a4_19 (by decide) (fun q_ => ?_) (fun q_ => ?_)
  · have hw := hw.1 q_
    refine lv_bipush (v := 10) hx hb dJ6_stringSize_0f7a4_42 (by decide) ?_
    refine lv_iload_n hx hb dJ6_stringSize_0f7a4_44 rfl (lv_at hl 1 rfl) ?_
    refine lv_iadd hx hb dJ6_stringSize_0f7a4_45 ?_
    exact W.iret (v := 10 + x1) hx hb hr (fun t ht hW => ⟨⟨_, (), rfl, hw, trivial⟩, hS.F ht⟩) hS.2.2 dJ6_stringSize_0f7a4_46 hlk
  · have hw := hw.2 q_
    refine lv_iload_n hx hb dJ6_stringSize_0f7a4_22 rfl (lv_at hl 0 rfl) ?_
    refine lv_iload_n hx hb dJ6_stringSize_0f7a4_23 rfl (lv_at hl 2 rfl) ?_
    refine lv_icmp_le (tgt := 31) hx hb dJ6_stringSize_0f7a4_24 (by decide) (fun q_ => ?_) (fun q_ => ?_)
    · have hw := hw.1 q_
      refine lv_bipush (v := 10) hx hb dJ6_stringSize_0f7a4_31 (by decide) ?_
      refine lv_iload_n hx hb dJ6_stringSize_0f7a4_33 rfl (lv_at hl 2 rfl) ?_
      refine lv_imul hx hb dJ6_stringSize_0f7a4_34 ?_
      refine lv_topi (fun x2_1 ex2_1 => ?_)
      have hw := hw x2_1 ex2_1
      refine lv_istore_n (lv' := [(2, .int x2_1), (0, .int x0), (1, .int x1), (3, .int x3)]) hx hb dJ6_stringSize_0f7a4_35 rfl hl (by decide) rfl (fun ls hl => ?_)
      obtain ⟨x3_2, ex3_2⟩ : ∃ y : Int32, y = x3 + 1 := ⟨_, rfl⟩
      have hw := hw x3_2 ex3_2
      refine lv_iinc (v := x3_2) (lv' := [(3, .int x3_2), (2, .int x2_1), (0, .int x0), (1, .int x1)]) hx hb dJ6_stringSize_0f7a4_36 hl (k := 3) rfl (by rw [ex3_2]; rfl) (by decide) rfl (fun ls hl => ?_)
      refine lv_goto (tgt := 16) hx hb dJ6_stringSize_0f7a4_39 (by decide) ?_
      exact hk16 x0 x1 x2_1 x3_2 _ _ _ hG (lv_sub hl [2, 3, 1, 0] rfl) hw
    · have hw := hw.2 q_
      refine lv_iload_n hx hb dJ6_stringSize_0f7a4_27 rfl (lv_at hl 3 rfl) ?_
      refine lv_iload_n hx hb dJ6_stringSize_0f7a4_28 rfl (lv_at hl 1 rfl) ?_
      refine lv_iadd hx hb dJ6_stringSize_0f7a4_29 ?_
      exact W.iret (v := x3 + x1) hx hb hr (fun t ht hW => ⟨⟨_, (), rfl, hw, trivial⟩, hS.F ht⟩) hS.2.2 dJ6_stringSize_0f7a4_30 hlk
theorem kL_J6_stringSize_0f7a4_16 {p : Program} {l : Launch} {e : Env} {s : State} {m : MethodId} {args : Array Value} {below : List Frame} {meth : Method} {c : Code} {A : Nat → Prop} {E : EnvT} {aK aV aE : Nat → Nat} {aO : Nat} (C : sCx p s m args meth c cJ6_stringSize_0f7a4 4 (some .int) wgJ6_stringSize_0f7a4 RJ6 E A) (vM : eXs aK aV aE aO E) {post : Int32 → Prop} :
    ∀ (n : Nat) (x0 : Int32) (x1 : Int32) (x2 : Int32) (x3 : Int32) (H : Heap) (locs : List Loc) (ls : Array Slot), va_S A s.heap H locs → lv_has ls 4 [(0, .int x0), (1, .int x1), (2, .int x2), (3, .int x3)] → wL_J6_stringSize_0f7a4_16 post n x0 x1 x2 x3 → W p l e rm_J6_stringSize_0f7a4 s m args below meth c H locs 0 0 (MQ below (va_Qi (S := Unit) (fun r _ => post r) (fun _ _ => True) A) args s 0 0 A) (F0 m 16 ls []) := by
  intro n
  induction n with
  | zero => intro x0 x1 x2 x3 H locs ls hG hl hw; exact hw.elim
  | succ n ih => exact kB_J6_stringSize_0f7a4_16 C vM ih
set_option maxHeartbeats 4000000 in
set_option maxRecDepth 100000 in
theorem kB_J6_stringSize_0f7a4_11 {p : Program} {l : Launch} {e : Env} {s : State} {m : MethodId} {args : Array Value} {below : List Frame} {meth : Method} {c : Code} {A : Nat → Prop} {E : EnvT} {aK aV aE : Nat → Nat} {aO : Nat} (C : sCx p s m args meth c cJ6_stringSize_0f7a4 4 (some .int) wgJ6_stringSize_0f7a4 RJ6 E A) (vM : eXs aK aV aE aO E) {post : Int32 → Prop} :
    ∀ (x0 : Int32) (x1 : Int32) (H : Heap) (locs : List Loc) (ls : Array Slot), va_S A s.heap H locs → lv_has ls 4 [(0, .int x0), (1, .int x1)] → wB_J6_stringSize_0f7a4_11 post x0 x1 → W p l e rm_J6_stringSize_0f7a4 s m args below meth c H locs 0 0 (MQ below (va_Qi (S := Unit) (fun r _ => post r) (fun _ _ => True) A) args s 0 0 A) (F0 m 11 ls []) := by
  obtain ⟨hx, hb, hml, hr, hown, hts, hA, hlk, hE, vE⟩ := id C
  intro x0 x1 H locs ls hG hl hw
  have hS := hG
  refine lv_bipush (v := (-10)) hx hb dJ6_stringSize_0f7a4_11 (by decide) ?_
  refine lv_istore_n (lv' := [(2, .int (-10)), (0, .int x0), (1, .int x1)]) hx hb dJ6_stringSize_0f7a4_13 rfl hl (by decide) rfl (fun ls hl => ?_)
  refine lv_iconst (v := 1) hx hb dJ6_stringSize_0f7a4_14 (by decide) ?_
  refine lv_istore_n (lv' := [(3, .int 1), (2, .int (-10)), (0, .int x0), (1, .int x1)]) hx hb dJ6_stringSize_0f7a4_15 rfl hl (by decide) rfl (fun ls hl => ?_)
  obtain ⟨n_, hw⟩ := hw
  exact kL_J6_stringSize_0f7a4_16 C vM n_ x0 x1 (-10) 1 _ _ _ hG (lv_sub hl [2, 3, 1, 0] rfl) hw
set_option maxHeartbeats 4000000 in
set_option maxRecDepth 100000 in
theorem k_J6_stringSize_0f7a4 {p : Program} {l : Launch} {e : Env} {s : State} {m : MethodId} {args : Array Value} {below : List Frame} {meth : Method} {c : Code} {A : Nat → Prop} {E : EnvT} {aK aV aE : Nat → Nat} {aO : Nat} (C : sCx p s m args meth c cJ6_stringSize_0f7a4 4 (some .int) wgJ6_stringSize_0f7a4 RJ6 E A) (vM : eXs aK aV aE aO E) {post : Int32 → Prop} :
    ∀ (x0 : Int32) (H : Heap) (locs : List Loc) (ls : Array Slot), va_S A s.heap H locs → lv_has ls 4 [(0, .int x0)] → wp_J6_stringSize_0f7a4 post x0 → W p l e rm_J6_stringSize_0f7a4 s m args below meth c H locs 0 0 (MQ below (va_Qi (S := Unit) (fun r _ => post r) (fun _ _ => True) A) args s 0 0 A) (F0 m 0 ls []) := by
  obtain ⟨hx, hb, hml, hr, hown, hts, hA, hlk, hE, vE⟩ := id C
  intro x0 H locs ls hG hl hw
  have hS := hG
  refine lv_iconst (v := 1) hx hb dJ6_stringSize_0f7a4_0 (by decide) ?_
  refine lv_istore_n (lv' := [(1, .int 1), (0, .int x0)]) hx hb dJ6_stringSize_0f7a4_1 rfl hl (by decide) rfl (fun ls hl => ?_)
  refine lv_iload_n hx hb dJ6_stringSize_0f7a4_2 rfl (lv_at hl 1 rfl) ?_
  refine lv_if_lt (tgt := 11) hx hb dJ6_stringSize_0f7a4_3 (by decide) (fun q_ => ?_) (fun q_ => ?_)
  · have hw := hw.1 q_
    exact kB_J6_stringSize_0f7a4_11 C vM x0 1 _ _ _ hG (lv_sub hl [1, 0] rfl) hw
  · have hw := hw.2 q_
    refine lv_iconst (v := 0) hx hb dJ6_stringSize_0f7a4_6 (by decide) ?_
    refine lv_istore_n (lv' := [(1, .int 0), (0, .int x0)]) hx hb dJ6_stringSize_0f7a4_7 rfl hl (by decide) rfl (fun ls hl => ?_)
    refine lv_iload_n hx hb dJ6_stringSize_0f7a4_8 rfl (lv_at hl 1 rfl) ?_
    refine lv_ineg hx hb dJ6_stringSize_0f7a4_9 ?_
    refine lv_topi (fun x0_3 ex0_3 => ?_)
    have hw := hw x0_3 ex0_3
    refine lv_istore_n (lv' := [(0, .int x0_3), (1, .int 0)]) hx hb dJ6_stringSize_0f7a4_10 rfl hl (by decide) rfl (fun ls hl => ?_)
    exact kB_J6_stringSize_0f7a4_11 C vM x0_3 0 _ _ _ hG (lv_sub hl [0, 1] rfl) hw
set_option maxHeartbeats 4000000 in
set_option maxRecDepth 100000 in
theorem met_J6_stringSize_0f7a4 {l : Launch} {E : EnvT} (vE : EnvOk E) {aK aV aE : Nat → Nat} {aO : Nat} (vM : eXs aK aV aE aO E) {sz : Nat} {x0 : Int32} {post : Int32 → Prop} (hw : wp_J6_stringSize_0f7a4 post x0) : Met l yJ6_stringSize_0f7a4 wgJ6_stringSize_0f7a4 rm_J6_stringSize_0f7a4 (va_Pc [.int x0] (sPre E sz)) (va_Qi (S := Unit) (fun r _ => post r) (fun _ _ => True) (va_A [] sz)) 0 0 (va_A [] sz) := by
  refine Met.ofW (cc := cJ6_stringSize_0f7a4) (maxL := 4) (ret := (some .int)) (by decide +kernel) rfl ?_
  intro p e s m args below meth c s₁ B hml hv
  obtain ⟨rfl, hsz, hE⟩ := hv
  subst hsz
  generalize hAe : va_A [] s.heap.size = A at hE ⊢
  have hA : ∀ q : Nat, s.heap.size ≤ q → A q := fun q h => by rw [← hAe]; exact Or.inr h
  have hS : va_S A s.heap s.heap [] := va_S.rf
  have C : sCx p s m _ meth c cJ6_stringSize_0f7a4 4 (some .int) wgJ6_stringSize_0f7a4 RJ6 E A := ⟨B.exec, B.bytes, hml, B.returns, findClass_of_methodNamed B.named, atoms_spec (ws := wgJ6_stringSize_0f7a4) B.pre, hA, B.notSynchronized, hE, vE⟩
  have hG := hS
  have hl := lv_entry ([.int x0]) (n := 4) (Nat.le_of_ble_eq_true rfl)
  rw [lg_entry_eq]
  generalize (lg_sl ([.int x0]) ++ List.replicate (4 - (lg_sl ([.int x0])).length) Slot.unset).toArray = ls at hl ⊢
  have hl : lv_has ls 4 [(0, .int x0)] := hl
  exact k_J6_stringSize_0f7a4 C vM x0 _ _ _ hG hl hw
/-! ===== J5_isLatin1_aae02 ===== -/
def rm_J5_isLatin1_aae02 : Room := { frames := 0, cells := 0, slots := 0, locals := 0 }
abbrev wgJ5_isLatin1_aae02 : List Cond := .code yJ5_isLatin1_aae02 cJ5_isLatin1_aae02 1 (some .boolean) :: TB
def wB_J5_isLatin1_aae02_18 (post : Int32 → BS → Prop) (t0 : Int32) (σ : BS) : Prop :=
  isB t0 ∧ (post t0 σ)
def wB_J5_isLatin1_aae02_17 (post : Int32 → BS → Prop) (σ : BS) : Prop :=
  wB_J5_isLatin1_aae02_18 post 0 σ
def wp_J5_isLatin1_aae02 (post : Int32 → BS → Prop) (σ : BS) : Prop :=
  ((1 : Int32) = 0 → (wB_J5_isLatin1_aae02_17 post σ)) ∧ (¬ (1 : Int32) = 0 → (((0 : Int32) = 0 → (wB_J5_isLatin1_aae02_18 post 1 σ)) ∧ (¬ (0 : Int32) = 0 → (wB_J5_isLatin1_aae02_17 post σ))))
set_option maxHeartbeats 4000000 in
set_option maxRecDepth 100000 in
theorem kB_J5_isLatin1_aae02_18 {p : Program} {l : Launch} {e : Env} {s : State} {m : MethodId} {args : Array Value} {below : List Frame} {meth : Method} {c : Code} {A : Nat → Prop} {E : EnvT} {aK aV aE : Nat → Nat} {aO : Nat} {dO dT : Nat} {D : va_G} {cA : Nat → ClassId} {ab : Nat} (C : zCx p s m args meth c cJ5_isLatin1_aae02 1 (some .boolean) wgJ5_isLatin1_aae02 RJ5 E D cA A) (vM : eXs aK aV aE aO E) (vB : eBs dO dT E) {post : Int32 → BS → Prop} :
    ∀ (t0 : Int32) (σ : BS) (H : Heap) (locs : List Loc) (ls : Array Slot), zG D cA ab A s σ H locs → lv_has ls 1 [] → wB_J5_isLatin1_aae02_18 post t0 σ → W p l e rm_J5_isLatin1_aae02 s m args below meth c H locs 0 0 (MQ below (va_Qi post (zAt D cA ab A) A) args s 0 0 A) (F0 m 18 ls [.int t0]) := by
  obtain ⟨hx, hb, hml, hr, hown, hts, hK, hA, hlk, hE, vE⟩ := id C
  intro t0 σ H locs ls hG hl hw
  obtain ⟨hP, hD, hS⟩ := id hG
  obtain ⟨h_1, hw⟩ := hw
  exact W.zret (v := t0) (ty := .boolean) hx hb hr (isB.n h_1) (fun t ht hW => ⟨⟨_, σ, rfl, hw, by rw [ht]; exact hP, va_K.moved hW.alike hK, hD⟩, hS.F ht⟩) hS.2.2 dJ5_isLatin1_aae02_18 hlk
set_option maxHeartbeats 4000000 in
set_option maxRecDepth 100000 in
theorem kB_J5_isLatin1_aae02_17 {p : Program} {l : Launch} {e : Env} {s : State} {m : MethodId} {args : Array Value} {below : List Frame} {meth : Method} {c : Code} {A : Nat → Prop} {E : EnvT} {aK aV aE : Nat → Nat} {aO : Nat} {dO dT : Nat} {D : va_G} {cA : Nat → ClassId} {ab : Nat} (C : zCx p s m args meth c cJ5_isLatin1_aae02 1 (some .boolean) wgJ5_isLatin1_aae02 RJ5 E D cA A) (vM : eXs aK aV aE aO E) (vB : eBs dO dT E) {post : Int32 → BS → Prop} :
    ∀ (σ : BS) (H : Heap) (locs : List Loc) (ls : Array Slot), zG D cA ab A s σ H locs → lv_has ls 1 [] → wB_J5_isLatin1_aae02_17 post σ → W p l e rm_J5_isLatin1_aae02 s m args below meth c H locs 0 0 (MQ below (va_Qi post (zAt D cA ab A) A) args s 0 0 A) (F0 m 17 ls []) := by
  obtain ⟨hx, hb, hml, hr, hown, hts, hK, hA, hlk, hE, vE⟩ := id C
  intro σ H locs ls hG hl hw
  obtain ⟨hP, hD, hS⟩ := id hG
  refine lv_iconst (v := 0) hx hb dJ5_isLatin1_aae02_17 (by decide) ?_
  exact kB_J5_isLatin1_aae02_18 C vM vB 0 σ _ _ _ hG (lv_sub hl [] rfl) hw
set_option maxHeartbeats 4000000 in
set_option maxRecDepth 100000 in
theorem k_J5_isLatin1_aae02 {p : Program} {l : Launch} {e : Env} {s : State} {m : MethodId} {args : Array Value} {below : List Frame} {meth : Method} {c : Code} {A : Nat → Prop} {E : EnvT} {aK aV aE : Nat → Nat} {aO : Nat} {dO dT : Nat} {D : va_G} {cA : Nat → ClassId} {ab : Nat} (C : zCx p s m args meth c cJ5_isLatin1_aae02 1 (some .boolean) wgJ5_isLatin1_aae02 RJ5 E D cA A) (vM : eXs aK aV aE aO E) (vB : eBs dO dT E) {post : Int32 → BS → Prop} :
    ∀ (σ : BS) (H : Heap) (locs : List Loc) (ls : Array Slot), zG D cA ab A s σ H locs → lv_has ls 1 [(0, .ref ab)] → wp_J5_isLatin1_aae02 post σ → W p l e rm_J5_isLatin1_aae02 s m args below meth c H locs 0 0 (MQ below (va_Qi post (zAt D cA ab A) A) args s 0 0 A) (F0 m 0 ls []) := by
  obtain ⟨hx, hb, hml, hr, hown, hts, hK, hA, hlk, hE, vE⟩ := id C
  intro σ H locs ls hG hl hw
  obtain ⟨hP, hD, hS⟩ := id hG
  refine va_gets hx hb (eX.compact (vM _ _ _ hE)) hS hown (hts _ (List.mem_cons_of_mem _ tw_1_196)) (fun _ h => h) dJ5_isLatin1_aae02_0 ?_
  refine lv_if_eq (tgt := 17) hx hb dJ5_isLatin1_aae02_3 (by decide) (fun q_ => ?_) (fun q_ => ?_)
  · have hw := hw.1 q_
    exact kB_J5_isLatin1_aae02_17 C vM vB  σ _ _ _ hG (lv_sub hl [] rfl) hw
  · have hw := hw.2 q_
    refine lv_aload_n hx hb dJ5_isLatin1_aae02_6 rfl (lv_at hl 0 rfl) ?_
    refine va_get (D := D) (ci := 1) (v := .int 0) (C := RJ4) (T := TJ4) (N := 4) hx hb hts (in_tb inJ4) hown hK hP 0 rfl rfl 1 (by decide) (hts _ (List.mem_cons_of_mem _ tw_1_206)) (fun _ h9 => h9) rfl dJ5_isLatin1_aae02_7 ?_
    refine lv_if_ne (tgt := 17) hx hb dJ5_isLatin1_aae02_10 (by decide) (fun q_ => ?_) (fun q_ => ?_)
    · have hw := hw.2 q_
      exact kB_J5_isLatin1_aae02_17 C vM vB  σ _ _ _ hG (lv_sub hl [] rfl) hw
    · have hw := hw.1 q_
      refine lv_iconst (v := 1) hx hb dJ5_isLatin1_aae02_13 (by decide) ?_
      refine lv_goto (tgt := 18) hx hb dJ5_isLatin1_aae02_14 (by decide) ?_
      exact kB_J5_isLatin1_aae02_18 C vM vB 1 σ _ _ _ hG (lv_sub hl [] rfl) hw
set_option maxHeartbeats 4000000 in
set_option maxRecDepth 100000 in
theorem met_J5_isLatin1_aae02 {l : Launch} {E : EnvT} (vE : EnvOk E) {D : va_G} {cA : Nat → ClassId} {ab : Nat} {σ : BS} {aK aV aE : Nat → Nat} {aO : Nat} {dO dT : Nat} (vM : eXs aK aV aE aO E) (vB : eBs dO dT E) {sz : Nat} {post : Int32 → BS → Prop} (hw : wp_J5_isLatin1_aae02 post σ) : Met l yJ5_isLatin1_aae02 wgJ5_isLatin1_aae02 rm_J5_isLatin1_aae02 (va_Pc [.ref ab] (zPre E D cA ab sz σ)) (va_Qi post (zAt D cA ab (va_A (zW cA ab σ) sz)) (va_A (zW cA ab σ) sz)) 0 0 (va_A (zW cA ab σ) sz) := by
  refine Met.ofW (cc := cJ5_isLatin1_aae02) (maxL := 1) (ret := (some .boolean)) (by decide +kernel) rfl ?_
  intro p e s m args below meth c s₁ B hml hv
  obtain ⟨rfl, hsz, hP, hK, hD0, hE⟩ := hv
  subst hsz
  have hD := hD0.self (sz := s.heap.size)
  generalize hAe : va_A (zW cA ab σ) s.heap.size = A at hD hE ⊢
  have hA : ∀ q : Nat, s.heap.size ≤ q → A q := fun q h => by rw [← hAe]; exact Or.inr h
  have hS : va_S A s.heap s.heap [] := va_S.rf
  have C : zCx p s m _ meth c cJ5_isLatin1_aae02 1 (some .boolean) wgJ5_isLatin1_aae02 RJ5 E D cA A := ⟨B.exec, B.bytes, hml, B.returns, findClass_of_methodNamed B.named, atoms_spec (ws := wgJ5_isLatin1_aae02) B.pre, hK, hA, B.notSynchronized, hE, vE⟩
  have hG : zG D cA ab A s σ s.heap [] := ⟨hP, hD, hS⟩
  have hl := lv_entry ([.ref ab]) (n := 1) (Nat.le_of_ble_eq_true rfl)
  rw [lg_entry_eq]
  generalize (lg_sl ([.ref ab]) ++ List.replicate (1 - (lg_sl ([.ref ab])).length) Slot.unset).toArray = ls at hl ⊢
  have hl : lv_has ls 1 [(0, .ref ab)] := hl
  exact k_J5_isLatin1_aae02 C vM vB σ _ _ _ hG hl hw
/-! ===== J5_newCapacity_0f7a4 ===== -/
def rm_J5_newCapacity_0f7a4 : Room := { frames := 2, cells := 0, slots := 0, locals := 44 }
abbrev wgJ5_newCapacity_0f7a4 : List Cond := .code yJ5_newCapacity_0f7a4 cJ5_newCapacity_0f7a4 6 (some .int) :: TB
def wp_J5_newCapacity_0f7a4 (post : Int32 → BS → Prop) (x1 : Int32) (σ : BS) : Prop :=
  ∀ x2_2 : Int32, x2_2 = Int32.ofNat (zN σ 1) → ∀ x3_3 : Int32, x3_3 = x1 <<< ((0 : Int32) &&& 31) → ∀ x4_4 : Int32, x4_4 = x3_3 - x2_2 → wp_J8_newLength_cabcc (fun r_5  => (r_5 = 2147483647 → (False)) ∧ (¬ r_5 = 2147483647 → (post (r_5 >>> ((0 : Int32) &&& 31)) σ))) x2_2 x4_4 (x2_2 + ((2 : Int32) <<< ((0 : Int32) &&& 31)))
set_option maxHeartbeats 4000000 in
set_option maxRecDepth 100000 in
theorem k_J5_newCapacity_0f7a4 {p : Program} {l : Launch} {e : Env} {s : State} {m : MethodId} {args : Array Value} {below : List Frame} {meth : Method} {c : Code} {A : Nat → Prop} {E : EnvT} {aK aV aE : Nat → Nat} {aO : Nat} {dO dT : Nat} {D : va_G} {cA : Nat → ClassId} {ab : Nat} (C : zCx p s m args meth c cJ5_newCapacity_0f7a4 6 (some .int) wgJ5_newCapacity_0f7a4 RJ5 E D cA A) (vM : eXs aK aV aE aO E) (vB : eBs dO dT E) {post : Int32 → BS → Prop} :
    ∀ (x1 : Int32) (σ : BS) (H : Heap) (locs : List Loc) (ls : Array Slot), zG D cA ab A s σ H locs → lv_has ls 6 [(0, .ref ab), (1, .int x1)] → wp_J5_newCapacity_0f7a4 post x1 σ → W p l e rm_J5_newCapacity_0f7a4 s m args below meth c H locs 0 0 (MQ below (va_Qi post (zAt D cA ab A) A) args s 0 0 A) (F0 m 0 ls []) := by
  obtain ⟨hx, hb, hml, hr, hown, hts, hK, hA, hlk, hE, vE⟩ := id C
  intro x1 σ H locs ls hG hl hw
  obtain ⟨hP, hD, hS⟩ := id hG
  refine lv_aload_n hx hb dJ5_newCapacity_0f7a4_0 rfl (lv_at hl 0 rfl) ?_
  refine va_get (D := D) (ci := 1) (v := .ref (zN σ 0)) (C := RJ4) (T := TJ4) (N := 4) hx hb hts (in_tb inJ4) hown hK hP 0 rfl rfl 0 (by decide) (hts _ (List.mem_cons_of_mem _ tw_1_205)) (fun _ h9 => h9) rfl dJ5_newCapacity_0f7a4_1 ?_
  have eak_1 : zN σ 0 = zN σ 0 := rfl
  have enk_1 : zN σ 1 = zN σ 1 := rfl
  refine va_alen (v := Int32.ofNat (zN σ 1)) hx hb hK hP 1 4 (zW_at eak_1 enk_1) rfl rfl dJ5_newCapacity_0f7a4_4 ?_
  refine lv_topi (fun x2_2 ex2_2 => ?_)
  have hw := hw x2_2 ex2_2
  refine lv_istore_n (lv' := [(2, .int x2_2), (0, .ref ab), (1, .int x1)]) hx hb dJ5_newCapacity_0f7a4_5 rfl hl (by decide) rfl (fun ls hl => ?_)
  refine lv_iload_n hx hb dJ5_newCapacity_0f7a4_6 rfl (lv_at hl 2 rfl) ?_
  refine lv_aload_n hx hb dJ5_newCapacity_0f7a4_7 rfl (lv_at hl 1 rfl) ?_
  refine va_get (D := D) (ci := 1) (v := .int 0) (C := RJ4) (T := TJ4) (N := 4) hx hb hts (in_tb inJ4) hown hK hP 0 rfl rfl 1 (by decide) (hts _ (List.mem_cons_of_mem _ tw_1_206)) (fun _ h9 => h9) rfl dJ5_newCapacity_0f7a4_8 ?_
  refine lv_ishl hx hb dJ5_newCapacity_0f7a4_11 ?_
  refine lv_topi (fun x3_3 ex3_3 => ?_)
  have hw := hw x3_3 ex3_3
  refine lv_istore_n (lv' := [(3, .int x3_3), (2, .int x2_2), (0, .ref ab), (1, .int x1)]) hx hb dJ5_newCapacity_0f7a4_12 rfl hl (by decide) rfl (fun ls hl => ?_)
  refine lv_iload_n hx hb dJ5_newCapacity_0f7a4_13 rfl (lv_at hl 0 rfl) ?_
  refine lv_iload_n hx hb dJ5_newCapacity_0f7a4_14 rfl (lv_at hl 1 rfl) ?_
  refine lv_isub hx hb dJ5_newCapacity_0f7a4_15 ?_
  refine lv_topi (fun x4_4 ex4_4 => ?_)
  have hw := hw x4_4 ex4_4
  refine lv_istore (lv' := [(4, .int x4_4), (3, .int x3_3), (2, .int x2_2), (0, .ref ab), (1, .int x1)]) hx hb dJ5_newCapacity_0f7a4_16 hl (by decide) rfl (fun ls hl => ?_)
  refine lv_iload_n hx hb dJ5_newCapacity_0f7a4_18 rfl (lv_at hl 2 rfl) ?_
  refine lv_iload hx hb dJ5_newCapacity_0f7a4_19 (lv_at hl 0 rfl) ?_
  refine lv_iload_n hx hb dJ5_newCapacity_0f7a4_21 rfl (lv_at hl 2 rfl) ?_
  refine lv_iconst (v := 2) hx hb dJ5_newCapacity_0f7a4_22 (by decide) ?_
  refine lv_aload_n hx hb dJ5_newCapacity_0f7a4_23 rfl (lv_at hl 3 rfl) ?_
  refine va_get (D := D) (ci := 1) (v := .int 0) (C := RJ4) (T := TJ4) (N := 4) hx hb hts (in_tb inJ4) hown hK hP 0 rfl rfl 1 (by decide) (hts _ (List.mem_cons_of_mem _ tw_1_206)) (fun _ h9 => h9) rfl dJ5_newCapacity_0f7a4_24 ?_
  refine lv_ishl hx hb dJ5_newCapacity_0f7a4_27 ?_
  refine lv_iadd hx hb dJ5_newCapacity_0f7a4_28 ?_
  refine zS_i (As := [.int x2_2, .int x4_4, .int (x2_2 + ((2 : Int32) <<< ((0 : Int32) &&& 31)))]) (rest := []) C (met_J8_newLength_cabcc vE vM hw) (va_cwS 3 hts (TB_G (TB_3 tw_2_220 tw_2_221 tw_1_26) tw_2_222) rfl rfl rfl (by decide +kernel) ⟨by decide, by decide⟩) hP hD hS rfl hl.1 rfl (Nat.le_of_ble_eq_true rfl) dJ5_newCapacity_0f7a4_29 ⟨by decide, by decide⟩ (fun r_5 H locs hw hP hS => ?_)
  have hG : zG D cA ab A s σ H locs := ⟨hP, hD, hS⟩
  refine lv_istore (lv' := [(5, .int r_5), (4, .int x4_4), (3, .int x3_3), (2, .int x2_2), (0, .ref ab), (1, .int x1)]) hx hb dJ5_newCapacity_0f7a4_32 hl (by decide) rfl (fun ls hl => ?_)
  refine lv_iload hx hb dJ5_newCapacity_0f7a4_34 (lv_at hl 0 rfl) ?_
  refine lv_ldc (v := 2147483647) hx hb hown (hts _ (List.mem_cons_of_mem _ tw_2_228)) dJ5_newCapacity_0f7a4_36 ?_
  refine lv_icmp_ne (tgt := 51) hx hb dJ5_newCapacity_0f7a4_38 (by decide) (fun q_ => ?_) (fun q_ => ?_)
  · have hw := hw.2 q_
    refine lv_iload hx hb dJ5_newCapacity_0f7a4_51 (lv_at hl 0 rfl) ?_
    refine lv_aload_n hx hb dJ5_newCapacity_0f7a4_53 rfl (lv_at hl 4 rfl) ?_
    refine va_get (D := D) (ci := 1) (v := .int 0) (C := RJ4) (T := TJ4) (N := 4) hx hb hts (in_tb inJ4) hown hK hP 0 rfl rfl 1 (by decide) (hts _ (List.mem_cons_of_mem _ tw_1_206)) (fun _ h9 => h9) rfl dJ5_newCapacity_0f7a4_54 ?_
    refine lv_ishr hx hb dJ5_newCapacity_0f7a4_57 ?_
    exact W.iret (v := r_5 >>> ((0 : Int32) &&& 31)) hx hb hr (fun t ht hW => ⟨⟨_, σ, rfl, hw, by rw [ht]; exact hP, va_K.moved hW.alike hK, hD⟩, hS.F ht⟩) hS.2.2 dJ5_newCapacity_0f7a4_58 hlk
  · have hw := hw.1 q_
    exact hw.elim
set_option maxHeartbeats 4000000 in
set_option maxRecDepth 100000 in
theorem met_J5_newCapacity_0f7a4 {l : Launch} {E : EnvT} (vE : EnvOk E) {D : va_G} {cA : Nat → ClassId} {ab : Nat} {σ : BS} {aK aV aE : Nat → Nat} {aO : Nat} {dO dT : Nat} (vM : eXs aK aV aE aO E) (vB : eBs dO dT E) {sz : Nat} {x1 : Int32} {post : Int32 → BS → Prop} (hw : wp_J5_newCapacity_0f7a4 post x1 σ) : Met l yJ5_newCapacity_0f7a4 wgJ5_newCapacity_0f7a4 rm_J5_newCapacity_0f7a4 (va_Pc [.ref ab, .int x1] (zPre E D cA ab sz σ)) (va_Qi post (zAt D cA ab (va_A (zW cA ab σ) sz)) (va_A (zW cA ab σ) sz)) 0 0 (va_A (zW cA ab σ) sz) := by
  refine Met.ofW (cc := cJ5_newCapacity_0f7a4) (maxL := 6) (ret := (some .int)) (by decide +kernel) rfl ?_
  intro p e s m args below meth c s₁ B hml hv
  obtain ⟨rfl, hsz, hP, hK, hD0, hE⟩ := hv
  subst hsz
  have hD := hD0.self (sz := s.heap.size)
  generalize hAe : va_A (zW cA ab σ) s.heap.size = A at hD hE ⊢
  have hA : ∀ q : Nat, s.heap.size ≤ q → A q := fun q h => by rw [← hAe]; exact Or.inr h
  have hS : va_S A s.heap s.heap [] := va_S.rf
  have C : zCx p s m _ meth c cJ5_newCapacity_0f7a4 6 (some .int) wgJ5_newCapacity_0f7a4 RJ5 E D cA A := ⟨B.exec, B.bytes, hml, B.returns, findClass_of_methodNamed B.named, atoms_spec (ws := wgJ5_newCapacity_0f7a4) B.pre, hK, hA, B.notSynchronized, hE, vE⟩
  have hG : zG D cA ab A s σ s.heap [] := ⟨hP, hD, hS⟩
  have hl := lv_entry ([.ref ab, .int x1]) (n := 6) (Nat.le_of_ble_eq_true rfl)
  rw [lg_entry_eq]
  generalize (lg_sl ([.ref ab, .int x1]) ++ List.replicate (6 - (lg_sl ([.ref ab, .int x1])).length) Slot.unset).toArray = ls at hl ⊢
  have hl : lv_has ls 6 [(0, .ref ab), (1, .int x1)] := hl
  exact k_J5_newCapacity_0f7a4 C vM vB x1 σ _ _ _ hG hl hw
def wp_J0_checkIndex_df160 (post : Prop) (x0 x1 : Int32) : Prop := ¬ x0 < 0 ∧ x0 < x1 ∧ post
theorem met_J0_checkIndex_df160 {l : Launch} {E : EnvT} (vE : EnvOk E) {aK aV aE : Nat → Nat} {aO : Nat} (vM : eXs aK aV aE aO E) {sz : Nat} {x0 x1 : Int32} {post : Prop} (hw : wp_J0_checkIndex_df160 post x0 x1) : Met l yJ0_checkIndex_df160 wgJ0_checkIndex_df160 rmCk (va_Pc [.int x0, .int x1] (sPre E sz)) (va_Qv (S := Unit) (fun _ => post) (fun _ _ => True) (va_A [] sz)) 0 0 (va_A [] sz) := met_J0_checkIndex vE (fun A U H z => eX.str (vM A U H z)) hw.1 hw.2.1 hw.2.2
