/-! ===== X2_named  ===== -/
def rm_X2_named : Room := { frames := 0, cells := 0, slots := 0, locals := 0 }
abbrev wgX2_named : List Cond := .code yX2_named cX2_named 3 (some (.object "KernelText$Op")) :: TB
def wB_X2_named_2 (post : Option Nat → Prop) (k2 : Int64 → Int32 → Prop) (x0 : Int64) (x2 : Int32) : Prop :=
  (53 ≤ x2 → (post none)) ∧ (¬ 53 ≤ x2 → (vp_in x2 53 ∧ ((x2.toNatClampNeg) < 53 ∧ (((opK (x2.toNatClampNeg)) = x0 → (vp_in x2 53 ∧ (post (some (x2.toNatClampNeg))))) ∧ (¬ (opK (x2.toNatClampNeg)) = x0 → (∀ x2_3 : Int32, x2_3 = x2 + 1 → k2 x0 x2_3))))))
def wL_X2_named_2 (post : Option Nat → Prop) : Nat → Int64 → Int32 → Prop
  | 0 => fun _ _ => False
  | n + 1 => wB_X2_named_2 post (wL_X2_named_2 post n)
def wp_X2_named (post : Option Nat → Prop) (x0 : Int64) : Prop :=
  ∃ n, wL_X2_named_2 post n x0 0
set_option maxHeartbeats 4000000 in
set_option maxRecDepth 100000 in
theorem kB_X2_named_2 {p : Program} {l : Launch} {e : Env} {s : State} {m : MethodId} {args : Array Value} {below : List Frame} {meth : Method} {c : Code} {A : Nat → Prop} {E : EnvT} {aK aV aE : Nat → Nat} {aO : Nat} (C : sCx p s m args meth c cX2_named 3 (some (.object "KernelText$Op")) wgX2_named RX2 E A) (vM : eXs aK aV aE aO E) {post : Option Nat → Prop}
    {k2 : Int64 → Int32 → Prop} (hk2 : ∀ (x0 : Int64) (x2 : Int32) (H : Heap) (locs : List Loc) (ls : Array Slot), va_S A s.heap H locs → lv_has ls 3 [(0, .long x0), (2, .int x2)] → k2 x0 x2 → W p l e rm_X2_named s m args below meth c H locs 0 0 (MQ below (va_Qe aE (S := Unit) (fun r _ => post r) (fun _ _ => True) A) args s 0 0 A) (F0 m 2 ls [])) :
    ∀ (x0 : Int64) (x2 : Int32) (H : Heap) (locs : List Loc) (ls : Array Slot), va_S A s.heap H locs → lv_has ls 3 [(0, .long x0), (2, .int x2)] → wB_X2_named_2 post k2 x0 x2 → W p l e rm_X2_named s m args below meth c H locs 0 0 (MQ below (va_Qe aE (S := Unit) (fun r _ => post r) (fun _ _ => True) A) args s 0 0 A) (F0 m 2 ls []) := by
  obtain ⟨hx, hb, hml, hr, hown, hts, hA, hlk, hE, vE⟩ := id C
  intro x0 x2 H locs ls hG hl hw
  have hS := hG
  refine lv_iload_n hx hb dX2_named_2 rfl (lv_at hl 1 rfl) ?_
  refine va_getsN hx hb (eX.ops (vM _ _ _ hE)) hS hown (va_Nw.use rfl (eX.nest (vM _ _ _ hE))) (fun _ h => h) dX2_named_3 ?_
  refine va_tlen (v := 53) hx hb (eX.opsT (vM _ _ _ hE)) hS rfl dX2_named_6 ?_
  refine lv_icmp_ge (tgt := 35) hx hb dX2_named_7 (by decide) (fun q_ => ?_) (fun q_ => ?_)
  · have hw := hw.1 q_
    refine lv_null hx hb dX2_named_35 ?_
    exact W.aret (v := va_re aE (none)) hx hb hr (Or.inl ⟨_, rfl⟩) (va_re_or _ _) (fun t ht hW => ⟨⟨none, (), rfl, hw, trivial⟩, hS.F ht⟩) hS.2.2 dX2_named_36 hlk
  · have hw := hw.2 q_
    refine va_getsN hx hb (eX.ops (vM _ _ _ hE)) hS hown (va_Nw.use rfl (eX.nest (vM _ _ _ hE))) (fun _ h => h) dX2_named_10 ?_
    refine lv_iload_n hx hb dX2_named_13 rfl (lv_at hl 1 rfl) ?_
    obtain ⟨h_1, hw⟩ := hw
    refine vb_tq hx hb (eX.opsT (vM _ _ _ hE)) hS h_1 rfl dX2_named_14 ?_
    obtain ⟨h_2, hw⟩ := hw
    refine vk_getf hx hb (eX.o_key (vM _ _ _ hE) h_2) hS hown (hts _ (List.mem_cons_of_mem _ tw_6_225)) (fun _ h => h) dX2_named_15 ?_
    refine lv_lload_n hx hb dX2_named_18 rfl (lv_at hl 0 rfl) ?_
    refine W.lcmp hx hb dX2_named_19 ?_
    refine lv_if_ne (tgt := 29) hx hb dX2_named_20 (by decide) (fun q_ => ?_) (fun q_ => ?_)
    · have hw := hw.2 (fun z => q_ (lc_eq.mpr z))
      obtain ⟨x2_3, ex2_3⟩ : ∃ y : Int32, y = x2 + 1 := ⟨_, rfl⟩
      have hw := hw x2_3 ex2_3
      refine lv_iinc (v := x2_3) (lv' := [(2, .int x2_3), (0, .long x0)]) hx hb dX2_named_29 hl (k := 1) rfl (by rw [ex2_3]; rfl) (by decide) rfl (fun ls hl => ?_)
      refine lv_goto (tgt := 2) hx hb dX2_named_32 (by decide) ?_
      exact hk2 x0 x2_3 _ _ _ hG (lv_sub hl [1, 0] rfl) hw
    · have hw := hw.1 (lc_eq.mp q_)
      refine va_getsN hx hb (eX.ops (vM _ _ _ hE)) hS hown (va_Nw.use rfl (eX.nest (vM _ _ _ hE))) (fun _ h => h) dX2_named_23 ?_
      refine lv_iload_n hx hb dX2_named_26 rfl (lv_at hl 1 rfl) ?_
      obtain ⟨h_4, hw⟩ := hw
      refine vb_tq hx hb (eX.opsT (vM _ _ _ hE)) hS h_4 rfl dX2_named_27 ?_
      exact W.aret (v := va_re aE (some (x2.toNatClampNeg))) hx hb hr (Or.inl ⟨_, rfl⟩) (va_re_or _ _) (fun t ht hW => ⟨⟨some (x2.toNatClampNeg), (), rfl, hw, trivial⟩, hS.F ht⟩) hS.2.2 dX2_named_28 hlk
theorem kL_X2_named_2 {p : Program} {l : Launch} {e : Env} {s : State} {m : MethodId} {args : Array Value} {below : List Frame} {meth : Method} {c : Code} {A : Nat → Prop} {E : EnvT} {aK aV aE : Nat → Nat} {aO : Nat} (C : sCx p s m args meth c cX2_named 3 (some (.object "KernelText$Op")) wgX2_named RX2 E A) (vM : eXs aK aV aE aO E) {post : Option Nat → Prop} :
    ∀ (n : Nat) (x0 : Int64) (x2 : Int32) (H : Heap) (locs : List Loc) (ls : Array Slot), va_S A s.heap H locs → lv_has ls 3 [(0, .long x0), (2, .int x2)] → wL_X2_named_2 post n x0 x2 → W p l e rm_X2_named s m args below meth c H locs 0 0 (MQ below (va_Qe aE (S := Unit) (fun r _ => post r) (fun _ _ => True) A) args s 0 0 A) (F0 m 2 ls []) := by
  intro n
  induction n with
  | zero => intro x0 x2 H locs ls hG hl hw; exact hw.elim
  | succ n ih => exact kB_X2_named_2 C vM ih
set_option maxHeartbeats 4000000 in
set_option maxRecDepth 100000 in
theorem k_X2_named {p : Program} {l : Launch} {e : Env} {s : State} {m : MethodId} {args : Array Value} {below : List Frame} {meth : Method} {c : Code} {A : Nat → Prop} {E : EnvT} {aK aV aE : Nat → Nat} {aO : Nat} (C : sCx p s m args meth c cX2_named 3 (some (.object "KernelText$Op")) wgX2_named RX2 E A) (vM : eXs aK aV aE aO E) {post : Option Nat → Prop} :
    ∀ (x0 : Int64) (H : Heap) (locs : List Loc) (ls : Array Slot), va_S A s.heap H locs → lv_has ls 3 [(0, .long x0)] → wp_X2_named post x0 → W p l e rm_X2_named s m args below meth c H locs 0 0 (MQ below (va_Qe aE (S := Unit) (fun r _ => post r) (fun _ _ => True) A) args s 0 0 A) (F0 m 0 ls []) := by
  obtain ⟨hx, hb, hml, hr, hown, hts, hA, hlk, hE, vE⟩ := id C
  intro x0 H locs ls hG hl hw
  have hS := hG
  refine lv_iconst (v := 0) hx hb dX2_named_0 (by decide) ?_
  refine lv_istore_n (lv' := [(2, .int 0), (0, .long x0)]) hx hb dX2_named_1 rfl hl (by decide) rfl (fun ls hl => ?_)
  obtain ⟨n_, hw⟩ := hw
  exact kL_X2_named_2 C vM n_ x0 0 _ _ _ hG (lv_sub hl [1, 0] rfl) hw
set_option maxHeartbeats 4000000 in
set_option maxRecDepth 100000 in
theorem met_X2_named {l : Launch} {E : EnvT} (vE : EnvOk E) {aK aV aE : Nat → Nat} {aO : Nat} (vM : eXs aK aV aE aO E) {sz : Nat} {x0 : Int64} {post : Option Nat → Prop} (hw : wp_X2_named post x0) : Met l yX2_named wgX2_named rm_X2_named (va_Pc [.long x0] (sPre E sz)) (va_Qe aE (S := Unit) (fun r _ => post r) (fun _ _ => True) (va_A [] sz)) 0 0 (va_A [] sz) := by
  refine Met.ofW (cc := cX2_named) (maxL := 3) (ret := (some (.object "KernelText$Op"))) (by decide +kernel) rfl ?_
  intro p e s m args below meth c s₁ B hml hv
  obtain ⟨rfl, hsz, hE⟩ := hv
  subst hsz
  generalize hAe : va_A [] s.heap.size = A at hE ⊢
  have hA : ∀ q : Nat, s.heap.size ≤ q → A q := fun q h => by rw [← hAe]; exact Or.inr h
  have hS : va_S A s.heap s.heap [] := va_S.rf
  have C : sCx p s m _ meth c cX2_named 3 (some (.object "KernelText$Op")) wgX2_named RX2 E A := ⟨B.exec, B.bytes, hml, B.returns, findClass_of_methodNamed B.named, atoms_spec (ws := wgX2_named) B.pre, hA, B.notSynchronized, hE, vE⟩
  have hG := hS
  have hl := lv_entry ([.long x0]) (n := 3) (Nat.le_of_ble_eq_true rfl)
  rw [lg_entry_eq]
  generalize (lg_sl ([.long x0]) ++ List.replicate (3 - (lg_sl ([.long x0])).length) Slot.unset).toArray = ls at hl ⊢
  have hl : lv_has ls 3 [(0, .long x0)] := hl
  exact k_X2_named C vM x0 _ _ _ hG hl hw
/-! ===== X2_hasCodeOf op ===== -/
def rm_X2_hasCodeOf : Room := { frames := 0, cells := 0, slots := 0, locals := 0 }
abbrev wgX2_hasCodeOf : List Cond := .code yX2_hasCodeOf cX2_hasCodeOf 3 (some .boolean) :: TB
def wB_X2_hasCodeOf_22 (post : Int32 → Prop) (t0 : Int32) : Prop :=
  isB t0 ∧ (post t0)
def wp_X2_hasCodeOf (post : Int32 → Prop) (e0 : Nat) (x1 : Int64) : Prop :=
  e0 < 53 ∧ ((((opB e0) &&& 255) = (x1 &&& 255) → (wB_X2_hasCodeOf_22 post 1)) ∧ (¬ ((opB e0) &&& 255) = (x1 &&& 255) → (wB_X2_hasCodeOf_22 post 0)))
set_option maxHeartbeats 4000000 in
set_option maxRecDepth 100000 in
theorem kB_X2_hasCodeOf_22 {p : Program} {l : Launch} {e : Env} {s : State} {m : MethodId} {args : Array Value} {below : List Frame} {meth : Method} {c : Code} {A : Nat → Prop} {E : EnvT} {aK aV aE : Nat → Nat} {aO : Nat} (C : sCx p s m args meth c cX2_hasCodeOf 3 (some .boolean) wgX2_hasCodeOf RX2 E A) (vM : eXs aK aV aE aO E) {post : Int32 → Prop} :
    ∀ (t0 : Int32) (H : Heap) (locs : List Loc) (ls : Array Slot), va_S A s.heap H locs → lv_has ls 3 [] → wB_X2_hasCodeOf_22 post t0 → W p l e rm_X2_hasCodeOf s m args below meth c H locs 0 0 (MQ below (va_Qi (S := Unit) (fun r _ => post r) (fun _ _ => True) A) args s 0 0 A) (F0 m 22 ls [.int t0]) := by
  obtain ⟨hx, hb, hml, hr, hown, hts, hA, hlk, hE, vE⟩ := id C
  intro t0 H locs ls hG hl hw
  have hS := hG
  obtain ⟨h_2, hw⟩ := hw
  exact W.zret (v := t0) (ty := .boolean) hx hb hr (isB.n h_2) (fun t ht hW => ⟨⟨_, (), rfl, hw, trivial⟩, hS.F ht⟩) hS.2.2 dX2_hasCodeOf_22 hlk
set_option maxHeartbeats 4000000 in
set_option maxRecDepth 100000 in
theorem k_X2_hasCodeOf {p : Program} {l : Launch} {e : Env} {s : State} {m : MethodId} {args : Array Value} {below : List Frame} {meth : Method} {c : Code} {A : Nat → Prop} {E : EnvT} {aK aV aE : Nat → Nat} {aO : Nat} (C : sCx p s m args meth c cX2_hasCodeOf 3 (some .boolean) wgX2_hasCodeOf RX2 E A) (vM : eXs aK aV aE aO E) {post : Int32 → Prop} :
    ∀ (e0 : Nat) (x1 : Int64) (H : Heap) (locs : List Loc) (ls : Array Slot), va_S A s.heap H locs → lv_has ls 3 [(0, .ref (aE e0)), (1, .long x1)] → wp_X2_hasCodeOf post e0 x1 → W p l e rm_X2_hasCodeOf s m args below meth c H locs 0 0 (MQ below (va_Qi (S := Unit) (fun r _ => post r) (fun _ _ => True) A) args s 0 0 A) (F0 m 0 ls []) := by
  obtain ⟨hx, hb, hml, hr, hown, hts, hA, hlk, hE, vE⟩ := id C
  intro e0 x1 H locs ls hG hl hw
  have hS := hG
  refine lv_aload_n hx hb dX2_hasCodeOf_0 rfl (lv_at hl 0 rfl) ?_
  obtain ⟨h_1, hw⟩ := hw
  refine vk_getf hx hb (eX.o_base (vM _ _ _ hE) h_1) hS hown (hts _ (List.mem_cons_of_mem _ tw_6_228)) (fun _ h => h) dX2_hasCodeOf_1 ?_
  refine lv_ldc2 (v := 255) hx hb hown (hts _ (List.mem_cons_of_mem _ tw_2_37)) dX2_hasCodeOf_4 ?_
  refine lv_land hx hb dX2_hasCodeOf_7 ?_
  refine lv_lload_n hx hb dX2_hasCodeOf_8 rfl (lv_at hl 1 rfl) ?_
  refine lv_ldc2 (v := 255) hx hb hown (hts _ (List.mem_cons_of_mem _ tw_2_37)) dX2_hasCodeOf_9 ?_
  refine lv_land hx hb dX2_hasCodeOf_12 ?_
  refine W.lcmp hx hb dX2_hasCodeOf_13 ?_
  refine lv_if_ne (tgt := 21) hx hb dX2_hasCodeOf_14 (by decide) (fun q_ => ?_) (fun q_ => ?_)
  · have hw := hw.2 (fun z => q_ (lc_eq.mpr z))
    refine lv_iconst (v := 0) hx hb dX2_hasCodeOf_21 (by decide) ?_
    exact kB_X2_hasCodeOf_22 C vM 0 _ _ _ hG (lv_sub hl [] rfl) hw
  · have hw := hw.1 (lc_eq.mp q_)
    refine lv_iconst (v := 1) hx hb dX2_hasCodeOf_17 (by decide) ?_
    refine lv_goto (tgt := 22) hx hb dX2_hasCodeOf_18 (by decide) ?_
    exact kB_X2_hasCodeOf_22 C vM 1 _ _ _ hG (lv_sub hl [] rfl) hw
set_option maxHeartbeats 4000000 in
set_option maxRecDepth 100000 in
theorem met_X2_hasCodeOf {l : Launch} {E : EnvT} (vE : EnvOk E) {aK aV aE : Nat → Nat} {aO : Nat} (vM : eXs aK aV aE aO E) {sz : Nat} {e0 : Nat} {x1 : Int64} {post : Int32 → Prop} (hw : wp_X2_hasCodeOf post e0 x1) : Met l yX2_hasCodeOf wgX2_hasCodeOf rm_X2_hasCodeOf (va_Pc [.ref (aE e0), .long x1] (sPre E sz)) (va_Qi (S := Unit) (fun r _ => post r) (fun _ _ => True) (va_A [] sz)) 0 0 (va_A [] sz) := by
  refine Met.ofW (cc := cX2_hasCodeOf) (maxL := 3) (ret := (some .boolean)) (by decide +kernel) rfl ?_
  intro p e s m args below meth c s₁ B hml hv
  obtain ⟨rfl, hsz, hE⟩ := hv
  subst hsz
  generalize hAe : va_A [] s.heap.size = A at hE ⊢
  have hA : ∀ q : Nat, s.heap.size ≤ q → A q := fun q h => by rw [← hAe]; exact Or.inr h
  have hS : va_S A s.heap s.heap [] := va_S.rf
  have C : sCx p s m _ meth c cX2_hasCodeOf 3 (some .boolean) wgX2_hasCodeOf RX2 E A := ⟨B.exec, B.bytes, hml, B.returns, findClass_of_methodNamed B.named, atoms_spec (ws := wgX2_hasCodeOf) B.pre, hA, B.notSynchronized, hE, vE⟩
  have hG := hS
  have hl := lv_entry ([.ref (aE e0), .long x1]) (n := 3) (Nat.le_of_ble_eq_true rfl)
  rw [lg_entry_eq]
  generalize (lg_sl ([.ref (aE e0), .long x1]) ++ List.replicate (3 - (lg_sl ([.ref (aE e0), .long x1])).length) Slot.unset).toArray = ls at hl ⊢
  have hl : lv_has ls 3 [(0, .ref (aE e0)), (1, .long x1)] := hl
  exact k_X2_hasCodeOf C vM e0 x1 _ _ _ hG hl hw
/-! ===== X2_shiftOf  ===== -/
def rm_X2_shiftOf : Room := { frames := 0, cells := 0, slots := 0, locals := 0 }
abbrev wgX2_shiftOf : List Cond := .code yX2_shiftOf cX2_shiftOf 1 (some .int) :: TB
def wB_X2_shiftOf_12 (post : Int32 → Prop) : Prop :=
  post 8
def wB_X2_shiftOf_27 (post : Int32 → Prop) : Prop :=
  post 12
def wB_X2_shiftOf_42 (post : Int32 → Prop) : Prop :=
  post 16
def wB_X2_shiftOf_69 (post : Int32 → Prop) (t0 : Int32) : Prop :=
  post t0
def wB_X2_shiftOf_63 (post : Int32 → Prop) : Prop :=
  wB_X2_shiftOf_69 post 32
def wp_X2_shiftOf (post : Int32 → Prop) (x0 : Int32) : Prop :=
  (x0 = 100 → (wB_X2_shiftOf_12 post)) ∧ (¬ x0 = 100 → ((x0 = 68 → (wB_X2_shiftOf_12 post)) ∧ (¬ x0 = 68 → ((x0 = 97 → (wB_X2_shiftOf_27 post)) ∧ (¬ x0 = 97 → ((x0 = 65 → (wB_X2_shiftOf_27 post)) ∧ (¬ x0 = 65 → ((x0 = 98 → (wB_X2_shiftOf_42 post)) ∧ (¬ x0 = 98 → ((x0 = 66 → (wB_X2_shiftOf_42 post)) ∧ (¬ x0 = 66 → ((x0 = 113 → (wB_X2_shiftOf_63 post)) ∧ (¬ x0 = 113 → ((x0 = 110 → (wB_X2_shiftOf_63 post)) ∧ (¬ x0 = 110 → ((x0 = 116 → (wB_X2_shiftOf_63 post)) ∧ (¬ x0 = 116 → (wB_X2_shiftOf_69 post (-1)))))))))))))))))))
set_option maxHeartbeats 4000000 in
set_option maxRecDepth 100000 in
theorem kB_X2_shiftOf_12 {p : Program} {l : Launch} {e : Env} {s : State} {m : MethodId} {args : Array Value} {below : List Frame} {meth : Method} {c : Code} {A : Nat → Prop} {E : EnvT} {aK aV aE : Nat → Nat} {aO : Nat} (C : sCx p s m args meth c cX2_shiftOf 1 (some .int) wgX2_shiftOf RX2 E A) (vM : eXs aK aV aE aO E) {post : Int32 → Prop} :
    ∀ (H : Heap) (locs : List Loc) (ls : Array Slot), va_S A s.heap H locs → lv_has ls 1 [] → wB_X2_shiftOf_12 post → W p l e rm_X2_shiftOf s m args below meth c H locs 0 0 (MQ below (va_Qi (S := Unit) (fun r _ => post r) (fun _ _ => True) A) args s 0 0 A) (F0 m 12 ls []) := by
  obtain ⟨hx, hb, hml, hr, hown, hts, hA, hlk, hE, vE⟩ := id C
  intro H locs ls hG hl hw
  have hS := hG
  refine lv_bipush (v := 8) hx hb dX2_shiftOf_12 (by decide) ?_
  exact W.iret (v := 8) hx hb hr (fun t ht hW => ⟨⟨_, (), rfl, hw, trivial⟩, hS.F ht⟩) hS.2.2 dX2_shiftOf_14 hlk
set_option maxHeartbeats 4000000 in
set_option maxRecDepth 100000 in
theorem kB_X2_shiftOf_27 {p : Program} {l : Launch} {e : Env} {s : State} {m : MethodId} {args : Array Value} {below : List Frame} {meth : Method} {c : Code} {A : Nat → Prop} {E : EnvT} {aK aV aE : Nat → Nat} {aO : Nat} (C : sCx p s m args meth c cX2_shiftOf 1 (some .int) wgX2_shiftOf RX2 E A) (vM : eXs aK aV aE aO E) {post : Int32 → Prop} :
    ∀ (H : Heap) (locs : List Loc) (ls : Array Slot), va_S A s.heap H locs → lv_has ls 1 [] → wB_X2_shiftOf_27 post → W p l e rm_X2_shiftOf s m args below meth c H locs 0 0 (MQ below (va_Qi (S := Unit) (fun r _ => post r) (fun _ _ => True) A) args s 0 0 A) (F0 m 27 ls []) := by
  obtain ⟨hx, hb, hml, hr, hown, hts, hA, hlk, hE, vE⟩ := id C
  intro H locs ls hG hl hw
  have hS := hG
  refine lv_bipush (v := 12) hx hb dX2_shiftOf_27 (by decide) ?_
  exact W.iret (v := 12) hx hb hr (fun t ht hW => ⟨⟨_, (), rfl, hw, trivial⟩, hS.F ht⟩) hS.2.2 dX2_shiftOf_29 hlk
set_option maxHeartbeats 4000000 in
set_option maxRecDepth 100000 in
theorem kB_X2_shiftOf_42 {p : Program} {l : Launch} {e : Env} {s : State} {m : MethodId} {args : Array Value} {below : List Frame} {meth : Method} {c : Code} {A : Nat → Prop} {E : EnvT} {aK aV aE : Nat → Nat} {aO : Nat} (C : sCx p s m args meth c cX2_shiftOf 1 (some .int) wgX2_shiftOf RX2 E A) (vM : eXs aK aV aE aO E) {post : Int32 → Prop} :
    ∀ (H : Heap) (locs : List Loc) (ls : Array Slot), va_S A s.heap H locs → lv_has ls 1 [] → wB_X2_shiftOf_42 post → W p l e rm_X2_shiftOf s m args below meth c H locs 0 0 (MQ below (va_Qi (S := Unit) (fun r _ => post r) (fun _ _ => True) A) args s 0 0 A) (F0 m 42 ls []) := by
  obtain ⟨hx, hb, hml, hr, hown, hts, hA, hlk, hE, vE⟩ := id C
  intro H locs ls hG hl hw
  have hS := hG
  refine lv_bipush (v := 16) hx hb dX2_shiftOf_42 (by decide) ?_
  exact W.iret (v := 16) hx hb hr (fun t ht hW => ⟨⟨_, (), rfl, hw, trivial⟩, hS.F ht⟩) hS.2.2 dX2_shiftOf_44 hlk
set_option maxHeartbeats 4000000 in
set_option maxRecDepth 100000 in
theorem kB_X2_shiftOf_69 {p : Program} {l : Launch} {e : Env} {s : State} {m : MethodId} {args : Array Value} {below : List Frame} {meth : Method} {c : Code} {A : Nat → Prop} {E : EnvT} {aK aV aE : Nat → Nat} {aO : Nat} (C : sCx p s m args meth c cX2_shiftOf 1 (some .int) wgX2_shiftOf RX2 E A) (vM : eXs aK aV aE aO E) {post : Int32 → Prop} :
    ∀ (t0 : Int32) (H : Heap) (locs : List Loc) (ls : Array Slot), va_S A s.heap H locs → lv_has ls 1 [] → wB_X2_shiftOf_69 post t0 → W p l e rm_X2_shiftOf s m args below meth c H locs 0 0 (MQ below (va_Qi (S := Unit) (fun r _ => post r) (fun _ _ => True) A) args s 0 0 A) (F0 m 69 ls [.int t0]) := by
  obtain ⟨hx, hb, hml, hr, hown, hts, hA, hlk, hE, vE⟩ := id C
  intro t0 H locs ls hG hl hw
  have hS := hG
  exact W.iret (v := t0) hx hb hr (fun t ht hW => ⟨⟨_, (), rfl, hw, trivial⟩, hS.F ht⟩) hS.2.2 dX2_shiftOf_69 hlk
set_option maxHeartbeats 4000000 in
set_option maxRecDepth 100000 in
theorem kB_X2_shiftOf_63 {p : Program} {l : Launch} {e : Env} {s : State} {m : MethodId} {args : Array Value} {below : List Frame} {meth : Method} {c : Code} {A : Nat → Prop} {E : EnvT} {aK aV aE : Nat → Nat} {aO : Nat} (C : sCx p s m args meth c cX2_shiftOf 1 (some .int) wgX2_shiftOf RX2 E A) (vM : eXs aK aV aE aO E) {post : Int32 → Prop} :
    ∀ (H : Heap) (locs : List Loc) (ls : Array Slot), va_S A s.heap H locs → lv_has ls 1 [] → wB_X2_shiftOf_63 post → W p l e rm_X2_shiftOf s m args below meth c H locs 0 0 (MQ below (va_Qi (S := Unit) (fun r _ => post r) (fun _ _ => True) A) args s 0 0 A) (F0 m 63 ls []) := by
  obtain ⟨hx, hb, hml, hr, hown, hts, hA, hlk, hE, vE⟩ := id C
  intro H locs ls hG hl hw
  have hS := hG
  refine lv_bipush (v := 32) hx hb dX2_shiftOf_63 (by decide) ?_
  refine lv_goto (tgt := 69) hx hb dX2_shiftOf_65 (by decide) ?_
  exact kB_X2_shiftOf_69 C vM 32 _ _ _ hG (lv_sub hl [] rfl) hw
set_option maxHeartbeats 4000000 in
set_option maxRecDepth 100000 in
theorem k_X2_shiftOf {p : Program} {l : Launch} {e : Env} {s : State} {m : MethodId} {args : Array Value} {below : List Frame} {meth : Method} {c : Code} {A : Nat → Prop} {E : EnvT} {aK aV aE : Nat → Nat} {aO : Nat} (C : sCx p s m args meth c cX2_shiftOf 1 (some .int) wgX2_shiftOf RX2 E A) (vM : eXs aK aV aE aO E) {post : Int32 → Prop} :
    ∀ (x0 : Int32) (H : Heap) (locs : List Loc) (ls : Array Slot), va_S A s.heap H locs → lv_has ls 1 [(0, .int x0)] → wp_X2_shiftOf post x0 → W p l e rm_X2_shiftOf s m args below meth c H locs 0 0 (MQ below (va_Qi (S := Unit) (fun r _ => post r) (fun _ _ => True) A) args s 0 0 A) (F0 m 0 ls []) := by
  obtain ⟨hx, hb, hml, hr, hown, hts, hA, hlk, hE, vE⟩ := id C
  intro x0 H locs ls hG hl hw
  have hS := hG
  refine lv_iload_n hx hb dX2_shiftOf_0 rfl (lv_at hl 0 rfl) ?_
  refine lv_bipush (v := 100) hx hb dX2_shiftOf_1 (by decide) ?_
  refine lv_icmp_eq (tgt := 12) hx hb dX2_shiftOf_3 (by decide) (fun q_ => ?_) (fun q_ => ?_)
  · have hw := hw.1 q_
    exact kB_X2_shiftOf_12 C vM  _ _ _ hG (lv_sub hl [] rfl) hw
  · have hw := hw.2 q_
    refine lv_iload_n hx hb dX2_shiftOf_6 rfl (lv_at hl 0 rfl) ?_
    refine lv_bipush (v := 68) hx hb dX2_shiftOf_7 (by decide) ?_
    refine lv_icmp_ne (tgt := 15) hx hb dX2_shiftOf_9 (by decide) (fun q_ => ?_) (fun q_ => ?_)
    · have hw := hw.2 q_
      refine lv_iload_n hx hb dX2_shiftOf_15 rfl (lv_at hl 0 rfl) ?_
      refine lv_bipush (v := 97) hx hb dX2_shiftOf_16 (by decide) ?_
      refine lv_icmp_eq (tgt := 27) hx hb dX2_shiftOf_18 (by decide) (fun q_ => ?_) (fun q_ => ?_)
      · have hw := hw.1 q_
        exact kB_X2_shiftOf_27 C vM  _ _ _ hG (lv_sub hl [] rfl) hw
      · have hw := hw.2 q_
        refine lv_iload_n hx hb dX2_shiftOf_21 rfl (lv_at hl 0 rfl) ?_
        refine lv_bipush (v := 65) hx hb dX2_shiftOf_22 (by decide) ?_
        refine lv_icmp_ne (tgt := 30) hx hb dX2_shiftOf_24 (by decide) (fun q_ => ?_) (fun q_ => ?_)
        · have hw := hw.2 q_
          refine lv_iload_n hx hb dX2_shiftOf_30 rfl (lv_at hl 0 rfl) ?_
          refine lv_bipush (v := 98) hx hb dX2_shiftOf_31 (by decide) ?_
          refine lv_icmp_eq (tgt := 42) hx hb dX2_shiftOf_33 (by decide) (fun q_ => ?_) (fun q_ => ?_)
          · have hw := hw.1 q_
            exact kB_X2_shiftOf_42 C vM  _ _ _ hG (lv_sub hl [] rfl) hw
          · have hw := hw.2 q_
            refine lv_iload_n hx hb dX2_shiftOf_36 rfl (lv_at hl 0 rfl) ?_
            refine lv_bipush (v := 66) hx hb dX2_shiftOf_37 (by decide) ?_
            refine lv_icmp_ne (tgt := 45) hx hb dX2_shiftOf_39 (by decide) (fun q_ => ?_) (fun q_ => ?_)
            · have hw := hw.2 q_
              refine lv_iload_n hx hb dX2_shiftOf_45 rfl (lv_at hl 0 rfl) ?_
              refine lv_bipush (v := 113) hx hb dX2_shiftOf_46 (by decide) ?_
              refine lv_icmp_eq (tgt := 63) hx hb dX2_shiftOf_48 (by decide) (fun q_ => ?_) (fun q_ => ?_)
              · have hw := hw.1 q_
                exact kB_X2_shiftOf_63 C vM  _ _ _ hG (lv_sub hl [] rfl) hw
              · have hw := hw.2 q_
                refine lv_iload_n hx hb dX2_shiftOf_51 rfl (lv_at hl 0 rfl) ?_
                refine lv_bipush (v := 110) hx hb dX2_shiftOf_52 (by decide) ?_
                refine lv_icmp_eq (tgt := 63) hx hb dX2_shiftOf_54 (by decide) (fun q_ => ?_) (fun q_ => ?_)
                · have hw := hw.1 q_
                  exact kB_X2_shiftOf_63 C vM  _ _ _ hG (lv_sub hl [] rfl) hw
                · have hw := hw.2 q_
                  refine lv_iload_n hx hb dX2_shiftOf_57 rfl (lv_at hl 0 rfl) ?_
                  refine lv_bipush (v := 116) hx hb dX2_shiftOf_58 (by decide) ?_
                  refine lv_icmp_ne (tgt := 68) hx hb dX2_shiftOf_60 (by decide) (fun q_ => ?_) (fun q_ => ?_)
                  · have hw := hw.2 q_
                    refine lv_iconst (v := (-1)) hx hb dX2_shiftOf_68 (by decide) ?_
                    exact kB_X2_shiftOf_69 C vM (-1) _ _ _ hG (lv_sub hl [] rfl) hw
                  · have hw := hw.1 q_
                    exact kB_X2_shiftOf_63 C vM  _ _ _ hG (lv_sub hl [] rfl) hw
            · have hw := hw.1 q_
              exact kB_X2_shiftOf_42 C vM  _ _ _ hG (lv_sub hl [] rfl) hw
        · have hw := hw.1 q_
          exact kB_X2_shiftOf_27 C vM  _ _ _ hG (lv_sub hl [] rfl) hw
    · have hw := hw.1 q_
      exact kB_X2_shiftOf_12 C vM  _ _ _ hG (lv_sub hl [] rfl) hw
set_option maxHeartbeats 4000000 in
set_option maxRecDepth 100000 in
theorem met_X2_shiftOf {l : Launch} {E : EnvT} (vE : EnvOk E) {aK aV aE : Nat → Nat} {aO : Nat} (vM : eXs aK aV aE aO E) {sz : Nat} {x0 : Int32} {post : Int32 → Prop} (hw : wp_X2_shiftOf post x0) : Met l yX2_shiftOf wgX2_shiftOf rm_X2_shiftOf (va_Pc [.int x0] (sPre E sz)) (va_Qi (S := Unit) (fun r _ => post r) (fun _ _ => True) (va_A [] sz)) 0 0 (va_A [] sz) := by
  refine Met.ofW (cc := cX2_shiftOf) (maxL := 1) (ret := (some .int)) (by decide +kernel) rfl ?_
  intro p e s m args below meth c s₁ B hml hv
  obtain ⟨rfl, hsz, hE⟩ := hv
  subst hsz
  generalize hAe : va_A [] s.heap.size = A at hE ⊢
  have hA : ∀ q : Nat, s.heap.size ≤ q → A q := fun q h => by rw [← hAe]; exact Or.inr h
  have hS : va_S A s.heap s.heap [] := va_S.rf
  have C : sCx p s m _ meth c cX2_shiftOf 1 (some .int) wgX2_shiftOf RX2 E A := ⟨B.exec, B.bytes, hml, B.returns, findClass_of_methodNamed B.named, atoms_spec (ws := wgX2_shiftOf) B.pre, hA, B.notSynchronized, hE, vE⟩
  have hG := hS
  have hl := lv_entry ([.int x0]) (n := 1) (Nat.le_of_ble_eq_true rfl)
  rw [lg_entry_eq]
  generalize (lg_sl ([.int x0]) ++ List.replicate (1 - (lg_sl ([.int x0])).length) Slot.unset).toArray = ls at hl ⊢
  have hl : lv_has ls 1 [(0, .int x0)] := hl
  exact k_X2_shiftOf C vM x0 _ _ _ hG hl hw
/-! ===== X2_fieldOf  ===== -/
def rm_X2_fieldOf : Room := { frames := 1, cells := 0, slots := 0, locals := 20 }
abbrev wgX2_fieldOf : List Cond := .code yX2_fieldOf cX2_fieldOf 4 (some .int) :: TB
def wB_X2_fieldOf_34 (post : Int32 → Prop) (t0 : Int32) : Prop :=
  post t0
def wp_X2_fieldOf (post : Int32 → Prop) (x0 : Int32) (x1 : Int64) : Prop :=
  wp_X2_shiftOf (fun r_1  => (r_1 = 32 → (post ((x1 >>> ((32 : Int32).toInt64 &&& 63)).toInt32))) ∧ (¬ r_1 = 32 → ((r_1 = (-1) → (wB_X2_fieldOf_34 post 0)) ∧ (¬ r_1 = (-1) → (wB_X2_fieldOf_34 post (((x1 >>> (r_1.toInt64 &&& 63)) &&& 15).toInt32)))))) x0
set_option maxHeartbeats 4000000 in
set_option maxRecDepth 100000 in
theorem kB_X2_fieldOf_34 {p : Program} {l : Launch} {e : Env} {s : State} {m : MethodId} {args : Array Value} {below : List Frame} {meth : Method} {c : Code} {A : Nat → Prop} {E : EnvT} {aK aV aE : Nat → Nat} {aO : Nat} (C : sCx p s m args meth c cX2_fieldOf 4 (some .int) wgX2_fieldOf RX2 E A) (vM : eXs aK aV aE aO E) {post : Int32 → Prop} :
    ∀ (t0 : Int32) (H : Heap) (locs : List Loc) (ls : Array Slot), va_S A s.heap H locs → lv_has ls 4 [] → wB_X2_fieldOf_34 post t0 → W p l e rm_X2_fieldOf s m args below meth c H locs 0 0 (MQ below (va_Qi (S := Unit) (fun r _ => post r) (fun _ _ => True) A) args s 0 0 A) (F0 m 34 ls [.int t0]) := by
  obtain ⟨hx, hb, hml, hr, hown, hts, hA, hlk, hE, vE⟩ := id C
  intro t0 H locs ls hG hl hw
  have hS := hG
  exact W.iret (v := t0) hx hb hr (fun t ht hW => ⟨⟨_, (), rfl, hw, trivial⟩, hS.F ht⟩) hS.2.2 dX2_fieldOf_34 hlk
set_option maxHeartbeats 4000000 in
set_option maxRecDepth 100000 in
theorem k_X2_fieldOf {p : Program} {l : Launch} {e : Env} {s : State} {m : MethodId} {args : Array Value} {below : List Frame} {meth : Method} {c : Code} {A : Nat → Prop} {E : EnvT} {aK aV aE : Nat → Nat} {aO : Nat} (C : sCx p s m args meth c cX2_fieldOf 4 (some .int) wgX2_fieldOf RX2 E A) (vM : eXs aK aV aE aO E) {post : Int32 → Prop} :
    ∀ (x0 : Int32) (x1 : Int64) (H : Heap) (locs : List Loc) (ls : Array Slot), va_S A s.heap H locs → lv_has ls 4 [(0, .int x0), (1, .long x1)] → wp_X2_fieldOf post x0 x1 → W p l e rm_X2_fieldOf s m args below meth c H locs 0 0 (MQ below (va_Qi (S := Unit) (fun r _ => post r) (fun _ _ => True) A) args s 0 0 A) (F0 m 0 ls []) := by
  obtain ⟨hx, hb, hml, hr, hown, hts, hA, hlk, hE, vE⟩ := id C
  intro x0 x1 H locs ls hG hl hw
  have hS := hG
  refine lv_iload_n hx hb dX2_fieldOf_0 rfl (lv_at hl 0 rfl) ?_
  refine sS_i (As := [.int x0]) (rest := []) C (met_X2_shiftOf vE vM hw) (va_cwS 1 hts (TB_G (TB_3 tw_2_94 tw_2_95 tw_1_19) tw_2_96) rfl rfl rfl (by decide +kernel) ⟨by decide, by decide⟩) hS rfl hl.1 rfl (Nat.le_of_ble_eq_true rfl) dX2_fieldOf_1 ⟨by decide, by decide⟩ (fun r_1 H locs hw hS => ?_)
  have hG := hS
  refine lv_istore_n (lv' := [(3, .int r_1), (0, .int x0), (1, .long x1)]) hx hb dX2_fieldOf_4 rfl hl (by decide) rfl (fun ls hl => ?_)
  refine lv_iload_n hx hb dX2_fieldOf_5 rfl (lv_at hl 0 rfl) ?_
  refine lv_bipush (v := 32) hx hb dX2_fieldOf_6 (by decide) ?_
  refine lv_icmp_ne (tgt := 17) hx hb dX2_fieldOf_8 (by decide) (fun q_ => ?_) (fun q_ => ?_)
  · have hw := hw.2 q_
    refine lv_iload_n hx hb dX2_fieldOf_17 rfl (lv_at hl 0 rfl) ?_
    refine lv_iconst (v := (-1)) hx hb dX2_fieldOf_18 (by decide) ?_
    refine lv_icmp_ne (tgt := 26) hx hb dX2_fieldOf_19 (by decide) (fun q_ => ?_) (fun q_ => ?_)
    · have hw := hw.2 q_
      refine lv_lload_n hx hb dX2_fieldOf_26 rfl (lv_at hl 2 rfl) ?_
      refine lv_iload_n hx hb dX2_fieldOf_27 rfl (lv_at hl 0 rfl) ?_
      refine lv_lshr hx hb dX2_fieldOf_28 rfl ?_
      refine lv_ldc2 (v := 15) hx hb hown (hts _ (List.mem_cons_of_mem _ tw_2_45)) dX2_fieldOf_29 ?_
      refine lv_land hx hb dX2_fieldOf_32 ?_
      refine lv_l2i hx hb dX2_fieldOf_33 rfl ?_
      exact kB_X2_fieldOf_34 C vM (((x1 >>> (r_1.toInt64 &&& 63)) &&& 15).toInt32) _ _ _ hG (lv_sub hl [] rfl) hw
    · have hw := hw.1 q_
      refine lv_iconst (v := 0) hx hb dX2_fieldOf_22 (by decide) ?_
      refine lv_goto (tgt := 34) hx hb dX2_fieldOf_23 (by decide) ?_
      exact kB_X2_fieldOf_34 C vM 0 _ _ _ hG (lv_sub hl [] rfl) hw
  · have hw := hw.1 q_
    refine lv_lload_n hx hb dX2_fieldOf_11 rfl (lv_at hl 2 rfl) ?_
    refine lv_bipush (v := 32) hx hb dX2_fieldOf_12 (by decide) ?_
    refine lv_lshr hx hb dX2_fieldOf_14 rfl ?_
    refine lv_l2i hx hb dX2_fieldOf_15 rfl ?_
    exact W.iret (v := (x1 >>> ((32 : Int32).toInt64 &&& 63)).toInt32) hx hb hr (fun t ht hW => ⟨⟨_, (), rfl, hw, trivial⟩, hS.F ht⟩) hS.2.2 dX2_fieldOf_16 hlk
set_option maxHeartbeats 4000000 in
set_option maxRecDepth 100000 in
theorem met_X2_fieldOf {l : Launch} {E : EnvT} (vE : EnvOk E) {aK aV aE : Nat → Nat} {aO : Nat} (vM : eXs aK aV aE aO E) {sz : Nat} {x0 : Int32} {x1 : Int64} {post : Int32 → Prop} (hw : wp_X2_fieldOf post x0 x1) : Met l yX2_fieldOf wgX2_fieldOf rm_X2_fieldOf (va_Pc [.int x0, .long x1] (sPre E sz)) (va_Qi (S := Unit) (fun r _ => post r) (fun _ _ => True) (va_A [] sz)) 0 0 (va_A [] sz) := by
  refine Met.ofW (cc := cX2_fieldOf) (maxL := 4) (ret := (some .int)) (by decide +kernel) rfl ?_
  intro p e s m args below meth c s₁ B hml hv
  obtain ⟨rfl, hsz, hE⟩ := hv
  subst hsz
  generalize hAe : va_A [] s.heap.size = A at hE ⊢
  have hA : ∀ q : Nat, s.heap.size ≤ q → A q := fun q h => by rw [← hAe]; exact Or.inr h
  have hS : va_S A s.heap s.heap [] := va_S.rf
  have C : sCx p s m _ meth c cX2_fieldOf 4 (some .int) wgX2_fieldOf RX2 E A := ⟨B.exec, B.bytes, hml, B.returns, findClass_of_methodNamed B.named, atoms_spec (ws := wgX2_fieldOf) B.pre, hA, B.notSynchronized, hE, vE⟩
  have hG := hS
  have hl := lv_entry ([.int x0, .long x1]) (n := 4) (Nat.le_of_ble_eq_true rfl)
  rw [lg_entry_eq]
  generalize (lg_sl ([.int x0, .long x1]) ++ List.replicate (4 - (lg_sl ([.int x0, .long x1])).length) Slot.unset).toArray = ls at hl ⊢
  have hl : lv_has ls 4 [(0, .int x0), (1, .long x1)] := hl
  exact k_X2_fieldOf C vM x0 x1 _ _ _ hG hl hw
/-! ===== X2_guardOf  ===== -/
def rm_X2_guardOf : Room := { frames := 0, cells := 0, slots := 0, locals := 0 }
abbrev wgX2_guardOf : List Cond := .code yX2_guardOf cX2_guardOf 2 (some .int) :: TB
def wp_X2_guardOf (post : Int32 → Prop) (x0 : Int64) : Prop :=
  post (((x0 >>> ((20 : Int32).toInt64 &&& 63)) &&& 15).toInt32)
set_option maxHeartbeats 4000000 in
set_option maxRecDepth 100000 in
theorem k_X2_guardOf {p : Program} {l : Launch} {e : Env} {s : State} {m : MethodId} {args : Array Value} {below : List Frame} {meth : Method} {c : Code} {A : Nat → Prop} {E : EnvT} {aK aV aE : Nat → Nat} {aO : Nat} (C : sCx p s m args meth c cX2_guardOf 2 (some .int) wgX2_guardOf RX2 E A) (vM : eXs aK aV aE aO E) {post : Int32 → Prop} :
    ∀ (x0 : Int64) (H : Heap) (locs : List Loc) (ls : Array Slot), va_S A s.heap H locs → lv_has ls 2 [(0, .long x0)] → wp_X2_guardOf post x0 → W p l e rm_X2_guardOf s m args below meth c H locs 0 0 (MQ below (va_Qi (S := Unit) (fun r _ => post r) (fun _ _ => True) A) args s 0 0 A) (F0 m 0 ls []) := by
  obtain ⟨hx, hb, hml, hr, hown, hts, hA, hlk, hE, vE⟩ := id C
  intro x0 H locs ls hG hl hw
  have hS := hG
  refine lv_lload_n hx hb dX2_guardOf_0 rfl (lv_at hl 0 rfl) ?_
  refine lv_bipush (v := 20) hx hb dX2_guardOf_1 (by decide) ?_
  refine lv_lshr hx hb dX2_guardOf_3 rfl ?_
  refine lv_ldc2 (v := 15) hx hb hown (hts _ (List.mem_cons_of_mem _ tw_2_45)) dX2_guardOf_4 ?_
  refine lv_land hx hb dX2_guardOf_7 ?_
  refine lv_l2i hx hb dX2_guardOf_8 rfl ?_
  exact W.iret (v := ((x0 >>> ((20 : Int32).toInt64 &&& 63)) &&& 15).toInt32) hx hb hr (fun t ht hW => ⟨⟨_, (), rfl, hw, trivial⟩, hS.F ht⟩) hS.2.2 dX2_guardOf_9 hlk
set_option maxHeartbeats 4000000 in
set_option maxRecDepth 100000 in
theorem met_X2_guardOf {l : Launch} {E : EnvT} (vE : EnvOk E) {aK aV aE : Nat → Nat} {aO : Nat} (vM : eXs aK aV aE aO E) {sz : Nat} {x0 : Int64} {post : Int32 → Prop} (hw : wp_X2_guardOf post x0) : Met l yX2_guardOf wgX2_guardOf rm_X2_guardOf (va_Pc [.long x0] (sPre E sz)) (va_Qi (S := Unit) (fun r _ => post r) (fun _ _ => True) (va_A [] sz)) 0 0 (va_A [] sz) := by
  refine Met.ofW (cc := cX2_guardOf) (maxL := 2) (ret := (some .int)) (by decide +kernel) rfl ?_
  intro p e s m args below meth c s₁ B hml hv
  obtain ⟨rfl, hsz, hE⟩ := hv
  subst hsz
  generalize hAe : va_A [] s.heap.size = A at hE ⊢
  have hA : ∀ q : Nat, s.heap.size ≤ q → A q := fun q h => by rw [← hAe]; exact Or.inr h
  have hS : va_S A s.heap s.heap [] := va_S.rf
  have C : sCx p s m _ meth c cX2_guardOf 2 (some .int) wgX2_guardOf RX2 E A := ⟨B.exec, B.bytes, hml, B.returns, findClass_of_methodNamed B.named, atoms_spec (ws := wgX2_guardOf) B.pre, hA, B.notSynchronized, hE, vE⟩
  have hG := hS
  have hl := lv_entry ([.long x0]) (n := 2) (Nat.le_of_ble_eq_true rfl)
  rw [lg_entry_eq]
  generalize (lg_sl ([.long x0]) ++ List.replicate (2 - (lg_sl ([.long x0])).length) Slot.unset).toArray = ls at hl ⊢
  have hl : lv_has ls 2 [(0, .long x0)] := hl
  exact k_X2_guardOf C vM x0 _ _ _ hG hl hw
/-! ===== X2_leastOf  ===== -/
def rm_X2_leastOf : Room := { frames := 0, cells := 0, slots := 0, locals := 0 }
abbrev wgX2_leastOf : List Cond := .code yX2_leastOf cX2_leastOf 1 (some .int) :: TB
def wB_X2_leastOf_12 (post : Int32 → Prop) (t0 : Int32) : Prop :=
  post t0
def wp_X2_leastOf (post : Int32 → Prop) (x0 : Int32) : Prop :=
  (x0 = 110 → (wB_X2_leastOf_12 post (-2147483648))) ∧ (¬ x0 = 110 → (wB_X2_leastOf_12 post 0))
set_option maxHeartbeats 4000000 in
set_option maxRecDepth 100000 in
theorem kB_X2_leastOf_12 {p : Program} {l : Launch} {e : Env} {s : State} {m : MethodId} {args : Array Value} {below : List Frame} {meth : Method} {c : Code} {A : Nat → Prop} {E : EnvT} {aK aV aE : Nat → Nat} {aO : Nat} (C : sCx p s m args meth c cX2_leastOf 1 (some .int) wgX2_leastOf RX2 E A) (vM : eXs aK aV aE aO E) {post : Int32 → Prop} :
    ∀ (t0 : Int32) (H : Heap) (locs : List Loc) (ls : Array Slot), va_S A s.heap H locs → lv_has ls 1 [] → wB_X2_leastOf_12 post t0 → W p l e rm_X2_leastOf s m args below meth c H locs 0 0 (MQ below (va_Qi (S := Unit) (fun r _ => post r) (fun _ _ => True) A) args s 0 0 A) (F0 m 12 ls [.int t0]) := by
  obtain ⟨hx, hb, hml, hr, hown, hts, hA, hlk, hE, vE⟩ := id C
  intro t0 H locs ls hG hl hw
  have hS := hG
  exact W.iret (v := t0) hx hb hr (fun t ht hW => ⟨⟨_, (), rfl, hw, trivial⟩, hS.F ht⟩) hS.2.2 dX2_leastOf_12 hlk
set_option maxHeartbeats 4000000 in
set_option maxRecDepth 100000 in
theorem k_X2_leastOf {p : Program} {l : Launch} {e : Env} {s : State} {m : MethodId} {args : Array Value} {below : List Frame} {meth : Method} {c : Code} {A : Nat → Prop} {E : EnvT} {aK aV aE : Nat → Nat} {aO : Nat} (C : sCx p s m args meth c cX2_leastOf 1 (some .int) wgX2_leastOf RX2 E A) (vM : eXs aK aV aE aO E) {post : Int32 → Prop} :
    ∀ (x0 : Int32) (H : Heap) (locs : List Loc) (ls : Array Slot), va_S A s.heap H locs → lv_has ls 1 [(0, .int x0)] → wp_X2_leastOf post x0 → W p l e rm_X2_leastOf s m args below meth c H locs 0 0 (MQ below (va_Qi (S := Unit) (fun r _ => post r) (fun _ _ => True) A) args s 0 0 A) (F0 m 0 ls []) := by
  obtain ⟨hx, hb, hml, hr, hown, hts, hA, hlk, hE, vE⟩ := id C
  intro x0 H locs ls hG hl hw
  have hS := hG
  refine lv_iload_n hx hb dX2_leastOf_0 rfl (lv_at hl 0 rfl) ?_
  refine lv_bipush (v := 110) hx hb dX2_leastOf_1 (by decide) ?_
  refine lv_icmp_ne (tgt := 11) hx hb dX2_leastOf_3 (by decide) (fun q_ => ?_) (fun q_ => ?_)
  · have hw := hw.2 q_
    refine lv_iconst (v := 0) hx hb dX2_leastOf_11 (by decide) ?_
    exact kB_X2_leastOf_12 C vM 0 _ _ _ hG (lv_sub hl [] rfl) hw
  · have hw := hw.1 q_
    refine lv_ldc (v := (-2147483648)) hx hb hown (hts _ (List.mem_cons_of_mem _ tw_2_103)) dX2_leastOf_6 ?_
    refine lv_goto (tgt := 12) hx hb dX2_leastOf_8 (by decide) ?_
    exact kB_X2_leastOf_12 C vM (-2147483648) _ _ _ hG (lv_sub hl [] rfl) hw
set_option maxHeartbeats 4000000 in
set_option maxRecDepth 100000 in
theorem met_X2_leastOf {l : Launch} {E : EnvT} (vE : EnvOk E) {aK aV aE : Nat → Nat} {aO : Nat} (vM : eXs aK aV aE aO E) {sz : Nat} {x0 : Int32} {post : Int32 → Prop} (hw : wp_X2_leastOf post x0) : Met l yX2_leastOf wgX2_leastOf rm_X2_leastOf (va_Pc [.int x0] (sPre E sz)) (va_Qi (S := Unit) (fun r _ => post r) (fun _ _ => True) (va_A [] sz)) 0 0 (va_A [] sz) := by
  refine Met.ofW (cc := cX2_leastOf) (maxL := 1) (ret := (some .int)) (by decide +kernel) rfl ?_
  intro p e s m args below meth c s₁ B hml hv
  obtain ⟨rfl, hsz, hE⟩ := hv
  subst hsz
  generalize hAe : va_A [] s.heap.size = A at hE ⊢
  have hA : ∀ q : Nat, s.heap.size ≤ q → A q := fun q h => by rw [← hAe]; exact Or.inr h
  have hS : va_S A s.heap s.heap [] := va_S.rf
  have C : sCx p s m _ meth c cX2_leastOf 1 (some .int) wgX2_leastOf RX2 E A := ⟨B.exec, B.bytes, hml, B.returns, findClass_of_methodNamed B.named, atoms_spec (ws := wgX2_leastOf) B.pre, hA, B.notSynchronized, hE, vE⟩
  have hG := hS
  have hl := lv_entry ([.int x0]) (n := 1) (Nat.le_of_ble_eq_true rfl)
  rw [lg_entry_eq]
  generalize (lg_sl ([.int x0]) ++ List.replicate (1 - (lg_sl ([.int x0])).length) Slot.unset).toArray = ls at hl ⊢
  have hl : lv_has ls 1 [(0, .int x0)] := hl
  exact k_X2_leastOf C vM x0 _ _ _ hG hl hw
/-! ===== X2_isPredicate  ===== -/
def rm_X2_isPredicate : Room := { frames := 0, cells := 0, slots := 0, locals := 0 }
abbrev wgX2_isPredicate : List Cond := .code yX2_isPredicate cX2_isPredicate 1 (some .boolean) :: TB
def wB_X2_isPredicate_29 (post : Int32 → Prop) (t0 : Int32) : Prop :=
  isB t0 ∧ (post t0)
def wB_X2_isPredicate_24 (post : Int32 → Prop) : Prop :=
  wB_X2_isPredicate_29 post 1
def wp_X2_isPredicate (post : Int32 → Prop) (x0 : Int32) : Prop :=
  (x0 = 68 → (wB_X2_isPredicate_24 post)) ∧ (¬ x0 = 68 → ((x0 = 65 → (wB_X2_isPredicate_24 post)) ∧ (¬ x0 = 65 → ((x0 = 66 → (wB_X2_isPredicate_24 post)) ∧ (¬ x0 = 66 → ((x0 = 113 → (wB_X2_isPredicate_24 post)) ∧ (¬ x0 = 113 → (wB_X2_isPredicate_29 post 0))))))))
set_option maxHeartbeats 4000000 in
set_option maxRecDepth 100000 in
theorem kB_X2_isPredicate_29 {p : Program} {l : Launch} {e : Env} {s : State} {m : MethodId} {args : Array Value} {below : List Frame} {meth : Method} {c : Code} {A : Nat → Prop} {E : EnvT} {aK aV aE : Nat → Nat} {aO : Nat} (C : sCx p s m args meth c cX2_isPredicate 1 (some .boolean) wgX2_isPredicate RX2 E A) (vM : eXs aK aV aE aO E) {post : Int32 → Prop} :
    ∀ (t0 : Int32) (H : Heap) (locs : List Loc) (ls : Array Slot), va_S A s.heap H locs → lv_has ls 1 [] → wB_X2_isPredicate_29 post t0 → W p l e rm_X2_isPredicate s m args below meth c H locs 0 0 (MQ below (va_Qi (S := Unit) (fun r _ => post r) (fun _ _ => True) A) args s 0 0 A) (F0 m 29 ls [.int t0]) := by
  obtain ⟨hx, hb, hml, hr, hown, hts, hA, hlk, hE, vE⟩ := id C
  intro t0 H locs ls hG hl hw
  have hS := hG
  obtain ⟨h_1, hw⟩ := hw
  exact W.zret (v := t0) (ty := .boolean) hx hb hr (isB.n h_1) (fun t ht hW => ⟨⟨_, (), rfl, hw, trivial⟩, hS.F ht⟩) hS.2.2 dX2_isPredicate_29 hlk
set_option maxHeartbeats 4000000 in
set_option maxRecDepth 100000 in
theorem kB_X2_isPredicate_24 {p : Program} {l : Launch} {e : Env} {s : State} {m : MethodId} {args : Array Value} {below : List Frame} {meth : Method} {c : Code} {A : Nat → Prop} {E : EnvT} {aK aV aE : Nat → Nat} {aO : Nat} (C : sCx p s m args meth c cX2_isPredicate 1 (some .boolean) wgX2_isPredicate RX2 E A) (vM : eXs aK aV aE aO E) {post : Int32 → Prop} :
    ∀ (H : Heap) (locs : List Loc) (ls : Array Slot), va_S A s.heap H locs → lv_has ls 1 [] → wB_X2_isPredicate_24 post → W p l e rm_X2_isPredicate s m args below meth c H locs 0 0 (MQ below (va_Qi (S := Unit) (fun r _ => post r) (fun _ _ => True) A) args s 0 0 A) (F0 m 24 ls []) := by
  obtain ⟨hx, hb, hml, hr, hown, hts, hA, hlk, hE, vE⟩ := id C
  intro H locs ls hG hl hw
  have hS := hG
  refine lv_iconst (v := 1) hx hb dX2_isPredicate_24 (by decide) ?_
  refine lv_goto (tgt := 29) hx hb dX2_isPredicate_25 (by decide) ?_
  exact kB_X2_isPredicate_29 C vM 1 _ _ _ hG (lv_sub hl [] rfl) hw
set_option maxHeartbeats 4000000 in
set_option maxRecDepth 100000 in
theorem k_X2_isPredicate {p : Program} {l : Launch} {e : Env} {s : State} {m : MethodId} {args : Array Value} {below : List Frame} {meth : Method} {c : Code} {A : Nat → Prop} {E : EnvT} {aK aV aE : Nat → Nat} {aO : Nat} (C : sCx p s m args meth c cX2_isPredicate 1 (some .boolean) wgX2_isPredicate RX2 E A) (vM : eXs aK aV aE aO E) {post : Int32 → Prop} :
    ∀ (x0 : Int32) (H : Heap) (locs : List Loc) (ls : Array Slot), va_S A s.heap H locs → lv_has ls 1 [(0, .int x0)] → wp_X2_isPredicate post x0 → W p l e rm_X2_isPredicate s m args below meth c H locs 0 0 (MQ below (va_Qi (S := Unit) (fun r _ => post r) (fun _ _ => True) A) args s 0 0 A) (F0 m 0 ls []) := by
  obtain ⟨hx, hb, hml, hr, hown, hts, hA, hlk, hE, vE⟩ := id C
  intro x0 H locs ls hG hl hw
  have hS := hG
  refine lv_iload_n hx hb dX2_isPredicate_0 rfl (lv_at hl 0 rfl) ?_
  refine lv_bipush (v := 68) hx hb dX2_isPredicate_1 (by decide) ?_
  refine lv_icmp_eq (tgt := 24) hx hb dX2_isPredicate_3 (by decide) (fun q_ => ?_) (fun q_ => ?_)
  · have hw := hw.1 q_
    exact kB_X2_isPredicate_24 C vM  _ _ _ hG (lv_sub hl [] rfl) hw
  · have hw := hw.2 q_
    refine lv_iload_n hx hb dX2_isPredicate_6 rfl (lv_at hl 0 rfl) ?_
    refine lv_bipush (v := 65) hx hb dX2_isPredicate_7 (by decide) ?_
    refine lv_icmp_eq (tgt := 24) hx hb dX2_isPredicate_9 (by decide) (fun q_ => ?_) (fun q_ => ?_)
    · have hw := hw.1 q_
      exact kB_X2_isPredicate_24 C vM  _ _ _ hG (lv_sub hl [] rfl) hw
    · have hw := hw.2 q_
      refine lv_iload_n hx hb dX2_isPredicate_12 rfl (lv_at hl 0 rfl) ?_
      refine lv_bipush (v := 66) hx hb dX2_isPredicate_13 (by decide) ?_
      refine lv_icmp_eq (tgt := 24) hx hb dX2_isPredicate_15 (by decide) (fun q_ => ?_) (fun q_ => ?_)
      · have hw := hw.1 q_
        exact kB_X2_isPredicate_24 C vM  _ _ _ hG (lv_sub hl [] rfl) hw
      · have hw := hw.2 q_
        refine lv_iload_n hx hb dX2_isPredicate_18 rfl (lv_at hl 0 rfl) ?_
        refine lv_bipush (v := 113) hx hb dX2_isPredicate_19 (by decide) ?_
        refine lv_icmp_ne (tgt := 28) hx hb dX2_isPredicate_21 (by decide) (fun q_ => ?_) (fun q_ => ?_)
        · have hw := hw.2 q_
          refine lv_iconst (v := 0) hx hb dX2_isPredicate_28 (by decide) ?_
          exact kB_X2_isPredicate_29 C vM 0 _ _ _ hG (lv_sub hl [] rfl) hw
        · have hw := hw.1 q_
          exact kB_X2_isPredicate_24 C vM  _ _ _ hG (lv_sub hl [] rfl) hw
set_option maxHeartbeats 4000000 in
set_option maxRecDepth 100000 in
theorem met_X2_isPredicate {l : Launch} {E : EnvT} (vE : EnvOk E) {aK aV aE : Nat → Nat} {aO : Nat} (vM : eXs aK aV aE aO E) {sz : Nat} {x0 : Int32} {post : Int32 → Prop} (hw : wp_X2_isPredicate post x0) : Met l yX2_isPredicate wgX2_isPredicate rm_X2_isPredicate (va_Pc [.int x0] (sPre E sz)) (va_Qi (S := Unit) (fun r _ => post r) (fun _ _ => True) (va_A [] sz)) 0 0 (va_A [] sz) := by
  refine Met.ofW (cc := cX2_isPredicate) (maxL := 1) (ret := (some .boolean)) (by decide +kernel) rfl ?_
  intro p e s m args below meth c s₁ B hml hv
  obtain ⟨rfl, hsz, hE⟩ := hv
  subst hsz
  generalize hAe : va_A [] s.heap.size = A at hE ⊢
  have hA : ∀ q : Nat, s.heap.size ≤ q → A q := fun q h => by rw [← hAe]; exact Or.inr h
  have hS : va_S A s.heap s.heap [] := va_S.rf
  have C : sCx p s m _ meth c cX2_isPredicate 1 (some .boolean) wgX2_isPredicate RX2 E A := ⟨B.exec, B.bytes, hml, B.returns, findClass_of_methodNamed B.named, atoms_spec (ws := wgX2_isPredicate) B.pre, hA, B.notSynchronized, hE, vE⟩
  have hG := hS
  have hl := lv_entry ([.int x0]) (n := 1) (Nat.le_of_ble_eq_true rfl)
  rw [lg_entry_eq]
  generalize (lg_sl ([.int x0]) ++ List.replicate (1 - (lg_sl ([.int x0])).length) Slot.unset).toArray = ls at hl ⊢
  have hl : lv_has ls 1 [(0, .int x0)] := hl
  exact k_X2_isPredicate C vM x0 _ _ _ hG hl hw
/-! ===== X2_isRegister  ===== -/
def rm_X2_isRegister : Room := { frames := 0, cells := 0, slots := 0, locals := 0 }
abbrev wgX2_isRegister : List Cond := .code yX2_isRegister cX2_isRegister 1 (some .boolean) :: TB
def wB_X2_isRegister_23 (post : Int32 → Prop) (t0 : Int32) : Prop :=
  isB t0 ∧ (post t0)
def wB_X2_isRegister_18 (post : Int32 → Prop) : Prop :=
  wB_X2_isRegister_23 post 1
def wp_X2_isRegister (post : Int32 → Prop) (x0 : Int32) : Prop :=
  (x0 = 100 → (wB_X2_isRegister_18 post)) ∧ (¬ x0 = 100 → ((x0 = 97 → (wB_X2_isRegister_18 post)) ∧ (¬ x0 = 97 → ((x0 = 98 → (wB_X2_isRegister_18 post)) ∧ (¬ x0 = 98 → (wB_X2_isRegister_23 post 0))))))
set_option maxHeartbeats 4000000 in
set_option maxRecDepth 100000 in
theorem kB_X2_isRegister_23 {p : Program} {l : Launch} {e : Env} {s : State} {m : MethodId} {args : Array Value} {below : List Frame} {meth : Method} {c : Code} {A : Nat → Prop} {E : EnvT} {aK aV aE : Nat → Nat} {aO : Nat} (C : sCx p s m args meth c cX2_isRegister 1 (some .boolean) wgX2_isRegister RX2 E A) (vM : eXs aK aV aE aO E) {post : Int32 → Prop} :
    ∀ (t0 : Int32) (H : Heap) (locs : List Loc) (ls : Array Slot), va_S A s.heap H locs → lv_has ls 1 [] → wB_X2_isRegister_23 post t0 → W p l e rm_X2_isRegister s m args below meth c H locs 0 0 (MQ below (va_Qi (S := Unit) (fun r _ => post r) (fun _ _ => True) A) args s 0 0 A) (F0 m 23 ls [.int t0]) := by
  obtain ⟨hx, hb, hml, hr, hown, hts, hA, hlk, hE, vE⟩ := id C
  intro t0 H locs ls hG hl hw
  have hS := hG
  obtain ⟨h_1, hw⟩ := hw
  exact W.zret (v := t0) (ty := .boolean) hx hb hr (isB.n h_1) (fun t ht hW => ⟨⟨_, (), rfl, hw, trivial⟩, hS.F ht⟩) hS.2.2 dX2_isRegister_23 hlk
set_option maxHeartbeats 4000000 in
set_option maxRecDepth 100000 in
theorem kB_X2_isRegister_18 {p : Program} {l : Launch} {e : Env} {s : State} {m : MethodId} {args : Array Value} {below : List Frame} {meth : Method} {c : Code} {A : Nat → Prop} {E : EnvT} {aK aV aE : Nat → Nat} {aO : Nat} (C : sCx p s m args meth c cX2_isRegister 1 (some .boolean) wgX2_isRegister RX2 E A) (vM : eXs aK aV aE aO E) {post : Int32 → Prop} :
    ∀ (H : Heap) (locs : List Loc) (ls : Array Slot), va_S A s.heap H locs → lv_has ls 1 [] → wB_X2_isRegister_18 post → W p l e rm_X2_isRegister s m args below meth c H locs 0 0 (MQ below (va_Qi (S := Unit) (fun r _ => post r) (fun _ _ => True) A) args s 0 0 A) (F0 m 18 ls []) := by
  obtain ⟨hx, hb, hml, hr, hown, hts, hA, hlk, hE, vE⟩ := id C
  intro H locs ls hG hl hw
  have hS := hG
  refine lv_iconst (v := 1) hx hb dX2_isRegister_18 (by decide) ?_
  refine lv_goto (tgt := 23) hx hb dX2_isRegister_19 (by decide) ?_
  exact kB_X2_isRegister_23 C vM 1 _ _ _ hG (lv_sub hl [] rfl) hw
set_option maxHeartbeats 4000000 in
set_option maxRecDepth 100000 in
theorem k_X2_isRegister {p : Program} {l : Launch} {e : Env} {s : State} {m : MethodId} {args : Array Value} {below : List Frame} {meth : Method} {c : Code} {A : Nat → Prop} {E : EnvT} {aK aV aE : Nat → Nat} {aO : Nat} (C : sCx p s m args meth c cX2_isRegister 1 (some .boolean) wgX2_isRegister RX2 E A) (vM : eXs aK aV aE aO E) {post : Int32 → Prop} :
    ∀ (x0 : Int32) (H : Heap) (locs : List Loc) (ls : Array Slot), va_S A s.heap H locs → lv_has ls 1 [(0, .int x0)] → wp_X2_isRegister post x0 → W p l e rm_X2_isRegister s m args below meth c H locs 0 0 (MQ below (va_Qi (S := Unit) (fun r _ => post r) (fun _ _ => True) A) args s 0 0 A) (F0 m 0 ls []) := by
  obtain ⟨hx, hb, hml, hr, hown, hts, hA, hlk, hE, vE⟩ := id C
  intro x0 H locs ls hG hl hw
  have hS := hG
  refine lv_iload_n hx hb dX2_isRegister_0 rfl (lv_at hl 0 rfl) ?_
  refine lv_bipush (v := 100) hx hb dX2_isRegister_1 (by decide) ?_
  refine lv_icmp_eq (tgt := 18) hx hb dX2_isRegister_3 (by decide) (fun q_ => ?_) (fun q_ => ?_)
  · have hw := hw.1 q_
    exact kB_X2_isRegister_18 C vM  _ _ _ hG (lv_sub hl [] rfl) hw
  · have hw := hw.2 q_
    refine lv_iload_n hx hb dX2_isRegister_6 rfl (lv_at hl 0 rfl) ?_
    refine lv_bipush (v := 97) hx hb dX2_isRegister_7 (by decide) ?_
    refine lv_icmp_eq (tgt := 18) hx hb dX2_isRegister_9 (by decide) (fun q_ => ?_) (fun q_ => ?_)
    · have hw := hw.1 q_
      exact kB_X2_isRegister_18 C vM  _ _ _ hG (lv_sub hl [] rfl) hw
    · have hw := hw.2 q_
      refine lv_iload_n hx hb dX2_isRegister_12 rfl (lv_at hl 0 rfl) ?_
      refine lv_bipush (v := 98) hx hb dX2_isRegister_13 (by decide) ?_
      refine lv_icmp_ne (tgt := 22) hx hb dX2_isRegister_15 (by decide) (fun q_ => ?_) (fun q_ => ?_)
      · have hw := hw.2 q_
        refine lv_iconst (v := 0) hx hb dX2_isRegister_22 (by decide) ?_
        exact kB_X2_isRegister_23 C vM 0 _ _ _ hG (lv_sub hl [] rfl) hw
      · have hw := hw.1 q_
        exact kB_X2_isRegister_18 C vM  _ _ _ hG (lv_sub hl [] rfl) hw
set_option maxHeartbeats 4000000 in
set_option maxRecDepth 100000 in
theorem met_X2_isRegister {l : Launch} {E : EnvT} (vE : EnvOk E) {aK aV aE : Nat → Nat} {aO : Nat} (vM : eXs aK aV aE aO E) {sz : Nat} {x0 : Int32} {post : Int32 → Prop} (hw : wp_X2_isRegister post x0) : Met l yX2_isRegister wgX2_isRegister rm_X2_isRegister (va_Pc [.int x0] (sPre E sz)) (va_Qi (S := Unit) (fun r _ => post r) (fun _ _ => True) (va_A [] sz)) 0 0 (va_A [] sz) := by
  refine Met.ofW (cc := cX2_isRegister) (maxL := 1) (ret := (some .boolean)) (by decide +kernel) rfl ?_
  intro p e s m args below meth c s₁ B hml hv
  obtain ⟨rfl, hsz, hE⟩ := hv
  subst hsz
  generalize hAe : va_A [] s.heap.size = A at hE ⊢
  have hA : ∀ q : Nat, s.heap.size ≤ q → A q := fun q h => by rw [← hAe]; exact Or.inr h
  have hS : va_S A s.heap s.heap [] := va_S.rf
  have C : sCx p s m _ meth c cX2_isRegister 1 (some .boolean) wgX2_isRegister RX2 E A := ⟨B.exec, B.bytes, hml, B.returns, findClass_of_methodNamed B.named, atoms_spec (ws := wgX2_isRegister) B.pre, hA, B.notSynchronized, hE, vE⟩
  have hG := hS
  have hl := lv_entry ([.int x0]) (n := 1) (Nat.le_of_ble_eq_true rfl)
  rw [lg_entry_eq]
  generalize (lg_sl ([.int x0]) ++ List.replicate (1 - (lg_sl ([.int x0])).length) Slot.unset).toArray = ls at hl ⊢
  have hl : lv_has ls 1 [(0, .int x0)] := hl
  exact k_X2_isRegister C vM x0 _ _ _ hG hl hw
/-! ===== X2_mostOf  ===== -/
def rm_X2_mostOf : Room := { frames := 1, cells := 0, slots := 0, locals := 20 }
abbrev wgX2_mostOf : List Cond := .code yX2_mostOf cX2_mostOf 1 (some .int) :: TB
def wB_X2_mostOf_32 (post : Int32 → Prop) (t0 : Int32) : Prop :=
  post t0
def wp_X2_mostOf (post : Int32 → Prop) (x0 : Int32) : Prop :=
  wp_X2_isRegister (fun r_1  => (r_1 = 0 → (wp_X2_isPredicate (fun r_3  => (r_3 = 0 → ((x0 = 116 → (wB_X2_mostOf_32 post 63)) ∧ (¬ x0 = 116 → (wB_X2_mostOf_32 post 2147483647)))) ∧ (¬ r_3 = 0 → (post 3))) x0)) ∧ (¬ r_1 = 0 → (post 15))) x0
set_option maxHeartbeats 4000000 in
set_option maxRecDepth 100000 in
theorem kB_X2_mostOf_32 {p : Program} {l : Launch} {e : Env} {s : State} {m : MethodId} {args : Array Value} {below : List Frame} {meth : Method} {c : Code} {A : Nat → Prop} {E : EnvT} {aK aV aE : Nat → Nat} {aO : Nat} (C : sCx p s m args meth c cX2_mostOf 1 (some .int) wgX2_mostOf RX2 E A) (vM : eXs aK aV aE aO E) {post : Int32 → Prop} :
    ∀ (t0 : Int32) (H : Heap) (locs : List Loc) (ls : Array Slot), va_S A s.heap H locs → lv_has ls 1 [] → wB_X2_mostOf_32 post t0 → W p l e rm_X2_mostOf s m args below meth c H locs 0 0 (MQ below (va_Qi (S := Unit) (fun r _ => post r) (fun _ _ => True) A) args s 0 0 A) (F0 m 32 ls [.int t0]) := by
  obtain ⟨hx, hb, hml, hr, hown, hts, hA, hlk, hE, vE⟩ := id C
  intro t0 H locs ls hG hl hw
  have hS := hG
  exact W.iret (v := t0) hx hb hr (fun t ht hW => ⟨⟨_, (), rfl, hw, trivial⟩, hS.F ht⟩) hS.2.2 dX2_mostOf_32 hlk
set_option maxHeartbeats 4000000 in
set_option maxRecDepth 100000 in
theorem k_X2_mostOf {p : Program} {l : Launch} {e : Env} {s : State} {m : MethodId} {args : Array Value} {below : List Frame} {meth : Method} {c : Code} {A : Nat → Prop} {E : EnvT} {aK aV aE : Nat → Nat} {aO : Nat} (C : sCx p s m args meth c cX2_mostOf 1 (some .int) wgX2_mostOf RX2 E A) (vM : eXs aK aV aE aO E) {post : Int32 → Prop} :
    ∀ (x0 : Int32) (H : Heap) (locs : List Loc) (ls : Array Slot), va_S A s.heap H locs → lv_has ls 1 [(0, .int x0)] → wp_X2_mostOf post x0 → W p l e rm_X2_mostOf s m args below meth c H locs 0 0 (MQ below (va_Qi (S := Unit) (fun r _ => post r) (fun _ _ => True) A) args s 0 0 A) (F0 m 0 ls []) := by
  obtain ⟨hx, hb, hml, hr, hown, hts, hA, hlk, hE, vE⟩ := id C
  intro x0 H locs ls hG hl hw
  have hS := hG
  refine lv_iload_n hx hb dX2_mostOf_0 rfl (lv_at hl 0 rfl) ?_
  refine sS_i (As := [.int x0]) (rest := []) C (met_X2_isRegister vE vM hw) (va_cwS 1 hts (TB_G (TB_3 tw_2_107 tw_2_108 tw_1_19) tw_2_109) rfl rfl rfl (by decide +kernel) ⟨by decide, by decide⟩) hS rfl hl.1 rfl (Nat.le_of_ble_eq_true rfl) dX2_mostOf_1 ⟨by decide, by decide⟩ (fun r_1 H locs hw hS => ?_)
  have hG := hS
  refine lv_if_eq (tgt := 10) hx hb dX2_mostOf_4 (by decide) (fun q_ => ?_) (fun q_ => ?_)
  · have hw := hw.1 q_
    refine lv_iload_n hx hb dX2_mostOf_10 rfl (lv_at hl 0 rfl) ?_
    refine sS_i (As := [.int x0]) (rest := []) C (met_X2_isPredicate vE vM hw) (va_cwS 1 hts (TB_G (TB_3 tw_2_110 tw_2_111 tw_1_19) tw_2_112) rfl rfl rfl (by decide +kernel) ⟨by decide, by decide⟩) hS rfl hl.1 rfl (Nat.le_of_ble_eq_true rfl) dX2_mostOf_11 ⟨by decide, by decide⟩ (fun r_3 H locs hw hS => ?_)
    have hG := hS
    refine lv_if_eq (tgt := 19) hx hb dX2_mostOf_14 (by decide) (fun q_ => ?_) (fun q_ => ?_)
    · have hw := hw.1 q_
      refine lv_iload_n hx hb dX2_mostOf_19 rfl (lv_at hl 0 rfl) ?_
      refine lv_bipush (v := 116) hx hb dX2_mostOf_20 (by decide) ?_
      refine lv_icmp_ne (tgt := 30) hx hb dX2_mostOf_22 (by decide) (fun q_ => ?_) (fun q_ => ?_)
      · have hw := hw.2 q_
        refine lv_ldc (v := 2147483647) hx hb hown (hts _ (List.mem_cons_of_mem _ tw_2_113)) dX2_mostOf_30 ?_
        exact kB_X2_mostOf_32 C vM 2147483647 _ _ _ hG (lv_sub hl [] rfl) hw
      · have hw := hw.1 q_
        refine lv_bipush (v := 63) hx hb dX2_mostOf_25 (by decide) ?_
        refine lv_goto (tgt := 32) hx hb dX2_mostOf_27 (by decide) ?_
        exact kB_X2_mostOf_32 C vM 63 _ _ _ hG (lv_sub hl [] rfl) hw
    · have hw := hw.2 q_
      refine lv_iconst (v := 3) hx hb dX2_mostOf_17 (by decide) ?_
      exact W.iret (v := 3) hx hb hr (fun t ht hW => ⟨⟨_, (), rfl, hw, trivial⟩, hS.F ht⟩) hS.2.2 dX2_mostOf_18 hlk
  · have hw := hw.2 q_
    refine lv_bipush (v := 15) hx hb dX2_mostOf_7 (by decide) ?_
    exact W.iret (v := 15) hx hb hr (fun t ht hW => ⟨⟨_, (), rfl, hw, trivial⟩, hS.F ht⟩) hS.2.2 dX2_mostOf_9 hlk
set_option maxHeartbeats 4000000 in
set_option maxRecDepth 100000 in
theorem met_X2_mostOf {l : Launch} {E : EnvT} (vE : EnvOk E) {aK aV aE : Nat → Nat} {aO : Nat} (vM : eXs aK aV aE aO E) {sz : Nat} {x0 : Int32} {post : Int32 → Prop} (hw : wp_X2_mostOf post x0) : Met l yX2_mostOf wgX2_mostOf rm_X2_mostOf (va_Pc [.int x0] (sPre E sz)) (va_Qi (S := Unit) (fun r _ => post r) (fun _ _ => True) (va_A [] sz)) 0 0 (va_A [] sz) := by
  refine Met.ofW (cc := cX2_mostOf) (maxL := 1) (ret := (some .int)) (by decide +kernel) rfl ?_
  intro p e s m args below meth c s₁ B hml hv
  obtain ⟨rfl, hsz, hE⟩ := hv
  subst hsz
  generalize hAe : va_A [] s.heap.size = A at hE ⊢
  have hA : ∀ q : Nat, s.heap.size ≤ q → A q := fun q h => by rw [← hAe]; exact Or.inr h
  have hS : va_S A s.heap s.heap [] := va_S.rf
  have C : sCx p s m _ meth c cX2_mostOf 1 (some .int) wgX2_mostOf RX2 E A := ⟨B.exec, B.bytes, hml, B.returns, findClass_of_methodNamed B.named, atoms_spec (ws := wgX2_mostOf) B.pre, hA, B.notSynchronized, hE, vE⟩
  have hG := hS
  have hl := lv_entry ([.int x0]) (n := 1) (Nat.le_of_ble_eq_true rfl)
  rw [lg_entry_eq]
  generalize (lg_sl ([.int x0]) ++ List.replicate (1 - (lg_sl ([.int x0])).length) Slot.unset).toArray = ls at hl ⊢
  have hl : lv_has ls 1 [(0, .int x0)] := hl
  exact k_X2_mostOf C vM x0 _ _ _ hG hl hw
