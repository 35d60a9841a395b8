/-! ===== X0_unmade kernel ===== -/
def rm_X0_unmade : Room := { frames := 0, cells := 0, slots := 0, locals := 0 }
abbrev wgX0_unmade : List Cond := .code yX0_unmade cX0_unmade 3 (some .int) :: TB
def wB_X0_unmade_24 (post : Int32 → XS → Prop) (k4 : Int32 → Int32 → XS → Prop) (x1 : Int32) (x2 : Int32) (σ : XS) : Prop :=
  ∀ x2_5 : Int32, x2_5 = x2 + 1 → k4 x1 x2_5 σ
def wB_X0_unmade_4 (post : Int32 → XS → Prop) (k4 : Int32 → Int32 → XS → Prop) (x1 : Int32) (x2 : Int32) (σ : XS) : Prop :=
  ((xI σ 8) ≤ x2 → (post x1 σ)) ∧ (¬ (xI σ 8) ≤ x2 → (vp_in x2 64 ∧ ((xQ σ 1 x2.toNatClampNeg = none → (∀ x1_4 : Int32, x1_4 = x1 + 1 → wB_X0_unmade_24 post k4 x1_4 x2 σ)) ∧ (∀ e_2 : Nat, xQ σ 1 x2.toNatClampNeg = some e_2 → (wB_X0_unmade_24 post k4 x1 x2 σ)))))
def wL_X0_unmade_4 (post : Int32 → XS → Prop) : Nat → Int32 → Int32 → XS → Prop
  | 0 => fun _ _ _ => False
  | n + 1 => wB_X0_unmade_4 post (wL_X0_unmade_4 post n)
def wp_X0_unmade (post : Int32 → XS → Prop) (σ : XS) : Prop :=
  ∃ n, wL_X0_unmade_4 post n 0 0 σ
set_option maxHeartbeats 4000000 in
set_option maxRecDepth 100000 in
theorem kB_X0_unmade_24 {p : Program} {l : Launch} {e : Env} {s : State} {m : MethodId} {args : Array Value} {below : List Frame} {meth : Method} {c : Code} {A : Nat → Prop} {E : EnvT} {aK aV : Nat → Nat} {aO : Nat} {D : va_G} {cA : Nat → ClassId} {aE ad : Nat → Nat} (C : xCx p s m args meth c cX0_unmade 3 (some .int) wgX0_unmade RX0 E D cA A) (vM : eXs aK aV aE aO E) {post : Int32 → XS → Prop}
    {k4 : Int32 → Int32 → XS → Prop} (hk4 : ∀ (x1 : Int32) (x2 : Int32) (σ : XS) (H : Heap) (locs : List Loc) (ls : Array Slot), xG D cA aE ad A s σ H locs → lv_has ls 3 [(0, .ref (ad 17)), (1, .int x1), (2, .int x2)] → k4 x1 x2 σ → W p l e rm_X0_unmade s m args below meth c H locs 0 0 (MQ below (va_Qi post (xAt D cA aE ad A) A) args s 0 0 A) (F0 m 4 ls [])) :
    ∀ (x1 : Int32) (x2 : Int32) (σ : XS) (H : Heap) (locs : List Loc) (ls : Array Slot), xG D cA aE ad A s σ H locs → lv_has ls 3 [(0, .ref (ad 17)), (1, .int x1), (2, .int x2)] → wB_X0_unmade_24 post k4 x1 x2 σ → W p l e rm_X0_unmade s m args below meth c H locs 0 0 (MQ below (va_Qi post (xAt D cA aE ad A) A) args s 0 0 A) (F0 m 24 ls []) := by
  obtain ⟨hx, hb, hml, hr, hown, hts, hK, hA, hlk, hE, vE⟩ := id C
  intro x1 x2 σ H locs ls hG hl hw
  obtain ⟨hP, hD, hS⟩ := id hG
  obtain ⟨x2_5, ex2_5⟩ : ∃ y : Int32, y = x2 + 1 := ⟨_, rfl⟩
  have hw := hw x2_5 ex2_5
  refine lv_iinc (v := x2_5) (lv' := [(2, .int x2_5), (0, .ref (ad 17)), (1, .int x1)]) hx hb dX0_unmade_24 hl (k := 2) rfl (by rw [ex2_5]; rfl) (by decide) rfl (fun ls hl => ?_)
  refine lv_goto (tgt := 4) hx hb dX0_unmade_27 (by decide) ?_
  exact hk4 x1 x2_5 σ _ _ _ hG (lv_sub hl [1, 2, 0] rfl) hw
set_option maxHeartbeats 4000000 in
set_option maxRecDepth 100000 in
theorem kB_X0_unmade_4 {p : Program} {l : Launch} {e : Env} {s : State} {m : MethodId} {args : Array Value} {below : List Frame} {meth : Method} {c : Code} {A : Nat → Prop} {E : EnvT} {aK aV : Nat → Nat} {aO : Nat} {D : va_G} {cA : Nat → ClassId} {aE ad : Nat → Nat} (C : xCx p s m args meth c cX0_unmade 3 (some .int) wgX0_unmade RX0 E D cA A) (vM : eXs aK aV aE aO E) {post : Int32 → XS → Prop}
    {k4 : Int32 → Int32 → XS → Prop} (hk4 : ∀ (x1 : Int32) (x2 : Int32) (σ : XS) (H : Heap) (locs : List Loc) (ls : Array Slot), xG D cA aE ad A s σ H locs → lv_has ls 3 [(0, .ref (ad 17)), (1, .int x1), (2, .int x2)] → k4 x1 x2 σ → W p l e rm_X0_unmade s m args below meth c H locs 0 0 (MQ below (va_Qi post (xAt D cA aE ad A) A) args s 0 0 A) (F0 m 4 ls [])) :
    ∀ (x1 : Int32) (x2 : Int32) (σ : XS) (H : Heap) (locs : List Loc) (ls : Array Slot), xG D cA aE ad A s σ H locs → lv_has ls 3 [(0, .ref (ad 17)), (1, .int x1), (2, .int x2)] → wB_X0_unmade_4 post k4 x1 x2 σ → W p l e rm_X0_unmade s m args below meth c H locs 0 0 (MQ below (va_Qi post (xAt D cA aE ad A) A) args s 0 0 A) (F0 m 4 ls []) := by
  obtain ⟨hx, hb, hml, hr, hown, hts, hK, hA, hlk, hE, vE⟩ := id C
  intro x1 x2 σ H locs ls hG hl hw
  obtain ⟨hP, hD, hS⟩ := id hG
  refine lv_iload_n hx hb dX0_unmade_4 rfl (lv_at hl 2 rfl) ?_
  refine lv_aload_n hx hb dX0_unmade_5 rfl (lv_at hl 0 rfl) ?_
  refine va_get (D := D) (ci := 2) (v := .int (xI σ 8)) (C := RX0) (T := TX0) (N := 5) hx hb hts (in_tb inX0) hown hK hP 17 rfl rfl 4 (by decide) (hts _ (List.mem_cons_of_mem _ tw_1_157)) (fun _ h9 => h9) rfl dX0_unmade_6 ?_
  refine lv_icmp_ge (tgt := 30) hx hb dX0_unmade_9 (by decide) (fun q_ => ?_) (fun q_ => ?_)
  · have hw := hw.1 q_
    refine lv_iload_n hx hb dX0_unmade_30 rfl (lv_at hl 1 rfl) ?_
    exact W.iret (v := x1) hx hb hr (fun t ht hW => ⟨⟨_, σ, rfl, hw, by rw [ht]; exact hP, va_K.moved hW.alike hK, hD⟩, hS.F ht⟩) hS.2.2 dX0_unmade_31 hlk
  · have hw := hw.2 q_
    refine lv_aload_n hx hb dX0_unmade_12 rfl (lv_at hl 0 rfl) ?_
    refine va_get (D := D) (ci := 2) (v := .ref (ad 19)) (C := RX0) (T := TX0) (N := 5) hx hb hts (in_tb inX0) hown hK hP 17 rfl rfl 1 (by decide) (hts _ (List.mem_cons_of_mem _ tw_1_152)) (fun _ h9 => h9) rfl dX0_unmade_13 ?_
    refine lv_iload_n hx hb dX0_unmade_16 rfl (lv_at hl 2 rfl) ?_
    obtain ⟨h_1, hw⟩ := hw
    refine va_aldq hx hb hK hP 19 3 rfl rfl h_1 dX0_unmade_17 ?_
    rcases q_3 : xQ σ 1 x2.toNatClampNeg with _ | e_2
    · have hw := hw.1 q_3
      refine q_none rfl ?_
      refine lv_ifnonnullN hx hb dX0_unmade_18 ?_
      obtain ⟨x1_4, ex1_4⟩ : ∃ y : Int32, y = x1 + 1 := ⟨_, rfl⟩
      have hw := hw x1_4 ex1_4
      refine lv_iinc (v := x1_4) (lv' := [(1, .int x1_4), (0, .ref (ad 17)), (2, .int x2)]) hx hb dX0_unmade_21 hl (k := 1) rfl (by rw [ex1_4]; rfl) (by decide) rfl (fun ls hl => ?_)
      exact kB_X0_unmade_24 C vM hk4 x1_4 x2 σ _ _ _ hG (lv_sub hl [1, 0, 2] rfl) hw
    · have hw := hw.2 e_2 q_3
      refine q_some rfl ?_
      refine lv_ifnonnull (tgt := 24) hx hb dX0_unmade_18 (by decide) ?_
      exact kB_X0_unmade_24 C vM hk4 x1 x2 σ _ _ _ hG (lv_sub hl [0, 1, 2] rfl) hw
theorem kL_X0_unmade_4 {p : Program} {l : Launch} {e : Env} {s : State} {m : MethodId} {args : Array Value} {below : List Frame} {meth : Method} {c : Code} {A : Nat → Prop} {E : EnvT} {aK aV : Nat → Nat} {aO : Nat} {D : va_G} {cA : Nat → ClassId} {aE ad : Nat → Nat} (C : xCx p s m args meth c cX0_unmade 3 (some .int) wgX0_unmade RX0 E D cA A) (vM : eXs aK aV aE aO E) {post : Int32 → XS → Prop} :
    ∀ (n : Nat) (x1 : Int32) (x2 : Int32) (σ : XS) (H : Heap) (locs : List Loc) (ls : Array Slot), xG D cA aE ad A s σ H locs → lv_has ls 3 [(0, .ref (ad 17)), (1, .int x1), (2, .int x2)] → wL_X0_unmade_4 post n x1 x2 σ → W p l e rm_X0_unmade s m args below meth c H locs 0 0 (MQ below (va_Qi post (xAt D cA aE ad A) A) args s 0 0 A) (F0 m 4 ls []) := by
  intro n
  induction n with
  | zero => intro x1 x2 σ H locs ls hG hl hw; exact hw.elim
  | succ n ih => exact kB_X0_unmade_4 C vM ih
set_option maxHeartbeats 4000000 in
set_option maxRecDepth 100000 in
theorem k_X0_unmade {p : Program} {l : Launch} {e : Env} {s : State} {m : MethodId} {args : Array Value} {below : List Frame} {meth : Method} {c : Code} {A : Nat → Prop} {E : EnvT} {aK aV : Nat → Nat} {aO : Nat} {D : va_G} {cA : Nat → ClassId} {aE ad : Nat → Nat} (C : xCx p s m args meth c cX0_unmade 3 (some .int) wgX0_unmade RX0 E D cA A) (vM : eXs aK aV aE aO E) {post : Int32 → XS → Prop} :
    ∀ (σ : XS) (H : Heap) (locs : List Loc) (ls : Array Slot), xG D cA aE ad A s σ H locs → lv_has ls 3 [(0, .ref (ad 17))] → wp_X0_unmade post σ → W p l e rm_X0_unmade s m args below meth c H locs 0 0 (MQ below (va_Qi post (xAt D cA aE ad A) A) args s 0 0 A) (F0 m 0 ls []) := by
  obtain ⟨hx, hb, hml, hr, hown, hts, hK, hA, hlk, hE, vE⟩ := id C
  intro σ H locs ls hG hl hw
  obtain ⟨hP, hD, hS⟩ := id hG
  refine lv_iconst (v := 0) hx hb dX0_unmade_0 (by decide) ?_
  refine lv_istore_n (lv' := [(1, .int 0), (0, .ref (ad 17))]) hx hb dX0_unmade_1 rfl hl (by decide) rfl (fun ls hl => ?_)
  refine lv_iconst (v := 0) hx hb dX0_unmade_2 (by decide) ?_
  refine lv_istore_n (lv' := [(2, .int 0), (1, .int 0), (0, .ref (ad 17))]) hx hb dX0_unmade_3 rfl hl (by decide) rfl (fun ls hl => ?_)
  obtain ⟨n_, hw⟩ := hw
  exact kL_X0_unmade_4 C vM n_ 0 0 σ _ _ _ hG (lv_sub hl [2, 1, 0] rfl) hw
set_option maxHeartbeats 4000000 in
set_option maxRecDepth 100000 in
theorem met_X0_unmade {l : Launch} {E : EnvT} (vE : EnvOk E) {D : va_G} {cA : Nat → ClassId} {aE ad : Nat → Nat} {σ : XS} {aK aV : Nat → Nat} {aO : Nat} (vM : eXs aK aV aE aO E) {sz : Nat} {post : Int32 → XS → Prop} (hw : wp_X0_unmade post σ) : Met l yX0_unmade wgX0_unmade rm_X0_unmade (va_Pc [.ref (ad 17)] (xPre E D cA aE ad sz σ)) (va_Qi post (xAt D cA aE ad (va_A (xW cA aE ad σ) sz)) (va_A (xW cA aE ad σ) sz)) 0 0 (va_A (xW cA aE ad σ) sz) := by
  refine Met.ofW (cc := cX0_unmade) (maxL := 3) (ret := (some .int)) (by decide +kernel) rfl ?_
  intro p e s m args below meth c s₁ B hml hv
  obtain ⟨rfl, hsz, hP, hK, hD0, hE⟩ := hv
  subst hsz
  have hD := hD0.self (sz := s.heap.size)
  generalize hAe : va_A (xW cA aE ad σ) s.heap.size = A at hD hE ⊢
  have hA : ∀ q : Nat, s.heap.size ≤ q → A q := fun q h => by rw [← hAe]; exact Or.inr h
  have hS : va_S A s.heap s.heap [] := va_S.rf
  have C : xCx p s m _ meth c cX0_unmade 3 (some .int) wgX0_unmade RX0 E D cA A := ⟨B.exec, B.bytes, hml, B.returns, findClass_of_methodNamed B.named, atoms_spec (ws := wgX0_unmade) B.pre, hK, hA, B.notSynchronized, hE, vE⟩
  have hG : xG D cA aE ad A s σ s.heap [] := ⟨hP, hD, hS⟩
  have hl := lv_entry ([.ref (ad 17)]) (n := 3) (Nat.le_of_ble_eq_true rfl)
  rw [lg_entry_eq]
  generalize (lg_sl ([.ref (ad 17)]) ++ List.replicate (3 - (lg_sl ([.ref (ad 17)])).length) Slot.unset).toArray = ls at hl ⊢
  have hl : lv_has ls 3 [(0, .ref (ad 17))] := hl
  exact k_X0_unmade C vM σ _ _ _ hG hl hw
/-! ===== X0_having kernel ===== -/
def rm_X0_having_r : Room := { frames := 2, cells := 0, slots := 0, locals := 42 }
abbrev wgX0_having : List Cond := .code yX0_having cX0_having 6 (some .long) :: TB
def wB_X0_having_r_47 (post : Int64 → XS → Prop) (x3 : Int64) (σ : XS) : Prop :=
  post x3 σ
def wB_X0_having_r_41 (post : Int64 → XS → Prop) (k5 : Int32 → Int64 → Int32 → XS → Prop) (x2 : Int32) (x3 : Int64) (x5 : Int32) (σ : XS) : Prop :=
  ∀ x5_2 : Int32, x5_2 = x5 + 1 → k5 x2 x3 x5_2 σ
def wB_X0_having_r_5 (post : Int64 → XS → Prop) (k5 : Int32 → Int64 → Int32 → XS → Prop) (x2 : Int32) (x3 : Int64) (x5 : Int32) (σ : XS) : Prop :=
  ((xI σ 8) ≤ x5 → (wB_X0_having_r_47 post x3 σ)) ∧ (¬ (xI σ 8) ≤ x5 → ((64 ≤ x5 → (wB_X0_having_r_47 post x3 σ)) ∧ (¬ 64 ≤ x5 → (vp_in x5 64 ∧ (((((xA σ 4 x5.toNatClampNeg) >>> (x2 &&& 31)) &&& 1) = 0 → (wB_X0_having_r_41 post k5 x2 x3 x5 σ)) ∧ (¬ (((xA σ 4 x5.toNatClampNeg) >>> (x2 &&& 31)) &&& 1) = 0 → (wp_X0_bitOf (fun r_3 σ_4 => ∀ x3_5 : Int64, x3_5 = x3 ||| r_3 → wB_X0_having_r_41 post k5 x2 x3_5 x5 σ_4) x5 σ)))))))
def wL_X0_having_r_5 (post : Int64 → XS → Prop) : Nat → Int32 → Int64 → Int32 → XS → Prop
  | 0 => fun _ _ _ _ => False
  | n + 1 => wB_X0_having_r_5 post (wL_X0_having_r_5 post n)
def wp_X0_having_r (post : Int64 → XS → Prop) (x2 : Int32) (σ : XS) : Prop :=
  ∃ n, wL_X0_having_r_5 post n x2 0 0 σ
set_option maxHeartbeats 4000000 in
set_option maxRecDepth 100000 in
theorem kB_X0_having_r_47 {p : Program} {l : Launch} {e : Env} {s : State} {m : MethodId} {args : Array Value} {below : List Frame} {meth : Method} {c : Code} {A : Nat → Prop} {E : EnvT} {aK aV : Nat → Nat} {aO : Nat} {D : va_G} {cA : Nat → ClassId} {aE ad : Nat → Nat} (C : xCx p s m args meth c cX0_having 6 (some .long) wgX0_having RX0 E D cA A) (vM : eXs aK aV aE aO E) {post : Int64 → XS → Prop} :
    ∀ (x3 : Int64) (σ : XS) (H : Heap) (locs : List Loc) (ls : Array Slot), xG D cA aE ad A s σ H locs → lv_has ls 6 [(3, .long x3)] → wB_X0_having_r_47 post x3 σ → W p l e rm_X0_having_r s m args below meth c H locs 0 0 (MQ below (va_Ql post (xAt D cA aE ad A) A) args s 0 0 A) (F0 m 47 ls []) := by
  obtain ⟨hx, hb, hml, hr, hown, hts, hK, hA, hlk, hE, vE⟩ := id C
  intro x3 σ H locs ls hG hl hw
  obtain ⟨hP, hD, hS⟩ := id hG
  refine lv_lload_n hx hb dX0_having_47 rfl (lv_at hl 0 rfl) ?_
  exact W.lret (v := x3) hx hb hr (fun t ht hW => ⟨⟨_, σ, rfl, hw, by rw [ht]; exact hP, va_K.moved hW.alike hK, hD⟩, hS.F ht⟩) hS.2.2 dX0_having_48 hlk
set_option maxHeartbeats 4000000 in
set_option maxRecDepth 100000 in
theorem kB_X0_having_r_41 {p : Program} {l : Launch} {e : Env} {s : State} {m : MethodId} {args : Array Value} {below : List Frame} {meth : Method} {c : Code} {A : Nat → Prop} {E : EnvT} {aK aV : Nat → Nat} {aO : Nat} {D : va_G} {cA : Nat → ClassId} {aE ad : Nat → Nat} (C : xCx p s m args meth c cX0_having 6 (some .long) wgX0_having RX0 E D cA A) (vM : eXs aK aV aE aO E) {post : Int64 → XS → Prop}
    {k5 : Int32 → Int64 → Int32 → XS → Prop} (hk5 : ∀ (x2 : Int32) (x3 : Int64) (x5 : Int32) (σ : XS) (H : Heap) (locs : List Loc) (ls : Array Slot), xG D cA aE ad A s σ H locs → lv_has ls 6 [(0, .ref (ad 17)), (1, .ref (ad 20)), (2, .int x2), (3, .long x3), (5, .int x5)] → k5 x2 x3 x5 σ → W p l e rm_X0_having_r s m args below meth c H locs 0 0 (MQ below (va_Ql post (xAt D cA aE ad A) A) args s 0 0 A) (F0 m 5 ls [])) :
    ∀ (x2 : Int32) (x3 : Int64) (x5 : Int32) (σ : XS) (H : Heap) (locs : List Loc) (ls : Array Slot), xG D cA aE ad A s σ H locs → lv_has ls 6 [(0, .ref (ad 17)), (1, .ref (ad 20)), (2, .int x2), (3, .long x3), (5, .int x5)] → wB_X0_having_r_41 post k5 x2 x3 x5 σ → W p l e rm_X0_having_r s m args below meth c H locs 0 0 (MQ below (va_Ql post (xAt D cA aE ad A) A) args s 0 0 A) (F0 m 41 ls []) := by
  obtain ⟨hx, hb, hml, hr, hown, hts, hK, hA, hlk, hE, vE⟩ := id C
  intro x2 x3 x5 σ H locs ls hG hl hw
  obtain ⟨hP, hD, hS⟩ := id hG
  obtain ⟨x5_2, ex5_2⟩ : ∃ y : Int32, y = x5 + 1 := ⟨_, rfl⟩
  have hw := hw x5_2 ex5_2
  refine lv_iinc (v := x5_2) (lv' := [(5, .int x5_2), (0, .ref (ad 17)), (1, .ref (ad 20)), (2, .int x2), (3, .long x3)]) hx hb dX0_having_41 hl (k := 4) rfl (by rw [ex5_2]; rfl) (by decide) rfl (fun ls hl => ?_)
  refine lv_goto (tgt := 5) hx hb dX0_having_44 (by decide) ?_
  exact hk5 x2 x3 x5_2 σ _ _ _ hG (lv_sub hl [1, 2, 3, 4, 0] rfl) hw
set_option maxHeartbeats 4000000 in
set_option maxRecDepth 100000 in
theorem kB_X0_having_r_5 {p : Program} {l : Launch} {e : Env} {s : State} {m : MethodId} {args : Array Value} {below : List Frame} {meth : Method} {c : Code} {A : Nat → Prop} {E : EnvT} {aK aV : Nat → Nat} {aO : Nat} {D : va_G} {cA : Nat → ClassId} {aE ad : Nat → Nat} (C : xCx p s m args meth c cX0_having 6 (some .long) wgX0_having RX0 E D cA A) (vM : eXs aK aV aE aO E) {post : Int64 → XS → Prop}
    {k5 : Int32 → Int64 → Int32 → XS → Prop} (hk5 : ∀ (x2 : Int32) (x3 : Int64) (x5 : Int32) (σ : XS) (H : Heap) (locs : List Loc) (ls : Array Slot), xG D cA aE ad A s σ H locs → lv_has ls 6 [(0, .ref (ad 17)), (1, .ref (ad 20)), (2, .int x2), (3, .long x3), (5, .int x5)] → k5 x2 x3 x5 σ → W p l e rm_X0_having_r s m args below meth c H locs 0 0 (MQ below (va_Ql post (xAt D cA aE ad A) A) args s 0 0 A) (F0 m 5 ls [])) :
    ∀ (x2 : Int32) (x3 : Int64) (x5 : Int32) (σ : XS) (H : Heap) (locs : List Loc) (ls : Array Slot), xG D cA aE ad A s σ H locs → lv_has ls 6 [(0, .ref (ad 17)), (1, .ref (ad 20)), (2, .int x2), (3, .long x3), (5, .int x5)] → wB_X0_having_r_5 post k5 x2 x3 x5 σ → W p l e rm_X0_having_r s m args below meth c H locs 0 0 (MQ below (va_Ql post (xAt D cA aE ad A) A) args s 0 0 A) (F0 m 5 ls []) := by
  obtain ⟨hx, hb, hml, hr, hown, hts, hK, hA, hlk, hE, vE⟩ := id C
  intro x2 x3 x5 σ H locs ls hG hl hw
  obtain ⟨hP, hD, hS⟩ := id hG
  refine lv_iload hx hb dX0_having_5 (lv_at hl 4 rfl) ?_
  refine lv_aload_n hx hb dX0_having_7 rfl (lv_at hl 0 rfl) ?_
  refine va_get (D := D) (ci := 2) (v := .int (xI σ 8)) (C := RX0) (T := TX0) (N := 5) hx hb hts (in_tb inX0) hown hK hP 17 rfl rfl 4 (by decide) (hts _ (List.mem_cons_of_mem _ tw_1_157)) (fun _ h9 => h9) rfl dX0_having_8 ?_
  refine lv_icmp_ge (tgt := 47) hx hb dX0_having_11 (by decide) (fun q_ => ?_) (fun q_ => ?_)
  · have hw := hw.1 q_
    exact kB_X0_having_r_47 C vM x3 σ _ _ _ hG (lv_sub hl [3] rfl) hw
  · have hw := hw.2 q_
    refine lv_iload hx hb dX0_having_14 (lv_at hl 4 rfl) ?_
    refine lv_aload_n hx hb dX0_having_16 rfl (lv_at hl 1 rfl) ?_
    refine va_alen (v := 64) hx hb hK hP 20 0 rfl rfl rfl dX0_having_17 ?_
    refine lv_icmp_ge (tgt := 47) hx hb dX0_having_18 (by decide) (fun q_ => ?_) (fun q_ => ?_)
    · have hw := hw.1 q_
      exact kB_X0_having_r_47 C vM x3 σ _ _ _ hG (lv_sub hl [3] rfl) hw
    · have hw := hw.2 q_
      refine lv_aload_n hx hb dX0_having_21 rfl (lv_at hl 1 rfl) ?_
      refine lv_iload hx hb dX0_having_22 (lv_at hl 4 rfl) ?_
      obtain ⟨h_1, hw⟩ := hw
      refine va_iald hx hb hK hP 20 0 rfl rfl h_1 dX0_having_24 ?_
      refine lv_iload_n hx hb dX0_having_25 rfl (lv_at hl 2 rfl) ?_
      refine lv_ishr hx hb dX0_having_26 ?_
      refine lv_iconst (v := 1) hx hb dX0_having_27 (by decide) ?_
      refine lv_iand hx hb dX0_having_28 ?_
      refine lv_if_eq (tgt := 41) hx hb dX0_having_29 (by decide) (fun q_ => ?_) (fun q_ => ?_)
      · have hw := hw.1 q_
        exact kB_X0_having_r_41 C vM hk5 x2 x3 x5 σ _ _ _ hG (lv_sub hl [0, 1, 2, 3, 4] rfl) hw
      · have hw := hw.2 q_
        refine lv_lload_n hx hb dX0_having_32 rfl (lv_at hl 3 rfl) ?_
        refine lv_aload_n hx hb dX0_having_33 rfl (lv_at hl 0 rfl) ?_
        refine lv_iload hx hb dX0_having_34 (lv_at hl 4 rfl) ?_
        refine xV_l (As := [.int x5]) (rest := [.long x3]) C (met_X0_bitOf vE vM hw) (va_recv hK hP (ci := 2) (q0 := 17) rfl rfl) (cwV 1 hts (TB_G (TB_4 tw_4_107 tw_4_77 tw_4_78 tw_1_6) tw_4_79) rfl rfl rfl (by decide +kernel) ⟨by decide, by decide⟩) hP hD hS rfl hl.1 rfl (Nat.le_of_ble_eq_true rfl) dX0_having_36 ⟨by decide, by decide⟩ (fun r_3 σ_4 H locs hw hP hD hS => ?_)
        have hG : xG D cA aE ad A s σ_4 H locs := ⟨hP, hD, hS⟩
        refine lv_lor hx hb dX0_having_39 ?_
        refine lv_topl (fun x3_5 ex3_5 => ?_)
        have hw := hw x3_5 ex3_5
        refine lv_lstore_n (lv' := [(3, .long x3_5), (0, .ref (ad 17)), (1, .ref (ad 20)), (2, .int x2), (5, .int x5)]) hx hb dX0_having_40 rfl hl (by decide) rfl (fun ls hl => ?_)
        exact kB_X0_having_r_41 C vM hk5 x2 x3_5 x5 σ_4 _ _ _ hG (lv_sub hl [1, 2, 3, 0, 4] rfl) hw
theorem kL_X0_having_r_5 {p : Program} {l : Launch} {e : Env} {s : State} {m : MethodId} {args : Array Value} {below : List Frame} {meth : Method} {c : Code} {A : Nat → Prop} {E : EnvT} {aK aV : Nat → Nat} {aO : Nat} {D : va_G} {cA : Nat → ClassId} {aE ad : Nat → Nat} (C : xCx p s m args meth c cX0_having 6 (some .long) wgX0_having RX0 E D cA A) (vM : eXs aK aV aE aO E) {post : Int64 → XS → Prop} :
    ∀ (n : Nat) (x2 : Int32) (x3 : Int64) (x5 : Int32) (σ : XS) (H : Heap) (locs : List Loc) (ls : Array Slot), xG D cA aE ad A s σ H locs → lv_has ls 6 [(0, .ref (ad 17)), (1, .ref (ad 20)), (2, .int x2), (3, .long x3), (5, .int x5)] → wL_X0_having_r_5 post n x2 x3 x5 σ → W p l e rm_X0_having_r s m args below meth c H locs 0 0 (MQ below (va_Ql post (xAt D cA aE ad A) A) args s 0 0 A) (F0 m 5 ls []) := by
  intro n
  induction n with
  | zero => intro x2 x3 x5 σ H locs ls hG hl hw; exact hw.elim
  | succ n ih => exact kB_X0_having_r_5 C vM ih
set_option maxHeartbeats 4000000 in
set_option maxRecDepth 100000 in
theorem k_X0_having_r {p : Program} {l : Launch} {e : Env} {s : State} {m : MethodId} {args : Array Value} {below : List Frame} {meth : Method} {c : Code} {A : Nat → Prop} {E : EnvT} {aK aV : Nat → Nat} {aO : Nat} {D : va_G} {cA : Nat → ClassId} {aE ad : Nat → Nat} (C : xCx p s m args meth c cX0_having 6 (some .long) wgX0_having RX0 E D cA A) (vM : eXs aK aV aE aO E) {post : Int64 → XS → Prop} :
    ∀ (x2 : Int32) (σ : XS) (H : Heap) (locs : List Loc) (ls : Array Slot), xG D cA aE ad A s σ H locs → lv_has ls 6 [(0, .ref (ad 17)), (1, .ref (ad 20)), (2, .int x2)] → wp_X0_having_r post x2 σ → W p l e rm_X0_having_r s m args below meth c H locs 0 0 (MQ below (va_Ql post (xAt D cA aE ad A) A) args s 0 0 A) (F0 m 0 ls []) := by
  obtain ⟨hx, hb, hml, hr, hown, hts, hK, hA, hlk, hE, vE⟩ := id C
  intro x2 σ H locs ls hG hl hw
  obtain ⟨hP, hD, hS⟩ := id hG
  refine lv_lconst (v := 0) hx hb dX0_having_0 (by decide) ?_
  refine lv_lstore_n (lv' := [(3, .long 0), (0, .ref (ad 17)), (1, .ref (ad 20)), (2, .int x2)]) hx hb dX0_having_1 rfl hl (by decide) rfl (fun ls hl => ?_)
  refine lv_iconst (v := 0) hx hb dX0_having_2 (by decide) ?_
  refine lv_istore (lv' := [(5, .int 0), (3, .long 0), (0, .ref (ad 17)), (1, .ref (ad 20)), (2, .int x2)]) hx hb dX0_having_3 hl (by decide) rfl (fun ls hl => ?_)
  obtain ⟨n_, hw⟩ := hw
  exact kL_X0_having_r_5 C vM n_ x2 0 0 σ _ _ _ hG (lv_sub hl [2, 3, 4, 1, 0] rfl) hw
set_option maxHeartbeats 4000000 in
set_option maxRecDepth 100000 in
theorem met_X0_having_r {l : Launch} {E : EnvT} (vE : EnvOk E) {D : va_G} {cA : Nat → ClassId} {aE ad : Nat → Nat} {σ : XS} {aK aV : Nat → Nat} {aO : Nat} (vM : eXs aK aV aE aO E) {sz : Nat} {x2 : Int32} {post : Int64 → XS → Prop} (hw : wp_X0_having_r post x2 σ) : Met l yX0_having wgX0_having rm_X0_having_r (va_Pc [.ref (ad 17), .ref (ad 20), .int x2] (xPre E D cA aE ad sz σ)) (va_Ql post (xAt D cA aE ad (va_A (xW cA aE ad σ) sz)) (va_A (xW cA aE ad σ) sz)) 0 0 (va_A (xW cA aE ad σ) sz) := by
  refine Met.ofW (cc := cX0_having) (maxL := 6) (ret := (some .long)) (by decide +kernel) rfl ?_
  intro p e s m args below meth c s₁ B hml hv
  obtain ⟨rfl, hsz, hP, hK, hD0, hE⟩ := hv
  subst hsz
  have hD := hD0.self (sz := s.heap.size)
  generalize hAe : va_A (xW cA aE ad σ) s.heap.size = A at hD hE ⊢
  have hA : ∀ q : Nat, s.heap.size ≤ q → A q := fun q h => by rw [← hAe]; exact Or.inr h
  have hS : va_S A s.heap s.heap [] := va_S.rf
  have C : xCx p s m _ meth c cX0_having 6 (some .long) wgX0_having RX0 E D cA A := ⟨B.exec, B.bytes, hml, B.returns, findClass_of_methodNamed B.named, atoms_spec (ws := wgX0_having) B.pre, hK, hA, B.notSynchronized, hE, vE⟩
  have hG : xG D cA aE ad A s σ s.heap [] := ⟨hP, hD, hS⟩
  have hl := lv_entry ([.ref (ad 17), .ref (ad 20), .int x2]) (n := 6) (Nat.le_of_ble_eq_true rfl)
  rw [lg_entry_eq]
  generalize (lg_sl ([.ref (ad 17), .ref (ad 20), .int x2]) ++ List.replicate (6 - (lg_sl ([.ref (ad 17), .ref (ad 20), .int x2])).length) Slot.unset).toArray = ls at hl ⊢
  have hl : lv_has ls 6 [(0, .ref (ad 17)), (1, .ref (ad 20)), (2, .int x2)] := hl
  exact k_X0_having_r C vM x2 σ _ _ _ hG hl hw
/-! ===== X0_having kernel ===== -/
def rm_X0_having_o : Room := { frames := 2, cells := 0, slots := 0, locals := 42 }
def wB_X0_having_o_47 (post : Int64 → XS → Prop) (x3 : Int64) (σ : XS) : Prop :=
  post x3 σ
def wB_X0_having_o_41 (post : Int64 → XS → Prop) (k5 : Int32 → Int64 → Int32 → XS → Prop) (x2 : Int32) (x3 : Int64) (x5 : Int32) (σ : XS) : Prop :=
  ∀ x5_2 : Int32, x5_2 = x5 + 1 → k5 x2 x3 x5_2 σ
def wB_X0_having_o_5 (post : Int64 → XS → Prop) (k5 : Int32 → Int64 → Int32 → XS → Prop) (x2 : Int32) (x3 : Int64) (x5 : Int32) (σ : XS) : Prop :=
  ((xI σ 8) ≤ x5 → (wB_X0_having_o_47 post x3 σ)) ∧ (¬ (xI σ 8) ≤ x5 → ((64 ≤ x5 → (wB_X0_having_o_47 post x3 σ)) ∧ (¬ 64 ≤ x5 → (vp_in x5 64 ∧ (((((xA σ 5 x5.toNatClampNeg) >>> (x2 &&& 31)) &&& 1) = 0 → (wB_X0_having_o_41 post k5 x2 x3 x5 σ)) ∧ (¬ (((xA σ 5 x5.toNatClampNeg) >>> (x2 &&& 31)) &&& 1) = 0 → (wp_X0_bitOf (fun r_3 σ_4 => ∀ x3_5 : Int64, x3_5 = x3 ||| r_3 → wB_X0_having_o_41 post k5 x2 x3_5 x5 σ_4) x5 σ)))))))
def wL_X0_having_o_5 (post : Int64 → XS → Prop) : Nat → Int32 → Int64 → Int32 → XS → Prop
  | 0 => fun _ _ _ _ => False
  | n + 1 => wB_X0_having_o_5 post (wL_X0_having_o_5 post n)
def wp_X0_having_o (post : Int64 → XS → Prop) (x2 : Int32) (σ : XS) : Prop :=
  ∃ n, wL_X0_having_o_5 post n x2 0 0 σ
set_option maxHeartbeats 4000000 in
set_option maxRecDepth 100000 in
theorem kB_X0_having_o_47 {p : Program} {l : Launch} {e : Env} {s : State} {m : MethodId} {args : Array Value} {below : List Frame} {meth : Method} {c : Code} {A : Nat → Prop} {E : EnvT} {aK aV : Nat → Nat} {aO : Nat} {D : va_G} {cA : Nat → ClassId} {aE ad : Nat → Nat} (C : xCx p s m args meth c cX0_having 6 (some .long) wgX0_having RX0 E D cA A) (vM : eXs aK aV aE aO E) {post : Int64 → XS → Prop} :
    ∀ (x3 : Int64) (σ : XS) (H : Heap) (locs : List Loc) (ls : Array Slot), xG D cA aE ad A s σ H locs → lv_has ls 6 [(3, .long x3)] → wB_X0_having_o_47 post x3 σ → W p l e rm_X0_having_o s m args below meth c H locs 0 0 (MQ below (va_Ql post (xAt D cA aE ad A) A) args s 0 0 A) (F0 m 47 ls []) := by
  obtain ⟨hx, hb, hml, hr, hown, hts, hK, hA, hlk, hE, vE⟩ := id C
  intro x3 σ H locs ls hG hl hw
  obtain ⟨hP, hD, hS⟩ := id hG
  refine lv_lload_n hx hb dX0_having_47 rfl (lv_at hl 0 rfl) ?_
  exact W.lret (v := x3) hx hb hr (fun t ht hW => ⟨⟨_, σ, rfl, hw, by rw [ht]; exact hP, va_K.moved hW.alike hK, hD⟩, hS.F ht⟩) hS.2.2 dX0_having_48 hlk
set_option maxHeartbeats 4000000 in
set_option maxRecDepth 100000 in
theorem kB_X0_having_o_41 {p : Program} {l : Launch} {e : Env} {s : State} {m : MethodId} {args : Array Value} {below : List Frame} {meth : Method} {c : Code} {A : Nat → Prop} {E : EnvT} {aK aV : Nat → Nat} {aO : Nat} {D : va_G} {cA : Nat → ClassId} {aE ad : Nat → Nat} (C : xCx p s m args meth c cX0_having 6 (some .long) wgX0_having RX0 E D cA A) (vM : eXs aK aV aE aO E) {post : Int64 → XS → Prop}
    {k5 : Int32 → Int64 → Int32 → XS → Prop} (hk5 : ∀ (x2 : Int32) (x3 : Int64) (x5 : Int32) (σ : XS) (H : Heap) (locs : List Loc) (ls : Array Slot), xG D cA aE ad A s σ H locs → lv_has ls 6 [(0, .ref (ad 17)), (1, .ref (ad 21)), (2, .int x2), (3, .long x3), (5, .int x5)] → k5 x2 x3 x5 σ → W p l e rm_X0_having_o s m args below meth c H locs 0 0 (MQ below (va_Ql post (xAt D cA aE ad A) A) args s 0 0 A) (F0 m 5 ls [])) :
    ∀ (x2 : Int32) (x3 : Int64) (x5 : Int32) (σ : XS) (H : Heap) (locs : List Loc) (ls : Array Slot), xG D cA aE ad A s σ H locs → lv_has ls 6 [(0, .ref (ad 17)), (1, .ref (ad 21)), (2, .int x2), (3, .long x3), (5, .int x5)] → wB_X0_having_o_41 post k5 x2 x3 x5 σ → W p l e rm_X0_having_o s m args below meth c H locs 0 0 (MQ below (va_Ql post (xAt D cA aE ad A) A) args s 0 0 A) (F0 m 41 ls []) := by
  obtain ⟨hx, hb, hml, hr, hown, hts, hK, hA, hlk, hE, vE⟩ := id C
  intro x2 x3 x5 σ H locs ls hG hl hw
  obtain ⟨hP, hD, hS⟩ := id hG
  obtain ⟨x5_2, ex5_2⟩ : ∃ y : Int32, y = x5 + 1 := ⟨_, rfl⟩
  have hw := hw x5_2 ex5_2
  refine lv_iinc (v := x5_2) (lv' := [(5, .int x5_2), (0, .ref (ad 17)), (1, .ref (ad 21)), (2, .int x2), (3, .long x3)]) hx hb dX0_having_41 hl (k := 4) rfl (by rw [ex5_2]; rfl) (by decide) rfl (fun ls hl => ?_)
  refine lv_goto (tgt := 5) hx hb dX0_having_44 (by decide) ?_
  exact hk5 x2 x3 x5_2 σ _ _ _ hG (lv_sub hl [1, 2, 3, 4, 0] rfl) hw
set_option maxHeartbeats 4000000 in
set_option maxRecDepth 100000 in
theorem kB_X0_having_o_5 {p : Program} {l : Launch} {e : Env} {s : State} {m : MethodId} {args : Array Value} {below : List Frame} {meth : Method} {c : Code} {A : Nat → Prop} {E : EnvT} {aK aV : Nat → Nat} {aO : Nat} {D : va_G} {cA : Nat → ClassId} {aE ad : Nat → Nat} (C : xCx p s m args meth c cX0_having 6 (some .long) wgX0_having RX0 E D cA A) (vM : eXs aK aV aE aO E) {post : Int64 → XS → Prop}
    {k5 : Int32 → Int64 → Int32 → XS → Prop} (hk5 : ∀ (x2 : Int32) (x3 : Int64) (x5 : Int32) (σ : XS) (H : Heap) (locs : List Loc) (ls : Array Slot), xG D cA aE ad A s σ H locs → lv_has ls 6 [(0, .ref (ad 17)), (1, .ref (ad 21)), (2, .int x2), (3, .long x3), (5, .int x5)] → k5 x2 x3 x5 σ → W p l e rm_X0_having_o s m args below meth c H locs 0 0 (MQ below (va_Ql post (xAt D cA aE ad A) A) args s 0 0 A) (F0 m 5 ls [])) :
    ∀ (x2 : Int32) (x3 : Int64) (x5 : Int32) (σ : XS) (H : Heap) (locs : List Loc) (ls : Array Slot), xG D cA aE ad A s σ H locs → lv_has ls 6 [(0, .ref (ad 17)), (1, .ref (ad 21)), (2, .int x2), (3, .long x3), (5, .int x5)] → wB_X0_having_o_5 post k5 x2 x3 x5 σ → W p l e rm_X0_having_o s m args below meth c H locs 0 0 (MQ below (va_Ql post (xAt D cA aE ad A) A) args s 0 0 A) (F0 m 5 ls []) := by
  obtain ⟨hx, hb, hml, hr, hown, hts, hK, hA, hlk, hE, vE⟩ := id C
  intro x2 x3 x5 σ H locs ls hG hl hw
  obtain ⟨hP, hD, hS⟩ := id hG
  refine lv_iload hx hb dX0_having_5 (lv_at hl 4 rfl) ?_
  refine lv_aload_n hx hb dX0_having_7 rfl (lv_at hl 0 rfl) ?_
  refine va_get (D := D) (ci := 2) (v := .int (xI σ 8)) (C := RX0) (T := TX0) (N := 5) hx hb hts (in_tb inX0) hown hK hP 17 rfl rfl 4 (by decide) (hts _ (List.mem_cons_of_mem _ tw_1_157)) (fun _ h9 => h9) rfl dX0_having_8 ?_
  refine lv_icmp_ge (tgt := 47) hx hb dX0_having_11 (by decide) (fun q_ => ?_) (fun q_ => ?_)
  · have hw := hw.1 q_
    exact kB_X0_having_o_47 C vM x3 σ _ _ _ hG (lv_sub hl [3] rfl) hw
  · have hw := hw.2 q_
    refine lv_iload hx hb dX0_having_14 (lv_at hl 4 rfl) ?_
    refine lv_aload_n hx hb dX0_having_16 rfl (lv_at hl 1 rfl) ?_
    refine va_alen (v := 64) hx hb hK hP 21 0 rfl rfl rfl dX0_having_17 ?_
    refine lv_icmp_ge (tgt := 47) hx hb dX0_having_18 (by decide) (fun q_ => ?_) (fun q_ => ?_)
    · have hw := hw.1 q_
      exact kB_X0_having_o_47 C vM x3 σ _ _ _ hG (lv_sub hl [3] rfl) hw
    · have hw := hw.2 q_
      refine lv_aload_n hx hb dX0_having_21 rfl (lv_at hl 1 rfl) ?_
      refine lv_iload hx hb dX0_having_22 (lv_at hl 4 rfl) ?_
      obtain ⟨h_1, hw⟩ := hw
      refine va_iald hx hb hK hP 21 0 rfl rfl h_1 dX0_having_24 ?_
      refine lv_iload_n hx hb dX0_having_25 rfl (lv_at hl 2 rfl) ?_
      refine lv_ishr hx hb dX0_having_26 ?_
      refine lv_iconst (v := 1) hx hb dX0_having_27 (by decide) ?_
      refine lv_iand hx hb dX0_having_28 ?_
      refine lv_if_eq (tgt := 41) hx hb dX0_having_29 (by decide) (fun q_ => ?_) (fun q_ => ?_)
      · have hw := hw.1 q_
        exact kB_X0_having_o_41 C vM hk5 x2 x3 x5 σ _ _ _ hG (lv_sub hl [0, 1, 2, 3, 4] rfl) hw
      · have hw := hw.2 q_
        refine lv_lload_n hx hb dX0_having_32 rfl (lv_at hl 3 rfl) ?_
        refine lv_aload_n hx hb dX0_having_33 rfl (lv_at hl 0 rfl) ?_
        refine lv_iload hx hb dX0_having_34 (lv_at hl 4 rfl) ?_
        refine xV_l (As := [.int x5]) (rest := [.long x3]) C (met_X0_bitOf vE vM hw) (va_recv hK hP (ci := 2) (q0 := 17) rfl rfl) (cwV 1 hts (TB_G (TB_4 tw_4_107 tw_4_77 tw_4_78 tw_1_6) tw_4_79) rfl rfl rfl (by decide +kernel) ⟨by decide, by decide⟩) hP hD hS rfl hl.1 rfl (Nat.le_of_ble_eq_true rfl) dX0_having_36 ⟨by decide, by decide⟩ (fun r_3 σ_4 H locs hw hP hD hS => ?_)
        have hG : xG D cA aE ad A s σ_4 H locs := ⟨hP, hD, hS⟩
        refine lv_lor hx hb dX0_having_39 ?_
        refine lv_topl (fun x3_5 ex3_5 => ?_)
        have hw := hw x3_5 ex3_5
        refine lv_lstore_n (lv' := [(3, .long x3_5), (0, .ref (ad 17)), (1, .ref (ad 21)), (2, .int x2), (5, .int x5)]) hx hb dX0_having_40 rfl hl (by decide) rfl (fun ls hl => ?_)
        exact kB_X0_having_o_41 C vM hk5 x2 x3_5 x5 σ_4 _ _ _ hG (lv_sub hl [1, 2, 3, 0, 4] rfl) hw
theorem kL_X0_having_o_5 {p : Program} {l : Launch} {e : Env} {s : State} {m : MethodId} {args : Array Value} {below : List Frame} {meth : Method} {c : Code} {A : Nat → Prop} {E : EnvT} {aK aV : Nat → Nat} {aO : Nat} {D : va_G} {cA : Nat → ClassId} {aE ad : Nat → Nat} (C : xCx p s m args meth c cX0_having 6 (some .long) wgX0_having RX0 E D cA A) (vM : eXs aK aV aE aO E) {post : Int64 → XS → Prop} :
    ∀ (n : Nat) (x2 : Int32) (x3 : Int64) (x5 : Int32) (σ : XS) (H : Heap) (locs : List Loc) (ls : Array Slot), xG D cA aE ad A s σ H locs → lv_has ls 6 [(0, .ref (ad 17)), (1, .ref (ad 21)), (2, .int x2), (3, .long x3), (5, .int x5)] → wL_X0_having_o_5 post n x2 x3 x5 σ → W p l e rm_X0_having_o s m args below meth c H locs 0 0 (MQ below (va_Ql post (xAt D cA aE ad A) A) args s 0 0 A) (F0 m 5 ls []) := by
  intro n
  induction n with
  | zero => intro x2 x3 x5 σ H locs ls hG hl hw; exact hw.elim
  | succ n ih => exact kB_X0_having_o_5 C vM ih
set_option maxHeartbeats 4000000 in
set_option maxRecDepth 100000 in
theorem k_X0_having_o {p : Program} {l : Launch} {e : Env} {s : State} {m : MethodId} {args : Array Value} {below : List Frame} {meth : Method} {c : Code} {A : Nat → Prop} {E : EnvT} {aK aV : Nat → Nat} {aO : Nat} {D : va_G} {cA : Nat → ClassId} {aE ad : Nat → Nat} (C : xCx p s m args meth c cX0_having 6 (some .long) wgX0_having RX0 E D cA A) (vM : eXs aK aV aE aO E) {post : Int64 → XS → Prop} :
    ∀ (x2 : Int32) (σ : XS) (H : Heap) (locs : List Loc) (ls : Array Slot), xG D cA aE ad A s σ H locs → lv_has ls 6 [(0, .ref (ad 17)), (1, .ref (ad 21)), (2, .int x2)] → wp_X0_having_o post x2 σ → W p l e rm_X0_having_o s m args below meth c H locs 0 0 (MQ below (va_Ql post (xAt D cA aE ad A) A) args s 0 0 A) (F0 m 0 ls []) := by
  obtain ⟨hx, hb, hml, hr, hown, hts, hK, hA, hlk, hE, vE⟩ := id C
  intro x2 σ H locs ls hG hl hw
  obtain ⟨hP, hD, hS⟩ := id hG
  refine lv_lconst (v := 0) hx hb dX0_having_0 (by decide) ?_
  refine lv_lstore_n (lv' := [(3, .long 0), (0, .ref (ad 17)), (1, .ref (ad 21)), (2, .int x2)]) hx hb dX0_having_1 rfl hl (by decide) rfl (fun ls hl => ?_)
  refine lv_iconst (v := 0) hx hb dX0_having_2 (by decide) ?_
  refine lv_istore (lv' := [(5, .int 0), (3, .long 0), (0, .ref (ad 17)), (1, .ref (ad 21)), (2, .int x2)]) hx hb dX0_having_3 hl (by decide) rfl (fun ls hl => ?_)
  obtain ⟨n_, hw⟩ := hw
  exact kL_X0_having_o_5 C vM n_ x2 0 0 σ _ _ _ hG (lv_sub hl [2, 3, 4, 1, 0] rfl) hw
set_option maxHeartbeats 4000000 in
set_option maxRecDepth 100000 in
theorem met_X0_having_o {l : Launch} {E : EnvT} (vE : EnvOk E) {D : va_G} {cA : Nat → ClassId} {aE ad : Nat → Nat} {σ : XS} {aK aV : Nat → Nat} {aO : Nat} (vM : eXs aK aV aE aO E) {sz : Nat} {x2 : Int32} {post : Int64 → XS → Prop} (hw : wp_X0_having_o post x2 σ) : Met l yX0_having wgX0_having rm_X0_having_o (va_Pc [.ref (ad 17), .ref (ad 21), .int x2] (xPre E D cA aE ad sz σ)) (va_Ql post (xAt D cA aE ad (va_A (xW cA aE ad σ) sz)) (va_A (xW cA aE ad σ) sz)) 0 0 (va_A (xW cA aE ad σ) sz) := by
  refine Met.ofW (cc := cX0_having) (maxL := 6) (ret := (some .long)) (by decide +kernel) rfl ?_
  intro p e s m args below meth c s₁ B hml hv
  obtain ⟨rfl, hsz, hP, hK, hD0, hE⟩ := hv
  subst hsz
  have hD := hD0.self (sz := s.heap.size)
  generalize hAe : va_A (xW cA aE ad σ) s.heap.size = A at hD hE ⊢
  have hA : ∀ q : Nat, s.heap.size ≤ q → A q := fun q h => by rw [← hAe]; exact Or.inr h
  have hS : va_S A s.heap s.heap [] := va_S.rf
  have C : xCx p s m _ meth c cX0_having 6 (some .long) wgX0_having RX0 E D cA A := ⟨B.exec, B.bytes, hml, B.returns, findClass_of_methodNamed B.named, atoms_spec (ws := wgX0_having) B.pre, hK, hA, B.notSynchronized, hE, vE⟩
  have hG : xG D cA aE ad A s σ s.heap [] := ⟨hP, hD, hS⟩
  have hl := lv_entry ([.ref (ad 17), .ref (ad 21), .int x2]) (n := 6) (Nat.le_of_ble_eq_true rfl)
  rw [lg_entry_eq]
  generalize (lg_sl ([.ref (ad 17), .ref (ad 21), .int x2]) ++ List.replicate (6 - (lg_sl ([.ref (ad 17), .ref (ad 21), .int x2])).length) Slot.unset).toArray = ls at hl ⊢
  have hl : lv_has ls 6 [(0, .ref (ad 17)), (1, .ref (ad 21)), (2, .int x2)] := hl
  exact k_X0_having_o C vM x2 σ _ _ _ hG hl hw
/-! ===== X0_readersOf kernel ===== -/
def rm_X0_readersOf : Room := { frames := 3, cells := 0, slots := 0, locals := 67 }
abbrev wgX0_readersOf : List Cond := .code yX0_readersOf cX0_readersOf 2 (some .long) :: TB
def wp_X0_readersOf (post : Int64 → XS → Prop) (x1 : Int32) (σ : XS) : Prop :=
  wp_X0_having_r (fun r_1 σ_2 => post r_1 σ_2) x1 σ
set_option maxHeartbeats 4000000 in
set_option maxRecDepth 100000 in
theorem k_X0_readersOf {p : Program} {l : Launch} {e : Env} {s : State} {m : MethodId} {args : Array Value} {below : List Frame} {meth : Method} {c : Code} {A : Nat → Prop} {E : EnvT} {aK aV : Nat → Nat} {aO : Nat} {D : va_G} {cA : Nat → ClassId} {aE ad : Nat → Nat} (C : xCx p s m args meth c cX0_readersOf 2 (some .long) wgX0_readersOf RX0 E D cA A) (vM : eXs aK aV aE aO E) {post : Int64 → XS → Prop} :
    ∀ (x1 : Int32) (σ : XS) (H : Heap) (locs : List Loc) (ls : Array Slot), xG D cA aE ad A s σ H locs → lv_has ls 2 [(0, .ref (ad 17)), (1, .int x1)] → wp_X0_readersOf post x1 σ → W p l e rm_X0_readersOf s m args below meth c H locs 0 0 (MQ below (va_Ql post (xAt D cA aE ad A) A) args s 0 0 A) (F0 m 0 ls []) := by
  obtain ⟨hx, hb, hml, hr, hown, hts, hK, hA, hlk, hE, vE⟩ := id C
  intro x1 σ H locs ls hG hl hw
  obtain ⟨hP, hD, hS⟩ := id hG
  refine lv_aload_n hx hb dX0_readersOf_0 rfl (lv_at hl 0 rfl) ?_
  refine lv_aload_n hx hb dX0_readersOf_1 rfl (lv_at hl 0 rfl) ?_
  refine va_get (D := D) (ci := 2) (v := .ref (ad 20)) (C := RX0) (T := TX0) (N := 5) hx hb hts (in_tb inX0) hown hK hP 17 rfl rfl 2 (by decide) (hts _ (List.mem_cons_of_mem _ tw_1_155)) (fun _ h9 => h9) rfl dX0_readersOf_2 ?_
  refine lv_iload_n hx hb dX0_readersOf_5 rfl (lv_at hl 1 rfl) ?_
  refine xV_l (As := [.ref (ad 20), .int x1]) (rest := []) C (met_X0_having_r vE vM hw) (va_recv hK hP (ci := 2) (q0 := 17) rfl rfl) (cwV 2 hts (TB_G (TB_4 tw_4_103 tw_4_105 ts_6 tw_1_6) tw_4_106) rfl rfl rfl (by decide +kernel) ⟨by decide, by decide⟩) hP hD hS rfl hl.1 rfl (Nat.le_of_ble_eq_true rfl) dX0_readersOf_6 ⟨by decide, by decide⟩ (fun r_1 σ_2 H locs hw hP hD hS => ?_)
  have hG : xG D cA aE ad A s σ_2 H locs := ⟨hP, hD, hS⟩
  exact W.lret (v := r_1) hx hb hr (fun t ht hW => ⟨⟨_, σ_2, rfl, hw, by rw [ht]; exact hP, va_K.moved hW.alike hK, hD⟩, hS.F ht⟩) hS.2.2 dX0_readersOf_9 hlk
set_option maxHeartbeats 4000000 in
set_option maxRecDepth 100000 in
theorem met_X0_readersOf {l : Launch} {E : EnvT} (vE : EnvOk E) {D : va_G} {cA : Nat → ClassId} {aE ad : Nat → Nat} {σ : XS} {aK aV : Nat → Nat} {aO : Nat} (vM : eXs aK aV aE aO E) {sz : Nat} {x1 : Int32} {post : Int64 → XS → Prop} (hw : wp_X0_readersOf post x1 σ) : Met l yX0_readersOf wgX0_readersOf rm_X0_readersOf (va_Pc [.ref (ad 17), .int x1] (xPre E D cA aE ad sz σ)) (va_Ql post (xAt D cA aE ad (va_A (xW cA aE ad σ) sz)) (va_A (xW cA aE ad σ) sz)) 0 0 (va_A (xW cA aE ad σ) sz) := by
  refine Met.ofW (cc := cX0_readersOf) (maxL := 2) (ret := (some .long)) (by decide +kernel) rfl ?_
  intro p e s m args below meth c s₁ B hml hv
  obtain ⟨rfl, hsz, hP, hK, hD0, hE⟩ := hv
  subst hsz
  have hD := hD0.self (sz := s.heap.size)
  generalize hAe : va_A (xW cA aE ad σ) s.heap.size = A at hD hE ⊢
  have hA : ∀ q : Nat, s.heap.size ≤ q → A q := fun q h => by rw [← hAe]; exact Or.inr h
  have hS : va_S A s.heap s.heap [] := va_S.rf
  have C : xCx p s m _ meth c cX0_readersOf 2 (some .long) wgX0_readersOf RX0 E D cA A := ⟨B.exec, B.bytes, hml, B.returns, findClass_of_methodNamed B.named, atoms_spec (ws := wgX0_readersOf) B.pre, hK, hA, B.notSynchronized, hE, vE⟩
  have hG : xG D cA aE ad A s σ s.heap [] := ⟨hP, hD, hS⟩
  have hl := lv_entry ([.ref (ad 17), .int x1]) (n := 2) (Nat.le_of_ble_eq_true rfl)
  rw [lg_entry_eq]
  generalize (lg_sl ([.ref (ad 17), .int x1]) ++ List.replicate (2 - (lg_sl ([.ref (ad 17), .int x1])).length) Slot.unset).toArray = ls at hl ⊢
  have hl : lv_has ls 2 [(0, .ref (ad 17)), (1, .int x1)] := hl
  exact k_X0_readersOf C vM x1 σ _ _ _ hG hl hw
/-! ===== X0_overwritersOf kernel ===== -/
def rm_X0_overwritersOf : Room := { frames := 3, cells := 0, slots := 0, locals := 67 }
abbrev wgX0_overwritersOf : List Cond := .code yX0_overwritersOf cX0_overwritersOf 2 (some .long) :: TB
def wp_X0_overwritersOf (post : Int64 → XS → Prop) (x1 : Int32) (σ : XS) : Prop :=
  wp_X0_having_o (fun r_1 σ_2 => post r_1 σ_2) x1 σ
set_option maxHeartbeats 4000000 in
set_option maxRecDepth 100000 in
theorem k_X0_overwritersOf {p : Program} {l : Launch} {e : Env} {s : State} {m : MethodId} {args : Array Value} {below : List Frame} {meth : Method} {c : Code} {A : Nat → Prop} {E : EnvT} {aK aV : Nat → Nat} {aO : Nat} {D : va_G} {cA : Nat → ClassId} {aE ad : Nat → Nat} (C : xCx p s m args meth c cX0_overwritersOf 2 (some .long) wgX0_overwritersOf RX0 E D cA A) (vM : eXs aK aV aE aO E) {post : Int64 → XS → Prop} :
    ∀ (x1 : Int32) (σ : XS) (H : Heap) (locs : List Loc) (ls : Array Slot), xG D cA aE ad A s σ H locs → lv_has ls 2 [(0, .ref (ad 17)), (1, .int x1)] → wp_X0_overwritersOf post x1 σ → W p l e rm_X0_overwritersOf s m args below meth c H locs 0 0 (MQ below (va_Ql post (xAt D cA aE ad A) A) args s 0 0 A) (F0 m 0 ls []) := by
  obtain ⟨hx, hb, hml, hr, hown, hts, hK, hA, hlk, hE, vE⟩ := id C
  intro x1 σ H locs ls hG hl hw
  obtain ⟨hP, hD, hS⟩ := id hG
  refine lv_aload_n hx hb dX0_overwritersOf_0 rfl (lv_at hl 0 rfl) ?_
  refine lv_aload_n hx hb dX0_overwritersOf_1 rfl (lv_at hl 0 rfl) ?_
  refine va_get (D := D) (ci := 2) (v := .ref (ad 21)) (C := RX0) (T := TX0) (N := 5) hx hb hts (in_tb inX0) hown hK hP 17 rfl rfl 3 (by decide) (hts _ (List.mem_cons_of_mem _ tw_1_156)) (fun _ h9 => h9) rfl dX0_overwritersOf_2 ?_
  refine lv_iload_n hx hb dX0_overwritersOf_5 rfl (lv_at hl 1 rfl) ?_
  refine xV_l (As := [.ref (ad 21), .int x1]) (rest := []) C (met_X0_having_o vE vM hw) (va_recv hK hP (ci := 2) (q0 := 17) rfl rfl) (cwV 2 hts (TB_G (TB_4 tw_4_103 tw_4_105 ts_6 tw_1_6) tw_4_106) rfl rfl rfl (by decide +kernel) ⟨by decide, by decide⟩) hP hD hS rfl hl.1 rfl (Nat.le_of_ble_eq_true rfl) dX0_overwritersOf_6 ⟨by decide, by decide⟩ (fun r_1 σ_2 H locs hw hP hD hS => ?_)
  have hG : xG D cA aE ad A s σ_2 H locs := ⟨hP, hD, hS⟩
  exact W.lret (v := r_1) hx hb hr (fun t ht hW => ⟨⟨_, σ_2, rfl, hw, by rw [ht]; exact hP, va_K.moved hW.alike hK, hD⟩, hS.F ht⟩) hS.2.2 dX0_overwritersOf_9 hlk
set_option maxHeartbeats 4000000 in
set_option maxRecDepth 100000 in
theorem met_X0_overwritersOf {l : Launch} {E : EnvT} (vE : EnvOk E) {D : va_G} {cA : Nat → ClassId} {aE ad : Nat → Nat} {σ : XS} {aK aV : Nat → Nat} {aO : Nat} (vM : eXs aK aV aE aO E) {sz : Nat} {x1 : Int32} {post : Int64 → XS → Prop} (hw : wp_X0_overwritersOf post x1 σ) : Met l yX0_overwritersOf wgX0_overwritersOf rm_X0_overwritersOf (va_Pc [.ref (ad 17), .int x1] (xPre E D cA aE ad sz σ)) (va_Ql post (xAt D cA aE ad (va_A (xW cA aE ad σ) sz)) (va_A (xW cA aE ad σ) sz)) 0 0 (va_A (xW cA aE ad σ) sz) := by
  refine Met.ofW (cc := cX0_overwritersOf) (maxL := 2) (ret := (some .long)) (by decide +kernel) rfl ?_
  intro p e s m args below meth c s₁ B hml hv
  obtain ⟨rfl, hsz, hP, hK, hD0, hE⟩ := hv
  subst hsz
  have hD := hD0.self (sz := s.heap.size)
  generalize hAe : va_A (xW cA aE ad σ) s.heap.size = A at hD hE ⊢
  have hA : ∀ q : Nat, s.heap.size ≤ q → A q := fun q h => by rw [← hAe]; exact Or.inr h
  have hS : va_S A s.heap s.heap [] := va_S.rf
  have C : xCx p s m _ meth c cX0_overwritersOf 2 (some .long) wgX0_overwritersOf RX0 E D cA A := ⟨B.exec, B.bytes, hml, B.returns, findClass_of_methodNamed B.named, atoms_spec (ws := wgX0_overwritersOf) B.pre, hK, hA, B.notSynchronized, hE, vE⟩
  have hG : xG D cA aE ad A s σ s.heap [] := ⟨hP, hD, hS⟩
  have hl := lv_entry ([.ref (ad 17), .int x1]) (n := 2) (Nat.le_of_ble_eq_true rfl)
  rw [lg_entry_eq]
  generalize (lg_sl ([.ref (ad 17), .int x1]) ++ List.replicate (2 - (lg_sl ([.ref (ad 17), .int x1])).length) Slot.unset).toArray = ls at hl ⊢
  have hl : lv_has ls 2 [(0, .ref (ad 17)), (1, .int x1)] := hl
  exact k_X0_overwritersOf C vM x1 σ _ _ _ hG hl hw
/-! ===== X3_noteFault parser ===== -/
def rm_X3_noteFault : Room := { frames := 0, cells := 0, slots := 0, locals := 0 }
abbrev wgX3_noteFault : List Cond := .code yX3_noteFault cX3_noteFault 3 none :: TB
def wB_X3_noteFault_25 (post : XS → Prop) (σ : XS) : Prop :=
  post σ
def wB_X3_noteFault_15 (post : XS → Prop) (x1 : Int32) (x2 : Int32) (σ : XS) : Prop :=
  wB_X3_noteFault_25 post (yI (yI σ 2 x1) 3 x2)
def wp_X3_noteFault (post : XS → Prop) (x1 : Int32) (x2 : Int32) (σ : XS) : Prop :=
  ((xI σ 2) = 0 → (wB_X3_noteFault_15 post x1 x2 σ)) ∧ (¬ (xI σ 2) = 0 → (((xI σ 3) ≤ x2 → (wB_X3_noteFault_25 post σ)) ∧ (¬ (xI σ 3) ≤ x2 → (wB_X3_noteFault_15 post x1 x2 σ))))
set_option maxHeartbeats 4000000 in
set_option maxRecDepth 100000 in
theorem kB_X3_noteFault_25 {p : Program} {l : Launch} {e : Env} {s : State} {m : MethodId} {args : Array Value} {below : List Frame} {meth : Method} {c : Code} {A : Nat → Prop} {E : EnvT} {aK aV : Nat → Nat} {aO : Nat} {D : va_G} {cA : Nat → ClassId} {aE ad : Nat → Nat} (C : xCx p s m args meth c cX3_noteFault 3 none wgX3_noteFault RX3 E D cA A) (vM : eXs aK aV aE aO E) {post : XS → Prop} :
    ∀ (σ : XS) (H : Heap) (locs : List Loc) (ls : Array Slot), xG D cA aE ad A s σ H locs → lv_has ls 3 [] → wB_X3_noteFault_25 post σ → W p l e rm_X3_noteFault s m args below meth c H locs 0 0 (MQ below (va_Qv post (xAt D cA aE ad A) A) args s 0 0 A) (F0 m 25 ls []) := by
  obtain ⟨hx, hb, hml, hr, hown, hts, hK, hA, hlk, hE, vE⟩ := id C
  intro σ H locs ls hG hl hw
  obtain ⟨hP, hD, hS⟩ := id hG
  exact W.vret hx hb hr (fun t ht hW => ⟨⟨σ, rfl, hw, by rw [ht]; exact hP, va_K.moved hW.alike hK, hD⟩, hS.F ht⟩) hS.2.2 dX3_noteFault_25 hlk
set_option maxHeartbeats 4000000 in
set_option maxRecDepth 100000 in
theorem kB_X3_noteFault_15 {p : Program} {l : Launch} {e : Env} {s : State} {m : MethodId} {args : Array Value} {below : List Frame} {meth : Method} {c : Code} {A : Nat → Prop} {E : EnvT} {aK aV : Nat → Nat} {aO : Nat} {D : va_G} {cA : Nat → ClassId} {aE ad : Nat → Nat} (C : xCx p s m args meth c cX3_noteFault 3 none wgX3_noteFault RX3 E D cA A) (vM : eXs aK aV aE aO E) {post : XS → Prop} :
    ∀ (x1 : Int32) (x2 : Int32) (σ : XS) (H : Heap) (locs : List Loc) (ls : Array Slot), xG D cA aE ad A s σ H locs → lv_has ls 3 [(0, .ref (ad 3)), (1, .int x1), (2, .int x2)] → wB_X3_noteFault_15 post x1 x2 σ → W p l e rm_X3_noteFault s m args below meth c H locs 0 0 (MQ below (va_Qv post (xAt D cA aE ad A) A) args s 0 0 A) (F0 m 15 ls []) := by
  obtain ⟨hx, hb, hml, hr, hown, hts, hK, hA, hlk, hE, vE⟩ := id C
  intro x1 x2 σ H locs ls hG hl hw
  obtain ⟨hP, hD, hS⟩ := id hG
  refine lv_aload_n hx hb dX3_noteFault_15 rfl (lv_at hl 0 rfl) ?_
  refine lv_iload_n hx hb dX3_noteFault_16 rfl (lv_at hl 1 rfl) ?_
  refine va_put (D := D) (ci := 5) (v := .int x1) (ty := .int) (C := RX3) (T := TX3) (N := 8) hx hb hts (in_tb inX3) tyX3 tyX3_ok nmX3 hown hK hP hD hS 3 rfl rfl 6 (by decide) (hts _ (List.mem_cons_of_mem _ tw_1_119)) (fun _ h9 => h9) rfl (by decide +kernel) rfl rfl (Nat.le_of_ble_eq_true rfl) dX3_noteFault_17 (fun H locs hP hD hS => ?_)
  have hG : xG D cA aE ad A s (yI σ 2 x1) H locs := ⟨hP, hD, hS⟩
  obtain ⟨hP, hD, hS⟩ := id hG
  refine lv_aload_n hx hb dX3_noteFault_20 rfl (lv_at hl 0 rfl) ?_
  refine lv_iload_n hx hb dX3_noteFault_21 rfl (lv_at hl 2 rfl) ?_
  refine va_put (D := D) (ci := 5) (v := .int x2) (ty := .int) (C := RX3) (T := TX3) (N := 8) hx hb hts (in_tb inX3) tyX3 tyX3_ok nmX3 hown hK hP hD hS 3 rfl rfl 7 (by decide) (hts _ (List.mem_cons_of_mem _ tw_1_121)) (fun _ h9 => h9) rfl (by decide +kernel) rfl rfl (Nat.le_of_ble_eq_true rfl) dX3_noteFault_22 (fun H locs hP hD hS => ?_)
  have hG : xG D cA aE ad A s (yI (yI σ 2 x1) 3 x2) H locs := ⟨hP, hD, hS⟩
  obtain ⟨hP, hD, hS⟩ := id hG
  exact kB_X3_noteFault_25 C vM  (yI (yI σ 2 x1) 3 x2) _ _ _ hG (lv_sub hl [] rfl) hw
set_option maxHeartbeats 4000000 in
set_option maxRecDepth 100000 in
theorem k_X3_noteFault {p : Program} {l : Launch} {e : Env} {s : State} {m : MethodId} {args : Array Value} {below : List Frame} {meth : Method} {c : Code} {A : Nat → Prop} {E : EnvT} {aK aV : Nat → Nat} {aO : Nat} {D : va_G} {cA : Nat → ClassId} {aE ad : Nat → Nat} (C : xCx p s m args meth c cX3_noteFault 3 none wgX3_noteFault RX3 E D cA A) (vM : eXs aK aV aE aO E) {post : XS → Prop} :
    ∀ (x1 : Int32) (x2 : Int32) (σ : XS) (H : Heap) (locs : List Loc) (ls : Array Slot), xG D cA aE ad A s σ H locs → lv_has ls 3 [(0, .ref (ad 3)), (1, .int x1), (2, .int x2)] → wp_X3_noteFault post x1 x2 σ → W p l e rm_X3_noteFault s m args below meth c H locs 0 0 (MQ below (va_Qv post (xAt D cA aE ad A) A) args s 0 0 A) (F0 m 0 ls []) := by
  obtain ⟨hx, hb, hml, hr, hown, hts, hK, hA, hlk, hE, vE⟩ := id C
  intro x1 x2 σ H locs ls hG hl hw
  obtain ⟨hP, hD, hS⟩ := id hG
  refine lv_aload_n hx hb dX3_noteFault_0 rfl (lv_at hl 0 rfl) ?_
  refine va_get (D := D) (ci := 5) (v := .int (xI σ 2)) (C := RX3) (T := TX3) (N := 8) hx hb hts (in_tb inX3) hown hK hP 3 rfl rfl 6 (by decide) (hts _ (List.mem_cons_of_mem _ tw_1_119)) (fun _ h9 => h9) rfl dX3_noteFault_1 ?_
  refine lv_if_eq (tgt := 15) hx hb dX3_noteFault_4 (by decide) (fun q_ => ?_) (fun q_ => ?_)
  · have hw := hw.1 q_
    exact kB_X3_noteFault_15 C vM x1 x2 σ _ _ _ hG (lv_sub hl [0, 1, 2] rfl) hw
  · have hw := hw.2 q_
    refine lv_iload_n hx hb dX3_noteFault_7 rfl (lv_at hl 2 rfl) ?_
    refine lv_aload_n hx hb dX3_noteFault_8 rfl (lv_at hl 0 rfl) ?_
    refine va_get (D := D) (ci := 5) (v := .int (xI σ 3)) (C := RX3) (T := TX3) (N := 8) hx hb hts (in_tb inX3) hown hK hP 3 rfl rfl 7 (by decide) (hts _ (List.mem_cons_of_mem _ tw_1_121)) (fun _ h9 => h9) rfl dX3_noteFault_9 ?_
    refine lv_icmp_ge (tgt := 25) hx hb dX3_noteFault_12 (by decide) (fun q_ => ?_) (fun q_ => ?_)
    · have hw := hw.1 q_
      exact kB_X3_noteFault_25 C vM  σ _ _ _ hG (lv_sub hl [] rfl) hw
    · have hw := hw.2 q_
      exact kB_X3_noteFault_15 C vM x1 x2 σ _ _ _ hG (lv_sub hl [0, 1, 2] rfl) hw
set_option maxHeartbeats 4000000 in
set_option maxRecDepth 100000 in
theorem met_X3_noteFault {l : Launch} {E : EnvT} (vE : EnvOk E) {D : va_G} {cA : Nat → ClassId} {aE ad : Nat → Nat} {σ : XS} {aK aV : Nat → Nat} {aO : Nat} (vM : eXs aK aV aE aO E) {sz : Nat} {x1 : Int32} {x2 : Int32} {post : XS → Prop} (hw : wp_X3_noteFault post x1 x2 σ) : Met l yX3_noteFault wgX3_noteFault rm_X3_noteFault (va_Pc [.ref (ad 3), .int x1, .int x2] (xPre E D cA aE ad sz σ)) (va_Qv post (xAt D cA aE ad (va_A (xW cA aE ad σ) sz)) (va_A (xW cA aE ad σ) sz)) 0 0 (va_A (xW cA aE ad σ) sz) := by
  refine Met.ofW (cc := cX3_noteFault) (maxL := 3) (ret := none) (by decide +kernel) rfl ?_
  intro p e s m args below meth c s₁ B hml hv
  obtain ⟨rfl, hsz, hP, hK, hD0, hE⟩ := hv
  subst hsz
  have hD := hD0.self (sz := s.heap.size)
  generalize hAe : va_A (xW cA aE ad σ) s.heap.size = A at hD hE ⊢
  have hA : ∀ q : Nat, s.heap.size ≤ q → A q := fun q h => by rw [← hAe]; exact Or.inr h
  have hS : va_S A s.heap s.heap [] := va_S.rf
  have C : xCx p s m _ meth c cX3_noteFault 3 none wgX3_noteFault RX3 E D cA A := ⟨B.exec, B.bytes, hml, B.returns, findClass_of_methodNamed B.named, atoms_spec (ws := wgX3_noteFault) B.pre, hK, hA, B.notSynchronized, hE, vE⟩
  have hG : xG D cA aE ad A s σ s.heap [] := ⟨hP, hD, hS⟩
  have hl := lv_entry ([.ref (ad 3), .int x1, .int x2]) (n := 3) (Nat.le_of_ble_eq_true rfl)
  rw [lg_entry_eq]
  generalize (lg_sl ([.ref (ad 3), .int x1, .int x2]) ++ List.replicate (3 - (lg_sl ([.ref (ad 3), .int x1, .int x2])).length) Slot.unset).toArray = ls at hl ⊢
  have hl : lv_has ls 3 [(0, .ref (ad 3)), (1, .int x1), (2, .int x2)] := hl
  exact k_X3_noteFault C vM x1 x2 σ _ _ _ hG hl hw
/-! ===== X3_valueOfName parser ===== -/
def rm_X3_valueOfName : Room := { frames := 1, cells := 0, slots := 0, locals := 23 }
abbrev wgX3_valueOfName : List Cond := .code yX3_valueOfName cX3_valueOfName 2 (some .long) :: TB
def wp_X3_valueOfName (post : Int64 → XS → Prop) (σ : XS) : Prop :=
  wp_X6_value (fun r_1 σ_2 => wp_X1_find_told (fun r_3 σ_4 => (r_3 = (-1) → (wp_X6_place (fun r_6 σ_7 => wp_X3_noteFault (fun σ_9 => post 0 σ_9) 2 r_6 σ_7) σ_4)) ∧ (¬ r_3 = (-1) → (vp_in r_3 350 ∧ (post (xL σ_4 2 r_3.toNatClampNeg) σ_4)))) r_1 σ_2) σ
set_option maxHeartbeats 4000000 in
set_option maxRecDepth 100000 in
theorem k_X3_valueOfName {p : Program} {l : Launch} {e : Env} {s : State} {m : MethodId} {args : Array Value} {below : List Frame} {meth : Method} {c : Code} {A : Nat → Prop} {E : EnvT} {aK aV : Nat → Nat} {aO : Nat} {D : va_G} {cA : Nat → ClassId} {aE ad : Nat → Nat} (C : xCx p s m args meth c cX3_valueOfName 2 (some .long) wgX3_valueOfName RX3 E D cA A) (vM : eXs aK aV aE aO E) {post : Int64 → XS → Prop} :
    ∀ (σ : XS) (H : Heap) (locs : List Loc) (ls : Array Slot), xG D cA aE ad A s σ H locs → lv_has ls 2 [(0, .ref (ad 3))] → wp_X3_valueOfName post σ → W p l e rm_X3_valueOfName s m args below meth c H locs 0 0 (MQ below (va_Ql post (xAt D cA aE ad A) A) args s 0 0 A) (F0 m 0 ls []) := by
  obtain ⟨hx, hb, hml, hr, hown, hts, hK, hA, hlk, hE, vE⟩ := id C
  intro σ H locs ls hG hl hw
  obtain ⟨hP, hD, hS⟩ := id hG
  refine lv_aload_n hx hb dX3_valueOfName_0 rfl (lv_at hl 0 rfl) ?_
  refine va_get (D := D) (ci := 5) (v := .ref (ad 10)) (C := RX3) (T := TX3) (N := 8) hx hb hts (in_tb inX3) hown hK hP 3 rfl rfl 3 (by decide) (hts _ (List.mem_cons_of_mem _ tw_1_113)) (fun _ h9 => h9) rfl dX3_valueOfName_1 ?_
  refine lv_aload_n hx hb dX3_valueOfName_4 rfl (lv_at hl 0 rfl) ?_
  refine va_get (D := D) (ci := 5) (v := .ref (ad 4)) (C := RX3) (T := TX3) (N := 8) hx hb hts (in_tb inX3) hown hK hP 3 rfl rfl 0 (by decide) (hts _ (List.mem_cons_of_mem _ tw_1_110)) (fun _ h9 => h9) rfl dX3_valueOfName_5 ?_
  refine xV_l (As := []) (rest := [.ref (ad 10)]) C (met_X6_value vE vM hw) (va_recv hK hP (ci := 8) (q0 := 4) rfl rfl) (cwV 0 hts (TB_G (TB_4 tw_4_196 tw_4_197 tw_4_198 tw_1_5) tw_4_199) rfl rfl rfl (by decide +kernel) ⟨by decide, by decide⟩) hP hD hS rfl hl.1 rfl (Nat.le_of_ble_eq_true rfl) dX3_valueOfName_8 ⟨by decide, by decide⟩ (fun r_1 σ_2 H locs hw hP hD hS => ?_)
  have hG : xG D cA aE ad A s σ_2 H locs := ⟨hP, hD, hS⟩
  refine xV_i (As := [.long r_1]) (rest := []) C (met_X1_find_told vE vM hw) (va_recv hK hP (ci := 3) (q0 := 10) rfl rfl) (cwV 1 hts (TB_G (TB_4 tw_4_233 tw_4_234 tw_4_235 tw_1_4) tw_4_236) rfl rfl rfl (by decide +kernel) ⟨by decide, by decide⟩) hP hD hS rfl hl.1 rfl (Nat.le_of_ble_eq_true rfl) dX3_valueOfName_11 ⟨by decide, by decide⟩ (fun r_3 σ_4 H locs hw hP hD hS => ?_)
  have hG : xG D cA aE ad A s σ_4 H locs := ⟨hP, hD, hS⟩
  refine lv_istore_n (lv' := [(1, .int r_3), (0, .ref (ad 3))]) hx hb dX3_valueOfName_14 rfl hl (by decide) rfl (fun ls hl => ?_)
  refine lv_iload_n hx hb dX3_valueOfName_15 rfl (lv_at hl 0 rfl) ?_
  refine lv_iconst (v := (-1)) hx hb dX3_valueOfName_16 (by decide) ?_
  refine lv_icmp_ne (tgt := 34) hx hb dX3_valueOfName_17 (by decide) (fun q_ => ?_) (fun q_ => ?_)
  · have hw := hw.2 q_
    refine lv_aload_n hx hb dX3_valueOfName_34 rfl (lv_at hl 1 rfl) ?_
    refine va_get (D := D) (ci := 5) (v := .ref (ad 10)) (C := RX3) (T := TX3) (N := 8) hx hb hts (in_tb inX3) hown hK hP 3 rfl rfl 3 (by decide) (hts _ (List.mem_cons_of_mem _ tw_1_113)) (fun _ h9 => h9) rfl dX3_valueOfName_35 ?_
    refine va_get (D := D) (ci := 3) (v := .ref (ad 12)) (C := RX1) (T := TX1) (N := 3) hx hb hts (in_tb inX1) hown hK hP 10 rfl rfl 1 (by decide) (hts _ (List.mem_cons_of_mem _ tw_1_72)) (fun _ h9 => h9) rfl dX3_valueOfName_38 ?_
    refine lv_iload_n hx hb dX3_valueOfName_41 rfl (lv_at hl 0 rfl) ?_
    obtain ⟨h_5, hw⟩ := hw
    refine va_lald hx hb hK hP 12 1 rfl rfl h_5 dX3_valueOfName_42 ?_
    exact W.lret (v := xL σ_4 2 r_3.toNatClampNeg) hx hb hr (fun t ht hW => ⟨⟨_, σ_4, rfl, hw, by rw [ht]; exact hP, va_K.moved hW.alike hK, hD⟩, hS.F ht⟩) hS.2.2 dX3_valueOfName_43 hlk
  · have hw := hw.1 q_
    refine lv_aload_n hx hb dX3_valueOfName_20 rfl (lv_at hl 1 rfl) ?_
    refine lv_iconst (v := 2) hx hb dX3_valueOfName_21 (by decide) ?_
    refine lv_aload_n hx hb dX3_valueOfName_22 rfl (lv_at hl 1 rfl) ?_
    refine va_get (D := D) (ci := 5) (v := .ref (ad 4)) (C := RX3) (T := TX3) (N := 8) hx hb hts (in_tb inX3) hown hK hP 3 rfl rfl 0 (by decide) (hts _ (List.mem_cons_of_mem _ tw_1_110)) (fun _ h9 => h9) rfl dX3_valueOfName_23 ?_
    refine xV_i (As := []) (rest := [.int 2, .ref (ad 3)]) C (met_X6_place vE vM hw) (va_recv hK hP (ci := 8) (q0 := 4) rfl rfl) (cwV 0 hts (TB_G (TB_4 tw_4_200 tw_4_201 tw_4_202 tw_1_5) tw_4_203) rfl rfl rfl (by decide +kernel) ⟨by decide, by decide⟩) hP hD hS rfl hl.1 rfl (Nat.le_of_ble_eq_true rfl) dX3_valueOfName_26 ⟨by decide, by decide⟩ (fun r_6 σ_7 H locs hw hP hD hS => ?_)
    have hG : xG D cA aE ad A s σ_7 H locs := ⟨hP, hD, hS⟩
    refine xV_v (As := [.int 2, .int r_6]) (rest := []) C (met_X3_noteFault vE vM hw) (va_recv hK hP (ci := 5) (q0 := 3) rfl rfl) (cwV 2 hts (TB_G (TB_4 tw_4_237 tw_4_239 ts_19 tw_1_3) tw_5_0) rfl rfl rfl (by decide +kernel) ⟨by decide, by decide⟩) hP hD hS rfl hl.1 rfl (Nat.le_of_ble_eq_true rfl) dX3_valueOfName_29 ⟨by decide, by decide⟩ (fun σ_9 H locs hw hP hD hS => ?_)
    have hG : xG D cA aE ad A s σ_9 H locs := ⟨hP, hD, hS⟩
    refine lv_lconst (v := 0) hx hb dX3_valueOfName_32 (by decide) ?_
    exact W.lret (v := 0) hx hb hr (fun t ht hW => ⟨⟨_, σ_9, rfl, hw, by rw [ht]; exact hP, va_K.moved hW.alike hK, hD⟩, hS.F ht⟩) hS.2.2 dX3_valueOfName_33 hlk
set_option maxHeartbeats 4000000 in
set_option maxRecDepth 100000 in
theorem met_X3_valueOfName {l : Launch} {E : EnvT} (vE : EnvOk E) {D : va_G} {cA : Nat → ClassId} {aE ad : Nat → Nat} {σ : XS} {aK aV : Nat → Nat} {aO : Nat} (vM : eXs aK aV aE aO E) {sz : Nat} {post : Int64 → XS → Prop} (hw : wp_X3_valueOfName post σ) : Met l yX3_valueOfName wgX3_valueOfName rm_X3_valueOfName (va_Pc [.ref (ad 3)] (xPre E D cA aE ad sz σ)) (va_Ql post (xAt D cA aE ad (va_A (xW cA aE ad σ) sz)) (va_A (xW cA aE ad σ) sz)) 0 0 (va_A (xW cA aE ad σ) sz) := by
  refine Met.ofW (cc := cX3_valueOfName) (maxL := 2) (ret := (some .long)) (by decide +kernel) rfl ?_
  intro p e s m args below meth c s₁ B hml hv
  obtain ⟨rfl, hsz, hP, hK, hD0, hE⟩ := hv
  subst hsz
  have hD := hD0.self (sz := s.heap.size)
  generalize hAe : va_A (xW cA aE ad σ) s.heap.size = A at hD hE ⊢
  have hA : ∀ q : Nat, s.heap.size ≤ q → A q := fun q h => by rw [← hAe]; exact Or.inr h
  have hS : va_S A s.heap s.heap [] := va_S.rf
  have C : xCx p s m _ meth c cX3_valueOfName 2 (some .long) wgX3_valueOfName RX3 E D cA A := ⟨B.exec, B.bytes, hml, B.returns, findClass_of_methodNamed B.named, atoms_spec (ws := wgX3_valueOfName) B.pre, hK, hA, B.notSynchronized, hE, vE⟩
  have hG : xG D cA aE ad A s σ s.heap [] := ⟨hP, hD, hS⟩
  have hl := lv_entry ([.ref (ad 3)]) (n := 2) (Nat.le_of_ble_eq_true rfl)
  rw [lg_entry_eq]
  generalize (lg_sl ([.ref (ad 3)]) ++ List.replicate (2 - (lg_sl ([.ref (ad 3)])).length) Slot.unset).toArray = ls at hl ⊢
  have hl : lv_has ls 2 [(0, .ref (ad 3))] := hl
  exact k_X3_valueOfName C vM σ _ _ _ hG hl hw
