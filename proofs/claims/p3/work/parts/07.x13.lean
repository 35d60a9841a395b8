/-! ===== X7_throughAll ways ===== -/
def rm_X7_throughAll : Room := { frames := 5, cells := 0, slots := 0, locals := 109 }
abbrev wgX7_throughAll : List Cond := .code yX7_throughAll cX7_throughAll 7 (some .long) :: TB
def wB_X7_throughAll_60 (post : Int64 → XS → Prop) (k5 : Int32 → Int64 → Int32 → XS → Prop) (x1 : Int32) (x2 : Int64) (x4 : Int32) (σ : XS) : Prop :=
  ∀ x4_3 : Int32, x4_3 = x4 + 1 → k5 x1 x2 x4_3 σ
def wB_X7_throughAll_5 (post : Int64 → XS → Prop) (k5 : Int32 → Int64 → Int32 → XS → Prop) (x1 : Int32) (x2 : Int64) (x4 : Int32) (σ : XS) : Prop :=
  ((xI σ 8) ≤ x4 → (post x2 σ)) ∧ (¬ (xI σ 8) ≤ x4 → (wp_X0_bitOf (fun r_1 σ_2 => (x4 = x1 → (wB_X7_throughAll_60 post k5 x1 x2 x4 σ_2)) ∧ (¬ x4 = x1 → (wp_X7_walk (fun r_4 σ_5 => wp_X7_hasEnd (fun r_6 σ_7 => (r_6 = 0 → (∀ x2_8 : Int64, x2_8 = x2 ||| r_1 → wB_X7_throughAll_60 post k5 x1 x2_8 x4 σ_7)) ∧ (¬ r_6 = 0 → (wB_X7_throughAll_60 post k5 x1 x2 x4 σ_7))) (r_4 &&& (r_1 ^^^ (-1))) σ_5) x1 r_1 σ_2))) x4 σ))
def wL_X7_throughAll_5 (post : Int64 → XS → Prop) : Nat → Int32 → Int64 → Int32 → XS → Prop
  | 0 => fun _ _ _ _ => False
  | n + 1 => wB_X7_throughAll_5 post (wL_X7_throughAll_5 post n)
def wp_X7_throughAll (post : Int64 → XS → Prop) (x1 : Int32) (σ : XS) : Prop :=
  ∃ n, wL_X7_throughAll_5 post n x1 0 0 σ
set_option maxHeartbeats 4000000 in
set_option maxRecDepth 100000 in
theorem kB_X7_throughAll_60 {p : Program} {l : Launch} {e : Env} {s : State} {m : MethodId} {args : Array Value} {below : List Frame} {meth : Method} {c : Code} {A : Nat → Prop} {E : EnvT} {aK aV : Nat → Nat} {aO : Nat} {D : va_G} {cA : Nat → ClassId} {aE ad : Nat → Nat} (C : xCx p s m args meth c cX7_throughAll 7 (some .long) wgX7_throughAll RX7 E D cA A) (vM : eXs aK aV aE aO E) {post : Int64 → XS → Prop}
    {k5 : Int32 → Int64 → Int32 → XS → Prop} (hk5 : ∀ (x1 : Int32) (x2 : Int64) (x4 : Int32) (σ : XS) (H : Heap) (locs : List Loc) (ls : Array Slot), xG D cA aE ad A s σ H locs → lv_has ls 7 [(0, .ref (ad 22)), (1, .int x1), (2, .long x2), (4, .int x4)] → k5 x1 x2 x4 σ → W p l e rm_X7_throughAll s m args below meth c H locs 0 0 (MQ below (va_Ql post (xAt D cA aE ad A) A) args s 0 0 A) (F0 m 5 ls [])) :
    ∀ (x1 : Int32) (x2 : Int64) (x4 : Int32) (σ : XS) (H : Heap) (locs : List Loc) (ls : Array Slot), xG D cA aE ad A s σ H locs → lv_has ls 7 [(0, .ref (ad 22)), (1, .int x1), (2, .long x2), (4, .int x4)] → wB_X7_throughAll_60 post k5 x1 x2 x4 σ → W p l e rm_X7_throughAll s m args below meth c H locs 0 0 (MQ below (va_Ql post (xAt D cA aE ad A) A) args s 0 0 A) (F0 m 60 ls []) := by
  obtain ⟨hx, hb, hml, hr, hown, hts, hK, hA, hlk, hE, vE⟩ := id C
  intro x1 x2 x4 σ H locs ls hG hl hw
  obtain ⟨hP, hD, hS⟩ := id hG
  obtain ⟨x4_3, ex4_3⟩ : ∃ y : Int32, y = x4 + 1 := ⟨_, rfl⟩
  have hw := hw x4_3 ex4_3
  refine lv_iinc (v := x4_3) (lv' := [(4, .int x4_3), (0, .ref (ad 22)), (1, .int x1), (2, .long x2)]) hx hb dX7_throughAll_60 hl (k := 3) rfl (by rw [ex4_3]; rfl) (by decide) rfl (fun ls hl => ?_)
  refine lv_goto (tgt := 5) hx hb dX7_throughAll_63 (by decide) ?_
  exact hk5 x1 x2 x4_3 σ _ _ _ hG (lv_sub hl [1, 2, 3, 0] rfl) hw
set_option maxHeartbeats 4000000 in
set_option maxRecDepth 100000 in
theorem kB_X7_throughAll_5 {p : Program} {l : Launch} {e : Env} {s : State} {m : MethodId} {args : Array Value} {below : List Frame} {meth : Method} {c : Code} {A : Nat → Prop} {E : EnvT} {aK aV : Nat → Nat} {aO : Nat} {D : va_G} {cA : Nat → ClassId} {aE ad : Nat → Nat} (C : xCx p s m args meth c cX7_throughAll 7 (some .long) wgX7_throughAll RX7 E D cA A) (vM : eXs aK aV aE aO E) {post : Int64 → XS → Prop}
    {k5 : Int32 → Int64 → Int32 → XS → Prop} (hk5 : ∀ (x1 : Int32) (x2 : Int64) (x4 : Int32) (σ : XS) (H : Heap) (locs : List Loc) (ls : Array Slot), xG D cA aE ad A s σ H locs → lv_has ls 7 [(0, .ref (ad 22)), (1, .int x1), (2, .long x2), (4, .int x4)] → k5 x1 x2 x4 σ → W p l e rm_X7_throughAll s m args below meth c H locs 0 0 (MQ below (va_Ql post (xAt D cA aE ad A) A) args s 0 0 A) (F0 m 5 ls [])) :
    ∀ (x1 : Int32) (x2 : Int64) (x4 : Int32) (σ : XS) (H : Heap) (locs : List Loc) (ls : Array Slot), xG D cA aE ad A s σ H locs → lv_has ls 7 [(0, .ref (ad 22)), (1, .int x1), (2, .long x2), (4, .int x4)] → wB_X7_throughAll_5 post k5 x1 x2 x4 σ → W p l e rm_X7_throughAll s m args below meth c H locs 0 0 (MQ below (va_Ql post (xAt D cA aE ad A) A) args s 0 0 A) (F0 m 5 ls []) := by
  obtain ⟨hx, hb, hml, hr, hown, hts, hK, hA, hlk, hE, vE⟩ := id C
  intro x1 x2 x4 σ H locs ls hG hl hw
  obtain ⟨hP, hD, hS⟩ := id hG
  refine lv_iload hx hb dX7_throughAll_5 (lv_at hl 3 rfl) ?_
  refine lv_aload_n hx hb dX7_throughAll_7 rfl (lv_at hl 0 rfl) ?_
  refine va_get (D := D) (ci := 9) (v := .ref (ad 17)) (C := RX7) (T := TX7) (N := 1) hx hb hts (in_tb inX7) hown hK hP 22 rfl rfl 0 (by decide) (hts _ (List.mem_cons_of_mem _ tw_1_177)) (fun _ h9 => h9) rfl dX7_throughAll_8 ?_
  refine va_get (D := D) (ci := 2) (v := .int (xI σ 8)) (C := RX0) (T := TX0) (N := 5) hx hb hts (in_tb inX0) hown hK hP 17 rfl rfl 4 (by decide) (hts _ (List.mem_cons_of_mem _ tw_1_159)) (fun _ h9 => h9) rfl dX7_throughAll_11 ?_
  refine lv_icmp_ge (tgt := 66) hx hb dX7_throughAll_14 (by decide) (fun q_ => ?_) (fun q_ => ?_)
  · have hw := hw.1 q_
    refine lv_lload_n hx hb dX7_throughAll_66 rfl (lv_at hl 2 rfl) ?_
    exact W.lret (v := x2) hx hb hr (fun t ht hW => ⟨⟨_, σ, rfl, hw, by rw [ht]; exact hP, va_K.moved hW.alike hK, hD⟩, hS.F ht⟩) hS.2.2 dX7_throughAll_67 hlk
  · have hw := hw.2 q_
    refine lv_aload_n hx hb dX7_throughAll_17 rfl (lv_at hl 0 rfl) ?_
    refine va_get (D := D) (ci := 9) (v := .ref (ad 17)) (C := RX7) (T := TX7) (N := 1) hx hb hts (in_tb inX7) hown hK hP 22 rfl rfl 0 (by decide) (hts _ (List.mem_cons_of_mem _ tw_1_177)) (fun _ h9 => h9) rfl dX7_throughAll_18 ?_
    refine lv_iload hx hb dX7_throughAll_21 (lv_at hl 3 rfl) ?_
    refine xV_l (As := [.int x4]) (rest := []) C (met_X0_bitOf vE vM hw) (va_recv hK hP (ci := 2) (q0 := 17) rfl rfl) (cwV 1 hts (TB_G (TB_4 tw_4_77 tw_4_78 tw_4_79 tw_1_6) tw_4_80) rfl rfl rfl (by decide +kernel) ⟨by decide, by decide⟩) hP hD hS rfl hl.1 rfl (Nat.le_of_ble_eq_true rfl) dX7_throughAll_23 ⟨by decide, by decide⟩ (fun r_1 σ_2 H locs hw hP hD hS => ?_)
    have hG : xG D cA aE ad A s σ_2 H locs := ⟨hP, hD, hS⟩
    refine lv_lstore (lv' := [(5, .long r_1), (0, .ref (ad 22)), (1, .int x1), (2, .long x2), (4, .int x4)]) hx hb dX7_throughAll_26 hl (by decide) rfl (fun ls hl => ?_)
    refine lv_iload hx hb dX7_throughAll_28 (lv_at hl 4 rfl) ?_
    refine lv_iload_n hx hb dX7_throughAll_30 rfl (lv_at hl 2 rfl) ?_
    refine lv_icmp_eq (tgt := 60) hx hb dX7_throughAll_31 (by decide) (fun q_ => ?_) (fun q_ => ?_)
    · have hw := hw.1 q_
      exact kB_X7_throughAll_60 C vM hk5 x1 x2 x4 σ_2 _ _ _ hG (lv_sub hl [1, 2, 3, 4] rfl) hw
    · have hw := hw.2 q_
      refine lv_aload_n hx hb dX7_throughAll_34 rfl (lv_at hl 1 rfl) ?_
      refine lv_aload_n hx hb dX7_throughAll_35 rfl (lv_at hl 1 rfl) ?_
      refine lv_iload_n hx hb dX7_throughAll_36 rfl (lv_at hl 2 rfl) ?_
      refine lv_lload hx hb dX7_throughAll_37 (lv_at hl 0 rfl) ?_
      refine xV_l (As := [.int x1, .long r_1]) (rest := [.ref (ad 22)]) C (met_X7_walk vE vM hw) (va_recv hK hP (ci := 9) (q0 := 22) rfl rfl) (cwV 2 hts (TB_G (TB_4 tw_4_73 tw_4_75 ts_5 tw_1_7) tw_4_76) rfl rfl rfl (by decide +kernel) ⟨by decide, by decide⟩) hP hD hS rfl hl.1 rfl (Nat.le_of_ble_eq_true rfl) dX7_throughAll_39 ⟨by decide, by decide⟩ (fun r_4 σ_5 H locs hw hP hD hS => ?_)
      have hG : xG D cA aE ad A s σ_5 H locs := ⟨hP, hD, hS⟩
      refine lv_lload hx hb dX7_throughAll_42 (lv_at hl 0 rfl) ?_
      refine lv_ldc2 (v := (-1)) hx hb hown (hts _ (List.mem_cons_of_mem _ tw_4_82)) dX7_throughAll_44 ?_
      refine lv_lxor hx hb dX7_throughAll_47 ?_
      refine lv_land hx hb dX7_throughAll_48 ?_
      refine xV_i (As := [.long (r_4 &&& (r_1 ^^^ (-1)))]) (rest := []) C (met_X7_hasEnd vE vM hw) (va_recv hK hP (ci := 9) (q0 := 22) rfl rfl) (cwV 1 hts (TB_G (TB_4 tw_4_122 tw_4_124 ts_7 tw_1_7) tw_4_125) rfl rfl rfl (by decide +kernel) ⟨by decide, by decide⟩) hP hD hS rfl hl.1 rfl (Nat.le_of_ble_eq_true rfl) dX7_throughAll_49 ⟨by decide, by decide⟩ (fun r_6 σ_7 H locs hw hP hD hS => ?_)
      have hG : xG D cA aE ad A s σ_7 H locs := ⟨hP, hD, hS⟩
      refine lv_if_ne (tgt := 60) hx hb dX7_throughAll_52 (by decide) (fun q_ => ?_) (fun q_ => ?_)
      · have hw := hw.2 q_
        exact kB_X7_throughAll_60 C vM hk5 x1 x2 x4 σ_7 _ _ _ hG (lv_sub hl [1, 2, 3, 4] rfl) hw
      · have hw := hw.1 q_
        refine lv_lload_n hx hb dX7_throughAll_55 rfl (lv_at hl 3 rfl) ?_
        refine lv_lload hx hb dX7_throughAll_56 (lv_at hl 0 rfl) ?_
        refine lv_lor hx hb dX7_throughAll_58 ?_
        refine lv_topl (fun x2_8 ex2_8 => ?_)
        have hw := hw x2_8 ex2_8
        refine lv_lstore_n (lv' := [(2, .long x2_8), (5, .long r_1), (0, .ref (ad 22)), (1, .int x1), (4, .int x4)]) hx hb dX7_throughAll_59 rfl hl (by decide) rfl (fun ls hl => ?_)
        exact kB_X7_throughAll_60 C vM hk5 x1 x2_8 x4 σ_7 _ _ _ hG (lv_sub hl [2, 3, 0, 4] rfl) hw
theorem kL_X7_throughAll_5 {p : Program} {l : Launch} {e : Env} {s : State} {m : MethodId} {args : Array Value} {below : List Frame} {meth : Method} {c : Code} {A : Nat → Prop} {E : EnvT} {aK aV : Nat → Nat} {aO : Nat} {D : va_G} {cA : Nat → ClassId} {aE ad : Nat → Nat} (C : xCx p s m args meth c cX7_throughAll 7 (some .long) wgX7_throughAll RX7 E D cA A) (vM : eXs aK aV aE aO E) {post : Int64 → XS → Prop} :
    ∀ (n : Nat) (x1 : Int32) (x2 : Int64) (x4 : Int32) (σ : XS) (H : Heap) (locs : List Loc) (ls : Array Slot), xG D cA aE ad A s σ H locs → lv_has ls 7 [(0, .ref (ad 22)), (1, .int x1), (2, .long x2), (4, .int x4)] → wL_X7_throughAll_5 post n x1 x2 x4 σ → W p l e rm_X7_throughAll s m args below meth c H locs 0 0 (MQ below (va_Ql post (xAt D cA aE ad A) A) args s 0 0 A) (F0 m 5 ls []) := by
  intro n
  induction n with
  | zero => intro x1 x2 x4 σ H locs ls hG hl hw; exact hw.elim
  | succ n ih => exact kB_X7_throughAll_5 C vM ih
set_option maxHeartbeats 4000000 in
set_option maxRecDepth 100000 in
theorem k_X7_throughAll {p : Program} {l : Launch} {e : Env} {s : State} {m : MethodId} {args : Array Value} {below : List Frame} {meth : Method} {c : Code} {A : Nat → Prop} {E : EnvT} {aK aV : Nat → Nat} {aO : Nat} {D : va_G} {cA : Nat → ClassId} {aE ad : Nat → Nat} (C : xCx p s m args meth c cX7_throughAll 7 (some .long) wgX7_throughAll RX7 E D cA A) (vM : eXs aK aV aE aO E) {post : Int64 → XS → Prop} :
    ∀ (x1 : Int32) (σ : XS) (H : Heap) (locs : List Loc) (ls : Array Slot), xG D cA aE ad A s σ H locs → lv_has ls 7 [(0, .ref (ad 22)), (1, .int x1)] → wp_X7_throughAll post x1 σ → W p l e rm_X7_throughAll s m args below meth c H locs 0 0 (MQ below (va_Ql post (xAt D cA aE ad A) A) args s 0 0 A) (F0 m 0 ls []) := by
  obtain ⟨hx, hb, hml, hr, hown, hts, hK, hA, hlk, hE, vE⟩ := id C
  intro x1 σ H locs ls hG hl hw
  obtain ⟨hP, hD, hS⟩ := id hG
  refine lv_lconst (v := 0) hx hb dX7_throughAll_0 (by decide) ?_
  refine lv_lstore_n (lv' := [(2, .long 0), (0, .ref (ad 22)), (1, .int x1)]) hx hb dX7_throughAll_1 rfl hl (by decide) rfl (fun ls hl => ?_)
  refine lv_iconst (v := 0) hx hb dX7_throughAll_2 (by decide) ?_
  refine lv_istore (lv' := [(4, .int 0), (2, .long 0), (0, .ref (ad 22)), (1, .int x1)]) hx hb dX7_throughAll_3 hl (by decide) rfl (fun ls hl => ?_)
  obtain ⟨n_, hw⟩ := hw
  exact kL_X7_throughAll_5 C vM n_ x1 0 0 σ _ _ _ hG (lv_sub hl [2, 3, 1, 0] rfl) hw
set_option maxHeartbeats 4000000 in
set_option maxRecDepth 100000 in
theorem met_X7_throughAll {l : Launch} {E : EnvT} (vE : EnvOk E) {D : va_G} {cA : Nat → ClassId} {aE ad : Nat → Nat} {σ : XS} {aK aV : Nat → Nat} {aO : Nat} (vM : eXs aK aV aE aO E) {sz : Nat} {x1 : Int32} {post : Int64 → XS → Prop} (hw : wp_X7_throughAll post x1 σ) : Met l yX7_throughAll wgX7_throughAll rm_X7_throughAll (va_Pc [.ref (ad 22), .int x1] (xPre E D cA aE ad sz σ)) (va_Ql post (xAt D cA aE ad (va_A (xW cA aE ad σ) sz)) (va_A (xW cA aE ad σ) sz)) 0 0 (va_A (xW cA aE ad σ) sz) := by
  refine Met.ofW (cc := cX7_throughAll) (maxL := 7) (ret := (some .long)) (by decide +kernel) rfl ?_
  intro p e s m args below meth c s₁ B hml hv
  obtain ⟨rfl, hsz, hP, hK, hD0, hE⟩ := hv
  subst hsz
  have hD := hD0.self (sz := s.heap.size)
  generalize hAe : va_A (xW cA aE ad σ) s.heap.size = A at hD hE ⊢
  have hA : ∀ q : Nat, s.heap.size ≤ q → A q := fun q h => by rw [← hAe]; exact Or.inr h
  have hS : va_S A s.heap s.heap [] := va_S.rf
  have C : xCx p s m _ meth c cX7_throughAll 7 (some .long) wgX7_throughAll RX7 E D cA A := ⟨B.exec, B.bytes, hml, B.returns, findClass_of_methodNamed B.named, atoms_spec (ws := wgX7_throughAll) B.pre, hK, hA, B.notSynchronized, hE, vE⟩
  have hG : xG D cA aE ad A s σ s.heap [] := ⟨hP, hD, hS⟩
  have hl := lv_entry ([.ref (ad 22), .int x1]) (n := 7) (Nat.le_of_ble_eq_true rfl)
  rw [lg_entry_eq]
  generalize (lg_sl ([.ref (ad 22), .int x1]) ++ List.replicate (7 - (lg_sl ([.ref (ad 22), .int x1])).length) Slot.unset).toArray = ls at hl ⊢
  have hl : lv_has ls 7 [(0, .ref (ad 22)), (1, .int x1)] := hl
  exact k_X7_throughAll C vM x1 σ _ _ _ hG hl hw
/-! ===== X7_meetOf ways ===== -/
def rm_X7_meetOf : Room := { frames := 6, cells := 0, slots := 0, locals := 135 }
abbrev wgX7_meetOf : List Cond := .code yX7_meetOf cX7_meetOf 8 (some .int) :: TB
def wB_X7_meetOf_63 (post : Int32 → XS → Prop) (σ : XS) : Prop :=
  post (-1) σ
def wB_X7_meetOf_124 (post : Int32 → XS → Prop) (k74 : Int32 → Int64 → Int32 → XS → Prop) (x1 : Int32) (x3 : Int64) (x5 : Int32) (σ : XS) : Prop :=
  ∀ x5_15 : Int32, x5_15 = x5 + 1 → k74 x1 x3 x5_15 σ
def wB_X7_meetOf_74 (post : Int32 → XS → Prop) (k74 : Int32 → Int64 → Int32 → XS → Prop) (x1 : Int32) (x3 : Int64) (x5 : Int32) (σ : XS) : Prop :=
  ((xI σ 8) ≤ x5 → (post (-1) σ)) ∧ (¬ (xI σ 8) ≤ x5 → (wp_X0_bitOf (fun r_13 σ_14 => ((x3 &&& r_13) = 0 → (wB_X7_meetOf_124 post k74 x1 x3 x5 σ_14)) ∧ (¬ (x3 &&& r_13) = 0 → (wp_X7_walk (fun r_16 σ_17 => ((r_16 &&& x3) = r_13 → (post x5 σ_17)) ∧ (¬ (r_16 &&& x3) = r_13 → (wB_X7_meetOf_124 post k74 x1 x3 x5 σ_17))) x1 r_13 σ_14))) x5 σ))
def wL_X7_meetOf_74 (post : Int32 → XS → Prop) : Nat → Int32 → Int64 → Int32 → XS → Prop
  | 0 => fun _ _ _ _ => False
  | n + 1 => wB_X7_meetOf_74 post (wL_X7_meetOf_74 post n)
def wB_X7_meetOf_27 (post : Int32 → XS → Prop) (x1 : Int32) (t0 : Int32) (σ : XS) : Prop :=
  (t0 = 0 → (wB_X7_meetOf_63 post σ)) ∧ (¬ t0 = 0 → (wp_X7_fromStart (fun r_3 σ_4 => wp_X0_bitOf (fun r_5 σ_6 => ((r_3 &&& r_5) = 0 → (wB_X7_meetOf_63 post σ_6)) ∧ (¬ (r_3 &&& r_5) = 0 → (wp_X7_walk (fun r_7 σ_8 => wp_X7_hasEnd (fun r_9 σ_10 => (r_9 = 0 → (wB_X7_meetOf_63 post σ_10)) ∧ (¬ r_9 = 0 → (wp_X7_throughAll (fun r_11 σ_12 => ∃ n, wL_X7_meetOf_74 post n x1 r_11 0 σ_12) x1 σ_10))) r_7 σ_8) x1 0 σ_6))) x1 σ_4) σ))
def wB_X7_meetOf_26 (post : Int32 → XS → Prop) (x1 : Int32) (σ : XS) : Prop :=
  wB_X7_meetOf_27 post x1 0 σ
def wp_X7_meetOf (post : Int32 → XS → Prop) (x1 : Int32) (σ : XS) : Prop :=
  wp_X7_second (fun r_1 σ_2 => (r_1 = (-1) → (wB_X7_meetOf_26 post x1 σ_2)) ∧ (¬ r_1 = (-1) → (wp_X7_first (fun r_18 σ_19 => wp_X7_second (fun r_20 σ_21 => (r_18 = r_20 → (wB_X7_meetOf_26 post x1 σ_21)) ∧ (¬ r_18 = r_20 → (wB_X7_meetOf_27 post x1 1 σ_21))) x1 σ_19) x1 σ_2))) x1 σ
set_option maxHeartbeats 4000000 in
set_option maxRecDepth 100000 in
theorem kB_X7_meetOf_63 {p : Program} {l : Launch} {e : Env} {s : State} {m : MethodId} {args : Array Value} {below : List Frame} {meth : Method} {c : Code} {A : Nat → Prop} {E : EnvT} {aK aV : Nat → Nat} {aO : Nat} {D : va_G} {cA : Nat → ClassId} {aE ad : Nat → Nat} (C : xCx p s m args meth c cX7_meetOf 8 (some .int) wgX7_meetOf RX7 E D cA A) (vM : eXs aK aV aE aO E) {post : Int32 → XS → Prop} :
    ∀ (σ : XS) (H : Heap) (locs : List Loc) (ls : Array Slot), xG D cA aE ad A s σ H locs → lv_has ls 8 [] → wB_X7_meetOf_63 post σ → W p l e rm_X7_meetOf s m args below meth c H locs 0 0 (MQ below (va_Qi post (xAt D cA aE ad A) A) args s 0 0 A) (F0 m 63 ls []) := by
  obtain ⟨hx, hb, hml, hr, hown, hts, hK, hA, hlk, hE, vE⟩ := id C
  intro σ H locs ls hG hl hw
  obtain ⟨hP, hD, hS⟩ := id hG
  refine lv_iconst (v := (-1)) hx hb dX7_meetOf_63 (by decide) ?_
  exact W.iret (v := (-1)) hx hb hr (fun t ht hW => ⟨⟨_, σ, rfl, hw, by rw [ht]; exact hP, va_K.moved hW.alike hK, hD⟩, hS.F ht⟩) hS.2.2 dX7_meetOf_64 hlk
set_option maxHeartbeats 4000000 in
set_option maxRecDepth 100000 in
theorem kB_X7_meetOf_124 {p : Program} {l : Launch} {e : Env} {s : State} {m : MethodId} {args : Array Value} {below : List Frame} {meth : Method} {c : Code} {A : Nat → Prop} {E : EnvT} {aK aV : Nat → Nat} {aO : Nat} {D : va_G} {cA : Nat → ClassId} {aE ad : Nat → Nat} (C : xCx p s m args meth c cX7_meetOf 8 (some .int) wgX7_meetOf RX7 E D cA A) (vM : eXs aK aV aE aO E) {post : Int32 → XS → Prop}
    {k74 : Int32 → Int64 → Int32 → XS → Prop} (hk74 : ∀ (x1 : Int32) (x3 : Int64) (x5 : Int32) (σ : XS) (H : Heap) (locs : List Loc) (ls : Array Slot), xG D cA aE ad A s σ H locs → lv_has ls 8 [(0, .ref (ad 22)), (1, .int x1), (3, .long x3), (5, .int x5)] → k74 x1 x3 x5 σ → W p l e rm_X7_meetOf s m args below meth c H locs 0 0 (MQ below (va_Qi post (xAt D cA aE ad A) A) args s 0 0 A) (F0 m 74 ls [])) :
    ∀ (x1 : Int32) (x3 : Int64) (x5 : Int32) (σ : XS) (H : Heap) (locs : List Loc) (ls : Array Slot), xG D cA aE ad A s σ H locs → lv_has ls 8 [(0, .ref (ad 22)), (1, .int x1), (3, .long x3), (5, .int x5)] → wB_X7_meetOf_124 post k74 x1 x3 x5 σ → W p l e rm_X7_meetOf s m args below meth c H locs 0 0 (MQ below (va_Qi post (xAt D cA aE ad A) A) args s 0 0 A) (F0 m 124 ls []) := by
  obtain ⟨hx, hb, hml, hr, hown, hts, hK, hA, hlk, hE, vE⟩ := id C
  intro x1 x3 x5 σ H locs ls hG hl hw
  obtain ⟨hP, hD, hS⟩ := id hG
  obtain ⟨x5_15, ex5_15⟩ : ∃ y : Int32, y = x5 + 1 := ⟨_, rfl⟩
  have hw := hw x5_15 ex5_15
  refine lv_iinc (v := x5_15) (lv' := [(5, .int x5_15), (0, .ref (ad 22)), (1, .int x1), (3, .long x3)]) hx hb dX7_meetOf_124 hl (k := 3) rfl (by rw [ex5_15]; rfl) (by decide) rfl (fun ls hl => ?_)
  refine lv_goto (tgt := 74) hx hb dX7_meetOf_127 (by decide) ?_
  exact hk74 x1 x3 x5_15 σ _ _ _ hG (lv_sub hl [1, 2, 3, 0] rfl) hw
set_option maxHeartbeats 4000000 in
set_option maxRecDepth 100000 in
theorem kB_X7_meetOf_74 {p : Program} {l : Launch} {e : Env} {s : State} {m : MethodId} {args : Array Value} {below : List Frame} {meth : Method} {c : Code} {A : Nat → Prop} {E : EnvT} {aK aV : Nat → Nat} {aO : Nat} {D : va_G} {cA : Nat → ClassId} {aE ad : Nat → Nat} (C : xCx p s m args meth c cX7_meetOf 8 (some .int) wgX7_meetOf RX7 E D cA A) (vM : eXs aK aV aE aO E) {post : Int32 → XS → Prop}
    {k74 : Int32 → Int64 → Int32 → XS → Prop} (hk74 : ∀ (x1 : Int32) (x3 : Int64) (x5 : Int32) (σ : XS) (H : Heap) (locs : List Loc) (ls : Array Slot), xG D cA aE ad A s σ H locs → lv_has ls 8 [(0, .ref (ad 22)), (1, .int x1), (3, .long x3), (5, .int x5)] → k74 x1 x3 x5 σ → W p l e rm_X7_meetOf s m args below meth c H locs 0 0 (MQ below (va_Qi post (xAt D cA aE ad A) A) args s 0 0 A) (F0 m 74 ls [])) :
    ∀ (x1 : Int32) (x3 : Int64) (x5 : Int32) (σ : XS) (H : Heap) (locs : List Loc) (ls : Array Slot), xG D cA aE ad A s σ H locs → lv_has ls 8 [(0, .ref (ad 22)), (1, .int x1), (3, .long x3), (5, .int x5)] → wB_X7_meetOf_74 post k74 x1 x3 x5 σ → W p l e rm_X7_meetOf s m args below meth c H locs 0 0 (MQ below (va_Qi post (xAt D cA aE ad A) A) args s 0 0 A) (F0 m 74 ls []) := by
  obtain ⟨hx, hb, hml, hr, hown, hts, hK, hA, hlk, hE, vE⟩ := id C
  intro x1 x3 x5 σ H locs ls hG hl hw
  obtain ⟨hP, hD, hS⟩ := id hG
  refine lv_iload hx hb dX7_meetOf_74 (lv_at hl 3 rfl) ?_
  refine lv_aload_n hx hb dX7_meetOf_76 rfl (lv_at hl 0 rfl) ?_
  refine va_get (D := D) (ci := 9) (v := .ref (ad 17)) (C := RX7) (T := TX7) (N := 1) hx hb hts (in_tb inX7) hown hK hP 22 rfl rfl 0 (by decide) (hts _ (List.mem_cons_of_mem _ tw_1_177)) (fun _ h9 => h9) rfl dX7_meetOf_77 ?_
  refine va_get (D := D) (ci := 2) (v := .int (xI σ 8)) (C := RX0) (T := TX0) (N := 5) hx hb hts (in_tb inX0) hown hK hP 17 rfl rfl 4 (by decide) (hts _ (List.mem_cons_of_mem _ tw_1_159)) (fun _ h9 => h9) rfl dX7_meetOf_80 ?_
  refine lv_icmp_ge (tgt := 130) hx hb dX7_meetOf_83 (by decide) (fun q_ => ?_) (fun q_ => ?_)
  · have hw := hw.1 q_
    refine lv_iconst (v := (-1)) hx hb dX7_meetOf_130 (by decide) ?_
    exact W.iret (v := (-1)) hx hb hr (fun t ht hW => ⟨⟨_, σ, rfl, hw, by rw [ht]; exact hP, va_K.moved hW.alike hK, hD⟩, hS.F ht⟩) hS.2.2 dX7_meetOf_131 hlk
  · have hw := hw.2 q_
    refine lv_aload_n hx hb dX7_meetOf_86 rfl (lv_at hl 0 rfl) ?_
    refine va_get (D := D) (ci := 9) (v := .ref (ad 17)) (C := RX7) (T := TX7) (N := 1) hx hb hts (in_tb inX7) hown hK hP 22 rfl rfl 0 (by decide) (hts _ (List.mem_cons_of_mem _ tw_1_177)) (fun _ h9 => h9) rfl dX7_meetOf_87 ?_
    refine lv_iload hx hb dX7_meetOf_90 (lv_at hl 3 rfl) ?_
    refine xV_l (As := [.int x5]) (rest := []) C (met_X0_bitOf vE vM hw) (va_recv hK hP (ci := 2) (q0 := 17) rfl rfl) (cwV 1 hts (TB_G (TB_4 tw_4_77 tw_4_78 tw_4_79 tw_1_6) tw_4_80) rfl rfl rfl (by decide +kernel) ⟨by decide, by decide⟩) hP hD hS rfl hl.1 rfl (Nat.le_of_ble_eq_true rfl) dX7_meetOf_92 ⟨by decide, by decide⟩ (fun r_13 σ_14 H locs hw hP hD hS => ?_)
    have hG : xG D cA aE ad A s σ_14 H locs := ⟨hP, hD, hS⟩
    refine lv_lstore (lv' := [(6, .long r_13), (0, .ref (ad 22)), (1, .int x1), (3, .long x3), (5, .int x5)]) hx hb dX7_meetOf_95 hl (by decide) rfl (fun ls hl => ?_)
    refine lv_lload_n hx hb dX7_meetOf_97 rfl (lv_at hl 3 rfl) ?_
    refine lv_lload hx hb dX7_meetOf_98 (lv_at hl 0 rfl) ?_
    refine lv_land hx hb dX7_meetOf_100 ?_
    refine lv_lconst (v := 0) hx hb dX7_meetOf_101 (by decide) ?_
    refine W.lcmp hx hb dX7_meetOf_102 ?_
    refine lv_if_eq (tgt := 124) hx hb dX7_meetOf_103 (by decide) (fun q_ => ?_) (fun q_ => ?_)
    · have hw := hw.1 (lc_eq.mp q_)
      exact kB_X7_meetOf_124 C vM hk74 x1 x3 x5 σ_14 _ _ _ hG (lv_sub hl [1, 2, 3, 4] rfl) hw
    · have hw := hw.2 (fun z => q_ (lc_eq.mpr z))
      refine lv_aload_n hx hb dX7_meetOf_106 rfl (lv_at hl 1 rfl) ?_
      refine lv_iload_n hx hb dX7_meetOf_107 rfl (lv_at hl 2 rfl) ?_
      refine lv_lload hx hb dX7_meetOf_108 (lv_at hl 0 rfl) ?_
      refine xV_l (As := [.int x1, .long r_13]) (rest := []) C (met_X7_walk vE vM hw) (va_recv hK hP (ci := 9) (q0 := 22) rfl rfl) (cwV 2 hts (TB_G (TB_4 tw_4_73 tw_4_75 ts_5 tw_1_7) tw_4_76) rfl rfl rfl (by decide +kernel) ⟨by decide, by decide⟩) hP hD hS rfl hl.1 rfl (Nat.le_of_ble_eq_true rfl) dX7_meetOf_110 ⟨by decide, by decide⟩ (fun r_16 σ_17 H locs hw hP hD hS => ?_)
      have hG : xG D cA aE ad A s σ_17 H locs := ⟨hP, hD, hS⟩
      refine lv_lload_n hx hb dX7_meetOf_113 rfl (lv_at hl 3 rfl) ?_
      refine lv_land hx hb dX7_meetOf_114 ?_
      refine lv_lload hx hb dX7_meetOf_115 (lv_at hl 0 rfl) ?_
      refine W.lcmp hx hb dX7_meetOf_117 ?_
      refine lv_if_ne (tgt := 124) hx hb dX7_meetOf_118 (by decide) (fun q_ => ?_) (fun q_ => ?_)
      · have hw := hw.2 (fun z => q_ (lc_eq.mpr z))
        exact kB_X7_meetOf_124 C vM hk74 x1 x3 x5 σ_17 _ _ _ hG (lv_sub hl [1, 2, 3, 4] rfl) hw
      · have hw := hw.1 (lc_eq.mp q_)
        refine lv_iload hx hb dX7_meetOf_121 (lv_at hl 4 rfl) ?_
        exact W.iret (v := x5) hx hb hr (fun t ht hW => ⟨⟨_, σ_17, rfl, hw, by rw [ht]; exact hP, va_K.moved hW.alike hK, hD⟩, hS.F ht⟩) hS.2.2 dX7_meetOf_123 hlk
theorem kL_X7_meetOf_74 {p : Program} {l : Launch} {e : Env} {s : State} {m : MethodId} {args : Array Value} {below : List Frame} {meth : Method} {c : Code} {A : Nat → Prop} {E : EnvT} {aK aV : Nat → Nat} {aO : Nat} {D : va_G} {cA : Nat → ClassId} {aE ad : Nat → Nat} (C : xCx p s m args meth c cX7_meetOf 8 (some .int) wgX7_meetOf RX7 E D cA A) (vM : eXs aK aV aE aO E) {post : Int32 → XS → Prop} :
    ∀ (n : Nat) (x1 : Int32) (x3 : Int64) (x5 : Int32) (σ : XS) (H : Heap) (locs : List Loc) (ls : Array Slot), xG D cA aE ad A s σ H locs → lv_has ls 8 [(0, .ref (ad 22)), (1, .int x1), (3, .long x3), (5, .int x5)] → wL_X7_meetOf_74 post n x1 x3 x5 σ → W p l e rm_X7_meetOf s m args below meth c H locs 0 0 (MQ below (va_Qi post (xAt D cA aE ad A) A) args s 0 0 A) (F0 m 74 ls []) := by
  intro n
  induction n with
  | zero => intro x1 x3 x5 σ H locs ls hG hl hw; exact hw.elim
  | succ n ih => exact kB_X7_meetOf_74 C vM ih
set_option maxHeartbeats 4000000 in
set_option maxRecDepth 100000 in
theorem kB_X7_meetOf_27 {p : Program} {l : Launch} {e : Env} {s : State} {m : MethodId} {args : Array Value} {below : List Frame} {meth : Method} {c : Code} {A : Nat → Prop} {E : EnvT} {aK aV : Nat → Nat} {aO : Nat} {D : va_G} {cA : Nat → ClassId} {aE ad : Nat → Nat} (C : xCx p s m args meth c cX7_meetOf 8 (some .int) wgX7_meetOf RX7 E D cA A) (vM : eXs aK aV aE aO E) {post : Int32 → XS → Prop} :
    ∀ (x1 : Int32) (t0 : Int32) (σ : XS) (H : Heap) (locs : List Loc) (ls : Array Slot), xG D cA aE ad A s σ H locs → lv_has ls 8 [(0, .ref (ad 22)), (1, .int x1)] → wB_X7_meetOf_27 post x1 t0 σ → W p l e rm_X7_meetOf s m args below meth c H locs 0 0 (MQ below (va_Qi post (xAt D cA aE ad A) A) args s 0 0 A) (F0 m 27 ls [.int t0]) := by
  obtain ⟨hx, hb, hml, hr, hown, hts, hK, hA, hlk, hE, vE⟩ := id C
  intro x1 t0 σ H locs ls hG hl hw
  obtain ⟨hP, hD, hS⟩ := id hG
  refine lv_istore_n (lv' := [(2, .int t0), (0, .ref (ad 22)), (1, .int x1)]) hx hb dX7_meetOf_27 rfl hl (by decide) rfl (fun ls hl => ?_)
  refine lv_iload_n hx hb dX7_meetOf_28 rfl (lv_at hl 0 rfl) ?_
  refine lv_if_eq (tgt := 63) hx hb dX7_meetOf_29 (by decide) (fun q_ => ?_) (fun q_ => ?_)
  · have hw := hw.1 q_
    exact kB_X7_meetOf_63 C vM  σ _ _ _ hG (lv_sub hl [] rfl) hw
  · have hw := hw.2 q_
    refine lv_aload_n hx hb dX7_meetOf_32 rfl (lv_at hl 1 rfl) ?_
    refine xV_l (As := []) (rest := []) C (met_X7_fromStart vE vM hw) (va_recv hK hP (ci := 9) (q0 := 22) rfl rfl) (cwV 0 hts (TB_G (TB_4 tw_4_121 tw_4_70 tw_4_71 tw_1_7) tw_4_72) rfl rfl rfl (by decide +kernel) ⟨by decide, by decide⟩) hP hD hS rfl hl.1 rfl (Nat.le_of_ble_eq_true rfl) dX7_meetOf_33 ⟨by decide, by decide⟩ (fun r_3 σ_4 H locs hw hP hD hS => ?_)
    have hG : xG D cA aE ad A s σ_4 H locs := ⟨hP, hD, hS⟩
    refine lv_aload_n hx hb dX7_meetOf_36 rfl (lv_at hl 1 rfl) ?_
    refine va_get (D := D) (ci := 9) (v := .ref (ad 17)) (C := RX7) (T := TX7) (N := 1) hx hb hts (in_tb inX7) hown hK hP 22 rfl rfl 0 (by decide) (hts _ (List.mem_cons_of_mem _ tw_1_177)) (fun _ h9 => h9) rfl dX7_meetOf_37 ?_
    refine lv_iload_n hx hb dX7_meetOf_40 rfl (lv_at hl 2 rfl) ?_
    refine xV_l (As := [.int x1]) (rest := [.long r_3]) C (met_X0_bitOf vE vM hw) (va_recv hK hP (ci := 2) (q0 := 17) rfl rfl) (cwV 1 hts (TB_G (TB_4 tw_4_77 tw_4_78 tw_4_79 tw_1_6) tw_4_80) rfl rfl rfl (by decide +kernel) ⟨by decide, by decide⟩) hP hD hS rfl hl.1 rfl (Nat.le_of_ble_eq_true rfl) dX7_meetOf_41 ⟨by decide, by decide⟩ (fun r_5 σ_6 H locs hw hP hD hS => ?_)
    have hG : xG D cA aE ad A s σ_6 H locs := ⟨hP, hD, hS⟩
    refine lv_land hx hb dX7_meetOf_44 ?_
    refine lv_lconst (v := 0) hx hb dX7_meetOf_45 (by decide) ?_
    refine W.lcmp hx hb dX7_meetOf_46 ?_
    refine lv_if_eq (tgt := 63) hx hb dX7_meetOf_47 (by decide) (fun q_ => ?_) (fun q_ => ?_)
    · have hw := hw.1 (lc_eq.mp q_)
      exact kB_X7_meetOf_63 C vM  σ_6 _ _ _ hG (lv_sub hl [] rfl) hw
    · have hw := hw.2 (fun z => q_ (lc_eq.mpr z))
      refine lv_aload_n hx hb dX7_meetOf_50 rfl (lv_at hl 1 rfl) ?_
      refine lv_aload_n hx hb dX7_meetOf_51 rfl (lv_at hl 1 rfl) ?_
      refine lv_iload_n hx hb dX7_meetOf_52 rfl (lv_at hl 2 rfl) ?_
      refine lv_lconst (v := 0) hx hb dX7_meetOf_53 (by decide) ?_
      refine xV_l (As := [.int x1, .long 0]) (rest := [.ref (ad 22)]) C (met_X7_walk vE vM hw) (va_recv hK hP (ci := 9) (q0 := 22) rfl rfl) (cwV 2 hts (TB_G (TB_4 tw_4_73 tw_4_75 ts_5 tw_1_7) tw_4_76) rfl rfl rfl (by decide +kernel) ⟨by decide, by decide⟩) hP hD hS rfl hl.1 rfl (Nat.le_of_ble_eq_true rfl) dX7_meetOf_54 ⟨by decide, by decide⟩ (fun r_7 σ_8 H locs hw hP hD hS => ?_)
      have hG : xG D cA aE ad A s σ_8 H locs := ⟨hP, hD, hS⟩
      refine xV_i (As := [.long r_7]) (rest := []) C (met_X7_hasEnd vE vM hw) (va_recv hK hP (ci := 9) (q0 := 22) rfl rfl) (cwV 1 hts (TB_G (TB_4 tw_4_122 tw_4_124 ts_7 tw_1_7) tw_4_125) rfl rfl rfl (by decide +kernel) ⟨by decide, by decide⟩) hP hD hS rfl hl.1 rfl (Nat.le_of_ble_eq_true rfl) dX7_meetOf_57 ⟨by decide, by decide⟩ (fun r_9 σ_10 H locs hw hP hD hS => ?_)
      have hG : xG D cA aE ad A s σ_10 H locs := ⟨hP, hD, hS⟩
      refine lv_if_ne (tgt := 65) hx hb dX7_meetOf_60 (by decide) (fun q_ => ?_) (fun q_ => ?_)
      · have hw := hw.2 q_
        refine lv_aload_n hx hb dX7_meetOf_65 rfl (lv_at hl 1 rfl) ?_
        refine lv_iload_n hx hb dX7_meetOf_66 rfl (lv_at hl 2 rfl) ?_
        refine xV_l (As := [.int x1]) (rest := []) C (met_X7_throughAll vE vM hw) (va_recv hK hP (ci := 9) (q0 := 22) rfl rfl) (cwV 1 hts (TB_G (TB_4 tw_4_130 tw_4_132 ts_9 tw_1_7) tw_4_133) rfl rfl rfl (by decide +kernel) ⟨by decide, by decide⟩) hP hD hS rfl hl.1 rfl (Nat.le_of_ble_eq_true rfl) dX7_meetOf_67 ⟨by decide, by decide⟩ (fun r_11 σ_12 H locs hw hP hD hS => ?_)
        have hG : xG D cA aE ad A s σ_12 H locs := ⟨hP, hD, hS⟩
        refine lv_lstore_n (lv' := [(3, .long r_11), (2, .int t0), (0, .ref (ad 22)), (1, .int x1)]) hx hb dX7_meetOf_70 rfl hl (by decide) rfl (fun ls hl => ?_)
        refine lv_iconst (v := 0) hx hb dX7_meetOf_71 (by decide) ?_
        refine lv_istore (lv' := [(5, .int 0), (3, .long r_11), (2, .int t0), (0, .ref (ad 22)), (1, .int x1)]) hx hb dX7_meetOf_72 hl (by decide) rfl (fun ls hl => ?_)
        obtain ⟨n_, hw⟩ := hw
        exact kL_X7_meetOf_74 C vM n_ x1 r_11 0 σ_12 _ _ _ hG (lv_sub hl [3, 4, 1, 0] rfl) hw
      · have hw := hw.1 q_
        exact kB_X7_meetOf_63 C vM  σ_10 _ _ _ hG (lv_sub hl [] rfl) hw
set_option maxHeartbeats 4000000 in
set_option maxRecDepth 100000 in
theorem kB_X7_meetOf_26 {p : Program} {l : Launch} {e : Env} {s : State} {m : MethodId} {args : Array Value} {below : List Frame} {meth : Method} {c : Code} {A : Nat → Prop} {E : EnvT} {aK aV : Nat → Nat} {aO : Nat} {D : va_G} {cA : Nat → ClassId} {aE ad : Nat → Nat} (C : xCx p s m args meth c cX7_meetOf 8 (some .int) wgX7_meetOf RX7 E D cA A) (vM : eXs aK aV aE aO E) {post : Int32 → XS → Prop} :
    ∀ (x1 : Int32) (σ : XS) (H : Heap) (locs : List Loc) (ls : Array Slot), xG D cA aE ad A s σ H locs → lv_has ls 8 [(0, .ref (ad 22)), (1, .int x1)] → wB_X7_meetOf_26 post x1 σ → W p l e rm_X7_meetOf s m args below meth c H locs 0 0 (MQ below (va_Qi post (xAt D cA aE ad A) A) args s 0 0 A) (F0 m 26 ls []) := by
  obtain ⟨hx, hb, hml, hr, hown, hts, hK, hA, hlk, hE, vE⟩ := id C
  intro x1 σ H locs ls hG hl hw
  obtain ⟨hP, hD, hS⟩ := id hG
  refine lv_iconst (v := 0) hx hb dX7_meetOf_26 (by decide) ?_
  exact kB_X7_meetOf_27 C vM x1 0 σ _ _ _ hG (lv_sub hl [0, 1] rfl) hw
set_option maxHeartbeats 4000000 in
set_option maxRecDepth 100000 in
theorem k_X7_meetOf {p : Program} {l : Launch} {e : Env} {s : State} {m : MethodId} {args : Array Value} {below : List Frame} {meth : Method} {c : Code} {A : Nat → Prop} {E : EnvT} {aK aV : Nat → Nat} {aO : Nat} {D : va_G} {cA : Nat → ClassId} {aE ad : Nat → Nat} (C : xCx p s m args meth c cX7_meetOf 8 (some .int) wgX7_meetOf RX7 E D cA A) (vM : eXs aK aV aE aO E) {post : Int32 → XS → Prop} :
    ∀ (x1 : Int32) (σ : XS) (H : Heap) (locs : List Loc) (ls : Array Slot), xG D cA aE ad A s σ H locs → lv_has ls 8 [(0, .ref (ad 22)), (1, .int x1)] → wp_X7_meetOf post x1 σ → W p l e rm_X7_meetOf s m args below meth c H locs 0 0 (MQ below (va_Qi post (xAt D cA aE ad A) A) args s 0 0 A) (F0 m 0 ls []) := by
  obtain ⟨hx, hb, hml, hr, hown, hts, hK, hA, hlk, hE, vE⟩ := id C
  intro x1 σ H locs ls hG hl hw
  obtain ⟨hP, hD, hS⟩ := id hG
  refine lv_aload_n hx hb dX7_meetOf_0 rfl (lv_at hl 0 rfl) ?_
  refine lv_iload_n hx hb dX7_meetOf_1 rfl (lv_at hl 1 rfl) ?_
  refine xV_i (As := [.int x1]) (rest := []) C (met_X7_second vE vM hw) (va_recv hK hP (ci := 9) (q0 := 22) rfl rfl) (cwV 1 hts (TB_G (TB_4 tw_4_90 tw_4_62 tw_4_63 tw_1_7) tw_4_64) rfl rfl rfl (by decide +kernel) ⟨by decide, by decide⟩) hP hD hS rfl hl.1 rfl (Nat.le_of_ble_eq_true rfl) dX7_meetOf_2 ⟨by decide, by decide⟩ (fun r_1 σ_2 H locs hw hP hD hS => ?_)
  have hG : xG D cA aE ad A s σ_2 H locs := ⟨hP, hD, hS⟩
  refine lv_iconst (v := (-1)) hx hb dX7_meetOf_5 (by decide) ?_
  refine lv_icmp_eq (tgt := 26) hx hb dX7_meetOf_6 (by decide) (fun q_ => ?_) (fun q_ => ?_)
  · have hw := hw.1 q_
    exact kB_X7_meetOf_26 C vM x1 σ_2 _ _ _ hG (lv_sub hl [0, 1] rfl) hw
  · have hw := hw.2 q_
    refine lv_aload_n hx hb dX7_meetOf_9 rfl (lv_at hl 0 rfl) ?_
    refine lv_iload_n hx hb dX7_meetOf_10 rfl (lv_at hl 1 rfl) ?_
    refine xV_i (As := [.int x1]) (rest := []) C (met_X7_first vE vM hw) (va_recv hK hP (ci := 9) (q0 := 22) rfl rfl) (cwV 1 hts (TB_G (TB_4 tw_4_89 tw_4_37 tw_4_38 tw_1_7) tw_4_39) rfl rfl rfl (by decide +kernel) ⟨by decide, by decide⟩) hP hD hS rfl hl.1 rfl (Nat.le_of_ble_eq_true rfl) dX7_meetOf_11 ⟨by decide, by decide⟩ (fun r_18 σ_19 H locs hw hP hD hS => ?_)
    have hG : xG D cA aE ad A s σ_19 H locs := ⟨hP, hD, hS⟩
    refine lv_aload_n hx hb dX7_meetOf_14 rfl (lv_at hl 0 rfl) ?_
    refine lv_iload_n hx hb dX7_meetOf_15 rfl (lv_at hl 1 rfl) ?_
    refine xV_i (As := [.int x1]) (rest := [.int r_18]) C (met_X7_second vE vM hw) (va_recv hK hP (ci := 9) (q0 := 22) rfl rfl) (cwV 1 hts (TB_G (TB_4 tw_4_90 tw_4_62 tw_4_63 tw_1_7) tw_4_64) rfl rfl rfl (by decide +kernel) ⟨by decide, by decide⟩) hP hD hS rfl hl.1 rfl (Nat.le_of_ble_eq_true rfl) dX7_meetOf_16 ⟨by decide, by decide⟩ (fun r_20 σ_21 H locs hw hP hD hS => ?_)
    have hG : xG D cA aE ad A s σ_21 H locs := ⟨hP, hD, hS⟩
    refine lv_icmp_eq (tgt := 26) hx hb dX7_meetOf_19 (by decide) (fun q_ => ?_) (fun q_ => ?_)
    · have hw := hw.1 q_
      exact kB_X7_meetOf_26 C vM x1 σ_21 _ _ _ hG (lv_sub hl [0, 1] rfl) hw
    · have hw := hw.2 q_
      refine lv_iconst (v := 1) hx hb dX7_meetOf_22 (by decide) ?_
      refine lv_goto (tgt := 27) hx hb dX7_meetOf_23 (by decide) ?_
      exact kB_X7_meetOf_27 C vM x1 1 σ_21 _ _ _ hG (lv_sub hl [0, 1] rfl) hw
set_option maxHeartbeats 4000000 in
set_option maxRecDepth 100000 in
theorem met_X7_meetOf {l : Launch} {E : EnvT} (vE : EnvOk E) {D : va_G} {cA : Nat → ClassId} {aE ad : Nat → Nat} {σ : XS} {aK aV : Nat → Nat} {aO : Nat} (vM : eXs aK aV aE aO E) {sz : Nat} {x1 : Int32} {post : Int32 → XS → Prop} (hw : wp_X7_meetOf post x1 σ) : Met l yX7_meetOf wgX7_meetOf rm_X7_meetOf (va_Pc [.ref (ad 22), .int x1] (xPre E D cA aE ad sz σ)) (va_Qi post (xAt D cA aE ad (va_A (xW cA aE ad σ) sz)) (va_A (xW cA aE ad σ) sz)) 0 0 (va_A (xW cA aE ad σ) sz) := by
  refine Met.ofW (cc := cX7_meetOf) (maxL := 8) (ret := (some .int)) (by decide +kernel) rfl ?_
  intro p e s m args below meth c s₁ B hml hv
  obtain ⟨rfl, hsz, hP, hK, hD0, hE⟩ := hv
  subst hsz
  have hD := hD0.self (sz := s.heap.size)
  generalize hAe : va_A (xW cA aE ad σ) s.heap.size = A at hD hE ⊢
  have hA : ∀ q : Nat, s.heap.size ≤ q → A q := fun q h => by rw [← hAe]; exact Or.inr h
  have hS : va_S A s.heap s.heap [] := va_S.rf
  have C : xCx p s m _ meth c cX7_meetOf 8 (some .int) wgX7_meetOf RX7 E D cA A := ⟨B.exec, B.bytes, hml, B.returns, findClass_of_methodNamed B.named, atoms_spec (ws := wgX7_meetOf) B.pre, hK, hA, B.notSynchronized, hE, vE⟩
  have hG : xG D cA aE ad A s σ s.heap [] := ⟨hP, hD, hS⟩
  have hl := lv_entry ([.ref (ad 22), .int x1]) (n := 8) (Nat.le_of_ble_eq_true rfl)
  rw [lg_entry_eq]
  generalize (lg_sl ([.ref (ad 22), .int x1]) ++ List.replicate (8 - (lg_sl ([.ref (ad 22), .int x1])).length) Slot.unset).toArray = ls at hl ⊢
  have hl : lv_has ls 8 [(0, .ref (ad 22)), (1, .int x1)] := hl
  exact k_X7_meetOf C vM x1 σ _ _ _ hG hl hw
/-! ===== X8_type K ===== -/
def rm_X8_type : Room := { frames := 2, cells := 0, slots := 0, locals := 47 }
abbrev wgX8_type : List Cond := .code yX8_type cX8_type 4 (some .boolean) :: TB
def wp_X8_type (post : Int32 → XS → Prop) (x1 : Int64) (x3 : Int32) (σ : XS) : Prop :=
  wp_X5_append (fun r_1 σ_2 => isB r_1 ∧ (post r_1 σ_2)) x1 x3 σ
set_option maxHeartbeats 4000000 in
set_option maxRecDepth 100000 in
theorem k_X8_type {p : Program} {l : Launch} {e : Env} {s : State} {m : MethodId} {args : Array Value} {below : List Frame} {meth : Method} {c : Code} {A : Nat → Prop} {E : EnvT} {aK aV : Nat → Nat} {aO : Nat} {D : va_G} {cA : Nat → ClassId} {aE ad : Nat → Nat} (C : xCx p s m args meth c cX8_type 4 (some .boolean) wgX8_type RX8 E D cA A) (vM : eXs aK aV aE aO E) {post : Int32 → XS → Prop} :
    ∀ (x1 : Int64) (x3 : Int32) (σ : XS) (H : Heap) (locs : List Loc) (ls : Array Slot), xG D cA aE ad A s σ H locs → lv_has ls 4 [(0, .ref (ad 0)), (1, .long x1), (3, .int x3)] → wp_X8_type post x1 x3 σ → W p l e rm_X8_type s m args below meth c H locs 0 0 (MQ below (va_Qi post (xAt D cA aE ad A) A) args s 0 0 A) (F0 m 0 ls []) := by
  obtain ⟨hx, hb, hml, hr, hown, hts, hK, hA, hlk, hE, vE⟩ := id C
  intro x1 x3 σ H locs ls hG hl hw
  obtain ⟨hP, hD, hS⟩ := id hG
  refine lv_aload_n hx hb dX8_type_0 rfl (lv_at hl 0 rfl) ?_
  refine va_get (D := D) (ci := 10) (v := .ref (ad 1)) (C := RX8) (T := TX8) (N := 6) hx hb hts (in_tb inX8) hown hK hP 0 rfl rfl 0 (by decide) (hts _ (List.mem_cons_of_mem _ tw_1_224)) (fun _ h9 => h9) rfl dX8_type_1 ?_
  refine lv_lload_n hx hb dX8_type_4 rfl (lv_at hl 1 rfl) ?_
  refine lv_iload_n hx hb dX8_type_5 rfl (lv_at hl 2 rfl) ?_
  refine xV_i (As := [.long x1, .int x3]) (rest := []) C (met_X5_append vE vM hw) (va_recv hK hP (ci := 7) (q0 := 1) rfl rfl) (cwV 2 hts (TB_G (TB_4 tw_2_7 tw_2_8 tw_2_9 tw_1_2) tw_2_10) rfl rfl rfl (by decide +kernel) ⟨by decide, by decide⟩) hP hD hS rfl hl.1 rfl (Nat.le_of_ble_eq_true rfl) dX8_type_6 ⟨by decide, by decide⟩ (fun r_1 σ_2 H locs hw hP hD hS => ?_)
  have hG : xG D cA aE ad A s σ_2 H locs := ⟨hP, hD, hS⟩
  obtain ⟨h_3, hw⟩ := hw
  exact W.zret (v := r_1) (ty := .boolean) hx hb hr (isB.n h_3) (fun t ht hW => ⟨⟨_, σ_2, rfl, hw, by rw [ht]; exact hP, va_K.moved hW.alike hK, hD⟩, hS.F ht⟩) hS.2.2 dX8_type_9 hlk
set_option maxHeartbeats 4000000 in
set_option maxRecDepth 100000 in
theorem met_X8_type {l : Launch} {E : EnvT} (vE : EnvOk E) {D : va_G} {cA : Nat → ClassId} {aE ad : Nat → Nat} {σ : XS} {aK aV : Nat → Nat} {aO : Nat} (vM : eXs aK aV aE aO E) {sz : Nat} {x1 : Int64} {x3 : Int32} {post : Int32 → XS → Prop} (hw : wp_X8_type post x1 x3 σ) : Met l yX8_type wgX8_type rm_X8_type (va_Pc [.ref (ad 0), .long x1, .int x3] (xPre E D cA aE ad sz σ)) (va_Qi post (xAt D cA aE ad (va_A (xW cA aE ad σ) sz)) (va_A (xW cA aE ad σ) sz)) 0 0 (va_A (xW cA aE ad σ) sz) := by
  refine Met.ofW (cc := cX8_type) (maxL := 4) (ret := (some .boolean)) (by decide +kernel) rfl ?_
  intro p e s m args below meth c s₁ B hml hv
  obtain ⟨rfl, hsz, hP, hK, hD0, hE⟩ := hv
  subst hsz
  have hD := hD0.self (sz := s.heap.size)
  generalize hAe : va_A (xW cA aE ad σ) s.heap.size = A at hD hE ⊢
  have hA : ∀ q : Nat, s.heap.size ≤ q → A q := fun q h => by rw [← hAe]; exact Or.inr h
  have hS : va_S A s.heap s.heap [] := va_S.rf
  have C : xCx p s m _ meth c cX8_type 4 (some .boolean) wgX8_type RX8 E D cA A := ⟨B.exec, B.bytes, hml, B.returns, findClass_of_methodNamed B.named, atoms_spec (ws := wgX8_type) B.pre, hK, hA, B.notSynchronized, hE, vE⟩
  have hG : xG D cA aE ad A s σ s.heap [] := ⟨hP, hD, hS⟩
  have hl := lv_entry ([.ref (ad 0), .long x1, .int x3]) (n := 4) (Nat.le_of_ble_eq_true rfl)
  rw [lg_entry_eq]
  generalize (lg_sl ([.ref (ad 0), .long x1, .int x3]) ++ List.replicate (4 - (lg_sl ([.ref (ad 0), .long x1, .int x3])).length) Slot.unset).toArray = ls at hl ⊢
  have hl : lv_has ls 4 [(0, .ref (ad 0)), (1, .long x1), (3, .int x3)] := hl
  exact k_X8_type C vM x1 x3 σ _ _ _ hG hl hw
/-! ===== X8_compile K ===== -/
def rm_X8_compile : Room := { frames := 8, cells := 1, slots := 6, locals := 182 }
abbrev wgX8_compile : List Cond := .code yX8_compile cX8_compile 2 (some .int) :: TB
def wp_X8_compile (post : Int32 → XS → Prop) (postX : XS → Prop) (σ : XS) : Prop :=
  wp_X3_parse (fun r_1 σ_2 => (r_1 = 0 → (postX (yI σ_2 0 0))) ∧ (¬ r_1 = 0 → (wp_X0_become (fun σ_4 => wp_X1_become_names (fun σ_6 => post (xI σ_6 8) σ_6) σ_4) (xI σ_2 1) (yI σ_2 0 0)))) σ
set_option maxHeartbeats 4000000 in
set_option maxRecDepth 100000 in
theorem k_X8_compile {p : Program} {l : Launch} {e : Env} {s : State} {m : MethodId} {args : Array Value} {below : List Frame} {meth : Method} {c : Code} {A : Nat → Prop} {E : EnvT} {aK aV : Nat → Nat} {aO : Nat} {D : va_G} {cA : Nat → ClassId} {aE ad : Nat → Nat} (C : xCx p s m args meth c cX8_compile 2 (some .int) wgX8_compile RX8 E D cA A) (vM : eXs aK aV aE aO E) (hst : l.stackTraces = false) (hnt : ∀ x ∈ c.exceptionTable.toList, False) {post : Int32 → XS → Prop} {postX : XS → Prop} :
    ∀ (σ : XS) (H : Heap) (locs : List Loc) (ls : Array Slot), xG D cA aE ad A s σ H locs → lv_has ls 2 [(0, .ref (ad 0))] → wp_X8_compile post postX σ → W p l e rm_X8_compile s m args below meth c H locs 0 0 (vx_MQ below (va_Qi post (xAt D cA aE ad A) A) (vx_X postX (fun En u t => En = "java/lang/IllegalArgumentException" ∧ xAt D cA aE ad A u t) A) args s 1 6 A) (F0 m 0 ls []) := by
  obtain ⟨hx, hb, hml, hr, hown, hts, hK, hA, hlk, hE, vE⟩ := id C
  intro σ H locs ls hG hl hw
  obtain ⟨hP, hD, hS⟩ := id hG
  refine lv_aload_n hx hb dX8_compile_0 rfl (lv_at hl 0 rfl) ?_
  refine va_get (D := D) (ci := 10) (v := .ref (ad 3)) (C := RX8) (T := TX8) (N := 6) hx hb hts (in_tb inX8) hown hK hP 0 rfl rfl 1 (by decide) (hts _ (List.mem_cons_of_mem _ tw_1_225)) (fun _ h9 => h9) rfl dX8_compile_1 ?_
  refine xV_i (As := []) (rest := []) C (met_X3_parse vE vM hw) (va_recv hK hP (ci := 5) (q0 := 3) rfl rfl) (cwV 0 hts (TB_G (TB_4 tw_4_151 tw_4_152 tw_4_153 tw_1_3) tw_4_154) rfl rfl rfl (by decide +kernel) ⟨by decide, by decide⟩) hP hD hS rfl hl.1 rfl (Nat.le_of_ble_eq_true rfl) dX8_compile_4 ⟨by decide, by decide⟩ (fun r_1 σ_2 H locs hw hP hD hS => ?_)
  have hG : xG D cA aE ad A s σ_2 H locs := ⟨hP, hD, hS⟩
  refine lv_istore_n (lv' := [(1, .int r_1), (0, .ref (ad 0))]) hx hb dX8_compile_7 rfl hl (by decide) rfl (fun ls hl => ?_)
  refine lv_aload_n hx hb dX8_compile_8 rfl (lv_at hl 1 rfl) ?_
  refine va_get (D := D) (ci := 10) (v := .ref (ad 1)) (C := RX8) (T := TX8) (N := 6) hx hb hts (in_tb inX8) hown hK hP 0 rfl rfl 0 (by decide) (hts _ (List.mem_cons_of_mem _ tw_1_224)) (fun _ h9 => h9) rfl dX8_compile_9 ?_
  refine lv_iconst (v := 0) hx hb dX8_compile_12 (by decide) ?_
  refine va_put (D := D) (ci := 7) (v := .int 0) (ty := .int) (C := RX5) (T := TX5) (N := 2) hx hb hts (in_tb inX5) tyX5 tyX5_ok nmX5 hown hK hP hD hS 1 rfl rfl 1 (by decide) (hts _ (List.mem_cons_of_mem _ tw_1_48)) (fun _ h9 => h9) rfl (by decide +kernel) rfl rfl (Nat.le_of_ble_eq_true rfl) dX8_compile_13 (fun H locs hP hD hS => ?_)
  have hG : xG D cA aE ad A s (yI σ_2 0 0) H locs := ⟨hP, hD, hS⟩
  obtain ⟨hP, hD, hS⟩ := id hG
  refine lv_iload_n hx hb dX8_compile_16 rfl (lv_at hl 0 rfl) ?_
  refine lv_if_ne (tgt := 30) hx hb dX8_compile_17 (by decide) (fun q_ => ?_) (fun q_ => ?_)
  · have hw := hw.2 q_
    refine lv_aload_n hx hb dX8_compile_30 rfl (lv_at hl 1 rfl) ?_
    refine va_get (D := D) (ci := 10) (v := .ref (ad 17)) (C := RX8) (T := TX8) (N := 6) hx hb hts (in_tb inX8) hown hK hP 0 rfl rfl 3 (by decide) (hts _ (List.mem_cons_of_mem _ tw_1_227)) (fun _ h9 => h9) rfl dX8_compile_31 ?_
    refine lv_aload_n hx hb dX8_compile_34 rfl (lv_at hl 1 rfl) ?_
    refine va_get (D := D) (ci := 10) (v := .ref (ad 3)) (C := RX8) (T := TX8) (N := 6) hx hb hts (in_tb inX8) hown hK hP 0 rfl rfl 1 (by decide) (hts _ (List.mem_cons_of_mem _ tw_1_225)) (fun _ h9 => h9) rfl dX8_compile_35 ?_
    refine va_get (D := D) (ci := 5) (v := .ref (ad 13)) (C := RX3) (T := TX3) (N := 8) hx hb hts (in_tb inX3) hown hK hP 3 rfl rfl 4 (by decide) (hts _ (List.mem_cons_of_mem _ tw_1_116)) (fun _ h9 => h9) rfl dX8_compile_38 ?_
    refine lv_aload_n hx hb dX8_compile_41 rfl (lv_at hl 1 rfl) ?_
    refine va_get (D := D) (ci := 10) (v := .ref (ad 3)) (C := RX8) (T := TX8) (N := 6) hx hb hts (in_tb inX8) hown hK hP 0 rfl rfl 1 (by decide) (hts _ (List.mem_cons_of_mem _ tw_1_225)) (fun _ h9 => h9) rfl dX8_compile_42 ?_
    refine va_get (D := D) (ci := 5) (v := .int (xI σ_2 1)) (C := RX3) (T := TX3) (N := 8) hx hb hts (in_tb inX3) hown hK hP 3 rfl rfl 5 (by decide) (hts _ (List.mem_cons_of_mem _ tw_1_118)) (fun _ h9 => h9) rfl dX8_compile_45 ?_
    refine xV_v (As := [.ref (ad 13), .int (xI σ_2 1)]) (rest := []) C (met_X0_become vE vM hw) (va_recv hK hP (ci := 2) (q0 := 17) rfl rfl) (cwV 2 hts (TB_G (TB_4 tw_5_62 tw_5_63 tw_5_64 tw_1_6) tw_5_65) rfl rfl rfl (by decide +kernel) ⟨by decide, by decide⟩) hP hD hS rfl hl.1 rfl (Nat.le_of_ble_eq_true rfl) dX8_compile_48 ⟨by decide, by decide⟩ (fun σ_4 H locs hw hP hD hS => ?_)
    have hG : xG D cA aE ad A s σ_4 H locs := ⟨hP, hD, hS⟩
    refine lv_aload_n hx hb dX8_compile_51 rfl (lv_at hl 1 rfl) ?_
    refine va_get (D := D) (ci := 10) (v := .ref (ad 14)) (C := RX8) (T := TX8) (N := 6) hx hb hts (in_tb inX8) hown hK hP 0 rfl rfl 2 (by decide) (hts _ (List.mem_cons_of_mem _ tw_1_226)) (fun _ h9 => h9) rfl dX8_compile_52 ?_
    refine lv_aload_n hx hb dX8_compile_55 rfl (lv_at hl 1 rfl) ?_
    refine va_get (D := D) (ci := 10) (v := .ref (ad 3)) (C := RX8) (T := TX8) (N := 6) hx hb hts (in_tb inX8) hown hK hP 0 rfl rfl 1 (by decide) (hts _ (List.mem_cons_of_mem _ tw_1_225)) (fun _ h9 => h9) rfl dX8_compile_56 ?_
    refine va_get (D := D) (ci := 5) (v := .ref (ad 10)) (C := RX3) (T := TX3) (N := 8) hx hb hts (in_tb inX3) hown hK hP 3 rfl rfl 3 (by decide) (hts _ (List.mem_cons_of_mem _ tw_1_114)) (fun _ h9 => h9) rfl dX8_compile_59 ?_
    refine xV_v (As := [.ref (ad 10)]) (rest := []) C (met_X1_become_names vE vM hw) (va_recv hK hP (ci := 3) (q0 := 14) rfl rfl) (cwV 1 hts (TB_G (TB_4 tw_5_67 tw_5_68 tw_5_69 tw_1_4) tw_5_70) rfl rfl rfl (by decide +kernel) ⟨by decide, by decide⟩) hP hD hS rfl hl.1 rfl (Nat.le_of_ble_eq_true rfl) dX8_compile_62 ⟨by decide, by decide⟩ (fun σ_6 H locs hw hP hD hS => ?_)
    have hG : xG D cA aE ad A s σ_6 H locs := ⟨hP, hD, hS⟩
    refine lv_aload_n hx hb dX8_compile_65 rfl (lv_at hl 1 rfl) ?_
    refine va_get (D := D) (ci := 10) (v := .ref (ad 17)) (C := RX8) (T := TX8) (N := 6) hx hb hts (in_tb inX8) hown hK hP 0 rfl rfl 3 (by decide) (hts _ (List.mem_cons_of_mem _ tw_1_227)) (fun _ h9 => h9) rfl dX8_compile_66 ?_
    refine va_get (D := D) (ci := 2) (v := .int (xI σ_6 8)) (C := RX0) (T := TX0) (N := 5) hx hb hts (in_tb inX0) hown hK hP 17 rfl rfl 4 (by decide) (hts _ (List.mem_cons_of_mem _ tw_1_158)) (fun _ h9 => h9) rfl dX8_compile_69 ?_
    refine vx_ret ?_
    refine W.widen (k := 1) (n := 6) (by decide) (by decide) ?_
    exact W.iret (v := xI σ_6 8) hx hb hr (fun t ht hW => ⟨⟨_, σ_6, rfl, hw, by rw [ht]; exact hP, va_K.moved hW.alike hK, hD⟩, hS.F ht⟩) hS.2.2 dX8_compile_72 hlk
  · have hw := hw.1 q_
    exact vx_throwS (own := RX8) (cls := "java/lang/IllegalArgumentException") (names := ["java/lang/RuntimeException", "java/lang/Exception"]) (ik := 67) (is := 69) (ic := 71) (sa := aK 72) hx hb hst hown (by decide) (by decide) (hts _ (List.mem_cons_of_mem _ tw_5_59)) (hts _ (List.mem_cons_of_mem _ tw_1_23)) (eX.ms_69 (vM _ _ _ hE)) (atI hts (eX.ngI (vM _ _ _ hE))) gdI_67 (eX.st1 (vM _ _ _ hE)) (eX.st2 (vM _ _ _ hE)) hS (hl.1.trans hml.symm) dX8_compile_20 dX8_compile_23 dX8_compile_24 dX8_compile_26 dX8_compile_29 (fun x hx9 => (hnt x hx9).elim) (by decide) (Nat.le_of_ble_eq_true rfl) (by decide) (by decide) hlk (fun t hvm hz hk => ⟨(yI σ_2 0 0), hw, ⟨rfl, hP.kept (fun k q hq => hk q.1 (hP k q hq).lt), va_K.moved hvm hK, hD⟩, Nat.le_trans hS.1 hz, fun q h1 h2 => (hk q (Nat.lt_of_lt_of_le h1 hS.1)).trans (hS.2.1 q h1 h2)⟩) hS.2.2 (by decide) (by decide)
set_option maxHeartbeats 4000000 in
set_option maxRecDepth 100000 in
theorem met_X8_compile {l : Launch} {E : EnvT} (vE : EnvOk E) {D : va_G} {cA : Nat → ClassId} {aE ad : Nat → Nat} {σ : XS} {aK aV : Nat → Nat} {aO : Nat} (vM : eXs aK aV aE aO E) (hst : l.stackTraces = false) {sz : Nat} {post : Int32 → XS → Prop} {postX : XS → Prop} (hw : wp_X8_compile post postX σ) : vx_Met l yX8_compile wgX8_compile rm_X8_compile (va_Pc [.ref (ad 0)] (xPre E D cA aE ad sz σ)) (va_Qi post (xAt D cA aE ad (va_A (xW cA aE ad σ) sz)) (va_A (xW cA aE ad σ) sz)) (vx_X postX (fun En u t => En = "java/lang/IllegalArgumentException" ∧ xAt D cA aE ad (va_A (xW cA aE ad σ) sz) u t) (va_A (xW cA aE ad σ) sz)) 1 6 (va_A (xW cA aE ad σ) sz) := by
  refine vx_ofW (cc := cX8_compile) (maxL := 2) (ret := (some .int)) (by decide +kernel) rfl ?_
  intro p e s m args below meth c s₁ B hml hnt hv
  obtain ⟨rfl, hsz, hP, hK, hD0, hE⟩ := hv
  subst hsz
  have hD := hD0.self (sz := s.heap.size)
  generalize hAe : va_A (xW cA aE ad σ) s.heap.size = A at hD hE ⊢
  have hA : ∀ q : Nat, s.heap.size ≤ q → A q := fun q h => by rw [← hAe]; exact Or.inr h
  have hS : va_S A s.heap s.heap [] := va_S.rf
  have C : xCx p s m _ meth c cX8_compile 2 (some .int) wgX8_compile RX8 E D cA A := ⟨B.exec, B.bytes, hml, B.returns, findClass_of_methodNamed B.named, atoms_spec (ws := wgX8_compile) B.pre, hK, hA, B.notSynchronized, hE, vE⟩
  have hG : xG D cA aE ad A s σ s.heap [] := ⟨hP, hD, hS⟩
  have hl := lv_entry ([.ref (ad 0)]) (n := 2) (Nat.le_of_ble_eq_true rfl)
  rw [lg_entry_eq]
  generalize (lg_sl ([.ref (ad 0)]) ++ List.replicate (2 - (lg_sl ([.ref (ad 0)])).length) Slot.unset).toArray = ls at hl ⊢
  have hl : lv_has ls 2 [(0, .ref (ad 0))] := hl
  exact k_X8_compile C vM hst hnt σ _ _ _ hG hl hw
/-! ===== X8_fault K ===== -/
def rm_X8_fault : Room := { frames := 0, cells := 0, slots := 0, locals := 0 }
abbrev wgX8_fault : List Cond := .code yX8_fault cX8_fault 2 (some .int) :: TB
def wB_X8_fault_28 (post : Int32 → XS → Prop) (t0 : Int32) (σ : XS) : Prop :=
  post t0 σ
def wp_X8_fault (post : Int32 → XS → Prop) (x1 : Int32) (σ : XS) : Prop :=
  (x1 = 0 → (post (xI σ 2) σ)) ∧ (¬ x1 = 0 → ((x1 = 1 → (wB_X8_fault_28 post (xI σ 3) σ)) ∧ (¬ x1 = 1 → (wB_X8_fault_28 post (-1) σ))))
set_option maxHeartbeats 4000000 in
set_option maxRecDepth 100000 in
theorem kB_X8_fault_28 {p : Program} {l : Launch} {e : Env} {s : State} {m : MethodId} {args : Array Value} {below : List Frame} {meth : Method} {c : Code} {A : Nat → Prop} {E : EnvT} {aK aV : Nat → Nat} {aO : Nat} {D : va_G} {cA : Nat → ClassId} {aE ad : Nat → Nat} (C : xCx p s m args meth c cX8_fault 2 (some .int) wgX8_fault RX8 E D cA A) (vM : eXs aK aV aE aO E) {post : Int32 → XS → Prop} :
    ∀ (t0 : Int32) (σ : XS) (H : Heap) (locs : List Loc) (ls : Array Slot), xG D cA aE ad A s σ H locs → lv_has ls 2 [] → wB_X8_fault_28 post t0 σ → W p l e rm_X8_fault s m args below meth c H locs 0 0 (MQ below (va_Qi post (xAt D cA aE ad A) A) args s 0 0 A) (F0 m 28 ls [.int t0]) := by
  obtain ⟨hx, hb, hml, hr, hown, hts, hK, hA, hlk, hE, vE⟩ := id C
  intro t0 σ H locs ls hG hl hw
  obtain ⟨hP, hD, hS⟩ := id hG
  exact W.iret (v := t0) hx hb hr (fun t ht hW => ⟨⟨_, σ, rfl, hw, by rw [ht]; exact hP, va_K.moved hW.alike hK, hD⟩, hS.F ht⟩) hS.2.2 dX8_fault_28 hlk
set_option maxHeartbeats 4000000 in
set_option maxRecDepth 100000 in
theorem k_X8_fault {p : Program} {l : Launch} {e : Env} {s : State} {m : MethodId} {args : Array Value} {below : List Frame} {meth : Method} {c : Code} {A : Nat → Prop} {E : EnvT} {aK aV : Nat → Nat} {aO : Nat} {D : va_G} {cA : Nat → ClassId} {aE ad : Nat → Nat} (C : xCx p s m args meth c cX8_fault 2 (some .int) wgX8_fault RX8 E D cA A) (vM : eXs aK aV aE aO E) {post : Int32 → XS → Prop} :
    ∀ (x1 : Int32) (σ : XS) (H : Heap) (locs : List Loc) (ls : Array Slot), xG D cA aE ad A s σ H locs → lv_has ls 2 [(0, .ref (ad 0)), (1, .int x1)] → wp_X8_fault post x1 σ → W p l e rm_X8_fault s m args below meth c H locs 0 0 (MQ below (va_Qi post (xAt D cA aE ad A) A) args s 0 0 A) (F0 m 0 ls []) := by
  obtain ⟨hx, hb, hml, hr, hown, hts, hK, hA, hlk, hE, vE⟩ := id C
  intro x1 σ H locs ls hG hl hw
  obtain ⟨hP, hD, hS⟩ := id hG
  refine lv_iload_n hx hb dX8_fault_0 rfl (lv_at hl 1 rfl) ?_
  refine lv_if_ne (tgt := 12) hx hb dX8_fault_1 (by decide) (fun q_ => ?_) (fun q_ => ?_)
  · have hw := hw.2 q_
    refine lv_iload_n hx hb dX8_fault_12 rfl (lv_at hl 1 rfl) ?_
    refine lv_iconst (v := 1) hx hb dX8_fault_13 (by decide) ?_
    refine lv_icmp_ne (tgt := 27) hx hb dX8_fault_14 (by decide) (fun q_ => ?_) (fun q_ => ?_)
    · have hw := hw.2 q_
      refine lv_iconst (v := (-1)) hx hb dX8_fault_27 (by decide) ?_
      exact kB_X8_fault_28 C vM (-1) σ _ _ _ hG (lv_sub hl [] rfl) hw
    · have hw := hw.1 q_
      refine lv_aload_n hx hb dX8_fault_17 rfl (lv_at hl 0 rfl) ?_
      refine va_get (D := D) (ci := 10) (v := .ref (ad 3)) (C := RX8) (T := TX8) (N := 6) hx hb hts (in_tb inX8) hown hK hP 0 rfl rfl 1 (by decide) (hts _ (List.mem_cons_of_mem _ tw_1_225)) (fun _ h9 => h9) rfl dX8_fault_18 ?_
      refine va_get (D := D) (ci := 5) (v := .int (xI σ 3)) (C := RX3) (T := TX3) (N := 8) hx hb hts (in_tb inX3) hown hK hP 3 rfl rfl 7 (by decide) (hts _ (List.mem_cons_of_mem _ tw_1_122)) (fun _ h9 => h9) rfl dX8_fault_21 ?_
      refine lv_goto (tgt := 28) hx hb dX8_fault_24 (by decide) ?_
      exact kB_X8_fault_28 C vM (xI σ 3) σ _ _ _ hG (lv_sub hl [] rfl) hw
  · have hw := hw.1 q_
    refine lv_aload_n hx hb dX8_fault_4 rfl (lv_at hl 0 rfl) ?_
    refine va_get (D := D) (ci := 10) (v := .ref (ad 3)) (C := RX8) (T := TX8) (N := 6) hx hb hts (in_tb inX8) hown hK hP 0 rfl rfl 1 (by decide) (hts _ (List.mem_cons_of_mem _ tw_1_225)) (fun _ h9 => h9) rfl dX8_fault_5 ?_
    refine va_get (D := D) (ci := 5) (v := .int (xI σ 2)) (C := RX3) (T := TX3) (N := 8) hx hb hts (in_tb inX3) hown hK hP 3 rfl rfl 6 (by decide) (hts _ (List.mem_cons_of_mem _ tw_1_120)) (fun _ h9 => h9) rfl dX8_fault_8 ?_
    exact W.iret (v := xI σ 2) hx hb hr (fun t ht hW => ⟨⟨_, σ, rfl, hw, by rw [ht]; exact hP, va_K.moved hW.alike hK, hD⟩, hS.F ht⟩) hS.2.2 dX8_fault_11 hlk
set_option maxHeartbeats 4000000 in
set_option maxRecDepth 100000 in
theorem met_X8_fault {l : Launch} {E : EnvT} (vE : EnvOk E) {D : va_G} {cA : Nat → ClassId} {aE ad : Nat → Nat} {σ : XS} {aK aV : Nat → Nat} {aO : Nat} (vM : eXs aK aV aE aO E) {sz : Nat} {x1 : Int32} {post : Int32 → XS → Prop} (hw : wp_X8_fault post x1 σ) : Met l yX8_fault wgX8_fault rm_X8_fault (va_Pc [.ref (ad 0), .int x1] (xPre E D cA aE ad sz σ)) (va_Qi post (xAt D cA aE ad (va_A (xW cA aE ad σ) sz)) (va_A (xW cA aE ad σ) sz)) 0 0 (va_A (xW cA aE ad σ) sz) := by
  refine Met.ofW (cc := cX8_fault) (maxL := 2) (ret := (some .int)) (by decide +kernel) rfl ?_
  intro p e s m args below meth c s₁ B hml hv
  obtain ⟨rfl, hsz, hP, hK, hD0, hE⟩ := hv
  subst hsz
  have hD := hD0.self (sz := s.heap.size)
  generalize hAe : va_A (xW cA aE ad σ) s.heap.size = A at hD hE ⊢
  have hA : ∀ q : Nat, s.heap.size ≤ q → A q := fun q h => by rw [← hAe]; exact Or.inr h
  have hS : va_S A s.heap s.heap [] := va_S.rf
  have C : xCx p s m _ meth c cX8_fault 2 (some .int) wgX8_fault RX8 E D cA A := ⟨B.exec, B.bytes, hml, B.returns, findClass_of_methodNamed B.named, atoms_spec (ws := wgX8_fault) B.pre, hK, hA, B.notSynchronized, hE, vE⟩
  have hG : xG D cA aE ad A s σ s.heap [] := ⟨hP, hD, hS⟩
  have hl := lv_entry ([.ref (ad 0), .int x1]) (n := 2) (Nat.le_of_ble_eq_true rfl)
  rw [lg_entry_eq]
  generalize (lg_sl ([.ref (ad 0), .int x1]) ++ List.replicate (2 - (lg_sl ([.ref (ad 0), .int x1])).length) Slot.unset).toArray = ls at hl ⊢
  have hl : lv_has ls 2 [(0, .ref (ad 0)), (1, .int x1)] := hl
  exact k_X8_fault C vM x1 σ _ _ _ hG hl hw
/-! ===== X8_set K ===== -/
def rm_X8_set : Room := { frames := 7, cells := 0, slots := 0, locals := 159 }
abbrev wgX8_set : List Cond := .code yX8_set cX8_set 4 (some .boolean) :: TB
def wB_X8_set_21 (post : Int32 → XS → Prop) (σ : XS) : Prop :=
  post 0 σ
def wp_X8_set (post : Int32 → XS → Prop) (x1 : Int32) (x2 : Int64) (σ : XS) : Prop :=
  (x1 < 0 → (wB_X8_set_21 post σ)) ∧ (¬ x1 < 0 → (((xI σ 8) < x1 → (wB_X8_set_21 post σ)) ∧ (¬ (xI σ 8) < x1 → ((x1 < 64 → (wp_X0_put (fun σ_2 => post 1 σ_2) x1 x2 σ)) ∧ (¬ x1 < 64 → (wB_X8_set_21 post σ))))))
set_option maxHeartbeats 4000000 in
set_option maxRecDepth 100000 in
theorem kB_X8_set_21 {p : Program} {l : Launch} {e : Env} {s : State} {m : MethodId} {args : Array Value} {below : List Frame} {meth : Method} {c : Code} {A : Nat → Prop} {E : EnvT} {aK aV : Nat → Nat} {aO : Nat} {D : va_G} {cA : Nat → ClassId} {aE ad : Nat → Nat} (C : xCx p s m args meth c cX8_set 4 (some .boolean) wgX8_set RX8 E D cA A) (vM : eXs aK aV aE aO E) {post : Int32 → XS → Prop} :
    ∀ (σ : XS) (H : Heap) (locs : List Loc) (ls : Array Slot), xG D cA aE ad A s σ H locs → lv_has ls 4 [] → wB_X8_set_21 post σ → W p l e rm_X8_set s m args below meth c H locs 0 0 (MQ below (va_Qi post (xAt D cA aE ad A) A) args s 0 0 A) (F0 m 21 ls []) := by
  obtain ⟨hx, hb, hml, hr, hown, hts, hK, hA, hlk, hE, vE⟩ := id C
  intro σ H locs ls hG hl hw
  obtain ⟨hP, hD, hS⟩ := id hG
  refine lv_iconst (v := 0) hx hb dX8_set_21 (by decide) ?_
  exact W.zret (v := 0) (ty := .boolean) hx hb hr rfl (fun t ht hW => ⟨⟨_, σ, rfl, hw, by rw [ht]; exact hP, va_K.moved hW.alike hK, hD⟩, hS.F ht⟩) hS.2.2 dX8_set_22 hlk
set_option maxHeartbeats 4000000 in
set_option maxRecDepth 100000 in
theorem k_X8_set {p : Program} {l : Launch} {e : Env} {s : State} {m : MethodId} {args : Array Value} {below : List Frame} {meth : Method} {c : Code} {A : Nat → Prop} {E : EnvT} {aK aV : Nat → Nat} {aO : Nat} {D : va_G} {cA : Nat → ClassId} {aE ad : Nat → Nat} (C : xCx p s m args meth c cX8_set 4 (some .boolean) wgX8_set RX8 E D cA A) (vM : eXs aK aV aE aO E) {post : Int32 → XS → Prop} :
    ∀ (x1 : Int32) (x2 : Int64) (σ : XS) (H : Heap) (locs : List Loc) (ls : Array Slot), xG D cA aE ad A s σ H locs → lv_has ls 4 [(0, .ref (ad 0)), (1, .int x1), (2, .long x2)] → wp_X8_set post x1 x2 σ → W p l e rm_X8_set s m args below meth c H locs 0 0 (MQ below (va_Qi post (xAt D cA aE ad A) A) args s 0 0 A) (F0 m 0 ls []) := by
  obtain ⟨hx, hb, hml, hr, hown, hts, hK, hA, hlk, hE, vE⟩ := id C
  intro x1 x2 σ H locs ls hG hl hw
  obtain ⟨hP, hD, hS⟩ := id hG
  refine lv_iload_n hx hb dX8_set_0 rfl (lv_at hl 1 rfl) ?_
  refine lv_if_lt (tgt := 21) hx hb dX8_set_1 (by decide) (fun q_ => ?_) (fun q_ => ?_)
  · have hw := hw.1 q_
    exact kB_X8_set_21 C vM  σ _ _ _ hG (lv_sub hl [] rfl) hw
  · have hw := hw.2 q_
    refine lv_iload_n hx hb dX8_set_4 rfl (lv_at hl 1 rfl) ?_
    refine lv_aload_n hx hb dX8_set_5 rfl (lv_at hl 0 rfl) ?_
    refine va_get (D := D) (ci := 10) (v := .ref (ad 17)) (C := RX8) (T := TX8) (N := 6) hx hb hts (in_tb inX8) hown hK hP 0 rfl rfl 3 (by decide) (hts _ (List.mem_cons_of_mem _ tw_1_227)) (fun _ h9 => h9) rfl dX8_set_6 ?_
    refine va_get (D := D) (ci := 2) (v := .int (xI σ 8)) (C := RX0) (T := TX0) (N := 5) hx hb hts (in_tb inX0) hown hK hP 17 rfl rfl 4 (by decide) (hts _ (List.mem_cons_of_mem _ tw_1_158)) (fun _ h9 => h9) rfl dX8_set_9 ?_
    refine lv_icmp_gt (tgt := 21) hx hb dX8_set_12 (by decide) (fun q_ => ?_) (fun q_ => ?_)
    · have hw := hw.1 q_
      exact kB_X8_set_21 C vM  σ _ _ _ hG (lv_sub hl [] rfl) hw
    · have hw := hw.2 q_
      refine lv_iload_n hx hb dX8_set_15 rfl (lv_at hl 1 rfl) ?_
      refine lv_bipush (v := 64) hx hb dX8_set_16 (by decide) ?_
      refine lv_icmp_lt (tgt := 23) hx hb dX8_set_18 (by decide) (fun q_ => ?_) (fun q_ => ?_)
      · have hw := hw.1 q_
        refine lv_aload_n hx hb dX8_set_23 rfl (lv_at hl 0 rfl) ?_
        refine va_get (D := D) (ci := 10) (v := .ref (ad 17)) (C := RX8) (T := TX8) (N := 6) hx hb hts (in_tb inX8) hown hK hP 0 rfl rfl 3 (by decide) (hts _ (List.mem_cons_of_mem _ tw_1_227)) (fun _ h9 => h9) rfl dX8_set_24 ?_
        refine lv_iload_n hx hb dX8_set_27 rfl (lv_at hl 1 rfl) ?_
        refine lv_lload_n hx hb dX8_set_28 rfl (lv_at hl 2 rfl) ?_
        refine xV_v (As := [.int x1, .long x2]) (rest := []) C (met_X0_put vE vM hw) (va_recv hK hP (ci := 2) (q0 := 17) rfl rfl) (cwV 2 hts (TB_G (TB_4 tw_2_23 tw_2_24 tw_2_25 tw_1_6) tw_2_26) rfl rfl rfl (by decide +kernel) ⟨by decide, by decide⟩) hP hD hS rfl hl.1 rfl (Nat.le_of_ble_eq_true rfl) dX8_set_29 ⟨by decide, by decide⟩ (fun σ_2 H locs hw hP hD hS => ?_)
        have hG : xG D cA aE ad A s σ_2 H locs := ⟨hP, hD, hS⟩
        refine lv_iconst (v := 1) hx hb dX8_set_32 (by decide) ?_
        exact W.zret (v := 1) (ty := .boolean) hx hb hr rfl (fun t ht hW => ⟨⟨_, σ_2, rfl, hw, by rw [ht]; exact hP, va_K.moved hW.alike hK, hD⟩, hS.F ht⟩) hS.2.2 dX8_set_33 hlk
      · have hw := hw.2 q_
        exact kB_X8_set_21 C vM  σ _ _ _ hG (lv_sub hl [] rfl) hw
set_option maxHeartbeats 4000000 in
set_option maxRecDepth 100000 in
theorem met_X8_set {l : Launch} {E : EnvT} (vE : EnvOk E) {D : va_G} {cA : Nat → ClassId} {aE ad : Nat → Nat} {σ : XS} {aK aV : Nat → Nat} {aO : Nat} (vM : eXs aK aV aE aO E) {sz : Nat} {x1 : Int32} {x2 : Int64} {post : Int32 → XS → Prop} (hw : wp_X8_set post x1 x2 σ) : Met l yX8_set wgX8_set rm_X8_set (va_Pc [.ref (ad 0), .int x1, .long x2] (xPre E D cA aE ad sz σ)) (va_Qi post (xAt D cA aE ad (va_A (xW cA aE ad σ) sz)) (va_A (xW cA aE ad σ) sz)) 0 0 (va_A (xW cA aE ad σ) sz) := by
  refine Met.ofW (cc := cX8_set) (maxL := 4) (ret := (some .boolean)) (by decide +kernel) rfl ?_
  intro p e s m args below meth c s₁ B hml hv
  obtain ⟨rfl, hsz, hP, hK, hD0, hE⟩ := hv
  subst hsz
  have hD := hD0.self (sz := s.heap.size)
  generalize hAe : va_A (xW cA aE ad σ) s.heap.size = A at hD hE ⊢
  have hA : ∀ q : Nat, s.heap.size ≤ q → A q := fun q h => by rw [← hAe]; exact Or.inr h
  have hS : va_S A s.heap s.heap [] := va_S.rf
  have C : xCx p s m _ meth c cX8_set 4 (some .boolean) wgX8_set RX8 E D cA A := ⟨B.exec, B.bytes, hml, B.returns, findClass_of_methodNamed B.named, atoms_spec (ws := wgX8_set) B.pre, hK, hA, B.notSynchronized, hE, vE⟩
  have hG : xG D cA aE ad A s σ s.heap [] := ⟨hP, hD, hS⟩
  have hl := lv_entry ([.ref (ad 0), .int x1, .long x2]) (n := 4) (Nat.le_of_ble_eq_true rfl)
  rw [lg_entry_eq]
  generalize (lg_sl ([.ref (ad 0), .int x1, .long x2]) ++ List.replicate (4 - (lg_sl ([.ref (ad 0), .int x1, .long x2])).length) Slot.unset).toArray = ls at hl ⊢
  have hl : lv_has ls 4 [(0, .ref (ad 0)), (1, .int x1), (2, .long x2)] := hl
  exact k_X8_set C vM x1 x2 σ _ _ _ hG hl hw
/-! ===== X8_word K ===== -/
def rm_X8_word : Room := { frames := 7, cells := 1, slots := 6, locals := 120 }
abbrev wgX8_word : List Cond := .code yX8_word cX8_word 2 (some .long) :: TB
def wp_X8_word (post : Int64 → XS → Prop) (postX : XS → Prop) (x1 : Int32) (σ : XS) : Prop :=
  wp_X0_has (fun r_1 σ_2 => (r_1 = 0 → (postX σ_2)) ∧ (¬ r_1 = 0 → (vp_in x1 64 ∧ (post (xL σ_2 6 x1.toNatClampNeg) σ_2)))) x1 σ
set_option maxHeartbeats 4000000 in
set_option maxRecDepth 100000 in
theorem k_X8_word {p : Program} {l : Launch} {e : Env} {s : State} {m : MethodId} {args : Array Value} {below : List Frame} {meth : Method} {c : Code} {A : Nat → Prop} {E : EnvT} {aK aV : Nat → Nat} {aO : Nat} {D : va_G} {cA : Nat → ClassId} {aE ad : Nat → Nat} (C : xCx p s m args meth c cX8_word 2 (some .long) wgX8_word RX8 E D cA A) (vM : eXs aK aV aE aO E) (hst : l.stackTraces = false) (hnt : ∀ x ∈ c.exceptionTable.toList, False) {post : Int64 → XS → Prop} {postX : XS → Prop} :
    ∀ (x1 : Int32) (σ : XS) (H : Heap) (locs : List Loc) (ls : Array Slot), xG D cA aE ad A s σ H locs → lv_has ls 2 [(0, .ref (ad 0)), (1, .int x1)] → wp_X8_word post postX x1 σ → W p l e rm_X8_word s m args below meth c H locs 0 0 (vx_MQ below (va_Ql post (xAt D cA aE ad A) A) (vx_X postX (fun En u t => En = "java/util/NoSuchElementException" ∧ xAt D cA aE ad A u t) A) args s 1 6 A) (F0 m 0 ls []) := by
  obtain ⟨hx, hb, hml, hr, hown, hts, hK, hA, hlk, hE, vE⟩ := id C
  intro x1 σ H locs ls hG hl hw
  obtain ⟨hP, hD, hS⟩ := id hG
  refine lv_aload_n hx hb dX8_word_0 rfl (lv_at hl 0 rfl) ?_
  refine va_get (D := D) (ci := 10) (v := .ref (ad 17)) (C := RX8) (T := TX8) (N := 6) hx hb hts (in_tb inX8) hown hK hP 0 rfl rfl 3 (by decide) (hts _ (List.mem_cons_of_mem _ tw_1_227)) (fun _ h9 => h9) rfl dX8_word_1 ?_
  refine lv_iload_n hx hb dX8_word_4 rfl (lv_at hl 1 rfl) ?_
  refine xV_i (As := [.int x1]) (rest := []) C (met_X0_has vE vM hw) (va_recv hK hP (ci := 2) (q0 := 17) rfl rfl) (cwV 1 hts (TB_G (TB_4 tw_2_198 tw_2_199 tw_2_200 tw_1_6) tw_2_201) rfl rfl rfl (by decide +kernel) ⟨by decide, by decide⟩) hP hD hS rfl hl.1 rfl (Nat.le_of_ble_eq_true rfl) dX8_word_5 ⟨by decide, by decide⟩ (fun r_1 σ_2 H locs hw hP hD hS => ?_)
  have hG : xG D cA aE ad A s σ_2 H locs := ⟨hP, hD, hS⟩
  refine lv_if_ne (tgt := 21) hx hb dX8_word_8 (by decide) (fun q_ => ?_) (fun q_ => ?_)
  · have hw := hw.2 q_
    refine lv_aload_n hx hb dX8_word_21 rfl (lv_at hl 0 rfl) ?_
    refine va_get (D := D) (ci := 10) (v := .ref (ad 17)) (C := RX8) (T := TX8) (N := 6) hx hb hts (in_tb inX8) hown hK hP 0 rfl rfl 3 (by decide) (hts _ (List.mem_cons_of_mem _ tw_1_227)) (fun _ h9 => h9) rfl dX8_word_22 ?_
    refine va_get (D := D) (ci := 2) (v := .ref (ad 18)) (C := RX0) (T := TX0) (N := 5) hx hb hts (in_tb inX0) hown hK hP 17 rfl rfl 0 (by decide) (hts _ (List.mem_cons_of_mem _ tw_1_151)) (fun _ h9 => h9) rfl dX8_word_25 ?_
    refine lv_iload_n hx hb dX8_word_28 rfl (lv_at hl 1 rfl) ?_
    obtain ⟨h_3, hw⟩ := hw
    refine va_lald hx hb hK hP 18 1 rfl rfl h_3 dX8_word_29 ?_
    refine vx_ret ?_
    refine W.widen (k := 1) (n := 6) (by decide) (by decide) ?_
    exact W.lret (v := xL σ_2 6 x1.toNatClampNeg) hx hb hr (fun t ht hW => ⟨⟨_, σ_2, rfl, hw, by rw [ht]; exact hP, va_K.moved hW.alike hK, hD⟩, hS.F ht⟩) hS.2.2 dX8_word_30 hlk
  · have hw := hw.1 q_
    exact vx_throwN (own := RX8) (ik := 106) (is := 108) (ic := 110) (sa := aK 73) hx hb hst hown (hts _ (List.mem_cons_of_mem _ tw_5_80)) (hts _ (List.mem_cons_of_mem _ tw_1_25)) (eX.ms_108 (vM _ _ _ hE)) (atN_110 hts (eX.ngN (vM _ _ _ hE))) gdN_106 (eX.st1 (vM _ _ _ hE)) (eX.st2 (vM _ _ _ hE)) hS (hl.1.trans hml.symm) dX8_word_11 dX8_word_14 dX8_word_15 dX8_word_17 dX8_word_20 (fun x hx9 => (hnt x hx9).elim) (by decide) (Nat.le_of_ble_eq_true rfl) (by decide) (by decide) hlk (fun t hvm hz hk => ⟨σ_2, hw, ⟨rfl, hP.kept (fun k q hq => hk q.1 (hP k q hq).lt), va_K.moved hvm hK, hD⟩, Nat.le_trans hS.1 hz, fun q h1 h2 => (hk q (Nat.lt_of_lt_of_le h1 hS.1)).trans (hS.2.1 q h1 h2)⟩) hS.2.2 (by decide) (by decide)
set_option maxHeartbeats 4000000 in
set_option maxRecDepth 100000 in
theorem met_X8_word {l : Launch} {E : EnvT} (vE : EnvOk E) {D : va_G} {cA : Nat → ClassId} {aE ad : Nat → Nat} {σ : XS} {aK aV : Nat → Nat} {aO : Nat} (vM : eXs aK aV aE aO E) (hst : l.stackTraces = false) {sz : Nat} {x1 : Int32} {post : Int64 → XS → Prop} {postX : XS → Prop} (hw : wp_X8_word post postX x1 σ) : vx_Met l yX8_word wgX8_word rm_X8_word (va_Pc [.ref (ad 0), .int x1] (xPre E D cA aE ad sz σ)) (va_Ql post (xAt D cA aE ad (va_A (xW cA aE ad σ) sz)) (va_A (xW cA aE ad σ) sz)) (vx_X postX (fun En u t => En = "java/util/NoSuchElementException" ∧ xAt D cA aE ad (va_A (xW cA aE ad σ) sz) u t) (va_A (xW cA aE ad σ) sz)) 1 6 (va_A (xW cA aE ad σ) sz) := by
  refine vx_ofW (cc := cX8_word) (maxL := 2) (ret := (some .long)) (by decide +kernel) rfl ?_
  intro p e s m args below meth c s₁ B hml hnt hv
  obtain ⟨rfl, hsz, hP, hK, hD0, hE⟩ := hv
  subst hsz
  have hD := hD0.self (sz := s.heap.size)
  generalize hAe : va_A (xW cA aE ad σ) s.heap.size = A at hD hE ⊢
  have hA : ∀ q : Nat, s.heap.size ≤ q → A q := fun q h => by rw [← hAe]; exact Or.inr h
  have hS : va_S A s.heap s.heap [] := va_S.rf
  have C : xCx p s m _ meth c cX8_word 2 (some .long) wgX8_word RX8 E D cA A := ⟨B.exec, B.bytes, hml, B.returns, findClass_of_methodNamed B.named, atoms_spec (ws := wgX8_word) B.pre, hK, hA, B.notSynchronized, hE, vE⟩
  have hG : xG D cA aE ad A s σ s.heap [] := ⟨hP, hD, hS⟩
  have hl := lv_entry ([.ref (ad 0), .int x1]) (n := 2) (Nat.le_of_ble_eq_true rfl)
  rw [lg_entry_eq]
  generalize (lg_sl ([.ref (ad 0), .int x1]) ++ List.replicate (2 - (lg_sl ([.ref (ad 0), .int x1])).length) Slot.unset).toArray = ls at hl ⊢
  have hl : lv_has ls 2 [(0, .ref (ad 0)), (1, .int x1)] := hl
  exact k_X8_word C vM hst hnt x1 σ _ _ _ hG hl hw
