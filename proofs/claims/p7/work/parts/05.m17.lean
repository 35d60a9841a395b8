/-! ===== isFirst ===== -/
def rm_X9_isFirst : Room := { frames := 10, cells := 0, slots := 0, locals := 231 }
abbrev wgX9_isFirst : List Cond := .code yX9_isFirst cX9_isFirst 4 (some .boolean) :: TB
def wB_X9_isFirst_49 (post : Int32 → MS → Prop) (k2 : Int32 → Int32 → Int32 → MS → Prop) (x1 : Int32) (x2 : Int32) (x3 : Int32) (σ : MS) : Prop :=
  ∀ x3_1 : Int32, x3_1 = x3 + 1 → k2 x1 x2 x3_1 σ
def wB_X9_isFirst_2 (post : Int32 → MS → Prop) (k2 : Int32 → Int32 → Int32 → MS → Prop) (x1 : Int32) (x2 : Int32) (x3 : Int32) (σ : MS) : Prop :=
  ((mI σ 11) ≤ x3 → (post 1 σ)) ∧ (¬ (mI σ 11) ≤ x3 → ((x3 = x1 → (wB_X9_isFirst_49 post k2 x1 x2 x3 σ)) ∧ (¬ x3 = x1 → ((x3 = x2 → (wB_X9_isFirst_49 post k2 x1 x2 x3 σ)) ∧ (¬ x3 = x2 → (wp_X9_ends (fun r_2 σ_3 => (r_2 = 0 → (wp_X9_spread (fun σ_5 => vp_in x2 64 ∧ (((mA σ_5 31 x2.toNatClampNeg) = 0 → (post 0 σ_5)) ∧ (¬ (mA σ_5 31 x2.toNatClampNeg) = 0 → (wB_X9_isFirst_49 post k2 x1 x2 x3 σ_5)))) x1 x3 σ_3)) ∧ (¬ r_2 = 0 → (wB_X9_isFirst_49 post k2 x1 x2 x3 σ_3))) x1 x3 σ))))))
def wL_X9_isFirst_2 (post : Int32 → MS → Prop) : Nat → Int32 → Int32 → Int32 → MS → Prop
  | 0 => fun _ _ _ _ => False
  | n + 1 => wB_X9_isFirst_2 post (wL_X9_isFirst_2 post n)
def wp_X9_isFirst (post : Int32 → MS → Prop) (x1 : Int32) (x2 : Int32) (σ : MS) : Prop :=
  ∃ n, wL_X9_isFirst_2 post n x1 x2 0 σ
set_option maxHeartbeats 4000000 in
set_option maxRecDepth 100000 in
theorem kB_X9_isFirst_49 {p : Program} {l : Launch} {e : Env} {s : State} {m : MethodId} {args : Array Value} {below : List Frame} {meth : Method} {c : Code} {A : Nat → Prop} {E : EnvT} {aK aV : Nat → Nat} {D : va_G} {cA : Nat → ClassId} {h : Nat} {ad : Nat → Nat} (C : mCx p s m args meth c cX9_isFirst 4 (some .boolean) wgX9_isFirst RX9 E D cA A) (vM : eMs aK aV E) {post : Int32 → MS → Prop}
    {k2 : Int32 → Int32 → Int32 → MS → Prop} (hk2 : ∀ (x1 : Int32) (x2 : Int32) (x3 : Int32) (σ : MS) (H : Heap) (locs : List Loc) (ls : Array Slot), mG D cA h ad A s σ H locs → lv_has ls 4 [(0, .ref h), (1, .int x1), (2, .int x2), (3, .int x3)] → k2 x1 x2 x3 σ → W p l e rm_X9_isFirst s m args below meth c H locs 0 0 (MQ below (va_Qi post (mAt D cA h ad A) A) args s 0 0 A) (F0 m 2 ls [])) :
    ∀ (x1 : Int32) (x2 : Int32) (x3 : Int32) (σ : MS) (H : Heap) (locs : List Loc) (ls : Array Slot), mG D cA h ad A s σ H locs → lv_has ls 4 [(0, .ref h), (1, .int x1), (2, .int x2), (3, .int x3)] → wB_X9_isFirst_49 post k2 x1 x2 x3 σ → W p l e rm_X9_isFirst s m args below meth c H locs 0 0 (MQ below (va_Qi post (mAt D cA h ad A) A) args s 0 0 A) (F0 m 49 ls []) := by
  obtain ⟨hx, hb, hml, hr, hown, hts, hK, hA, hlk, hE, vE⟩ := id C
  intro x1 x2 x3 σ H locs ls hG hl hw
  obtain ⟨hP, hD, hS⟩ := id hG
  obtain ⟨x3_1, ex3_1⟩ : ∃ y : Int32, y = x3 + 1 := ⟨_, rfl⟩
  have hw := hw x3_1 ex3_1
  refine lv_iinc (v := x3_1) (lv' := [(3, .int x3_1), (0, .ref h), (1, .int x1), (2, .int x2)]) hx hb dX9_isFirst_49 hl (k := 3) rfl (by rw [ex3_1]; rfl) (by decide) rfl (fun ls hl => ?_)
  refine lv_goto (tgt := 2) hx hb dX9_isFirst_52 (by decide) ?_
  exact hk2 x1 x2 x3_1 σ _ _ _ hG (lv_sub hl [1, 2, 3, 0] rfl) hw
set_option maxHeartbeats 4000000 in
set_option maxRecDepth 100000 in
theorem kB_X9_isFirst_2 {p : Program} {l : Launch} {e : Env} {s : State} {m : MethodId} {args : Array Value} {below : List Frame} {meth : Method} {c : Code} {A : Nat → Prop} {E : EnvT} {aK aV : Nat → Nat} {D : va_G} {cA : Nat → ClassId} {h : Nat} {ad : Nat → Nat} (C : mCx p s m args meth c cX9_isFirst 4 (some .boolean) wgX9_isFirst RX9 E D cA A) (vM : eMs aK aV E) {post : Int32 → MS → Prop}
    {k2 : Int32 → Int32 → Int32 → MS → Prop} (hk2 : ∀ (x1 : Int32) (x2 : Int32) (x3 : Int32) (σ : MS) (H : Heap) (locs : List Loc) (ls : Array Slot), mG D cA h ad A s σ H locs → lv_has ls 4 [(0, .ref h), (1, .int x1), (2, .int x2), (3, .int x3)] → k2 x1 x2 x3 σ → W p l e rm_X9_isFirst s m args below meth c H locs 0 0 (MQ below (va_Qi post (mAt D cA h ad A) A) args s 0 0 A) (F0 m 2 ls [])) :
    ∀ (x1 : Int32) (x2 : Int32) (x3 : Int32) (σ : MS) (H : Heap) (locs : List Loc) (ls : Array Slot), mG D cA h ad A s σ H locs → lv_has ls 4 [(0, .ref h), (1, .int x1), (2, .int x2), (3, .int x3)] → wB_X9_isFirst_2 post k2 x1 x2 x3 σ → W p l e rm_X9_isFirst s m args below meth c H locs 0 0 (MQ below (va_Qi post (mAt D cA h ad A) A) args s 0 0 A) (F0 m 2 ls []) := by
  obtain ⟨hx, hb, hml, hr, hown, hts, hK, hA, hlk, hE, vE⟩ := id C
  intro x1 x2 x3 σ H locs ls hG hl hw
  obtain ⟨hP, hD, hS⟩ := id hG
  refine lv_iload_n hx hb dX9_isFirst_2 rfl (lv_at hl 3 rfl) ?_
  refine lv_aload_n hx hb dX9_isFirst_3 rfl (lv_at hl 0 rfl) ?_
  refine va_get (D := D) (ci := 11) (v := .int (mI σ 11)) (C := RX9) (T := TX9) (N := 32) hx hb hts (in_tb inX9) hown hK hP 0 rfl rfl 11 (by decide) (hts _ (List.mem_cons_of_mem _ tw_5_121)) (fun _ h9 => h9) rfl dX9_isFirst_4 ?_
  refine lv_icmp_ge (tgt := 55) hx hb dX9_isFirst_7 (by decide) (fun q_ => ?_) (fun q_ => ?_)
  · have hw := hw.1 q_
    refine lv_iconst (v := 1) hx hb dX9_isFirst_55 (by decide) ?_
    exact W.zret (v := 1) (ty := .boolean) hx hb hr rfl (fun t ht hW => ⟨⟨_, σ, rfl, hw, by rw [ht]; exact hP, va_K.moved hW.alike hK, hD⟩, hS.F ht⟩) hS.2.2 dX9_isFirst_56 hlk
  · have hw := hw.2 q_
    refine lv_iload_n hx hb dX9_isFirst_10 rfl (lv_at hl 3 rfl) ?_
    refine lv_iload_n hx hb dX9_isFirst_11 rfl (lv_at hl 1 rfl) ?_
    refine lv_icmp_eq (tgt := 49) hx hb dX9_isFirst_12 (by decide) (fun q_ => ?_) (fun q_ => ?_)
    · have hw := hw.1 q_
      exact kB_X9_isFirst_49 C vM hk2 x1 x2 x3 σ _ _ _ hG (lv_sub hl [0, 1, 2, 3] rfl) hw
    · have hw := hw.2 q_
      refine lv_iload_n hx hb dX9_isFirst_15 rfl (lv_at hl 3 rfl) ?_
      refine lv_iload_n hx hb dX9_isFirst_16 rfl (lv_at hl 2 rfl) ?_
      refine lv_icmp_eq (tgt := 49) hx hb dX9_isFirst_17 (by decide) (fun q_ => ?_) (fun q_ => ?_)
      · have hw := hw.1 q_
        exact kB_X9_isFirst_49 C vM hk2 x1 x2 x3 σ _ _ _ hG (lv_sub hl [0, 1, 2, 3] rfl) hw
      · have hw := hw.2 q_
        refine lv_aload_n hx hb dX9_isFirst_20 rfl (lv_at hl 0 rfl) ?_
        refine lv_iload_n hx hb dX9_isFirst_21 rfl (lv_at hl 1 rfl) ?_
        refine lv_iload_n hx hb dX9_isFirst_22 rfl (lv_at hl 3 rfl) ?_
        refine mV_i (As := [.int x1, .int x3]) (rest := []) C (met_X9_ends vE vM hw) (va_recv hK hP (ci := 11) (q0 := 0) rfl rfl) (cwV 2 hts (TB_G (TB_4 tw_6_199 tw_6_201 ts_55 tw_1_13) tw_6_202) rfl rfl rfl (by decide +kernel) ⟨by decide, by decide⟩) hP hD hS rfl hl.1 rfl (Nat.le_of_ble_eq_true rfl) dX9_isFirst_23 ⟨by decide, by decide⟩ (fun r_2 σ_3 H locs hw hP hD hS => ?_)
        have hG : mG D cA h ad A s σ_3 H locs := ⟨hP, hD, hS⟩
        refine lv_if_eq (tgt := 32) hx hb dX9_isFirst_26 (by decide) (fun q_ => ?_) (fun q_ => ?_)
        · have hw := hw.1 q_
          refine lv_aload_n hx hb dX9_isFirst_32 rfl (lv_at hl 0 rfl) ?_
          refine lv_iload_n hx hb dX9_isFirst_33 rfl (lv_at hl 1 rfl) ?_
          refine lv_iload_n hx hb dX9_isFirst_34 rfl (lv_at hl 3 rfl) ?_
          refine mV_v (As := [.int x1, .int x3]) (rest := []) C (met_X9_spread vE vM hw) (va_recv hK hP (ci := 11) (q0 := 0) rfl rfl) (cwV 2 hts (TB_G (TB_4 tw_6_178 tw_6_180 ts_52 tw_1_13) tw_6_181) rfl rfl rfl (by decide +kernel) ⟨by decide, by decide⟩) hP hD hS rfl hl.1 rfl (Nat.le_of_ble_eq_true rfl) dX9_isFirst_35 ⟨by decide, by decide⟩ (fun σ_5 H locs hw hP hD hS => ?_)
          have hG : mG D cA h ad A s σ_5 H locs := ⟨hP, hD, hS⟩
          refine lv_aload_n hx hb dX9_isFirst_38 rfl (lv_at hl 0 rfl) ?_
          refine va_get (D := D) (ci := 11) (v := .ref (ad 31)) (C := RX9) (T := TX9) (N := 32) hx hb hts (in_tb inX9) hown hK hP 0 rfl rfl 31 (by decide) (hts _ (List.mem_cons_of_mem _ tw_5_141)) (fun _ h9 => h9) rfl dX9_isFirst_39 ?_
          refine lv_iload_n hx hb dX9_isFirst_42 rfl (lv_at hl 2 rfl) ?_
          obtain ⟨h_6, hw⟩ := hw
          refine va_zald hx hb hK hP 17 2 rfl rfl h_6 dX9_isFirst_43 ?_
          refine lv_if_ne (tgt := 49) hx hb dX9_isFirst_44 (by decide) (fun q_ => ?_) (fun q_ => ?_)
          · have hw := hw.2 q_
            exact kB_X9_isFirst_49 C vM hk2 x1 x2 x3 σ_5 _ _ _ hG (lv_sub hl [0, 1, 2, 3] rfl) hw
          · have hw := hw.1 q_
            refine lv_iconst (v := 0) hx hb dX9_isFirst_47 (by decide) ?_
            exact W.zret (v := 0) (ty := .boolean) hx hb hr rfl (fun t ht hW => ⟨⟨_, σ_5, rfl, hw, by rw [ht]; exact hP, va_K.moved hW.alike hK, hD⟩, hS.F ht⟩) hS.2.2 dX9_isFirst_48 hlk
        · have hw := hw.2 q_
          refine lv_goto (tgt := 49) hx hb dX9_isFirst_29 (by decide) ?_
          exact kB_X9_isFirst_49 C vM hk2 x1 x2 x3 σ_3 _ _ _ hG (lv_sub hl [0, 1, 2, 3] rfl) hw
theorem kL_X9_isFirst_2 {p : Program} {l : Launch} {e : Env} {s : State} {m : MethodId} {args : Array Value} {below : List Frame} {meth : Method} {c : Code} {A : Nat → Prop} {E : EnvT} {aK aV : Nat → Nat} {D : va_G} {cA : Nat → ClassId} {h : Nat} {ad : Nat → Nat} (C : mCx p s m args meth c cX9_isFirst 4 (some .boolean) wgX9_isFirst RX9 E D cA A) (vM : eMs aK aV E) {post : Int32 → MS → Prop} :
    ∀ (n : Nat) (x1 : Int32) (x2 : Int32) (x3 : Int32) (σ : MS) (H : Heap) (locs : List Loc) (ls : Array Slot), mG D cA h ad A s σ H locs → lv_has ls 4 [(0, .ref h), (1, .int x1), (2, .int x2), (3, .int x3)] → wL_X9_isFirst_2 post n x1 x2 x3 σ → W p l e rm_X9_isFirst s m args below meth c H locs 0 0 (MQ below (va_Qi post (mAt D cA h ad A) A) args s 0 0 A) (F0 m 2 ls []) := by
  intro n
  induction n with
  | zero => intro x1 x2 x3 σ H locs ls hG hl hw; exact hw.elim
  | succ n ih => exact kB_X9_isFirst_2 C vM ih
set_option maxHeartbeats 4000000 in
set_option maxRecDepth 100000 in
theorem k_X9_isFirst {p : Program} {l : Launch} {e : Env} {s : State} {m : MethodId} {args : Array Value} {below : List Frame} {meth : Method} {c : Code} {A : Nat → Prop} {E : EnvT} {aK aV : Nat → Nat} {D : va_G} {cA : Nat → ClassId} {h : Nat} {ad : Nat → Nat} (C : mCx p s m args meth c cX9_isFirst 4 (some .boolean) wgX9_isFirst RX9 E D cA A) (vM : eMs aK aV E) {post : Int32 → MS → Prop} :
    ∀ (x1 : Int32) (x2 : Int32) (σ : MS) (H : Heap) (locs : List Loc) (ls : Array Slot), mG D cA h ad A s σ H locs → lv_has ls 4 [(0, .ref h), (1, .int x1), (2, .int x2)] → wp_X9_isFirst post x1 x2 σ → W p l e rm_X9_isFirst s m args below meth c H locs 0 0 (MQ below (va_Qi post (mAt D cA h ad A) A) args s 0 0 A) (F0 m 0 ls []) := by
  obtain ⟨hx, hb, hml, hr, hown, hts, hK, hA, hlk, hE, vE⟩ := id C
  intro x1 x2 σ H locs ls hG hl hw
  obtain ⟨hP, hD, hS⟩ := id hG
  refine lv_iconst (v := 0) hx hb dX9_isFirst_0 (by decide) ?_
  refine lv_istore_n (lv' := [(3, .int 0), (0, .ref h), (1, .int x1), (2, .int x2)]) hx hb dX9_isFirst_1 rfl hl (by decide) rfl (fun ls hl => ?_)
  obtain ⟨n_, hw⟩ := hw
  exact kL_X9_isFirst_2 C vM n_ x1 x2 0 σ _ _ _ hG (lv_sub hl [1, 2, 3, 0] rfl) hw
set_option maxHeartbeats 4000000 in
set_option maxRecDepth 100000 in
theorem met_X9_isFirst {l : Launch} {E : EnvT} (vE : EnvOk E) {D : va_G} {cA : Nat → ClassId} {h : Nat} {ad : Nat → Nat} {σ : MS} {aK aV : Nat → Nat} (vM : eMs aK aV E) {sz : Nat} {x1 : Int32} {x2 : Int32} {post : Int32 → MS → Prop} (hw : wp_X9_isFirst post x1 x2 σ) : Met l yX9_isFirst wgX9_isFirst rm_X9_isFirst (va_Pc [.ref h, .int x1, .int x2] (mPre E D cA h ad sz σ)) (va_Qi post (mAt D cA h ad (va_A (mW cA h ad σ) sz)) (va_A (mW cA h ad σ) sz)) 0 0 (va_A (mW cA h ad σ) sz) := by
  refine Met.ofW (cc := cX9_isFirst) (maxL := 4) (ret := (some .boolean)) (by decide +kernel) rfl ?_
  intro p e s m args below meth c s₁ B hml hv
  obtain ⟨rfl, hsz, hP, hK, hD0, hE⟩ := hv
  subst hsz
  have hD := hD0.self (sz := s.heap.size)
  generalize hAe : va_A (mW cA h ad σ) s.heap.size = A at hD hE ⊢
  have hA : ∀ q : Nat, s.heap.size ≤ q → A q := fun q h => by rw [← hAe]; exact Or.inr h
  have hS : va_S A s.heap s.heap [] := va_S.rf
  have C : mCx p s m _ meth c cX9_isFirst 4 (some .boolean) wgX9_isFirst RX9 E D cA A := ⟨B.exec, B.bytes, hml, B.returns, findClass_of_methodNamed B.named, atoms_spec (ws := wgX9_isFirst) B.pre, hK, hA, B.notSynchronized, hE, vE⟩
  have hG : mG D cA h ad A s σ s.heap [] := ⟨hP, hD, hS⟩
  have hl := lv_entry ([.ref h, .int x1, .int x2]) (n := 4) (Nat.le_of_ble_eq_true rfl)
  rw [lg_entry_eq]
  generalize (lg_sl ([.ref h, .int x1, .int x2]) ++ List.replicate (4 - (lg_sl ([.ref h, .int x1, .int x2])).length) Slot.unset).toArray = ls at hl ⊢
  have hl : lv_has ls 4 [(0, .ref h), (1, .int x1), (2, .int x2)] := hl
  exact k_X9_isFirst C vM x1 x2 σ _ _ _ hG hl hw
/-! ===== meet ===== -/
def rm_X9_meet : Room := { frames := 11, cells := 0, slots := 0, locals := 254 }
abbrev wgX9_meet : List Cond := .code yX9_meet cX9_meet 5 (some .int) :: TB
def wB_X9_meet_50 (post : Int32 → MS → Prop) (σ : MS) : Prop :=
  post (-1) σ
def wB_X9_meet_93 (post : Int32 → MS → Prop) (k55 : Int32 → Int32 → MS → Prop) (x1 : Int32) (x4 : Int32) (σ : MS) : Prop :=
  ∀ x4_9 : Int32, x4_9 = x4 + 1 → k55 x1 x4_9 σ
def wB_X9_meet_55 (post : Int32 → MS → Prop) (k55 : Int32 → Int32 → MS → Prop) (x1 : Int32) (x4 : Int32) (σ : MS) : Prop :=
  ((mI σ 11) ≤ x4 → (post (-1) σ)) ∧ (¬ (mI σ 11) ≤ x4 → ((x4 = x1 → (wB_X9_meet_93 post k55 x1 x4 σ)) ∧ (¬ x4 = x1 → (wp_X9_ends (fun r_10 σ_11 => (r_10 = 0 → (wp_X9_isFirst (fun r_12 σ_13 => (r_12 = 0 → (wB_X9_meet_93 post k55 x1 x4 σ_13)) ∧ (¬ r_12 = 0 → (post x4 σ_13))) x1 x4 σ_11)) ∧ (¬ r_10 = 0 → (wB_X9_meet_93 post k55 x1 x4 σ_11))) x1 x4 σ))))
def wL_X9_meet_55 (post : Int32 → MS → Prop) : Nat → Int32 → Int32 → MS → Prop
  | 0 => fun _ _ _ => False
  | n + 1 => wB_X9_meet_55 post (wL_X9_meet_55 post n)
def wp_X9_meet (post : Int32 → MS → Prop) (x1 : Int32) (σ : MS) : Prop :=
  wp_X9_reached (fun r_1 σ_2 => (r_1 = 0 → (post (-1) σ_2)) ∧ (¬ r_1 = 0 → (wp_X9_wayOf (fun r_3 σ_4 => wp_X9_wayOf (fun r_5 σ_6 => (r_3 = (-2) → (wB_X9_meet_50 post σ_6)) ∧ (¬ r_3 = (-2) → ((r_5 = (-2) → (wB_X9_meet_50 post σ_6)) ∧ (¬ r_5 = (-2) → ((r_3 = r_5 → (wB_X9_meet_50 post σ_6)) ∧ (¬ r_3 = r_5 → (wp_X9_ends (fun r_7 σ_8 => (r_7 = 0 → (wB_X9_meet_50 post σ_8)) ∧ (¬ r_7 = 0 → (∃ n, wL_X9_meet_55 post n x1 0 σ_8))) x1 (-1) σ_6))))))) x1 1 σ_4) x1 0 σ_2))) x1 σ
set_option maxHeartbeats 4000000 in
set_option maxRecDepth 100000 in
theorem kB_X9_meet_50 {p : Program} {l : Launch} {e : Env} {s : State} {m : MethodId} {args : Array Value} {below : List Frame} {meth : Method} {c : Code} {A : Nat → Prop} {E : EnvT} {aK aV : Nat → Nat} {D : va_G} {cA : Nat → ClassId} {h : Nat} {ad : Nat → Nat} (C : mCx p s m args meth c cX9_meet 5 (some .int) wgX9_meet RX9 E D cA A) (vM : eMs aK aV E) {post : Int32 → MS → Prop} :
    ∀ (σ : MS) (H : Heap) (locs : List Loc) (ls : Array Slot), mG D cA h ad A s σ H locs → lv_has ls 5 [] → wB_X9_meet_50 post σ → W p l e rm_X9_meet s m args below meth c H locs 0 0 (MQ below (va_Qi post (mAt D cA h ad A) A) args s 0 0 A) (F0 m 50 ls []) := by
  obtain ⟨hx, hb, hml, hr, hown, hts, hK, hA, hlk, hE, vE⟩ := id C
  intro σ H locs ls hG hl hw
  obtain ⟨hP, hD, hS⟩ := id hG
  refine lv_iconst (v := (-1)) hx hb dX9_meet_50 (by decide) ?_
  exact W.iret (v := (-1)) hx hb hr (fun t ht hW => ⟨⟨_, σ, rfl, hw, by rw [ht]; exact hP, va_K.moved hW.alike hK, hD⟩, hS.F ht⟩) hS.2.2 dX9_meet_51 hlk
set_option maxHeartbeats 4000000 in
set_option maxRecDepth 100000 in
theorem kB_X9_meet_93 {p : Program} {l : Launch} {e : Env} {s : State} {m : MethodId} {args : Array Value} {below : List Frame} {meth : Method} {c : Code} {A : Nat → Prop} {E : EnvT} {aK aV : Nat → Nat} {D : va_G} {cA : Nat → ClassId} {h : Nat} {ad : Nat → Nat} (C : mCx p s m args meth c cX9_meet 5 (some .int) wgX9_meet RX9 E D cA A) (vM : eMs aK aV E) {post : Int32 → MS → Prop}
    {k55 : Int32 → Int32 → MS → Prop} (hk55 : ∀ (x1 : Int32) (x4 : Int32) (σ : MS) (H : Heap) (locs : List Loc) (ls : Array Slot), mG D cA h ad A s σ H locs → lv_has ls 5 [(0, .ref h), (1, .int x1), (4, .int x4)] → k55 x1 x4 σ → W p l e rm_X9_meet s m args below meth c H locs 0 0 (MQ below (va_Qi post (mAt D cA h ad A) A) args s 0 0 A) (F0 m 55 ls [])) :
    ∀ (x1 : Int32) (x4 : Int32) (σ : MS) (H : Heap) (locs : List Loc) (ls : Array Slot), mG D cA h ad A s σ H locs → lv_has ls 5 [(0, .ref h), (1, .int x1), (4, .int x4)] → wB_X9_meet_93 post k55 x1 x4 σ → W p l e rm_X9_meet s m args below meth c H locs 0 0 (MQ below (va_Qi post (mAt D cA h ad A) A) args s 0 0 A) (F0 m 93 ls []) := by
  obtain ⟨hx, hb, hml, hr, hown, hts, hK, hA, hlk, hE, vE⟩ := id C
  intro x1 x4 σ H locs ls hG hl hw
  obtain ⟨hP, hD, hS⟩ := id hG
  obtain ⟨x4_9, ex4_9⟩ : ∃ y : Int32, y = x4 + 1 := ⟨_, rfl⟩
  have hw := hw x4_9 ex4_9
  refine lv_iinc (v := x4_9) (lv' := [(4, .int x4_9), (0, .ref h), (1, .int x1)]) hx hb dX9_meet_93 hl (k := 2) rfl (by rw [ex4_9]; rfl) (by decide) rfl (fun ls hl => ?_)
  refine lv_goto (tgt := 55) hx hb dX9_meet_96 (by decide) ?_
  exact hk55 x1 x4_9 σ _ _ _ hG (lv_sub hl [1, 2, 0] rfl) hw
set_option maxHeartbeats 4000000 in
set_option maxRecDepth 100000 in
theorem kB_X9_meet_55 {p : Program} {l : Launch} {e : Env} {s : State} {m : MethodId} {args : Array Value} {below : List Frame} {meth : Method} {c : Code} {A : Nat → Prop} {E : EnvT} {aK aV : Nat → Nat} {D : va_G} {cA : Nat → ClassId} {h : Nat} {ad : Nat → Nat} (C : mCx p s m args meth c cX9_meet 5 (some .int) wgX9_meet RX9 E D cA A) (vM : eMs aK aV E) {post : Int32 → MS → Prop}
    {k55 : Int32 → Int32 → MS → Prop} (hk55 : ∀ (x1 : Int32) (x4 : Int32) (σ : MS) (H : Heap) (locs : List Loc) (ls : Array Slot), mG D cA h ad A s σ H locs → lv_has ls 5 [(0, .ref h), (1, .int x1), (4, .int x4)] → k55 x1 x4 σ → W p l e rm_X9_meet s m args below meth c H locs 0 0 (MQ below (va_Qi post (mAt D cA h ad A) A) args s 0 0 A) (F0 m 55 ls [])) :
    ∀ (x1 : Int32) (x4 : Int32) (σ : MS) (H : Heap) (locs : List Loc) (ls : Array Slot), mG D cA h ad A s σ H locs → lv_has ls 5 [(0, .ref h), (1, .int x1), (4, .int x4)] → wB_X9_meet_55 post k55 x1 x4 σ → W p l e rm_X9_meet s m args below meth c H locs 0 0 (MQ below (va_Qi post (mAt D cA h ad A) A) args s 0 0 A) (F0 m 55 ls []) := by
  obtain ⟨hx, hb, hml, hr, hown, hts, hK, hA, hlk, hE, vE⟩ := id C
  intro x1 x4 σ H locs ls hG hl hw
  obtain ⟨hP, hD, hS⟩ := id hG
  refine lv_iload hx hb dX9_meet_55 (lv_at hl 2 rfl) ?_
  refine lv_aload_n hx hb dX9_meet_57 rfl (lv_at hl 0 rfl) ?_
  refine va_get (D := D) (ci := 11) (v := .int (mI σ 11)) (C := RX9) (T := TX9) (N := 32) hx hb hts (in_tb inX9) hown hK hP 0 rfl rfl 11 (by decide) (hts _ (List.mem_cons_of_mem _ tw_5_121)) (fun _ h9 => h9) rfl dX9_meet_58 ?_
  refine lv_icmp_ge (tgt := 99) hx hb dX9_meet_61 (by decide) (fun q_ => ?_) (fun q_ => ?_)
  · have hw := hw.1 q_
    refine lv_iconst (v := (-1)) hx hb dX9_meet_99 (by decide) ?_
    exact W.iret (v := (-1)) hx hb hr (fun t ht hW => ⟨⟨_, σ, rfl, hw, by rw [ht]; exact hP, va_K.moved hW.alike hK, hD⟩, hS.F ht⟩) hS.2.2 dX9_meet_100 hlk
  · have hw := hw.2 q_
    refine lv_iload hx hb dX9_meet_64 (lv_at hl 2 rfl) ?_
    refine lv_iload_n hx hb dX9_meet_66 rfl (lv_at hl 1 rfl) ?_
    refine lv_icmp_eq (tgt := 93) hx hb dX9_meet_67 (by decide) (fun q_ => ?_) (fun q_ => ?_)
    · have hw := hw.1 q_
      exact kB_X9_meet_93 C vM hk55 x1 x4 σ _ _ _ hG (lv_sub hl [0, 1, 2] rfl) hw
    · have hw := hw.2 q_
      refine lv_aload_n hx hb dX9_meet_70 rfl (lv_at hl 0 rfl) ?_
      refine lv_iload_n hx hb dX9_meet_71 rfl (lv_at hl 1 rfl) ?_
      refine lv_iload hx hb dX9_meet_72 (lv_at hl 2 rfl) ?_
      refine mV_i (As := [.int x1, .int x4]) (rest := []) C (met_X9_ends vE vM hw) (va_recv hK hP (ci := 11) (q0 := 0) rfl rfl) (cwV 2 hts (TB_G (TB_4 tw_6_199 tw_6_201 ts_55 tw_1_13) tw_6_202) rfl rfl rfl (by decide +kernel) ⟨by decide, by decide⟩) hP hD hS rfl hl.1 rfl (Nat.le_of_ble_eq_true rfl) dX9_meet_74 ⟨by decide, by decide⟩ (fun r_10 σ_11 H locs hw hP hD hS => ?_)
      have hG : mG D cA h ad A s σ_11 H locs := ⟨hP, hD, hS⟩
      refine lv_if_ne (tgt := 93) hx hb dX9_meet_77 (by decide) (fun q_ => ?_) (fun q_ => ?_)
      · have hw := hw.2 q_
        exact kB_X9_meet_93 C vM hk55 x1 x4 σ_11 _ _ _ hG (lv_sub hl [0, 1, 2] rfl) hw
      · have hw := hw.1 q_
        refine lv_aload_n hx hb dX9_meet_80 rfl (lv_at hl 0 rfl) ?_
        refine lv_iload_n hx hb dX9_meet_81 rfl (lv_at hl 1 rfl) ?_
        refine lv_iload hx hb dX9_meet_82 (lv_at hl 2 rfl) ?_
        refine mV_i (As := [.int x1, .int x4]) (rest := []) C (met_X9_isFirst vE vM hw) (va_recv hK hP (ci := 11) (q0 := 0) rfl rfl) (cwV 2 hts (TB_G (TB_4 tw_6_203 tw_6_205 ts_56 tw_1_13) tw_6_206) rfl rfl rfl (by decide +kernel) ⟨by decide, by decide⟩) hP hD hS rfl hl.1 rfl (Nat.le_of_ble_eq_true rfl) dX9_meet_84 ⟨by decide, by decide⟩ (fun r_12 σ_13 H locs hw hP hD hS => ?_)
        have hG : mG D cA h ad A s σ_13 H locs := ⟨hP, hD, hS⟩
        refine lv_if_eq (tgt := 93) hx hb dX9_meet_87 (by decide) (fun q_ => ?_) (fun q_ => ?_)
        · have hw := hw.1 q_
          exact kB_X9_meet_93 C vM hk55 x1 x4 σ_13 _ _ _ hG (lv_sub hl [0, 1, 2] rfl) hw
        · have hw := hw.2 q_
          refine lv_iload hx hb dX9_meet_90 (lv_at hl 2 rfl) ?_
          exact W.iret (v := x4) hx hb hr (fun t ht hW => ⟨⟨_, σ_13, rfl, hw, by rw [ht]; exact hP, va_K.moved hW.alike hK, hD⟩, hS.F ht⟩) hS.2.2 dX9_meet_92 hlk
theorem kL_X9_meet_55 {p : Program} {l : Launch} {e : Env} {s : State} {m : MethodId} {args : Array Value} {below : List Frame} {meth : Method} {c : Code} {A : Nat → Prop} {E : EnvT} {aK aV : Nat → Nat} {D : va_G} {cA : Nat → ClassId} {h : Nat} {ad : Nat → Nat} (C : mCx p s m args meth c cX9_meet 5 (some .int) wgX9_meet RX9 E D cA A) (vM : eMs aK aV E) {post : Int32 → MS → Prop} :
    ∀ (n : Nat) (x1 : Int32) (x4 : Int32) (σ : MS) (H : Heap) (locs : List Loc) (ls : Array Slot), mG D cA h ad A s σ H locs → lv_has ls 5 [(0, .ref h), (1, .int x1), (4, .int x4)] → wL_X9_meet_55 post n x1 x4 σ → W p l e rm_X9_meet s m args below meth c H locs 0 0 (MQ below (va_Qi post (mAt D cA h ad A) A) args s 0 0 A) (F0 m 55 ls []) := by
  intro n
  induction n with
  | zero => intro x1 x4 σ H locs ls hG hl hw; exact hw.elim
  | succ n ih => exact kB_X9_meet_55 C vM ih
set_option maxHeartbeats 4000000 in
set_option maxRecDepth 100000 in
theorem k_X9_meet {p : Program} {l : Launch} {e : Env} {s : State} {m : MethodId} {args : Array Value} {below : List Frame} {meth : Method} {c : Code} {A : Nat → Prop} {E : EnvT} {aK aV : Nat → Nat} {D : va_G} {cA : Nat → ClassId} {h : Nat} {ad : Nat → Nat} (C : mCx p s m args meth c cX9_meet 5 (some .int) wgX9_meet RX9 E D cA A) (vM : eMs aK aV E) {post : Int32 → MS → Prop} :
    ∀ (x1 : Int32) (σ : MS) (H : Heap) (locs : List Loc) (ls : Array Slot), mG D cA h ad A s σ H locs → lv_has ls 5 [(0, .ref h), (1, .int x1)] → wp_X9_meet post x1 σ → W p l e rm_X9_meet s m args below meth c H locs 0 0 (MQ below (va_Qi post (mAt D cA h ad A) A) args s 0 0 A) (F0 m 0 ls []) := by
  obtain ⟨hx, hb, hml, hr, hown, hts, hK, hA, hlk, hE, vE⟩ := id C
  intro x1 σ H locs ls hG hl hw
  obtain ⟨hP, hD, hS⟩ := id hG
  refine lv_aload_n hx hb dX9_meet_0 rfl (lv_at hl 0 rfl) ?_
  refine lv_iload_n hx hb dX9_meet_1 rfl (lv_at hl 1 rfl) ?_
  refine mV_i (As := [.int x1]) (rest := []) C (met_X9_reached vE vM hw) (va_recv hK hP (ci := 11) (q0 := 0) rfl rfl) (cwV 1 hts (TB_G (TB_4 tw_6_198 tw_6_175 tw_6_176 tw_1_13) tw_6_177) rfl rfl rfl (by decide +kernel) ⟨by decide, by decide⟩) hP hD hS rfl hl.1 rfl (Nat.le_of_ble_eq_true rfl) dX9_meet_2 ⟨by decide, by decide⟩ (fun r_1 σ_2 H locs hw hP hD hS => ?_)
  have hG : mG D cA h ad A s σ_2 H locs := ⟨hP, hD, hS⟩
  refine lv_if_ne (tgt := 10) hx hb dX9_meet_5 (by decide) (fun q_ => ?_) (fun q_ => ?_)
  · have hw := hw.2 q_
    refine lv_aload_n hx hb dX9_meet_10 rfl (lv_at hl 0 rfl) ?_
    refine lv_iload_n hx hb dX9_meet_11 rfl (lv_at hl 1 rfl) ?_
    refine lv_iconst (v := 0) hx hb dX9_meet_12 (by decide) ?_
    refine mV_i (As := [.int x1, .int 0]) (rest := []) C (met_X9_wayOf vE vM hw) (va_recv hK hP (ci := 11) (q0 := 0) rfl rfl) (cwV 2 hts (TB_G (TB_4 tw_6_166 tw_6_168 ts_50 tw_1_13) tw_6_169) rfl rfl rfl (by decide +kernel) ⟨by decide, by decide⟩) hP hD hS rfl hl.1 rfl (Nat.le_of_ble_eq_true rfl) dX9_meet_13 ⟨by decide, by decide⟩ (fun r_3 σ_4 H locs hw hP hD hS => ?_)
    have hG : mG D cA h ad A s σ_4 H locs := ⟨hP, hD, hS⟩
    refine lv_istore_n (lv' := [(2, .int r_3), (0, .ref h), (1, .int x1)]) hx hb dX9_meet_16 rfl hl (by decide) rfl (fun ls hl => ?_)
    refine lv_aload_n hx hb dX9_meet_17 rfl (lv_at hl 1 rfl) ?_
    refine lv_iload_n hx hb dX9_meet_18 rfl (lv_at hl 2 rfl) ?_
    refine lv_iconst (v := 1) hx hb dX9_meet_19 (by decide) ?_
    refine mV_i (As := [.int x1, .int 1]) (rest := []) C (met_X9_wayOf vE vM hw) (va_recv hK hP (ci := 11) (q0 := 0) rfl rfl) (cwV 2 hts (TB_G (TB_4 tw_6_166 tw_6_168 ts_50 tw_1_13) tw_6_169) rfl rfl rfl (by decide +kernel) ⟨by decide, by decide⟩) hP hD hS rfl hl.1 rfl (Nat.le_of_ble_eq_true rfl) dX9_meet_20 ⟨by decide, by decide⟩ (fun r_5 σ_6 H locs hw hP hD hS => ?_)
    have hG : mG D cA h ad A s σ_6 H locs := ⟨hP, hD, hS⟩
    refine lv_istore_n (lv' := [(3, .int r_5), (2, .int r_3), (0, .ref h), (1, .int x1)]) hx hb dX9_meet_23 rfl hl (by decide) rfl (fun ls hl => ?_)
    refine lv_iload_n hx hb dX9_meet_24 rfl (lv_at hl 1 rfl) ?_
    refine lv_bipush (v := (-2)) hx hb dX9_meet_25 (by decide) ?_
    refine lv_icmp_eq (tgt := 50) hx hb dX9_meet_27 (by decide) (fun q_ => ?_) (fun q_ => ?_)
    · have hw := hw.1 q_
      exact kB_X9_meet_50 C vM  σ_6 _ _ _ hG (lv_sub hl [] rfl) hw
    · have hw := hw.2 q_
      refine lv_iload_n hx hb dX9_meet_30 rfl (lv_at hl 0 rfl) ?_
      refine lv_bipush (v := (-2)) hx hb dX9_meet_31 (by decide) ?_
      refine lv_icmp_eq (tgt := 50) hx hb dX9_meet_33 (by decide) (fun q_ => ?_) (fun q_ => ?_)
      · have hw := hw.1 q_
        exact kB_X9_meet_50 C vM  σ_6 _ _ _ hG (lv_sub hl [] rfl) hw
      · have hw := hw.2 q_
        refine lv_iload_n hx hb dX9_meet_36 rfl (lv_at hl 1 rfl) ?_
        refine lv_iload_n hx hb dX9_meet_37 rfl (lv_at hl 0 rfl) ?_
        refine lv_icmp_eq (tgt := 50) hx hb dX9_meet_38 (by decide) (fun q_ => ?_) (fun q_ => ?_)
        · have hw := hw.1 q_
          exact kB_X9_meet_50 C vM  σ_6 _ _ _ hG (lv_sub hl [] rfl) hw
        · have hw := hw.2 q_
          refine lv_aload_n hx hb dX9_meet_41 rfl (lv_at hl 2 rfl) ?_
          refine lv_iload_n hx hb dX9_meet_42 rfl (lv_at hl 3 rfl) ?_
          refine lv_iconst (v := (-1)) hx hb dX9_meet_43 (by decide) ?_
          refine mV_i (As := [.int x1, .int (-1)]) (rest := []) C (met_X9_ends vE vM hw) (va_recv hK hP (ci := 11) (q0 := 0) rfl rfl) (cwV 2 hts (TB_G (TB_4 tw_6_199 tw_6_201 ts_55 tw_1_13) tw_6_202) rfl rfl rfl (by decide +kernel) ⟨by decide, by decide⟩) hP hD hS rfl hl.1 rfl (Nat.le_of_ble_eq_true rfl) dX9_meet_44 ⟨by decide, by decide⟩ (fun r_7 σ_8 H locs hw hP hD hS => ?_)
          have hG : mG D cA h ad A s σ_8 H locs := ⟨hP, hD, hS⟩
          refine lv_if_ne (tgt := 52) hx hb dX9_meet_47 (by decide) (fun q_ => ?_) (fun q_ => ?_)
          · have hw := hw.2 q_
            refine lv_iconst (v := 0) hx hb dX9_meet_52 (by decide) ?_
            refine lv_istore (lv' := [(4, .int 0), (3, .int r_5), (2, .int r_3), (0, .ref h), (1, .int x1)]) hx hb dX9_meet_53 hl (by decide) rfl (fun ls hl => ?_)
            obtain ⟨n_, hw⟩ := hw
            exact kL_X9_meet_55 C vM n_ x1 0 σ_8 _ _ _ hG (lv_sub hl [3, 4, 0] rfl) hw
          · have hw := hw.1 q_
            exact kB_X9_meet_50 C vM  σ_8 _ _ _ hG (lv_sub hl [] rfl) hw
  · have hw := hw.1 q_
    refine lv_iconst (v := (-1)) hx hb dX9_meet_8 (by decide) ?_
    exact W.iret (v := (-1)) hx hb hr (fun t ht hW => ⟨⟨_, σ_2, rfl, hw, by rw [ht]; exact hP, va_K.moved hW.alike hK, hD⟩, hS.F ht⟩) hS.2.2 dX9_meet_9 hlk
set_option maxHeartbeats 4000000 in
set_option maxRecDepth 100000 in
theorem met_X9_meet {l : Launch} {E : EnvT} (vE : EnvOk E) {D : va_G} {cA : Nat → ClassId} {h : Nat} {ad : Nat → Nat} {σ : MS} {aK aV : Nat → Nat} (vM : eMs aK aV E) {sz : Nat} {x1 : Int32} {post : Int32 → MS → Prop} (hw : wp_X9_meet post x1 σ) : Met l yX9_meet wgX9_meet rm_X9_meet (va_Pc [.ref h, .int x1] (mPre E D cA h ad sz σ)) (va_Qi post (mAt D cA h ad (va_A (mW cA h ad σ) sz)) (va_A (mW cA h ad σ) sz)) 0 0 (va_A (mW cA h ad σ) sz) := by
  refine Met.ofW (cc := cX9_meet) (maxL := 5) (ret := (some .int)) (by decide +kernel) rfl ?_
  intro p e s m args below meth c s₁ B hml hv
  obtain ⟨rfl, hsz, hP, hK, hD0, hE⟩ := hv
  subst hsz
  have hD := hD0.self (sz := s.heap.size)
  generalize hAe : va_A (mW cA h ad σ) s.heap.size = A at hD hE ⊢
  have hA : ∀ q : Nat, s.heap.size ≤ q → A q := fun q h => by rw [← hAe]; exact Or.inr h
  have hS : va_S A s.heap s.heap [] := va_S.rf
  have C : mCx p s m _ meth c cX9_meet 5 (some .int) wgX9_meet RX9 E D cA A := ⟨B.exec, B.bytes, hml, B.returns, findClass_of_methodNamed B.named, atoms_spec (ws := wgX9_meet) B.pre, hK, hA, B.notSynchronized, hE, vE⟩
  have hG : mG D cA h ad A s σ s.heap [] := ⟨hP, hD, hS⟩
  have hl := lv_entry ([.ref h, .int x1]) (n := 5) (Nat.le_of_ble_eq_true rfl)
  rw [lg_entry_eq]
  generalize (lg_sl ([.ref h, .int x1]) ++ List.replicate (5 - (lg_sl ([.ref h, .int x1])).length) Slot.unset).toArray = ls at hl ⊢
  have hl : lv_has ls 5 [(0, .ref h), (1, .int x1)] := hl
  exact k_X9_meet C vM x1 σ _ _ _ hG hl hw
/-! ===== total ===== -/
def rm_X9_total : Room := { frames := 9, cells := 0, slots := 0, locals := 207 }
abbrev wgX9_total : List Cond := .code yX9_total cX9_total 4 (some .int) :: TB
def wB_X9_total_76 (post : Int32 → MS → Prop) (k53 : Int32 → Int32 → MS → Prop) (x3 : Int32) (t0 : Int32) (t1 : Int32) (σ : MS) : Prop :=
  ∀ x2_4 : Int32, x2_4 = t1 + t0 → ∀ x3_5 : Int32, x3_5 = x3 + 1 → k53 x2_4 x3_5 σ
def wB_X9_total_53 (post : Int32 → MS → Prop) (k53 : Int32 → Int32 → MS → Prop) (x2 : Int32) (x3 : Int32) (σ : MS) : Prop :=
  ((mI σ 11) ≤ x3 → (post x2 σ)) ∧ (¬ (mI σ 11) ≤ x3 → (vp_in x3 64 ∧ (((mA σ 31 x3.toNatClampNeg) = 0 → (wB_X9_total_76 post k53 x3 0 x2 σ)) ∧ (¬ (mA σ 31 x3.toNatClampNeg) = 0 → (wB_X9_total_76 post k53 x3 1 x2 σ)))))
def wL_X9_total_53 (post : Int32 → MS → Prop) : Nat → Int32 → Int32 → MS → Prop
  | 0 => fun _ _ _ => False
  | n + 1 => wB_X9_total_53 post (wL_X9_total_53 post n)
def wB_X9_total_125 (post : Int32 → MS → Prop) (k98 : Int32 → Int32 → MS → Prop) (x3 : Int32) (t0 : Int32) (t1 : Int32) (σ : MS) : Prop :=
  ∀ x2_10 : Int32, x2_10 = t1 + t0 → ∀ x3_11 : Int32, x3_11 = x3 + 1 → k98 x2_10 x3_11 σ
def wB_X9_total_98 (post : Int32 → MS → Prop) (k98 : Int32 → Int32 → MS → Prop) (x2 : Int32) (x3 : Int32) (σ : MS) : Prop :=
  ((mI σ 11) ≤ x3 → (post x2 σ)) ∧ (¬ (mI σ 11) ≤ x3 → (vp_in x3 64 ∧ (wp_X9_listed (fun r_8  => (r_8 = (-1) → (wB_X9_total_125 post k98 x3 1 x2 σ)) ∧ (¬ r_8 = (-1) → (wB_X9_total_125 post k98 x3 0 x2 σ))) (mL σ 10 x3.toNatClampNeg))))
def wL_X9_total_98 (post : Int32 → MS → Prop) : Nat → Int32 → Int32 → MS → Prop
  | 0 => fun _ _ _ => False
  | n + 1 => wB_X9_total_98 post (wL_X9_total_98 post n)
def wp_X9_total (post : Int32 → MS → Prop) (x1 : Int32) (σ : MS) : Prop :=
  (x1 = 0 → (post (mI σ 11) (wI σ 0 0))) ∧ (x1 = 1 → (wp_X9_spread (fun σ_2 => ∃ n, wL_X9_total_53 post n 0 0 σ_2) 0 (-1) (wI σ 0 0))) ∧ (x1 = 2 → (vp_in (mI σ 14) 2 ∧ (post (mA σ 15 (mI σ 14).toNatClampNeg) (wI σ 0 0)))) ∧ (x1 = 3 → (∃ n, wL_X9_total_98 post n 0 0 (wI σ 0 0))) ∧ (¬ x1 = 0 → ¬ x1 = 1 → ¬ x1 = 2 → ¬ x1 = 3 → (post (-1) (wI σ 0 0)))
set_option maxHeartbeats 4000000 in
set_option maxRecDepth 100000 in
theorem kB_X9_total_76 {p : Program} {l : Launch} {e : Env} {s : State} {m : MethodId} {args : Array Value} {below : List Frame} {meth : Method} {c : Code} {A : Nat → Prop} {E : EnvT} {aK aV : Nat → Nat} {D : va_G} {cA : Nat → ClassId} {h : Nat} {ad : Nat → Nat} (C : mCx p s m args meth c cX9_total 4 (some .int) wgX9_total RX9 E D cA A) (vM : eMs aK aV E) {post : Int32 → MS → Prop}
    {k53 : Int32 → Int32 → MS → Prop} (hk53 : ∀ (x2 : Int32) (x3 : Int32) (σ : MS) (H : Heap) (locs : List Loc) (ls : Array Slot), mG D cA h ad A s σ H locs → lv_has ls 4 [(0, .ref h), (2, .int x2), (3, .int x3)] → k53 x2 x3 σ → W p l e rm_X9_total s m args below meth c H locs 0 0 (MQ below (va_Qi post (mAt D cA h ad A) A) args s 0 0 A) (F0 m 53 ls [])) :
    ∀ (x3 : Int32) (t0 : Int32) (t1 : Int32) (σ : MS) (H : Heap) (locs : List Loc) (ls : Array Slot), mG D cA h ad A s σ H locs → lv_has ls 4 [(0, .ref h), (3, .int x3)] → wB_X9_total_76 post k53 x3 t0 t1 σ → W p l e rm_X9_total s m args below meth c H locs 0 0 (MQ below (va_Qi post (mAt D cA h ad A) A) args s 0 0 A) (F0 m 76 ls [.int t0, .int t1]) := by
  obtain ⟨hx, hb, hml, hr, hown, hts, hK, hA, hlk, hE, vE⟩ := id C
  intro x3 t0 t1 σ H locs ls hG hl hw
  obtain ⟨hP, hD, hS⟩ := id hG
  refine lv_iadd hx hb dX9_total_76 ?_
  refine lv_topi (fun x2_4 ex2_4 => ?_)
  have hw := hw x2_4 ex2_4
  refine lv_istore_n (lv' := [(2, .int x2_4), (0, .ref h), (3, .int x3)]) hx hb dX9_total_77 rfl hl (by decide) rfl (fun ls hl => ?_)
  obtain ⟨x3_5, ex3_5⟩ : ∃ y : Int32, y = x3 + 1 := ⟨_, rfl⟩
  have hw := hw x3_5 ex3_5
  refine lv_iinc (v := x3_5) (lv' := [(3, .int x3_5), (2, .int x2_4), (0, .ref h)]) hx hb dX9_total_78 hl (k := 2) rfl (by rw [ex3_5]; rfl) (by decide) rfl (fun ls hl => ?_)
  refine lv_goto (tgt := 53) hx hb dX9_total_81 (by decide) ?_
  exact hk53 x2_4 x3_5 σ _ _ _ hG (lv_sub hl [2, 1, 0] rfl) hw
set_option maxHeartbeats 4000000 in
set_option maxRecDepth 100000 in
theorem kB_X9_total_53 {p : Program} {l : Launch} {e : Env} {s : State} {m : MethodId} {args : Array Value} {below : List Frame} {meth : Method} {c : Code} {A : Nat → Prop} {E : EnvT} {aK aV : Nat → Nat} {D : va_G} {cA : Nat → ClassId} {h : Nat} {ad : Nat → Nat} (C : mCx p s m args meth c cX9_total 4 (some .int) wgX9_total RX9 E D cA A) (vM : eMs aK aV E) {post : Int32 → MS → Prop}
    {k53 : Int32 → Int32 → MS → Prop} (hk53 : ∀ (x2 : Int32) (x3 : Int32) (σ : MS) (H : Heap) (locs : List Loc) (ls : Array Slot), mG D cA h ad A s σ H locs → lv_has ls 4 [(0, .ref h), (2, .int x2), (3, .int x3)] → k53 x2 x3 σ → W p l e rm_X9_total s m args below meth c H locs 0 0 (MQ below (va_Qi post (mAt D cA h ad A) A) args s 0 0 A) (F0 m 53 ls [])) :
    ∀ (x2 : Int32) (x3 : Int32) (σ : MS) (H : Heap) (locs : List Loc) (ls : Array Slot), mG D cA h ad A s σ H locs → lv_has ls 4 [(0, .ref h), (2, .int x2), (3, .int x3)] → wB_X9_total_53 post k53 x2 x3 σ → W p l e rm_X9_total s m args below meth c H locs 0 0 (MQ below (va_Qi post (mAt D cA h ad A) A) args s 0 0 A) (F0 m 53 ls []) := by
  obtain ⟨hx, hb, hml, hr, hown, hts, hK, hA, hlk, hE, vE⟩ := id C
  intro x2 x3 σ H locs ls hG hl hw
  obtain ⟨hP, hD, hS⟩ := id hG
  refine lv_iload_n hx hb dX9_total_53 rfl (lv_at hl 2 rfl) ?_
  refine lv_aload_n hx hb dX9_total_54 rfl (lv_at hl 0 rfl) ?_
  refine va_get (D := D) (ci := 11) (v := .int (mI σ 11)) (C := RX9) (T := TX9) (N := 32) hx hb hts (in_tb inX9) hown hK hP 0 rfl rfl 11 (by decide) (hts _ (List.mem_cons_of_mem _ tw_5_121)) (fun _ h9 => h9) rfl dX9_total_55 ?_
  refine lv_icmp_ge (tgt := 84) hx hb dX9_total_58 (by decide) (fun q_ => ?_) (fun q_ => ?_)
  · have hw := hw.1 q_
    refine lv_iload_n hx hb dX9_total_84 rfl (lv_at hl 1 rfl) ?_
    exact W.iret (v := x2) hx hb hr (fun t ht hW => ⟨⟨_, σ, rfl, hw, by rw [ht]; exact hP, va_K.moved hW.alike hK, hD⟩, hS.F ht⟩) hS.2.2 dX9_total_85 hlk
  · have hw := hw.2 q_
    refine lv_iload_n hx hb dX9_total_61 rfl (lv_at hl 1 rfl) ?_
    refine lv_aload_n hx hb dX9_total_62 rfl (lv_at hl 0 rfl) ?_
    refine va_get (D := D) (ci := 11) (v := .ref (ad 31)) (C := RX9) (T := TX9) (N := 32) hx hb hts (in_tb inX9) hown hK hP 0 rfl rfl 31 (by decide) (hts _ (List.mem_cons_of_mem _ tw_5_141)) (fun _ h9 => h9) rfl dX9_total_63 ?_
    refine lv_iload_n hx hb dX9_total_66 rfl (lv_at hl 2 rfl) ?_
    obtain ⟨h_3, hw⟩ := hw
    refine va_zald hx hb hK hP 17 2 rfl rfl h_3 dX9_total_67 ?_
    refine lv_if_eq (tgt := 75) hx hb dX9_total_68 (by decide) (fun q_ => ?_) (fun q_ => ?_)
    · have hw := hw.1 q_
      refine lv_iconst (v := 0) hx hb dX9_total_75 (by decide) ?_
      exact kB_X9_total_76 C vM hk53 x3 0 x2 σ _ _ _ hG (lv_sub hl [0, 2] rfl) hw
    · have hw := hw.2 q_
      refine lv_iconst (v := 1) hx hb dX9_total_71 (by decide) ?_
      refine lv_goto (tgt := 76) hx hb dX9_total_72 (by decide) ?_
      exact kB_X9_total_76 C vM hk53 x3 1 x2 σ _ _ _ hG (lv_sub hl [0, 2] rfl) hw
theorem kL_X9_total_53 {p : Program} {l : Launch} {e : Env} {s : State} {m : MethodId} {args : Array Value} {below : List Frame} {meth : Method} {c : Code} {A : Nat → Prop} {E : EnvT} {aK aV : Nat → Nat} {D : va_G} {cA : Nat → ClassId} {h : Nat} {ad : Nat → Nat} (C : mCx p s m args meth c cX9_total 4 (some .int) wgX9_total RX9 E D cA A) (vM : eMs aK aV E) {post : Int32 → MS → Prop} :
    ∀ (n : Nat) (x2 : Int32) (x3 : Int32) (σ : MS) (H : Heap) (locs : List Loc) (ls : Array Slot), mG D cA h ad A s σ H locs → lv_has ls 4 [(0, .ref h), (2, .int x2), (3, .int x3)] → wL_X9_total_53 post n x2 x3 σ → W p l e rm_X9_total s m args below meth c H locs 0 0 (MQ below (va_Qi post (mAt D cA h ad A) A) args s 0 0 A) (F0 m 53 ls []) := by
  intro n
  induction n with
  | zero => intro x2 x3 σ H locs ls hG hl hw; exact hw.elim
  | succ n ih => exact kB_X9_total_53 C vM ih
set_option maxHeartbeats 4000000 in
set_option maxRecDepth 100000 in
theorem kB_X9_total_125 {p : Program} {l : Launch} {e : Env} {s : State} {m : MethodId} {args : Array Value} {below : List Frame} {meth : Method} {c : Code} {A : Nat → Prop} {E : EnvT} {aK aV : Nat → Nat} {D : va_G} {cA : Nat → ClassId} {h : Nat} {ad : Nat → Nat} (C : mCx p s m args meth c cX9_total 4 (some .int) wgX9_total RX9 E D cA A) (vM : eMs aK aV E) {post : Int32 → MS → Prop}
    {k98 : Int32 → Int32 → MS → Prop} (hk98 : ∀ (x2 : Int32) (x3 : Int32) (σ : MS) (H : Heap) (locs : List Loc) (ls : Array Slot), mG D cA h ad A s σ H locs → lv_has ls 4 [(0, .ref h), (2, .int x2), (3, .int x3)] → k98 x2 x3 σ → W p l e rm_X9_total s m args below meth c H locs 0 0 (MQ below (va_Qi post (mAt D cA h ad A) A) args s 0 0 A) (F0 m 98 ls [])) :
    ∀ (x3 : Int32) (t0 : Int32) (t1 : Int32) (σ : MS) (H : Heap) (locs : List Loc) (ls : Array Slot), mG D cA h ad A s σ H locs → lv_has ls 4 [(0, .ref h), (3, .int x3)] → wB_X9_total_125 post k98 x3 t0 t1 σ → W p l e rm_X9_total s m args below meth c H locs 0 0 (MQ below (va_Qi post (mAt D cA h ad A) A) args s 0 0 A) (F0 m 125 ls [.int t0, .int t1]) := by
  obtain ⟨hx, hb, hml, hr, hown, hts, hK, hA, hlk, hE, vE⟩ := id C
  intro x3 t0 t1 σ H locs ls hG hl hw
  obtain ⟨hP, hD, hS⟩ := id hG
  refine lv_iadd hx hb dX9_total_125 ?_
  refine lv_topi (fun x2_10 ex2_10 => ?_)
  have hw := hw x2_10 ex2_10
  refine lv_istore_n (lv' := [(2, .int x2_10), (0, .ref h), (3, .int x3)]) hx hb dX9_total_126 rfl hl (by decide) rfl (fun ls hl => ?_)
  obtain ⟨x3_11, ex3_11⟩ : ∃ y : Int32, y = x3 + 1 := ⟨_, rfl⟩
  have hw := hw x3_11 ex3_11
  refine lv_iinc (v := x3_11) (lv' := [(3, .int x3_11), (2, .int x2_10), (0, .ref h)]) hx hb dX9_total_127 hl (k := 2) rfl (by rw [ex3_11]; rfl) (by decide) rfl (fun ls hl => ?_)
  refine lv_goto (tgt := 98) hx hb dX9_total_130 (by decide) ?_
  exact hk98 x2_10 x3_11 σ _ _ _ hG (lv_sub hl [2, 1, 0] rfl) hw
set_option maxHeartbeats 4000000 in
set_option maxRecDepth 100000 in
theorem kB_X9_total_98 {p : Program} {l : Launch} {e : Env} {s : State} {m : MethodId} {args : Array Value} {below : List Frame} {meth : Method} {c : Code} {A : Nat → Prop} {E : EnvT} {aK aV : Nat → Nat} {D : va_G} {cA : Nat → ClassId} {h : Nat} {ad : Nat → Nat} (C : mCx p s m args meth c cX9_total 4 (some .int) wgX9_total RX9 E D cA A) (vM : eMs aK aV E) {post : Int32 → MS → Prop}
    {k98 : Int32 → Int32 → MS → Prop} (hk98 : ∀ (x2 : Int32) (x3 : Int32) (σ : MS) (H : Heap) (locs : List Loc) (ls : Array Slot), mG D cA h ad A s σ H locs → lv_has ls 4 [(0, .ref h), (2, .int x2), (3, .int x3)] → k98 x2 x3 σ → W p l e rm_X9_total s m args below meth c H locs 0 0 (MQ below (va_Qi post (mAt D cA h ad A) A) args s 0 0 A) (F0 m 98 ls [])) :
    ∀ (x2 : Int32) (x3 : Int32) (σ : MS) (H : Heap) (locs : List Loc) (ls : Array Slot), mG D cA h ad A s σ H locs → lv_has ls 4 [(0, .ref h), (2, .int x2), (3, .int x3)] → wB_X9_total_98 post k98 x2 x3 σ → W p l e rm_X9_total s m args below meth c H locs 0 0 (MQ below (va_Qi post (mAt D cA h ad A) A) args s 0 0 A) (F0 m 98 ls []) := by
  obtain ⟨hx, hb, hml, hr, hown, hts, hK, hA, hlk, hE, vE⟩ := id C
  intro x2 x3 σ H locs ls hG hl hw
  obtain ⟨hP, hD, hS⟩ := id hG
  refine lv_iload_n hx hb dX9_total_98 rfl (lv_at hl 2 rfl) ?_
  refine lv_aload_n hx hb dX9_total_99 rfl (lv_at hl 0 rfl) ?_
  refine va_get (D := D) (ci := 11) (v := .int (mI σ 11)) (C := RX9) (T := TX9) (N := 32) hx hb hts (in_tb inX9) hown hK hP 0 rfl rfl 11 (by decide) (hts _ (List.mem_cons_of_mem _ tw_5_121)) (fun _ h9 => h9) rfl dX9_total_100 ?_
  refine lv_icmp_ge (tgt := 133) hx hb dX9_total_103 (by decide) (fun q_ => ?_) (fun q_ => ?_)
  · have hw := hw.1 q_
    refine lv_iload_n hx hb dX9_total_133 rfl (lv_at hl 1 rfl) ?_
    exact W.iret (v := x2) hx hb hr (fun t ht hW => ⟨⟨_, σ, rfl, hw, by rw [ht]; exact hP, va_K.moved hW.alike hK, hD⟩, hS.F ht⟩) hS.2.2 dX9_total_134 hlk
  · have hw := hw.2 q_
    refine lv_iload_n hx hb dX9_total_106 rfl (lv_at hl 1 rfl) ?_
    refine lv_aload_n hx hb dX9_total_107 rfl (lv_at hl 0 rfl) ?_
    refine va_get (D := D) (ci := 11) (v := .ref (ad 10)) (C := RX9) (T := TX9) (N := 32) hx hb hts (in_tb inX9) hown hK hP 0 rfl rfl 10 (by decide) (hts _ (List.mem_cons_of_mem _ tw_5_120)) (fun _ h9 => h9) rfl dX9_total_108 ?_
    refine lv_iload_n hx hb dX9_total_111 rfl (lv_at hl 2 rfl) ?_
    obtain ⟨h_7, hw⟩ := hw
    refine va_lald hx hb hK hP 5 1 rfl rfl h_7 dX9_total_112 ?_
    refine mS_i (As := [.long (mL σ 10 x3.toNatClampNeg)]) (rest := [.int x2]) C (met_X9_listed vE vM hw) (va_cwS 1 hts (TB_G (TB_3 tw_6_120 tw_6_121 tw_1_13) tw_6_122) rfl rfl rfl (by decide +kernel) ⟨by decide, by decide⟩) hP hD hS rfl hl.1 rfl (Nat.le_of_ble_eq_true rfl) dX9_total_113 ⟨by decide, by decide⟩ (fun r_8 H locs hw hP hS => ?_)
    have hG : mG D cA h ad A s σ H locs := ⟨hP, hD, hS⟩
    refine lv_iconst (v := (-1)) hx hb dX9_total_116 (by decide) ?_
    refine lv_icmp_ne (tgt := 124) hx hb dX9_total_117 (by decide) (fun q_ => ?_) (fun q_ => ?_)
    · have hw := hw.2 q_
      refine lv_iconst (v := 0) hx hb dX9_total_124 (by decide) ?_
      exact kB_X9_total_125 C vM hk98 x3 0 x2 σ _ _ _ hG (lv_sub hl [0, 2] rfl) hw
    · have hw := hw.1 q_
      refine lv_iconst (v := 1) hx hb dX9_total_120 (by decide) ?_
      refine lv_goto (tgt := 125) hx hb dX9_total_121 (by decide) ?_
      exact kB_X9_total_125 C vM hk98 x3 1 x2 σ _ _ _ hG (lv_sub hl [0, 2] rfl) hw
theorem kL_X9_total_98 {p : Program} {l : Launch} {e : Env} {s : State} {m : MethodId} {args : Array Value} {below : List Frame} {meth : Method} {c : Code} {A : Nat → Prop} {E : EnvT} {aK aV : Nat → Nat} {D : va_G} {cA : Nat → ClassId} {h : Nat} {ad : Nat → Nat} (C : mCx p s m args meth c cX9_total 4 (some .int) wgX9_total RX9 E D cA A) (vM : eMs aK aV E) {post : Int32 → MS → Prop} :
    ∀ (n : Nat) (x2 : Int32) (x3 : Int32) (σ : MS) (H : Heap) (locs : List Loc) (ls : Array Slot), mG D cA h ad A s σ H locs → lv_has ls 4 [(0, .ref h), (2, .int x2), (3, .int x3)] → wL_X9_total_98 post n x2 x3 σ → W p l e rm_X9_total s m args below meth c H locs 0 0 (MQ below (va_Qi post (mAt D cA h ad A) A) args s 0 0 A) (F0 m 98 ls []) := by
  intro n
  induction n with
  | zero => intro x2 x3 σ H locs ls hG hl hw; exact hw.elim
  | succ n ih => exact kB_X9_total_98 C vM ih
set_option maxHeartbeats 4000000 in
set_option maxRecDepth 100000 in
theorem k_X9_total {p : Program} {l : Launch} {e : Env} {s : State} {m : MethodId} {args : Array Value} {below : List Frame} {meth : Method} {c : Code} {A : Nat → Prop} {E : EnvT} {aK aV : Nat → Nat} {D : va_G} {cA : Nat → ClassId} {h : Nat} {ad : Nat → Nat} (C : mCx p s m args meth c cX9_total 4 (some .int) wgX9_total RX9 E D cA A) (vM : eMs aK aV E) {post : Int32 → MS → Prop} :
    ∀ (x1 : Int32) (σ : MS) (H : Heap) (locs : List Loc) (ls : Array Slot), mG D cA h ad A s σ H locs → lv_has ls 4 [(0, .ref h), (1, .int x1)] → wp_X9_total post x1 σ → W p l e rm_X9_total s m args below meth c H locs 0 0 (MQ below (va_Qi post (mAt D cA h ad A) A) args s 0 0 A) (F0 m 0 ls []) := by
  obtain ⟨hx, hb, hml, hr, hown, hts, hK, hA, hlk, hE, vE⟩ := id C
  intro x1 σ H locs ls hG hl hw
  obtain ⟨hP, hD, hS⟩ := id hG
  refine lv_aload_n hx hb dX9_total_0 rfl (lv_at hl 0 rfl) ?_
  refine lv_iconst (v := 0) hx hb dX9_total_1 (by decide) ?_
  refine va_put (D := D) (ci := 11) (v := .int 0) (ty := .int) (C := RX9) (T := TX9) (N := 32) hx hb hts (in_tb inX9) tyX9 tyX9_ok nmX9 hown hK hP hD hS 0 rfl rfl 0 (by decide) (hts _ (List.mem_cons_of_mem _ tw_5_110)) (fun _ h9 => h9) rfl (by decide +kernel) rfl rfl (Nat.le_of_ble_eq_true rfl) dX9_total_2 (fun H locs hP hD hS => ?_)
  have hG : mG D cA h ad A s (wI σ 0 0) H locs := ⟨hP, hD, hS⟩
  obtain ⟨hP, hD, hS⟩ := id hG
  refine lv_iconst (v := 0) hx hb dX9_total_5 (by decide) ?_
  refine lv_istore_n (lv' := [(2, .int 0), (0, .ref h), (1, .int x1)]) hx hb dX9_total_6 rfl hl (by decide) rfl (fun ls hl => ?_)
  refine lv_iload_n hx hb dX9_total_7 rfl (lv_at hl 2 rfl) ?_
  obtain ⟨hw0, hw1, hw2, hw3, hw4⟩ := hw
  by_cases q_0 : x1 = 0
  · have hw := hw0 q_0
    refine lv_tableIn (tgt := 40) hx hb dX9_total_8 (by rw [q_0] <;> decide) (by rw [q_0] <;> decide) (by rw [q_0] <;> rfl) (by decide) ?_
    refine lv_aload_n hx hb dX9_total_40 rfl (lv_at hl 1 rfl) ?_
    refine va_get (D := D) (ci := 11) (v := .int (mI σ 11)) (C := RX9) (T := TX9) (N := 32) hx hb hts (in_tb inX9) hown hK hP 0 rfl rfl 11 (by decide) (hts _ (List.mem_cons_of_mem _ tw_5_121)) (fun _ h9 => h9) rfl dX9_total_41 ?_
    exact W.iret (v := mI σ 11) hx hb hr (fun t ht hW => ⟨⟨_, (wI σ 0 0), rfl, hw, by rw [ht]; exact hP, va_K.moved hW.alike hK, hD⟩, hS.F ht⟩) hS.2.2 dX9_total_44 hlk
  by_cases q_1 : x1 = 1
  · have hw := hw1 q_1
    refine lv_tableIn (tgt := 45) hx hb dX9_total_8 (by rw [q_1] <;> decide) (by rw [q_1] <;> decide) (by rw [q_1] <;> rfl) (by decide) ?_
    refine lv_aload_n hx hb dX9_total_45 rfl (lv_at hl 1 rfl) ?_
    refine lv_iconst (v := 0) hx hb dX9_total_46 (by decide) ?_
    refine lv_iconst (v := (-1)) hx hb dX9_total_47 (by decide) ?_
    refine mV_v (As := [.int 0, .int (-1)]) (rest := []) C (met_X9_spread vE vM hw) (va_recv hK hP (ci := 11) (q0 := 0) rfl rfl) (cwV 2 hts (TB_G (TB_4 tw_6_178 tw_6_180 ts_52 tw_1_13) tw_6_181) rfl rfl rfl (by decide +kernel) ⟨by decide, by decide⟩) hP hD hS rfl hl.1 rfl (Nat.le_of_ble_eq_true rfl) dX9_total_48 ⟨by decide, by decide⟩ (fun σ_2 H locs hw hP hD hS => ?_)
    have hG : mG D cA h ad A s σ_2 H locs := ⟨hP, hD, hS⟩
    refine lv_iconst (v := 0) hx hb dX9_total_51 (by decide) ?_
    refine lv_istore_n (lv' := [(3, .int 0), (2, .int 0), (0, .ref h), (1, .int x1)]) hx hb dX9_total_52 rfl hl (by decide) rfl (fun ls hl => ?_)
    obtain ⟨n_, hw⟩ := hw
    exact kL_X9_total_53 C vM n_ 0 0 σ_2 _ _ _ hG (lv_sub hl [2, 1, 0] rfl) hw
  by_cases q_2 : x1 = 2
  · have hw := hw2 q_2
    refine lv_tableIn (tgt := 86) hx hb dX9_total_8 (by rw [q_2] <;> decide) (by rw [q_2] <;> decide) (by rw [q_2] <;> rfl) (by decide) ?_
    refine lv_aload_n hx hb dX9_total_86 rfl (lv_at hl 1 rfl) ?_
    refine va_get (D := D) (ci := 11) (v := .ref (ad 15)) (C := RX9) (T := TX9) (N := 32) hx hb hts (in_tb inX9) hown hK hP 0 rfl rfl 15 (by decide) (hts _ (List.mem_cons_of_mem _ tw_5_125)) (fun _ h9 => h9) rfl dX9_total_87 ?_
    refine lv_aload_n hx hb dX9_total_90 rfl (lv_at hl 1 rfl) ?_
    refine va_get (D := D) (ci := 11) (v := .int (mI σ 14)) (C := RX9) (T := TX9) (N := 32) hx hb hts (in_tb inX9) hown hK hP 0 rfl rfl 14 (by decide) (hts _ (List.mem_cons_of_mem _ tw_5_124)) (fun _ h9 => h9) rfl dX9_total_91 ?_
    obtain ⟨h_6, hw⟩ := hw
    refine va_iald hx hb hK hP 7 0 rfl rfl h_6 dX9_total_94 ?_
    exact W.iret (v := mA σ 15 (mI σ 14).toNatClampNeg) hx hb hr (fun t ht hW => ⟨⟨_, (wI σ 0 0), rfl, hw, by rw [ht]; exact hP, va_K.moved hW.alike hK, hD⟩, hS.F ht⟩) hS.2.2 dX9_total_95 hlk
  by_cases q_3 : x1 = 3
  · have hw := hw3 q_3
    refine lv_tableIn (tgt := 96) hx hb dX9_total_8 (by rw [q_3] <;> decide) (by rw [q_3] <;> decide) (by rw [q_3] <;> rfl) (by decide) ?_
    refine lv_iconst (v := 0) hx hb dX9_total_96 (by decide) ?_
    refine lv_istore_n (lv' := [(3, .int 0), (2, .int 0), (0, .ref h), (1, .int x1)]) hx hb dX9_total_97 rfl hl (by decide) rfl (fun ls hl => ?_)
    obtain ⟨n_, hw⟩ := hw
    exact kL_X9_total_98 C vM n_ 0 0 (wI σ 0 0) _ _ _ hG (lv_sub hl [2, 1, 0] rfl) hw
  have hw := hw4 q_0 q_1 q_2 q_3
  refine lv_tableOut (tgt := 135) hx hb dX9_total_8 (by have z_0 := lv_neT q_0 (a := 0) (by decide); have z_1 := lv_neT q_1 (a := 1) (by decide); have z_2 := lv_neT q_2 (a := 2) (by decide); have z_3 := lv_neT q_3 (a := 3) (by decide); omega) (by decide) ?_
  refine lv_iconst (v := (-1)) hx hb dX9_total_135 (by decide) ?_
  exact W.iret (v := (-1)) hx hb hr (fun t ht hW => ⟨⟨_, (wI σ 0 0), rfl, hw, by rw [ht]; exact hP, va_K.moved hW.alike hK, hD⟩, hS.F ht⟩) hS.2.2 dX9_total_136 hlk
set_option maxHeartbeats 4000000 in
set_option maxRecDepth 100000 in
theorem met_X9_total {l : Launch} {E : EnvT} (vE : EnvOk E) {D : va_G} {cA : Nat → ClassId} {h : Nat} {ad : Nat → Nat} {σ : MS} {aK aV : Nat → Nat} (vM : eMs aK aV E) {sz : Nat} {x1 : Int32} {post : Int32 → MS → Prop} (hw : wp_X9_total post x1 σ) : Met l yX9_total wgX9_total rm_X9_total (va_Pc [.ref h, .int x1] (mPre E D cA h ad sz σ)) (va_Qi post (mAt D cA h ad (va_A (mW cA h ad σ) sz)) (va_A (mW cA h ad σ) sz)) 0 0 (va_A (mW cA h ad σ) sz) := by
  refine Met.ofW (cc := cX9_total) (maxL := 4) (ret := (some .int)) (by decide +kernel) rfl ?_
  intro p e s m args below meth c s₁ B hml hv
  obtain ⟨rfl, hsz, hP, hK, hD0, hE⟩ := hv
  subst hsz
  have hD := hD0.self (sz := s.heap.size)
  generalize hAe : va_A (mW cA h ad σ) s.heap.size = A at hD hE ⊢
  have hA : ∀ q : Nat, s.heap.size ≤ q → A q := fun q h => by rw [← hAe]; exact Or.inr h
  have hS : va_S A s.heap s.heap [] := va_S.rf
  have C : mCx p s m _ meth c cX9_total 4 (some .int) wgX9_total RX9 E D cA A := ⟨B.exec, B.bytes, hml, B.returns, findClass_of_methodNamed B.named, atoms_spec (ws := wgX9_total) B.pre, hK, hA, B.notSynchronized, hE, vE⟩
  have hG : mG D cA h ad A s σ s.heap [] := ⟨hP, hD, hS⟩
  have hl := lv_entry ([.ref h, .int x1]) (n := 4) (Nat.le_of_ble_eq_true rfl)
  rw [lg_entry_eq]
  generalize (lg_sl ([.ref h, .int x1]) ++ List.replicate (4 - (lg_sl ([.ref h, .int x1])).length) Slot.unset).toArray = ls at hl ⊢
  have hl : lv_has ls 4 [(0, .ref h), (1, .int x1)] := hl
  exact k_X9_total C vM x1 σ _ _ _ hG hl hw
