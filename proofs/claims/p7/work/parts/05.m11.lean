/-! ===== listed ===== -/
def rm_X9_listed : Room := { frames := 6, cells := 0, slots := 0, locals := 134 }
abbrev wgX9_listed : List Cond := .code yX9_listed cX9_listed 3 (some .int) :: TB
def wB_X9_listed_2 (post : Int32 → Prop) (k2 : Int64 → Int32 → Prop) (x0 : Int64) (x2 : Int32) : Prop :=
  (53 ≤ x2 → (post (-1))) ∧ (¬ 53 ≤ x2 → (wp_X9_fits (fun r_1  => (r_1 = 0 → (∀ x2_3 : Int32, x2_3 = x2 + 1 → k2 x0 x2_3)) ∧ (¬ r_1 = 0 → (post x2))) x2 x0))
def wL_X9_listed_2 (post : Int32 → Prop) : Nat → Int64 → Int32 → Prop
  | 0 => fun _ _ => False
  | n + 1 => wB_X9_listed_2 post (wL_X9_listed_2 post n)
def wp_X9_listed (post : Int32 → Prop) (x0 : Int64) : Prop :=
  ∃ n, wL_X9_listed_2 post n x0 0
set_option maxHeartbeats 4000000 in
set_option maxRecDepth 100000 in
theorem kB_X9_listed_2 {p : Program} {l : Launch} {e : Env} {s : State} {m : MethodId} {args : Array Value} {below : List Frame} {meth : Method} {c : Code} {A : Nat → Prop} {E : EnvT} {aK aV : Nat → Nat} (C : sCx p s m args meth c cX9_listed 3 (some .int) wgX9_listed RX9 E A) (vM : eMs aK aV E) {post : Int32 → Prop}
    {k2 : Int64 → Int32 → Prop} (hk2 : ∀ (x0 : Int64) (x2 : Int32) (H : Heap) (locs : List Loc) (ls : Array Slot), va_S A s.heap H locs → lv_has ls 3 [(0, .long x0), (2, .int x2)] → k2 x0 x2 → W p l e rm_X9_listed s m args below meth c H locs 0 0 (MQ below (va_Qi (S := Unit) (fun r _ => post r) (fun _ _ => True) A) args s 0 0 A) (F0 m 2 ls [])) :
    ∀ (x0 : Int64) (x2 : Int32) (H : Heap) (locs : List Loc) (ls : Array Slot), va_S A s.heap H locs → lv_has ls 3 [(0, .long x0), (2, .int x2)] → wB_X9_listed_2 post k2 x0 x2 → W p l e rm_X9_listed s m args below meth c H locs 0 0 (MQ below (va_Qi (S := Unit) (fun r _ => post r) (fun _ _ => True) A) args s 0 0 A) (F0 m 2 ls []) := by
  obtain ⟨hx, hb, hml, hr, hown, hts, hA, hlk, hE, vE⟩ := id C
  intro x0 x2 H locs ls hG hl hw
  have hS := hG
  refine lv_iload_n hx hb dX9_listed_2 rfl (lv_at hl 1 rfl) ?_
  refine lv_bipush (v := 53) hx hb dX9_listed_3 (by decide) ?_
  refine lv_icmp_ge (tgt := 24) hx hb dX9_listed_5 (by decide) (fun q_ => ?_) (fun q_ => ?_)
  · have hw := hw.1 q_
    refine lv_iconst (v := (-1)) hx hb dX9_listed_24 (by decide) ?_
    exact W.iret (v := (-1)) hx hb hr (fun t ht hW => ⟨⟨_, (), rfl, hw, trivial⟩, hS.F ht⟩) hS.2.2 dX9_listed_25 hlk
  · have hw := hw.2 q_
    refine lv_iload_n hx hb dX9_listed_8 rfl (lv_at hl 1 rfl) ?_
    refine lv_lload_n hx hb dX9_listed_9 rfl (lv_at hl 0 rfl) ?_
    refine sS_i (As := [.int x2, .long x0]) (rest := []) C (met_X9_fits vE vM hw) (va_cwS 2 hts (TB_G (TB_3 tw_6_123 tw_6_124 tw_1_13) tw_6_125) rfl rfl rfl (by decide +kernel) ⟨by decide, by decide⟩) hS rfl hl.1 rfl (Nat.le_of_ble_eq_true rfl) dX9_listed_10 ⟨by decide, by decide⟩ (fun r_1 H locs hw hS => ?_)
    have hG := hS
    refine lv_if_eq (tgt := 18) hx hb dX9_listed_13 (by decide) (fun q_ => ?_) (fun q_ => ?_)
    · have hw := hw.1 q_
      obtain ⟨x2_3, ex2_3⟩ : ∃ y : Int32, y = x2 + 1 := ⟨_, rfl⟩
      have hw := hw x2_3 ex2_3
      refine lv_iinc (v := x2_3) (lv' := [(2, .int x2_3), (0, .long x0)]) hx hb dX9_listed_18 hl (k := 1) rfl (by rw [ex2_3]; rfl) (by decide) rfl (fun ls hl => ?_)
      refine lv_goto (tgt := 2) hx hb dX9_listed_21 (by decide) ?_
      exact hk2 x0 x2_3 _ _ _ hG (lv_sub hl [1, 0] rfl) hw
    · have hw := hw.2 q_
      refine lv_iload_n hx hb dX9_listed_16 rfl (lv_at hl 1 rfl) ?_
      exact W.iret (v := x2) hx hb hr (fun t ht hW => ⟨⟨_, (), rfl, hw, trivial⟩, hS.F ht⟩) hS.2.2 dX9_listed_17 hlk
theorem kL_X9_listed_2 {p : Program} {l : Launch} {e : Env} {s : State} {m : MethodId} {args : Array Value} {below : List Frame} {meth : Method} {c : Code} {A : Nat → Prop} {E : EnvT} {aK aV : Nat → Nat} (C : sCx p s m args meth c cX9_listed 3 (some .int) wgX9_listed RX9 E A) (vM : eMs aK aV E) {post : Int32 → Prop} :
    ∀ (n : Nat) (x0 : Int64) (x2 : Int32) (H : Heap) (locs : List Loc) (ls : Array Slot), va_S A s.heap H locs → lv_has ls 3 [(0, .long x0), (2, .int x2)] → wL_X9_listed_2 post n x0 x2 → W p l e rm_X9_listed s m args below meth c H locs 0 0 (MQ below (va_Qi (S := Unit) (fun r _ => post r) (fun _ _ => True) A) args s 0 0 A) (F0 m 2 ls []) := by
  intro n
  induction n with
  | zero => intro x0 x2 H locs ls hG hl hw; exact hw.elim
  | succ n ih => exact kB_X9_listed_2 C vM ih
set_option maxHeartbeats 4000000 in
set_option maxRecDepth 100000 in
theorem k_X9_listed {p : Program} {l : Launch} {e : Env} {s : State} {m : MethodId} {args : Array Value} {below : List Frame} {meth : Method} {c : Code} {A : Nat → Prop} {E : EnvT} {aK aV : Nat → Nat} (C : sCx p s m args meth c cX9_listed 3 (some .int) wgX9_listed RX9 E A) (vM : eMs aK aV E) {post : Int32 → Prop} :
    ∀ (x0 : Int64) (H : Heap) (locs : List Loc) (ls : Array Slot), va_S A s.heap H locs → lv_has ls 3 [(0, .long x0)] → wp_X9_listed post x0 → W p l e rm_X9_listed s m args below meth c H locs 0 0 (MQ below (va_Qi (S := Unit) (fun r _ => post r) (fun _ _ => True) A) args s 0 0 A) (F0 m 0 ls []) := by
  obtain ⟨hx, hb, hml, hr, hown, hts, hA, hlk, hE, vE⟩ := id C
  intro x0 H locs ls hG hl hw
  have hS := hG
  refine lv_iconst (v := 0) hx hb dX9_listed_0 (by decide) ?_
  refine lv_istore_n (lv' := [(2, .int 0), (0, .long x0)]) hx hb dX9_listed_1 rfl hl (by decide) rfl (fun ls hl => ?_)
  obtain ⟨n_, hw⟩ := hw
  exact kL_X9_listed_2 C vM n_ x0 0 _ _ _ hG (lv_sub hl [1, 0] rfl) hw
set_option maxHeartbeats 4000000 in
set_option maxRecDepth 100000 in
theorem met_X9_listed {l : Launch} {E : EnvT} (vE : EnvOk E) {aK aV : Nat → Nat} (vM : eMs aK aV E) {sz : Nat} {x0 : Int64} {post : Int32 → Prop} (hw : wp_X9_listed post x0) : Met l yX9_listed wgX9_listed rm_X9_listed (va_Pc [.long x0] (sPre E sz)) (va_Qi (S := Unit) (fun r _ => post r) (fun _ _ => True) (va_A [] sz)) 0 0 (va_A [] sz) := by
  refine Met.ofW (cc := cX9_listed) (maxL := 3) (ret := (some .int)) (by decide +kernel) rfl ?_
  intro p e s m args below meth c s₁ B hml hv
  obtain ⟨rfl, hsz, hE⟩ := hv
  subst hsz
  generalize hAe : va_A [] s.heap.size = A at hE ⊢
  have hA : ∀ q : Nat, s.heap.size ≤ q → A q := fun q h => by rw [← hAe]; exact Or.inr h
  have hS : va_S A s.heap s.heap [] := va_S.rf
  have C : sCx p s m _ meth c cX9_listed 3 (some .int) wgX9_listed RX9 E A := ⟨B.exec, B.bytes, hml, B.returns, findClass_of_methodNamed B.named, atoms_spec (ws := wgX9_listed) B.pre, hA, B.notSynchronized, hE, vE⟩
  have hG := hS
  have hl := lv_entry ([.long x0]) (n := 3) (Nat.le_of_ble_eq_true rfl)
  rw [lg_entry_eq]
  generalize (lg_sl ([.long x0]) ++ List.replicate (3 - (lg_sl ([.long x0])).length) Slot.unset).toArray = ls at hl ⊢
  have hl : lv_has ls 3 [(0, .long x0)] := hl
  exact k_X9_listed C vM x0 _ _ _ hG hl hw
/-! ===== say ===== -/
def rm_X9_say : Room := { frames := 0, cells := 0, slots := 0, locals := 0 }
abbrev wgX9_say : List Cond := .code yX9_say cX9_say 2 none :: TB
def wp_X9_say (post : MS → Prop) (x1 : Int32) (σ : MS) : Prop :=
  vp_in (mI σ 30) 60 ∧ (post (wI (wA σ 29 (mI σ 30).toNatClampNeg x1) 30 ((mI σ 30) + 1)))
set_option maxHeartbeats 4000000 in
set_option maxRecDepth 100000 in
theorem k_X9_say {p : Program} {l : Launch} {e : Env} {s : State} {m : MethodId} {args : Array Value} {below : List Frame} {meth : Method} {c : Code} {A : Nat → Prop} {E : EnvT} {aK aV : Nat → Nat} {D : va_G} {cA : Nat → ClassId} {h : Nat} {ad : Nat → Nat} (C : mCx p s m args meth c cX9_say 2 none wgX9_say RX9 E D cA A) (vM : eMs aK aV E) {post : MS → Prop} :
    ∀ (x1 : Int32) (σ : MS) (H : Heap) (locs : List Loc) (ls : Array Slot), mG D cA h ad A s σ H locs → lv_has ls 2 [(0, .ref h), (1, .int x1)] → wp_X9_say post x1 σ → W p l e rm_X9_say s m args below meth c H locs 0 0 (MQ below (va_Qv post (mAt D cA h ad A) A) args s 0 0 A) (F0 m 0 ls []) := by
  obtain ⟨hx, hb, hml, hr, hown, hts, hK, hA, hlk, hE, vE⟩ := id C
  intro x1 σ H locs ls hG hl hw
  obtain ⟨hP, hD, hS⟩ := id hG
  refine lv_aload_n hx hb dX9_say_0 rfl (lv_at hl 0 rfl) ?_
  refine va_get (D := D) (ci := 11) (v := .ref (ad 29)) (C := RX9) (T := TX9) (N := 32) hx hb hts (in_tb inX9) hown hK hP 0 rfl rfl 29 (by decide) (hts _ (List.mem_cons_of_mem _ tw_5_139)) (fun _ h9 => h9) rfl dX9_say_1 ?_
  refine lv_aload_n hx hb dX9_say_4 rfl (lv_at hl 0 rfl) ?_
  refine va_get (D := D) (ci := 11) (v := .int (mI σ 30)) (C := RX9) (T := TX9) (N := 32) hx hb hts (in_tb inX9) hown hK hP 0 rfl rfl 30 (by decide) (hts _ (List.mem_cons_of_mem _ tw_5_140)) (fun _ h9 => h9) rfl dX9_say_5 ?_
  refine lv_iload_n hx hb dX9_say_8 rfl (lv_at hl 1 rfl) ?_
  obtain ⟨h_1, hw⟩ := hw
  refine va_iast hx hb hK hP hD hS 16 0 rfl rfl h_1 dX9_say_9 (fun H locs hP hD hS => ?_)
  have hG : mG D cA h ad A s (wA σ 29 (mI σ 30).toNatClampNeg x1) H locs := ⟨hP, hD, hS⟩
  obtain ⟨hP, hD, hS⟩ := id hG
  refine lv_aload_n hx hb dX9_say_10 rfl (lv_at hl 0 rfl) ?_
  refine lv_dup hx hb dX9_say_11 rfl ?_
  refine va_get (D := D) (ci := 11) (v := .int (mI σ 30)) (C := RX9) (T := TX9) (N := 32) hx hb hts (in_tb inX9) hown hK hP 0 rfl rfl 30 (by decide) (hts _ (List.mem_cons_of_mem _ tw_5_140)) (fun _ h9 => h9) rfl dX9_say_12 ?_
  refine lv_iconst (v := 1) hx hb dX9_say_15 (by decide) ?_
  refine lv_iadd hx hb dX9_say_16 ?_
  refine va_put (D := D) (ci := 11) (v := .int ((mI σ 30) + 1)) (ty := .int) (C := RX9) (T := TX9) (N := 32) hx hb hts (in_tb inX9) tyX9 tyX9_ok nmX9 hown hK hP hD hS 0 rfl rfl 30 (by decide) (hts _ (List.mem_cons_of_mem _ tw_5_140)) (fun _ h9 => h9) rfl (by decide +kernel) rfl rfl (Nat.le_of_ble_eq_true rfl) dX9_say_17 (fun H locs hP hD hS => ?_)
  have hG : mG D cA h ad A s (wI (wA σ 29 (mI σ 30).toNatClampNeg x1) 30 ((mI σ 30) + 1)) H locs := ⟨hP, hD, hS⟩
  obtain ⟨hP, hD, hS⟩ := id hG
  exact W.vret hx hb hr (fun t ht hW => ⟨⟨(wI (wA σ 29 (mI σ 30).toNatClampNeg x1) 30 ((mI σ 30) + 1)), rfl, hw, by rw [ht]; exact hP, va_K.moved hW.alike hK, hD⟩, hS.F ht⟩) hS.2.2 dX9_say_20 hlk
set_option maxHeartbeats 4000000 in
set_option maxRecDepth 100000 in
theorem met_X9_say {l : Launch} {E : EnvT} (vE : EnvOk E) {D : va_G} {cA : Nat → ClassId} {h : Nat} {ad : Nat → Nat} {σ : MS} {aK aV : Nat → Nat} (vM : eMs aK aV E) {sz : Nat} {x1 : Int32} {post : MS → Prop} (hw : wp_X9_say post x1 σ) : Met l yX9_say wgX9_say rm_X9_say (va_Pc [.ref h, .int x1] (mPre E D cA h ad sz σ)) (va_Qv post (mAt D cA h ad (va_A (mW cA h ad σ) sz)) (va_A (mW cA h ad σ) sz)) 0 0 (va_A (mW cA h ad σ) sz) := by
  refine Met.ofW (cc := cX9_say) (maxL := 2) (ret := none) (by decide +kernel) rfl ?_
  intro p e s m args below meth c s₁ B hml hv
  obtain ⟨rfl, hsz, hP, hK, hD0, hE⟩ := hv
  subst hsz
  have hD := hD0.self (sz := s.heap.size)
  generalize hAe : va_A (mW cA h ad σ) s.heap.size = A at hD hE ⊢
  have hA : ∀ q : Nat, s.heap.size ≤ q → A q := fun q h => by rw [← hAe]; exact Or.inr h
  have hS : va_S A s.heap s.heap [] := va_S.rf
  have C : mCx p s m _ meth c cX9_say 2 none wgX9_say RX9 E D cA A := ⟨B.exec, B.bytes, hml, B.returns, findClass_of_methodNamed B.named, atoms_spec (ws := wgX9_say) B.pre, hK, hA, B.notSynchronized, hE, vE⟩
  have hG : mG D cA h ad A s σ s.heap [] := ⟨hP, hD, hS⟩
  have hl := lv_entry ([.ref h, .int x1]) (n := 2) (Nat.le_of_ble_eq_true rfl)
  rw [lg_entry_eq]
  generalize (lg_sl ([.ref h, .int x1]) ++ List.replicate (2 - (lg_sl ([.ref h, .int x1])).length) Slot.unset).toArray = ls at hl ⊢
  have hl : lv_has ls 2 [(0, .ref h), (1, .int x1)] := hl
  exact k_X9_say C vM x1 σ _ _ _ hG hl hw
/-! ===== sayNumber ===== -/
def rm_X9_sayNumber : Room := { frames := 1, cells := 0, slots := 0, locals := 21 }
abbrev wgX9_sayNumber : List Cond := .code yX9_sayNumber cX9_sayNumber 7 none :: TB
def wB_X9_sayNumber_50 (post : MS → Prop) (k50 : Int64 → Int64 → MS → Prop) (x3 : Int64) (x5 : Int64) (σ : MS) : Prop :=
  (x5 ≤ 0 → (post σ)) ∧ (¬ x5 ≤ 0 → ((¬ x5 = 0) ∧ (wp_X9_say (fun σ_2 => ∀ x5_3 : Int64, x5_3 = x5 / 10 → k50 x3 x5_3 σ_2) ((48 + ((x3 / x5) - (x3 / x5) / 10 * 10)).toInt32) σ)))
def wL_X9_sayNumber_50 (post : MS → Prop) : Nat → Int64 → Int64 → MS → Prop
  | 0 => fun _ _ _ => False
  | n + 1 => wB_X9_sayNumber_50 post (wL_X9_sayNumber_50 post n)
def wB_X9_sayNumber_28 (post : MS → Prop) (k28 : Int64 → Int64 → MS → Prop) (x3 : Int64) (x5 : Int64) (σ : MS) : Prop :=
  (¬ x5 = 0) ∧ (((x3 / x5) ≤ 9 → (∃ n, wL_X9_sayNumber_50 post n x3 x5 σ)) ∧ (¬ (x3 / x5) ≤ 9 → (∀ x5_5 : Int64, x5_5 = x5 * 10 → k28 x3 x5_5 σ)))
def wL_X9_sayNumber_28 (post : MS → Prop) : Nat → Int64 → Int64 → MS → Prop
  | 0 => fun _ _ _ => False
  | n + 1 => wB_X9_sayNumber_28 post (wL_X9_sayNumber_28 post n)
def wB_X9_sayNumber_24 (post : MS → Prop) (t0 : Int64) (σ : MS) : Prop :=
  ∃ n, wL_X9_sayNumber_28 post n t0 1 σ
def wB_X9_sayNumber_12 (post : MS → Prop) (x1 : Int64) (σ : MS) : Prop :=
  (0 ≤ x1 → (wB_X9_sayNumber_24 post x1 σ)) ∧ (¬ 0 ≤ x1 → (wB_X9_sayNumber_24 post (-x1) σ))
def wp_X9_sayNumber (post : MS → Prop) (x1 : Int64) (σ : MS) : Prop :=
  (0 ≤ x1 → (wB_X9_sayNumber_12 post x1 σ)) ∧ (¬ 0 ≤ x1 → (wp_X9_say (fun σ_8 => wB_X9_sayNumber_12 post x1 σ_8) 45 σ))
set_option maxHeartbeats 4000000 in
set_option maxRecDepth 100000 in
theorem kB_X9_sayNumber_50 {p : Program} {l : Launch} {e : Env} {s : State} {m : MethodId} {args : Array Value} {below : List Frame} {meth : Method} {c : Code} {A : Nat → Prop} {E : EnvT} {aK aV : Nat → Nat} {D : va_G} {cA : Nat → ClassId} {h : Nat} {ad : Nat → Nat} (C : mCx p s m args meth c cX9_sayNumber 7 none wgX9_sayNumber RX9 E D cA A) (vM : eMs aK aV E) {post : MS → Prop}
    {k50 : Int64 → Int64 → MS → Prop} (hk50 : ∀ (x3 : Int64) (x5 : Int64) (σ : MS) (H : Heap) (locs : List Loc) (ls : Array Slot), mG D cA h ad A s σ H locs → lv_has ls 7 [(0, .ref h), (3, .long x3), (5, .long x5)] → k50 x3 x5 σ → W p l e rm_X9_sayNumber s m args below meth c H locs 0 0 (MQ below (va_Qv post (mAt D cA h ad A) A) args s 0 0 A) (F0 m 50 ls [])) :
    ∀ (x3 : Int64) (x5 : Int64) (σ : MS) (H : Heap) (locs : List Loc) (ls : Array Slot), mG D cA h ad A s σ H locs → lv_has ls 7 [(0, .ref h), (3, .long x3), (5, .long x5)] → wB_X9_sayNumber_50 post k50 x3 x5 σ → W p l e rm_X9_sayNumber s m args below meth c H locs 0 0 (MQ below (va_Qv post (mAt D cA h ad A) A) args s 0 0 A) (F0 m 50 ls []) := by
  obtain ⟨hx, hb, hml, hr, hown, hts, hK, hA, hlk, hE, vE⟩ := id C
  intro x3 x5 σ H locs ls hG hl hw
  obtain ⟨hP, hD, hS⟩ := id hG
  refine lv_lload hx hb dX9_sayNumber_50 (lv_at hl 2 rfl) ?_
  refine lv_lconst (v := 0) hx hb dX9_sayNumber_52 (by decide) ?_
  refine W.lcmp hx hb dX9_sayNumber_53 ?_
  refine lv_if_le (tgt := 85) hx hb dX9_sayNumber_54 (by decide) (fun q_ => ?_) (fun q_ => ?_)
  · have hw := hw.1 (lc_le.mp q_)
    exact W.vret hx hb hr (fun t ht hW => ⟨⟨σ, rfl, hw, by rw [ht]; exact hP, va_K.moved hW.alike hK, hD⟩, hS.F ht⟩) hS.2.2 dX9_sayNumber_85 hlk
  · have hw := hw.2 (fun z => q_ (lc_le.mpr z))
    refine lv_aload_n hx hb dX9_sayNumber_57 rfl (lv_at hl 0 rfl) ?_
    refine lv_ldc2 (v := 48) hx hb hown (hts _ (List.mem_cons_of_mem _ tw_5_229)) dX9_sayNumber_58 ?_
    refine lv_lload_n hx hb dX9_sayNumber_61 rfl (lv_at hl 1 rfl) ?_
    refine lv_lload hx hb dX9_sayNumber_62 (lv_at hl 2 rfl) ?_
    obtain ⟨h_4, hw⟩ := hw
    refine lv_ldiv hx hb dX9_sayNumber_64 h_4 ?_
    refine lv_ldc2 (v := 10) hx hb hown (hts _ (List.mem_cons_of_mem _ tw_5_228)) dX9_sayNumber_65 ?_
    refine lv_lrem hx hb dX9_sayNumber_68 (by decide) ?_
    refine lv_ladd hx hb dX9_sayNumber_69 ?_
    refine lv_l2i hx hb dX9_sayNumber_70 rfl ?_
    refine mV_v (As := [.int ((48 + ((x3 / x5) - (x3 / x5) / 10 * 10)).toInt32)]) (rest := []) C (met_X9_say vE vM hw) (va_recv hK hP (ci := 11) (q0 := 0) rfl rfl) (cwV 1 hts (TB_G (TB_4 tw_6_145 tw_6_147 ts_47 tw_1_13) tw_6_148) rfl rfl rfl (by decide +kernel) ⟨by decide, by decide⟩) hP hD hS rfl hl.1 rfl (Nat.le_of_ble_eq_true rfl) dX9_sayNumber_71 ⟨by decide, by decide⟩ (fun σ_2 H locs hw hP hD hS => ?_)
    have hG : mG D cA h ad A s σ_2 H locs := ⟨hP, hD, hS⟩
    refine lv_lload hx hb dX9_sayNumber_74 (lv_at hl 2 rfl) ?_
    refine lv_ldc2 (v := 10) hx hb hown (hts _ (List.mem_cons_of_mem _ tw_5_228)) dX9_sayNumber_76 ?_
    refine lv_ldiv hx hb dX9_sayNumber_79 (by decide) ?_
    refine lv_topl (fun x5_3 ex5_3 => ?_)
    have hw := hw x5_3 ex5_3
    refine lv_lstore (lv' := [(5, .long x5_3), (0, .ref h), (3, .long x3)]) hx hb dX9_sayNumber_80 hl (by decide) rfl (fun ls hl => ?_)
    refine lv_goto (tgt := 50) hx hb dX9_sayNumber_82 (by decide) ?_
    exact hk50 x3 x5_3 σ_2 _ _ _ hG (lv_sub hl [1, 2, 0] rfl) hw
theorem kL_X9_sayNumber_50 {p : Program} {l : Launch} {e : Env} {s : State} {m : MethodId} {args : Array Value} {below : List Frame} {meth : Method} {c : Code} {A : Nat → Prop} {E : EnvT} {aK aV : Nat → Nat} {D : va_G} {cA : Nat → ClassId} {h : Nat} {ad : Nat → Nat} (C : mCx p s m args meth c cX9_sayNumber 7 none wgX9_sayNumber RX9 E D cA A) (vM : eMs aK aV E) {post : MS → Prop} :
    ∀ (n : Nat) (x3 : Int64) (x5 : Int64) (σ : MS) (H : Heap) (locs : List Loc) (ls : Array Slot), mG D cA h ad A s σ H locs → lv_has ls 7 [(0, .ref h), (3, .long x3), (5, .long x5)] → wL_X9_sayNumber_50 post n x3 x5 σ → W p l e rm_X9_sayNumber s m args below meth c H locs 0 0 (MQ below (va_Qv post (mAt D cA h ad A) A) args s 0 0 A) (F0 m 50 ls []) := by
  intro n
  induction n with
  | zero => intro x3 x5 σ H locs ls hG hl hw; exact hw.elim
  | succ n ih => exact kB_X9_sayNumber_50 C vM ih
set_option maxHeartbeats 4000000 in
set_option maxRecDepth 100000 in
theorem kB_X9_sayNumber_28 {p : Program} {l : Launch} {e : Env} {s : State} {m : MethodId} {args : Array Value} {below : List Frame} {meth : Method} {c : Code} {A : Nat → Prop} {E : EnvT} {aK aV : Nat → Nat} {D : va_G} {cA : Nat → ClassId} {h : Nat} {ad : Nat → Nat} (C : mCx p s m args meth c cX9_sayNumber 7 none wgX9_sayNumber RX9 E D cA A) (vM : eMs aK aV E) {post : MS → Prop}
    {k28 : Int64 → Int64 → MS → Prop} (hk28 : ∀ (x3 : Int64) (x5 : Int64) (σ : MS) (H : Heap) (locs : List Loc) (ls : Array Slot), mG D cA h ad A s σ H locs → lv_has ls 7 [(0, .ref h), (3, .long x3), (5, .long x5)] → k28 x3 x5 σ → W p l e rm_X9_sayNumber s m args below meth c H locs 0 0 (MQ below (va_Qv post (mAt D cA h ad A) A) args s 0 0 A) (F0 m 28 ls [])) :
    ∀ (x3 : Int64) (x5 : Int64) (σ : MS) (H : Heap) (locs : List Loc) (ls : Array Slot), mG D cA h ad A s σ H locs → lv_has ls 7 [(0, .ref h), (3, .long x3), (5, .long x5)] → wB_X9_sayNumber_28 post k28 x3 x5 σ → W p l e rm_X9_sayNumber s m args below meth c H locs 0 0 (MQ below (va_Qv post (mAt D cA h ad A) A) args s 0 0 A) (F0 m 28 ls []) := by
  obtain ⟨hx, hb, hml, hr, hown, hts, hK, hA, hlk, hE, vE⟩ := id C
  intro x3 x5 σ H locs ls hG hl hw
  obtain ⟨hP, hD, hS⟩ := id hG
  refine lv_lload_n hx hb dX9_sayNumber_28 rfl (lv_at hl 1 rfl) ?_
  refine lv_lload hx hb dX9_sayNumber_29 (lv_at hl 2 rfl) ?_
  obtain ⟨h_6, hw⟩ := hw
  refine lv_ldiv hx hb dX9_sayNumber_31 h_6 ?_
  refine lv_ldc2 (v := 9) hx hb hown (hts _ (List.mem_cons_of_mem _ tw_6_153)) dX9_sayNumber_32 ?_
  refine W.lcmp hx hb dX9_sayNumber_35 ?_
  refine lv_if_le (tgt := 50) hx hb dX9_sayNumber_36 (by decide) (fun q_ => ?_) (fun q_ => ?_)
  · have hw := hw.1 (lc_le.mp q_)
    obtain ⟨n_, hw⟩ := hw
    exact kL_X9_sayNumber_50 C vM n_ x3 x5 σ _ _ _ hG (lv_sub hl [0, 1, 2] rfl) hw
  · have hw := hw.2 (fun z => q_ (lc_le.mpr z))
    refine lv_lload hx hb dX9_sayNumber_39 (lv_at hl 2 rfl) ?_
    refine lv_ldc2 (v := 10) hx hb hown (hts _ (List.mem_cons_of_mem _ tw_5_228)) dX9_sayNumber_41 ?_
    refine lv_lmul hx hb dX9_sayNumber_44 ?_
    refine lv_topl (fun x5_5 ex5_5 => ?_)
    have hw := hw x5_5 ex5_5
    refine lv_lstore (lv' := [(5, .long x5_5), (0, .ref h), (3, .long x3)]) hx hb dX9_sayNumber_45 hl (by decide) rfl (fun ls hl => ?_)
    refine lv_goto (tgt := 28) hx hb dX9_sayNumber_47 (by decide) ?_
    exact hk28 x3 x5_5 σ _ _ _ hG (lv_sub hl [1, 2, 0] rfl) hw
theorem kL_X9_sayNumber_28 {p : Program} {l : Launch} {e : Env} {s : State} {m : MethodId} {args : Array Value} {below : List Frame} {meth : Method} {c : Code} {A : Nat → Prop} {E : EnvT} {aK aV : Nat → Nat} {D : va_G} {cA : Nat → ClassId} {h : Nat} {ad : Nat → Nat} (C : mCx p s m args meth c cX9_sayNumber 7 none wgX9_sayNumber RX9 E D cA A) (vM : eMs aK aV E) {post : MS → Prop} :
    ∀ (n : Nat) (x3 : Int64) (x5 : Int64) (σ : MS) (H : Heap) (locs : List Loc) (ls : Array Slot), mG D cA h ad A s σ H locs → lv_has ls 7 [(0, .ref h), (3, .long x3), (5, .long x5)] → wL_X9_sayNumber_28 post n x3 x5 σ → W p l e rm_X9_sayNumber s m args below meth c H locs 0 0 (MQ below (va_Qv post (mAt D cA h ad A) A) args s 0 0 A) (F0 m 28 ls []) := by
  intro n
  induction n with
  | zero => intro x3 x5 σ H locs ls hG hl hw; exact hw.elim
  | succ n ih => exact kB_X9_sayNumber_28 C vM ih
set_option maxHeartbeats 4000000 in
set_option maxRecDepth 100000 in
theorem kB_X9_sayNumber_24 {p : Program} {l : Launch} {e : Env} {s : State} {m : MethodId} {args : Array Value} {below : List Frame} {meth : Method} {c : Code} {A : Nat → Prop} {E : EnvT} {aK aV : Nat → Nat} {D : va_G} {cA : Nat → ClassId} {h : Nat} {ad : Nat → Nat} (C : mCx p s m args meth c cX9_sayNumber 7 none wgX9_sayNumber RX9 E D cA A) (vM : eMs aK aV E) {post : MS → Prop} :
    ∀ (t0 : Int64) (σ : MS) (H : Heap) (locs : List Loc) (ls : Array Slot), mG D cA h ad A s σ H locs → lv_has ls 7 [(0, .ref h)] → wB_X9_sayNumber_24 post t0 σ → W p l e rm_X9_sayNumber s m args below meth c H locs 0 0 (MQ below (va_Qv post (mAt D cA h ad A) A) args s 0 0 A) (F0 m 24 ls [.long t0]) := by
  obtain ⟨hx, hb, hml, hr, hown, hts, hK, hA, hlk, hE, vE⟩ := id C
  intro t0 σ H locs ls hG hl hw
  obtain ⟨hP, hD, hS⟩ := id hG
  refine lv_lstore_n (lv' := [(3, .long t0), (0, .ref h)]) hx hb dX9_sayNumber_24 rfl hl (by decide) rfl (fun ls hl => ?_)
  refine lv_lconst (v := 1) hx hb dX9_sayNumber_25 (by decide) ?_
  refine lv_lstore (lv' := [(5, .long 1), (3, .long t0), (0, .ref h)]) hx hb dX9_sayNumber_26 hl (by decide) rfl (fun ls hl => ?_)
  obtain ⟨n_, hw⟩ := hw
  exact kL_X9_sayNumber_28 C vM n_ t0 1 σ _ _ _ hG (lv_sub hl [2, 1, 0] rfl) hw
set_option maxHeartbeats 4000000 in
set_option maxRecDepth 100000 in
theorem kB_X9_sayNumber_12 {p : Program} {l : Launch} {e : Env} {s : State} {m : MethodId} {args : Array Value} {below : List Frame} {meth : Method} {c : Code} {A : Nat → Prop} {E : EnvT} {aK aV : Nat → Nat} {D : va_G} {cA : Nat → ClassId} {h : Nat} {ad : Nat → Nat} (C : mCx p s m args meth c cX9_sayNumber 7 none wgX9_sayNumber RX9 E D cA A) (vM : eMs aK aV E) {post : MS → Prop} :
    ∀ (x1 : Int64) (σ : MS) (H : Heap) (locs : List Loc) (ls : Array Slot), mG D cA h ad A s σ H locs → lv_has ls 7 [(0, .ref h), (1, .long x1)] → wB_X9_sayNumber_12 post x1 σ → W p l e rm_X9_sayNumber s m args below meth c H locs 0 0 (MQ below (va_Qv post (mAt D cA h ad A) A) args s 0 0 A) (F0 m 12 ls []) := by
  obtain ⟨hx, hb, hml, hr, hown, hts, hK, hA, hlk, hE, vE⟩ := id C
  intro x1 σ H locs ls hG hl hw
  obtain ⟨hP, hD, hS⟩ := id hG
  refine lv_lload_n hx hb dX9_sayNumber_12 rfl (lv_at hl 1 rfl) ?_
  refine lv_lconst (v := 0) hx hb dX9_sayNumber_13 (by decide) ?_
  refine W.lcmp hx hb dX9_sayNumber_14 ?_
  refine lv_if_ge (tgt := 23) hx hb dX9_sayNumber_15 (by decide) (fun q_ => ?_) (fun q_ => ?_)
  · have hw := hw.1 (lc_ge.mp q_)
    refine lv_lload_n hx hb dX9_sayNumber_23 rfl (lv_at hl 1 rfl) ?_
    exact kB_X9_sayNumber_24 C vM x1 σ _ _ _ hG (lv_sub hl [0] rfl) hw
  · have hw := hw.2 (fun z => q_ (lc_ge.mpr z))
    refine lv_lload_n hx hb dX9_sayNumber_18 rfl (lv_at hl 1 rfl) ?_
    refine lv_lneg hx hb dX9_sayNumber_19 ?_
    refine lv_goto (tgt := 24) hx hb dX9_sayNumber_20 (by decide) ?_
    exact kB_X9_sayNumber_24 C vM (-x1) σ _ _ _ hG (lv_sub hl [0] rfl) hw
set_option maxHeartbeats 4000000 in
set_option maxRecDepth 100000 in
theorem k_X9_sayNumber {p : Program} {l : Launch} {e : Env} {s : State} {m : MethodId} {args : Array Value} {below : List Frame} {meth : Method} {c : Code} {A : Nat → Prop} {E : EnvT} {aK aV : Nat → Nat} {D : va_G} {cA : Nat → ClassId} {h : Nat} {ad : Nat → Nat} (C : mCx p s m args meth c cX9_sayNumber 7 none wgX9_sayNumber RX9 E D cA A) (vM : eMs aK aV E) {post : MS → Prop} :
    ∀ (x1 : Int64) (σ : MS) (H : Heap) (locs : List Loc) (ls : Array Slot), mG D cA h ad A s σ H locs → lv_has ls 7 [(0, .ref h), (1, .long x1)] → wp_X9_sayNumber post x1 σ → W p l e rm_X9_sayNumber s m args below meth c H locs 0 0 (MQ below (va_Qv post (mAt D cA h ad A) A) args s 0 0 A) (F0 m 0 ls []) := by
  obtain ⟨hx, hb, hml, hr, hown, hts, hK, hA, hlk, hE, vE⟩ := id C
  intro x1 σ H locs ls hG hl hw
  obtain ⟨hP, hD, hS⟩ := id hG
  refine lv_lload_n hx hb dX9_sayNumber_0 rfl (lv_at hl 1 rfl) ?_
  refine lv_lconst (v := 0) hx hb dX9_sayNumber_1 (by decide) ?_
  refine W.lcmp hx hb dX9_sayNumber_2 ?_
  refine lv_if_ge (tgt := 12) hx hb dX9_sayNumber_3 (by decide) (fun q_ => ?_) (fun q_ => ?_)
  · have hw := hw.1 (lc_ge.mp q_)
    exact kB_X9_sayNumber_12 C vM x1 σ _ _ _ hG (lv_sub hl [0, 1] rfl) hw
  · have hw := hw.2 (fun z => q_ (lc_ge.mpr z))
    refine lv_aload_n hx hb dX9_sayNumber_6 rfl (lv_at hl 0 rfl) ?_
    refine lv_bipush (v := 45) hx hb dX9_sayNumber_7 (by decide) ?_
    refine mV_v (As := [.int 45]) (rest := []) C (met_X9_say vE vM hw) (va_recv hK hP (ci := 11) (q0 := 0) rfl rfl) (cwV 1 hts (TB_G (TB_4 tw_6_145 tw_6_147 ts_47 tw_1_13) tw_6_148) rfl rfl rfl (by decide +kernel) ⟨by decide, by decide⟩) hP hD hS rfl hl.1 rfl (Nat.le_of_ble_eq_true rfl) dX9_sayNumber_9 ⟨by decide, by decide⟩ (fun σ_8 H locs hw hP hD hS => ?_)
    have hG : mG D cA h ad A s σ_8 H locs := ⟨hP, hD, hS⟩
    exact kB_X9_sayNumber_12 C vM x1 σ_8 _ _ _ hG (lv_sub hl [0, 1] rfl) hw
set_option maxHeartbeats 4000000 in
set_option maxRecDepth 100000 in
theorem met_X9_sayNumber {l : Launch} {E : EnvT} (vE : EnvOk E) {D : va_G} {cA : Nat → ClassId} {h : Nat} {ad : Nat → Nat} {σ : MS} {aK aV : Nat → Nat} (vM : eMs aK aV E) {sz : Nat} {x1 : Int64} {post : MS → Prop} (hw : wp_X9_sayNumber post x1 σ) : Met l yX9_sayNumber wgX9_sayNumber rm_X9_sayNumber (va_Pc [.ref h, .long x1] (mPre E D cA h ad sz σ)) (va_Qv post (mAt D cA h ad (va_A (mW cA h ad σ) sz)) (va_A (mW cA h ad σ) sz)) 0 0 (va_A (mW cA h ad σ) sz) := by
  refine Met.ofW (cc := cX9_sayNumber) (maxL := 7) (ret := none) (by decide +kernel) rfl ?_
  intro p e s m args below meth c s₁ B hml hv
  obtain ⟨rfl, hsz, hP, hK, hD0, hE⟩ := hv
  subst hsz
  have hD := hD0.self (sz := s.heap.size)
  generalize hAe : va_A (mW cA h ad σ) s.heap.size = A at hD hE ⊢
  have hA : ∀ q : Nat, s.heap.size ≤ q → A q := fun q h => by rw [← hAe]; exact Or.inr h
  have hS : va_S A s.heap s.heap [] := va_S.rf
  have C : mCx p s m _ meth c cX9_sayNumber 7 none wgX9_sayNumber RX9 E D cA A := ⟨B.exec, B.bytes, hml, B.returns, findClass_of_methodNamed B.named, atoms_spec (ws := wgX9_sayNumber) B.pre, hK, hA, B.notSynchronized, hE, vE⟩
  have hG : mG D cA h ad A s σ s.heap [] := ⟨hP, hD, hS⟩
  have hl := lv_entry ([.ref h, .long x1]) (n := 7) (Nat.le_of_ble_eq_true rfl)
  rw [lg_entry_eq]
  generalize (lg_sl ([.ref h, .long x1]) ++ List.replicate (7 - (lg_sl ([.ref h, .long x1])).length) Slot.unset).toArray = ls at hl ⊢
  have hl : lv_has ls 7 [(0, .ref h), (1, .long x1)] := hl
  exact k_X9_sayNumber C vM x1 σ _ _ _ hG hl hw
/-! ===== sayPart ===== -/
def rm_X9_sayPart : Room := { frames := 2, cells := 0, slots := 0, locals := 47 }
abbrev wgX9_sayPart : List Cond := .code yX9_sayPart cX9_sayPart 4 none :: TB
def wB_X9_sayPart_186 (post : MS → Prop) (σ : MS) : Prop :=
  post σ
def wB_X9_sayPart_66 (post : MS → Prop) (x2 : Int64) (σ : MS) : Prop :=
  wp_X9_d (fun r_5  => wp_X9_sayNumber (fun σ_8 => wB_X9_sayPart_186 post σ_8) (r_5.toInt64) σ) x2
def wB_X9_sayPart_90 (post : MS → Prop) (x2 : Int64) (σ : MS) : Prop :=
  wp_X9_a (fun r_9  => wp_X9_sayNumber (fun σ_12 => wB_X9_sayPart_186 post σ_12) (r_9.toInt64) σ) x2
def wB_X9_sayPart_114 (post : MS → Prop) (x2 : Int64) (σ : MS) : Prop :=
  wp_X9_b (fun r_13  => wp_X9_sayNumber (fun σ_16 => wB_X9_sayPart_186 post σ_16) (r_13.toInt64) σ) x2
def wB_X9_sayPart_54 (post : MS → Prop) (x1 : Int32) (x2 : Int64) (σ : MS) : Prop :=
  (x1 = 68 → (wB_X9_sayPart_66 post x2 σ)) ∧ (¬ x1 = 68 → ((x1 = 100 → (wB_X9_sayPart_66 post x2 σ)) ∧ (¬ x1 = 100 → ((x1 = 65 → (wB_X9_sayPart_90 post x2 σ)) ∧ (¬ x1 = 65 → ((x1 = 97 → (wB_X9_sayPart_90 post x2 σ)) ∧ (¬ x1 = 97 → ((x1 = 66 → (wB_X9_sayPart_114 post x2 σ)) ∧ (¬ x1 = 66 → ((x1 = 98 → (wB_X9_sayPart_114 post x2 σ)) ∧ (¬ x1 = 98 → ((x1 = 77 → (wp_X9_say (fun σ_22 => wp_X9_say (fun σ_24 => wp_X9_a (fun r_25  => wp_X9_sayNumber (fun σ_28 => wp_X9_say (fun σ_30 => wp_X9_n (fun r_31  => wp_X9_sayNumber (fun σ_34 => wp_X9_say (fun σ_36 => wB_X9_sayPart_186 post σ_36) 41 σ_34) (r_31.toInt64) σ_30) x2) 43 σ_28) (r_25.toInt64) σ_24) x2) 114 σ_22) 40 σ)) ∧ (¬ x1 = 77 → (wp_X9_n (fun r_17  => wp_X9_sayNumber (fun σ_20 => wB_X9_sayPart_186 post σ_20) (r_17.toInt64) σ) x2))))))))))))))
def wB_X9_sayPart_48 (post : MS → Prop) (x1 : Int32) (x2 : Int64) (σ : MS) : Prop :=
  wp_X9_say (fun σ_4 => wB_X9_sayPart_54 post x1 x2 σ_4) 112 σ
def wB_X9_sayPart_24 (post : MS → Prop) (x1 : Int32) (x2 : Int64) (σ : MS) : Prop :=
  (x1 = 100 → (wB_X9_sayPart_48 post x1 x2 σ)) ∧ (¬ x1 = 100 → ((x1 = 97 → (wB_X9_sayPart_48 post x1 x2 σ)) ∧ (¬ x1 = 97 → ((x1 = 98 → (wB_X9_sayPart_48 post x1 x2 σ)) ∧ (¬ x1 = 98 → ((x1 = 80 → (wB_X9_sayPart_48 post x1 x2 σ)) ∧ (¬ x1 = 80 → (wB_X9_sayPart_54 post x1 x2 σ))))))))
def wB_X9_sayPart_18 (post : MS → Prop) (x1 : Int32) (x2 : Int64) (σ : MS) : Prop :=
  wp_X9_say (fun σ_2 => wB_X9_sayPart_24 post x1 x2 σ_2) 114 σ
def wp_X9_sayPart (post : MS → Prop) (x1 : Int32) (x2 : Int64) (σ : MS) : Prop :=
  (x1 = 68 → (wB_X9_sayPart_18 post x1 x2 σ)) ∧ (¬ x1 = 68 → ((x1 = 65 → (wB_X9_sayPart_18 post x1 x2 σ)) ∧ (¬ x1 = 65 → ((x1 = 66 → (wB_X9_sayPart_18 post x1 x2 σ)) ∧ (¬ x1 = 66 → (wB_X9_sayPart_24 post x1 x2 σ))))))
set_option maxHeartbeats 4000000 in
set_option maxRecDepth 100000 in
theorem kB_X9_sayPart_186 {p : Program} {l : Launch} {e : Env} {s : State} {m : MethodId} {args : Array Value} {below : List Frame} {meth : Method} {c : Code} {A : Nat → Prop} {E : EnvT} {aK aV : Nat → Nat} {D : va_G} {cA : Nat → ClassId} {h : Nat} {ad : Nat → Nat} (C : mCx p s m args meth c cX9_sayPart 4 none wgX9_sayPart RX9 E D cA A) (vM : eMs aK aV E) {post : MS → Prop} :
    ∀ (σ : MS) (H : Heap) (locs : List Loc) (ls : Array Slot), mG D cA h ad A s σ H locs → lv_has ls 4 [] → wB_X9_sayPart_186 post σ → W p l e rm_X9_sayPart s m args below meth c H locs 0 0 (MQ below (va_Qv post (mAt D cA h ad A) A) args s 0 0 A) (F0 m 186 ls []) := by
  obtain ⟨hx, hb, hml, hr, hown, hts, hK, hA, hlk, hE, vE⟩ := id C
  intro σ H locs ls hG hl hw
  obtain ⟨hP, hD, hS⟩ := id hG
  exact W.vret hx hb hr (fun t ht hW => ⟨⟨σ, rfl, hw, by rw [ht]; exact hP, va_K.moved hW.alike hK, hD⟩, hS.F ht⟩) hS.2.2 dX9_sayPart_186 hlk
set_option maxHeartbeats 4000000 in
set_option maxRecDepth 100000 in
theorem kB_X9_sayPart_66 {p : Program} {l : Launch} {e : Env} {s : State} {m : MethodId} {args : Array Value} {below : List Frame} {meth : Method} {c : Code} {A : Nat → Prop} {E : EnvT} {aK aV : Nat → Nat} {D : va_G} {cA : Nat → ClassId} {h : Nat} {ad : Nat → Nat} (C : mCx p s m args meth c cX9_sayPart 4 none wgX9_sayPart RX9 E D cA A) (vM : eMs aK aV E) {post : MS → Prop} :
    ∀ (x2 : Int64) (σ : MS) (H : Heap) (locs : List Loc) (ls : Array Slot), mG D cA h ad A s σ H locs → lv_has ls 4 [(0, .ref h), (2, .long x2)] → wB_X9_sayPart_66 post x2 σ → W p l e rm_X9_sayPart s m args below meth c H locs 0 0 (MQ below (va_Qv post (mAt D cA h ad A) A) args s 0 0 A) (F0 m 66 ls []) := by
  obtain ⟨hx, hb, hml, hr, hown, hts, hK, hA, hlk, hE, vE⟩ := id C
  intro x2 σ H locs ls hG hl hw
  obtain ⟨hP, hD, hS⟩ := id hG
  refine lv_aload_n hx hb dX9_sayPart_66 rfl (lv_at hl 0 rfl) ?_
  refine lv_lload_n hx hb dX9_sayPart_67 rfl (lv_at hl 1 rfl) ?_
  refine mS_i (As := [.long x2]) (rest := [.ref h]) C (met_X9_d vE vM hw) (va_cwS 1 hts (TB_G (TB_3 tw_6_136 tw_6_137 tw_1_13) tw_6_138) rfl rfl rfl (by decide +kernel) ⟨by decide, by decide⟩) hP hD hS rfl hl.1 rfl (Nat.le_of_ble_eq_true rfl) dX9_sayPart_68 ⟨by decide, by decide⟩ (fun r_5 H locs hw hP hS => ?_)
  have hG : mG D cA h ad A s σ H locs := ⟨hP, hD, hS⟩
  refine lv_i2l hx hb dX9_sayPart_71 rfl ?_
  refine mV_v (As := [.long (r_5.toInt64)]) (rest := []) C (met_X9_sayNumber vE vM hw) (va_recv hK hP (ci := 11) (q0 := 0) rfl rfl) (cwV 1 hts (TB_G (TB_4 tw_6_149 tw_6_151 ts_48 tw_1_13) tw_6_152) rfl rfl rfl (by decide +kernel) ⟨by decide, by decide⟩) hP hD hS rfl hl.1 rfl (Nat.le_of_ble_eq_true rfl) dX9_sayPart_72 ⟨by decide, by decide⟩ (fun σ_8 H locs hw hP hD hS => ?_)
  have hG : mG D cA h ad A s σ_8 H locs := ⟨hP, hD, hS⟩
  refine lv_goto (tgt := 186) hx hb dX9_sayPart_75 (by decide) ?_
  exact kB_X9_sayPart_186 C vM  σ_8 _ _ _ hG (lv_sub hl [] rfl) hw
set_option maxHeartbeats 4000000 in
set_option maxRecDepth 100000 in
theorem kB_X9_sayPart_90 {p : Program} {l : Launch} {e : Env} {s : State} {m : MethodId} {args : Array Value} {below : List Frame} {meth : Method} {c : Code} {A : Nat → Prop} {E : EnvT} {aK aV : Nat → Nat} {D : va_G} {cA : Nat → ClassId} {h : Nat} {ad : Nat → Nat} (C : mCx p s m args meth c cX9_sayPart 4 none wgX9_sayPart RX9 E D cA A) (vM : eMs aK aV E) {post : MS → Prop} :
    ∀ (x2 : Int64) (σ : MS) (H : Heap) (locs : List Loc) (ls : Array Slot), mG D cA h ad A s σ H locs → lv_has ls 4 [(0, .ref h), (2, .long x2)] → wB_X9_sayPart_90 post x2 σ → W p l e rm_X9_sayPart s m args below meth c H locs 0 0 (MQ below (va_Qv post (mAt D cA h ad A) A) args s 0 0 A) (F0 m 90 ls []) := by
  obtain ⟨hx, hb, hml, hr, hown, hts, hK, hA, hlk, hE, vE⟩ := id C
  intro x2 σ H locs ls hG hl hw
  obtain ⟨hP, hD, hS⟩ := id hG
  refine lv_aload_n hx hb dX9_sayPart_90 rfl (lv_at hl 0 rfl) ?_
  refine lv_lload_n hx hb dX9_sayPart_91 rfl (lv_at hl 1 rfl) ?_
  refine mS_i (As := [.long x2]) (rest := [.ref h]) C (met_X9_a vE vM hw) (va_cwS 1 hts (TB_G (TB_3 tw_6_139 tw_6_140 tw_1_13) tw_6_141) rfl rfl rfl (by decide +kernel) ⟨by decide, by decide⟩) hP hD hS rfl hl.1 rfl (Nat.le_of_ble_eq_true rfl) dX9_sayPart_92 ⟨by decide, by decide⟩ (fun r_9 H locs hw hP hS => ?_)
  have hG : mG D cA h ad A s σ H locs := ⟨hP, hD, hS⟩
  refine lv_i2l hx hb dX9_sayPart_95 rfl ?_
  refine mV_v (As := [.long (r_9.toInt64)]) (rest := []) C (met_X9_sayNumber vE vM hw) (va_recv hK hP (ci := 11) (q0 := 0) rfl rfl) (cwV 1 hts (TB_G (TB_4 tw_6_149 tw_6_151 ts_48 tw_1_13) tw_6_152) rfl rfl rfl (by decide +kernel) ⟨by decide, by decide⟩) hP hD hS rfl hl.1 rfl (Nat.le_of_ble_eq_true rfl) dX9_sayPart_96 ⟨by decide, by decide⟩ (fun σ_12 H locs hw hP hD hS => ?_)
  have hG : mG D cA h ad A s σ_12 H locs := ⟨hP, hD, hS⟩
  refine lv_goto (tgt := 186) hx hb dX9_sayPart_99 (by decide) ?_
  exact kB_X9_sayPart_186 C vM  σ_12 _ _ _ hG (lv_sub hl [] rfl) hw
set_option maxHeartbeats 4000000 in
set_option maxRecDepth 100000 in
theorem kB_X9_sayPart_114 {p : Program} {l : Launch} {e : Env} {s : State} {m : MethodId} {args : Array Value} {below : List Frame} {meth : Method} {c : Code} {A : Nat → Prop} {E : EnvT} {aK aV : Nat → Nat} {D : va_G} {cA : Nat → ClassId} {h : Nat} {ad : Nat → Nat} (C : mCx p s m args meth c cX9_sayPart 4 none wgX9_sayPart RX9 E D cA A) (vM : eMs aK aV E) {post : MS → Prop} :
    ∀ (x2 : Int64) (σ : MS) (H : Heap) (locs : List Loc) (ls : Array Slot), mG D cA h ad A s σ H locs → lv_has ls 4 [(0, .ref h), (2, .long x2)] → wB_X9_sayPart_114 post x2 σ → W p l e rm_X9_sayPart s m args below meth c H locs 0 0 (MQ below (va_Qv post (mAt D cA h ad A) A) args s 0 0 A) (F0 m 114 ls []) := by
  obtain ⟨hx, hb, hml, hr, hown, hts, hK, hA, hlk, hE, vE⟩ := id C
  intro x2 σ H locs ls hG hl hw
  obtain ⟨hP, hD, hS⟩ := id hG
  refine lv_aload_n hx hb dX9_sayPart_114 rfl (lv_at hl 0 rfl) ?_
  refine lv_lload_n hx hb dX9_sayPart_115 rfl (lv_at hl 1 rfl) ?_
  refine mS_i (As := [.long x2]) (rest := [.ref h]) C (met_X9_b vE vM hw) (va_cwS 1 hts (TB_G (TB_3 tw_6_142 tw_6_143 tw_1_13) tw_6_144) rfl rfl rfl (by decide +kernel) ⟨by decide, by decide⟩) hP hD hS rfl hl.1 rfl (Nat.le_of_ble_eq_true rfl) dX9_sayPart_116 ⟨by decide, by decide⟩ (fun r_13 H locs hw hP hS => ?_)
  have hG : mG D cA h ad A s σ H locs := ⟨hP, hD, hS⟩
  refine lv_i2l hx hb dX9_sayPart_119 rfl ?_
  refine mV_v (As := [.long (r_13.toInt64)]) (rest := []) C (met_X9_sayNumber vE vM hw) (va_recv hK hP (ci := 11) (q0 := 0) rfl rfl) (cwV 1 hts (TB_G (TB_4 tw_6_149 tw_6_151 ts_48 tw_1_13) tw_6_152) rfl rfl rfl (by decide +kernel) ⟨by decide, by decide⟩) hP hD hS rfl hl.1 rfl (Nat.le_of_ble_eq_true rfl) dX9_sayPart_120 ⟨by decide, by decide⟩ (fun σ_16 H locs hw hP hD hS => ?_)
  have hG : mG D cA h ad A s σ_16 H locs := ⟨hP, hD, hS⟩
  refine lv_goto (tgt := 186) hx hb dX9_sayPart_123 (by decide) ?_
  exact kB_X9_sayPart_186 C vM  σ_16 _ _ _ hG (lv_sub hl [] rfl) hw
set_option maxHeartbeats 4000000 in
set_option maxRecDepth 100000 in
theorem kB_X9_sayPart_54 {p : Program} {l : Launch} {e : Env} {s : State} {m : MethodId} {args : Array Value} {below : List Frame} {meth : Method} {c : Code} {A : Nat → Prop} {E : EnvT} {aK aV : Nat → Nat} {D : va_G} {cA : Nat → ClassId} {h : Nat} {ad : Nat → Nat} (C : mCx p s m args meth c cX9_sayPart 4 none wgX9_sayPart RX9 E D cA A) (vM : eMs aK aV E) {post : MS → Prop} :
    ∀ (x1 : Int32) (x2 : Int64) (σ : MS) (H : Heap) (locs : List Loc) (ls : Array Slot), mG D cA h ad A s σ H locs → lv_has ls 4 [(0, .ref h), (1, .int x1), (2, .long x2)] → wB_X9_sayPart_54 post x1 x2 σ → W p l e rm_X9_sayPart s m args below meth c H locs 0 0 (MQ below (va_Qv post (mAt D cA h ad A) A) args s 0 0 A) (F0 m 54 ls []) := by
  obtain ⟨hx, hb, hml, hr, hown, hts, hK, hA, hlk, hE, vE⟩ := id C
  intro x1 x2 σ H locs ls hG hl hw
  obtain ⟨hP, hD, hS⟩ := id hG
  refine lv_iload_n hx hb dX9_sayPart_54 rfl (lv_at hl 1 rfl) ?_
  refine lv_bipush (v := 68) hx hb dX9_sayPart_55 (by decide) ?_
  refine lv_icmp_eq (tgt := 66) hx hb dX9_sayPart_57 (by decide) (fun q_ => ?_) (fun q_ => ?_)
  · have hw := hw.1 q_
    exact kB_X9_sayPart_66 C vM x2 σ _ _ _ hG (lv_sub hl [0, 2] rfl) hw
  · have hw := hw.2 q_
    refine lv_iload_n hx hb dX9_sayPart_60 rfl (lv_at hl 1 rfl) ?_
    refine lv_bipush (v := 100) hx hb dX9_sayPart_61 (by decide) ?_
    refine lv_icmp_ne (tgt := 78) hx hb dX9_sayPart_63 (by decide) (fun q_ => ?_) (fun q_ => ?_)
    · have hw := hw.2 q_
      refine lv_iload_n hx hb dX9_sayPart_78 rfl (lv_at hl 1 rfl) ?_
      refine lv_bipush (v := 65) hx hb dX9_sayPart_79 (by decide) ?_
      refine lv_icmp_eq (tgt := 90) hx hb dX9_sayPart_81 (by decide) (fun q_ => ?_) (fun q_ => ?_)
      · have hw := hw.1 q_
        exact kB_X9_sayPart_90 C vM x2 σ _ _ _ hG (lv_sub hl [0, 2] rfl) hw
      · have hw := hw.2 q_
        refine lv_iload_n hx hb dX9_sayPart_84 rfl (lv_at hl 1 rfl) ?_
        refine lv_bipush (v := 97) hx hb dX9_sayPart_85 (by decide) ?_
        refine lv_icmp_ne (tgt := 102) hx hb dX9_sayPart_87 (by decide) (fun q_ => ?_) (fun q_ => ?_)
        · have hw := hw.2 q_
          refine lv_iload_n hx hb dX9_sayPart_102 rfl (lv_at hl 1 rfl) ?_
          refine lv_bipush (v := 66) hx hb dX9_sayPart_103 (by decide) ?_
          refine lv_icmp_eq (tgt := 114) hx hb dX9_sayPart_105 (by decide) (fun q_ => ?_) (fun q_ => ?_)
          · have hw := hw.1 q_
            exact kB_X9_sayPart_114 C vM x2 σ _ _ _ hG (lv_sub hl [0, 2] rfl) hw
          · have hw := hw.2 q_
            refine lv_iload_n hx hb dX9_sayPart_108 rfl (lv_at hl 1 rfl) ?_
            refine lv_bipush (v := 98) hx hb dX9_sayPart_109 (by decide) ?_
            refine lv_icmp_ne (tgt := 126) hx hb dX9_sayPart_111 (by decide) (fun q_ => ?_) (fun q_ => ?_)
            · have hw := hw.2 q_
              refine lv_iload_n hx hb dX9_sayPart_126 rfl (lv_at hl 1 rfl) ?_
              refine lv_bipush (v := 77) hx hb dX9_sayPart_127 (by decide) ?_
              refine lv_icmp_ne (tgt := 177) hx hb dX9_sayPart_129 (by decide) (fun q_ => ?_) (fun q_ => ?_)
              · have hw := hw.2 q_
                refine lv_aload_n hx hb dX9_sayPart_177 rfl (lv_at hl 0 rfl) ?_
                refine lv_lload_n hx hb dX9_sayPart_178 rfl (lv_at hl 2 rfl) ?_
                refine mS_i (As := [.long x2]) (rest := [.ref h]) C (met_X9_n vE vM hw) (va_cwS 1 hts (TB_G (TB_3 tw_6_133 tw_6_134 tw_1_13) tw_6_135) rfl rfl rfl (by decide +kernel) ⟨by decide, by decide⟩) hP hD hS rfl hl.1 rfl (Nat.le_of_ble_eq_true rfl) dX9_sayPart_179 ⟨by decide, by decide⟩ (fun r_17 H locs hw hP hS => ?_)
                have hG : mG D cA h ad A s σ H locs := ⟨hP, hD, hS⟩
                refine lv_i2l hx hb dX9_sayPart_182 rfl ?_
                refine mV_v (As := [.long (r_17.toInt64)]) (rest := []) C (met_X9_sayNumber vE vM hw) (va_recv hK hP (ci := 11) (q0 := 0) rfl rfl) (cwV 1 hts (TB_G (TB_4 tw_6_149 tw_6_151 ts_48 tw_1_13) tw_6_152) rfl rfl rfl (by decide +kernel) ⟨by decide, by decide⟩) hP hD hS rfl hl.1 rfl (Nat.le_of_ble_eq_true rfl) dX9_sayPart_183 ⟨by decide, by decide⟩ (fun σ_20 H locs hw hP hD hS => ?_)
                have hG : mG D cA h ad A s σ_20 H locs := ⟨hP, hD, hS⟩
                exact kB_X9_sayPart_186 C vM  σ_20 _ _ _ hG (lv_sub hl [] rfl) hw
              · have hw := hw.1 q_
                refine lv_aload_n hx hb dX9_sayPart_132 rfl (lv_at hl 0 rfl) ?_
                refine lv_bipush (v := 40) hx hb dX9_sayPart_133 (by decide) ?_
                refine mV_v (As := [.int 40]) (rest := []) C (met_X9_say vE vM hw) (va_recv hK hP (ci := 11) (q0 := 0) rfl rfl) (cwV 1 hts (TB_G (TB_4 tw_6_145 tw_6_147 ts_47 tw_1_13) tw_6_148) rfl rfl rfl (by decide +kernel) ⟨by decide, by decide⟩) hP hD hS rfl hl.1 rfl (Nat.le_of_ble_eq_true rfl) dX9_sayPart_135 ⟨by decide, by decide⟩ (fun σ_22 H locs hw hP hD hS => ?_)
                have hG : mG D cA h ad A s σ_22 H locs := ⟨hP, hD, hS⟩
                refine lv_aload_n hx hb dX9_sayPart_138 rfl (lv_at hl 0 rfl) ?_
                refine lv_bipush (v := 114) hx hb dX9_sayPart_139 (by decide) ?_
                refine mV_v (As := [.int 114]) (rest := []) C (met_X9_say vE vM hw) (va_recv hK hP (ci := 11) (q0 := 0) rfl rfl) (cwV 1 hts (TB_G (TB_4 tw_6_145 tw_6_147 ts_47 tw_1_13) tw_6_148) rfl rfl rfl (by decide +kernel) ⟨by decide, by decide⟩) hP hD hS rfl hl.1 rfl (Nat.le_of_ble_eq_true rfl) dX9_sayPart_141 ⟨by decide, by decide⟩ (fun σ_24 H locs hw hP hD hS => ?_)
                have hG : mG D cA h ad A s σ_24 H locs := ⟨hP, hD, hS⟩
                refine lv_aload_n hx hb dX9_sayPart_144 rfl (lv_at hl 0 rfl) ?_
                refine lv_lload_n hx hb dX9_sayPart_145 rfl (lv_at hl 2 rfl) ?_
                refine mS_i (As := [.long x2]) (rest := [.ref h]) C (met_X9_a vE vM hw) (va_cwS 1 hts (TB_G (TB_3 tw_6_139 tw_6_140 tw_1_13) tw_6_141) rfl rfl rfl (by decide +kernel) ⟨by decide, by decide⟩) hP hD hS rfl hl.1 rfl (Nat.le_of_ble_eq_true rfl) dX9_sayPart_146 ⟨by decide, by decide⟩ (fun r_25 H locs hw hP hS => ?_)
                have hG : mG D cA h ad A s σ_24 H locs := ⟨hP, hD, hS⟩
                refine lv_i2l hx hb dX9_sayPart_149 rfl ?_
                refine mV_v (As := [.long (r_25.toInt64)]) (rest := []) C (met_X9_sayNumber vE vM hw) (va_recv hK hP (ci := 11) (q0 := 0) rfl rfl) (cwV 1 hts (TB_G (TB_4 tw_6_149 tw_6_151 ts_48 tw_1_13) tw_6_152) rfl rfl rfl (by decide +kernel) ⟨by decide, by decide⟩) hP hD hS rfl hl.1 rfl (Nat.le_of_ble_eq_true rfl) dX9_sayPart_150 ⟨by decide, by decide⟩ (fun σ_28 H locs hw hP hD hS => ?_)
                have hG : mG D cA h ad A s σ_28 H locs := ⟨hP, hD, hS⟩
                refine lv_aload_n hx hb dX9_sayPart_153 rfl (lv_at hl 0 rfl) ?_
                refine lv_bipush (v := 43) hx hb dX9_sayPart_154 (by decide) ?_
                refine mV_v (As := [.int 43]) (rest := []) C (met_X9_say vE vM hw) (va_recv hK hP (ci := 11) (q0 := 0) rfl rfl) (cwV 1 hts (TB_G (TB_4 tw_6_145 tw_6_147 ts_47 tw_1_13) tw_6_148) rfl rfl rfl (by decide +kernel) ⟨by decide, by decide⟩) hP hD hS rfl hl.1 rfl (Nat.le_of_ble_eq_true rfl) dX9_sayPart_156 ⟨by decide, by decide⟩ (fun σ_30 H locs hw hP hD hS => ?_)
                have hG : mG D cA h ad A s σ_30 H locs := ⟨hP, hD, hS⟩
                refine lv_aload_n hx hb dX9_sayPart_159 rfl (lv_at hl 0 rfl) ?_
                refine lv_lload_n hx hb dX9_sayPart_160 rfl (lv_at hl 2 rfl) ?_
                refine mS_i (As := [.long x2]) (rest := [.ref h]) C (met_X9_n vE vM hw) (va_cwS 1 hts (TB_G (TB_3 tw_6_133 tw_6_134 tw_1_13) tw_6_135) rfl rfl rfl (by decide +kernel) ⟨by decide, by decide⟩) hP hD hS rfl hl.1 rfl (Nat.le_of_ble_eq_true rfl) dX9_sayPart_161 ⟨by decide, by decide⟩ (fun r_31 H locs hw hP hS => ?_)
                have hG : mG D cA h ad A s σ_30 H locs := ⟨hP, hD, hS⟩
                refine lv_i2l hx hb dX9_sayPart_164 rfl ?_
                refine mV_v (As := [.long (r_31.toInt64)]) (rest := []) C (met_X9_sayNumber vE vM hw) (va_recv hK hP (ci := 11) (q0 := 0) rfl rfl) (cwV 1 hts (TB_G (TB_4 tw_6_149 tw_6_151 ts_48 tw_1_13) tw_6_152) rfl rfl rfl (by decide +kernel) ⟨by decide, by decide⟩) hP hD hS rfl hl.1 rfl (Nat.le_of_ble_eq_true rfl) dX9_sayPart_165 ⟨by decide, by decide⟩ (fun σ_34 H locs hw hP hD hS => ?_)
                have hG : mG D cA h ad A s σ_34 H locs := ⟨hP, hD, hS⟩
                refine lv_aload_n hx hb dX9_sayPart_168 rfl (lv_at hl 0 rfl) ?_
                refine lv_bipush (v := 41) hx hb dX9_sayPart_169 (by decide) ?_
                refine mV_v (As := [.int 41]) (rest := []) C (met_X9_say vE vM hw) (va_recv hK hP (ci := 11) (q0 := 0) rfl rfl) (cwV 1 hts (TB_G (TB_4 tw_6_145 tw_6_147 ts_47 tw_1_13) tw_6_148) rfl rfl rfl (by decide +kernel) ⟨by decide, by decide⟩) hP hD hS rfl hl.1 rfl (Nat.le_of_ble_eq_true rfl) dX9_sayPart_171 ⟨by decide, by decide⟩ (fun σ_36 H locs hw hP hD hS => ?_)
                have hG : mG D cA h ad A s σ_36 H locs := ⟨hP, hD, hS⟩
                refine lv_goto (tgt := 186) hx hb dX9_sayPart_174 (by decide) ?_
                exact kB_X9_sayPart_186 C vM  σ_36 _ _ _ hG (lv_sub hl [] rfl) hw
            · have hw := hw.1 q_
              exact kB_X9_sayPart_114 C vM x2 σ _ _ _ hG (lv_sub hl [0, 2] rfl) hw
        · have hw := hw.1 q_
          exact kB_X9_sayPart_90 C vM x2 σ _ _ _ hG (lv_sub hl [0, 2] rfl) hw
    · have hw := hw.1 q_
      exact kB_X9_sayPart_66 C vM x2 σ _ _ _ hG (lv_sub hl [0, 2] rfl) hw
set_option maxHeartbeats 4000000 in
set_option maxRecDepth 100000 in
theorem kB_X9_sayPart_48 {p : Program} {l : Launch} {e : Env} {s : State} {m : MethodId} {args : Array Value} {below : List Frame} {meth : Method} {c : Code} {A : Nat → Prop} {E : EnvT} {aK aV : Nat → Nat} {D : va_G} {cA : Nat → ClassId} {h : Nat} {ad : Nat → Nat} (C : mCx p s m args meth c cX9_sayPart 4 none wgX9_sayPart RX9 E D cA A) (vM : eMs aK aV E) {post : MS → Prop} :
    ∀ (x1 : Int32) (x2 : Int64) (σ : MS) (H : Heap) (locs : List Loc) (ls : Array Slot), mG D cA h ad A s σ H locs → lv_has ls 4 [(0, .ref h), (1, .int x1), (2, .long x2)] → wB_X9_sayPart_48 post x1 x2 σ → W p l e rm_X9_sayPart s m args below meth c H locs 0 0 (MQ below (va_Qv post (mAt D cA h ad A) A) args s 0 0 A) (F0 m 48 ls []) := by
  obtain ⟨hx, hb, hml, hr, hown, hts, hK, hA, hlk, hE, vE⟩ := id C
  intro x1 x2 σ H locs ls hG hl hw
  obtain ⟨hP, hD, hS⟩ := id hG
  refine lv_aload_n hx hb dX9_sayPart_48 rfl (lv_at hl 0 rfl) ?_
  refine lv_bipush (v := 112) hx hb dX9_sayPart_49 (by decide) ?_
  refine mV_v (As := [.int 112]) (rest := []) C (met_X9_say vE vM hw) (va_recv hK hP (ci := 11) (q0 := 0) rfl rfl) (cwV 1 hts (TB_G (TB_4 tw_6_145 tw_6_147 ts_47 tw_1_13) tw_6_148) rfl rfl rfl (by decide +kernel) ⟨by decide, by decide⟩) hP hD hS rfl hl.1 rfl (Nat.le_of_ble_eq_true rfl) dX9_sayPart_51 ⟨by decide, by decide⟩ (fun σ_4 H locs hw hP hD hS => ?_)
  have hG : mG D cA h ad A s σ_4 H locs := ⟨hP, hD, hS⟩
  exact kB_X9_sayPart_54 C vM x1 x2 σ_4 _ _ _ hG (lv_sub hl [0, 1, 2] rfl) hw
set_option maxHeartbeats 4000000 in
set_option maxRecDepth 100000 in
theorem kB_X9_sayPart_24 {p : Program} {l : Launch} {e : Env} {s : State} {m : MethodId} {args : Array Value} {below : List Frame} {meth : Method} {c : Code} {A : Nat → Prop} {E : EnvT} {aK aV : Nat → Nat} {D : va_G} {cA : Nat → ClassId} {h : Nat} {ad : Nat → Nat} (C : mCx p s m args meth c cX9_sayPart 4 none wgX9_sayPart RX9 E D cA A) (vM : eMs aK aV E) {post : MS → Prop} :
    ∀ (x1 : Int32) (x2 : Int64) (σ : MS) (H : Heap) (locs : List Loc) (ls : Array Slot), mG D cA h ad A s σ H locs → lv_has ls 4 [(0, .ref h), (1, .int x1), (2, .long x2)] → wB_X9_sayPart_24 post x1 x2 σ → W p l e rm_X9_sayPart s m args below meth c H locs 0 0 (MQ below (va_Qv post (mAt D cA h ad A) A) args s 0 0 A) (F0 m 24 ls []) := by
  obtain ⟨hx, hb, hml, hr, hown, hts, hK, hA, hlk, hE, vE⟩ := id C
  intro x1 x2 σ H locs ls hG hl hw
  obtain ⟨hP, hD, hS⟩ := id hG
  refine lv_iload_n hx hb dX9_sayPart_24 rfl (lv_at hl 1 rfl) ?_
  refine lv_bipush (v := 100) hx hb dX9_sayPart_25 (by decide) ?_
  refine lv_icmp_eq (tgt := 48) hx hb dX9_sayPart_27 (by decide) (fun q_ => ?_) (fun q_ => ?_)
  · have hw := hw.1 q_
    exact kB_X9_sayPart_48 C vM x1 x2 σ _ _ _ hG (lv_sub hl [0, 1, 2] rfl) hw
  · have hw := hw.2 q_
    refine lv_iload_n hx hb dX9_sayPart_30 rfl (lv_at hl 1 rfl) ?_
    refine lv_bipush (v := 97) hx hb dX9_sayPart_31 (by decide) ?_
    refine lv_icmp_eq (tgt := 48) hx hb dX9_sayPart_33 (by decide) (fun q_ => ?_) (fun q_ => ?_)
    · have hw := hw.1 q_
      exact kB_X9_sayPart_48 C vM x1 x2 σ _ _ _ hG (lv_sub hl [0, 1, 2] rfl) hw
    · have hw := hw.2 q_
      refine lv_iload_n hx hb dX9_sayPart_36 rfl (lv_at hl 1 rfl) ?_
      refine lv_bipush (v := 98) hx hb dX9_sayPart_37 (by decide) ?_
      refine lv_icmp_eq (tgt := 48) hx hb dX9_sayPart_39 (by decide) (fun q_ => ?_) (fun q_ => ?_)
      · have hw := hw.1 q_
        exact kB_X9_sayPart_48 C vM x1 x2 σ _ _ _ hG (lv_sub hl [0, 1, 2] rfl) hw
      · have hw := hw.2 q_
        refine lv_iload_n hx hb dX9_sayPart_42 rfl (lv_at hl 1 rfl) ?_
        refine lv_bipush (v := 80) hx hb dX9_sayPart_43 (by decide) ?_
        refine lv_icmp_ne (tgt := 54) hx hb dX9_sayPart_45 (by decide) (fun q_ => ?_) (fun q_ => ?_)
        · have hw := hw.2 q_
          exact kB_X9_sayPart_54 C vM x1 x2 σ _ _ _ hG (lv_sub hl [0, 1, 2] rfl) hw
        · have hw := hw.1 q_
          exact kB_X9_sayPart_48 C vM x1 x2 σ _ _ _ hG (lv_sub hl [0, 1, 2] rfl) hw
set_option maxHeartbeats 4000000 in
set_option maxRecDepth 100000 in
theorem kB_X9_sayPart_18 {p : Program} {l : Launch} {e : Env} {s : State} {m : MethodId} {args : Array Value} {below : List Frame} {meth : Method} {c : Code} {A : Nat → Prop} {E : EnvT} {aK aV : Nat → Nat} {D : va_G} {cA : Nat → ClassId} {h : Nat} {ad : Nat → Nat} (C : mCx p s m args meth c cX9_sayPart 4 none wgX9_sayPart RX9 E D cA A) (vM : eMs aK aV E) {post : MS → Prop} :
    ∀ (x1 : Int32) (x2 : Int64) (σ : MS) (H : Heap) (locs : List Loc) (ls : Array Slot), mG D cA h ad A s σ H locs → lv_has ls 4 [(0, .ref h), (1, .int x1), (2, .long x2)] → wB_X9_sayPart_18 post x1 x2 σ → W p l e rm_X9_sayPart s m args below meth c H locs 0 0 (MQ below (va_Qv post (mAt D cA h ad A) A) args s 0 0 A) (F0 m 18 ls []) := by
  obtain ⟨hx, hb, hml, hr, hown, hts, hK, hA, hlk, hE, vE⟩ := id C
  intro x1 x2 σ H locs ls hG hl hw
  obtain ⟨hP, hD, hS⟩ := id hG
  refine lv_aload_n hx hb dX9_sayPart_18 rfl (lv_at hl 0 rfl) ?_
  refine lv_bipush (v := 114) hx hb dX9_sayPart_19 (by decide) ?_
  refine mV_v (As := [.int 114]) (rest := []) C (met_X9_say vE vM hw) (va_recv hK hP (ci := 11) (q0 := 0) rfl rfl) (cwV 1 hts (TB_G (TB_4 tw_6_145 tw_6_147 ts_47 tw_1_13) tw_6_148) rfl rfl rfl (by decide +kernel) ⟨by decide, by decide⟩) hP hD hS rfl hl.1 rfl (Nat.le_of_ble_eq_true rfl) dX9_sayPart_21 ⟨by decide, by decide⟩ (fun σ_2 H locs hw hP hD hS => ?_)
  have hG : mG D cA h ad A s σ_2 H locs := ⟨hP, hD, hS⟩
  exact kB_X9_sayPart_24 C vM x1 x2 σ_2 _ _ _ hG (lv_sub hl [0, 1, 2] rfl) hw
set_option maxHeartbeats 4000000 in
set_option maxRecDepth 100000 in
theorem k_X9_sayPart {p : Program} {l : Launch} {e : Env} {s : State} {m : MethodId} {args : Array Value} {below : List Frame} {meth : Method} {c : Code} {A : Nat → Prop} {E : EnvT} {aK aV : Nat → Nat} {D : va_G} {cA : Nat → ClassId} {h : Nat} {ad : Nat → Nat} (C : mCx p s m args meth c cX9_sayPart 4 none wgX9_sayPart RX9 E D cA A) (vM : eMs aK aV E) {post : MS → Prop} :
    ∀ (x1 : Int32) (x2 : Int64) (σ : MS) (H : Heap) (locs : List Loc) (ls : Array Slot), mG D cA h ad A s σ H locs → lv_has ls 4 [(0, .ref h), (1, .int x1), (2, .long x2)] → wp_X9_sayPart post x1 x2 σ → W p l e rm_X9_sayPart s m args below meth c H locs 0 0 (MQ below (va_Qv post (mAt D cA h ad A) A) args s 0 0 A) (F0 m 0 ls []) := by
  obtain ⟨hx, hb, hml, hr, hown, hts, hK, hA, hlk, hE, vE⟩ := id C
  intro x1 x2 σ H locs ls hG hl hw
  obtain ⟨hP, hD, hS⟩ := id hG
  refine lv_iload_n hx hb dX9_sayPart_0 rfl (lv_at hl 1 rfl) ?_
  refine lv_bipush (v := 68) hx hb dX9_sayPart_1 (by decide) ?_
  refine lv_icmp_eq (tgt := 18) hx hb dX9_sayPart_3 (by decide) (fun q_ => ?_) (fun q_ => ?_)
  · have hw := hw.1 q_
    exact kB_X9_sayPart_18 C vM x1 x2 σ _ _ _ hG (lv_sub hl [0, 1, 2] rfl) hw
  · have hw := hw.2 q_
    refine lv_iload_n hx hb dX9_sayPart_6 rfl (lv_at hl 1 rfl) ?_
    refine lv_bipush (v := 65) hx hb dX9_sayPart_7 (by decide) ?_
    refine lv_icmp_eq (tgt := 18) hx hb dX9_sayPart_9 (by decide) (fun q_ => ?_) (fun q_ => ?_)
    · have hw := hw.1 q_
      exact kB_X9_sayPart_18 C vM x1 x2 σ _ _ _ hG (lv_sub hl [0, 1, 2] rfl) hw
    · have hw := hw.2 q_
      refine lv_iload_n hx hb dX9_sayPart_12 rfl (lv_at hl 1 rfl) ?_
      refine lv_bipush (v := 66) hx hb dX9_sayPart_13 (by decide) ?_
      refine lv_icmp_ne (tgt := 24) hx hb dX9_sayPart_15 (by decide) (fun q_ => ?_) (fun q_ => ?_)
      · have hw := hw.2 q_
        exact kB_X9_sayPart_24 C vM x1 x2 σ _ _ _ hG (lv_sub hl [0, 1, 2] rfl) hw
      · have hw := hw.1 q_
        exact kB_X9_sayPart_18 C vM x1 x2 σ _ _ _ hG (lv_sub hl [0, 1, 2] rfl) hw
set_option maxHeartbeats 4000000 in
set_option maxRecDepth 100000 in
theorem met_X9_sayPart {l : Launch} {E : EnvT} (vE : EnvOk E) {D : va_G} {cA : Nat → ClassId} {h : Nat} {ad : Nat → Nat} {σ : MS} {aK aV : Nat → Nat} (vM : eMs aK aV E) {sz : Nat} {x1 : Int32} {x2 : Int64} {post : MS → Prop} (hw : wp_X9_sayPart post x1 x2 σ) : Met l yX9_sayPart wgX9_sayPart rm_X9_sayPart (va_Pc [.ref h, .int x1, .long x2] (mPre E D cA h ad sz σ)) (va_Qv post (mAt D cA h ad (va_A (mW cA h ad σ) sz)) (va_A (mW cA h ad σ) sz)) 0 0 (va_A (mW cA h ad σ) sz) := by
  refine Met.ofW (cc := cX9_sayPart) (maxL := 4) (ret := none) (by decide +kernel) rfl ?_
  intro p e s m args below meth c s₁ B hml hv
  obtain ⟨rfl, hsz, hP, hK, hD0, hE⟩ := hv
  subst hsz
  have hD := hD0.self (sz := s.heap.size)
  generalize hAe : va_A (mW cA h ad σ) s.heap.size = A at hD hE ⊢
  have hA : ∀ q : Nat, s.heap.size ≤ q → A q := fun q h => by rw [← hAe]; exact Or.inr h
  have hS : va_S A s.heap s.heap [] := va_S.rf
  have C : mCx p s m _ meth c cX9_sayPart 4 none wgX9_sayPart RX9 E D cA A := ⟨B.exec, B.bytes, hml, B.returns, findClass_of_methodNamed B.named, atoms_spec (ws := wgX9_sayPart) B.pre, hK, hA, B.notSynchronized, hE, vE⟩
  have hG : mG D cA h ad A s σ s.heap [] := ⟨hP, hD, hS⟩
  have hl := lv_entry ([.ref h, .int x1, .long x2]) (n := 4) (Nat.le_of_ble_eq_true rfl)
  rw [lg_entry_eq]
  generalize (lg_sl ([.ref h, .int x1, .long x2]) ++ List.replicate (4 - (lg_sl ([.ref h, .int x1, .long x2])).length) Slot.unset).toArray = ls at hl ⊢
  have hl : lv_has ls 4 [(0, .ref h), (1, .int x1), (2, .long x2)] := hl
  exact k_X9_sayPart C vM x1 x2 σ _ _ _ hG hl hw
