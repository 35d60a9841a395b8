def isC (v : Int32) : Prop := narrow .char (.int v) = .int v
def isB (v : Int32) : Prop := v = 0 ∨ v = 1
theorem isB.n {v : Int32} (h : isB v) : narrow .boolean (.int v) = .int v := by rcases h with rfl | rfl <;> rfl
theorem isB.f {v : Int32} (h : isB v) : fits .boolean (.int v) = true := by rcases h with rfl | rfl <;> rfl
theorem lc_eq {x y : Int64} : lg_cmp x y = 0 ↔ x = y := by
  unfold lg_cmp
  by_cases h1 : x > y
  · rw [if_pos h1]
    exact ⟨fun z => absurd z (by decide), fun z => absurd (show y < x from h1) (by rw [z]; exact Int64.lt_irrefl)⟩
  · rw [if_neg h1]
    by_cases h2 : x = y
    · rw [if_pos h2]; exact ⟨fun _ => h2, fun _ => rfl⟩
    · rw [if_neg h2]; exact ⟨fun z => absurd z (by decide), fun z => absurd z h2⟩
theorem lc_gt {x y : Int64} : 0 < lg_cmp x y ↔ y < x := by
  unfold lg_cmp
  by_cases h1 : x > y
  · rw [if_pos h1]; exact ⟨fun _ => h1, fun _ => by decide⟩
  · rw [if_neg h1]
    refine ⟨fun z => ?_, fun z => absurd z h1⟩
    split at z <;> exact absurd z (by decide)
theorem lc_le {x y : Int64} : lg_cmp x y ≤ 0 ↔ x ≤ y := by
  rw [← Int32.not_lt, lc_gt, Int64.not_lt]
theorem lc_lt {x y : Int64} : lg_cmp x y < 0 ↔ x < y := by
  unfold lg_cmp
  by_cases h1 : x > y
  · rw [if_pos h1]; exact ⟨fun z => absurd z (by decide), fun z => absurd z (Int64.not_lt.mpr (Int64.le_of_lt h1))⟩
  · rw [if_neg h1]
    by_cases h2 : x = y
    · rw [if_pos h2]; exact ⟨fun z => absurd z (by decide), fun z => absurd z (by rw [h2]; exact Int64.lt_irrefl)⟩
    · rw [if_neg h2]; exact ⟨fun _ => Int64.lt_of_le_of_ne (Int64.not_lt.mp h1) h2, fun _ => by decide⟩
theorem lc_ge {x y : Int64} : 0 ≤ lg_cmp x y ↔ y ≤ x := by
  rw [← Int32.not_lt, lc_lt, Int64.not_lt]
theorem in_tb {C : String} {T : u_T} {N : Nat} {a : Cond} (h : ∀ w ∈ u_ws C T N, w ∈ TB) : ∀ w ∈ u_ws C T N, w ∈ a :: TB := fun w q => List.mem_cons_of_mem _ (h w q)

/-! ===== raise ===== -/
def rm_X9_raise : Room := { frames := 0, cells := 0, slots := 0, locals := 0 }
abbrev wgX9_raise : List Cond := .code yX9_raise cX9_raise 2 (some .int) :: TB
def wp_X9_raise (post : Int32 → MS → Prop) (x1 : Int32) (σ : MS) : Prop :=
  post 0 (wI σ 0 x1)
set_option maxHeartbeats 4000000 in
set_option maxRecDepth 100000 in
theorem k_X9_raise {p : Program} {l : Launch} {e : Env} {s : State} {m : MethodId} {args : Array Value} {below : List Frame} {meth : Method} {c : Code} {A : Nat → Prop} {E : EnvT} {aK aV : Nat → Nat} {D : va_G} {cA : Nat → ClassId} {h : Nat} {ad : Nat → Nat} (C : mCx p s m args meth c cX9_raise 2 (some .int) wgX9_raise RX9 E D cA A) (vM : eMs aK aV E) {post : Int32 → MS → Prop} :
    ∀ (x1 : Int32) (σ : MS) (H : Heap) (locs : List Loc) (ls : Array Slot), mG D cA h ad A s σ H locs → lv_has ls 2 [(0, .ref h), (1, .int x1)] → wp_X9_raise post x1 σ → W p l e rm_X9_raise s m args below meth c H locs 0 0 (MQ below (va_Qi post (mAt D cA h ad A) A) args s 0 0 A) (F0 m 0 ls []) := by
  obtain ⟨hx, hb, hml, hr, hown, hts, hK, hA, hlk, hE, vE⟩ := id C
  intro x1 σ H locs ls hG hl hw
  obtain ⟨hP, hD, hS⟩ := id hG
  refine lv_aload_n hx hb dX9_raise_0 rfl (lv_at hl 0 rfl) ?_
  refine lv_iload_n hx hb dX9_raise_1 rfl (lv_at hl 1 rfl) ?_
  refine va_put (D := D) (ci := 11) (v := .int x1) (ty := .int) (C := RX9) (T := TX9) (N := 32) hx hb hts (in_tb inX9) tyX9 tyX9_ok nmX9 hown hK hP hD hS 0 rfl rfl 0 (by decide) (hts _ (List.mem_cons_of_mem _ tw_5_110)) (fun _ h9 => h9) rfl (by decide +kernel) rfl rfl (Nat.le_of_ble_eq_true rfl) dX9_raise_2 (fun H locs hP hD hS => ?_)
  have hG : mG D cA h ad A s (wI σ 0 x1) H locs := ⟨hP, hD, hS⟩
  obtain ⟨hP, hD, hS⟩ := id hG
  refine lv_iconst (v := 0) hx hb dX9_raise_5 (by decide) ?_
  exact W.iret (v := 0) hx hb hr (fun t ht hW => ⟨⟨_, (wI σ 0 x1), rfl, hw, by rw [ht]; exact hP, va_K.moved hW.alike hK, hD⟩, hS.F ht⟩) hS.2.2 dX9_raise_6 hlk
set_option maxHeartbeats 4000000 in
set_option maxRecDepth 100000 in
theorem met_X9_raise {l : Launch} {E : EnvT} (vE : EnvOk E) {D : va_G} {cA : Nat → ClassId} {h : Nat} {ad : Nat → Nat} {σ : MS} {aK aV : Nat → Nat} (vM : eMs aK aV E) {sz : Nat} {x1 : Int32} {post : Int32 → MS → Prop} (hw : wp_X9_raise post x1 σ) : Met l yX9_raise wgX9_raise rm_X9_raise (va_Pc [.ref h, .int x1] (mPre E D cA h ad sz σ)) (va_Qi post (mAt D cA h ad (va_A (mW cA h ad σ) sz)) (va_A (mW cA h ad σ) sz)) 0 0 (va_A (mW cA h ad σ) sz) := by
  refine Met.ofW (cc := cX9_raise) (maxL := 2) (ret := (some .int)) (by decide +kernel) rfl ?_
  intro p e s m args below meth c s₁ B hml hv
  obtain ⟨rfl, hsz, hP, hK, hD0, hE⟩ := hv
  subst hsz
  have hD := hD0.self (sz := s.heap.size)
  generalize hAe : va_A (mW cA h ad σ) s.heap.size = A at hD hE ⊢
  have hA : ∀ q : Nat, s.heap.size ≤ q → A q := fun q h => by rw [← hAe]; exact Or.inr h
  have hS : va_S A s.heap s.heap [] := va_S.rf
  have C : mCx p s m _ meth c cX9_raise 2 (some .int) wgX9_raise RX9 E D cA A := ⟨B.exec, B.bytes, hml, B.returns, findClass_of_methodNamed B.named, atoms_spec (ws := wgX9_raise) B.pre, hK, hA, B.notSynchronized, hE, vE⟩
  have hG : mG D cA h ad A s σ s.heap [] := ⟨hP, hD, hS⟩
  have hl := lv_entry ([.ref h, .int x1]) (n := 2) (Nat.le_of_ble_eq_true rfl)
  rw [lg_entry_eq]
  generalize (lg_sl ([.ref h, .int x1]) ++ List.replicate (2 - (lg_sl ([.ref h, .int x1])).length) Slot.unset).toArray = ls at hl ⊢
  have hl : lv_has ls 2 [(0, .ref h), (1, .int x1)] := hl
  exact k_X9_raise C vM x1 σ _ _ _ hG hl hw
/-! ===== type ===== -/
def rm_X9_type : Room := { frames := 0, cells := 0, slots := 0, locals := 0 }
abbrev wgX9_type : List Cond := .code yX9_type cX9_type 6 (some .boolean) :: TB
def wB_X9_type_28 (post : Int32 → MS → Prop) (σ : MS) : Prop :=
  post 0 σ
def wB_X9_type_80 (post : Int32 → MS → Prop) (k80 : Int64 → Int32 → MS → Prop) (x1 : Int64) (x4 : Int32) (σ : MS) : Prop :=
  (x4 < 0 → (post 1 σ)) ∧ (¬ x4 < 0 → (vp_in (mI σ 2) 700 ∧ (∀ x4_3 : Int32, x4_3 = x4 + (-1) → k80 x1 x4_3 (wI (wA σ 1 (mI σ 2).toNatClampNeg (((x1 >>> ((8 * x4).toInt64 &&& 63)) &&& 255).toInt32)) 2 ((mI σ 2) + 1)))))
def wL_X9_type_80 (post : Int32 → MS → Prop) : Nat → Int64 → Int32 → MS → Prop
  | 0 => fun _ _ _ => False
  | n + 1 => wB_X9_type_80 post (wL_X9_type_80 post n)
def wB_X9_type_67 (post : Int32 → MS → Prop) (σ : MS) : Prop :=
  post 0 σ
def wB_X9_type_33 (post : Int32 → MS → Prop) (k33 : Int64 → Int32 → Int32 → MS → Prop) (x1 : Int64) (x3 : Int32) (x4 : Int32) (σ : MS) : Prop :=
  (x3 ≤ x4 → (∀ x4_1 : Int32, x4_1 = x3 - 1 → ∃ n, wL_X9_type_80 post n x1 x4_1 σ)) ∧ (¬ x3 ≤ x4 → (∀ x5_4 : Int32, x5_4 = ((x1 >>> ((8 * x4).toInt64 &&& 63)) &&& 255).toInt32 → (x5_4 < 32 → (wB_X9_type_67 post σ)) ∧ (¬ x5_4 < 32 → ((x5_4 ≤ 126 → (∀ x4_5 : Int32, x4_5 = x4 + 1 → k33 x1 x3 x4_5 σ)) ∧ (¬ x5_4 ≤ 126 → (wB_X9_type_67 post σ))))))
def wL_X9_type_33 (post : Int32 → MS → Prop) : Nat → Int64 → Int32 → Int32 → MS → Prop
  | 0 => fun _ _ _ _ => False
  | n + 1 => wB_X9_type_33 post (wL_X9_type_33 post n)
def wp_X9_type (post : Int32 → MS → Prop) (x1 : Int64) (x3 : Int32) (σ : MS) : Prop :=
  (x3 < 1 → (wB_X9_type_28 post (wI σ 0 0))) ∧ (¬ x3 < 1 → ((8 < x3 → (wB_X9_type_28 post (wI σ 0 0))) ∧ (¬ 8 < x3 → ((((mI σ 2) + x3) ≤ 700 → (∃ n, wL_X9_type_33 post n x1 x3 0 (wI σ 0 0))) ∧ (¬ ((mI σ 2) + x3) ≤ 700 → (wB_X9_type_28 post (wI σ 0 0)))))))
set_option maxHeartbeats 4000000 in
set_option maxRecDepth 100000 in
theorem kB_X9_type_28 {p : Program} {l : Launch} {e : Env} {s : State} {m : MethodId} {args : Array Value} {below : List Frame} {meth : Method} {c : Code} {A : Nat → Prop} {E : EnvT} {aK aV : Nat → Nat} {D : va_G} {cA : Nat → ClassId} {h : Nat} {ad : Nat → Nat} (C : mCx p s m args meth c cX9_type 6 (some .boolean) wgX9_type RX9 E D cA A) (vM : eMs aK aV E) {post : Int32 → MS → Prop} :
    ∀ (σ : MS) (H : Heap) (locs : List Loc) (ls : Array Slot), mG D cA h ad A s σ H locs → lv_has ls 6 [] → wB_X9_type_28 post σ → W p l e rm_X9_type s m args below meth c H locs 0 0 (MQ below (va_Qi post (mAt D cA h ad A) A) args s 0 0 A) (F0 m 28 ls []) := by
  obtain ⟨hx, hb, hml, hr, hown, hts, hK, hA, hlk, hE, vE⟩ := id C
  intro σ H locs ls hG hl hw
  obtain ⟨hP, hD, hS⟩ := id hG
  refine lv_iconst (v := 0) hx hb dX9_type_28 (by decide) ?_
  exact W.zret (v := 0) (ty := .boolean) hx hb hr rfl (fun t ht hW => ⟨⟨_, σ, rfl, hw, by rw [ht]; exact hP, va_K.moved hW.alike hK, hD⟩, hS.F ht⟩) hS.2.2 dX9_type_29 hlk
set_option maxHeartbeats 4000000 in
set_option maxRecDepth 100000 in
theorem kB_X9_type_80 {p : Program} {l : Launch} {e : Env} {s : State} {m : MethodId} {args : Array Value} {below : List Frame} {meth : Method} {c : Code} {A : Nat → Prop} {E : EnvT} {aK aV : Nat → Nat} {D : va_G} {cA : Nat → ClassId} {h : Nat} {ad : Nat → Nat} (C : mCx p s m args meth c cX9_type 6 (some .boolean) wgX9_type RX9 E D cA A) (vM : eMs aK aV E) {post : Int32 → MS → Prop}
    {k80 : Int64 → Int32 → MS → Prop} (hk80 : ∀ (x1 : Int64) (x4 : Int32) (σ : MS) (H : Heap) (locs : List Loc) (ls : Array Slot), mG D cA h ad A s σ H locs → lv_has ls 6 [(0, .ref h), (1, .long x1), (4, .int x4)] → k80 x1 x4 σ → W p l e rm_X9_type s m args below meth c H locs 0 0 (MQ below (va_Qi post (mAt D cA h ad A) A) args s 0 0 A) (F0 m 80 ls [])) :
    ∀ (x1 : Int64) (x4 : Int32) (σ : MS) (H : Heap) (locs : List Loc) (ls : Array Slot), mG D cA h ad A s σ H locs → lv_has ls 6 [(0, .ref h), (1, .long x1), (4, .int x4)] → wB_X9_type_80 post k80 x1 x4 σ → W p l e rm_X9_type s m args below meth c H locs 0 0 (MQ below (va_Qi post (mAt D cA h ad A) A) args s 0 0 A) (F0 m 80 ls []) := by
  obtain ⟨hx, hb, hml, hr, hown, hts, hK, hA, hlk, hE, vE⟩ := id C
  intro x1 x4 σ H locs ls hG hl hw
  obtain ⟨hP, hD, hS⟩ := id hG
  refine lv_iload hx hb dX9_type_80 (lv_at hl 2 rfl) ?_
  refine lv_if_lt (tgt := 122) hx hb dX9_type_82 (by decide) (fun q_ => ?_) (fun q_ => ?_)
  · have hw := hw.1 q_
    refine lv_iconst (v := 1) hx hb dX9_type_122 (by decide) ?_
    exact W.zret (v := 1) (ty := .boolean) hx hb hr rfl (fun t ht hW => ⟨⟨_, σ, rfl, hw, by rw [ht]; exact hP, va_K.moved hW.alike hK, hD⟩, hS.F ht⟩) hS.2.2 dX9_type_123 hlk
  · have hw := hw.2 q_
    refine lv_aload_n hx hb dX9_type_85 rfl (lv_at hl 0 rfl) ?_
    refine va_get (D := D) (ci := 11) (v := .ref (ad 1)) (C := RX9) (T := TX9) (N := 32) hx hb hts (in_tb inX9) hown hK hP 0 rfl rfl 1 (by decide) (hts _ (List.mem_cons_of_mem _ tw_5_111)) (fun _ h9 => h9) rfl dX9_type_86 ?_
    refine lv_aload_n hx hb dX9_type_89 rfl (lv_at hl 0 rfl) ?_
    refine va_get (D := D) (ci := 11) (v := .int (mI σ 2)) (C := RX9) (T := TX9) (N := 32) hx hb hts (in_tb inX9) hown hK hP 0 rfl rfl 2 (by decide) (hts _ (List.mem_cons_of_mem _ tw_5_112)) (fun _ h9 => h9) rfl dX9_type_90 ?_
    refine lv_lload_n hx hb dX9_type_93 rfl (lv_at hl 1 rfl) ?_
    refine lv_bipush (v := 8) hx hb dX9_type_94 (by decide) ?_
    refine lv_iload hx hb dX9_type_96 (lv_at hl 2 rfl) ?_
    refine lv_imul hx hb dX9_type_98 ?_
    refine lv_lshr hx hb dX9_type_99 rfl ?_
    refine lv_ldc2 (v := 255) hx hb hown (hts _ (List.mem_cons_of_mem _ tw_5_212)) dX9_type_100 ?_
    refine lv_land hx hb dX9_type_103 ?_
    refine lv_l2i hx hb dX9_type_104 rfl ?_
    obtain ⟨h_2, hw⟩ := hw
    refine va_iast hx hb hK hP hD hS 1 0 rfl rfl h_2 dX9_type_105 (fun H locs hP hD hS => ?_)
    have hG : mG D cA h ad A s (wA σ 1 (mI σ 2).toNatClampNeg (((x1 >>> ((8 * x4).toInt64 &&& 63)) &&& 255).toInt32)) H locs := ⟨hP, hD, hS⟩
    obtain ⟨hP, hD, hS⟩ := id hG
    refine lv_aload_n hx hb dX9_type_106 rfl (lv_at hl 0 rfl) ?_
    refine lv_dup hx hb dX9_type_107 rfl ?_
    refine va_get (D := D) (ci := 11) (v := .int (mI σ 2)) (C := RX9) (T := TX9) (N := 32) hx hb hts (in_tb inX9) hown hK hP 0 rfl rfl 2 (by decide) (hts _ (List.mem_cons_of_mem _ tw_5_112)) (fun _ h9 => h9) rfl dX9_type_108 ?_
    refine lv_iconst (v := 1) hx hb dX9_type_111 (by decide) ?_
    refine lv_iadd hx hb dX9_type_112 ?_
    refine va_put (D := D) (ci := 11) (v := .int ((mI σ 2) + 1)) (ty := .int) (C := RX9) (T := TX9) (N := 32) hx hb hts (in_tb inX9) tyX9 tyX9_ok nmX9 hown hK hP hD hS 0 rfl rfl 2 (by decide) (hts _ (List.mem_cons_of_mem _ tw_5_112)) (fun _ h9 => h9) rfl (by decide +kernel) rfl rfl (Nat.le_of_ble_eq_true rfl) dX9_type_113 (fun H locs hP hD hS => ?_)
    have hG : mG D cA h ad A s (wI (wA σ 1 (mI σ 2).toNatClampNeg (((x1 >>> ((8 * x4).toInt64 &&& 63)) &&& 255).toInt32)) 2 ((mI σ 2) + 1)) H locs := ⟨hP, hD, hS⟩
    obtain ⟨hP, hD, hS⟩ := id hG
    obtain ⟨x4_3, ex4_3⟩ : ∃ y : Int32, y = x4 + (-1) := ⟨_, rfl⟩
    have hw := hw x4_3 ex4_3
    refine lv_iinc (v := x4_3) (lv' := [(4, .int x4_3), (0, .ref h), (1, .long x1)]) hx hb dX9_type_116 hl (k := 2) rfl (by rw [ex4_3]; rfl) (by decide) rfl (fun ls hl => ?_)
    refine lv_goto (tgt := 80) hx hb dX9_type_119 (by decide) ?_
    exact hk80 x1 x4_3 (wI (wA σ 1 (mI σ 2).toNatClampNeg (((x1 >>> ((8 * x4).toInt64 &&& 63)) &&& 255).toInt32)) 2 ((mI σ 2) + 1)) _ _ _ hG (lv_sub hl [1, 2, 0] rfl) hw
theorem kL_X9_type_80 {p : Program} {l : Launch} {e : Env} {s : State} {m : MethodId} {args : Array Value} {below : List Frame} {meth : Method} {c : Code} {A : Nat → Prop} {E : EnvT} {aK aV : Nat → Nat} {D : va_G} {cA : Nat → ClassId} {h : Nat} {ad : Nat → Nat} (C : mCx p s m args meth c cX9_type 6 (some .boolean) wgX9_type RX9 E D cA A) (vM : eMs aK aV E) {post : Int32 → MS → Prop} :
    ∀ (n : Nat) (x1 : Int64) (x4 : Int32) (σ : MS) (H : Heap) (locs : List Loc) (ls : Array Slot), mG D cA h ad A s σ H locs → lv_has ls 6 [(0, .ref h), (1, .long x1), (4, .int x4)] → wL_X9_type_80 post n x1 x4 σ → W p l e rm_X9_type s m args below meth c H locs 0 0 (MQ below (va_Qi post (mAt D cA h ad A) A) args s 0 0 A) (F0 m 80 ls []) := by
  intro n
  induction n with
  | zero => intro x1 x4 σ H locs ls hG hl hw; exact hw.elim
  | succ n ih => exact kB_X9_type_80 C vM ih
set_option maxHeartbeats 4000000 in
set_option maxRecDepth 100000 in
theorem kB_X9_type_67 {p : Program} {l : Launch} {e : Env} {s : State} {m : MethodId} {args : Array Value} {below : List Frame} {meth : Method} {c : Code} {A : Nat → Prop} {E : EnvT} {aK aV : Nat → Nat} {D : va_G} {cA : Nat → ClassId} {h : Nat} {ad : Nat → Nat} (C : mCx p s m args meth c cX9_type 6 (some .boolean) wgX9_type RX9 E D cA A) (vM : eMs aK aV E) {post : Int32 → MS → Prop} :
    ∀ (σ : MS) (H : Heap) (locs : List Loc) (ls : Array Slot), mG D cA h ad A s σ H locs → lv_has ls 6 [] → wB_X9_type_67 post σ → W p l e rm_X9_type s m args below meth c H locs 0 0 (MQ below (va_Qi post (mAt D cA h ad A) A) args s 0 0 A) (F0 m 67 ls []) := by
  obtain ⟨hx, hb, hml, hr, hown, hts, hK, hA, hlk, hE, vE⟩ := id C
  intro σ H locs ls hG hl hw
  obtain ⟨hP, hD, hS⟩ := id hG
  refine lv_iconst (v := 0) hx hb dX9_type_67 (by decide) ?_
  exact W.zret (v := 0) (ty := .boolean) hx hb hr rfl (fun t ht hW => ⟨⟨_, σ, rfl, hw, by rw [ht]; exact hP, va_K.moved hW.alike hK, hD⟩, hS.F ht⟩) hS.2.2 dX9_type_68 hlk
set_option maxHeartbeats 4000000 in
set_option maxRecDepth 100000 in
theorem kB_X9_type_33 {p : Program} {l : Launch} {e : Env} {s : State} {m : MethodId} {args : Array Value} {below : List Frame} {meth : Method} {c : Code} {A : Nat → Prop} {E : EnvT} {aK aV : Nat → Nat} {D : va_G} {cA : Nat → ClassId} {h : Nat} {ad : Nat → Nat} (C : mCx p s m args meth c cX9_type 6 (some .boolean) wgX9_type RX9 E D cA A) (vM : eMs aK aV E) {post : Int32 → MS → Prop}
    {k33 : Int64 → Int32 → Int32 → MS → Prop} (hk33 : ∀ (x1 : Int64) (x3 : Int32) (x4 : Int32) (σ : MS) (H : Heap) (locs : List Loc) (ls : Array Slot), mG D cA h ad A s σ H locs → lv_has ls 6 [(0, .ref h), (1, .long x1), (3, .int x3), (4, .int x4)] → k33 x1 x3 x4 σ → W p l e rm_X9_type s m args below meth c H locs 0 0 (MQ below (va_Qi post (mAt D cA h ad A) A) args s 0 0 A) (F0 m 33 ls [])) :
    ∀ (x1 : Int64) (x3 : Int32) (x4 : Int32) (σ : MS) (H : Heap) (locs : List Loc) (ls : Array Slot), mG D cA h ad A s σ H locs → lv_has ls 6 [(0, .ref h), (1, .long x1), (3, .int x3), (4, .int x4)] → wB_X9_type_33 post k33 x1 x3 x4 σ → W p l e rm_X9_type s m args below meth c H locs 0 0 (MQ below (va_Qi post (mAt D cA h ad A) A) args s 0 0 A) (F0 m 33 ls []) := by
  obtain ⟨hx, hb, hml, hr, hown, hts, hK, hA, hlk, hE, vE⟩ := id C
  intro x1 x3 x4 σ H locs ls hG hl hw
  obtain ⟨hP, hD, hS⟩ := id hG
  refine lv_iload hx hb dX9_type_33 (lv_at hl 3 rfl) ?_
  refine lv_iload_n hx hb dX9_type_35 rfl (lv_at hl 2 rfl) ?_
  refine lv_icmp_ge (tgt := 75) hx hb dX9_type_36 (by decide) (fun q_ => ?_) (fun q_ => ?_)
  · have hw := hw.1 q_
    refine lv_iload_n hx hb dX9_type_75 rfl (lv_at hl 2 rfl) ?_
    refine lv_iconst (v := 1) hx hb dX9_type_76 (by decide) ?_
    refine lv_isub hx hb dX9_type_77 ?_
    refine lv_topi (fun x4_1 ex4_1 => ?_)
    have hw := hw x4_1 ex4_1
    refine lv_istore (lv' := [(4, .int x4_1), (0, .ref h), (1, .long x1), (3, .int x3)]) hx hb dX9_type_78 hl (by decide) rfl (fun ls hl => ?_)
    obtain ⟨n_, hw⟩ := hw
    exact kL_X9_type_80 C vM n_ x1 x4_1 σ _ _ _ hG (lv_sub hl [1, 2, 0] rfl) hw
  · have hw := hw.2 q_
    refine lv_lload_n hx hb dX9_type_39 rfl (lv_at hl 1 rfl) ?_
    refine lv_bipush (v := 8) hx hb dX9_type_40 (by decide) ?_
    refine lv_iload hx hb dX9_type_42 (lv_at hl 3 rfl) ?_
    refine lv_imul hx hb dX9_type_44 ?_
    refine lv_lshr hx hb dX9_type_45 rfl ?_
    refine lv_ldc2 (v := 255) hx hb hown (hts _ (List.mem_cons_of_mem _ tw_5_212)) dX9_type_46 ?_
    refine lv_land hx hb dX9_type_49 ?_
    refine lv_l2i hx hb dX9_type_50 rfl ?_
    refine lv_topi (fun x5_4 ex5_4 => ?_)
    have hw := hw x5_4 ex5_4
    refine lv_istore (lv' := [(5, .int x5_4), (0, .ref h), (1, .long x1), (3, .int x3), (4, .int x4)]) hx hb dX9_type_51 hl (by decide) rfl (fun ls hl => ?_)
    refine lv_iload hx hb dX9_type_53 (lv_at hl 0 rfl) ?_
    refine lv_bipush (v := 32) hx hb dX9_type_55 (by decide) ?_
    refine lv_icmp_lt (tgt := 67) hx hb dX9_type_57 (by decide) (fun q_ => ?_) (fun q_ => ?_)
    · have hw := hw.1 q_
      exact kB_X9_type_67 C vM  σ _ _ _ hG (lv_sub hl [] rfl) hw
    · have hw := hw.2 q_
      refine lv_iload hx hb dX9_type_60 (lv_at hl 0 rfl) ?_
      refine lv_bipush (v := 126) hx hb dX9_type_62 (by decide) ?_
      refine lv_icmp_le (tgt := 69) hx hb dX9_type_64 (by decide) (fun q_ => ?_) (fun q_ => ?_)
      · have hw := hw.1 q_
        obtain ⟨x4_5, ex4_5⟩ : ∃ y : Int32, y = x4 + 1 := ⟨_, rfl⟩
        have hw := hw x4_5 ex4_5
        refine lv_iinc (v := x4_5) (lv' := [(4, .int x4_5), (5, .int x5_4), (0, .ref h), (1, .long x1), (3, .int x3)]) hx hb dX9_type_69 hl (k := 4) rfl (by rw [ex4_5]; rfl) (by decide) rfl (fun ls hl => ?_)
        refine lv_goto (tgt := 33) hx hb dX9_type_72 (by decide) ?_
        exact hk33 x1 x3 x4_5 σ _ _ _ hG (lv_sub hl [2, 3, 4, 0] rfl) hw
      · have hw := hw.2 q_
        exact kB_X9_type_67 C vM  σ _ _ _ hG (lv_sub hl [] rfl) hw
theorem kL_X9_type_33 {p : Program} {l : Launch} {e : Env} {s : State} {m : MethodId} {args : Array Value} {below : List Frame} {meth : Method} {c : Code} {A : Nat → Prop} {E : EnvT} {aK aV : Nat → Nat} {D : va_G} {cA : Nat → ClassId} {h : Nat} {ad : Nat → Nat} (C : mCx p s m args meth c cX9_type 6 (some .boolean) wgX9_type RX9 E D cA A) (vM : eMs aK aV E) {post : Int32 → MS → Prop} :
    ∀ (n : Nat) (x1 : Int64) (x3 : Int32) (x4 : Int32) (σ : MS) (H : Heap) (locs : List Loc) (ls : Array Slot), mG D cA h ad A s σ H locs → lv_has ls 6 [(0, .ref h), (1, .long x1), (3, .int x3), (4, .int x4)] → wL_X9_type_33 post n x1 x3 x4 σ → W p l e rm_X9_type s m args below meth c H locs 0 0 (MQ below (va_Qi post (mAt D cA h ad A) A) args s 0 0 A) (F0 m 33 ls []) := by
  intro n
  induction n with
  | zero => intro x1 x3 x4 σ H locs ls hG hl hw; exact hw.elim
  | succ n ih => exact kB_X9_type_33 C vM ih
set_option maxHeartbeats 4000000 in
set_option maxRecDepth 100000 in
theorem k_X9_type {p : Program} {l : Launch} {e : Env} {s : State} {m : MethodId} {args : Array Value} {below : List Frame} {meth : Method} {c : Code} {A : Nat → Prop} {E : EnvT} {aK aV : Nat → Nat} {D : va_G} {cA : Nat → ClassId} {h : Nat} {ad : Nat → Nat} (C : mCx p s m args meth c cX9_type 6 (some .boolean) wgX9_type RX9 E D cA A) (vM : eMs aK aV E) {post : Int32 → MS → Prop} :
    ∀ (x1 : Int64) (x3 : Int32) (σ : MS) (H : Heap) (locs : List Loc) (ls : Array Slot), mG D cA h ad A s σ H locs → lv_has ls 6 [(0, .ref h), (1, .long x1), (3, .int x3)] → wp_X9_type post x1 x3 σ → W p l e rm_X9_type s m args below meth c H locs 0 0 (MQ below (va_Qi post (mAt D cA h ad A) A) args s 0 0 A) (F0 m 0 ls []) := by
  obtain ⟨hx, hb, hml, hr, hown, hts, hK, hA, hlk, hE, vE⟩ := id C
  intro x1 x3 σ H locs ls hG hl hw
  obtain ⟨hP, hD, hS⟩ := id hG
  refine lv_aload_n hx hb dX9_type_0 rfl (lv_at hl 0 rfl) ?_
  refine lv_iconst (v := 0) hx hb dX9_type_1 (by decide) ?_
  refine va_put (D := D) (ci := 11) (v := .int 0) (ty := .int) (C := RX9) (T := TX9) (N := 32) hx hb hts (in_tb inX9) tyX9 tyX9_ok nmX9 hown hK hP hD hS 0 rfl rfl 0 (by decide) (hts _ (List.mem_cons_of_mem _ tw_5_110)) (fun _ h9 => h9) rfl (by decide +kernel) rfl rfl (Nat.le_of_ble_eq_true rfl) dX9_type_2 (fun H locs hP hD hS => ?_)
  have hG : mG D cA h ad A s (wI σ 0 0) H locs := ⟨hP, hD, hS⟩
  obtain ⟨hP, hD, hS⟩ := id hG
  refine lv_iload_n hx hb dX9_type_5 rfl (lv_at hl 2 rfl) ?_
  refine lv_iconst (v := 1) hx hb dX9_type_6 (by decide) ?_
  refine lv_icmp_lt (tgt := 28) hx hb dX9_type_7 (by decide) (fun q_ => ?_) (fun q_ => ?_)
  · have hw := hw.1 q_
    exact kB_X9_type_28 C vM  (wI σ 0 0) _ _ _ hG (lv_sub hl [] rfl) hw
  · have hw := hw.2 q_
    refine lv_iload_n hx hb dX9_type_10 rfl (lv_at hl 2 rfl) ?_
    refine lv_bipush (v := 8) hx hb dX9_type_11 (by decide) ?_
    refine lv_icmp_gt (tgt := 28) hx hb dX9_type_13 (by decide) (fun q_ => ?_) (fun q_ => ?_)
    · have hw := hw.1 q_
      exact kB_X9_type_28 C vM  (wI σ 0 0) _ _ _ hG (lv_sub hl [] rfl) hw
    · have hw := hw.2 q_
      refine lv_aload_n hx hb dX9_type_16 rfl (lv_at hl 0 rfl) ?_
      refine va_get (D := D) (ci := 11) (v := .int (mI σ 2)) (C := RX9) (T := TX9) (N := 32) hx hb hts (in_tb inX9) hown hK hP 0 rfl rfl 2 (by decide) (hts _ (List.mem_cons_of_mem _ tw_5_112)) (fun _ h9 => h9) rfl dX9_type_17 ?_
      refine lv_iload_n hx hb dX9_type_20 rfl (lv_at hl 2 rfl) ?_
      refine lv_iadd hx hb dX9_type_21 ?_
      refine lv_sipush (v := 700) hx hb dX9_type_22 (by decide) ?_
      refine lv_icmp_le (tgt := 30) hx hb dX9_type_25 (by decide) (fun q_ => ?_) (fun q_ => ?_)
      · have hw := hw.1 q_
        refine lv_iconst (v := 0) hx hb dX9_type_30 (by decide) ?_
        refine lv_istore (lv' := [(4, .int 0), (0, .ref h), (1, .long x1), (3, .int x3)]) hx hb dX9_type_31 hl (by decide) rfl (fun ls hl => ?_)
        obtain ⟨n_, hw⟩ := hw
        exact kL_X9_type_33 C vM n_ x1 x3 0 (wI σ 0 0) _ _ _ hG (lv_sub hl [1, 2, 3, 0] rfl) hw
      · have hw := hw.2 q_
        exact kB_X9_type_28 C vM  (wI σ 0 0) _ _ _ hG (lv_sub hl [] rfl) hw
set_option maxHeartbeats 4000000 in
set_option maxRecDepth 100000 in
theorem met_X9_type {l : Launch} {E : EnvT} (vE : EnvOk E) {D : va_G} {cA : Nat → ClassId} {h : Nat} {ad : Nat → Nat} {σ : MS} {aK aV : Nat → Nat} (vM : eMs aK aV E) {sz : Nat} {x1 : Int64} {x3 : Int32} {post : Int32 → MS → Prop} (hw : wp_X9_type post x1 x3 σ) : Met l yX9_type wgX9_type rm_X9_type (va_Pc [.ref h, .long x1, .int x3] (mPre E D cA h ad sz σ)) (va_Qi post (mAt D cA h ad (va_A (mW cA h ad σ) sz)) (va_A (mW cA h ad σ) sz)) 0 0 (va_A (mW cA h ad σ) sz) := by
  refine Met.ofW (cc := cX9_type) (maxL := 6) (ret := (some .boolean)) (by decide +kernel) rfl ?_
  intro p e s m args below meth c s₁ B hml hv
  obtain ⟨rfl, hsz, hP, hK, hD0, hE⟩ := hv
  subst hsz
  have hD := hD0.self (sz := s.heap.size)
  generalize hAe : va_A (mW cA h ad σ) s.heap.size = A at hD hE ⊢
  have hA : ∀ q : Nat, s.heap.size ≤ q → A q := fun q h => by rw [← hAe]; exact Or.inr h
  have hS : va_S A s.heap s.heap [] := va_S.rf
  have C : mCx p s m _ meth c cX9_type 6 (some .boolean) wgX9_type RX9 E D cA A := ⟨B.exec, B.bytes, hml, B.returns, findClass_of_methodNamed B.named, atoms_spec (ws := wgX9_type) B.pre, hK, hA, B.notSynchronized, hE, vE⟩
  have hG : mG D cA h ad A s σ s.heap [] := ⟨hP, hD, hS⟩
  have hl := lv_entry ([.ref h, .long x1, .int x3]) (n := 6) (Nat.le_of_ble_eq_true rfl)
  rw [lg_entry_eq]
  generalize (lg_sl ([.ref h, .long x1, .int x3]) ++ List.replicate (6 - (lg_sl ([.ref h, .long x1, .int x3])).length) Slot.unset).toArray = ls at hl ⊢
  have hl : lv_has ls 6 [(0, .ref h), (1, .long x1), (3, .int x3)] := hl
  exact k_X9_type C vM x1 x3 σ _ _ _ hG hl hw
/-! ===== partsOf ===== -/
def rm_X9_partsOf : Room := { frames := 0, cells := 0, slots := 0, locals := 0 }
abbrev wgX9_partsOf : List Cond := .code yX9_partsOf cX9_partsOf 1 (some .int) :: TB
def wB_X9_partsOf_136 (post : Int32 → Prop) (t0 : Int32) : Prop :=
  post t0
def wp_X9_partsOf (post : Int32 → Prop) (x0 : Int32) : Prop :=
  (2 ≤ x0 → ((x0 = 2 → (post 1)) ∧ (¬ x0 = 2 → ((17 ≤ x0 → ((21 ≤ x0 → ((x0 = 21 → (post 4)) ∧ (¬ x0 = 21 → ((29 ≤ x0 → ((31 ≤ x0 → ((33 ≤ x0 → ((35 ≤ x0 → ((38 ≤ x0 → ((x0 = 38 → (post 10)) ∧ (¬ x0 = 38 → ((42 ≤ x0 → ((44 ≤ x0 → ((46 ≤ x0 → ((52 ≤ x0 → (wB_X9_partsOf_136 post 17)) ∧ (¬ 52 ≤ x0 → (wB_X9_partsOf_136 post 16)))) ∧ (¬ 46 ≤ x0 → (post 15)))) ∧ (¬ 44 ≤ x0 → (post 14)))) ∧ (¬ 42 ≤ x0 → (post ((11 + x0) - 39))))))) ∧ (¬ 38 ≤ x0 → (post 9)))) ∧ (¬ 35 ≤ x0 → (post 8)))) ∧ (¬ 33 ≤ x0 → (post 7)))) ∧ (¬ 31 ≤ x0 → (post 6)))) ∧ (¬ 29 ≤ x0 → (post 5)))))) ∧ (¬ 21 ≤ x0 → (post 3)))) ∧ (¬ 17 ≤ x0 → (post 2)))))) ∧ (¬ 2 ≤ x0 → (post 0))
set_option maxHeartbeats 4000000 in
set_option maxRecDepth 100000 in
theorem kB_X9_partsOf_136 {p : Program} {l : Launch} {e : Env} {s : State} {m : MethodId} {args : Array Value} {below : List Frame} {meth : Method} {c : Code} {A : Nat → Prop} {E : EnvT} {aK aV : Nat → Nat} (C : sCx p s m args meth c cX9_partsOf 1 (some .int) wgX9_partsOf RX9 E A) (vM : eMs aK aV E) {post : Int32 → Prop} :
    ∀ (t0 : Int32) (H : Heap) (locs : List Loc) (ls : Array Slot), va_S A s.heap H locs → lv_has ls 1 [] → wB_X9_partsOf_136 post t0 → W p l e rm_X9_partsOf s m args below meth c H locs 0 0 (MQ below (va_Qi (S := Unit) (fun r _ => post r) (fun _ _ => True) A) args s 0 0 A) (F0 m 136 ls [.int t0]) := by
  obtain ⟨hx, hb, hml, hr, hown, hts, hA, hlk, hE, vE⟩ := id C
  intro t0 H locs ls hG hl hw
  have hS := hG
  exact W.iret (v := t0) hx hb hr (fun t ht hW => ⟨⟨_, (), rfl, hw, trivial⟩, hS.F ht⟩) hS.2.2 dX9_partsOf_136 hlk
set_option maxHeartbeats 4000000 in
set_option maxRecDepth 100000 in
theorem k_X9_partsOf {p : Program} {l : Launch} {e : Env} {s : State} {m : MethodId} {args : Array Value} {below : List Frame} {meth : Method} {c : Code} {A : Nat → Prop} {E : EnvT} {aK aV : Nat → Nat} (C : sCx p s m args meth c cX9_partsOf 1 (some .int) wgX9_partsOf RX9 E A) (vM : eMs aK aV E) {post : Int32 → Prop} :
    ∀ (x0 : Int32) (H : Heap) (locs : List Loc) (ls : Array Slot), va_S A s.heap H locs → lv_has ls 1 [(0, .int x0)] → wp_X9_partsOf post x0 → W p l e rm_X9_partsOf s m args below meth c H locs 0 0 (MQ below (va_Qi (S := Unit) (fun r _ => post r) (fun _ _ => True) A) args s 0 0 A) (F0 m 0 ls []) := by
  obtain ⟨hx, hb, hml, hr, hown, hts, hA, hlk, hE, vE⟩ := id C
  intro x0 H locs ls hG hl hw
  have hS := hG
  refine lv_iload_n hx hb dX9_partsOf_0 rfl (lv_at hl 0 rfl) ?_
  refine lv_iconst (v := 2) hx hb dX9_partsOf_1 (by decide) ?_
  refine lv_icmp_ge (tgt := 7) hx hb dX9_partsOf_2 (by decide) (fun q_ => ?_) (fun q_ => ?_)
  · have hw := hw.1 q_
    refine lv_iload_n hx hb dX9_partsOf_7 rfl (lv_at hl 0 rfl) ?_
    refine lv_iconst (v := 2) hx hb dX9_partsOf_8 (by decide) ?_
    refine lv_icmp_ne (tgt := 14) hx hb dX9_partsOf_9 (by decide) (fun q_ => ?_) (fun q_ => ?_)
    · have hw := hw.2 q_
      refine lv_iload_n hx hb dX9_partsOf_14 rfl (lv_at hl 0 rfl) ?_
      refine lv_bipush (v := 17) hx hb dX9_partsOf_15 (by decide) ?_
      refine lv_icmp_ge (tgt := 22) hx hb dX9_partsOf_17 (by decide) (fun q_ => ?_) (fun q_ => ?_)
      · have hw := hw.1 q_
        refine lv_iload_n hx hb dX9_partsOf_22 rfl (lv_at hl 0 rfl) ?_
        refine lv_bipush (v := 21) hx hb dX9_partsOf_23 (by decide) ?_
        refine lv_icmp_ge (tgt := 30) hx hb dX9_partsOf_25 (by decide) (fun q_ => ?_) (fun q_ => ?_)
        · have hw := hw.1 q_
          refine lv_iload_n hx hb dX9_partsOf_30 rfl (lv_at hl 0 rfl) ?_
          refine lv_bipush (v := 21) hx hb dX9_partsOf_31 (by decide) ?_
          refine lv_icmp_ne (tgt := 38) hx hb dX9_partsOf_33 (by decide) (fun q_ => ?_) (fun q_ => ?_)
          · have hw := hw.2 q_
            refine lv_iload_n hx hb dX9_partsOf_38 rfl (lv_at hl 0 rfl) ?_
            refine lv_bipush (v := 29) hx hb dX9_partsOf_39 (by decide) ?_
            refine lv_icmp_ge (tgt := 46) hx hb dX9_partsOf_41 (by decide) (fun q_ => ?_) (fun q_ => ?_)
            · have hw := hw.1 q_
              refine lv_iload_n hx hb dX9_partsOf_46 rfl (lv_at hl 0 rfl) ?_
              refine lv_bipush (v := 31) hx hb dX9_partsOf_47 (by decide) ?_
              refine lv_icmp_ge (tgt := 55) hx hb dX9_partsOf_49 (by decide) (fun q_ => ?_) (fun q_ => ?_)
              · have hw := hw.1 q_
                refine lv_iload_n hx hb dX9_partsOf_55 rfl (lv_at hl 0 rfl) ?_
                refine lv_bipush (v := 33) hx hb dX9_partsOf_56 (by decide) ?_
                refine lv_icmp_ge (tgt := 64) hx hb dX9_partsOf_58 (by decide) (fun q_ => ?_) (fun q_ => ?_)
                · have hw := hw.1 q_
                  refine lv_iload_n hx hb dX9_partsOf_64 rfl (lv_at hl 0 rfl) ?_
                  refine lv_bipush (v := 35) hx hb dX9_partsOf_65 (by decide) ?_
                  refine lv_icmp_ge (tgt := 73) hx hb dX9_partsOf_67 (by decide) (fun q_ => ?_) (fun q_ => ?_)
                  · have hw := hw.1 q_
                    refine lv_iload_n hx hb dX9_partsOf_73 rfl (lv_at hl 0 rfl) ?_
                    refine lv_bipush (v := 38) hx hb dX9_partsOf_74 (by decide) ?_
                    refine lv_icmp_ge (tgt := 82) hx hb dX9_partsOf_76 (by decide) (fun q_ => ?_) (fun q_ => ?_)
                    · have hw := hw.1 q_
                      refine lv_iload_n hx hb dX9_partsOf_82 rfl (lv_at hl 0 rfl) ?_
                      refine lv_bipush (v := 38) hx hb dX9_partsOf_83 (by decide) ?_
                      refine lv_icmp_ne (tgt := 91) hx hb dX9_partsOf_85 (by decide) (fun q_ => ?_) (fun q_ => ?_)
                      · have hw := hw.2 q_
                        refine lv_iload_n hx hb dX9_partsOf_91 rfl (lv_at hl 0 rfl) ?_
                        refine lv_bipush (v := 42) hx hb dX9_partsOf_92 (by decide) ?_
                        refine lv_icmp_ge (tgt := 105) hx hb dX9_partsOf_94 (by decide) (fun q_ => ?_) (fun q_ => ?_)
                        · have hw := hw.1 q_
                          refine lv_iload_n hx hb dX9_partsOf_105 rfl (lv_at hl 0 rfl) ?_
                          refine lv_bipush (v := 44) hx hb dX9_partsOf_106 (by decide) ?_
                          refine lv_icmp_ge (tgt := 114) hx hb dX9_partsOf_108 (by decide) (fun q_ => ?_) (fun q_ => ?_)
                          · have hw := hw.1 q_
                            refine lv_iload_n hx hb dX9_partsOf_114 rfl (lv_at hl 0 rfl) ?_
                            refine lv_bipush (v := 46) hx hb dX9_partsOf_115 (by decide) ?_
                            refine lv_icmp_ge (tgt := 123) hx hb dX9_partsOf_117 (by decide) (fun q_ => ?_) (fun q_ => ?_)
                            · have hw := hw.1 q_
                              refine lv_iload_n hx hb dX9_partsOf_123 rfl (lv_at hl 0 rfl) ?_
                              refine lv_bipush (v := 52) hx hb dX9_partsOf_124 (by decide) ?_
                              refine lv_icmp_ge (tgt := 134) hx hb dX9_partsOf_126 (by decide) (fun q_ => ?_) (fun q_ => ?_)
                              · have hw := hw.1 q_
                                refine lv_bipush (v := 17) hx hb dX9_partsOf_134 (by decide) ?_
                                exact kB_X9_partsOf_136 C vM 17 _ _ _ hG (lv_sub hl [] rfl) hw
                              · have hw := hw.2 q_
                                refine lv_bipush (v := 16) hx hb dX9_partsOf_129 (by decide) ?_
                                refine lv_goto (tgt := 136) hx hb dX9_partsOf_131 (by decide) ?_
                                exact kB_X9_partsOf_136 C vM 16 _ _ _ hG (lv_sub hl [] rfl) hw
                            · have hw := hw.2 q_
                              refine lv_bipush (v := 15) hx hb dX9_partsOf_120 (by decide) ?_
                              exact W.iret (v := 15) hx hb hr (fun t ht hW => ⟨⟨_, (), rfl, hw, trivial⟩, hS.F ht⟩) hS.2.2 dX9_partsOf_122 hlk
                          · have hw := hw.2 q_
                            refine lv_bipush (v := 14) hx hb dX9_partsOf_111 (by decide) ?_
                            exact W.iret (v := 14) hx hb hr (fun t ht hW => ⟨⟨_, (), rfl, hw, trivial⟩, hS.F ht⟩) hS.2.2 dX9_partsOf_113 hlk
                        · have hw := hw.2 q_
                          refine lv_bipush (v := 11) hx hb dX9_partsOf_97 (by decide) ?_
                          refine lv_iload_n hx hb dX9_partsOf_99 rfl (lv_at hl 0 rfl) ?_
                          refine lv_iadd hx hb dX9_partsOf_100 ?_
                          refine lv_bipush (v := 39) hx hb dX9_partsOf_101 (by decide) ?_
                          refine lv_isub hx hb dX9_partsOf_103 ?_
                          exact W.iret (v := (11 + x0) - 39) hx hb hr (fun t ht hW => ⟨⟨_, (), rfl, hw, trivial⟩, hS.F ht⟩) hS.2.2 dX9_partsOf_104 hlk
                      · have hw := hw.1 q_
                        refine lv_bipush (v := 10) hx hb dX9_partsOf_88 (by decide) ?_
                        exact W.iret (v := 10) hx hb hr (fun t ht hW => ⟨⟨_, (), rfl, hw, trivial⟩, hS.F ht⟩) hS.2.2 dX9_partsOf_90 hlk
                    · have hw := hw.2 q_
                      refine lv_bipush (v := 9) hx hb dX9_partsOf_79 (by decide) ?_
                      exact W.iret (v := 9) hx hb hr (fun t ht hW => ⟨⟨_, (), rfl, hw, trivial⟩, hS.F ht⟩) hS.2.2 dX9_partsOf_81 hlk
                  · have hw := hw.2 q_
                    refine lv_bipush (v := 8) hx hb dX9_partsOf_70 (by decide) ?_
                    exact W.iret (v := 8) hx hb hr (fun t ht hW => ⟨⟨_, (), rfl, hw, trivial⟩, hS.F ht⟩) hS.2.2 dX9_partsOf_72 hlk
                · have hw := hw.2 q_
                  refine lv_bipush (v := 7) hx hb dX9_partsOf_61 (by decide) ?_
                  exact W.iret (v := 7) hx hb hr (fun t ht hW => ⟨⟨_, (), rfl, hw, trivial⟩, hS.F ht⟩) hS.2.2 dX9_partsOf_63 hlk
              · have hw := hw.2 q_
                refine lv_bipush (v := 6) hx hb dX9_partsOf_52 (by decide) ?_
                exact W.iret (v := 6) hx hb hr (fun t ht hW => ⟨⟨_, (), rfl, hw, trivial⟩, hS.F ht⟩) hS.2.2 dX9_partsOf_54 hlk
            · have hw := hw.2 q_
              refine lv_iconst (v := 5) hx hb dX9_partsOf_44 (by decide) ?_
              exact W.iret (v := 5) hx hb hr (fun t ht hW => ⟨⟨_, (), rfl, hw, trivial⟩, hS.F ht⟩) hS.2.2 dX9_partsOf_45 hlk
          · have hw := hw.1 q_
            refine lv_iconst (v := 4) hx hb dX9_partsOf_36 (by decide) ?_
            exact W.iret (v := 4) hx hb hr (fun t ht hW => ⟨⟨_, (), rfl, hw, trivial⟩, hS.F ht⟩) hS.2.2 dX9_partsOf_37 hlk
        · have hw := hw.2 q_
          refine lv_iconst (v := 3) hx hb dX9_partsOf_28 (by decide) ?_
          exact W.iret (v := 3) hx hb hr (fun t ht hW => ⟨⟨_, (), rfl, hw, trivial⟩, hS.F ht⟩) hS.2.2 dX9_partsOf_29 hlk
      · have hw := hw.2 q_
        refine lv_iconst (v := 2) hx hb dX9_partsOf_20 (by decide) ?_
        exact W.iret (v := 2) hx hb hr (fun t ht hW => ⟨⟨_, (), rfl, hw, trivial⟩, hS.F ht⟩) hS.2.2 dX9_partsOf_21 hlk
    · have hw := hw.1 q_
      refine lv_iconst (v := 1) hx hb dX9_partsOf_12 (by decide) ?_
      exact W.iret (v := 1) hx hb hr (fun t ht hW => ⟨⟨_, (), rfl, hw, trivial⟩, hS.F ht⟩) hS.2.2 dX9_partsOf_13 hlk
  · have hw := hw.2 q_
    refine lv_iconst (v := 0) hx hb dX9_partsOf_5 (by decide) ?_
    exact W.iret (v := 0) hx hb hr (fun t ht hW => ⟨⟨_, (), rfl, hw, trivial⟩, hS.F ht⟩) hS.2.2 dX9_partsOf_6 hlk
set_option maxHeartbeats 4000000 in
set_option maxRecDepth 100000 in
theorem met_X9_partsOf {l : Launch} {E : EnvT} (vE : EnvOk E) {aK aV : Nat → Nat} (vM : eMs aK aV E) {sz : Nat} {x0 : Int32} {post : Int32 → Prop} (hw : wp_X9_partsOf post x0) : Met l yX9_partsOf wgX9_partsOf rm_X9_partsOf (va_Pc [.int x0] (sPre E sz)) (va_Qi (S := Unit) (fun r _ => post r) (fun _ _ => True) (va_A [] sz)) 0 0 (va_A [] sz) := by
  refine Met.ofW (cc := cX9_partsOf) (maxL := 1) (ret := (some .int)) (by decide +kernel) rfl ?_
  intro p e s m args below meth c s₁ B hml hv
  obtain ⟨rfl, hsz, hE⟩ := hv
  subst hsz
  generalize hAe : va_A [] s.heap.size = A at hE ⊢
  have hA : ∀ q : Nat, s.heap.size ≤ q → A q := fun q h => by rw [← hAe]; exact Or.inr h
  have hS : va_S A s.heap s.heap [] := va_S.rf
  have C : sCx p s m _ meth c cX9_partsOf 1 (some .int) wgX9_partsOf RX9 E A := ⟨B.exec, B.bytes, hml, B.returns, findClass_of_methodNamed B.named, atoms_spec (ws := wgX9_partsOf) B.pre, hA, B.notSynchronized, hE, vE⟩
  have hG := hS
  have hl := lv_entry ([.int x0]) (n := 1) (Nat.le_of_ble_eq_true rfl)
  rw [lg_entry_eq]
  generalize (lg_sl ([.int x0]) ++ List.replicate (1 - (lg_sl ([.int x0])).length) Slot.unset).toArray = ls at hl ⊢
  have hl : lv_has ls 1 [(0, .int x0)] := hl
  exact k_X9_partsOf C vM x0 _ _ _ hG hl hw
/-! ===== part ===== -/
def rm_X9_part : Room := { frames := 4, cells := 0, slots := 0, locals := 85 }
abbrev wgX9_part : List Cond := .code yX9_part cX9_part 2 (some .int) :: TB
def wp_X9_part (post : Int32 → Prop) (x0 : Int32) (x1 : Int32) : Prop :=
  wp_X9_partsOf (fun r_1  => vp_in ((5 * r_1) + x1) (lenM.getD 0 0) ∧ (∀ r_4 : Int32, r_4 = sCh bytM 0 ((5 * r_1) + x1).toNatClampNeg → post r_4)) x0
set_option maxHeartbeats 4000000 in
set_option maxRecDepth 100000 in
theorem k_X9_part {p : Program} {l : Launch} {e : Env} {s : State} {m : MethodId} {args : Array Value} {below : List Frame} {meth : Method} {c : Code} {A : Nat → Prop} {E : EnvT} {aK aV : Nat → Nat} (C : sCx p s m args meth c cX9_part 2 (some .int) wgX9_part RX9 E A) (vM : eMs aK aV E) {post : Int32 → Prop} :
    ∀ (x0 : Int32) (x1 : Int32) (H : Heap) (locs : List Loc) (ls : Array Slot), va_S A s.heap H locs → lv_has ls 2 [(0, .int x0), (1, .int x1)] → wp_X9_part post x0 x1 → W p l e rm_X9_part s m args below meth c H locs 0 0 (MQ below (va_Qi (S := Unit) (fun r _ => post r) (fun _ _ => True) A) args s 0 0 A) (F0 m 0 ls []) := by
  obtain ⟨hx, hb, hml, hr, hown, hts, hA, hlk, hE, vE⟩ := id C
  intro x0 x1 H locs ls hG hl hw
  have hS := hG
  refine va_ldcS hx hb hown (vM _ _ _ hE).2.1 dX9_part_0 ?_
  refine lv_iconst (v := 5) hx hb dX9_part_2 (by decide) ?_
  refine lv_iload_n hx hb dX9_part_3 rfl (lv_at hl 0 rfl) ?_
  refine sS_i (As := [.int x0]) (rest := [.int 5, .ref (aK 0)]) C (met_X9_partsOf vE vM hw) (va_cwS 1 hts (TB_G (TB_3 tw_6_81 tw_6_82 tw_1_13) tw_6_83) rfl rfl rfl (by decide +kernel) ⟨by decide, by decide⟩) hS rfl hl.1 rfl (Nat.le_of_ble_eq_true rfl) dX9_part_4 ⟨by decide, by decide⟩ (fun r_1 H locs hw hS => ?_)
  have hG := hS
  refine lv_imul hx hb dX9_part_7 ?_
  refine lv_iload_n hx hb dX9_part_8 rfl (lv_at hl 1 rfl) ?_
  refine lv_iadd hx hb dX9_part_9 ?_
  obtain ⟨h_3, hw⟩ := hw
  refine sK_i (i := 0) (As := [.int ((5 * r_1) + x1)]) (rest := []) C ((vM _ _ _ hE).1.1 0 (by decide)).1 (met_J0_charAt vE (fun A U H z => (vM A U H z).1) (i := 0) (by decide) (post := fun r => r = sCh bytM 0 ((5 * r_1) + x1).toNatClampNeg) (in_nn h_3) (in_lt h_3 (by decide)) h_3 rfl) (cwV 1 hts (TB_G (TB_4 tw_6_61 tw_2_57 tw_2_58 tw_1_11) tw_2_59) rfl rfl rfl (by decide +kernel) ⟨by decide, by decide⟩) hS rfl hl.1 rfl (Nat.le_of_ble_eq_true rfl) dX9_part_10 ⟨by decide, by decide⟩ (fun r_4 H locs er_4 hS => ?_)
  have hw := hw r_4 er_4
  have hG := hS
  exact W.iret (v := r_4) hx hb hr (fun t ht hW => ⟨⟨_, (), rfl, hw, trivial⟩, hS.F ht⟩) hS.2.2 dX9_part_13 hlk
set_option maxHeartbeats 4000000 in
set_option maxRecDepth 100000 in
theorem met_X9_part {l : Launch} {E : EnvT} (vE : EnvOk E) {aK aV : Nat → Nat} (vM : eMs aK aV E) {sz : Nat} {x0 : Int32} {x1 : Int32} {post : Int32 → Prop} (hw : wp_X9_part post x0 x1) : Met l yX9_part wgX9_part rm_X9_part (va_Pc [.int x0, .int x1] (sPre E sz)) (va_Qi (S := Unit) (fun r _ => post r) (fun _ _ => True) (va_A [] sz)) 0 0 (va_A [] sz) := by
  refine Met.ofW (cc := cX9_part) (maxL := 2) (ret := (some .int)) (by decide +kernel) rfl ?_
  intro p e s m args below meth c s₁ B hml hv
  obtain ⟨rfl, hsz, hE⟩ := hv
  subst hsz
  generalize hAe : va_A [] s.heap.size = A at hE ⊢
  have hA : ∀ q : Nat, s.heap.size ≤ q → A q := fun q h => by rw [← hAe]; exact Or.inr h
  have hS : va_S A s.heap s.heap [] := va_S.rf
  have C : sCx p s m _ meth c cX9_part 2 (some .int) wgX9_part RX9 E A := ⟨B.exec, B.bytes, hml, B.returns, findClass_of_methodNamed B.named, atoms_spec (ws := wgX9_part) B.pre, hA, B.notSynchronized, hE, vE⟩
  have hG := hS
  have hl := lv_entry ([.int x0, .int x1]) (n := 2) (Nat.le_of_ble_eq_true rfl)
  rw [lg_entry_eq]
  generalize (lg_sl ([.int x0, .int x1]) ++ List.replicate (2 - (lg_sl ([.int x0, .int x1])).length) Slot.unset).toArray = ls at hl ⊢
  have hl : lv_has ls 2 [(0, .int x0), (1, .int x1)] := hl
  exact k_X9_part C vM x0 x1 _ _ _ hG hl hw
/-! ===== opOf ===== -/
def rm_X9_opOf : Room := { frames := 4, cells := 0, slots := 0, locals := 85 }
abbrev wgX9_opOf : List Cond := .code yX9_opOf cX9_opOf 1 (some .int) :: TB
def wp_X9_opOf (post : Int32 → Prop) (x0 : Int32) : Prop :=
  (2 ≤ x0 → ((x0 = 52 → (post 0)) ∧ (¬ x0 = 52 → (vp_in (2 * x0) (lenM.getD 1 0) ∧ (∀ r_2 : Int32, r_2 = sCh bytM 1 (2 * x0).toNatClampNeg → vp_in ((2 * x0) + 1) (lenM.getD 1 0) ∧ (∀ r_4 : Int32, r_4 = sCh bytM 1 ((2 * x0) + 1).toNatClampNeg → post (((10 * (r_2 - 48)) + r_4) - 48))))))) ∧ (¬ 2 ≤ x0 → (post x0))
set_option maxHeartbeats 4000000 in
set_option maxRecDepth 100000 in
theorem k_X9_opOf {p : Program} {l : Launch} {e : Env} {s : State} {m : MethodId} {args : Array Value} {below : List Frame} {meth : Method} {c : Code} {A : Nat → Prop} {E : EnvT} {aK aV : Nat → Nat} (C : sCx p s m args meth c cX9_opOf 1 (some .int) wgX9_opOf RX9 E A) (vM : eMs aK aV E) {post : Int32 → Prop} :
    ∀ (x0 : Int32) (H : Heap) (locs : List Loc) (ls : Array Slot), va_S A s.heap H locs → lv_has ls 1 [(0, .int x0)] → wp_X9_opOf post x0 → W p l e rm_X9_opOf s m args below meth c H locs 0 0 (MQ below (va_Qi (S := Unit) (fun r _ => post r) (fun _ _ => True) A) args s 0 0 A) (F0 m 0 ls []) := by
  obtain ⟨hx, hb, hml, hr, hown, hts, hA, hlk, hE, vE⟩ := id C
  intro x0 H locs ls hG hl hw
  have hS := hG
  refine lv_iload_n hx hb dX9_opOf_0 rfl (lv_at hl 0 rfl) ?_
  refine lv_iconst (v := 2) hx hb dX9_opOf_1 (by decide) ?_
  refine lv_icmp_ge (tgt := 7) hx hb dX9_opOf_2 (by decide) (fun q_ => ?_) (fun q_ => ?_)
  · have hw := hw.1 q_
    refine lv_iload_n hx hb dX9_opOf_7 rfl (lv_at hl 0 rfl) ?_
    refine lv_bipush (v := 52) hx hb dX9_opOf_8 (by decide) ?_
    refine lv_icmp_ne (tgt := 15) hx hb dX9_opOf_10 (by decide) (fun q_ => ?_) (fun q_ => ?_)
    · have hw := hw.2 q_
      refine lv_bipush (v := 10) hx hb dX9_opOf_15 (by decide) ?_
      refine va_ldcS hx hb hown (vM _ _ _ hE).2.2.1 dX9_opOf_17 ?_
      refine lv_iconst (v := 2) hx hb dX9_opOf_19 (by decide) ?_
      refine lv_iload_n hx hb dX9_opOf_20 rfl (lv_at hl 0 rfl) ?_
      refine lv_imul hx hb dX9_opOf_21 ?_
      obtain ⟨h_1, hw⟩ := hw
      refine sK_i (i := 1) (As := [.int (2 * x0)]) (rest := [.int 10]) C ((vM _ _ _ hE).1.1 1 (by decide)).1 (met_J0_charAt vE (fun A U H z => (vM A U H z).1) (i := 1) (by decide) (post := fun r => r = sCh bytM 1 (2 * x0).toNatClampNeg) (in_nn h_1) (in_lt h_1 (by decide)) h_1 rfl) (cwV 1 hts (TB_G (TB_4 tw_6_61 tw_2_57 tw_2_58 tw_1_11) tw_2_59) rfl rfl rfl (by decide +kernel) ⟨by decide, by decide⟩) hS rfl hl.1 rfl (Nat.le_of_ble_eq_true rfl) dX9_opOf_22 ⟨by decide, by decide⟩ (fun r_2 H locs er_2 hS => ?_)
      have hw := hw r_2 er_2
      have hG := hS
      refine lv_bipush (v := 48) hx hb dX9_opOf_25 (by decide) ?_
      refine lv_isub hx hb dX9_opOf_27 ?_
      refine lv_imul hx hb dX9_opOf_28 ?_
      refine va_ldcS hx hb hown (vM _ _ _ hE).2.2.1 dX9_opOf_29 ?_
      refine lv_iconst (v := 2) hx hb dX9_opOf_31 (by decide) ?_
      refine lv_iload_n hx hb dX9_opOf_32 rfl (lv_at hl 0 rfl) ?_
      refine lv_imul hx hb dX9_opOf_33 ?_
      refine lv_iconst (v := 1) hx hb dX9_opOf_34 (by decide) ?_
      refine lv_iadd hx hb dX9_opOf_35 ?_
      obtain ⟨h_3, hw⟩ := hw
      refine sK_i (i := 1) (As := [.int ((2 * x0) + 1)]) (rest := [.int (10 * (r_2 - 48))]) C ((vM _ _ _ hE).1.1 1 (by decide)).1 (met_J0_charAt vE (fun A U H z => (vM A U H z).1) (i := 1) (by decide) (post := fun r => r = sCh bytM 1 ((2 * x0) + 1).toNatClampNeg) (in_nn h_3) (in_lt h_3 (by decide)) h_3 rfl) (cwV 1 hts (TB_G (TB_4 tw_6_61 tw_2_57 tw_2_58 tw_1_11) tw_2_59) rfl rfl rfl (by decide +kernel) ⟨by decide, by decide⟩) hS rfl hl.1 rfl (Nat.le_of_ble_eq_true rfl) dX9_opOf_36 ⟨by decide, by decide⟩ (fun r_4 H locs er_4 hS => ?_)
      have hw := hw r_4 er_4
      have hG := hS
      refine lv_iadd hx hb dX9_opOf_39 ?_
      refine lv_bipush (v := 48) hx hb dX9_opOf_40 (by decide) ?_
      refine lv_isub hx hb dX9_opOf_42 ?_
      exact W.iret (v := ((10 * (r_2 - 48)) + r_4) - 48) hx hb hr (fun t ht hW => ⟨⟨_, (), rfl, hw, trivial⟩, hS.F ht⟩) hS.2.2 dX9_opOf_43 hlk
    · have hw := hw.1 q_
      refine lv_iconst (v := 0) hx hb dX9_opOf_13 (by decide) ?_
      exact W.iret (v := 0) hx hb hr (fun t ht hW => ⟨⟨_, (), rfl, hw, trivial⟩, hS.F ht⟩) hS.2.2 dX9_opOf_14 hlk
  · have hw := hw.2 q_
    refine lv_iload_n hx hb dX9_opOf_5 rfl (lv_at hl 0 rfl) ?_
    exact W.iret (v := x0) hx hb hr (fun t ht hW => ⟨⟨_, (), rfl, hw, trivial⟩, hS.F ht⟩) hS.2.2 dX9_opOf_6 hlk
set_option maxHeartbeats 4000000 in
set_option maxRecDepth 100000 in
theorem met_X9_opOf {l : Launch} {E : EnvT} (vE : EnvOk E) {aK aV : Nat → Nat} (vM : eMs aK aV E) {sz : Nat} {x0 : Int32} {post : Int32 → Prop} (hw : wp_X9_opOf post x0) : Met l yX9_opOf wgX9_opOf rm_X9_opOf (va_Pc [.int x0] (sPre E sz)) (va_Qi (S := Unit) (fun r _ => post r) (fun _ _ => True) (va_A [] sz)) 0 0 (va_A [] sz) := by
  refine Met.ofW (cc := cX9_opOf) (maxL := 1) (ret := (some .int)) (by decide +kernel) rfl ?_
  intro p e s m args below meth c s₁ B hml hv
  obtain ⟨rfl, hsz, hE⟩ := hv
  subst hsz
  generalize hAe : va_A [] s.heap.size = A at hE ⊢
  have hA : ∀ q : Nat, s.heap.size ≤ q → A q := fun q h => by rw [← hAe]; exact Or.inr h
  have hS : va_S A s.heap s.heap [] := va_S.rf
  have C : sCx p s m _ meth c cX9_opOf 1 (some .int) wgX9_opOf RX9 E A := ⟨B.exec, B.bytes, hml, B.returns, findClass_of_methodNamed B.named, atoms_spec (ws := wgX9_opOf) B.pre, hA, B.notSynchronized, hE, vE⟩
  have hG := hS
  have hl := lv_entry ([.int x0]) (n := 1) (Nat.le_of_ble_eq_true rfl)
  rw [lg_entry_eq]
  generalize (lg_sl ([.int x0]) ++ List.replicate (1 - (lg_sl ([.int x0])).length) Slot.unset).toArray = ls at hl ⊢
  have hl : lv_has ls 1 [(0, .int x0)] := hl
  exact k_X9_opOf C vM x0 _ _ _ hG hl hw
/-! ===== letterOf ===== -/
def rm_X9_letterOf : Room := { frames := 4, cells := 0, slots := 0, locals := 85 }
abbrev wgX9_letterOf : List Cond := .code yX9_letterOf cX9_letterOf 2 (some .int) :: TB
def wp_X9_letterOf (post : Int32 → Prop) (x0 : Int32) (x1 : Int32) : Prop :=
  vp_in ((8 * x0) + x1) (lenM.getD 2 0) ∧ (∀ r_2 : Int32, r_2 = sCh bytM 2 ((8 * x0) + x1).toNatClampNeg → post r_2)
set_option maxHeartbeats 4000000 in
set_option maxRecDepth 100000 in
theorem k_X9_letterOf {p : Program} {l : Launch} {e : Env} {s : State} {m : MethodId} {args : Array Value} {below : List Frame} {meth : Method} {c : Code} {A : Nat → Prop} {E : EnvT} {aK aV : Nat → Nat} (C : sCx p s m args meth c cX9_letterOf 2 (some .int) wgX9_letterOf RX9 E A) (vM : eMs aK aV E) {post : Int32 → Prop} :
    ∀ (x0 : Int32) (x1 : Int32) (H : Heap) (locs : List Loc) (ls : Array Slot), va_S A s.heap H locs → lv_has ls 2 [(0, .int x0), (1, .int x1)] → wp_X9_letterOf post x0 x1 → W p l e rm_X9_letterOf s m args below meth c H locs 0 0 (MQ below (va_Qi (S := Unit) (fun r _ => post r) (fun _ _ => True) A) args s 0 0 A) (F0 m 0 ls []) := by
  obtain ⟨hx, hb, hml, hr, hown, hts, hA, hlk, hE, vE⟩ := id C
  intro x0 x1 H locs ls hG hl hw
  have hS := hG
  refine va_ldcS hx hb hown (vM _ _ _ hE).2.2.2 dX9_letterOf_0 ?_
  refine lv_bipush (v := 8) hx hb dX9_letterOf_2 (by decide) ?_
  refine lv_iload_n hx hb dX9_letterOf_4 rfl (lv_at hl 0 rfl) ?_
  refine lv_imul hx hb dX9_letterOf_5 ?_
  refine lv_iload_n hx hb dX9_letterOf_6 rfl (lv_at hl 1 rfl) ?_
  refine lv_iadd hx hb dX9_letterOf_7 ?_
  obtain ⟨h_1, hw⟩ := hw
  refine sK_i (i := 2) (As := [.int ((8 * x0) + x1)]) (rest := []) C ((vM _ _ _ hE).1.1 2 (by decide)).1 (met_J0_charAt vE (fun A U H z => (vM A U H z).1) (i := 2) (by decide) (post := fun r => r = sCh bytM 2 ((8 * x0) + x1).toNatClampNeg) (in_nn h_1) (in_lt h_1 (by decide)) h_1 rfl) (cwV 1 hts (TB_G (TB_4 tw_6_61 tw_2_57 tw_2_58 tw_1_11) tw_2_59) rfl rfl rfl (by decide +kernel) ⟨by decide, by decide⟩) hS rfl hl.1 rfl (Nat.le_of_ble_eq_true rfl) dX9_letterOf_8 ⟨by decide, by decide⟩ (fun r_2 H locs er_2 hS => ?_)
  have hw := hw r_2 er_2
  have hG := hS
  exact W.iret (v := r_2) hx hb hr (fun t ht hW => ⟨⟨_, (), rfl, hw, trivial⟩, hS.F ht⟩) hS.2.2 dX9_letterOf_11 hlk
set_option maxHeartbeats 4000000 in
set_option maxRecDepth 100000 in
theorem met_X9_letterOf {l : Launch} {E : EnvT} (vE : EnvOk E) {aK aV : Nat → Nat} (vM : eMs aK aV E) {sz : Nat} {x0 : Int32} {x1 : Int32} {post : Int32 → Prop} (hw : wp_X9_letterOf post x0 x1) : Met l yX9_letterOf wgX9_letterOf rm_X9_letterOf (va_Pc [.int x0, .int x1] (sPre E sz)) (va_Qi (S := Unit) (fun r _ => post r) (fun _ _ => True) (va_A [] sz)) 0 0 (va_A [] sz) := by
  refine Met.ofW (cc := cX9_letterOf) (maxL := 2) (ret := (some .int)) (by decide +kernel) rfl ?_
  intro p e s m args below meth c s₁ B hml hv
  obtain ⟨rfl, hsz, hE⟩ := hv
  subst hsz
  generalize hAe : va_A [] s.heap.size = A at hE ⊢
  have hA : ∀ q : Nat, s.heap.size ≤ q → A q := fun q h => by rw [← hAe]; exact Or.inr h
  have hS : va_S A s.heap s.heap [] := va_S.rf
  have C : sCx p s m _ meth c cX9_letterOf 2 (some .int) wgX9_letterOf RX9 E A := ⟨B.exec, B.bytes, hml, B.returns, findClass_of_methodNamed B.named, atoms_spec (ws := wgX9_letterOf) B.pre, hA, B.notSynchronized, hE, vE⟩
  have hG := hS
  have hl := lv_entry ([.int x0, .int x1]) (n := 2) (Nat.le_of_ble_eq_true rfl)
  rw [lg_entry_eq]
  generalize (lg_sl ([.int x0, .int x1]) ++ List.replicate (2 - (lg_sl ([.int x0, .int x1])).length) Slot.unset).toArray = ls at hl ⊢
  have hl : lv_has ls 2 [(0, .int x0), (1, .int x1)] := hl
  exact k_X9_letterOf C vM x0 x1 _ _ _ hG hl hw
/-! ===== spelt ===== -/
def rm_X9_spelt : Room := { frames := 5, cells := 0, slots := 0, locals := 106 }
abbrev wgX9_spelt : List Cond := .code yX9_spelt cX9_spelt 4 (some .long) :: TB
def wB_X9_spelt_38 (post : Int64 → Prop) (x1 : Int64) : Prop :=
  post x1
def wB_X9_spelt_4 (post : Int64 → Prop) (k4 : Int32 → Int64 → Int32 → Prop) (x0 : Int32) (x1 : Int64) (x3 : Int32) : Prop :=
  (8 ≤ x3 → (wB_X9_spelt_38 post x1)) ∧ (¬ 8 ≤ x3 → (wp_X9_letterOf (fun r_1  => (r_1 = 32 → (wB_X9_spelt_38 post x1)) ∧ (¬ r_1 = 32 → (wp_X9_letterOf (fun r_3  => ∀ x1_5 : Int64, x1_5 = (x1 <<< ((8 : Int32).toInt64 &&& 63)) ||| (r_3.toInt64) → ∀ x3_6 : Int32, x3_6 = x3 + 1 → k4 x0 x1_5 x3_6) x0 x3))) x0 x3))
def wL_X9_spelt_4 (post : Int64 → Prop) : Nat → Int32 → Int64 → Int32 → Prop
  | 0 => fun _ _ _ => False
  | n + 1 => wB_X9_spelt_4 post (wL_X9_spelt_4 post n)
def wp_X9_spelt (post : Int64 → Prop) (x0 : Int32) : Prop :=
  ∃ n, wL_X9_spelt_4 post n x0 0 0
set_option maxHeartbeats 4000000 in
set_option maxRecDepth 100000 in
theorem kB_X9_spelt_38 {p : Program} {l : Launch} {e : Env} {s : State} {m : MethodId} {args : Array Value} {below : List Frame} {meth : Method} {c : Code} {A : Nat → Prop} {E : EnvT} {aK aV : Nat → Nat} (C : sCx p s m args meth c cX9_spelt 4 (some .long) wgX9_spelt RX9 E A) (vM : eMs aK aV E) {post : Int64 → Prop} :
    ∀ (x1 : Int64) (H : Heap) (locs : List Loc) (ls : Array Slot), va_S A s.heap H locs → lv_has ls 4 [(1, .long x1)] → wB_X9_spelt_38 post x1 → W p l e rm_X9_spelt s m args below meth c H locs 0 0 (MQ below (va_Ql (S := Unit) (fun r _ => post r) (fun _ _ => True) A) args s 0 0 A) (F0 m 38 ls []) := by
  obtain ⟨hx, hb, hml, hr, hown, hts, hA, hlk, hE, vE⟩ := id C
  intro x1 H locs ls hG hl hw
  have hS := hG
  refine lv_lload_n hx hb dX9_spelt_38 rfl (lv_at hl 0 rfl) ?_
  exact W.lret (v := x1) hx hb hr (fun t ht hW => ⟨⟨_, (), rfl, hw, trivial⟩, hS.F ht⟩) hS.2.2 dX9_spelt_39 hlk
set_option maxHeartbeats 4000000 in
set_option maxRecDepth 100000 in
theorem kB_X9_spelt_4 {p : Program} {l : Launch} {e : Env} {s : State} {m : MethodId} {args : Array Value} {below : List Frame} {meth : Method} {c : Code} {A : Nat → Prop} {E : EnvT} {aK aV : Nat → Nat} (C : sCx p s m args meth c cX9_spelt 4 (some .long) wgX9_spelt RX9 E A) (vM : eMs aK aV E) {post : Int64 → Prop}
    {k4 : Int32 → Int64 → Int32 → Prop} (hk4 : ∀ (x0 : Int32) (x1 : Int64) (x3 : Int32) (H : Heap) (locs : List Loc) (ls : Array Slot), va_S A s.heap H locs → lv_has ls 4 [(0, .int x0), (1, .long x1), (3, .int x3)] → k4 x0 x1 x3 → W p l e rm_X9_spelt s m args below meth c H locs 0 0 (MQ below (va_Ql (S := Unit) (fun r _ => post r) (fun _ _ => True) A) args s 0 0 A) (F0 m 4 ls [])) :
    ∀ (x0 : Int32) (x1 : Int64) (x3 : Int32) (H : Heap) (locs : List Loc) (ls : Array Slot), va_S A s.heap H locs → lv_has ls 4 [(0, .int x0), (1, .long x1), (3, .int x3)] → wB_X9_spelt_4 post k4 x0 x1 x3 → W p l e rm_X9_spelt s m args below meth c H locs 0 0 (MQ below (va_Ql (S := Unit) (fun r _ => post r) (fun _ _ => True) A) args s 0 0 A) (F0 m 4 ls []) := by
  obtain ⟨hx, hb, hml, hr, hown, hts, hA, hlk, hE, vE⟩ := id C
  intro x0 x1 x3 H locs ls hG hl hw
  have hS := hG
  refine lv_iload_n hx hb dX9_spelt_4 rfl (lv_at hl 2 rfl) ?_
  refine lv_bipush (v := 8) hx hb dX9_spelt_5 (by decide) ?_
  refine lv_icmp_ge (tgt := 38) hx hb dX9_spelt_7 (by decide) (fun q_ => ?_) (fun q_ => ?_)
  · have hw := hw.1 q_
    exact kB_X9_spelt_38 C vM x1 _ _ _ hG (lv_sub hl [1] rfl) hw
  · have hw := hw.2 q_
    refine lv_iload_n hx hb dX9_spelt_10 rfl (lv_at hl 0 rfl) ?_
    refine lv_iload_n hx hb dX9_spelt_11 rfl (lv_at hl 2 rfl) ?_
    refine sS_i (As := [.int x0, .int x3]) (rest := []) C (met_X9_letterOf vE vM hw) (va_cwS 2 hts (TB_G (TB_3 tw_6_57 tw_6_58 tw_1_13) tw_6_59) rfl rfl rfl (by decide +kernel) ⟨by decide, by decide⟩) hS rfl hl.1 rfl (Nat.le_of_ble_eq_true rfl) dX9_spelt_12 ⟨by decide, by decide⟩ (fun r_1 H locs hw hS => ?_)
    have hG := hS
    refine lv_bipush (v := 32) hx hb dX9_spelt_15 (by decide) ?_
    refine lv_icmp_eq (tgt := 38) hx hb dX9_spelt_17 (by decide) (fun q_ => ?_) (fun q_ => ?_)
    · have hw := hw.1 q_
      exact kB_X9_spelt_38 C vM x1 _ _ _ hG (lv_sub hl [1] rfl) hw
    · have hw := hw.2 q_
      refine lv_lload_n hx hb dX9_spelt_20 rfl (lv_at hl 1 rfl) ?_
      refine lv_bipush (v := 8) hx hb dX9_spelt_21 (by decide) ?_
      refine lv_lshl hx hb dX9_spelt_23 rfl ?_
      refine lv_iload_n hx hb dX9_spelt_24 rfl (lv_at hl 0 rfl) ?_
      refine lv_iload_n hx hb dX9_spelt_25 rfl (lv_at hl 2 rfl) ?_
      refine sS_i (As := [.int x0, .int x3]) (rest := [.long (x1 <<< ((8 : Int32).toInt64 &&& 63))]) C (met_X9_letterOf vE vM hw) (va_cwS 2 hts (TB_G (TB_3 tw_6_57 tw_6_58 tw_1_13) tw_6_59) rfl rfl rfl (by decide +kernel) ⟨by decide, by decide⟩) hS rfl hl.1 rfl (Nat.le_of_ble_eq_true rfl) dX9_spelt_26 ⟨by decide, by decide⟩ (fun r_3 H locs hw hS => ?_)
      have hG := hS
      refine lv_i2l hx hb dX9_spelt_29 rfl ?_
      refine lv_lor hx hb dX9_spelt_30 ?_
      refine lv_topl (fun x1_5 ex1_5 => ?_)
      have hw := hw x1_5 ex1_5
      refine lv_lstore_n (lv' := [(1, .long x1_5), (0, .int x0), (3, .int x3)]) hx hb dX9_spelt_31 rfl hl (by decide) rfl (fun ls hl => ?_)
      obtain ⟨x3_6, ex3_6⟩ : ∃ y : Int32, y = x3 + 1 := ⟨_, rfl⟩
      have hw := hw x3_6 ex3_6
      refine lv_iinc (v := x3_6) (lv' := [(3, .int x3_6), (1, .long x1_5), (0, .int x0)]) hx hb dX9_spelt_32 hl (k := 2) rfl (by rw [ex3_6]; rfl) (by decide) rfl (fun ls hl => ?_)
      refine lv_goto (tgt := 4) hx hb dX9_spelt_35 (by decide) ?_
      exact hk4 x0 x1_5 x3_6 _ _ _ hG (lv_sub hl [2, 1, 0] rfl) hw
theorem kL_X9_spelt_4 {p : Program} {l : Launch} {e : Env} {s : State} {m : MethodId} {args : Array Value} {below : List Frame} {meth : Method} {c : Code} {A : Nat → Prop} {E : EnvT} {aK aV : Nat → Nat} (C : sCx p s m args meth c cX9_spelt 4 (some .long) wgX9_spelt RX9 E A) (vM : eMs aK aV E) {post : Int64 → Prop} :
    ∀ (n : Nat) (x0 : Int32) (x1 : Int64) (x3 : Int32) (H : Heap) (locs : List Loc) (ls : Array Slot), va_S A s.heap H locs → lv_has ls 4 [(0, .int x0), (1, .long x1), (3, .int x3)] → wL_X9_spelt_4 post n x0 x1 x3 → W p l e rm_X9_spelt s m args below meth c H locs 0 0 (MQ below (va_Ql (S := Unit) (fun r _ => post r) (fun _ _ => True) A) args s 0 0 A) (F0 m 4 ls []) := by
  intro n
  induction n with
  | zero => intro x0 x1 x3 H locs ls hG hl hw; exact hw.elim
  | succ n ih => exact kB_X9_spelt_4 C vM ih
set_option maxHeartbeats 4000000 in
set_option maxRecDepth 100000 in
theorem k_X9_spelt {p : Program} {l : Launch} {e : Env} {s : State} {m : MethodId} {args : Array Value} {below : List Frame} {meth : Method} {c : Code} {A : Nat → Prop} {E : EnvT} {aK aV : Nat → Nat} (C : sCx p s m args meth c cX9_spelt 4 (some .long) wgX9_spelt RX9 E A) (vM : eMs aK aV E) {post : Int64 → Prop} :
    ∀ (x0 : Int32) (H : Heap) (locs : List Loc) (ls : Array Slot), va_S A s.heap H locs → lv_has ls 4 [(0, .int x0)] → wp_X9_spelt post x0 → W p l e rm_X9_spelt s m args below meth c H locs 0 0 (MQ below (va_Ql (S := Unit) (fun r _ => post r) (fun _ _ => True) A) args s 0 0 A) (F0 m 0 ls []) := by
  obtain ⟨hx, hb, hml, hr, hown, hts, hA, hlk, hE, vE⟩ := id C
  intro x0 H locs ls hG hl hw
  have hS := hG
  refine lv_lconst (v := 0) hx hb dX9_spelt_0 (by decide) ?_
  refine lv_lstore_n (lv' := [(1, .long 0), (0, .int x0)]) hx hb dX9_spelt_1 rfl hl (by decide) rfl (fun ls hl => ?_)
  refine lv_iconst (v := 0) hx hb dX9_spelt_2 (by decide) ?_
  refine lv_istore_n (lv' := [(3, .int 0), (1, .long 0), (0, .int x0)]) hx hb dX9_spelt_3 rfl hl (by decide) rfl (fun ls hl => ?_)
  obtain ⟨n_, hw⟩ := hw
  exact kL_X9_spelt_4 C vM n_ x0 0 0 _ _ _ hG (lv_sub hl [2, 1, 0] rfl) hw
set_option maxHeartbeats 4000000 in
set_option maxRecDepth 100000 in
theorem met_X9_spelt {l : Launch} {E : EnvT} (vE : EnvOk E) {aK aV : Nat → Nat} (vM : eMs aK aV E) {sz : Nat} {x0 : Int32} {post : Int64 → Prop} (hw : wp_X9_spelt post x0) : Met l yX9_spelt wgX9_spelt rm_X9_spelt (va_Pc [.int x0] (sPre E sz)) (va_Ql (S := Unit) (fun r _ => post r) (fun _ _ => True) (va_A [] sz)) 0 0 (va_A [] sz) := by
  refine Met.ofW (cc := cX9_spelt) (maxL := 4) (ret := (some .long)) (by decide +kernel) rfl ?_
  intro p e s m args below meth c s₁ B hml hv
  obtain ⟨rfl, hsz, hE⟩ := hv
  subst hsz
  generalize hAe : va_A [] s.heap.size = A at hE ⊢
  have hA : ∀ q : Nat, s.heap.size ≤ q → A q := fun q h => by rw [← hAe]; exact Or.inr h
  have hS : va_S A s.heap s.heap [] := va_S.rf
  have C : sCx p s m _ meth c cX9_spelt 4 (some .long) wgX9_spelt RX9 E A := ⟨B.exec, B.bytes, hml, B.returns, findClass_of_methodNamed B.named, atoms_spec (ws := wgX9_spelt) B.pre, hA, B.notSynchronized, hE, vE⟩
  have hG := hS
  have hl := lv_entry ([.int x0]) (n := 4) (Nat.le_of_ble_eq_true rfl)
  rw [lg_entry_eq]
  generalize (lg_sl ([.int x0]) ++ List.replicate (4 - (lg_sl ([.int x0])).length) Slot.unset).toArray = ls at hl ⊢
  have hl : lv_has ls 4 [(0, .int x0)] := hl
  exact k_X9_spelt C vM x0 _ _ _ hG hl hw
/-! ===== wordOf ===== -/
def rm_X9_wordOf : Room := { frames := 6, cells := 0, slots := 0, locals := 129 }
abbrev wgX9_wordOf : List Cond := .code yX9_wordOf cX9_wordOf 3 (some .int) :: TB
def wB_X9_wordOf_2 (post : Int32 → Prop) (k2 : Int64 → Int32 → Prop) (x0 : Int64) (x2 : Int32) : Prop :=
  (53 ≤ x2 → (post (-1))) ∧ (¬ 53 ≤ x2 → (wp_X9_spelt (fun r_1  => (r_1 = x0 → (post x2)) ∧ (¬ r_1 = x0 → (∀ x2_3 : Int32, x2_3 = x2 + 1 → k2 x0 x2_3))) x2))
def wL_X9_wordOf_2 (post : Int32 → Prop) : Nat → Int64 → Int32 → Prop
  | 0 => fun _ _ => False
  | n + 1 => wB_X9_wordOf_2 post (wL_X9_wordOf_2 post n)
def wp_X9_wordOf (post : Int32 → Prop) (x0 : Int64) : Prop :=
  ∃ n, wL_X9_wordOf_2 post n x0 0
set_option maxHeartbeats 4000000 in
set_option maxRecDepth 100000 in
theorem kB_X9_wordOf_2 {p : Program} {l : Launch} {e : Env} {s : State} {m : MethodId} {args : Array Value} {below : List Frame} {meth : Method} {c : Code} {A : Nat → Prop} {E : EnvT} {aK aV : Nat → Nat} (C : sCx p s m args meth c cX9_wordOf 3 (some .int) wgX9_wordOf RX9 E A) (vM : eMs aK aV E) {post : Int32 → Prop}
    {k2 : Int64 → Int32 → Prop} (hk2 : ∀ (x0 : Int64) (x2 : Int32) (H : Heap) (locs : List Loc) (ls : Array Slot), va_S A s.heap H locs → lv_has ls 3 [(0, .long x0), (2, .int x2)] → k2 x0 x2 → W p l e rm_X9_wordOf s m args below meth c H locs 0 0 (MQ below (va_Qi (S := Unit) (fun r _ => post r) (fun _ _ => True) A) args s 0 0 A) (F0 m 2 ls [])) :
    ∀ (x0 : Int64) (x2 : Int32) (H : Heap) (locs : List Loc) (ls : Array Slot), va_S A s.heap H locs → lv_has ls 3 [(0, .long x0), (2, .int x2)] → wB_X9_wordOf_2 post k2 x0 x2 → W p l e rm_X9_wordOf s m args below meth c H locs 0 0 (MQ below (va_Qi (S := Unit) (fun r _ => post r) (fun _ _ => True) A) args s 0 0 A) (F0 m 2 ls []) := by
  obtain ⟨hx, hb, hml, hr, hown, hts, hA, hlk, hE, vE⟩ := id C
  intro x0 x2 H locs ls hG hl hw
  have hS := hG
  refine lv_iload_n hx hb dX9_wordOf_2 rfl (lv_at hl 1 rfl) ?_
  refine lv_bipush (v := 53) hx hb dX9_wordOf_3 (by decide) ?_
  refine lv_icmp_ge (tgt := 25) hx hb dX9_wordOf_5 (by decide) (fun q_ => ?_) (fun q_ => ?_)
  · have hw := hw.1 q_
    refine lv_iconst (v := (-1)) hx hb dX9_wordOf_25 (by decide) ?_
    exact W.iret (v := (-1)) hx hb hr (fun t ht hW => ⟨⟨_, (), rfl, hw, trivial⟩, hS.F ht⟩) hS.2.2 dX9_wordOf_26 hlk
  · have hw := hw.2 q_
    refine lv_iload_n hx hb dX9_wordOf_8 rfl (lv_at hl 1 rfl) ?_
    refine sS_l (As := [.int x2]) (rest := []) C (met_X9_spelt vE vM hw) (va_cwS 1 hts (TB_G (TB_3 tw_6_54 tw_6_55 tw_1_13) tw_6_56) rfl rfl rfl (by decide +kernel) ⟨by decide, by decide⟩) hS rfl hl.1 rfl (Nat.le_of_ble_eq_true rfl) dX9_wordOf_9 ⟨by decide, by decide⟩ (fun r_1 H locs hw hS => ?_)
    have hG := hS
    refine lv_lload_n hx hb dX9_wordOf_12 rfl (lv_at hl 0 rfl) ?_
    refine W.lcmp hx hb dX9_wordOf_13 ?_
    refine lv_if_ne (tgt := 19) hx hb dX9_wordOf_14 (by decide) (fun q_ => ?_) (fun q_ => ?_)
    · have hw := hw.2 (fun z => q_ (lc_eq.mpr z))
      obtain ⟨x2_3, ex2_3⟩ : ∃ y : Int32, y = x2 + 1 := ⟨_, rfl⟩
      have hw := hw x2_3 ex2_3
      refine lv_iinc (v := x2_3) (lv' := [(2, .int x2_3), (0, .long x0)]) hx hb dX9_wordOf_19 hl (k := 1) rfl (by rw [ex2_3]; rfl) (by decide) rfl (fun ls hl => ?_)
      refine lv_goto (tgt := 2) hx hb dX9_wordOf_22 (by decide) ?_
      exact hk2 x0 x2_3 _ _ _ hG (lv_sub hl [1, 0] rfl) hw
    · have hw := hw.1 (lc_eq.mp q_)
      refine lv_iload_n hx hb dX9_wordOf_17 rfl (lv_at hl 1 rfl) ?_
      exact W.iret (v := x2) hx hb hr (fun t ht hW => ⟨⟨_, (), rfl, hw, trivial⟩, hS.F ht⟩) hS.2.2 dX9_wordOf_18 hlk
theorem kL_X9_wordOf_2 {p : Program} {l : Launch} {e : Env} {s : State} {m : MethodId} {args : Array Value} {below : List Frame} {meth : Method} {c : Code} {A : Nat → Prop} {E : EnvT} {aK aV : Nat → Nat} (C : sCx p s m args meth c cX9_wordOf 3 (some .int) wgX9_wordOf RX9 E A) (vM : eMs aK aV E) {post : Int32 → Prop} :
    ∀ (n : Nat) (x0 : Int64) (x2 : Int32) (H : Heap) (locs : List Loc) (ls : Array Slot), va_S A s.heap H locs → lv_has ls 3 [(0, .long x0), (2, .int x2)] → wL_X9_wordOf_2 post n x0 x2 → W p l e rm_X9_wordOf s m args below meth c H locs 0 0 (MQ below (va_Qi (S := Unit) (fun r _ => post r) (fun _ _ => True) A) args s 0 0 A) (F0 m 2 ls []) := by
  intro n
  induction n with
  | zero => intro x0 x2 H locs ls hG hl hw; exact hw.elim
  | succ n ih => exact kB_X9_wordOf_2 C vM ih
set_option maxHeartbeats 4000000 in
set_option maxRecDepth 100000 in
theorem k_X9_wordOf {p : Program} {l : Launch} {e : Env} {s : State} {m : MethodId} {args : Array Value} {below : List Frame} {meth : Method} {c : Code} {A : Nat → Prop} {E : EnvT} {aK aV : Nat → Nat} (C : sCx p s m args meth c cX9_wordOf 3 (some .int) wgX9_wordOf RX9 E A) (vM : eMs aK aV E) {post : Int32 → Prop} :
    ∀ (x0 : Int64) (H : Heap) (locs : List Loc) (ls : Array Slot), va_S A s.heap H locs → lv_has ls 3 [(0, .long x0)] → wp_X9_wordOf post x0 → W p l e rm_X9_wordOf s m args below meth c H locs 0 0 (MQ below (va_Qi (S := Unit) (fun r _ => post r) (fun _ _ => True) A) args s 0 0 A) (F0 m 0 ls []) := by
  obtain ⟨hx, hb, hml, hr, hown, hts, hA, hlk, hE, vE⟩ := id C
  intro x0 H locs ls hG hl hw
  have hS := hG
  refine lv_iconst (v := 0) hx hb dX9_wordOf_0 (by decide) ?_
  refine lv_istore_n (lv' := [(2, .int 0), (0, .long x0)]) hx hb dX9_wordOf_1 rfl hl (by decide) rfl (fun ls hl => ?_)
  obtain ⟨n_, hw⟩ := hw
  exact kL_X9_wordOf_2 C vM n_ x0 0 _ _ _ hG (lv_sub hl [1, 0] rfl) hw
set_option maxHeartbeats 4000000 in
set_option maxRecDepth 100000 in
theorem met_X9_wordOf {l : Launch} {E : EnvT} (vE : EnvOk E) {aK aV : Nat → Nat} (vM : eMs aK aV E) {sz : Nat} {x0 : Int64} {post : Int32 → Prop} (hw : wp_X9_wordOf post x0) : Met l yX9_wordOf wgX9_wordOf rm_X9_wordOf (va_Pc [.long x0] (sPre E sz)) (va_Qi (S := Unit) (fun r _ => post r) (fun _ _ => True) (va_A [] sz)) 0 0 (va_A [] sz) := by
  refine Met.ofW (cc := cX9_wordOf) (maxL := 3) (ret := (some .int)) (by decide +kernel) rfl ?_
  intro p e s m args below meth c s₁ B hml hv
  obtain ⟨rfl, hsz, hE⟩ := hv
  subst hsz
  generalize hAe : va_A [] s.heap.size = A at hE ⊢
  have hA : ∀ q : Nat, s.heap.size ≤ q → A q := fun q h => by rw [← hAe]; exact Or.inr h
  have hS : va_S A s.heap s.heap [] := va_S.rf
  have C : sCx p s m _ meth c cX9_wordOf 3 (some .int) wgX9_wordOf RX9 E A := ⟨B.exec, B.bytes, hml, B.returns, findClass_of_methodNamed B.named, atoms_spec (ws := wgX9_wordOf) B.pre, hA, B.notSynchronized, hE, vE⟩
  have hG := hS
  have hl := lv_entry ([.long x0]) (n := 3) (Nat.le_of_ble_eq_true rfl)
  rw [lg_entry_eq]
  generalize (lg_sl ([.long x0]) ++ List.replicate (3 - (lg_sl ([.long x0])).length) Slot.unset).toArray = ls at hl ⊢
  have hl : lv_has ls 3 [(0, .long x0)] := hl
  exact k_X9_wordOf C vM x0 _ _ _ hG hl hw
/-! ===== isTold ===== -/
def rm_X9_isTold : Room := { frames := 0, cells := 0, slots := 0, locals := 0 }
abbrev wgX9_isTold : List Cond := .code yX9_isTold cX9_isTold 1 (some .boolean) :: TB
def wB_X9_isTold_17 (post : Int32 → Prop) (t0 : Int32) : Prop :=
  isB t0 ∧ (post t0)
def wB_X9_isTold_16 (post : Int32 → Prop) : Prop :=
  wB_X9_isTold_17 post 0
def wp_X9_isTold (post : Int32 → Prop) (x0 : Int32) : Prop :=
  (x0 ≤ 21 → (wB_X9_isTold_16 post)) ∧ (¬ x0 ≤ 21 → ((29 ≤ x0 → (wB_X9_isTold_16 post)) ∧ (¬ 29 ≤ x0 → (wB_X9_isTold_17 post 1))))
set_option maxHeartbeats 4000000 in
set_option maxRecDepth 100000 in
theorem kB_X9_isTold_17 {p : Program} {l : Launch} {e : Env} {s : State} {m : MethodId} {args : Array Value} {below : List Frame} {meth : Method} {c : Code} {A : Nat → Prop} {E : EnvT} {aK aV : Nat → Nat} (C : sCx p s m args meth c cX9_isTold 1 (some .boolean) wgX9_isTold RX9 E A) (vM : eMs aK aV E) {post : Int32 → Prop} :
    ∀ (t0 : Int32) (H : Heap) (locs : List Loc) (ls : Array Slot), va_S A s.heap H locs → lv_has ls 1 [] → wB_X9_isTold_17 post t0 → W p l e rm_X9_isTold s m args below meth c H locs 0 0 (MQ below (va_Qi (S := Unit) (fun r _ => post r) (fun _ _ => True) A) args s 0 0 A) (F0 m 17 ls [.int t0]) := by
  obtain ⟨hx, hb, hml, hr, hown, hts, hA, hlk, hE, vE⟩ := id C
  intro t0 H locs ls hG hl hw
  have hS := hG
  obtain ⟨h_1, hw⟩ := hw
  exact W.zret (v := t0) (ty := .boolean) hx hb hr (isB.n h_1) (fun t ht hW => ⟨⟨_, (), rfl, hw, trivial⟩, hS.F ht⟩) hS.2.2 dX9_isTold_17 hlk
set_option maxHeartbeats 4000000 in
set_option maxRecDepth 100000 in
theorem kB_X9_isTold_16 {p : Program} {l : Launch} {e : Env} {s : State} {m : MethodId} {args : Array Value} {below : List Frame} {meth : Method} {c : Code} {A : Nat → Prop} {E : EnvT} {aK aV : Nat → Nat} (C : sCx p s m args meth c cX9_isTold 1 (some .boolean) wgX9_isTold RX9 E A) (vM : eMs aK aV E) {post : Int32 → Prop} :
    ∀ (H : Heap) (locs : List Loc) (ls : Array Slot), va_S A s.heap H locs → lv_has ls 1 [] → wB_X9_isTold_16 post → W p l e rm_X9_isTold s m args below meth c H locs 0 0 (MQ below (va_Qi (S := Unit) (fun r _ => post r) (fun _ _ => True) A) args s 0 0 A) (F0 m 16 ls []) := by
  obtain ⟨hx, hb, hml, hr, hown, hts, hA, hlk, hE, vE⟩ := id C
  intro H locs ls hG hl hw
  have hS := hG
  refine lv_iconst (v := 0) hx hb dX9_isTold_16 (by decide) ?_
  exact kB_X9_isTold_17 C vM 0 _ _ _ hG (lv_sub hl [] rfl) hw
set_option maxHeartbeats 4000000 in
set_option maxRecDepth 100000 in
theorem k_X9_isTold {p : Program} {l : Launch} {e : Env} {s : State} {m : MethodId} {args : Array Value} {below : List Frame} {meth : Method} {c : Code} {A : Nat → Prop} {E : EnvT} {aK aV : Nat → Nat} (C : sCx p s m args meth c cX9_isTold 1 (some .boolean) wgX9_isTold RX9 E A) (vM : eMs aK aV E) {post : Int32 → Prop} :
    ∀ (x0 : Int32) (H : Heap) (locs : List Loc) (ls : Array Slot), va_S A s.heap H locs → lv_has ls 1 [(0, .int x0)] → wp_X9_isTold post x0 → W p l e rm_X9_isTold s m args below meth c H locs 0 0 (MQ below (va_Qi (S := Unit) (fun r _ => post r) (fun _ _ => True) A) args s 0 0 A) (F0 m 0 ls []) := by
  obtain ⟨hx, hb, hml, hr, hown, hts, hA, hlk, hE, vE⟩ := id C
  intro x0 H locs ls hG hl hw
  have hS := hG
  refine lv_iload_n hx hb dX9_isTold_0 rfl (lv_at hl 0 rfl) ?_
  refine lv_bipush (v := 21) hx hb dX9_isTold_1 (by decide) ?_
  refine lv_icmp_le (tgt := 16) hx hb dX9_isTold_3 (by decide) (fun q_ => ?_) (fun q_ => ?_)
  · have hw := hw.1 q_
    exact kB_X9_isTold_16 C vM  _ _ _ hG (lv_sub hl [] rfl) hw
  · have hw := hw.2 q_
    refine lv_iload_n hx hb dX9_isTold_6 rfl (lv_at hl 0 rfl) ?_
    refine lv_bipush (v := 29) hx hb dX9_isTold_7 (by decide) ?_
    refine lv_icmp_ge (tgt := 16) hx hb dX9_isTold_9 (by decide) (fun q_ => ?_) (fun q_ => ?_)
    · have hw := hw.1 q_
      exact kB_X9_isTold_16 C vM  _ _ _ hG (lv_sub hl [] rfl) hw
    · have hw := hw.2 q_
      refine lv_iconst (v := 1) hx hb dX9_isTold_12 (by decide) ?_
      refine lv_goto (tgt := 17) hx hb dX9_isTold_13 (by decide) ?_
      exact kB_X9_isTold_17 C vM 1 _ _ _ hG (lv_sub hl [] rfl) hw
set_option maxHeartbeats 4000000 in
set_option maxRecDepth 100000 in
theorem met_X9_isTold {l : Launch} {E : EnvT} (vE : EnvOk E) {aK aV : Nat → Nat} (vM : eMs aK aV E) {sz : Nat} {x0 : Int32} {post : Int32 → Prop} (hw : wp_X9_isTold post x0) : Met l yX9_isTold wgX9_isTold rm_X9_isTold (va_Pc [.int x0] (sPre E sz)) (va_Qi (S := Unit) (fun r _ => post r) (fun _ _ => True) (va_A [] sz)) 0 0 (va_A [] sz) := by
  refine Met.ofW (cc := cX9_isTold) (maxL := 1) (ret := (some .boolean)) (by decide +kernel) rfl ?_
  intro p e s m args below meth c s₁ B hml hv
  obtain ⟨rfl, hsz, hE⟩ := hv
  subst hsz
  generalize hAe : va_A [] s.heap.size = A at hE ⊢
  have hA : ∀ q : Nat, s.heap.size ≤ q → A q := fun q h => by rw [← hAe]; exact Or.inr h
  have hS : va_S A s.heap s.heap [] := va_S.rf
  have C : sCx p s m _ meth c cX9_isTold 1 (some .boolean) wgX9_isTold RX9 E A := ⟨B.exec, B.bytes, hml, B.returns, findClass_of_methodNamed B.named, atoms_spec (ws := wgX9_isTold) B.pre, hA, B.notSynchronized, hE, vE⟩
  have hG := hS
  have hl := lv_entry ([.int x0]) (n := 1) (Nat.le_of_ble_eq_true rfl)
  rw [lg_entry_eq]
  generalize (lg_sl ([.int x0]) ++ List.replicate (1 - (lg_sl ([.int x0])).length) Slot.unset).toArray = ls at hl ⊢
  have hl : lv_has ls 1 [(0, .int x0)] := hl
  exact k_X9_isTold C vM x0 _ _ _ hG hl hw
