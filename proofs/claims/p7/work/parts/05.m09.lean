/-! ===== compile ===== -/
def rm_X9_compile : Room := { frames := 8, cells := 0, slots := 0, locals := 174 }
abbrev wgX9_compile : List Cond := .code yX9_compile cX9_compile 3 (some .int) :: TB
def wB_X9_compile_118 (post : Int32 → MS → Prop) (k118 : Int32 → MS → Prop) (x2 : Int32) (σ : MS) : Prop :=
  ((mI σ 11) ≤ x2 → (post (mI σ 11) σ)) ∧ (¬ (mI σ 11) ≤ x2 → (vp_in x2 65 ∧ (vp_in x2 64 ∧ (∀ x2_6 : Int32, x2_6 = x2 + 1 → k118 x2_6 (wL σ 10 x2.toNatClampNeg (mL σ 12 x2.toNatClampNeg))))))
def wL_X9_compile_118 (post : Int32 → MS → Prop) : Nat → Int32 → MS → Prop
  | 0 => fun _ _ => False
  | n + 1 => wB_X9_compile_118 post (wL_X9_compile_118 post n)
def wB_X9_compile_80 (post : Int32 → MS → Prop) (σ : MS) : Prop :=
  ((mI σ 3) = 0 → (∃ n, wL_X9_compile_118 post n 0 (wI (wI (wI σ 0 0) 14 (1 - (mI σ 14))) 11 (mI σ 13)))) ∧ (¬ (mI σ 3) = 0 → (wp_X9_raise (fun r_7 σ_8 => post r_7 σ_8) 1 σ))
def wB_X9_compile_72 (post : Int32 → MS → Prop) (x1 : Int32) (σ : MS) : Prop :=
  (x1 = 0 → (wB_X9_compile_80 post σ)) ∧ (¬ x1 = 0 → (wp_X9_resolve (fun σ_10 => wB_X9_compile_80 post σ_10) σ))
def wB_X9_compile_48 (post : Int32 → MS → Prop) (k48 : Int32 → MS → Prop) (x1 : Int32) (σ : MS) : Prop :=
  (x1 = 0 → (wB_X9_compile_72 post x1 σ)) ∧ (¬ x1 = 0 → (vp_in (mI σ 9) 702 ∧ (((mA σ 6 (mI σ 9).toNatClampNeg) = 0 → (wB_X9_compile_72 post x1 σ)) ∧ (¬ (mA σ 6 (mI σ 9).toNatClampNeg) = 0 → (wp_X9_readStatement (fun r_12 σ_13 => k48 r_12 σ_13) σ)))))
def wL_X9_compile_48 (post : Int32 → MS → Prop) : Nat → Int32 → MS → Prop
  | 0 => fun _ _ => False
  | n + 1 => wB_X9_compile_48 post (wL_X9_compile_48 post n)
def wp_X9_compile (post : Int32 → MS → Prop) (σ : MS) : Prop :=
  wp_X9_tokenize (fun σ_2 => vp_in (1 - (mI σ_2 14)) 2 ∧ (∃ n, wL_X9_compile_48 post n 1 (wA (wI (wI (wI (wI σ_2 2 0) 9 0) 13 0) 18 0) 15 (1 - (mI σ_2 14)).toNatClampNeg 0))) (wI (wI σ 3 0) 4 0)
set_option maxHeartbeats 4000000 in
set_option maxRecDepth 100000 in
theorem kB_X9_compile_118 {p : Program} {l : Launch} {e : Env} {s : State} {m : MethodId} {args : Array Value} {below : List Frame} {meth : Method} {c : Code} {A : Nat → Prop} {E : EnvT} {aK aV : Nat → Nat} {D : va_G} {cA : Nat → ClassId} {h : Nat} {ad : Nat → Nat} (C : mCx p s m args meth c cX9_compile 3 (some .int) wgX9_compile RX9 E D cA A) (vM : eMs aK aV E) {post : Int32 → MS → Prop}
    {k118 : Int32 → MS → Prop} (hk118 : ∀ (x2 : Int32) (σ : MS) (H : Heap) (locs : List Loc) (ls : Array Slot), mG D cA h ad A s σ H locs → lv_has ls 3 [(0, .ref h), (2, .int x2)] → k118 x2 σ → W p l e rm_X9_compile s m args below meth c H locs 0 0 (MQ below (va_Qi post (mAt D cA h ad A) A) args s 0 0 A) (F0 m 118 ls [])) :
    ∀ (x2 : Int32) (σ : MS) (H : Heap) (locs : List Loc) (ls : Array Slot), mG D cA h ad A s σ H locs → lv_has ls 3 [(0, .ref h), (2, .int x2)] → wB_X9_compile_118 post k118 x2 σ → W p l e rm_X9_compile s m args below meth c H locs 0 0 (MQ below (va_Qi post (mAt D cA h ad A) A) args s 0 0 A) (F0 m 118 ls []) := by
  obtain ⟨hx, hb, hml, hr, hown, hts, hK, hA, hlk, hE, vE⟩ := id C
  intro x2 σ H locs ls hG hl hw
  obtain ⟨hP, hD, hS⟩ := id hG
  refine lv_iload_n hx hb dX9_compile_118 rfl (lv_at hl 1 rfl) ?_
  refine lv_aload_n hx hb dX9_compile_119 rfl (lv_at hl 0 rfl) ?_
  refine va_get (D := D) (ci := 11) (v := .int (mI σ 11)) (C := RX9) (T := TX9) (N := 32) hx hb hts (in_tb inX9) hown hK hP 0 rfl rfl 11 (by decide) (hts _ (List.mem_cons_of_mem _ tw_5_121)) (fun _ h9 => h9) rfl dX9_compile_120 ?_
  refine lv_icmp_ge (tgt := 144) hx hb dX9_compile_123 (by decide) (fun q_ => ?_) (fun q_ => ?_)
  · have hw := hw.1 q_
    refine lv_aload_n hx hb dX9_compile_144 rfl (lv_at hl 0 rfl) ?_
    refine va_get (D := D) (ci := 11) (v := .int (mI σ 11)) (C := RX9) (T := TX9) (N := 32) hx hb hts (in_tb inX9) hown hK hP 0 rfl rfl 11 (by decide) (hts _ (List.mem_cons_of_mem _ tw_5_121)) (fun _ h9 => h9) rfl dX9_compile_145 ?_
    exact W.iret (v := mI σ 11) hx hb hr (fun t ht hW => ⟨⟨_, σ, rfl, hw, by rw [ht]; exact hP, va_K.moved hW.alike hK, hD⟩, hS.F ht⟩) hS.2.2 dX9_compile_148 hlk
  · have hw := hw.2 q_
    refine lv_aload_n hx hb dX9_compile_126 rfl (lv_at hl 0 rfl) ?_
    refine va_get (D := D) (ci := 11) (v := .ref (ad 10)) (C := RX9) (T := TX9) (N := 32) hx hb hts (in_tb inX9) hown hK hP 0 rfl rfl 10 (by decide) (hts _ (List.mem_cons_of_mem _ tw_5_120)) (fun _ h9 => h9) rfl dX9_compile_127 ?_
    refine lv_iload_n hx hb dX9_compile_130 rfl (lv_at hl 1 rfl) ?_
    refine lv_aload_n hx hb dX9_compile_131 rfl (lv_at hl 0 rfl) ?_
    refine va_get (D := D) (ci := 11) (v := .ref (ad 12)) (C := RX9) (T := TX9) (N := 32) hx hb hts (in_tb inX9) hown hK hP 0 rfl rfl 12 (by decide) (hts _ (List.mem_cons_of_mem _ tw_5_122)) (fun _ h9 => h9) rfl dX9_compile_132 ?_
    refine lv_iload_n hx hb dX9_compile_135 rfl (lv_at hl 1 rfl) ?_
    obtain ⟨h_4, hw⟩ := hw
    refine va_lald hx hb hK hP 6 1 rfl rfl h_4 dX9_compile_136 ?_
    obtain ⟨h_5, hw⟩ := hw
    refine va_last hx hb hK hP hD hS 5 1 rfl rfl h_5 dX9_compile_137 (fun H locs hP hD hS => ?_)
    have hG : mG D cA h ad A s (wL σ 10 x2.toNatClampNeg (mL σ 12 x2.toNatClampNeg)) H locs := ⟨hP, hD, hS⟩
    obtain ⟨hP, hD, hS⟩ := id hG
    obtain ⟨x2_6, ex2_6⟩ : ∃ y : Int32, y = x2 + 1 := ⟨_, rfl⟩
    have hw := hw x2_6 ex2_6
    refine lv_iinc (v := x2_6) (lv' := [(2, .int x2_6), (0, .ref h)]) hx hb dX9_compile_138 hl (k := 1) rfl (by rw [ex2_6]; rfl) (by decide) rfl (fun ls hl => ?_)
    refine lv_goto (tgt := 118) hx hb dX9_compile_141 (by decide) ?_
    exact hk118 x2_6 (wL σ 10 x2.toNatClampNeg (mL σ 12 x2.toNatClampNeg)) _ _ _ hG (lv_sub hl [1, 0] rfl) hw
theorem kL_X9_compile_118 {p : Program} {l : Launch} {e : Env} {s : State} {m : MethodId} {args : Array Value} {below : List Frame} {meth : Method} {c : Code} {A : Nat → Prop} {E : EnvT} {aK aV : Nat → Nat} {D : va_G} {cA : Nat → ClassId} {h : Nat} {ad : Nat → Nat} (C : mCx p s m args meth c cX9_compile 3 (some .int) wgX9_compile RX9 E D cA A) (vM : eMs aK aV E) {post : Int32 → MS → Prop} :
    ∀ (n : Nat) (x2 : Int32) (σ : MS) (H : Heap) (locs : List Loc) (ls : Array Slot), mG D cA h ad A s σ H locs → lv_has ls 3 [(0, .ref h), (2, .int x2)] → wL_X9_compile_118 post n x2 σ → W p l e rm_X9_compile s m args below meth c H locs 0 0 (MQ below (va_Qi post (mAt D cA h ad A) A) args s 0 0 A) (F0 m 118 ls []) := by
  intro n
  induction n with
  | zero => intro x2 σ H locs ls hG hl hw; exact hw.elim
  | succ n ih => exact kB_X9_compile_118 C vM ih
set_option maxHeartbeats 4000000 in
set_option maxRecDepth 100000 in
theorem kB_X9_compile_80 {p : Program} {l : Launch} {e : Env} {s : State} {m : MethodId} {args : Array Value} {below : List Frame} {meth : Method} {c : Code} {A : Nat → Prop} {E : EnvT} {aK aV : Nat → Nat} {D : va_G} {cA : Nat → ClassId} {h : Nat} {ad : Nat → Nat} (C : mCx p s m args meth c cX9_compile 3 (some .int) wgX9_compile RX9 E D cA A) (vM : eMs aK aV E) {post : Int32 → MS → Prop} :
    ∀ (σ : MS) (H : Heap) (locs : List Loc) (ls : Array Slot), mG D cA h ad A s σ H locs → lv_has ls 3 [(0, .ref h)] → wB_X9_compile_80 post σ → W p l e rm_X9_compile s m args below meth c H locs 0 0 (MQ below (va_Qi post (mAt D cA h ad A) A) args s 0 0 A) (F0 m 80 ls []) := by
  obtain ⟨hx, hb, hml, hr, hown, hts, hK, hA, hlk, hE, vE⟩ := id C
  intro σ H locs ls hG hl hw
  obtain ⟨hP, hD, hS⟩ := id hG
  refine lv_aload_n hx hb dX9_compile_80 rfl (lv_at hl 0 rfl) ?_
  refine va_get (D := D) (ci := 11) (v := .int (mI σ 3)) (C := RX9) (T := TX9) (N := 32) hx hb hts (in_tb inX9) hown hK hP 0 rfl rfl 3 (by decide) (hts _ (List.mem_cons_of_mem _ tw_5_113)) (fun _ h9 => h9) rfl dX9_compile_81 ?_
  refine lv_if_eq (tgt := 93) hx hb dX9_compile_84 (by decide) (fun q_ => ?_) (fun q_ => ?_)
  · have hw := hw.1 q_
    refine lv_aload_n hx hb dX9_compile_93 rfl (lv_at hl 0 rfl) ?_
    refine lv_iconst (v := 0) hx hb dX9_compile_94 (by decide) ?_
    refine va_put (D := D) (ci := 11) (v := .int 0) (ty := .int) (C := RX9) (T := TX9) (N := 32) hx hb hts (in_tb inX9) tyX9 tyX9_ok nmX9 hown hK hP hD hS 0 rfl rfl 0 (by decide) (hts _ (List.mem_cons_of_mem _ tw_5_110)) (fun _ h9 => h9) rfl (by decide +kernel) rfl rfl (Nat.le_of_ble_eq_true rfl) dX9_compile_95 (fun H locs hP hD hS => ?_)
    have hG : mG D cA h ad A s (wI σ 0 0) H locs := ⟨hP, hD, hS⟩
    obtain ⟨hP, hD, hS⟩ := id hG
    refine lv_aload_n hx hb dX9_compile_98 rfl (lv_at hl 0 rfl) ?_
    refine lv_iconst (v := 1) hx hb dX9_compile_99 (by decide) ?_
    refine lv_aload_n hx hb dX9_compile_100 rfl (lv_at hl 0 rfl) ?_
    refine va_get (D := D) (ci := 11) (v := .int (mI σ 14)) (C := RX9) (T := TX9) (N := 32) hx hb hts (in_tb inX9) hown hK hP 0 rfl rfl 14 (by decide) (hts _ (List.mem_cons_of_mem _ tw_5_124)) (fun _ h9 => h9) rfl dX9_compile_101 ?_
    refine lv_isub hx hb dX9_compile_104 ?_
    refine va_put (D := D) (ci := 11) (v := .int (1 - (mI σ 14))) (ty := .int) (C := RX9) (T := TX9) (N := 32) hx hb hts (in_tb inX9) tyX9 tyX9_ok nmX9 hown hK hP hD hS 0 rfl rfl 14 (by decide) (hts _ (List.mem_cons_of_mem _ tw_5_124)) (fun _ h9 => h9) rfl (by decide +kernel) rfl rfl (Nat.le_of_ble_eq_true rfl) dX9_compile_105 (fun H locs hP hD hS => ?_)
    have hG : mG D cA h ad A s (wI (wI σ 0 0) 14 (1 - (mI σ 14))) H locs := ⟨hP, hD, hS⟩
    obtain ⟨hP, hD, hS⟩ := id hG
    refine lv_aload_n hx hb dX9_compile_108 rfl (lv_at hl 0 rfl) ?_
    refine lv_aload_n hx hb dX9_compile_109 rfl (lv_at hl 0 rfl) ?_
    refine va_get (D := D) (ci := 11) (v := .int (mI σ 13)) (C := RX9) (T := TX9) (N := 32) hx hb hts (in_tb inX9) hown hK hP 0 rfl rfl 13 (by decide) (hts _ (List.mem_cons_of_mem _ tw_5_123)) (fun _ h9 => h9) rfl dX9_compile_110 ?_
    refine va_put (D := D) (ci := 11) (v := .int (mI σ 13)) (ty := .int) (C := RX9) (T := TX9) (N := 32) hx hb hts (in_tb inX9) tyX9 tyX9_ok nmX9 hown hK hP hD hS 0 rfl rfl 11 (by decide) (hts _ (List.mem_cons_of_mem _ tw_5_121)) (fun _ h9 => h9) rfl (by decide +kernel) rfl rfl (Nat.le_of_ble_eq_true rfl) dX9_compile_113 (fun H locs hP hD hS => ?_)
    have hG : mG D cA h ad A s (wI (wI (wI σ 0 0) 14 (1 - (mI σ 14))) 11 (mI σ 13)) H locs := ⟨hP, hD, hS⟩
    obtain ⟨hP, hD, hS⟩ := id hG
    refine lv_iconst (v := 0) hx hb dX9_compile_116 (by decide) ?_
    refine lv_istore_n (lv' := [(2, .int 0), (0, .ref h)]) hx hb dX9_compile_117 rfl hl (by decide) rfl (fun ls hl => ?_)
    obtain ⟨n_, hw⟩ := hw
    exact kL_X9_compile_118 C vM n_ 0 (wI (wI (wI σ 0 0) 14 (1 - (mI σ 14))) 11 (mI σ 13)) _ _ _ hG (lv_sub hl [1, 0] rfl) hw
  · have hw := hw.2 q_
    refine lv_aload_n hx hb dX9_compile_87 rfl (lv_at hl 0 rfl) ?_
    refine lv_iconst (v := 1) hx hb dX9_compile_88 (by decide) ?_
    refine mV_i (As := [.int 1]) (rest := []) C (met_X9_raise vE vM hw) (va_recv hK hP (ci := 11) (q0 := 0) rfl rfl) (cwV 1 hts (TB_G (TB_4 tw_6_92 tw_6_94 ts_44 tw_1_13) tw_6_95) rfl rfl rfl (by decide +kernel) ⟨by decide, by decide⟩) hP hD hS rfl hl.1 rfl (Nat.le_of_ble_eq_true rfl) dX9_compile_89 ⟨by decide, by decide⟩ (fun r_7 σ_8 H locs hw hP hD hS => ?_)
    have hG : mG D cA h ad A s σ_8 H locs := ⟨hP, hD, hS⟩
    exact W.iret (v := r_7) hx hb hr (fun t ht hW => ⟨⟨_, σ_8, rfl, hw, by rw [ht]; exact hP, va_K.moved hW.alike hK, hD⟩, hS.F ht⟩) hS.2.2 dX9_compile_92 hlk
set_option maxHeartbeats 4000000 in
set_option maxRecDepth 100000 in
theorem kB_X9_compile_72 {p : Program} {l : Launch} {e : Env} {s : State} {m : MethodId} {args : Array Value} {below : List Frame} {meth : Method} {c : Code} {A : Nat → Prop} {E : EnvT} {aK aV : Nat → Nat} {D : va_G} {cA : Nat → ClassId} {h : Nat} {ad : Nat → Nat} (C : mCx p s m args meth c cX9_compile 3 (some .int) wgX9_compile RX9 E D cA A) (vM : eMs aK aV E) {post : Int32 → MS → Prop} :
    ∀ (x1 : Int32) (σ : MS) (H : Heap) (locs : List Loc) (ls : Array Slot), mG D cA h ad A s σ H locs → lv_has ls 3 [(0, .ref h), (1, .int x1)] → wB_X9_compile_72 post x1 σ → W p l e rm_X9_compile s m args below meth c H locs 0 0 (MQ below (va_Qi post (mAt D cA h ad A) A) args s 0 0 A) (F0 m 72 ls []) := by
  obtain ⟨hx, hb, hml, hr, hown, hts, hK, hA, hlk, hE, vE⟩ := id C
  intro x1 σ H locs ls hG hl hw
  obtain ⟨hP, hD, hS⟩ := id hG
  refine lv_iload_n hx hb dX9_compile_72 rfl (lv_at hl 1 rfl) ?_
  refine lv_if_eq (tgt := 80) hx hb dX9_compile_73 (by decide) (fun q_ => ?_) (fun q_ => ?_)
  · have hw := hw.1 q_
    exact kB_X9_compile_80 C vM  σ _ _ _ hG (lv_sub hl [0] rfl) hw
  · have hw := hw.2 q_
    refine lv_aload_n hx hb dX9_compile_76 rfl (lv_at hl 0 rfl) ?_
    refine mV_v (As := []) (rest := []) C (met_X9_resolve vE vM hw) (va_recv hK hP (ci := 11) (q0 := 0) rfl rfl) (cwV 0 hts (TB_G (TB_4 tw_6_88 tw_6_90 ts_43 tw_1_13) tw_6_91) rfl rfl rfl (by decide +kernel) ⟨by decide, by decide⟩) hP hD hS rfl hl.1 rfl (Nat.le_of_ble_eq_true rfl) dX9_compile_77 ⟨by decide, by decide⟩ (fun σ_10 H locs hw hP hD hS => ?_)
    have hG : mG D cA h ad A s σ_10 H locs := ⟨hP, hD, hS⟩
    exact kB_X9_compile_80 C vM  σ_10 _ _ _ hG (lv_sub hl [0] rfl) hw
set_option maxHeartbeats 4000000 in
set_option maxRecDepth 100000 in
theorem kB_X9_compile_48 {p : Program} {l : Launch} {e : Env} {s : State} {m : MethodId} {args : Array Value} {below : List Frame} {meth : Method} {c : Code} {A : Nat → Prop} {E : EnvT} {aK aV : Nat → Nat} {D : va_G} {cA : Nat → ClassId} {h : Nat} {ad : Nat → Nat} (C : mCx p s m args meth c cX9_compile 3 (some .int) wgX9_compile RX9 E D cA A) (vM : eMs aK aV E) {post : Int32 → MS → Prop}
    {k48 : Int32 → MS → Prop} (hk48 : ∀ (x1 : Int32) (σ : MS) (H : Heap) (locs : List Loc) (ls : Array Slot), mG D cA h ad A s σ H locs → lv_has ls 3 [(0, .ref h), (1, .int x1)] → k48 x1 σ → W p l e rm_X9_compile s m args below meth c H locs 0 0 (MQ below (va_Qi post (mAt D cA h ad A) A) args s 0 0 A) (F0 m 48 ls [])) :
    ∀ (x1 : Int32) (σ : MS) (H : Heap) (locs : List Loc) (ls : Array Slot), mG D cA h ad A s σ H locs → lv_has ls 3 [(0, .ref h), (1, .int x1)] → wB_X9_compile_48 post k48 x1 σ → W p l e rm_X9_compile s m args below meth c H locs 0 0 (MQ below (va_Qi post (mAt D cA h ad A) A) args s 0 0 A) (F0 m 48 ls []) := by
  obtain ⟨hx, hb, hml, hr, hown, hts, hK, hA, hlk, hE, vE⟩ := id C
  intro x1 σ H locs ls hG hl hw
  obtain ⟨hP, hD, hS⟩ := id hG
  refine lv_iload_n hx hb dX9_compile_48 rfl (lv_at hl 1 rfl) ?_
  refine lv_if_eq (tgt := 72) hx hb dX9_compile_49 (by decide) (fun q_ => ?_) (fun q_ => ?_)
  · have hw := hw.1 q_
    exact kB_X9_compile_72 C vM x1 σ _ _ _ hG (lv_sub hl [0, 1] rfl) hw
  · have hw := hw.2 q_
    refine lv_aload_n hx hb dX9_compile_52 rfl (lv_at hl 0 rfl) ?_
    refine va_get (D := D) (ci := 11) (v := .ref (ad 6)) (C := RX9) (T := TX9) (N := 32) hx hb hts (in_tb inX9) hown hK hP 0 rfl rfl 6 (by decide) (hts _ (List.mem_cons_of_mem _ tw_5_116)) (fun _ h9 => h9) rfl dX9_compile_53 ?_
    refine lv_aload_n hx hb dX9_compile_56 rfl (lv_at hl 0 rfl) ?_
    refine va_get (D := D) (ci := 11) (v := .int (mI σ 9)) (C := RX9) (T := TX9) (N := 32) hx hb hts (in_tb inX9) hown hK hP 0 rfl rfl 9 (by decide) (hts _ (List.mem_cons_of_mem _ tw_5_119)) (fun _ h9 => h9) rfl dX9_compile_57 ?_
    obtain ⟨h_11, hw⟩ := hw
    refine va_iald hx hb hK hP 2 0 rfl rfl h_11 dX9_compile_60 ?_
    refine lv_if_eq (tgt := 72) hx hb dX9_compile_61 (by decide) (fun q_ => ?_) (fun q_ => ?_)
    · have hw := hw.1 q_
      exact kB_X9_compile_72 C vM x1 σ _ _ _ hG (lv_sub hl [0, 1] rfl) hw
    · have hw := hw.2 q_
      refine lv_aload_n hx hb dX9_compile_64 rfl (lv_at hl 0 rfl) ?_
      refine mV_i (As := []) (rest := []) C (met_X9_readStatement vE vM hw) (va_recv hK hP (ci := 11) (q0 := 0) rfl rfl) (cwV 0 hts (TB_G (TB_4 tw_6_1 tw_6_3 ts_30 tw_1_13) tw_6_4) rfl rfl rfl (by decide +kernel) ⟨by decide, by decide⟩) hP hD hS rfl hl.1 rfl (Nat.le_of_ble_eq_true rfl) dX9_compile_65 ⟨by decide, by decide⟩ (fun r_12 σ_13 H locs hw hP hD hS => ?_)
      have hG : mG D cA h ad A s σ_13 H locs := ⟨hP, hD, hS⟩
      refine lv_istore_n (lv' := [(1, .int r_12), (0, .ref h)]) hx hb dX9_compile_68 rfl hl (by decide) rfl (fun ls hl => ?_)
      refine lv_goto (tgt := 48) hx hb dX9_compile_69 (by decide) ?_
      exact hk48 r_12 σ_13 _ _ _ hG (lv_sub hl [1, 0] rfl) hw
theorem kL_X9_compile_48 {p : Program} {l : Launch} {e : Env} {s : State} {m : MethodId} {args : Array Value} {below : List Frame} {meth : Method} {c : Code} {A : Nat → Prop} {E : EnvT} {aK aV : Nat → Nat} {D : va_G} {cA : Nat → ClassId} {h : Nat} {ad : Nat → Nat} (C : mCx p s m args meth c cX9_compile 3 (some .int) wgX9_compile RX9 E D cA A) (vM : eMs aK aV E) {post : Int32 → MS → Prop} :
    ∀ (n : Nat) (x1 : Int32) (σ : MS) (H : Heap) (locs : List Loc) (ls : Array Slot), mG D cA h ad A s σ H locs → lv_has ls 3 [(0, .ref h), (1, .int x1)] → wL_X9_compile_48 post n x1 σ → W p l e rm_X9_compile s m args below meth c H locs 0 0 (MQ below (va_Qi post (mAt D cA h ad A) A) args s 0 0 A) (F0 m 48 ls []) := by
  intro n
  induction n with
  | zero => intro x1 σ H locs ls hG hl hw; exact hw.elim
  | succ n ih => exact kB_X9_compile_48 C vM ih
set_option maxHeartbeats 4000000 in
set_option maxRecDepth 100000 in
theorem k_X9_compile {p : Program} {l : Launch} {e : Env} {s : State} {m : MethodId} {args : Array Value} {below : List Frame} {meth : Method} {c : Code} {A : Nat → Prop} {E : EnvT} {aK aV : Nat → Nat} {D : va_G} {cA : Nat → ClassId} {h : Nat} {ad : Nat → Nat} (C : mCx p s m args meth c cX9_compile 3 (some .int) wgX9_compile RX9 E D cA A) (vM : eMs aK aV E) {post : Int32 → MS → Prop} :
    ∀ (σ : MS) (H : Heap) (locs : List Loc) (ls : Array Slot), mG D cA h ad A s σ H locs → lv_has ls 3 [(0, .ref h)] → wp_X9_compile post σ → W p l e rm_X9_compile s m args below meth c H locs 0 0 (MQ below (va_Qi post (mAt D cA h ad A) A) args s 0 0 A) (F0 m 0 ls []) := by
  obtain ⟨hx, hb, hml, hr, hown, hts, hK, hA, hlk, hE, vE⟩ := id C
  intro σ H locs ls hG hl hw
  obtain ⟨hP, hD, hS⟩ := id hG
  refine lv_aload_n hx hb dX9_compile_0 rfl (lv_at hl 0 rfl) ?_
  refine lv_iconst (v := 0) hx hb dX9_compile_1 (by decide) ?_
  refine va_put (D := D) (ci := 11) (v := .int 0) (ty := .int) (C := RX9) (T := TX9) (N := 32) hx hb hts (in_tb inX9) tyX9 tyX9_ok nmX9 hown hK hP hD hS 0 rfl rfl 3 (by decide) (hts _ (List.mem_cons_of_mem _ tw_5_113)) (fun _ h9 => h9) rfl (by decide +kernel) rfl rfl (Nat.le_of_ble_eq_true rfl) dX9_compile_2 (fun H locs hP hD hS => ?_)
  have hG : mG D cA h ad A s (wI σ 3 0) H locs := ⟨hP, hD, hS⟩
  obtain ⟨hP, hD, hS⟩ := id hG
  refine lv_aload_n hx hb dX9_compile_5 rfl (lv_at hl 0 rfl) ?_
  refine lv_iconst (v := 0) hx hb dX9_compile_6 (by decide) ?_
  refine va_put (D := D) (ci := 11) (v := .int 0) (ty := .int) (C := RX9) (T := TX9) (N := 32) hx hb hts (in_tb inX9) tyX9 tyX9_ok nmX9 hown hK hP hD hS 0 rfl rfl 4 (by decide) (hts _ (List.mem_cons_of_mem _ tw_5_114)) (fun _ h9 => h9) rfl (by decide +kernel) rfl rfl (Nat.le_of_ble_eq_true rfl) dX9_compile_7 (fun H locs hP hD hS => ?_)
  have hG : mG D cA h ad A s (wI (wI σ 3 0) 4 0) H locs := ⟨hP, hD, hS⟩
  obtain ⟨hP, hD, hS⟩ := id hG
  refine lv_aload_n hx hb dX9_compile_10 rfl (lv_at hl 0 rfl) ?_
  refine mV_v (As := []) (rest := []) C (met_X9_tokenize vE vM hw) (va_recv hK hP (ci := 11) (q0 := 0) rfl rfl) (cwV 0 hts (TB_G (TB_4 tw_5_217 tw_5_219 ts_27 tw_1_13) tw_5_220) rfl rfl rfl (by decide +kernel) ⟨by decide, by decide⟩) hP hD hS rfl hl.1 rfl (Nat.le_of_ble_eq_true rfl) dX9_compile_11 ⟨by decide, by decide⟩ (fun σ_2 H locs hw hP hD hS => ?_)
  have hG : mG D cA h ad A s σ_2 H locs := ⟨hP, hD, hS⟩
  refine lv_aload_n hx hb dX9_compile_14 rfl (lv_at hl 0 rfl) ?_
  refine lv_iconst (v := 0) hx hb dX9_compile_15 (by decide) ?_
  refine va_put (D := D) (ci := 11) (v := .int 0) (ty := .int) (C := RX9) (T := TX9) (N := 32) hx hb hts (in_tb inX9) tyX9 tyX9_ok nmX9 hown hK hP hD hS 0 rfl rfl 2 (by decide) (hts _ (List.mem_cons_of_mem _ tw_5_112)) (fun _ h9 => h9) rfl (by decide +kernel) rfl rfl (Nat.le_of_ble_eq_true rfl) dX9_compile_16 (fun H locs hP hD hS => ?_)
  have hG : mG D cA h ad A s (wI σ_2 2 0) H locs := ⟨hP, hD, hS⟩
  obtain ⟨hP, hD, hS⟩ := id hG
  refine lv_aload_n hx hb dX9_compile_19 rfl (lv_at hl 0 rfl) ?_
  refine lv_iconst (v := 0) hx hb dX9_compile_20 (by decide) ?_
  refine va_put (D := D) (ci := 11) (v := .int 0) (ty := .int) (C := RX9) (T := TX9) (N := 32) hx hb hts (in_tb inX9) tyX9 tyX9_ok nmX9 hown hK hP hD hS 0 rfl rfl 9 (by decide) (hts _ (List.mem_cons_of_mem _ tw_5_119)) (fun _ h9 => h9) rfl (by decide +kernel) rfl rfl (Nat.le_of_ble_eq_true rfl) dX9_compile_21 (fun H locs hP hD hS => ?_)
  have hG : mG D cA h ad A s (wI (wI σ_2 2 0) 9 0) H locs := ⟨hP, hD, hS⟩
  obtain ⟨hP, hD, hS⟩ := id hG
  refine lv_aload_n hx hb dX9_compile_24 rfl (lv_at hl 0 rfl) ?_
  refine lv_iconst (v := 0) hx hb dX9_compile_25 (by decide) ?_
  refine va_put (D := D) (ci := 11) (v := .int 0) (ty := .int) (C := RX9) (T := TX9) (N := 32) hx hb hts (in_tb inX9) tyX9 tyX9_ok nmX9 hown hK hP hD hS 0 rfl rfl 13 (by decide) (hts _ (List.mem_cons_of_mem _ tw_5_123)) (fun _ h9 => h9) rfl (by decide +kernel) rfl rfl (Nat.le_of_ble_eq_true rfl) dX9_compile_26 (fun H locs hP hD hS => ?_)
  have hG : mG D cA h ad A s (wI (wI (wI σ_2 2 0) 9 0) 13 0) H locs := ⟨hP, hD, hS⟩
  obtain ⟨hP, hD, hS⟩ := id hG
  refine lv_aload_n hx hb dX9_compile_29 rfl (lv_at hl 0 rfl) ?_
  refine lv_iconst (v := 0) hx hb dX9_compile_30 (by decide) ?_
  refine va_put (D := D) (ci := 11) (v := .int 0) (ty := .int) (C := RX9) (T := TX9) (N := 32) hx hb hts (in_tb inX9) tyX9 tyX9_ok nmX9 hown hK hP hD hS 0 rfl rfl 18 (by decide) (hts _ (List.mem_cons_of_mem _ tw_5_128)) (fun _ h9 => h9) rfl (by decide +kernel) rfl rfl (Nat.le_of_ble_eq_true rfl) dX9_compile_31 (fun H locs hP hD hS => ?_)
  have hG : mG D cA h ad A s (wI (wI (wI (wI σ_2 2 0) 9 0) 13 0) 18 0) H locs := ⟨hP, hD, hS⟩
  obtain ⟨hP, hD, hS⟩ := id hG
  refine lv_aload_n hx hb dX9_compile_34 rfl (lv_at hl 0 rfl) ?_
  refine va_get (D := D) (ci := 11) (v := .ref (ad 15)) (C := RX9) (T := TX9) (N := 32) hx hb hts (in_tb inX9) hown hK hP 0 rfl rfl 15 (by decide) (hts _ (List.mem_cons_of_mem _ tw_5_125)) (fun _ h9 => h9) rfl dX9_compile_35 ?_
  refine lv_iconst (v := 1) hx hb dX9_compile_38 (by decide) ?_
  refine lv_aload_n hx hb dX9_compile_39 rfl (lv_at hl 0 rfl) ?_
  refine va_get (D := D) (ci := 11) (v := .int (mI σ_2 14)) (C := RX9) (T := TX9) (N := 32) hx hb hts (in_tb inX9) hown hK hP 0 rfl rfl 14 (by decide) (hts _ (List.mem_cons_of_mem _ tw_5_124)) (fun _ h9 => h9) rfl dX9_compile_40 ?_
  refine lv_isub hx hb dX9_compile_43 ?_
  refine lv_iconst (v := 0) hx hb dX9_compile_44 (by decide) ?_
  obtain ⟨h_3, hw⟩ := hw
  refine va_iast hx hb hK hP hD hS 7 0 rfl rfl h_3 dX9_compile_45 (fun H locs hP hD hS => ?_)
  have hG : mG D cA h ad A s (wA (wI (wI (wI (wI σ_2 2 0) 9 0) 13 0) 18 0) 15 (1 - (mI σ_2 14)).toNatClampNeg 0) H locs := ⟨hP, hD, hS⟩
  obtain ⟨hP, hD, hS⟩ := id hG
  refine lv_iconst (v := 1) hx hb dX9_compile_46 (by decide) ?_
  refine lv_istore_n (lv' := [(1, .int 1), (0, .ref h)]) hx hb dX9_compile_47 rfl hl (by decide) rfl (fun ls hl => ?_)
  obtain ⟨n_, hw⟩ := hw
  exact kL_X9_compile_48 C vM n_ 1 (wA (wI (wI (wI (wI σ_2 2 0) 9 0) 13 0) 18 0) 15 (1 - (mI σ_2 14)).toNatClampNeg 0) _ _ _ hG (lv_sub hl [1, 0] rfl) hw
set_option maxHeartbeats 4000000 in
set_option maxRecDepth 100000 in
theorem met_X9_compile {l : Launch} {E : EnvT} (vE : EnvOk E) {D : va_G} {cA : Nat → ClassId} {h : Nat} {ad : Nat → Nat} {σ : MS} {aK aV : Nat → Nat} (vM : eMs aK aV E) {sz : Nat} {post : Int32 → MS → Prop} (hw : wp_X9_compile post σ) : Met l yX9_compile wgX9_compile rm_X9_compile (va_Pc [.ref h] (mPre E D cA h ad sz σ)) (va_Qi post (mAt D cA h ad (va_A (mW cA h ad σ) sz)) (va_A (mW cA h ad σ) sz)) 0 0 (va_A (mW cA h ad σ) sz) := by
  refine Met.ofW (cc := cX9_compile) (maxL := 3) (ret := (some .int)) (by decide +kernel) rfl ?_
  intro p e s m args below meth c s₁ B hml hv
  obtain ⟨rfl, hsz, hP, hK, hD0, hE⟩ := hv
  subst hsz
  have hD := hD0.self (sz := s.heap.size)
  generalize hAe : va_A (mW cA h ad σ) s.heap.size = A at hD hE ⊢
  have hA : ∀ q : Nat, s.heap.size ≤ q → A q := fun q h => by rw [← hAe]; exact Or.inr h
  have hS : va_S A s.heap s.heap [] := va_S.rf
  have C : mCx p s m _ meth c cX9_compile 3 (some .int) wgX9_compile RX9 E D cA A := ⟨B.exec, B.bytes, hml, B.returns, findClass_of_methodNamed B.named, atoms_spec (ws := wgX9_compile) B.pre, hK, hA, B.notSynchronized, hE, vE⟩
  have hG : mG D cA h ad A s σ s.heap [] := ⟨hP, hD, hS⟩
  have hl := lv_entry ([.ref h]) (n := 3) (Nat.le_of_ble_eq_true rfl)
  rw [lg_entry_eq]
  generalize (lg_sl ([.ref h]) ++ List.replicate (3 - (lg_sl ([.ref h])).length) Slot.unset).toArray = ls at hl ⊢
  have hl : lv_has ls 3 [(0, .ref h)] := hl
  exact k_X9_compile C vM σ _ _ _ hG hl hw
/-! ===== fault ===== -/
def rm_X9_fault : Room := { frames := 0, cells := 0, slots := 0, locals := 0 }
abbrev wgX9_fault : List Cond := .code yX9_fault cX9_fault 2 (some .int) :: TB
def wB_X9_fault_29 (post : Int32 → MS → Prop) (t0 : Int32) (σ : MS) : Prop :=
  post t0 σ
def wp_X9_fault (post : Int32 → MS → Prop) (x1 : Int32) (σ : MS) : Prop :=
  (x1 = 0 → (wB_X9_fault_29 post (mI σ 3) (wI σ 0 0))) ∧ (¬ x1 = 0 → ((x1 = 1 → (wB_X9_fault_29 post (mI σ 4) (wI σ 0 0))) ∧ (¬ x1 = 1 → (wB_X9_fault_29 post (-1) (wI σ 0 0)))))
set_option maxHeartbeats 4000000 in
set_option maxRecDepth 100000 in
theorem kB_X9_fault_29 {p : Program} {l : Launch} {e : Env} {s : State} {m : MethodId} {args : Array Value} {below : List Frame} {meth : Method} {c : Code} {A : Nat → Prop} {E : EnvT} {aK aV : Nat → Nat} {D : va_G} {cA : Nat → ClassId} {h : Nat} {ad : Nat → Nat} (C : mCx p s m args meth c cX9_fault 2 (some .int) wgX9_fault RX9 E D cA A) (vM : eMs aK aV E) {post : Int32 → MS → Prop} :
    ∀ (t0 : Int32) (σ : MS) (H : Heap) (locs : List Loc) (ls : Array Slot), mG D cA h ad A s σ H locs → lv_has ls 2 [] → wB_X9_fault_29 post t0 σ → W p l e rm_X9_fault s m args below meth c H locs 0 0 (MQ below (va_Qi post (mAt D cA h ad A) A) args s 0 0 A) (F0 m 29 ls [.int t0]) := by
  obtain ⟨hx, hb, hml, hr, hown, hts, hK, hA, hlk, hE, vE⟩ := id C
  intro t0 σ H locs ls hG hl hw
  obtain ⟨hP, hD, hS⟩ := id hG
  exact W.iret (v := t0) hx hb hr (fun t ht hW => ⟨⟨_, σ, rfl, hw, by rw [ht]; exact hP, va_K.moved hW.alike hK, hD⟩, hS.F ht⟩) hS.2.2 dX9_fault_29 hlk
set_option maxHeartbeats 4000000 in
set_option maxRecDepth 100000 in
theorem k_X9_fault {p : Program} {l : Launch} {e : Env} {s : State} {m : MethodId} {args : Array Value} {below : List Frame} {meth : Method} {c : Code} {A : Nat → Prop} {E : EnvT} {aK aV : Nat → Nat} {D : va_G} {cA : Nat → ClassId} {h : Nat} {ad : Nat → Nat} (C : mCx p s m args meth c cX9_fault 2 (some .int) wgX9_fault RX9 E D cA A) (vM : eMs aK aV E) {post : Int32 → MS → Prop} :
    ∀ (x1 : Int32) (σ : MS) (H : Heap) (locs : List Loc) (ls : Array Slot), mG D cA h ad A s σ H locs → lv_has ls 2 [(0, .ref h), (1, .int x1)] → wp_X9_fault post x1 σ → W p l e rm_X9_fault s m args below meth c H locs 0 0 (MQ below (va_Qi post (mAt D cA h ad A) A) args s 0 0 A) (F0 m 0 ls []) := by
  obtain ⟨hx, hb, hml, hr, hown, hts, hK, hA, hlk, hE, vE⟩ := id C
  intro x1 σ H locs ls hG hl hw
  obtain ⟨hP, hD, hS⟩ := id hG
  refine lv_aload_n hx hb dX9_fault_0 rfl (lv_at hl 0 rfl) ?_
  refine lv_iconst (v := 0) hx hb dX9_fault_1 (by decide) ?_
  refine va_put (D := D) (ci := 11) (v := .int 0) (ty := .int) (C := RX9) (T := TX9) (N := 32) hx hb hts (in_tb inX9) tyX9 tyX9_ok nmX9 hown hK hP hD hS 0 rfl rfl 0 (by decide) (hts _ (List.mem_cons_of_mem _ tw_5_110)) (fun _ h9 => h9) rfl (by decide +kernel) rfl rfl (Nat.le_of_ble_eq_true rfl) dX9_fault_2 (fun H locs hP hD hS => ?_)
  have hG : mG D cA h ad A s (wI σ 0 0) H locs := ⟨hP, hD, hS⟩
  obtain ⟨hP, hD, hS⟩ := id hG
  refine lv_iload_n hx hb dX9_fault_5 rfl (lv_at hl 1 rfl) ?_
  refine lv_if_ne (tgt := 16) hx hb dX9_fault_6 (by decide) (fun q_ => ?_) (fun q_ => ?_)
  · have hw := hw.2 q_
    refine lv_iload_n hx hb dX9_fault_16 rfl (lv_at hl 1 rfl) ?_
    refine lv_iconst (v := 1) hx hb dX9_fault_17 (by decide) ?_
    refine lv_icmp_ne (tgt := 28) hx hb dX9_fault_18 (by decide) (fun q_ => ?_) (fun q_ => ?_)
    · have hw := hw.2 q_
      refine lv_iconst (v := (-1)) hx hb dX9_fault_28 (by decide) ?_
      exact kB_X9_fault_29 C vM (-1) (wI σ 0 0) _ _ _ hG (lv_sub hl [] rfl) hw
    · have hw := hw.1 q_
      refine lv_aload_n hx hb dX9_fault_21 rfl (lv_at hl 0 rfl) ?_
      refine va_get (D := D) (ci := 11) (v := .int (mI σ 4)) (C := RX9) (T := TX9) (N := 32) hx hb hts (in_tb inX9) hown hK hP 0 rfl rfl 4 (by decide) (hts _ (List.mem_cons_of_mem _ tw_5_114)) (fun _ h9 => h9) rfl dX9_fault_22 ?_
      refine lv_goto (tgt := 29) hx hb dX9_fault_25 (by decide) ?_
      exact kB_X9_fault_29 C vM (mI σ 4) (wI σ 0 0) _ _ _ hG (lv_sub hl [] rfl) hw
  · have hw := hw.1 q_
    refine lv_aload_n hx hb dX9_fault_9 rfl (lv_at hl 0 rfl) ?_
    refine va_get (D := D) (ci := 11) (v := .int (mI σ 3)) (C := RX9) (T := TX9) (N := 32) hx hb hts (in_tb inX9) hown hK hP 0 rfl rfl 3 (by decide) (hts _ (List.mem_cons_of_mem _ tw_5_113)) (fun _ h9 => h9) rfl dX9_fault_10 ?_
    refine lv_goto (tgt := 29) hx hb dX9_fault_13 (by decide) ?_
    exact kB_X9_fault_29 C vM (mI σ 3) (wI σ 0 0) _ _ _ hG (lv_sub hl [] rfl) hw
set_option maxHeartbeats 4000000 in
set_option maxRecDepth 100000 in
theorem met_X9_fault {l : Launch} {E : EnvT} (vE : EnvOk E) {D : va_G} {cA : Nat → ClassId} {h : Nat} {ad : Nat → Nat} {σ : MS} {aK aV : Nat → Nat} (vM : eMs aK aV E) {sz : Nat} {x1 : Int32} {post : Int32 → MS → Prop} (hw : wp_X9_fault post x1 σ) : Met l yX9_fault wgX9_fault rm_X9_fault (va_Pc [.ref h, .int x1] (mPre E D cA h ad sz σ)) (va_Qi post (mAt D cA h ad (va_A (mW cA h ad σ) sz)) (va_A (mW cA h ad σ) sz)) 0 0 (va_A (mW cA h ad σ) sz) := by
  refine Met.ofW (cc := cX9_fault) (maxL := 2) (ret := (some .int)) (by decide +kernel) rfl ?_
  intro p e s m args below meth c s₁ B hml hv
  obtain ⟨rfl, hsz, hP, hK, hD0, hE⟩ := hv
  subst hsz
  have hD := hD0.self (sz := s.heap.size)
  generalize hAe : va_A (mW cA h ad σ) s.heap.size = A at hD hE ⊢
  have hA : ∀ q : Nat, s.heap.size ≤ q → A q := fun q h => by rw [← hAe]; exact Or.inr h
  have hS : va_S A s.heap s.heap [] := va_S.rf
  have C : mCx p s m _ meth c cX9_fault 2 (some .int) wgX9_fault RX9 E D cA A := ⟨B.exec, B.bytes, hml, B.returns, findClass_of_methodNamed B.named, atoms_spec (ws := wgX9_fault) B.pre, hK, hA, B.notSynchronized, hE, vE⟩
  have hG : mG D cA h ad A s σ s.heap [] := ⟨hP, hD, hS⟩
  have hl := lv_entry ([.ref h, .int x1]) (n := 2) (Nat.le_of_ble_eq_true rfl)
  rw [lg_entry_eq]
  generalize (lg_sl ([.ref h, .int x1]) ++ List.replicate (2 - (lg_sl ([.ref h, .int x1])).length) Slot.unset).toArray = ls at hl ⊢
  have hl : lv_has ls 2 [(0, .ref h), (1, .int x1)] := hl
  exact k_X9_fault C vM x1 σ _ _ _ hG hl hw
/-! ===== d ===== -/
def rm_X9_d : Room := { frames := 0, cells := 0, slots := 0, locals := 0 }
abbrev wgX9_d : List Cond := .code yX9_d cX9_d 2 (some .int) :: TB
def wp_X9_d (post : Int32 → Prop) (x0 : Int64) : Prop :=
  post (((x0 >>> ((8 : Int32).toInt64 &&& 63)) &&& 15).toInt32)
set_option maxHeartbeats 4000000 in
set_option maxRecDepth 100000 in
theorem k_X9_d {p : Program} {l : Launch} {e : Env} {s : State} {m : MethodId} {args : Array Value} {below : List Frame} {meth : Method} {c : Code} {A : Nat → Prop} {E : EnvT} {aK aV : Nat → Nat} (C : sCx p s m args meth c cX9_d 2 (some .int) wgX9_d RX9 E A) (vM : eMs aK aV E) {post : Int32 → Prop} :
    ∀ (x0 : Int64) (H : Heap) (locs : List Loc) (ls : Array Slot), va_S A s.heap H locs → lv_has ls 2 [(0, .long x0)] → wp_X9_d post x0 → W p l e rm_X9_d s m args below meth c H locs 0 0 (MQ below (va_Qi (S := Unit) (fun r _ => post r) (fun _ _ => True) A) args s 0 0 A) (F0 m 0 ls []) := by
  obtain ⟨hx, hb, hml, hr, hown, hts, hA, hlk, hE, vE⟩ := id C
  intro x0 H locs ls hG hl hw
  have hS := hG
  refine lv_lload_n hx hb dX9_d_0 rfl (lv_at hl 0 rfl) ?_
  refine lv_bipush (v := 8) hx hb dX9_d_1 (by decide) ?_
  refine lv_lshr hx hb dX9_d_3 rfl ?_
  refine lv_ldc2 (v := 15) hx hb hown (hts _ (List.mem_cons_of_mem _ tw_6_132)) dX9_d_4 ?_
  refine lv_land hx hb dX9_d_7 ?_
  refine lv_l2i hx hb dX9_d_8 rfl ?_
  exact W.iret (v := ((x0 >>> ((8 : Int32).toInt64 &&& 63)) &&& 15).toInt32) hx hb hr (fun t ht hW => ⟨⟨_, (), rfl, hw, trivial⟩, hS.F ht⟩) hS.2.2 dX9_d_9 hlk
set_option maxHeartbeats 4000000 in
set_option maxRecDepth 100000 in
theorem met_X9_d {l : Launch} {E : EnvT} (vE : EnvOk E) {aK aV : Nat → Nat} (vM : eMs aK aV E) {sz : Nat} {x0 : Int64} {post : Int32 → Prop} (hw : wp_X9_d post x0) : Met l yX9_d wgX9_d rm_X9_d (va_Pc [.long x0] (sPre E sz)) (va_Qi (S := Unit) (fun r _ => post r) (fun _ _ => True) (va_A [] sz)) 0 0 (va_A [] sz) := by
  refine Met.ofW (cc := cX9_d) (maxL := 2) (ret := (some .int)) (by decide +kernel) rfl ?_
  intro p e s m args below meth c s₁ B hml hv
  obtain ⟨rfl, hsz, hE⟩ := hv
  subst hsz
  generalize hAe : va_A [] s.heap.size = A at hE ⊢
  have hA : ∀ q : Nat, s.heap.size ≤ q → A q := fun q h => by rw [← hAe]; exact Or.inr h
  have hS : va_S A s.heap s.heap [] := va_S.rf
  have C : sCx p s m _ meth c cX9_d 2 (some .int) wgX9_d RX9 E A := ⟨B.exec, B.bytes, hml, B.returns, findClass_of_methodNamed B.named, atoms_spec (ws := wgX9_d) B.pre, hA, B.notSynchronized, hE, vE⟩
  have hG := hS
  have hl := lv_entry ([.long x0]) (n := 2) (Nat.le_of_ble_eq_true rfl)
  rw [lg_entry_eq]
  generalize (lg_sl ([.long x0]) ++ List.replicate (2 - (lg_sl ([.long x0])).length) Slot.unset).toArray = ls at hl ⊢
  have hl : lv_has ls 2 [(0, .long x0)] := hl
  exact k_X9_d C vM x0 _ _ _ hG hl hw
/-! ===== a ===== -/
def rm_X9_a : Room := { frames := 0, cells := 0, slots := 0, locals := 0 }
abbrev wgX9_a : List Cond := .code yX9_a cX9_a 2 (some .int) :: TB
def wp_X9_a (post : Int32 → Prop) (x0 : Int64) : Prop :=
  post (((x0 >>> ((12 : Int32).toInt64 &&& 63)) &&& 15).toInt32)
set_option maxHeartbeats 4000000 in
set_option maxRecDepth 100000 in
theorem k_X9_a {p : Program} {l : Launch} {e : Env} {s : State} {m : MethodId} {args : Array Value} {below : List Frame} {meth : Method} {c : Code} {A : Nat → Prop} {E : EnvT} {aK aV : Nat → Nat} (C : sCx p s m args meth c cX9_a 2 (some .int) wgX9_a RX9 E A) (vM : eMs aK aV E) {post : Int32 → Prop} :
    ∀ (x0 : Int64) (H : Heap) (locs : List Loc) (ls : Array Slot), va_S A s.heap H locs → lv_has ls 2 [(0, .long x0)] → wp_X9_a post x0 → W p l e rm_X9_a s m args below meth c H locs 0 0 (MQ below (va_Qi (S := Unit) (fun r _ => post r) (fun _ _ => True) A) args s 0 0 A) (F0 m 0 ls []) := by
  obtain ⟨hx, hb, hml, hr, hown, hts, hA, hlk, hE, vE⟩ := id C
  intro x0 H locs ls hG hl hw
  have hS := hG
  refine lv_lload_n hx hb dX9_a_0 rfl (lv_at hl 0 rfl) ?_
  refine lv_bipush (v := 12) hx hb dX9_a_1 (by decide) ?_
  refine lv_lshr hx hb dX9_a_3 rfl ?_
  refine lv_ldc2 (v := 15) hx hb hown (hts _ (List.mem_cons_of_mem _ tw_6_132)) dX9_a_4 ?_
  refine lv_land hx hb dX9_a_7 ?_
  refine lv_l2i hx hb dX9_a_8 rfl ?_
  exact W.iret (v := ((x0 >>> ((12 : Int32).toInt64 &&& 63)) &&& 15).toInt32) hx hb hr (fun t ht hW => ⟨⟨_, (), rfl, hw, trivial⟩, hS.F ht⟩) hS.2.2 dX9_a_9 hlk
set_option maxHeartbeats 4000000 in
set_option maxRecDepth 100000 in
theorem met_X9_a {l : Launch} {E : EnvT} (vE : EnvOk E) {aK aV : Nat → Nat} (vM : eMs aK aV E) {sz : Nat} {x0 : Int64} {post : Int32 → Prop} (hw : wp_X9_a post x0) : Met l yX9_a wgX9_a rm_X9_a (va_Pc [.long x0] (sPre E sz)) (va_Qi (S := Unit) (fun r _ => post r) (fun _ _ => True) (va_A [] sz)) 0 0 (va_A [] sz) := by
  refine Met.ofW (cc := cX9_a) (maxL := 2) (ret := (some .int)) (by decide +kernel) rfl ?_
  intro p e s m args below meth c s₁ B hml hv
  obtain ⟨rfl, hsz, hE⟩ := hv
  subst hsz
  generalize hAe : va_A [] s.heap.size = A at hE ⊢
  have hA : ∀ q : Nat, s.heap.size ≤ q → A q := fun q h => by rw [← hAe]; exact Or.inr h
  have hS : va_S A s.heap s.heap [] := va_S.rf
  have C : sCx p s m _ meth c cX9_a 2 (some .int) wgX9_a RX9 E A := ⟨B.exec, B.bytes, hml, B.returns, findClass_of_methodNamed B.named, atoms_spec (ws := wgX9_a) B.pre, hA, B.notSynchronized, hE, vE⟩
  have hG := hS
  have hl := lv_entry ([.long x0]) (n := 2) (Nat.le_of_ble_eq_true rfl)
  rw [lg_entry_eq]
  generalize (lg_sl ([.long x0]) ++ List.replicate (2 - (lg_sl ([.long x0])).length) Slot.unset).toArray = ls at hl ⊢
  have hl : lv_has ls 2 [(0, .long x0)] := hl
  exact k_X9_a C vM x0 _ _ _ hG hl hw
/-! ===== b ===== -/
def rm_X9_b : Room := { frames := 0, cells := 0, slots := 0, locals := 0 }
abbrev wgX9_b : List Cond := .code yX9_b cX9_b 2 (some .int) :: TB
def wp_X9_b (post : Int32 → Prop) (x0 : Int64) : Prop :=
  post (((x0 >>> ((16 : Int32).toInt64 &&& 63)) &&& 15).toInt32)
set_option maxHeartbeats 4000000 in
set_option maxRecDepth 100000 in
theorem k_X9_b {p : Program} {l : Launch} {e : Env} {s : State} {m : MethodId} {args : Array Value} {below : List Frame} {meth : Method} {c : Code} {A : Nat → Prop} {E : EnvT} {aK aV : Nat → Nat} (C : sCx p s m args meth c cX9_b 2 (some .int) wgX9_b RX9 E A) (vM : eMs aK aV E) {post : Int32 → Prop} :
    ∀ (x0 : Int64) (H : Heap) (locs : List Loc) (ls : Array Slot), va_S A s.heap H locs → lv_has ls 2 [(0, .long x0)] → wp_X9_b post x0 → W p l e rm_X9_b s m args below meth c H locs 0 0 (MQ below (va_Qi (S := Unit) (fun r _ => post r) (fun _ _ => True) A) args s 0 0 A) (F0 m 0 ls []) := by
  obtain ⟨hx, hb, hml, hr, hown, hts, hA, hlk, hE, vE⟩ := id C
  intro x0 H locs ls hG hl hw
  have hS := hG
  refine lv_lload_n hx hb dX9_b_0 rfl (lv_at hl 0 rfl) ?_
  refine lv_bipush (v := 16) hx hb dX9_b_1 (by decide) ?_
  refine lv_lshr hx hb dX9_b_3 rfl ?_
  refine lv_ldc2 (v := 15) hx hb hown (hts _ (List.mem_cons_of_mem _ tw_6_132)) dX9_b_4 ?_
  refine lv_land hx hb dX9_b_7 ?_
  refine lv_l2i hx hb dX9_b_8 rfl ?_
  exact W.iret (v := ((x0 >>> ((16 : Int32).toInt64 &&& 63)) &&& 15).toInt32) hx hb hr (fun t ht hW => ⟨⟨_, (), rfl, hw, trivial⟩, hS.F ht⟩) hS.2.2 dX9_b_9 hlk
set_option maxHeartbeats 4000000 in
set_option maxRecDepth 100000 in
theorem met_X9_b {l : Launch} {E : EnvT} (vE : EnvOk E) {aK aV : Nat → Nat} (vM : eMs aK aV E) {sz : Nat} {x0 : Int64} {post : Int32 → Prop} (hw : wp_X9_b post x0) : Met l yX9_b wgX9_b rm_X9_b (va_Pc [.long x0] (sPre E sz)) (va_Qi (S := Unit) (fun r _ => post r) (fun _ _ => True) (va_A [] sz)) 0 0 (va_A [] sz) := by
  refine Met.ofW (cc := cX9_b) (maxL := 2) (ret := (some .int)) (by decide +kernel) rfl ?_
  intro p e s m args below meth c s₁ B hml hv
  obtain ⟨rfl, hsz, hE⟩ := hv
  subst hsz
  generalize hAe : va_A [] s.heap.size = A at hE ⊢
  have hA : ∀ q : Nat, s.heap.size ≤ q → A q := fun q h => by rw [← hAe]; exact Or.inr h
  have hS : va_S A s.heap s.heap [] := va_S.rf
  have C : sCx p s m _ meth c cX9_b 2 (some .int) wgX9_b RX9 E A := ⟨B.exec, B.bytes, hml, B.returns, findClass_of_methodNamed B.named, atoms_spec (ws := wgX9_b) B.pre, hA, B.notSynchronized, hE, vE⟩
  have hG := hS
  have hl := lv_entry ([.long x0]) (n := 2) (Nat.le_of_ble_eq_true rfl)
  rw [lg_entry_eq]
  generalize (lg_sl ([.long x0]) ++ List.replicate (2 - (lg_sl ([.long x0])).length) Slot.unset).toArray = ls at hl ⊢
  have hl : lv_has ls 2 [(0, .long x0)] := hl
  exact k_X9_b C vM x0 _ _ _ hG hl hw
/-! ===== g ===== -/
def rm_X9_g : Room := { frames := 0, cells := 0, slots := 0, locals := 0 }
abbrev wgX9_g : List Cond := .code yX9_g cX9_g 2 (some .int) :: TB
def wp_X9_g (post : Int32 → Prop) (x0 : Int64) : Prop :=
  post (((x0 >>> ((20 : Int32).toInt64 &&& 63)) &&& 15).toInt32)
set_option maxHeartbeats 4000000 in
set_option maxRecDepth 100000 in
theorem k_X9_g {p : Program} {l : Launch} {e : Env} {s : State} {m : MethodId} {args : Array Value} {below : List Frame} {meth : Method} {c : Code} {A : Nat → Prop} {E : EnvT} {aK aV : Nat → Nat} (C : sCx p s m args meth c cX9_g 2 (some .int) wgX9_g RX9 E A) (vM : eMs aK aV E) {post : Int32 → Prop} :
    ∀ (x0 : Int64) (H : Heap) (locs : List Loc) (ls : Array Slot), va_S A s.heap H locs → lv_has ls 2 [(0, .long x0)] → wp_X9_g post x0 → W p l e rm_X9_g s m args below meth c H locs 0 0 (MQ below (va_Qi (S := Unit) (fun r _ => post r) (fun _ _ => True) A) args s 0 0 A) (F0 m 0 ls []) := by
  obtain ⟨hx, hb, hml, hr, hown, hts, hA, hlk, hE, vE⟩ := id C
  intro x0 H locs ls hG hl hw
  have hS := hG
  refine lv_lload_n hx hb dX9_g_0 rfl (lv_at hl 0 rfl) ?_
  refine lv_bipush (v := 20) hx hb dX9_g_1 (by decide) ?_
  refine lv_lshr hx hb dX9_g_3 rfl ?_
  refine lv_ldc2 (v := 15) hx hb hown (hts _ (List.mem_cons_of_mem _ tw_6_132)) dX9_g_4 ?_
  refine lv_land hx hb dX9_g_7 ?_
  refine lv_l2i hx hb dX9_g_8 rfl ?_
  exact W.iret (v := ((x0 >>> ((20 : Int32).toInt64 &&& 63)) &&& 15).toInt32) hx hb hr (fun t ht hW => ⟨⟨_, (), rfl, hw, trivial⟩, hS.F ht⟩) hS.2.2 dX9_g_9 hlk
set_option maxHeartbeats 4000000 in
set_option maxRecDepth 100000 in
theorem met_X9_g {l : Launch} {E : EnvT} (vE : EnvOk E) {aK aV : Nat → Nat} (vM : eMs aK aV E) {sz : Nat} {x0 : Int64} {post : Int32 → Prop} (hw : wp_X9_g post x0) : Met l yX9_g wgX9_g rm_X9_g (va_Pc [.long x0] (sPre E sz)) (va_Qi (S := Unit) (fun r _ => post r) (fun _ _ => True) (va_A [] sz)) 0 0 (va_A [] sz) := by
  refine Met.ofW (cc := cX9_g) (maxL := 2) (ret := (some .int)) (by decide +kernel) rfl ?_
  intro p e s m args below meth c s₁ B hml hv
  obtain ⟨rfl, hsz, hE⟩ := hv
  subst hsz
  generalize hAe : va_A [] s.heap.size = A at hE ⊢
  have hA : ∀ q : Nat, s.heap.size ≤ q → A q := fun q h => by rw [← hAe]; exact Or.inr h
  have hS : va_S A s.heap s.heap [] := va_S.rf
  have C : sCx p s m _ meth c cX9_g 2 (some .int) wgX9_g RX9 E A := ⟨B.exec, B.bytes, hml, B.returns, findClass_of_methodNamed B.named, atoms_spec (ws := wgX9_g) B.pre, hA, B.notSynchronized, hE, vE⟩
  have hG := hS
  have hl := lv_entry ([.long x0]) (n := 2) (Nat.le_of_ble_eq_true rfl)
  rw [lg_entry_eq]
  generalize (lg_sl ([.long x0]) ++ List.replicate (2 - (lg_sl ([.long x0])).length) Slot.unset).toArray = ls at hl ⊢
  have hl : lv_has ls 2 [(0, .long x0)] := hl
  exact k_X9_g C vM x0 _ _ _ hG hl hw
/-! ===== n ===== -/
def rm_X9_n : Room := { frames := 0, cells := 0, slots := 0, locals := 0 }
abbrev wgX9_n : List Cond := .code yX9_n cX9_n 2 (some .int) :: TB
def wp_X9_n (post : Int32 → Prop) (x0 : Int64) : Prop :=
  post ((x0 >>> ((32 : Int32).toInt64 &&& 63)).toInt32)
set_option maxHeartbeats 4000000 in
set_option maxRecDepth 100000 in
theorem k_X9_n {p : Program} {l : Launch} {e : Env} {s : State} {m : MethodId} {args : Array Value} {below : List Frame} {meth : Method} {c : Code} {A : Nat → Prop} {E : EnvT} {aK aV : Nat → Nat} (C : sCx p s m args meth c cX9_n 2 (some .int) wgX9_n RX9 E A) (vM : eMs aK aV E) {post : Int32 → Prop} :
    ∀ (x0 : Int64) (H : Heap) (locs : List Loc) (ls : Array Slot), va_S A s.heap H locs → lv_has ls 2 [(0, .long x0)] → wp_X9_n post x0 → W p l e rm_X9_n s m args below meth c H locs 0 0 (MQ below (va_Qi (S := Unit) (fun r _ => post r) (fun _ _ => True) A) args s 0 0 A) (F0 m 0 ls []) := by
  obtain ⟨hx, hb, hml, hr, hown, hts, hA, hlk, hE, vE⟩ := id C
  intro x0 H locs ls hG hl hw
  have hS := hG
  refine lv_lload_n hx hb dX9_n_0 rfl (lv_at hl 0 rfl) ?_
  refine lv_bipush (v := 32) hx hb dX9_n_1 (by decide) ?_
  refine lv_lshr hx hb dX9_n_3 rfl ?_
  refine lv_l2i hx hb dX9_n_4 rfl ?_
  exact W.iret (v := (x0 >>> ((32 : Int32).toInt64 &&& 63)).toInt32) hx hb hr (fun t ht hW => ⟨⟨_, (), rfl, hw, trivial⟩, hS.F ht⟩) hS.2.2 dX9_n_5 hlk
set_option maxHeartbeats 4000000 in
set_option maxRecDepth 100000 in
theorem met_X9_n {l : Launch} {E : EnvT} (vE : EnvOk E) {aK aV : Nat → Nat} (vM : eMs aK aV E) {sz : Nat} {x0 : Int64} {post : Int32 → Prop} (hw : wp_X9_n post x0) : Met l yX9_n wgX9_n rm_X9_n (va_Pc [.long x0] (sPre E sz)) (va_Qi (S := Unit) (fun r _ => post r) (fun _ _ => True) (va_A [] sz)) 0 0 (va_A [] sz) := by
  refine Met.ofW (cc := cX9_n) (maxL := 2) (ret := (some .int)) (by decide +kernel) rfl ?_
  intro p e s m args below meth c s₁ B hml hv
  obtain ⟨rfl, hsz, hE⟩ := hv
  subst hsz
  generalize hAe : va_A [] s.heap.size = A at hE ⊢
  have hA : ∀ q : Nat, s.heap.size ≤ q → A q := fun q h => by rw [← hAe]; exact Or.inr h
  have hS : va_S A s.heap s.heap [] := va_S.rf
  have C : sCx p s m _ meth c cX9_n 2 (some .int) wgX9_n RX9 E A := ⟨B.exec, B.bytes, hml, B.returns, findClass_of_methodNamed B.named, atoms_spec (ws := wgX9_n) B.pre, hA, B.notSynchronized, hE, vE⟩
  have hG := hS
  have hl := lv_entry ([.long x0]) (n := 2) (Nat.le_of_ble_eq_true rfl)
  rw [lg_entry_eq]
  generalize (lg_sl ([.long x0]) ++ List.replicate (2 - (lg_sl ([.long x0])).length) Slot.unset).toArray = ls at hl ⊢
  have hl : lv_has ls 2 [(0, .long x0)] := hl
  exact k_X9_n C vM x0 _ _ _ hG hl hw
/-! ===== op ===== -/
def rm_X9_op : Room := { frames := 0, cells := 0, slots := 0, locals := 0 }
abbrev wgX9_op : List Cond := .code yX9_op cX9_op 2 (some .int) :: TB
def wp_X9_op (post : Int32 → Prop) (x0 : Int64) : Prop :=
  post ((x0 &&& 255).toInt32)
set_option maxHeartbeats 4000000 in
set_option maxRecDepth 100000 in
theorem k_X9_op {p : Program} {l : Launch} {e : Env} {s : State} {m : MethodId} {args : Array Value} {below : List Frame} {meth : Method} {c : Code} {A : Nat → Prop} {E : EnvT} {aK aV : Nat → Nat} (C : sCx p s m args meth c cX9_op 2 (some .int) wgX9_op RX9 E A) (vM : eMs aK aV E) {post : Int32 → Prop} :
    ∀ (x0 : Int64) (H : Heap) (locs : List Loc) (ls : Array Slot), va_S A s.heap H locs → lv_has ls 2 [(0, .long x0)] → wp_X9_op post x0 → W p l e rm_X9_op s m args below meth c H locs 0 0 (MQ below (va_Qi (S := Unit) (fun r _ => post r) (fun _ _ => True) A) args s 0 0 A) (F0 m 0 ls []) := by
  obtain ⟨hx, hb, hml, hr, hown, hts, hA, hlk, hE, vE⟩ := id C
  intro x0 H locs ls hG hl hw
  have hS := hG
  refine lv_lload_n hx hb dX9_op_0 rfl (lv_at hl 0 rfl) ?_
  refine lv_ldc2 (v := 255) hx hb hown (hts _ (List.mem_cons_of_mem _ tw_5_212)) dX9_op_1 ?_
  refine lv_land hx hb dX9_op_4 ?_
  refine lv_l2i hx hb dX9_op_5 rfl ?_
  exact W.iret (v := (x0 &&& 255).toInt32) hx hb hr (fun t ht hW => ⟨⟨_, (), rfl, hw, trivial⟩, hS.F ht⟩) hS.2.2 dX9_op_6 hlk
set_option maxHeartbeats 4000000 in
set_option maxRecDepth 100000 in
theorem met_X9_op {l : Launch} {E : EnvT} (vE : EnvOk E) {aK aV : Nat → Nat} (vM : eMs aK aV E) {sz : Nat} {x0 : Int64} {post : Int32 → Prop} (hw : wp_X9_op post x0) : Met l yX9_op wgX9_op rm_X9_op (va_Pc [.long x0] (sPre E sz)) (va_Qi (S := Unit) (fun r _ => post r) (fun _ _ => True) (va_A [] sz)) 0 0 (va_A [] sz) := by
  refine Met.ofW (cc := cX9_op) (maxL := 2) (ret := (some .int)) (by decide +kernel) rfl ?_
  intro p e s m args below meth c s₁ B hml hv
  obtain ⟨rfl, hsz, hE⟩ := hv
  subst hsz
  generalize hAe : va_A [] s.heap.size = A at hE ⊢
  have hA : ∀ q : Nat, s.heap.size ≤ q → A q := fun q h => by rw [← hAe]; exact Or.inr h
  have hS : va_S A s.heap s.heap [] := va_S.rf
  have C : sCx p s m _ meth c cX9_op 2 (some .int) wgX9_op RX9 E A := ⟨B.exec, B.bytes, hml, B.returns, findClass_of_methodNamed B.named, atoms_spec (ws := wgX9_op) B.pre, hA, B.notSynchronized, hE, vE⟩
  have hG := hS
  have hl := lv_entry ([.long x0]) (n := 2) (Nat.le_of_ble_eq_true rfl)
  rw [lg_entry_eq]
  generalize (lg_sl ([.long x0]) ++ List.replicate (2 - (lg_sl ([.long x0])).length) Slot.unset).toArray = ls at hl ⊢
  have hl : lv_has ls 2 [(0, .long x0)] := hl
  exact k_X9_op C vM x0 _ _ _ hG hl hw
