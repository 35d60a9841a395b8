/-! ===== X6_takeName tokens ===== -/
def rm_X6_takeName : Room := { frames := 1, cells := 0, slots := 0, locals := 24 }
abbrev wgX6_takeName : List Cond := .code yX6_takeName cX6_takeName 5 (some .int) :: TB
def wB_X6_takeName_87 (post : Int32 → XS → Prop) (x1 : Int32) (x2 : Int64) (x4 : Int32) (t0 : Int32) (σ : XS) : Prop :=
  wp_X6_put (fun σ_2 => post x4 σ_2) t0 x1 x2 σ
def wB_X6_takeName_72 (post : Int32 → XS → Prop) (x1 : Int32) (x2 : Int64) (x4 : Int32) (σ : XS) : Prop :=
  (8 < (x4 - x1) → (wB_X6_takeName_87 post x1 x2 x4 3 σ)) ∧ (¬ 8 < (x4 - x1) → (wB_X6_takeName_87 post x1 x2 x4 1 σ))
def wB_X6_takeName_49 (post : Int32 → XS → Prop) (k5 : Int32 → Int64 → Int32 → XS → Prop) (x1 : Int32) (x2 : Int64) (x4 : Int32) (σ : XS) : Prop :=
  vp_in x4 700 ∧ (∀ x2_7 : Int64, x2_7 = (x2 <<< ((8 : Int32).toInt64 &&& 63)) ||| ((xA σ 0 x4.toNatClampNeg).toInt64) → ∀ x4_8 : Int32, x4_8 = x4 + 1 → k5 x1 x2_7 x4_8 σ)
def wB_X6_takeName_5 (post : Int32 → XS → Prop) (k5 : Int32 → Int64 → Int32 → XS → Prop) (x1 : Int32) (x2 : Int64) (x4 : Int32) (σ : XS) : Prop :=
  ((xI σ 0) ≤ x4 → (wB_X6_takeName_72 post x1 x2 x4 σ)) ∧ (¬ (xI σ 0) ≤ x4 → (vp_in x4 700 ∧ (wp_X6_isSmall (fun r_4  => (r_4 = 0 → (vp_in x4 700 ∧ (wp_X6_isDigit (fun r_10  => (r_10 = 0 → (wB_X6_takeName_72 post x1 x2 x4 σ)) ∧ (¬ r_10 = 0 → (wB_X6_takeName_49 post k5 x1 x2 x4 σ))) (xA σ 0 x4.toNatClampNeg)))) ∧ (¬ r_4 = 0 → (wB_X6_takeName_49 post k5 x1 x2 x4 σ))) (xA σ 0 x4.toNatClampNeg))))
def wL_X6_takeName_5 (post : Int32 → XS → Prop) : Nat → Int32 → Int64 → Int32 → XS → Prop
  | 0 => fun _ _ _ _ => False
  | n + 1 => wB_X6_takeName_5 post (wL_X6_takeName_5 post n)
def wp_X6_takeName (post : Int32 → XS → Prop) (x1 : Int32) (σ : XS) : Prop :=
  ∃ n, wL_X6_takeName_5 post n x1 0 x1 σ
set_option maxHeartbeats 4000000 in
set_option maxRecDepth 100000 in
theorem kB_X6_takeName_87 {p : Program} {l : Launch} {e : Env} {s : State} {m : MethodId} {args : Array Value} {below : List Frame} {meth : Method} {c : Code} {A : Nat → Prop} {E : EnvT} {aK aV : Nat → Nat} {aO : Nat} {D : va_G} {cA : Nat → ClassId} {aE ad : Nat → Nat} (C : xCx p s m args meth c cX6_takeName 5 (some .int) wgX6_takeName RX6 E D cA A) (vM : eXs aK aV aE aO E) {post : Int32 → XS → Prop} :
    ∀ (x1 : Int32) (x2 : Int64) (x4 : Int32) (t0 : Int32) (σ : XS) (H : Heap) (locs : List Loc) (ls : Array Slot), xG D cA aE ad A s σ H locs → lv_has ls 5 [(1, .int x1), (2, .long x2), (4, .int x4)] → wB_X6_takeName_87 post x1 x2 x4 t0 σ → W p l e rm_X6_takeName s m args below meth c H locs 0 0 (MQ below (va_Qi post (xAt D cA aE ad A) A) args s 0 0 A) (F0 m 87 ls [.int t0, .ref (ad 4)]) := by
  obtain ⟨hx, hb, hml, hr, hown, hts, hK, hA, hlk, hE, vE⟩ := id C
  intro x1 x2 x4 t0 σ H locs ls hG hl hw
  obtain ⟨hP, hD, hS⟩ := id hG
  refine lv_iload_n hx hb dX6_takeName_87 rfl (lv_at hl 0 rfl) ?_
  refine lv_lload_n hx hb dX6_takeName_88 rfl (lv_at hl 1 rfl) ?_
  refine xV_v (As := [.int t0, .int x1, .long x2]) (rest := []) C (met_X6_put vE vM hw) (va_recv hK hP (ci := 8) (q0 := 4) rfl rfl) (cwV 3 hts (TB_G (TB_4 tw_4_168 tw_4_170 ts_11 tw_1_5) tw_4_171) rfl rfl rfl (by decide +kernel) ⟨by decide, by decide⟩) hP hD hS rfl hl.1 rfl (Nat.le_of_ble_eq_true rfl) dX6_takeName_89 ⟨by decide, by decide⟩ (fun σ_2 H locs hw hP hD hS => ?_)
  have hG : xG D cA aE ad A s σ_2 H locs := ⟨hP, hD, hS⟩
  refine lv_iload hx hb dX6_takeName_92 (lv_at hl 2 rfl) ?_
  exact W.iret (v := x4) hx hb hr (fun t ht hW => ⟨⟨_, σ_2, rfl, hw, by rw [ht]; exact hP, va_K.moved hW.alike hK, hD⟩, hS.F ht⟩) hS.2.2 dX6_takeName_94 hlk
set_option maxHeartbeats 4000000 in
set_option maxRecDepth 100000 in
theorem kB_X6_takeName_72 {p : Program} {l : Launch} {e : Env} {s : State} {m : MethodId} {args : Array Value} {below : List Frame} {meth : Method} {c : Code} {A : Nat → Prop} {E : EnvT} {aK aV : Nat → Nat} {aO : Nat} {D : va_G} {cA : Nat → ClassId} {aE ad : Nat → Nat} (C : xCx p s m args meth c cX6_takeName 5 (some .int) wgX6_takeName RX6 E D cA A) (vM : eXs aK aV aE aO E) {post : Int32 → XS → Prop} :
    ∀ (x1 : Int32) (x2 : Int64) (x4 : Int32) (σ : XS) (H : Heap) (locs : List Loc) (ls : Array Slot), xG D cA aE ad A s σ H locs → lv_has ls 5 [(0, .ref (ad 4)), (1, .int x1), (2, .long x2), (4, .int x4)] → wB_X6_takeName_72 post x1 x2 x4 σ → W p l e rm_X6_takeName s m args below meth c H locs 0 0 (MQ below (va_Qi post (xAt D cA aE ad A) A) args s 0 0 A) (F0 m 72 ls []) := by
  obtain ⟨hx, hb, hml, hr, hown, hts, hK, hA, hlk, hE, vE⟩ := id C
  intro x1 x2 x4 σ H locs ls hG hl hw
  obtain ⟨hP, hD, hS⟩ := id hG
  refine lv_aload_n hx hb dX6_takeName_72 rfl (lv_at hl 0 rfl) ?_
  refine lv_iload hx hb dX6_takeName_73 (lv_at hl 3 rfl) ?_
  refine lv_iload_n hx hb dX6_takeName_75 rfl (lv_at hl 1 rfl) ?_
  refine lv_isub hx hb dX6_takeName_76 ?_
  refine lv_bipush (v := 8) hx hb dX6_takeName_77 (by decide) ?_
  refine lv_icmp_gt (tgt := 86) hx hb dX6_takeName_79 (by decide) (fun q_ => ?_) (fun q_ => ?_)
  · have hw := hw.1 q_
    refine lv_iconst (v := 3) hx hb dX6_takeName_86 (by decide) ?_
    exact kB_X6_takeName_87 C vM x1 x2 x4 3 σ _ _ _ hG (lv_sub hl [1, 2, 3] rfl) hw
  · have hw := hw.2 q_
    refine lv_iconst (v := 1) hx hb dX6_takeName_82 (by decide) ?_
    refine lv_goto (tgt := 87) hx hb dX6_takeName_83 (by decide) ?_
    exact kB_X6_takeName_87 C vM x1 x2 x4 1 σ _ _ _ hG (lv_sub hl [1, 2, 3] rfl) hw
set_option maxHeartbeats 4000000 in
set_option maxRecDepth 100000 in
theorem kB_X6_takeName_49 {p : Program} {l : Launch} {e : Env} {s : State} {m : MethodId} {args : Array Value} {below : List Frame} {meth : Method} {c : Code} {A : Nat → Prop} {E : EnvT} {aK aV : Nat → Nat} {aO : Nat} {D : va_G} {cA : Nat → ClassId} {aE ad : Nat → Nat} (C : xCx p s m args meth c cX6_takeName 5 (some .int) wgX6_takeName RX6 E D cA A) (vM : eXs aK aV aE aO E) {post : Int32 → XS → Prop}
    {k5 : Int32 → Int64 → Int32 → XS → Prop} (hk5 : ∀ (x1 : Int32) (x2 : Int64) (x4 : Int32) (σ : XS) (H : Heap) (locs : List Loc) (ls : Array Slot), xG D cA aE ad A s σ H locs → lv_has ls 5 [(0, .ref (ad 4)), (1, .int x1), (2, .long x2), (4, .int x4)] → k5 x1 x2 x4 σ → W p l e rm_X6_takeName s m args below meth c H locs 0 0 (MQ below (va_Qi post (xAt D cA aE ad A) A) args s 0 0 A) (F0 m 5 ls [])) :
    ∀ (x1 : Int32) (x2 : Int64) (x4 : Int32) (σ : XS) (H : Heap) (locs : List Loc) (ls : Array Slot), xG D cA aE ad A s σ H locs → lv_has ls 5 [(0, .ref (ad 4)), (1, .int x1), (2, .long x2), (4, .int x4)] → wB_X6_takeName_49 post k5 x1 x2 x4 σ → W p l e rm_X6_takeName s m args below meth c H locs 0 0 (MQ below (va_Qi post (xAt D cA aE ad A) A) args s 0 0 A) (F0 m 49 ls []) := by
  obtain ⟨hx, hb, hml, hr, hown, hts, hK, hA, hlk, hE, vE⟩ := id C
  intro x1 x2 x4 σ H locs ls hG hl hw
  obtain ⟨hP, hD, hS⟩ := id hG
  refine lv_lload_n hx hb dX6_takeName_49 rfl (lv_at hl 2 rfl) ?_
  refine lv_bipush (v := 8) hx hb dX6_takeName_50 (by decide) ?_
  refine lv_lshl hx hb dX6_takeName_52 rfl ?_
  refine lv_aload_n hx hb dX6_takeName_53 rfl (lv_at hl 0 rfl) ?_
  refine va_get (D := D) (ci := 8) (v := .ref (ad 1)) (C := RX6) (T := TX6) (N := 6) hx hb hts (in_tb inX6) hown hK hP 4 rfl rfl 0 (by decide) (hts _ (List.mem_cons_of_mem _ tw_1_91)) (fun _ h9 => h9) rfl dX6_takeName_54 ?_
  refine va_get (D := D) (ci := 7) (v := .ref (ad 2)) (C := RX5) (T := TX5) (N := 2) hx hb hts (in_tb inX5) hown hK hP 1 rfl rfl 0 (by decide) (hts _ (List.mem_cons_of_mem _ tw_1_45)) (fun _ h9 => h9) rfl dX6_takeName_57 ?_
  refine lv_iload hx hb dX6_takeName_60 (lv_at hl 3 rfl) ?_
  obtain ⟨h_6, hw⟩ := hw
  refine va_cald hx hb hK hP 2 2 rfl rfl h_6 dX6_takeName_62 ?_
  refine lv_i2l hx hb dX6_takeName_63 rfl ?_
  refine lv_lor hx hb dX6_takeName_64 ?_
  refine lv_topl (fun x2_7 ex2_7 => ?_)
  have hw := hw x2_7 ex2_7
  refine lv_lstore_n (lv' := [(2, .long x2_7), (0, .ref (ad 4)), (1, .int x1), (4, .int x4)]) hx hb dX6_takeName_65 rfl hl (by decide) rfl (fun ls hl => ?_)
  obtain ⟨x4_8, ex4_8⟩ : ∃ y : Int32, y = x4 + 1 := ⟨_, rfl⟩
  have hw := hw x4_8 ex4_8
  refine lv_iinc (v := x4_8) (lv' := [(4, .int x4_8), (2, .long x2_7), (0, .ref (ad 4)), (1, .int x1)]) hx hb dX6_takeName_66 hl (k := 3) rfl (by rw [ex4_8]; rfl) (by decide) rfl (fun ls hl => ?_)
  refine lv_goto (tgt := 5) hx hb dX6_takeName_69 (by decide) ?_
  exact hk5 x1 x2_7 x4_8 σ _ _ _ hG (lv_sub hl [2, 3, 1, 0] rfl) hw
set_option maxHeartbeats 4000000 in
set_option maxRecDepth 100000 in
theorem kB_X6_takeName_5 {p : Program} {l : Launch} {e : Env} {s : State} {m : MethodId} {args : Array Value} {below : List Frame} {meth : Method} {c : Code} {A : Nat → Prop} {E : EnvT} {aK aV : Nat → Nat} {aO : Nat} {D : va_G} {cA : Nat → ClassId} {aE ad : Nat → Nat} (C : xCx p s m args meth c cX6_takeName 5 (some .int) wgX6_takeName RX6 E D cA A) (vM : eXs aK aV aE aO E) {post : Int32 → XS → Prop}
    {k5 : Int32 → Int64 → Int32 → XS → Prop} (hk5 : ∀ (x1 : Int32) (x2 : Int64) (x4 : Int32) (σ : XS) (H : Heap) (locs : List Loc) (ls : Array Slot), xG D cA aE ad A s σ H locs → lv_has ls 5 [(0, .ref (ad 4)), (1, .int x1), (2, .long x2), (4, .int x4)] → k5 x1 x2 x4 σ → W p l e rm_X6_takeName s m args below meth c H locs 0 0 (MQ below (va_Qi post (xAt D cA aE ad A) A) args s 0 0 A) (F0 m 5 ls [])) :
    ∀ (x1 : Int32) (x2 : Int64) (x4 : Int32) (σ : XS) (H : Heap) (locs : List Loc) (ls : Array Slot), xG D cA aE ad A s σ H locs → lv_has ls 5 [(0, .ref (ad 4)), (1, .int x1), (2, .long x2), (4, .int x4)] → wB_X6_takeName_5 post k5 x1 x2 x4 σ → W p l e rm_X6_takeName s m args below meth c H locs 0 0 (MQ below (va_Qi post (xAt D cA aE ad A) A) args s 0 0 A) (F0 m 5 ls []) := by
  obtain ⟨hx, hb, hml, hr, hown, hts, hK, hA, hlk, hE, vE⟩ := id C
  intro x1 x2 x4 σ H locs ls hG hl hw
  obtain ⟨hP, hD, hS⟩ := id hG
  refine lv_iload hx hb dX6_takeName_5 (lv_at hl 3 rfl) ?_
  refine lv_aload_n hx hb dX6_takeName_7 rfl (lv_at hl 0 rfl) ?_
  refine va_get (D := D) (ci := 8) (v := .ref (ad 1)) (C := RX6) (T := TX6) (N := 6) hx hb hts (in_tb inX6) hown hK hP 4 rfl rfl 0 (by decide) (hts _ (List.mem_cons_of_mem _ tw_1_91)) (fun _ h9 => h9) rfl dX6_takeName_8 ?_
  refine va_get (D := D) (ci := 7) (v := .int (xI σ 0)) (C := RX5) (T := TX5) (N := 2) hx hb hts (in_tb inX5) hown hK hP 1 rfl rfl 1 (by decide) (hts _ (List.mem_cons_of_mem _ tw_1_47)) (fun _ h9 => h9) rfl dX6_takeName_11 ?_
  refine lv_icmp_ge (tgt := 72) hx hb dX6_takeName_14 (by decide) (fun q_ => ?_) (fun q_ => ?_)
  · have hw := hw.1 q_
    exact kB_X6_takeName_72 C vM x1 x2 x4 σ _ _ _ hG (lv_sub hl [0, 1, 2, 3] rfl) hw
  · have hw := hw.2 q_
    refine lv_aload_n hx hb dX6_takeName_17 rfl (lv_at hl 0 rfl) ?_
    refine va_get (D := D) (ci := 8) (v := .ref (ad 1)) (C := RX6) (T := TX6) (N := 6) hx hb hts (in_tb inX6) hown hK hP 4 rfl rfl 0 (by decide) (hts _ (List.mem_cons_of_mem _ tw_1_91)) (fun _ h9 => h9) rfl dX6_takeName_18 ?_
    refine va_get (D := D) (ci := 7) (v := .ref (ad 2)) (C := RX5) (T := TX5) (N := 2) hx hb hts (in_tb inX5) hown hK hP 1 rfl rfl 0 (by decide) (hts _ (List.mem_cons_of_mem _ tw_1_45)) (fun _ h9 => h9) rfl dX6_takeName_21 ?_
    refine lv_iload hx hb dX6_takeName_24 (lv_at hl 3 rfl) ?_
    obtain ⟨h_3, hw⟩ := hw
    refine va_cald hx hb hK hP 2 2 rfl rfl h_3 dX6_takeName_26 ?_
    refine xS_i (As := [.int (xA σ 0 x4.toNatClampNeg)]) (rest := []) C (met_X6_isSmall vE vM hw) (va_cwS 1 hts (TB_G (TB_3 tw_4_158 tw_4_159 tw_1_5) tw_4_160) rfl rfl rfl (by decide +kernel) ⟨by decide, by decide⟩) hP hD hS rfl hl.1 rfl (Nat.le_of_ble_eq_true rfl) dX6_takeName_27 ⟨by decide, by decide⟩ (fun r_4 H locs hw hP hS => ?_)
    have hG : xG D cA aE ad A s σ H locs := ⟨hP, hD, hS⟩
    refine lv_if_ne (tgt := 49) hx hb dX6_takeName_30 (by decide) (fun q_ => ?_) (fun q_ => ?_)
    · have hw := hw.2 q_
      exact kB_X6_takeName_49 C vM hk5 x1 x2 x4 σ _ _ _ hG (lv_sub hl [0, 1, 2, 3] rfl) hw
    · have hw := hw.1 q_
      refine lv_aload_n hx hb dX6_takeName_33 rfl (lv_at hl 0 rfl) ?_
      refine va_get (D := D) (ci := 8) (v := .ref (ad 1)) (C := RX6) (T := TX6) (N := 6) hx hb hts (in_tb inX6) hown hK hP 4 rfl rfl 0 (by decide) (hts _ (List.mem_cons_of_mem _ tw_1_91)) (fun _ h9 => h9) rfl dX6_takeName_34 ?_
      refine va_get (D := D) (ci := 7) (v := .ref (ad 2)) (C := RX5) (T := TX5) (N := 2) hx hb hts (in_tb inX5) hown hK hP 1 rfl rfl 0 (by decide) (hts _ (List.mem_cons_of_mem _ tw_1_45)) (fun _ h9 => h9) rfl dX6_takeName_37 ?_
      refine lv_iload hx hb dX6_takeName_40 (lv_at hl 3 rfl) ?_
      obtain ⟨h_9, hw⟩ := hw
      refine va_cald hx hb hK hP 2 2 rfl rfl h_9 dX6_takeName_42 ?_
      refine xS_i (As := [.int (xA σ 0 x4.toNatClampNeg)]) (rest := []) C (met_X6_isDigit vE vM hw) (va_cwS 1 hts (TB_G (TB_3 tw_4_165 tw_4_166 tw_1_5) tw_4_167) rfl rfl rfl (by decide +kernel) ⟨by decide, by decide⟩) hP hD hS rfl hl.1 rfl (Nat.le_of_ble_eq_true rfl) dX6_takeName_43 ⟨by decide, by decide⟩ (fun r_10 H locs hw hP hS => ?_)
      have hG : xG D cA aE ad A s σ H locs := ⟨hP, hD, hS⟩
      refine lv_if_eq (tgt := 72) hx hb dX6_takeName_46 (by decide) (fun q_ => ?_) (fun q_ => ?_)
      · have hw := hw.1 q_
        exact kB_X6_takeName_72 C vM x1 x2 x4 σ _ _ _ hG (lv_sub hl [0, 1, 2, 3] rfl) hw
      · have hw := hw.2 q_
        exact kB_X6_takeName_49 C vM hk5 x1 x2 x4 σ _ _ _ hG (lv_sub hl [0, 1, 2, 3] rfl) hw
theorem kL_X6_takeName_5 {p : Program} {l : Launch} {e : Env} {s : State} {m : MethodId} {args : Array Value} {below : List Frame} {meth : Method} {c : Code} {A : Nat → Prop} {E : EnvT} {aK aV : Nat → Nat} {aO : Nat} {D : va_G} {cA : Nat → ClassId} {aE ad : Nat → Nat} (C : xCx p s m args meth c cX6_takeName 5 (some .int) wgX6_takeName RX6 E D cA A) (vM : eXs aK aV aE aO E) {post : Int32 → XS → Prop} :
    ∀ (n : Nat) (x1 : Int32) (x2 : Int64) (x4 : Int32) (σ : XS) (H : Heap) (locs : List Loc) (ls : Array Slot), xG D cA aE ad A s σ H locs → lv_has ls 5 [(0, .ref (ad 4)), (1, .int x1), (2, .long x2), (4, .int x4)] → wL_X6_takeName_5 post n x1 x2 x4 σ → W p l e rm_X6_takeName s m args below meth c H locs 0 0 (MQ below (va_Qi post (xAt D cA aE ad A) A) args s 0 0 A) (F0 m 5 ls []) := by
  intro n
  induction n with
  | zero => intro x1 x2 x4 σ H locs ls hG hl hw; exact hw.elim
  | succ n ih => exact kB_X6_takeName_5 C vM ih
set_option maxHeartbeats 4000000 in
set_option maxRecDepth 100000 in
theorem k_X6_takeName {p : Program} {l : Launch} {e : Env} {s : State} {m : MethodId} {args : Array Value} {below : List Frame} {meth : Method} {c : Code} {A : Nat → Prop} {E : EnvT} {aK aV : Nat → Nat} {aO : Nat} {D : va_G} {cA : Nat → ClassId} {aE ad : Nat → Nat} (C : xCx p s m args meth c cX6_takeName 5 (some .int) wgX6_takeName RX6 E D cA A) (vM : eXs aK aV aE aO E) {post : Int32 → XS → Prop} :
    ∀ (x1 : Int32) (σ : XS) (H : Heap) (locs : List Loc) (ls : Array Slot), xG D cA aE ad A s σ H locs → lv_has ls 5 [(0, .ref (ad 4)), (1, .int x1)] → wp_X6_takeName post x1 σ → W p l e rm_X6_takeName s m args below meth c H locs 0 0 (MQ below (va_Qi post (xAt D cA aE ad A) A) args s 0 0 A) (F0 m 0 ls []) := by
  obtain ⟨hx, hb, hml, hr, hown, hts, hK, hA, hlk, hE, vE⟩ := id C
  intro x1 σ H locs ls hG hl hw
  obtain ⟨hP, hD, hS⟩ := id hG
  refine lv_lconst (v := 0) hx hb dX6_takeName_0 (by decide) ?_
  refine lv_lstore_n (lv' := [(2, .long 0), (0, .ref (ad 4)), (1, .int x1)]) hx hb dX6_takeName_1 rfl hl (by decide) rfl (fun ls hl => ?_)
  refine lv_iload_n hx hb dX6_takeName_2 rfl (lv_at hl 2 rfl) ?_
  refine lv_istore (lv' := [(4, .int x1), (2, .long 0), (0, .ref (ad 4)), (1, .int x1)]) hx hb dX6_takeName_3 hl (by decide) rfl (fun ls hl => ?_)
  obtain ⟨n_, hw⟩ := hw
  exact kL_X6_takeName_5 C vM n_ x1 0 x1 σ _ _ _ hG (lv_sub hl [2, 3, 1, 0] rfl) hw
set_option maxHeartbeats 4000000 in
set_option maxRecDepth 100000 in
theorem met_X6_takeName {l : Launch} {E : EnvT} (vE : EnvOk E) {D : va_G} {cA : Nat → ClassId} {aE ad : Nat → Nat} {σ : XS} {aK aV : Nat → Nat} {aO : Nat} (vM : eXs aK aV aE aO E) {sz : Nat} {x1 : Int32} {post : Int32 → XS → Prop} (hw : wp_X6_takeName post x1 σ) : Met l yX6_takeName wgX6_takeName rm_X6_takeName (va_Pc [.ref (ad 4), .int x1] (xPre E D cA aE ad sz σ)) (va_Qi post (xAt D cA aE ad (va_A (xW cA aE ad σ) sz)) (va_A (xW cA aE ad σ) sz)) 0 0 (va_A (xW cA aE ad σ) sz) := by
  refine Met.ofW (cc := cX6_takeName) (maxL := 5) (ret := (some .int)) (by decide +kernel) rfl ?_
  intro p e s m args below meth c s₁ B hml hv
  obtain ⟨rfl, hsz, hP, hK, hD0, hE⟩ := hv
  subst hsz
  have hD := hD0.self (sz := s.heap.size)
  generalize hAe : va_A (xW cA aE ad σ) s.heap.size = A at hD hE ⊢
  have hA : ∀ q : Nat, s.heap.size ≤ q → A q := fun q h => by rw [← hAe]; exact Or.inr h
  have hS : va_S A s.heap s.heap [] := va_S.rf
  have C : xCx p s m _ meth c cX6_takeName 5 (some .int) wgX6_takeName RX6 E D cA A := ⟨B.exec, B.bytes, hml, B.returns, findClass_of_methodNamed B.named, atoms_spec (ws := wgX6_takeName) B.pre, hK, hA, B.notSynchronized, hE, vE⟩
  have hG : xG D cA aE ad A s σ s.heap [] := ⟨hP, hD, hS⟩
  have hl := lv_entry ([.ref (ad 4), .int x1]) (n := 5) (Nat.le_of_ble_eq_true rfl)
  rw [lg_entry_eq]
  generalize (lg_sl ([.ref (ad 4), .int x1]) ++ List.replicate (5 - (lg_sl ([.ref (ad 4), .int x1])).length) Slot.unset).toArray = ls at hl ⊢
  have hl : lv_has ls 5 [(0, .ref (ad 4)), (1, .int x1)] := hl
  exact k_X6_takeName C vM x1 σ _ _ _ hG hl hw
/-! ===== X6_takeNumber tokens ===== -/
def rm_X6_takeNumber : Room := { frames := 1, cells := 0, slots := 0, locals := 24 }
abbrev wgX6_takeNumber : List Cond := .code yX6_takeNumber cX6_takeNumber 6 (some .int) :: TB
def wB_X6_takeNumber_104 (post : Int32 → XS → Prop) (x1 : Int32) (x2 : Int64) (x4 : Int32) (t0 : Int32) (σ : XS) : Prop :=
  wp_X6_put (fun σ_2 => post x4 σ_2) t0 x1 x2 σ
def wB_X6_takeNumber_91 (post : Int32 → XS → Prop) (x1 : Int32) (x2 : Int64) (x4 : Int32) (t0 : Int32) (σ : XS) : Prop :=
  (t0 = 0 → (wB_X6_takeNumber_104 post x1 x2 x4 3 σ)) ∧ (¬ t0 = 0 → (wB_X6_takeNumber_104 post x1 x2 x4 2 σ))
def wB_X6_takeNumber_90 (post : Int32 → XS → Prop) (x1 : Int32) (x2 : Int64) (x4 : Int32) (σ : XS) : Prop :=
  wB_X6_takeNumber_91 post x1 x2 x4 0 σ
def wB_X6_takeNumber_69 (post : Int32 → XS → Prop) (x1 : Int32) (x2 : Int64) (x4 : Int32) (σ : XS) : Prop :=
  (10 < (x4 - x1) → (wB_X6_takeNumber_90 post x1 x2 x4 σ)) ∧ (¬ 10 < (x4 - x1) → ((2147483648 < x2 → (wB_X6_takeNumber_90 post x1 x2 x4 σ)) ∧ (¬ 2147483648 < x2 → (wB_X6_takeNumber_91 post x1 x2 x4 1 σ))))
def wB_X6_takeNumber_63 (post : Int32 → XS → Prop) (k5 : Int32 → Int64 → Int32 → XS → Prop) (x1 : Int32) (x2 : Int64) (x4 : Int32) (σ : XS) : Prop :=
  ∀ x4_6 : Int32, x4_6 = x4 + 1 → k5 x1 x2 x4_6 σ
def wB_X6_takeNumber_5 (post : Int32 → XS → Prop) (k5 : Int32 → Int64 → Int32 → XS → Prop) (x1 : Int32) (x2 : Int64) (x4 : Int32) (σ : XS) : Prop :=
  ((xI σ 0) ≤ x4 → (wB_X6_takeNumber_69 post x1 x2 x4 σ)) ∧ (¬ (xI σ 0) ≤ x4 → (vp_in x4 700 ∧ (wp_X6_isDigit (fun r_4  => (r_4 = 0 → (wB_X6_takeNumber_69 post x1 x2 x4 σ)) ∧ (¬ r_4 = 0 → ((10 ≤ (x4 - x1) → (wB_X6_takeNumber_63 post k5 x1 x2 x4 σ)) ∧ (¬ 10 ≤ (x4 - x1) → (vp_in x4 700 ∧ (∀ x2_8 : Int64, x2_8 = (x2 * 10) + (((xA σ 0 x4.toNatClampNeg) - 48).toInt64) → wB_X6_takeNumber_63 post k5 x1 x2_8 x4 σ)))))) (xA σ 0 x4.toNatClampNeg))))
def wL_X6_takeNumber_5 (post : Int32 → XS → Prop) : Nat → Int32 → Int64 → Int32 → XS → Prop
  | 0 => fun _ _ _ _ => False
  | n + 1 => wB_X6_takeNumber_5 post (wL_X6_takeNumber_5 post n)
def wp_X6_takeNumber (post : Int32 → XS → Prop) (x1 : Int32) (σ : XS) : Prop :=
  ∃ n, wL_X6_takeNumber_5 post n x1 0 x1 σ
set_option maxHeartbeats 4000000 in
set_option maxRecDepth 100000 in
theorem kB_X6_takeNumber_104 {p : Program} {l : Launch} {e : Env} {s : State} {m : MethodId} {args : Array Value} {below : List Frame} {meth : Method} {c : Code} {A : Nat → Prop} {E : EnvT} {aK aV : Nat → Nat} {aO : Nat} {D : va_G} {cA : Nat → ClassId} {aE ad : Nat → Nat} (C : xCx p s m args meth c cX6_takeNumber 6 (some .int) wgX6_takeNumber RX6 E D cA A) (vM : eXs aK aV aE aO E) {post : Int32 → XS → Prop} :
    ∀ (x1 : Int32) (x2 : Int64) (x4 : Int32) (t0 : Int32) (σ : XS) (H : Heap) (locs : List Loc) (ls : Array Slot), xG D cA aE ad A s σ H locs → lv_has ls 6 [(1, .int x1), (2, .long x2), (4, .int x4)] → wB_X6_takeNumber_104 post x1 x2 x4 t0 σ → W p l e rm_X6_takeNumber s m args below meth c H locs 0 0 (MQ below (va_Qi post (xAt D cA aE ad A) A) args s 0 0 A) (F0 m 104 ls [.int t0, .ref (ad 4)]) := by
  obtain ⟨hx, hb, hml, hr, hown, hts, hK, hA, hlk, hE, vE⟩ := id C
  intro x1 x2 x4 t0 σ H locs ls hG hl hw
  obtain ⟨hP, hD, hS⟩ := id hG
  refine lv_iload_n hx hb dX6_takeNumber_104 rfl (lv_at hl 0 rfl) ?_
  refine lv_lload_n hx hb dX6_takeNumber_105 rfl (lv_at hl 1 rfl) ?_
  refine xV_v (As := [.int t0, .int x1, .long x2]) (rest := []) C (met_X6_put vE vM hw) (va_recv hK hP (ci := 8) (q0 := 4) rfl rfl) (cwV 3 hts (TB_G (TB_4 tw_4_168 tw_4_170 ts_11 tw_1_5) tw_4_171) rfl rfl rfl (by decide +kernel) ⟨by decide, by decide⟩) hP hD hS rfl hl.1 rfl (Nat.le_of_ble_eq_true rfl) dX6_takeNumber_106 ⟨by decide, by decide⟩ (fun σ_2 H locs hw hP hD hS => ?_)
  have hG : xG D cA aE ad A s σ_2 H locs := ⟨hP, hD, hS⟩
  refine lv_iload hx hb dX6_takeNumber_109 (lv_at hl 2 rfl) ?_
  exact W.iret (v := x4) hx hb hr (fun t ht hW => ⟨⟨_, σ_2, rfl, hw, by rw [ht]; exact hP, va_K.moved hW.alike hK, hD⟩, hS.F ht⟩) hS.2.2 dX6_takeNumber_111 hlk
set_option maxHeartbeats 4000000 in
set_option maxRecDepth 100000 in
theorem kB_X6_takeNumber_91 {p : Program} {l : Launch} {e : Env} {s : State} {m : MethodId} {args : Array Value} {below : List Frame} {meth : Method} {c : Code} {A : Nat → Prop} {E : EnvT} {aK aV : Nat → Nat} {aO : Nat} {D : va_G} {cA : Nat → ClassId} {aE ad : Nat → Nat} (C : xCx p s m args meth c cX6_takeNumber 6 (some .int) wgX6_takeNumber RX6 E D cA A) (vM : eXs aK aV aE aO E) {post : Int32 → XS → Prop} :
    ∀ (x1 : Int32) (x2 : Int64) (x4 : Int32) (t0 : Int32) (σ : XS) (H : Heap) (locs : List Loc) (ls : Array Slot), xG D cA aE ad A s σ H locs → lv_has ls 6 [(0, .ref (ad 4)), (1, .int x1), (2, .long x2), (4, .int x4)] → wB_X6_takeNumber_91 post x1 x2 x4 t0 σ → W p l e rm_X6_takeNumber s m args below meth c H locs 0 0 (MQ below (va_Qi post (xAt D cA aE ad A) A) args s 0 0 A) (F0 m 91 ls [.int t0]) := by
  obtain ⟨hx, hb, hml, hr, hown, hts, hK, hA, hlk, hE, vE⟩ := id C
  intro x1 x2 x4 t0 σ H locs ls hG hl hw
  obtain ⟨hP, hD, hS⟩ := id hG
  refine lv_istore (lv' := [(5, .int t0), (0, .ref (ad 4)), (1, .int x1), (2, .long x2), (4, .int x4)]) hx hb dX6_takeNumber_91 hl (by decide) rfl (fun ls hl => ?_)
  refine lv_aload_n hx hb dX6_takeNumber_93 rfl (lv_at hl 1 rfl) ?_
  refine lv_iload hx hb dX6_takeNumber_94 (lv_at hl 0 rfl) ?_
  refine lv_if_eq (tgt := 103) hx hb dX6_takeNumber_96 (by decide) (fun q_ => ?_) (fun q_ => ?_)
  · have hw := hw.1 q_
    refine lv_iconst (v := 3) hx hb dX6_takeNumber_103 (by decide) ?_
    exact kB_X6_takeNumber_104 C vM x1 x2 x4 3 σ _ _ _ hG (lv_sub hl [2, 3, 4] rfl) hw
  · have hw := hw.2 q_
    refine lv_iconst (v := 2) hx hb dX6_takeNumber_99 (by decide) ?_
    refine lv_goto (tgt := 104) hx hb dX6_takeNumber_100 (by decide) ?_
    exact kB_X6_takeNumber_104 C vM x1 x2 x4 2 σ _ _ _ hG (lv_sub hl [2, 3, 4] rfl) hw
set_option maxHeartbeats 4000000 in
set_option maxRecDepth 100000 in
theorem kB_X6_takeNumber_90 {p : Program} {l : Launch} {e : Env} {s : State} {m : MethodId} {args : Array Value} {below : List Frame} {meth : Method} {c : Code} {A : Nat → Prop} {E : EnvT} {aK aV : Nat → Nat} {aO : Nat} {D : va_G} {cA : Nat → ClassId} {aE ad : Nat → Nat} (C : xCx p s m args meth c cX6_takeNumber 6 (some .int) wgX6_takeNumber RX6 E D cA A) (vM : eXs aK aV aE aO E) {post : Int32 → XS → Prop} :
    ∀ (x1 : Int32) (x2 : Int64) (x4 : Int32) (σ : XS) (H : Heap) (locs : List Loc) (ls : Array Slot), xG D cA aE ad A s σ H locs → lv_has ls 6 [(0, .ref (ad 4)), (1, .int x1), (2, .long x2), (4, .int x4)] → wB_X6_takeNumber_90 post x1 x2 x4 σ → W p l e rm_X6_takeNumber s m args below meth c H locs 0 0 (MQ below (va_Qi post (xAt D cA aE ad A) A) args s 0 0 A) (F0 m 90 ls []) := by
  obtain ⟨hx, hb, hml, hr, hown, hts, hK, hA, hlk, hE, vE⟩ := id C
  intro x1 x2 x4 σ H locs ls hG hl hw
  obtain ⟨hP, hD, hS⟩ := id hG
  refine lv_iconst (v := 0) hx hb dX6_takeNumber_90 (by decide) ?_
  exact kB_X6_takeNumber_91 C vM x1 x2 x4 0 σ _ _ _ hG (lv_sub hl [0, 1, 2, 3] rfl) hw
set_option maxHeartbeats 4000000 in
set_option maxRecDepth 100000 in
theorem kB_X6_takeNumber_69 {p : Program} {l : Launch} {e : Env} {s : State} {m : MethodId} {args : Array Value} {below : List Frame} {meth : Method} {c : Code} {A : Nat → Prop} {E : EnvT} {aK aV : Nat → Nat} {aO : Nat} {D : va_G} {cA : Nat → ClassId} {aE ad : Nat → Nat} (C : xCx p s m args meth c cX6_takeNumber 6 (some .int) wgX6_takeNumber RX6 E D cA A) (vM : eXs aK aV aE aO E) {post : Int32 → XS → Prop} :
    ∀ (x1 : Int32) (x2 : Int64) (x4 : Int32) (σ : XS) (H : Heap) (locs : List Loc) (ls : Array Slot), xG D cA aE ad A s σ H locs → lv_has ls 6 [(0, .ref (ad 4)), (1, .int x1), (2, .long x2), (4, .int x4)] → wB_X6_takeNumber_69 post x1 x2 x4 σ → W p l e rm_X6_takeNumber s m args below meth c H locs 0 0 (MQ below (va_Qi post (xAt D cA aE ad A) A) args s 0 0 A) (F0 m 69 ls []) := by
  obtain ⟨hx, hb, hml, hr, hown, hts, hK, hA, hlk, hE, vE⟩ := id C
  intro x1 x2 x4 σ H locs ls hG hl hw
  obtain ⟨hP, hD, hS⟩ := id hG
  refine lv_iload hx hb dX6_takeNumber_69 (lv_at hl 3 rfl) ?_
  refine lv_iload_n hx hb dX6_takeNumber_71 rfl (lv_at hl 1 rfl) ?_
  refine lv_isub hx hb dX6_takeNumber_72 ?_
  refine lv_bipush (v := 10) hx hb dX6_takeNumber_73 (by decide) ?_
  refine lv_icmp_gt (tgt := 90) hx hb dX6_takeNumber_75 (by decide) (fun q_ => ?_) (fun q_ => ?_)
  · have hw := hw.1 q_
    exact kB_X6_takeNumber_90 C vM x1 x2 x4 σ _ _ _ hG (lv_sub hl [0, 1, 2, 3] rfl) hw
  · have hw := hw.2 q_
    refine lv_lload_n hx hb dX6_takeNumber_78 rfl (lv_at hl 2 rfl) ?_
    refine lv_ldc2 (v := 2147483648) hx hb hown (hts _ (List.mem_cons_of_mem _ tw_4_177)) dX6_takeNumber_79 ?_
    refine W.lcmp hx hb dX6_takeNumber_82 ?_
    refine lv_if_gt (tgt := 90) hx hb dX6_takeNumber_83 (by decide) (fun q_ => ?_) (fun q_ => ?_)
    · have hw := hw.1 (lc_gt.mp q_)
      exact kB_X6_takeNumber_90 C vM x1 x2 x4 σ _ _ _ hG (lv_sub hl [0, 1, 2, 3] rfl) hw
    · have hw := hw.2 (fun z => q_ (lc_gt.mpr z))
      refine lv_iconst (v := 1) hx hb dX6_takeNumber_86 (by decide) ?_
      refine lv_goto (tgt := 91) hx hb dX6_takeNumber_87 (by decide) ?_
      exact kB_X6_takeNumber_91 C vM x1 x2 x4 1 σ _ _ _ hG (lv_sub hl [0, 1, 2, 3] rfl) hw
set_option maxHeartbeats 4000000 in
set_option maxRecDepth 100000 in
theorem kB_X6_takeNumber_63 {p : Program} {l : Launch} {e : Env} {s : State} {m : MethodId} {args : Array Value} {below : List Frame} {meth : Method} {c : Code} {A : Nat → Prop} {E : EnvT} {aK aV : Nat → Nat} {aO : Nat} {D : va_G} {cA : Nat → ClassId} {aE ad : Nat → Nat} (C : xCx p s m args meth c cX6_takeNumber 6 (some .int) wgX6_takeNumber RX6 E D cA A) (vM : eXs aK aV aE aO E) {post : Int32 → XS → Prop}
    {k5 : Int32 → Int64 → Int32 → XS → Prop} (hk5 : ∀ (x1 : Int32) (x2 : Int64) (x4 : Int32) (σ : XS) (H : Heap) (locs : List Loc) (ls : Array Slot), xG D cA aE ad A s σ H locs → lv_has ls 6 [(0, .ref (ad 4)), (1, .int x1), (2, .long x2), (4, .int x4)] → k5 x1 x2 x4 σ → W p l e rm_X6_takeNumber s m args below meth c H locs 0 0 (MQ below (va_Qi post (xAt D cA aE ad A) A) args s 0 0 A) (F0 m 5 ls [])) :
    ∀ (x1 : Int32) (x2 : Int64) (x4 : Int32) (σ : XS) (H : Heap) (locs : List Loc) (ls : Array Slot), xG D cA aE ad A s σ H locs → lv_has ls 6 [(0, .ref (ad 4)), (1, .int x1), (2, .long x2), (4, .int x4)] → wB_X6_takeNumber_63 post k5 x1 x2 x4 σ → W p l e rm_X6_takeNumber s m args below meth c H locs 0 0 (MQ below (va_Qi post (xAt D cA aE ad A) A) args s 0 0 A) (F0 m 63 ls []) := by
  obtain ⟨hx, hb, hml, hr, hown, hts, hK, hA, hlk, hE, vE⟩ := id C
  intro x1 x2 x4 σ H locs ls hG hl hw
  obtain ⟨hP, hD, hS⟩ := id hG
  obtain ⟨x4_6, ex4_6⟩ : ∃ y : Int32, y = x4 + 1 := ⟨_, rfl⟩
  have hw := hw x4_6 ex4_6
  refine lv_iinc (v := x4_6) (lv' := [(4, .int x4_6), (0, .ref (ad 4)), (1, .int x1), (2, .long x2)]) hx hb dX6_takeNumber_63 hl (k := 3) rfl (by rw [ex4_6]; rfl) (by decide) rfl (fun ls hl => ?_)
  refine lv_goto (tgt := 5) hx hb dX6_takeNumber_66 (by decide) ?_
  exact hk5 x1 x2 x4_6 σ _ _ _ hG (lv_sub hl [1, 2, 3, 0] rfl) hw
set_option maxHeartbeats 4000000 in
set_option maxRecDepth 100000 in
theorem kB_X6_takeNumber_5 {p : Program} {l : Launch} {e : Env} {s : State} {m : MethodId} {args : Array Value} {below : List Frame} {meth : Method} {c : Code} {A : Nat → Prop} {E : EnvT} {aK aV : Nat → Nat} {aO : Nat} {D : va_G} {cA : Nat → ClassId} {aE ad : Nat → Nat} (C : xCx p s m args meth c cX6_takeNumber 6 (some .int) wgX6_takeNumber RX6 E D cA A) (vM : eXs aK aV aE aO E) {post : Int32 → XS → Prop}
    {k5 : Int32 → Int64 → Int32 → XS → Prop} (hk5 : ∀ (x1 : Int32) (x2 : Int64) (x4 : Int32) (σ : XS) (H : Heap) (locs : List Loc) (ls : Array Slot), xG D cA aE ad A s σ H locs → lv_has ls 6 [(0, .ref (ad 4)), (1, .int x1), (2, .long x2), (4, .int x4)] → k5 x1 x2 x4 σ → W p l e rm_X6_takeNumber s m args below meth c H locs 0 0 (MQ below (va_Qi post (xAt D cA aE ad A) A) args s 0 0 A) (F0 m 5 ls [])) :
    ∀ (x1 : Int32) (x2 : Int64) (x4 : Int32) (σ : XS) (H : Heap) (locs : List Loc) (ls : Array Slot), xG D cA aE ad A s σ H locs → lv_has ls 6 [(0, .ref (ad 4)), (1, .int x1), (2, .long x2), (4, .int x4)] → wB_X6_takeNumber_5 post k5 x1 x2 x4 σ → W p l e rm_X6_takeNumber s m args below meth c H locs 0 0 (MQ below (va_Qi post (xAt D cA aE ad A) A) args s 0 0 A) (F0 m 5 ls []) := by
  obtain ⟨hx, hb, hml, hr, hown, hts, hK, hA, hlk, hE, vE⟩ := id C
  intro x1 x2 x4 σ H locs ls hG hl hw
  obtain ⟨hP, hD, hS⟩ := id hG
  refine lv_iload hx hb dX6_takeNumber_5 (lv_at hl 3 rfl) ?_
  refine lv_aload_n hx hb dX6_takeNumber_7 rfl (lv_at hl 0 rfl) ?_
  refine va_get (D := D) (ci := 8) (v := .ref (ad 1)) (C := RX6) (T := TX6) (N := 6) hx hb hts (in_tb inX6) hown hK hP 4 rfl rfl 0 (by decide) (hts _ (List.mem_cons_of_mem _ tw_1_91)) (fun _ h9 => h9) rfl dX6_takeNumber_8 ?_
  refine va_get (D := D) (ci := 7) (v := .int (xI σ 0)) (C := RX5) (T := TX5) (N := 2) hx hb hts (in_tb inX5) hown hK hP 1 rfl rfl 1 (by decide) (hts _ (List.mem_cons_of_mem _ tw_1_47)) (fun _ h9 => h9) rfl dX6_takeNumber_11 ?_
  refine lv_icmp_ge (tgt := 69) hx hb dX6_takeNumber_14 (by decide) (fun q_ => ?_) (fun q_ => ?_)
  · have hw := hw.1 q_
    exact kB_X6_takeNumber_69 C vM x1 x2 x4 σ _ _ _ hG (lv_sub hl [0, 1, 2, 3] rfl) hw
  · have hw := hw.2 q_
    refine lv_aload_n hx hb dX6_takeNumber_17 rfl (lv_at hl 0 rfl) ?_
    refine va_get (D := D) (ci := 8) (v := .ref (ad 1)) (C := RX6) (T := TX6) (N := 6) hx hb hts (in_tb inX6) hown hK hP 4 rfl rfl 0 (by decide) (hts _ (List.mem_cons_of_mem _ tw_1_91)) (fun _ h9 => h9) rfl dX6_takeNumber_18 ?_
    refine va_get (D := D) (ci := 7) (v := .ref (ad 2)) (C := RX5) (T := TX5) (N := 2) hx hb hts (in_tb inX5) hown hK hP 1 rfl rfl 0 (by decide) (hts _ (List.mem_cons_of_mem _ tw_1_45)) (fun _ h9 => h9) rfl dX6_takeNumber_21 ?_
    refine lv_iload hx hb dX6_takeNumber_24 (lv_at hl 3 rfl) ?_
    obtain ⟨h_3, hw⟩ := hw
    refine va_cald hx hb hK hP 2 2 rfl rfl h_3 dX6_takeNumber_26 ?_
    refine xS_i (As := [.int (xA σ 0 x4.toNatClampNeg)]) (rest := []) C (met_X6_isDigit vE vM hw) (va_cwS 1 hts (TB_G (TB_3 tw_4_165 tw_4_166 tw_1_5) tw_4_167) rfl rfl rfl (by decide +kernel) ⟨by decide, by decide⟩) hP hD hS rfl hl.1 rfl (Nat.le_of_ble_eq_true rfl) dX6_takeNumber_27 ⟨by decide, by decide⟩ (fun r_4 H locs hw hP hS => ?_)
    have hG : xG D cA aE ad A s σ H locs := ⟨hP, hD, hS⟩
    refine lv_if_eq (tgt := 69) hx hb dX6_takeNumber_30 (by decide) (fun q_ => ?_) (fun q_ => ?_)
    · have hw := hw.1 q_
      exact kB_X6_takeNumber_69 C vM x1 x2 x4 σ _ _ _ hG (lv_sub hl [0, 1, 2, 3] rfl) hw
    · have hw := hw.2 q_
      refine lv_iload hx hb dX6_takeNumber_33 (lv_at hl 3 rfl) ?_
      refine lv_iload_n hx hb dX6_takeNumber_35 rfl (lv_at hl 1 rfl) ?_
      refine lv_isub hx hb dX6_takeNumber_36 ?_
      refine lv_bipush (v := 10) hx hb dX6_takeNumber_37 (by decide) ?_
      refine lv_icmp_ge (tgt := 63) hx hb dX6_takeNumber_39 (by decide) (fun q_ => ?_) (fun q_ => ?_)
      · have hw := hw.1 q_
        exact kB_X6_takeNumber_63 C vM hk5 x1 x2 x4 σ _ _ _ hG (lv_sub hl [0, 1, 2, 3] rfl) hw
      · have hw := hw.2 q_
        refine lv_lload_n hx hb dX6_takeNumber_42 rfl (lv_at hl 2 rfl) ?_
        refine lv_ldc2 (v := 10) hx hb hown (hts _ (List.mem_cons_of_mem _ tw_4_176)) dX6_takeNumber_43 ?_
        refine lv_lmul hx hb dX6_takeNumber_46 ?_
        refine lv_aload_n hx hb dX6_takeNumber_47 rfl (lv_at hl 0 rfl) ?_
        refine va_get (D := D) (ci := 8) (v := .ref (ad 1)) (C := RX6) (T := TX6) (N := 6) hx hb hts (in_tb inX6) hown hK hP 4 rfl rfl 0 (by decide) (hts _ (List.mem_cons_of_mem _ tw_1_91)) (fun _ h9 => h9) rfl dX6_takeNumber_48 ?_
        refine va_get (D := D) (ci := 7) (v := .ref (ad 2)) (C := RX5) (T := TX5) (N := 2) hx hb hts (in_tb inX5) hown hK hP 1 rfl rfl 0 (by decide) (hts _ (List.mem_cons_of_mem _ tw_1_45)) (fun _ h9 => h9) rfl dX6_takeNumber_51 ?_
        refine lv_iload hx hb dX6_takeNumber_54 (lv_at hl 3 rfl) ?_
        obtain ⟨h_7, hw⟩ := hw
        refine va_cald hx hb hK hP 2 2 rfl rfl h_7 dX6_takeNumber_56 ?_
        refine lv_bipush (v := 48) hx hb dX6_takeNumber_57 (by decide) ?_
        refine lv_isub hx hb dX6_takeNumber_59 ?_
        refine lv_i2l hx hb dX6_takeNumber_60 rfl ?_
        refine lv_ladd hx hb dX6_takeNumber_61 ?_
        refine lv_topl (fun x2_8 ex2_8 => ?_)
        have hw := hw x2_8 ex2_8
        refine lv_lstore_n (lv' := [(2, .long x2_8), (0, .ref (ad 4)), (1, .int x1), (4, .int x4)]) hx hb dX6_takeNumber_62 rfl hl (by decide) rfl (fun ls hl => ?_)
        exact kB_X6_takeNumber_63 C vM hk5 x1 x2_8 x4 σ _ _ _ hG (lv_sub hl [1, 2, 0, 3] rfl) hw
theorem kL_X6_takeNumber_5 {p : Program} {l : Launch} {e : Env} {s : State} {m : MethodId} {args : Array Value} {below : List Frame} {meth : Method} {c : Code} {A : Nat → Prop} {E : EnvT} {aK aV : Nat → Nat} {aO : Nat} {D : va_G} {cA : Nat → ClassId} {aE ad : Nat → Nat} (C : xCx p s m args meth c cX6_takeNumber 6 (some .int) wgX6_takeNumber RX6 E D cA A) (vM : eXs aK aV aE aO E) {post : Int32 → XS → Prop} :
    ∀ (n : Nat) (x1 : Int32) (x2 : Int64) (x4 : Int32) (σ : XS) (H : Heap) (locs : List Loc) (ls : Array Slot), xG D cA aE ad A s σ H locs → lv_has ls 6 [(0, .ref (ad 4)), (1, .int x1), (2, .long x2), (4, .int x4)] → wL_X6_takeNumber_5 post n x1 x2 x4 σ → W p l e rm_X6_takeNumber s m args below meth c H locs 0 0 (MQ below (va_Qi post (xAt D cA aE ad A) A) args s 0 0 A) (F0 m 5 ls []) := by
  intro n
  induction n with
  | zero => intro x1 x2 x4 σ H locs ls hG hl hw; exact hw.elim
  | succ n ih => exact kB_X6_takeNumber_5 C vM ih
set_option maxHeartbeats 4000000 in
set_option maxRecDepth 100000 in
theorem k_X6_takeNumber {p : Program} {l : Launch} {e : Env} {s : State} {m : MethodId} {args : Array Value} {below : List Frame} {meth : Method} {c : Code} {A : Nat → Prop} {E : EnvT} {aK aV : Nat → Nat} {aO : Nat} {D : va_G} {cA : Nat → ClassId} {aE ad : Nat → Nat} (C : xCx p s m args meth c cX6_takeNumber 6 (some .int) wgX6_takeNumber RX6 E D cA A) (vM : eXs aK aV aE aO E) {post : Int32 → XS → Prop} :
    ∀ (x1 : Int32) (σ : XS) (H : Heap) (locs : List Loc) (ls : Array Slot), xG D cA aE ad A s σ H locs → lv_has ls 6 [(0, .ref (ad 4)), (1, .int x1)] → wp_X6_takeNumber post x1 σ → W p l e rm_X6_takeNumber s m args below meth c H locs 0 0 (MQ below (va_Qi post (xAt D cA aE ad A) A) args s 0 0 A) (F0 m 0 ls []) := by
  obtain ⟨hx, hb, hml, hr, hown, hts, hK, hA, hlk, hE, vE⟩ := id C
  intro x1 σ H locs ls hG hl hw
  obtain ⟨hP, hD, hS⟩ := id hG
  refine lv_lconst (v := 0) hx hb dX6_takeNumber_0 (by decide) ?_
  refine lv_lstore_n (lv' := [(2, .long 0), (0, .ref (ad 4)), (1, .int x1)]) hx hb dX6_takeNumber_1 rfl hl (by decide) rfl (fun ls hl => ?_)
  refine lv_iload_n hx hb dX6_takeNumber_2 rfl (lv_at hl 2 rfl) ?_
  refine lv_istore (lv' := [(4, .int x1), (2, .long 0), (0, .ref (ad 4)), (1, .int x1)]) hx hb dX6_takeNumber_3 hl (by decide) rfl (fun ls hl => ?_)
  obtain ⟨n_, hw⟩ := hw
  exact kL_X6_takeNumber_5 C vM n_ x1 0 x1 σ _ _ _ hG (lv_sub hl [2, 3, 1, 0] rfl) hw
set_option maxHeartbeats 4000000 in
set_option maxRecDepth 100000 in
theorem met_X6_takeNumber {l : Launch} {E : EnvT} (vE : EnvOk E) {D : va_G} {cA : Nat → ClassId} {aE ad : Nat → Nat} {σ : XS} {aK aV : Nat → Nat} {aO : Nat} (vM : eXs aK aV aE aO E) {sz : Nat} {x1 : Int32} {post : Int32 → XS → Prop} (hw : wp_X6_takeNumber post x1 σ) : Met l yX6_takeNumber wgX6_takeNumber rm_X6_takeNumber (va_Pc [.ref (ad 4), .int x1] (xPre E D cA aE ad sz σ)) (va_Qi post (xAt D cA aE ad (va_A (xW cA aE ad σ) sz)) (va_A (xW cA aE ad σ) sz)) 0 0 (va_A (xW cA aE ad σ) sz) := by
  refine Met.ofW (cc := cX6_takeNumber) (maxL := 6) (ret := (some .int)) (by decide +kernel) rfl ?_
  intro p e s m args below meth c s₁ B hml hv
  obtain ⟨rfl, hsz, hP, hK, hD0, hE⟩ := hv
  subst hsz
  have hD := hD0.self (sz := s.heap.size)
  generalize hAe : va_A (xW cA aE ad σ) s.heap.size = A at hD hE ⊢
  have hA : ∀ q : Nat, s.heap.size ≤ q → A q := fun q h => by rw [← hAe]; exact Or.inr h
  have hS : va_S A s.heap s.heap [] := va_S.rf
  have C : xCx p s m _ meth c cX6_takeNumber 6 (some .int) wgX6_takeNumber RX6 E D cA A := ⟨B.exec, B.bytes, hml, B.returns, findClass_of_methodNamed B.named, atoms_spec (ws := wgX6_takeNumber) B.pre, hK, hA, B.notSynchronized, hE, vE⟩
  have hG : xG D cA aE ad A s σ s.heap [] := ⟨hP, hD, hS⟩
  have hl := lv_entry ([.ref (ad 4), .int x1]) (n := 6) (Nat.le_of_ble_eq_true rfl)
  rw [lg_entry_eq]
  generalize (lg_sl ([.ref (ad 4), .int x1]) ++ List.replicate (6 - (lg_sl ([.ref (ad 4), .int x1])).length) Slot.unset).toArray = ls at hl ⊢
  have hl : lv_has ls 6 [(0, .ref (ad 4)), (1, .int x1)] := hl
  exact k_X6_takeNumber C vM x1 σ _ _ _ hG hl hw
/-! ===== X6_scan tokens ===== -/
def rm_X6_scan : Room := { frames := 4, cells := 0, slots := 0, locals := 91 }
abbrev wgX6_scan : List Cond := .code yX6_scan cX6_scan 4 none :: TB
def wB_X6_scan_104 (post : XS → Prop) (σ : XS) : Prop :=
  wp_X6_put (fun σ_2 => post (yI σ_2 5 0)) 0 (xI σ 0) 0 σ
def wB_X6_scan_98 (post : XS → Prop) (k9 : Int32 → Int32 → XS → Prop) (x1 : Int32) (x2 : Int32) (σ : XS) : Prop :=
  ∀ x2_10 : Int32, x2_10 = x2 + 1 → k9 x1 x2_10 σ
def wB_X6_scan_95 (post : XS → Prop) (k9 : Int32 → Int32 → XS → Prop) (x1 : Int32) (x2 : Int32) (σ : XS) : Prop :=
  ∀ x1_9 : Int32, x1_9 = x1 + 1 → wB_X6_scan_98 post k9 x1_9 x2 σ
def wB_X6_scan_90 (post : XS → Prop) (k9 : Int32 → Int32 → XS → Prop) (x1 : Int32) (x2 : Int32) (t0 : Int32) (σ : XS) : Prop :=
  wp_X6_put (fun σ_14 => wB_X6_scan_95 post k9 x1 x2 σ_14) t0 x1 0 σ
def wB_X6_scan_9 (post : XS → Prop) (k9 : Int32 → Int32 → XS → Prop) (x1 : Int32) (x2 : Int32) (σ : XS) : Prop :=
  (700 ≤ x2 → (wB_X6_scan_104 post σ)) ∧ (¬ 700 ≤ x2 → (((xI σ 0) ≤ x1 → (wB_X6_scan_104 post σ)) ∧ (¬ (xI σ 0) ≤ x1 → (vp_in x1 700 ∧ (∀ x3_4 : Int32, x3_4 = xA σ 0 x1.toNatClampNeg → wp_X6_isSmall (fun r_5  => (r_5 = 0 → (wp_X6_isDigit (fun r_7  => (r_7 = 0 → ((x3_4 = 32 → (wB_X6_scan_95 post k9 x1 x2 σ)) ∧ (¬ x3_4 = 32 → (71 < nX ∧ wp_J0_indexOf_0f7a4 (fun r_11  => (r_11 < 0 → (wB_X6_scan_90 post k9 x1 x2 3 σ)) ∧ (¬ r_11 < 0 → (wB_X6_scan_90 post k9 x1 x2 x3_4 σ))) 71 x3_4)))) ∧ (¬ r_7 = 0 → (wp_X6_takeNumber (fun r_16 σ_17 => wB_X6_scan_98 post k9 r_16 x2 σ_17) x1 σ))) x3_4)) ∧ (¬ r_5 = 0 → (wp_X6_takeName (fun r_18 σ_19 => wB_X6_scan_98 post k9 r_18 x2 σ_19) x1 σ))) x3_4)))))
def wL_X6_scan_9 (post : XS → Prop) : Nat → Int32 → Int32 → XS → Prop
  | 0 => fun _ _ _ => False
  | n + 1 => wB_X6_scan_9 post (wL_X6_scan_9 post n)
def wp_X6_scan (post : XS → Prop) (σ : XS) : Prop :=
  ∃ n, wL_X6_scan_9 post n 0 0 (yI σ 4 0)
set_option maxHeartbeats 4000000 in
set_option maxRecDepth 100000 in
theorem kB_X6_scan_104 {p : Program} {l : Launch} {e : Env} {s : State} {m : MethodId} {args : Array Value} {below : List Frame} {meth : Method} {c : Code} {A : Nat → Prop} {E : EnvT} {aK aV : Nat → Nat} {aO : Nat} {D : va_G} {cA : Nat → ClassId} {aE ad : Nat → Nat} (C : xCx p s m args meth c cX6_scan 4 none wgX6_scan RX6 E D cA A) (vM : eXs aK aV aE aO E) {post : XS → Prop} :
    ∀ (σ : XS) (H : Heap) (locs : List Loc) (ls : Array Slot), xG D cA aE ad A s σ H locs → lv_has ls 4 [(0, .ref (ad 4))] → wB_X6_scan_104 post σ → W p l e rm_X6_scan s m args below meth c H locs 0 0 (MQ below (va_Qv post (xAt D cA aE ad A) A) args s 0 0 A) (F0 m 104 ls []) := by
  obtain ⟨hx, hb, hml, hr, hown, hts, hK, hA, hlk, hE, vE⟩ := id C
  intro σ H locs ls hG hl hw
  obtain ⟨hP, hD, hS⟩ := id hG
  refine lv_aload_n hx hb dX6_scan_104 rfl (lv_at hl 0 rfl) ?_
  refine lv_iconst (v := 0) hx hb dX6_scan_105 (by decide) ?_
  refine lv_aload_n hx hb dX6_scan_106 rfl (lv_at hl 0 rfl) ?_
  refine va_get (D := D) (ci := 8) (v := .ref (ad 1)) (C := RX6) (T := TX6) (N := 6) hx hb hts (in_tb inX6) hown hK hP 4 rfl rfl 0 (by decide) (hts _ (List.mem_cons_of_mem _ tw_1_91)) (fun _ h9 => h9) rfl dX6_scan_107 ?_
  refine va_get (D := D) (ci := 7) (v := .int (xI σ 0)) (C := RX5) (T := TX5) (N := 2) hx hb hts (in_tb inX5) hown hK hP 1 rfl rfl 1 (by decide) (hts _ (List.mem_cons_of_mem _ tw_1_47)) (fun _ h9 => h9) rfl dX6_scan_110 ?_
  refine lv_lconst (v := 0) hx hb dX6_scan_113 (by decide) ?_
  refine xV_v (As := [.int 0, .int (xI σ 0), .long 0]) (rest := []) C (met_X6_put vE vM hw) (va_recv hK hP (ci := 8) (q0 := 4) rfl rfl) (cwV 3 hts (TB_G (TB_4 tw_4_168 tw_4_170 ts_11 tw_1_5) tw_4_171) rfl rfl rfl (by decide +kernel) ⟨by decide, by decide⟩) hP hD hS rfl hl.1 rfl (Nat.le_of_ble_eq_true rfl) dX6_scan_114 ⟨by decide, by decide⟩ (fun σ_2 H locs hw hP hD hS => ?_)
  have hG : xG D cA aE ad A s σ_2 H locs := ⟨hP, hD, hS⟩
  refine lv_aload_n hx hb dX6_scan_117 rfl (lv_at hl 0 rfl) ?_
  refine lv_iconst (v := 0) hx hb dX6_scan_118 (by decide) ?_
  refine va_put (D := D) (ci := 8) (v := .int 0) (ty := .int) (C := RX6) (T := TX6) (N := 6) hx hb hts (in_tb inX6) tyX6 tyX6_ok nmX6 hown hK hP hD hS 4 rfl rfl 5 (by decide) (hts _ (List.mem_cons_of_mem _ tw_1_96)) (fun _ h9 => h9) rfl (by decide +kernel) rfl rfl (Nat.le_of_ble_eq_true rfl) dX6_scan_119 (fun H locs hP hD hS => ?_)
  have hG : xG D cA aE ad A s (yI σ_2 5 0) H locs := ⟨hP, hD, hS⟩
  obtain ⟨hP, hD, hS⟩ := id hG
  exact W.vret hx hb hr (fun t ht hW => ⟨⟨(yI σ_2 5 0), rfl, hw, by rw [ht]; exact hP, va_K.moved hW.alike hK, hD⟩, hS.F ht⟩) hS.2.2 dX6_scan_122 hlk
set_option maxHeartbeats 4000000 in
set_option maxRecDepth 100000 in
theorem kB_X6_scan_98 {p : Program} {l : Launch} {e : Env} {s : State} {m : MethodId} {args : Array Value} {below : List Frame} {meth : Method} {c : Code} {A : Nat → Prop} {E : EnvT} {aK aV : Nat → Nat} {aO : Nat} {D : va_G} {cA : Nat → ClassId} {aE ad : Nat → Nat} (C : xCx p s m args meth c cX6_scan 4 none wgX6_scan RX6 E D cA A) (vM : eXs aK aV aE aO E) {post : XS → Prop}
    {k9 : Int32 → Int32 → XS → Prop} (hk9 : ∀ (x1 : Int32) (x2 : Int32) (σ : XS) (H : Heap) (locs : List Loc) (ls : Array Slot), xG D cA aE ad A s σ H locs → lv_has ls 4 [(0, .ref (ad 4)), (1, .int x1), (2, .int x2)] → k9 x1 x2 σ → W p l e rm_X6_scan s m args below meth c H locs 0 0 (MQ below (va_Qv post (xAt D cA aE ad A) A) args s 0 0 A) (F0 m 9 ls [])) :
    ∀ (x1 : Int32) (x2 : Int32) (σ : XS) (H : Heap) (locs : List Loc) (ls : Array Slot), xG D cA aE ad A s σ H locs → lv_has ls 4 [(0, .ref (ad 4)), (1, .int x1), (2, .int x2)] → wB_X6_scan_98 post k9 x1 x2 σ → W p l e rm_X6_scan s m args below meth c H locs 0 0 (MQ below (va_Qv post (xAt D cA aE ad A) A) args s 0 0 A) (F0 m 98 ls []) := by
  obtain ⟨hx, hb, hml, hr, hown, hts, hK, hA, hlk, hE, vE⟩ := id C
  intro x1 x2 σ H locs ls hG hl hw
  obtain ⟨hP, hD, hS⟩ := id hG
  obtain ⟨x2_10, ex2_10⟩ : ∃ y : Int32, y = x2 + 1 := ⟨_, rfl⟩
  have hw := hw x2_10 ex2_10
  refine lv_iinc (v := x2_10) (lv' := [(2, .int x2_10), (0, .ref (ad 4)), (1, .int x1)]) hx hb dX6_scan_98 hl (k := 2) rfl (by rw [ex2_10]; rfl) (by decide) rfl (fun ls hl => ?_)
  refine lv_goto (tgt := 9) hx hb dX6_scan_101 (by decide) ?_
  exact hk9 x1 x2_10 σ _ _ _ hG (lv_sub hl [1, 2, 0] rfl) hw
set_option maxHeartbeats 4000000 in
set_option maxRecDepth 100000 in
theorem kB_X6_scan_95 {p : Program} {l : Launch} {e : Env} {s : State} {m : MethodId} {args : Array Value} {below : List Frame} {meth : Method} {c : Code} {A : Nat → Prop} {E : EnvT} {aK aV : Nat → Nat} {aO : Nat} {D : va_G} {cA : Nat → ClassId} {aE ad : Nat → Nat} (C : xCx p s m args meth c cX6_scan 4 none wgX6_scan RX6 E D cA A) (vM : eXs aK aV aE aO E) {post : XS → Prop}
    {k9 : Int32 → Int32 → XS → Prop} (hk9 : ∀ (x1 : Int32) (x2 : Int32) (σ : XS) (H : Heap) (locs : List Loc) (ls : Array Slot), xG D cA aE ad A s σ H locs → lv_has ls 4 [(0, .ref (ad 4)), (1, .int x1), (2, .int x2)] → k9 x1 x2 σ → W p l e rm_X6_scan s m args below meth c H locs 0 0 (MQ below (va_Qv post (xAt D cA aE ad A) A) args s 0 0 A) (F0 m 9 ls [])) :
    ∀ (x1 : Int32) (x2 : Int32) (σ : XS) (H : Heap) (locs : List Loc) (ls : Array Slot), xG D cA aE ad A s σ H locs → lv_has ls 4 [(0, .ref (ad 4)), (1, .int x1), (2, .int x2)] → wB_X6_scan_95 post k9 x1 x2 σ → W p l e rm_X6_scan s m args below meth c H locs 0 0 (MQ below (va_Qv post (xAt D cA aE ad A) A) args s 0 0 A) (F0 m 95 ls []) := by
  obtain ⟨hx, hb, hml, hr, hown, hts, hK, hA, hlk, hE, vE⟩ := id C
  intro x1 x2 σ H locs ls hG hl hw
  obtain ⟨hP, hD, hS⟩ := id hG
  obtain ⟨x1_9, ex1_9⟩ : ∃ y : Int32, y = x1 + 1 := ⟨_, rfl⟩
  have hw := hw x1_9 ex1_9
  refine lv_iinc (v := x1_9) (lv' := [(1, .int x1_9), (0, .ref (ad 4)), (2, .int x2)]) hx hb dX6_scan_95 hl (k := 1) rfl (by rw [ex1_9]; rfl) (by decide) rfl (fun ls hl => ?_)
  exact kB_X6_scan_98 C vM hk9 x1_9 x2 σ _ _ _ hG (lv_sub hl [1, 0, 2] rfl) hw
set_option maxHeartbeats 4000000 in
set_option maxRecDepth 100000 in
theorem kB_X6_scan_90 {p : Program} {l : Launch} {e : Env} {s : State} {m : MethodId} {args : Array Value} {below : List Frame} {meth : Method} {c : Code} {A : Nat → Prop} {E : EnvT} {aK aV : Nat → Nat} {aO : Nat} {D : va_G} {cA : Nat → ClassId} {aE ad : Nat → Nat} (C : xCx p s m args meth c cX6_scan 4 none wgX6_scan RX6 E D cA A) (vM : eXs aK aV aE aO E) {post : XS → Prop}
    {k9 : Int32 → Int32 → XS → Prop} (hk9 : ∀ (x1 : Int32) (x2 : Int32) (σ : XS) (H : Heap) (locs : List Loc) (ls : Array Slot), xG D cA aE ad A s σ H locs → lv_has ls 4 [(0, .ref (ad 4)), (1, .int x1), (2, .int x2)] → k9 x1 x2 σ → W p l e rm_X6_scan s m args below meth c H locs 0 0 (MQ below (va_Qv post (xAt D cA aE ad A) A) args s 0 0 A) (F0 m 9 ls [])) :
    ∀ (x1 : Int32) (x2 : Int32) (t0 : Int32) (σ : XS) (H : Heap) (locs : List Loc) (ls : Array Slot), xG D cA aE ad A s σ H locs → lv_has ls 4 [(0, .ref (ad 4)), (1, .int x1), (2, .int x2)] → wB_X6_scan_90 post k9 x1 x2 t0 σ → W p l e rm_X6_scan s m args below meth c H locs 0 0 (MQ below (va_Qv post (xAt D cA aE ad A) A) args s 0 0 A) (F0 m 90 ls [.int t0, .ref (ad 4)]) := by
  obtain ⟨hx, hb, hml, hr, hown, hts, hK, hA, hlk, hE, vE⟩ := id C
  intro x1 x2 t0 σ H locs ls hG hl hw
  obtain ⟨hP, hD, hS⟩ := id hG
  refine lv_iload_n hx hb dX6_scan_90 rfl (lv_at hl 1 rfl) ?_
  refine lv_lconst (v := 0) hx hb dX6_scan_91 (by decide) ?_
  refine xV_v (As := [.int t0, .int x1, .long 0]) (rest := []) C (met_X6_put vE vM hw) (va_recv hK hP (ci := 8) (q0 := 4) rfl rfl) (cwV 3 hts (TB_G (TB_4 tw_4_168 tw_4_170 ts_11 tw_1_5) tw_4_171) rfl rfl rfl (by decide +kernel) ⟨by decide, by decide⟩) hP hD hS rfl hl.1 rfl (Nat.le_of_ble_eq_true rfl) dX6_scan_92 ⟨by decide, by decide⟩ (fun σ_14 H locs hw hP hD hS => ?_)
  have hG : xG D cA aE ad A s σ_14 H locs := ⟨hP, hD, hS⟩
  exact kB_X6_scan_95 C vM hk9 x1 x2 σ_14 _ _ _ hG (lv_sub hl [0, 1, 2] rfl) hw
set_option maxHeartbeats 4000000 in
set_option maxRecDepth 100000 in
theorem kB_X6_scan_9 {p : Program} {l : Launch} {e : Env} {s : State} {m : MethodId} {args : Array Value} {below : List Frame} {meth : Method} {c : Code} {A : Nat → Prop} {E : EnvT} {aK aV : Nat → Nat} {aO : Nat} {D : va_G} {cA : Nat → ClassId} {aE ad : Nat → Nat} (C : xCx p s m args meth c cX6_scan 4 none wgX6_scan RX6 E D cA A) (vM : eXs aK aV aE aO E) {post : XS → Prop}
    {k9 : Int32 → Int32 → XS → Prop} (hk9 : ∀ (x1 : Int32) (x2 : Int32) (σ : XS) (H : Heap) (locs : List Loc) (ls : Array Slot), xG D cA aE ad A s σ H locs → lv_has ls 4 [(0, .ref (ad 4)), (1, .int x1), (2, .int x2)] → k9 x1 x2 σ → W p l e rm_X6_scan s m args below meth c H locs 0 0 (MQ below (va_Qv post (xAt D cA aE ad A) A) args s 0 0 A) (F0 m 9 ls [])) :
    ∀ (x1 : Int32) (x2 : Int32) (σ : XS) (H : Heap) (locs : List Loc) (ls : Array Slot), xG D cA aE ad A s σ H locs → lv_has ls 4 [(0, .ref (ad 4)), (1, .int x1), (2, .int x2)] → wB_X6_scan_9 post k9 x1 x2 σ → W p l e rm_X6_scan s m args below meth c H locs 0 0 (MQ below (va_Qv post (xAt D cA aE ad A) A) args s 0 0 A) (F0 m 9 ls []) := by
  obtain ⟨hx, hb, hml, hr, hown, hts, hK, hA, hlk, hE, vE⟩ := id C
  intro x1 x2 σ H locs ls hG hl hw
  obtain ⟨hP, hD, hS⟩ := id hG
  refine lv_iload_n hx hb dX6_scan_9 rfl (lv_at hl 2 rfl) ?_
  refine lv_sipush (v := 700) hx hb dX6_scan_10 (by decide) ?_
  refine lv_icmp_ge (tgt := 104) hx hb dX6_scan_13 (by decide) (fun q_ => ?_) (fun q_ => ?_)
  · have hw := hw.1 q_
    exact kB_X6_scan_104 C vM  σ _ _ _ hG (lv_sub hl [0] rfl) hw
  · have hw := hw.2 q_
    refine lv_iload_n hx hb dX6_scan_16 rfl (lv_at hl 1 rfl) ?_
    refine lv_aload_n hx hb dX6_scan_17 rfl (lv_at hl 0 rfl) ?_
    refine va_get (D := D) (ci := 8) (v := .ref (ad 1)) (C := RX6) (T := TX6) (N := 6) hx hb hts (in_tb inX6) hown hK hP 4 rfl rfl 0 (by decide) (hts _ (List.mem_cons_of_mem _ tw_1_91)) (fun _ h9 => h9) rfl dX6_scan_18 ?_
    refine va_get (D := D) (ci := 7) (v := .int (xI σ 0)) (C := RX5) (T := TX5) (N := 2) hx hb hts (in_tb inX5) hown hK hP 1 rfl rfl 1 (by decide) (hts _ (List.mem_cons_of_mem _ tw_1_47)) (fun _ h9 => h9) rfl dX6_scan_21 ?_
    refine lv_icmp_ge (tgt := 104) hx hb dX6_scan_24 (by decide) (fun q_ => ?_) (fun q_ => ?_)
    · have hw := hw.1 q_
      exact kB_X6_scan_104 C vM  σ _ _ _ hG (lv_sub hl [0] rfl) hw
    · have hw := hw.2 q_
      refine lv_aload_n hx hb dX6_scan_27 rfl (lv_at hl 0 rfl) ?_
      refine va_get (D := D) (ci := 8) (v := .ref (ad 1)) (C := RX6) (T := TX6) (N := 6) hx hb hts (in_tb inX6) hown hK hP 4 rfl rfl 0 (by decide) (hts _ (List.mem_cons_of_mem _ tw_1_91)) (fun _ h9 => h9) rfl dX6_scan_28 ?_
      refine va_get (D := D) (ci := 7) (v := .ref (ad 2)) (C := RX5) (T := TX5) (N := 2) hx hb hts (in_tb inX5) hown hK hP 1 rfl rfl 0 (by decide) (hts _ (List.mem_cons_of_mem _ tw_1_45)) (fun _ h9 => h9) rfl dX6_scan_31 ?_
      refine lv_iload_n hx hb dX6_scan_34 rfl (lv_at hl 1 rfl) ?_
      obtain ⟨h_3, hw⟩ := hw
      refine va_cald hx hb hK hP 2 2 rfl rfl h_3 dX6_scan_35 ?_
      refine lv_topi (fun x3_4 ex3_4 => ?_)
      have hw := hw x3_4 ex3_4
      refine lv_istore_n (lv' := [(3, .int x3_4), (0, .ref (ad 4)), (1, .int x1), (2, .int x2)]) hx hb dX6_scan_36 rfl hl (by decide) rfl (fun ls hl => ?_)
      refine lv_iload_n hx hb dX6_scan_37 rfl (lv_at hl 0 rfl) ?_
      refine xS_i (As := [.int x3_4]) (rest := []) C (met_X6_isSmall vE vM hw) (va_cwS 1 hts (TB_G (TB_3 tw_4_158 tw_4_159 tw_1_5) tw_4_160) rfl rfl rfl (by decide +kernel) ⟨by decide, by decide⟩) hP hD hS rfl hl.1 rfl (Nat.le_of_ble_eq_true rfl) dX6_scan_38 ⟨by decide, by decide⟩ (fun r_5 H locs hw hP hS => ?_)
      have hG : xG D cA aE ad A s σ H locs := ⟨hP, hD, hS⟩
      refine lv_if_eq (tgt := 53) hx hb dX6_scan_41 (by decide) (fun q_ => ?_) (fun q_ => ?_)
      · have hw := hw.1 q_
        refine lv_iload_n hx hb dX6_scan_53 rfl (lv_at hl 0 rfl) ?_
        refine xS_i (As := [.int x3_4]) (rest := []) C (met_X6_isDigit vE vM hw) (va_cwS 1 hts (TB_G (TB_3 tw_4_165 tw_4_166 tw_1_5) tw_4_167) rfl rfl rfl (by decide +kernel) ⟨by decide, by decide⟩) hP hD hS rfl hl.1 rfl (Nat.le_of_ble_eq_true rfl) dX6_scan_54 ⟨by decide, by decide⟩ (fun r_7 H locs hw hP hS => ?_)
        have hG : xG D cA aE ad A s σ H locs := ⟨hP, hD, hS⟩
        refine lv_if_eq (tgt := 69) hx hb dX6_scan_57 (by decide) (fun q_ => ?_) (fun q_ => ?_)
        · have hw := hw.1 q_
          refine lv_iload_n hx hb dX6_scan_69 rfl (lv_at hl 0 rfl) ?_
          refine lv_bipush (v := 32) hx hb dX6_scan_70 (by decide) ?_
          refine lv_icmp_eq (tgt := 95) hx hb dX6_scan_72 (by decide) (fun q_ => ?_) (fun q_ => ?_)
          · have hw := hw.1 q_
            exact kB_X6_scan_95 C vM hk9 x1 x2 σ _ _ _ hG (lv_sub hl [1, 2, 3] rfl) hw
          · have hw := hw.2 q_
            refine lv_aload_n hx hb dX6_scan_75 rfl (lv_at hl 1 rfl) ?_
            refine va_ldcS hx hb hown (eX.sg_6_56 (vM _ _ _ hE)) dX6_scan_76 ?_
            refine lv_iload_n hx hb dX6_scan_78 rfl (lv_at hl 0 rfl) ?_
            obtain ⟨h_15, hw⟩ := hw
            refine xO_i (As := [.int x3_4]) (rest := [.ref (ad 4)]) C (met_J0_indexOf_0f7a4 vE vM hw) (va_Orecv (eX.s_obj (vM _ _ _ hE) h_15) hS) (cwV 1 hts (TB_G (TB_4 tw_4_179 tw_2_134 tw_2_135 tw_1_11) tw_2_136) rfl rfl rfl (by decide +kernel) ⟨by decide, by decide⟩) hP hD hS rfl hl.1 rfl (Nat.le_of_ble_eq_true rfl) dX6_scan_79 ⟨by decide, by decide⟩ (fun r_11 H locs hw hP hS => ?_)
            have hG : xG D cA aE ad A s σ H locs := ⟨hP, hD, hS⟩
            refine lv_if_lt (tgt := 89) hx hb dX6_scan_82 (by decide) (fun q_ => ?_) (fun q_ => ?_)
            · have hw := hw.1 q_
              refine lv_iconst (v := 3) hx hb dX6_scan_89 (by decide) ?_
              exact kB_X6_scan_90 C vM hk9 x1 x2 3 σ _ _ _ hG (lv_sub hl [1, 2, 3] rfl) hw
            · have hw := hw.2 q_
              refine lv_iload_n hx hb dX6_scan_85 rfl (lv_at hl 0 rfl) ?_
              refine lv_goto (tgt := 90) hx hb dX6_scan_86 (by decide) ?_
              exact kB_X6_scan_90 C vM hk9 x1 x2 x3_4 σ _ _ _ hG (lv_sub hl [1, 2, 3] rfl) hw
        · have hw := hw.2 q_
          refine lv_aload_n hx hb dX6_scan_60 rfl (lv_at hl 1 rfl) ?_
          refine lv_iload_n hx hb dX6_scan_61 rfl (lv_at hl 2 rfl) ?_
          refine xV_i (As := [.int x1]) (rest := []) C (met_X6_takeNumber vE vM hw) (va_recv hK hP (ci := 8) (q0 := 4) rfl rfl) (cwV 1 hts (TB_G (TB_4 tw_4_172 tw_4_174 ts_12 tw_1_5) tw_4_175) rfl rfl rfl (by decide +kernel) ⟨by decide, by decide⟩) hP hD hS rfl hl.1 rfl (Nat.le_of_ble_eq_true rfl) dX6_scan_62 ⟨by decide, by decide⟩ (fun r_16 σ_17 H locs hw hP hD hS => ?_)
          have hG : xG D cA aE ad A s σ_17 H locs := ⟨hP, hD, hS⟩
          refine lv_istore_n (lv' := [(1, .int r_16), (3, .int x3_4), (0, .ref (ad 4)), (2, .int x2)]) hx hb dX6_scan_65 rfl hl (by decide) rfl (fun ls hl => ?_)
          refine lv_goto (tgt := 98) hx hb dX6_scan_66 (by decide) ?_
          exact kB_X6_scan_98 C vM hk9 r_16 x2 σ_17 _ _ _ hG (lv_sub hl [2, 0, 3] rfl) hw
      · have hw := hw.2 q_
        refine lv_aload_n hx hb dX6_scan_44 rfl (lv_at hl 1 rfl) ?_
        refine lv_iload_n hx hb dX6_scan_45 rfl (lv_at hl 2 rfl) ?_
        refine xV_i (As := [.int x1]) (rest := []) C (met_X6_takeName vE vM hw) (va_recv hK hP (ci := 8) (q0 := 4) rfl rfl) (cwV 1 hts (TB_G (TB_4 tw_4_161 tw_4_163 ts_10 tw_1_5) tw_4_164) rfl rfl rfl (by decide +kernel) ⟨by decide, by decide⟩) hP hD hS rfl hl.1 rfl (Nat.le_of_ble_eq_true rfl) dX6_scan_46 ⟨by decide, by decide⟩ (fun r_18 σ_19 H locs hw hP hD hS => ?_)
        have hG : xG D cA aE ad A s σ_19 H locs := ⟨hP, hD, hS⟩
        refine lv_istore_n (lv' := [(1, .int r_18), (3, .int x3_4), (0, .ref (ad 4)), (2, .int x2)]) hx hb dX6_scan_49 rfl hl (by decide) rfl (fun ls hl => ?_)
        refine lv_goto (tgt := 98) hx hb dX6_scan_50 (by decide) ?_
        exact kB_X6_scan_98 C vM hk9 r_18 x2 σ_19 _ _ _ hG (lv_sub hl [2, 0, 3] rfl) hw
theorem kL_X6_scan_9 {p : Program} {l : Launch} {e : Env} {s : State} {m : MethodId} {args : Array Value} {below : List Frame} {meth : Method} {c : Code} {A : Nat → Prop} {E : EnvT} {aK aV : Nat → Nat} {aO : Nat} {D : va_G} {cA : Nat → ClassId} {aE ad : Nat → Nat} (C : xCx p s m args meth c cX6_scan 4 none wgX6_scan RX6 E D cA A) (vM : eXs aK aV aE aO E) {post : XS → Prop} :
    ∀ (n : Nat) (x1 : Int32) (x2 : Int32) (σ : XS) (H : Heap) (locs : List Loc) (ls : Array Slot), xG D cA aE ad A s σ H locs → lv_has ls 4 [(0, .ref (ad 4)), (1, .int x1), (2, .int x2)] → wL_X6_scan_9 post n x1 x2 σ → W p l e rm_X6_scan s m args below meth c H locs 0 0 (MQ below (va_Qv post (xAt D cA aE ad A) A) args s 0 0 A) (F0 m 9 ls []) := by
  intro n
  induction n with
  | zero => intro x1 x2 σ H locs ls hG hl hw; exact hw.elim
  | succ n ih => exact kB_X6_scan_9 C vM ih
set_option maxHeartbeats 4000000 in
set_option maxRecDepth 100000 in
theorem k_X6_scan {p : Program} {l : Launch} {e : Env} {s : State} {m : MethodId} {args : Array Value} {below : List Frame} {meth : Method} {c : Code} {A : Nat → Prop} {E : EnvT} {aK aV : Nat → Nat} {aO : Nat} {D : va_G} {cA : Nat → ClassId} {aE ad : Nat → Nat} (C : xCx p s m args meth c cX6_scan 4 none wgX6_scan RX6 E D cA A) (vM : eXs aK aV aE aO E) {post : XS → Prop} :
    ∀ (σ : XS) (H : Heap) (locs : List Loc) (ls : Array Slot), xG D cA aE ad A s σ H locs → lv_has ls 4 [(0, .ref (ad 4))] → wp_X6_scan post σ → W p l e rm_X6_scan s m args below meth c H locs 0 0 (MQ below (va_Qv post (xAt D cA aE ad A) A) args s 0 0 A) (F0 m 0 ls []) := by
  obtain ⟨hx, hb, hml, hr, hown, hts, hK, hA, hlk, hE, vE⟩ := id C
  intro σ H locs ls hG hl hw
  obtain ⟨hP, hD, hS⟩ := id hG
  refine lv_aload_n hx hb dX6_scan_0 rfl (lv_at hl 0 rfl) ?_
  refine lv_iconst (v := 0) hx hb dX6_scan_1 (by decide) ?_
  refine va_put (D := D) (ci := 8) (v := .int 0) (ty := .int) (C := RX6) (T := TX6) (N := 6) hx hb hts (in_tb inX6) tyX6 tyX6_ok nmX6 hown hK hP hD hS 4 rfl rfl 4 (by decide) (hts _ (List.mem_cons_of_mem _ tw_1_95)) (fun _ h9 => h9) rfl (by decide +kernel) rfl rfl (Nat.le_of_ble_eq_true rfl) dX6_scan_2 (fun H locs hP hD hS => ?_)
  have hG : xG D cA aE ad A s (yI σ 4 0) H locs := ⟨hP, hD, hS⟩
  obtain ⟨hP, hD, hS⟩ := id hG
  refine lv_iconst (v := 0) hx hb dX6_scan_5 (by decide) ?_
  refine lv_istore_n (lv' := [(1, .int 0), (0, .ref (ad 4))]) hx hb dX6_scan_6 rfl hl (by decide) rfl (fun ls hl => ?_)
  refine lv_iconst (v := 0) hx hb dX6_scan_7 (by decide) ?_
  refine lv_istore_n (lv' := [(2, .int 0), (1, .int 0), (0, .ref (ad 4))]) hx hb dX6_scan_8 rfl hl (by decide) rfl (fun ls hl => ?_)
  obtain ⟨n_, hw⟩ := hw
  exact kL_X6_scan_9 C vM n_ 0 0 (yI σ 4 0) _ _ _ hG (lv_sub hl [2, 1, 0] rfl) hw
set_option maxHeartbeats 4000000 in
set_option maxRecDepth 100000 in
theorem met_X6_scan {l : Launch} {E : EnvT} (vE : EnvOk E) {D : va_G} {cA : Nat → ClassId} {aE ad : Nat → Nat} {σ : XS} {aK aV : Nat → Nat} {aO : Nat} (vM : eXs aK aV aE aO E) {sz : Nat} {post : XS → Prop} (hw : wp_X6_scan post σ) : Met l yX6_scan wgX6_scan rm_X6_scan (va_Pc [.ref (ad 4)] (xPre E D cA aE ad sz σ)) (va_Qv post (xAt D cA aE ad (va_A (xW cA aE ad σ) sz)) (va_A (xW cA aE ad σ) sz)) 0 0 (va_A (xW cA aE ad σ) sz) := by
  refine Met.ofW (cc := cX6_scan) (maxL := 4) (ret := none) (by decide +kernel) rfl ?_
  intro p e s m args below meth c s₁ B hml hv
  obtain ⟨rfl, hsz, hP, hK, hD0, hE⟩ := hv
  subst hsz
  have hD := hD0.self (sz := s.heap.size)
  generalize hAe : va_A (xW cA aE ad σ) s.heap.size = A at hD hE ⊢
  have hA : ∀ q : Nat, s.heap.size ≤ q → A q := fun q h => by rw [← hAe]; exact Or.inr h
  have hS : va_S A s.heap s.heap [] := va_S.rf
  have C : xCx p s m _ meth c cX6_scan 4 none wgX6_scan RX6 E D cA A := ⟨B.exec, B.bytes, hml, B.returns, findClass_of_methodNamed B.named, atoms_spec (ws := wgX6_scan) B.pre, hK, hA, B.notSynchronized, hE, vE⟩
  have hG : xG D cA aE ad A s σ s.heap [] := ⟨hP, hD, hS⟩
  have hl := lv_entry ([.ref (ad 4)]) (n := 4) (Nat.le_of_ble_eq_true rfl)
  rw [lg_entry_eq]
  generalize (lg_sl ([.ref (ad 4)]) ++ List.replicate (4 - (lg_sl ([.ref (ad 4)])).length) Slot.unset).toArray = ls at hl ⊢
  have hl : lv_has ls 4 [(0, .ref (ad 4))] := hl
  exact k_X6_scan C vM σ _ _ _ hG hl hw
/-! ===== X6_kind tokens ===== -/
def rm_X6_kind : Room := { frames := 0, cells := 0, slots := 0, locals := 0 }
abbrev wgX6_kind : List Cond := .code yX6_kind cX6_kind 1 (some .int) :: TB
def wB_X6_kind_24 (post : Int32 → XS → Prop) (t0 : Int32) (σ : XS) : Prop :=
  post t0 σ
def wp_X6_kind (post : Int32 → XS → Prop) (σ : XS) : Prop :=
  ((xI σ 4) ≤ (xI σ 5) → (wB_X6_kind_24 post 0 σ)) ∧ (¬ (xI σ 4) ≤ (xI σ 5) → (vp_in (xI σ 5) 701 ∧ (wB_X6_kind_24 post (xA σ 1 (xI σ 5).toNatClampNeg) σ)))
set_option maxHeartbeats 4000000 in
set_option maxRecDepth 100000 in
theorem kB_X6_kind_24 {p : Program} {l : Launch} {e : Env} {s : State} {m : MethodId} {args : Array Value} {below : List Frame} {meth : Method} {c : Code} {A : Nat → Prop} {E : EnvT} {aK aV : Nat → Nat} {aO : Nat} {D : va_G} {cA : Nat → ClassId} {aE ad : Nat → Nat} (C : xCx p s m args meth c cX6_kind 1 (some .int) wgX6_kind RX6 E D cA A) (vM : eXs aK aV aE aO E) {post : Int32 → XS → Prop} :
    ∀ (t0 : Int32) (σ : XS) (H : Heap) (locs : List Loc) (ls : Array Slot), xG D cA aE ad A s σ H locs → lv_has ls 1 [] → wB_X6_kind_24 post t0 σ → W p l e rm_X6_kind s m args below meth c H locs 0 0 (MQ below (va_Qi post (xAt D cA aE ad A) A) args s 0 0 A) (F0 m 24 ls [.int t0]) := by
  obtain ⟨hx, hb, hml, hr, hown, hts, hK, hA, hlk, hE, vE⟩ := id C
  intro t0 σ H locs ls hG hl hw
  obtain ⟨hP, hD, hS⟩ := id hG
  exact W.iret (v := t0) hx hb hr (fun t ht hW => ⟨⟨_, σ, rfl, hw, by rw [ht]; exact hP, va_K.moved hW.alike hK, hD⟩, hS.F ht⟩) hS.2.2 dX6_kind_24 hlk
set_option maxHeartbeats 4000000 in
set_option maxRecDepth 100000 in
theorem k_X6_kind {p : Program} {l : Launch} {e : Env} {s : State} {m : MethodId} {args : Array Value} {below : List Frame} {meth : Method} {c : Code} {A : Nat → Prop} {E : EnvT} {aK aV : Nat → Nat} {aO : Nat} {D : va_G} {cA : Nat → ClassId} {aE ad : Nat → Nat} (C : xCx p s m args meth c cX6_kind 1 (some .int) wgX6_kind RX6 E D cA A) (vM : eXs aK aV aE aO E) {post : Int32 → XS → Prop} :
    ∀ (σ : XS) (H : Heap) (locs : List Loc) (ls : Array Slot), xG D cA aE ad A s σ H locs → lv_has ls 1 [(0, .ref (ad 4))] → wp_X6_kind post σ → W p l e rm_X6_kind s m args below meth c H locs 0 0 (MQ below (va_Qi post (xAt D cA aE ad A) A) args s 0 0 A) (F0 m 0 ls []) := by
  obtain ⟨hx, hb, hml, hr, hown, hts, hK, hA, hlk, hE, vE⟩ := id C
  intro σ H locs ls hG hl hw
  obtain ⟨hP, hD, hS⟩ := id hG
  refine lv_aload_n hx hb dX6_kind_0 rfl (lv_at hl 0 rfl) ?_
  refine va_get (D := D) (ci := 8) (v := .int (xI σ 5)) (C := RX6) (T := TX6) (N := 6) hx hb hts (in_tb inX6) hown hK hP 4 rfl rfl 5 (by decide) (hts _ (List.mem_cons_of_mem _ tw_1_96)) (fun _ h9 => h9) rfl dX6_kind_1 ?_
  refine lv_aload_n hx hb dX6_kind_4 rfl (lv_at hl 0 rfl) ?_
  refine va_get (D := D) (ci := 8) (v := .int (xI σ 4)) (C := RX6) (T := TX6) (N := 6) hx hb hts (in_tb inX6) hown hK hP 4 rfl rfl 4 (by decide) (hts _ (List.mem_cons_of_mem _ tw_1_95)) (fun _ h9 => h9) rfl dX6_kind_5 ?_
  refine lv_icmp_ge (tgt := 23) hx hb dX6_kind_8 (by decide) (fun q_ => ?_) (fun q_ => ?_)
  · have hw := hw.1 q_
    refine lv_iconst (v := 0) hx hb dX6_kind_23 (by decide) ?_
    exact kB_X6_kind_24 C vM 0 σ _ _ _ hG (lv_sub hl [] rfl) hw
  · have hw := hw.2 q_
    refine lv_aload_n hx hb dX6_kind_11 rfl (lv_at hl 0 rfl) ?_
    refine va_get (D := D) (ci := 8) (v := .ref (ad 5)) (C := RX6) (T := TX6) (N := 6) hx hb hts (in_tb inX6) hown hK hP 4 rfl rfl 1 (by decide) (hts _ (List.mem_cons_of_mem _ tw_1_92)) (fun _ h9 => h9) rfl dX6_kind_12 ?_
    refine lv_aload_n hx hb dX6_kind_15 rfl (lv_at hl 0 rfl) ?_
    refine va_get (D := D) (ci := 8) (v := .int (xI σ 5)) (C := RX6) (T := TX6) (N := 6) hx hb hts (in_tb inX6) hown hK hP 4 rfl rfl 5 (by decide) (hts _ (List.mem_cons_of_mem _ tw_1_96)) (fun _ h9 => h9) rfl dX6_kind_16 ?_
    obtain ⟨h_1, hw⟩ := hw
    refine va_iald hx hb hK hP 5 0 rfl rfl h_1 dX6_kind_19 ?_
    refine lv_goto (tgt := 24) hx hb dX6_kind_20 (by decide) ?_
    exact kB_X6_kind_24 C vM (xA σ 1 (xI σ 5).toNatClampNeg) σ _ _ _ hG (lv_sub hl [] rfl) hw
set_option maxHeartbeats 4000000 in
set_option maxRecDepth 100000 in
theorem met_X6_kind {l : Launch} {E : EnvT} (vE : EnvOk E) {D : va_G} {cA : Nat → ClassId} {aE ad : Nat → Nat} {σ : XS} {aK aV : Nat → Nat} {aO : Nat} (vM : eXs aK aV aE aO E) {sz : Nat} {post : Int32 → XS → Prop} (hw : wp_X6_kind post σ) : Met l yX6_kind wgX6_kind rm_X6_kind (va_Pc [.ref (ad 4)] (xPre E D cA aE ad sz σ)) (va_Qi post (xAt D cA aE ad (va_A (xW cA aE ad σ) sz)) (va_A (xW cA aE ad σ) sz)) 0 0 (va_A (xW cA aE ad σ) sz) := by
  refine Met.ofW (cc := cX6_kind) (maxL := 1) (ret := (some .int)) (by decide +kernel) rfl ?_
  intro p e s m args below meth c s₁ B hml hv
  obtain ⟨rfl, hsz, hP, hK, hD0, hE⟩ := hv
  subst hsz
  have hD := hD0.self (sz := s.heap.size)
  generalize hAe : va_A (xW cA aE ad σ) s.heap.size = A at hD hE ⊢
  have hA : ∀ q : Nat, s.heap.size ≤ q → A q := fun q h => by rw [← hAe]; exact Or.inr h
  have hS : va_S A s.heap s.heap [] := va_S.rf
  have C : xCx p s m _ meth c cX6_kind 1 (some .int) wgX6_kind RX6 E D cA A := ⟨B.exec, B.bytes, hml, B.returns, findClass_of_methodNamed B.named, atoms_spec (ws := wgX6_kind) B.pre, hK, hA, B.notSynchronized, hE, vE⟩
  have hG : xG D cA aE ad A s σ s.heap [] := ⟨hP, hD, hS⟩
  have hl := lv_entry ([.ref (ad 4)]) (n := 1) (Nat.le_of_ble_eq_true rfl)
  rw [lg_entry_eq]
  generalize (lg_sl ([.ref (ad 4)]) ++ List.replicate (1 - (lg_sl ([.ref (ad 4)])).length) Slot.unset).toArray = ls at hl ⊢
  have hl : lv_has ls 1 [(0, .ref (ad 4))] := hl
  exact k_X6_kind C vM σ _ _ _ hG hl hw
