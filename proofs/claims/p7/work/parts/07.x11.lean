/-! ===== X3_parse parser ===== -/
def rm_X3_parse : Room := { frames := 6, cells := 0, slots := 0, locals := 133 }
abbrev wgX3_parse : List Cond := .code yX3_parse cX3_parse 3 (some .boolean) :: TB
def wB_X3_parse_86 (post : Int32 → XS → Prop) (t0 : Int32) (σ : XS) : Prop :=
  isB t0 ∧ (post t0 σ)
def wB_X3_parse_74 (post : Int32 → XS → Prop) (σ : XS) : Prop :=
  ((xI σ 2) = 0 → (wB_X3_parse_86 post 1 σ)) ∧ (¬ (xI σ 2) = 0 → (wB_X3_parse_86 post 0 σ))
def wB_X3_parse_66 (post : Int32 → XS → Prop) (x1 : Int32) (σ : XS) : Prop :=
  (x1 = 0 → (wB_X3_parse_74 post σ)) ∧ (¬ x1 = 0 → (wp_X3_fillAmounts (fun σ_5 => wB_X3_parse_74 post σ_5) σ))
def wB_X3_parse_34 (post : Int32 → XS → Prop) (k34 : Int32 → Int32 → XS → Prop) (x1 : Int32) (x2 : Int32) (σ : XS) : Prop :=
  (700 ≤ x2 → (wB_X3_parse_66 post x1 σ)) ∧ (¬ 700 ≤ x2 → ((x1 = 0 → (wB_X3_parse_66 post x1 σ)) ∧ (¬ x1 = 0 → (wp_X6_kind (fun r_6 σ_7 => (r_6 = 0 → (wB_X3_parse_66 post x1 σ_7)) ∧ (¬ r_6 = 0 → (wp_X3_takeStatement (fun r_8 σ_9 => ∀ x2_10 : Int32, x2_10 = x2 + 1 → k34 r_8 x2_10 σ_9) σ_7))) σ))))
def wL_X3_parse_34 (post : Int32 → XS → Prop) : Nat → Int32 → Int32 → XS → Prop
  | 0 => fun _ _ _ => False
  | n + 1 => wB_X3_parse_34 post (wL_X3_parse_34 post n)
def wp_X3_parse (post : Int32 → XS → Prop) (σ : XS) : Prop :=
  wp_X6_scan (fun σ_2 => ∃ n, wL_X3_parse_34 post n 1 0 σ_2) (yI (yI (yI (yI σ 1 0) 6 0) 2 0) 3 0)
set_option maxHeartbeats 4000000 in
set_option maxRecDepth 100000 in
theorem kB_X3_parse_86 {p : Program} {l : Launch} {e : Env} {s : State} {m : MethodId} {args : Array Value} {below : List Frame} {meth : Method} {c : Code} {A : Nat → Prop} {E : EnvT} {aK aV : Nat → Nat} {aO : Nat} {D : va_G} {cA : Nat → ClassId} {aE ad : Nat → Nat} (C : xCx p s m args meth c cX3_parse 3 (some .boolean) wgX3_parse RX3 E D cA A) (vM : eXs aK aV aE aO E) {post : Int32 → XS → Prop} :
    ∀ (t0 : Int32) (σ : XS) (H : Heap) (locs : List Loc) (ls : Array Slot), xG D cA aE ad A s σ H locs → lv_has ls 3 [] → wB_X3_parse_86 post t0 σ → W p l e rm_X3_parse s m args below meth c H locs 0 0 (MQ below (va_Qi post (xAt D cA aE ad A) A) args s 0 0 A) (F0 m 86 ls [.int t0]) := by
  obtain ⟨hx, hb, hml, hr, hown, hts, hK, hA, hlk, hE, vE⟩ := id C
  intro t0 σ H locs ls hG hl hw
  obtain ⟨hP, hD, hS⟩ := id hG
  obtain ⟨h_3, hw⟩ := hw
  exact W.zret (v := t0) (ty := .boolean) hx hb hr (isB.n h_3) (fun t ht hW => ⟨⟨_, σ, rfl, hw, by rw [ht]; exact hP, va_K.moved hW.alike hK, hD⟩, hS.F ht⟩) hS.2.2 dX3_parse_86 hlk
set_option maxHeartbeats 4000000 in
set_option maxRecDepth 100000 in
theorem kB_X3_parse_74 {p : Program} {l : Launch} {e : Env} {s : State} {m : MethodId} {args : Array Value} {below : List Frame} {meth : Method} {c : Code} {A : Nat → Prop} {E : EnvT} {aK aV : Nat → Nat} {aO : Nat} {D : va_G} {cA : Nat → ClassId} {aE ad : Nat → Nat} (C : xCx p s m args meth c cX3_parse 3 (some .boolean) wgX3_parse RX3 E D cA A) (vM : eXs aK aV aE aO E) {post : Int32 → XS → Prop} :
    ∀ (σ : XS) (H : Heap) (locs : List Loc) (ls : Array Slot), xG D cA aE ad A s σ H locs → lv_has ls 3 [(0, .ref (ad 3))] → wB_X3_parse_74 post σ → W p l e rm_X3_parse s m args below meth c H locs 0 0 (MQ below (va_Qi post (xAt D cA aE ad A) A) args s 0 0 A) (F0 m 74 ls []) := by
  obtain ⟨hx, hb, hml, hr, hown, hts, hK, hA, hlk, hE, vE⟩ := id C
  intro σ H locs ls hG hl hw
  obtain ⟨hP, hD, hS⟩ := id hG
  refine lv_aload_n hx hb dX3_parse_74 rfl (lv_at hl 0 rfl) ?_
  refine va_get (D := D) (ci := 5) (v := .int (xI σ 2)) (C := RX3) (T := TX3) (N := 8) hx hb hts (in_tb inX3) hown hK hP 3 rfl rfl 6 (by decide) (hts _ (List.mem_cons_of_mem _ tw_1_119)) (fun _ h9 => h9) rfl dX3_parse_75 ?_
  refine lv_if_ne (tgt := 85) hx hb dX3_parse_78 (by decide) (fun q_ => ?_) (fun q_ => ?_)
  · have hw := hw.2 q_
    refine lv_iconst (v := 0) hx hb dX3_parse_85 (by decide) ?_
    exact kB_X3_parse_86 C vM 0 σ _ _ _ hG (lv_sub hl [] rfl) hw
  · have hw := hw.1 q_
    refine lv_iconst (v := 1) hx hb dX3_parse_81 (by decide) ?_
    refine lv_goto (tgt := 86) hx hb dX3_parse_82 (by decide) ?_
    exact kB_X3_parse_86 C vM 1 σ _ _ _ hG (lv_sub hl [] rfl) hw
set_option maxHeartbeats 4000000 in
set_option maxRecDepth 100000 in
theorem kB_X3_parse_66 {p : Program} {l : Launch} {e : Env} {s : State} {m : MethodId} {args : Array Value} {below : List Frame} {meth : Method} {c : Code} {A : Nat → Prop} {E : EnvT} {aK aV : Nat → Nat} {aO : Nat} {D : va_G} {cA : Nat → ClassId} {aE ad : Nat → Nat} (C : xCx p s m args meth c cX3_parse 3 (some .boolean) wgX3_parse RX3 E D cA A) (vM : eXs aK aV aE aO E) {post : Int32 → XS → Prop} :
    ∀ (x1 : Int32) (σ : XS) (H : Heap) (locs : List Loc) (ls : Array Slot), xG D cA aE ad A s σ H locs → lv_has ls 3 [(0, .ref (ad 3)), (1, .int x1)] → wB_X3_parse_66 post x1 σ → W p l e rm_X3_parse s m args below meth c H locs 0 0 (MQ below (va_Qi post (xAt D cA aE ad A) A) args s 0 0 A) (F0 m 66 ls []) := by
  obtain ⟨hx, hb, hml, hr, hown, hts, hK, hA, hlk, hE, vE⟩ := id C
  intro x1 σ H locs ls hG hl hw
  obtain ⟨hP, hD, hS⟩ := id hG
  refine lv_iload_n hx hb dX3_parse_66 rfl (lv_at hl 1 rfl) ?_
  refine lv_if_eq (tgt := 74) hx hb dX3_parse_67 (by decide) (fun q_ => ?_) (fun q_ => ?_)
  · have hw := hw.1 q_
    exact kB_X3_parse_74 C vM  σ _ _ _ hG (lv_sub hl [0] rfl) hw
  · have hw := hw.2 q_
    refine lv_aload_n hx hb dX3_parse_70 rfl (lv_at hl 0 rfl) ?_
    refine xV_v (As := []) (rest := []) C (met_X3_fillAmounts vE vM hw) (va_recv hK hP (ci := 5) (q0 := 3) rfl rfl) (cwV 0 hts (TB_G (TB_4 tw_5_49 tw_5_51 ts_26 tw_1_3) tw_5_52) rfl rfl rfl (by decide +kernel) ⟨by decide, by decide⟩) hP hD hS rfl hl.1 rfl (Nat.le_of_ble_eq_true rfl) dX3_parse_71 ⟨by decide, by decide⟩ (fun σ_5 H locs hw hP hD hS => ?_)
    have hG : xG D cA aE ad A s σ_5 H locs := ⟨hP, hD, hS⟩
    exact kB_X3_parse_74 C vM  σ_5 _ _ _ hG (lv_sub hl [0] rfl) hw
set_option maxHeartbeats 4000000 in
set_option maxRecDepth 100000 in
theorem kB_X3_parse_34 {p : Program} {l : Launch} {e : Env} {s : State} {m : MethodId} {args : Array Value} {below : List Frame} {meth : Method} {c : Code} {A : Nat → Prop} {E : EnvT} {aK aV : Nat → Nat} {aO : Nat} {D : va_G} {cA : Nat → ClassId} {aE ad : Nat → Nat} (C : xCx p s m args meth c cX3_parse 3 (some .boolean) wgX3_parse RX3 E D cA A) (vM : eXs aK aV aE aO E) {post : Int32 → XS → Prop}
    {k34 : Int32 → Int32 → XS → Prop} (hk34 : ∀ (x1 : Int32) (x2 : Int32) (σ : XS) (H : Heap) (locs : List Loc) (ls : Array Slot), xG D cA aE ad A s σ H locs → lv_has ls 3 [(0, .ref (ad 3)), (1, .int x1), (2, .int x2)] → k34 x1 x2 σ → W p l e rm_X3_parse s m args below meth c H locs 0 0 (MQ below (va_Qi post (xAt D cA aE ad A) A) args s 0 0 A) (F0 m 34 ls [])) :
    ∀ (x1 : Int32) (x2 : Int32) (σ : XS) (H : Heap) (locs : List Loc) (ls : Array Slot), xG D cA aE ad A s σ H locs → lv_has ls 3 [(0, .ref (ad 3)), (1, .int x1), (2, .int x2)] → wB_X3_parse_34 post k34 x1 x2 σ → W p l e rm_X3_parse s m args below meth c H locs 0 0 (MQ below (va_Qi post (xAt D cA aE ad A) A) args s 0 0 A) (F0 m 34 ls []) := by
  obtain ⟨hx, hb, hml, hr, hown, hts, hK, hA, hlk, hE, vE⟩ := id C
  intro x1 x2 σ H locs ls hG hl hw
  obtain ⟨hP, hD, hS⟩ := id hG
  refine lv_iload_n hx hb dX3_parse_34 rfl (lv_at hl 2 rfl) ?_
  refine lv_sipush (v := 700) hx hb dX3_parse_35 (by decide) ?_
  refine lv_icmp_ge (tgt := 66) hx hb dX3_parse_38 (by decide) (fun q_ => ?_) (fun q_ => ?_)
  · have hw := hw.1 q_
    exact kB_X3_parse_66 C vM x1 σ _ _ _ hG (lv_sub hl [0, 1] rfl) hw
  · have hw := hw.2 q_
    refine lv_iload_n hx hb dX3_parse_41 rfl (lv_at hl 1 rfl) ?_
    refine lv_if_eq (tgt := 66) hx hb dX3_parse_42 (by decide) (fun q_ => ?_) (fun q_ => ?_)
    · have hw := hw.1 q_
      exact kB_X3_parse_66 C vM x1 σ _ _ _ hG (lv_sub hl [0, 1] rfl) hw
    · have hw := hw.2 q_
      refine lv_aload_n hx hb dX3_parse_45 rfl (lv_at hl 0 rfl) ?_
      refine va_get (D := D) (ci := 5) (v := .ref (ad 4)) (C := RX3) (T := TX3) (N := 8) hx hb hts (in_tb inX3) hown hK hP 3 rfl rfl 0 (by decide) (hts _ (List.mem_cons_of_mem _ tw_1_110)) (fun _ h9 => h9) rfl dX3_parse_46 ?_
      refine xV_i (As := []) (rest := []) C (met_X6_kind vE vM hw) (va_recv hK hP (ci := 8) (q0 := 4) rfl rfl) (cwV 0 hts (TB_G (TB_4 tw_4_180 tw_4_181 tw_4_182 tw_1_5) tw_4_183) rfl rfl rfl (by decide +kernel) ⟨by decide, by decide⟩) hP hD hS rfl hl.1 rfl (Nat.le_of_ble_eq_true rfl) dX3_parse_49 ⟨by decide, by decide⟩ (fun r_6 σ_7 H locs hw hP hD hS => ?_)
      have hG : xG D cA aE ad A s σ_7 H locs := ⟨hP, hD, hS⟩
      refine lv_if_eq (tgt := 66) hx hb dX3_parse_52 (by decide) (fun q_ => ?_) (fun q_ => ?_)
      · have hw := hw.1 q_
        exact kB_X3_parse_66 C vM x1 σ_7 _ _ _ hG (lv_sub hl [0, 1] rfl) hw
      · have hw := hw.2 q_
        refine lv_aload_n hx hb dX3_parse_55 rfl (lv_at hl 0 rfl) ?_
        refine xV_i (As := []) (rest := []) C (met_X3_takeStatement vE vM hw) (va_recv hK hP (ci := 5) (q0 := 3) rfl rfl) (cwV 0 hts (TB_G (TB_4 tw_4_184 tw_4_186 ts_13 tw_1_3) tw_4_187) rfl rfl rfl (by decide +kernel) ⟨by decide, by decide⟩) hP hD hS rfl hl.1 rfl (Nat.le_of_ble_eq_true rfl) dX3_parse_56 ⟨by decide, by decide⟩ (fun r_8 σ_9 H locs hw hP hD hS => ?_)
        have hG : xG D cA aE ad A s σ_9 H locs := ⟨hP, hD, hS⟩
        refine lv_istore_n (lv' := [(1, .int r_8), (0, .ref (ad 3)), (2, .int x2)]) hx hb dX3_parse_59 rfl hl (by decide) rfl (fun ls hl => ?_)
        obtain ⟨x2_10, ex2_10⟩ : ∃ y : Int32, y = x2 + 1 := ⟨_, rfl⟩
        have hw := hw x2_10 ex2_10
        refine lv_iinc (v := x2_10) (lv' := [(2, .int x2_10), (1, .int r_8), (0, .ref (ad 3))]) hx hb dX3_parse_60 hl (k := 2) rfl (by rw [ex2_10]; rfl) (by decide) rfl (fun ls hl => ?_)
        refine lv_goto (tgt := 34) hx hb dX3_parse_63 (by decide) ?_
        exact hk34 r_8 x2_10 σ_9 _ _ _ hG (lv_sub hl [2, 1, 0] rfl) hw
theorem kL_X3_parse_34 {p : Program} {l : Launch} {e : Env} {s : State} {m : MethodId} {args : Array Value} {below : List Frame} {meth : Method} {c : Code} {A : Nat → Prop} {E : EnvT} {aK aV : Nat → Nat} {aO : Nat} {D : va_G} {cA : Nat → ClassId} {aE ad : Nat → Nat} (C : xCx p s m args meth c cX3_parse 3 (some .boolean) wgX3_parse RX3 E D cA A) (vM : eXs aK aV aE aO E) {post : Int32 → XS → Prop} :
    ∀ (n : Nat) (x1 : Int32) (x2 : Int32) (σ : XS) (H : Heap) (locs : List Loc) (ls : Array Slot), xG D cA aE ad A s σ H locs → lv_has ls 3 [(0, .ref (ad 3)), (1, .int x1), (2, .int x2)] → wL_X3_parse_34 post n x1 x2 σ → W p l e rm_X3_parse s m args below meth c H locs 0 0 (MQ below (va_Qi post (xAt D cA aE ad A) A) args s 0 0 A) (F0 m 34 ls []) := by
  intro n
  induction n with
  | zero => intro x1 x2 σ H locs ls hG hl hw; exact hw.elim
  | succ n ih => exact kB_X3_parse_34 C vM ih
set_option maxHeartbeats 4000000 in
set_option maxRecDepth 100000 in
theorem k_X3_parse {p : Program} {l : Launch} {e : Env} {s : State} {m : MethodId} {args : Array Value} {below : List Frame} {meth : Method} {c : Code} {A : Nat → Prop} {E : EnvT} {aK aV : Nat → Nat} {aO : Nat} {D : va_G} {cA : Nat → ClassId} {aE ad : Nat → Nat} (C : xCx p s m args meth c cX3_parse 3 (some .boolean) wgX3_parse RX3 E D cA A) (vM : eXs aK aV aE aO E) {post : Int32 → XS → Prop} :
    ∀ (σ : XS) (H : Heap) (locs : List Loc) (ls : Array Slot), xG D cA aE ad A s σ H locs → lv_has ls 3 [(0, .ref (ad 3))] → wp_X3_parse post σ → W p l e rm_X3_parse s m args below meth c H locs 0 0 (MQ below (va_Qi post (xAt D cA aE ad A) A) args s 0 0 A) (F0 m 0 ls []) := by
  obtain ⟨hx, hb, hml, hr, hown, hts, hK, hA, hlk, hE, vE⟩ := id C
  intro σ H locs ls hG hl hw
  obtain ⟨hP, hD, hS⟩ := id hG
  refine lv_aload_n hx hb dX3_parse_0 rfl (lv_at hl 0 rfl) ?_
  refine lv_iconst (v := 0) hx hb dX3_parse_1 (by decide) ?_
  refine va_put (D := D) (ci := 5) (v := .int 0) (ty := .int) (C := RX3) (T := TX3) (N := 8) hx hb hts (in_tb inX3) tyX3 tyX3_ok nmX3 hown hK hP hD hS 3 rfl rfl 5 (by decide) (hts _ (List.mem_cons_of_mem _ tw_1_117)) (fun _ h9 => h9) rfl (by decide +kernel) rfl rfl (Nat.le_of_ble_eq_true rfl) dX3_parse_2 (fun H locs hP hD hS => ?_)
  have hG : xG D cA aE ad A s (yI σ 1 0) H locs := ⟨hP, hD, hS⟩
  obtain ⟨hP, hD, hS⟩ := id hG
  refine lv_aload_n hx hb dX3_parse_5 rfl (lv_at hl 0 rfl) ?_
  refine va_get (D := D) (ci := 5) (v := .ref (ad 10)) (C := RX3) (T := TX3) (N := 8) hx hb hts (in_tb inX3) hown hK hP 3 rfl rfl 3 (by decide) (hts _ (List.mem_cons_of_mem _ tw_1_113)) (fun _ h9 => h9) rfl dX3_parse_6 ?_
  refine lv_iconst (v := 0) hx hb dX3_parse_9 (by decide) ?_
  refine va_put (D := D) (ci := 3) (v := .int 0) (ty := .int) (C := RX1) (T := TX1) (N := 3) hx hb hts (in_tb inX1) tyX1 tyX1_ok nmX1 hown hK hP hD hS 10 rfl rfl 2 (by decide) (hts _ (List.mem_cons_of_mem _ tw_1_74)) (fun _ h9 => h9) rfl (by decide +kernel) rfl rfl (Nat.le_of_ble_eq_true rfl) dX3_parse_10 (fun H locs hP hD hS => ?_)
  have hG : xG D cA aE ad A s (yI (yI σ 1 0) 6 0) H locs := ⟨hP, hD, hS⟩
  obtain ⟨hP, hD, hS⟩ := id hG
  refine lv_aload_n hx hb dX3_parse_13 rfl (lv_at hl 0 rfl) ?_
  refine lv_iconst (v := 0) hx hb dX3_parse_14 (by decide) ?_
  refine va_put (D := D) (ci := 5) (v := .int 0) (ty := .int) (C := RX3) (T := TX3) (N := 8) hx hb hts (in_tb inX3) tyX3 tyX3_ok nmX3 hown hK hP hD hS 3 rfl rfl 6 (by decide) (hts _ (List.mem_cons_of_mem _ tw_1_119)) (fun _ h9 => h9) rfl (by decide +kernel) rfl rfl (Nat.le_of_ble_eq_true rfl) dX3_parse_15 (fun H locs hP hD hS => ?_)
  have hG : xG D cA aE ad A s (yI (yI (yI σ 1 0) 6 0) 2 0) H locs := ⟨hP, hD, hS⟩
  obtain ⟨hP, hD, hS⟩ := id hG
  refine lv_aload_n hx hb dX3_parse_18 rfl (lv_at hl 0 rfl) ?_
  refine lv_iconst (v := 0) hx hb dX3_parse_19 (by decide) ?_
  refine va_put (D := D) (ci := 5) (v := .int 0) (ty := .int) (C := RX3) (T := TX3) (N := 8) hx hb hts (in_tb inX3) tyX3 tyX3_ok nmX3 hown hK hP hD hS 3 rfl rfl 7 (by decide) (hts _ (List.mem_cons_of_mem _ tw_1_121)) (fun _ h9 => h9) rfl (by decide +kernel) rfl rfl (Nat.le_of_ble_eq_true rfl) dX3_parse_20 (fun H locs hP hD hS => ?_)
  have hG : xG D cA aE ad A s (yI (yI (yI (yI σ 1 0) 6 0) 2 0) 3 0) H locs := ⟨hP, hD, hS⟩
  obtain ⟨hP, hD, hS⟩ := id hG
  refine lv_aload_n hx hb dX3_parse_23 rfl (lv_at hl 0 rfl) ?_
  refine va_get (D := D) (ci := 5) (v := .ref (ad 4)) (C := RX3) (T := TX3) (N := 8) hx hb hts (in_tb inX3) hown hK hP 3 rfl rfl 0 (by decide) (hts _ (List.mem_cons_of_mem _ tw_1_110)) (fun _ h9 => h9) rfl dX3_parse_24 ?_
  refine xV_v (As := []) (rest := []) C (met_X6_scan vE vM hw) (va_recv hK hP (ci := 8) (q0 := 4) rfl rfl) (cwV 0 hts (TB_G (TB_4 tw_4_154 tw_4_155 tw_4_156 tw_1_5) tw_4_157) rfl rfl rfl (by decide +kernel) ⟨by decide, by decide⟩) hP hD hS rfl hl.1 rfl (Nat.le_of_ble_eq_true rfl) dX3_parse_27 ⟨by decide, by decide⟩ (fun σ_2 H locs hw hP hD hS => ?_)
  have hG : xG D cA aE ad A s σ_2 H locs := ⟨hP, hD, hS⟩
  refine lv_iconst (v := 1) hx hb dX3_parse_30 (by decide) ?_
  refine lv_istore_n (lv' := [(1, .int 1), (0, .ref (ad 3))]) hx hb dX3_parse_31 rfl hl (by decide) rfl (fun ls hl => ?_)
  refine lv_iconst (v := 0) hx hb dX3_parse_32 (by decide) ?_
  refine lv_istore_n (lv' := [(2, .int 0), (1, .int 1), (0, .ref (ad 3))]) hx hb dX3_parse_33 rfl hl (by decide) rfl (fun ls hl => ?_)
  obtain ⟨n_, hw⟩ := hw
  exact kL_X3_parse_34 C vM n_ 1 0 σ_2 _ _ _ hG (lv_sub hl [2, 1, 0] rfl) hw
set_option maxHeartbeats 4000000 in
set_option maxRecDepth 100000 in
theorem met_X3_parse {l : Launch} {E : EnvT} (vE : EnvOk E) {D : va_G} {cA : Nat → ClassId} {aE ad : Nat → Nat} {σ : XS} {aK aV : Nat → Nat} {aO : Nat} (vM : eXs aK aV aE aO E) {sz : Nat} {post : Int32 → XS → Prop} (hw : wp_X3_parse post σ) : Met l yX3_parse wgX3_parse rm_X3_parse (va_Pc [.ref (ad 3)] (xPre E D cA aE ad sz σ)) (va_Qi post (xAt D cA aE ad (va_A (xW cA aE ad σ) sz)) (va_A (xW cA aE ad σ) sz)) 0 0 (va_A (xW cA aE ad σ) sz) := by
  refine Met.ofW (cc := cX3_parse) (maxL := 3) (ret := (some .boolean)) (by decide +kernel) rfl ?_
  intro p e s m args below meth c s₁ B hml hv
  obtain ⟨rfl, hsz, hP, hK, hD0, hE⟩ := hv
  subst hsz
  have hD := hD0.self (sz := s.heap.size)
  generalize hAe : va_A (xW cA aE ad σ) s.heap.size = A at hD hE ⊢
  have hA : ∀ q : Nat, s.heap.size ≤ q → A q := fun q h => by rw [← hAe]; exact Or.inr h
  have hS : va_S A s.heap s.heap [] := va_S.rf
  have C : xCx p s m _ meth c cX3_parse 3 (some .boolean) wgX3_parse RX3 E D cA A := ⟨B.exec, B.bytes, hml, B.returns, findClass_of_methodNamed B.named, atoms_spec (ws := wgX3_parse) B.pre, hK, hA, B.notSynchronized, hE, vE⟩
  have hG : xG D cA aE ad A s σ s.heap [] := ⟨hP, hD, hS⟩
  have hl := lv_entry ([.ref (ad 3)]) (n := 3) (Nat.le_of_ble_eq_true rfl)
  rw [lg_entry_eq]
  generalize (lg_sl ([.ref (ad 3)]) ++ List.replicate (3 - (lg_sl ([.ref (ad 3)])).length) Slot.unset).toArray = ls at hl ⊢
  have hl : lv_has ls 3 [(0, .ref (ad 3))] := hl
  exact k_X3_parse C vM σ _ _ _ hG hl hw
/-! ===== X7_first ways ===== -/
def rm_X7_first : Room := { frames := 2, cells := 0, slots := 0, locals := 43 }
abbrev wgX7_first : List Cond := .code yX7_first cX7_first 2 (some .int) :: TB
def wB_X7_first_23 (post : Int32 → XS → Prop) (σ : XS) : Prop :=
  post (-1) σ
def wB_X7_first_92 (post : Int32 → XS → Prop) (t0 : Int32) (σ : XS) : Prop :=
  post t0 σ
def wB_X7_first_89 (post : Int32 → XS → Prop) (x1 : Int32) (σ : XS) : Prop :=
  wB_X7_first_92 post (x1 + 1) σ
def wp_X7_first (post : Int32 → XS → Prop) (x1 : Int32) (σ : XS) : Prop :=
  wp_X0_has (fun r_1 σ_2 => (r_1 = 0 → (wB_X7_first_23 post σ_2)) ∧ (¬ r_1 = 0 → (vp_in x1 64 ∧ ((xQ σ_2 1 x1.toNatClampNeg = none → (wB_X7_first_23 post σ_2)) ∧ (∀ e_4 : Nat, xQ σ_2 1 x1.toNatClampNeg = some e_4 → (vp_in x1 64 ∧ ((xQ σ_2 1 x1.toNatClampNeg = none → (False)) ∧ (∀ e_7 : Nat, xQ σ_2 1 x1.toNatClampNeg = some e_7 → (e_7 < 53 ∧ wp_X2_isJump (fun r_9  => (r_9 = 0 → (vp_in x1 64 ∧ ((xQ σ_2 1 x1.toNatClampNeg = none → (False)) ∧ (∀ e_12 : Nat, xQ σ_2 1 x1.toNatClampNeg = some e_12 → (e_12 < 53 ∧ wp_X2_isLast (fun r_14  => (r_14 = 0 → (wB_X7_first_89 post x1 σ_2)) ∧ (¬ r_14 = 0 → (vp_in x1 64 ∧ (wp_X2_isGuarded (fun r_17  => (r_17 = 0 → (wB_X7_first_92 post (-1) σ_2)) ∧ (¬ r_17 = 0 → (wB_X7_first_89 post x1 σ_2))) (xL σ_2 6 x1.toNatClampNeg))))) e_12))))) ∧ (¬ r_9 = 0 → (vp_in x1 64 ∧ (wp_X2_fieldOf (fun r_21  => post r_21 σ_2) 116 (xL σ_2 6 x1.toNatClampNeg))))) e_7))))))))) x1 σ
set_option maxHeartbeats 4000000 in
set_option maxRecDepth 100000 in
theorem kB_X7_first_23 {p : Program} {l : Launch} {e : Env} {s : State} {m : MethodId} {args : Array Value} {below : List Frame} {meth : Method} {c : Code} {A : Nat → Prop} {E : EnvT} {aK aV : Nat → Nat} {aO : Nat} {D : va_G} {cA : Nat → ClassId} {aE ad : Nat → Nat} (C : xCx p s m args meth c cX7_first 2 (some .int) wgX7_first RX7 E D cA A) (vM : eXs aK aV aE aO E) {post : Int32 → XS → Prop} :
    ∀ (σ : XS) (H : Heap) (locs : List Loc) (ls : Array Slot), xG D cA aE ad A s σ H locs → lv_has ls 2 [] → wB_X7_first_23 post σ → W p l e rm_X7_first s m args below meth c H locs 0 0 (MQ below (va_Qi post (xAt D cA aE ad A) A) args s 0 0 A) (F0 m 23 ls []) := by
  obtain ⟨hx, hb, hml, hr, hown, hts, hK, hA, hlk, hE, vE⟩ := id C
  intro σ H locs ls hG hl hw
  obtain ⟨hP, hD, hS⟩ := id hG
  refine lv_iconst (v := (-1)) hx hb dX7_first_23 (by decide) ?_
  exact W.iret (v := (-1)) hx hb hr (fun t ht hW => ⟨⟨_, σ, rfl, hw, by rw [ht]; exact hP, va_K.moved hW.alike hK, hD⟩, hS.F ht⟩) hS.2.2 dX7_first_24 hlk
set_option maxHeartbeats 4000000 in
set_option maxRecDepth 100000 in
theorem kB_X7_first_92 {p : Program} {l : Launch} {e : Env} {s : State} {m : MethodId} {args : Array Value} {below : List Frame} {meth : Method} {c : Code} {A : Nat → Prop} {E : EnvT} {aK aV : Nat → Nat} {aO : Nat} {D : va_G} {cA : Nat → ClassId} {aE ad : Nat → Nat} (C : xCx p s m args meth c cX7_first 2 (some .int) wgX7_first RX7 E D cA A) (vM : eXs aK aV aE aO E) {post : Int32 → XS → Prop} :
    ∀ (t0 : Int32) (σ : XS) (H : Heap) (locs : List Loc) (ls : Array Slot), xG D cA aE ad A s σ H locs → lv_has ls 2 [] → wB_X7_first_92 post t0 σ → W p l e rm_X7_first s m args below meth c H locs 0 0 (MQ below (va_Qi post (xAt D cA aE ad A) A) args s 0 0 A) (F0 m 92 ls [.int t0]) := by
  obtain ⟨hx, hb, hml, hr, hown, hts, hK, hA, hlk, hE, vE⟩ := id C
  intro t0 σ H locs ls hG hl hw
  obtain ⟨hP, hD, hS⟩ := id hG
  exact W.iret (v := t0) hx hb hr (fun t ht hW => ⟨⟨_, σ, rfl, hw, by rw [ht]; exact hP, va_K.moved hW.alike hK, hD⟩, hS.F ht⟩) hS.2.2 dX7_first_92 hlk
set_option maxHeartbeats 4000000 in
set_option maxRecDepth 100000 in
theorem kB_X7_first_89 {p : Program} {l : Launch} {e : Env} {s : State} {m : MethodId} {args : Array Value} {below : List Frame} {meth : Method} {c : Code} {A : Nat → Prop} {E : EnvT} {aK aV : Nat → Nat} {aO : Nat} {D : va_G} {cA : Nat → ClassId} {aE ad : Nat → Nat} (C : xCx p s m args meth c cX7_first 2 (some .int) wgX7_first RX7 E D cA A) (vM : eXs aK aV aE aO E) {post : Int32 → XS → Prop} :
    ∀ (x1 : Int32) (σ : XS) (H : Heap) (locs : List Loc) (ls : Array Slot), xG D cA aE ad A s σ H locs → lv_has ls 2 [(1, .int x1)] → wB_X7_first_89 post x1 σ → W p l e rm_X7_first s m args below meth c H locs 0 0 (MQ below (va_Qi post (xAt D cA aE ad A) A) args s 0 0 A) (F0 m 89 ls []) := by
  obtain ⟨hx, hb, hml, hr, hown, hts, hK, hA, hlk, hE, vE⟩ := id C
  intro x1 σ H locs ls hG hl hw
  obtain ⟨hP, hD, hS⟩ := id hG
  refine lv_iload_n hx hb dX7_first_89 rfl (lv_at hl 0 rfl) ?_
  refine lv_iconst (v := 1) hx hb dX7_first_90 (by decide) ?_
  refine lv_iadd hx hb dX7_first_91 ?_
  exact kB_X7_first_92 C vM (x1 + 1) σ _ _ _ hG (lv_sub hl [] rfl) hw
set_option maxHeartbeats 4000000 in
set_option maxRecDepth 100000 in
theorem k_X7_first {p : Program} {l : Launch} {e : Env} {s : State} {m : MethodId} {args : Array Value} {below : List Frame} {meth : Method} {c : Code} {A : Nat → Prop} {E : EnvT} {aK aV : Nat → Nat} {aO : Nat} {D : va_G} {cA : Nat → ClassId} {aE ad : Nat → Nat} (C : xCx p s m args meth c cX7_first 2 (some .int) wgX7_first RX7 E D cA A) (vM : eXs aK aV aE aO E) {post : Int32 → XS → Prop} :
    ∀ (x1 : Int32) (σ : XS) (H : Heap) (locs : List Loc) (ls : Array Slot), xG D cA aE ad A s σ H locs → lv_has ls 2 [(0, .ref (ad 22)), (1, .int x1)] → wp_X7_first post x1 σ → W p l e rm_X7_first s m args below meth c H locs 0 0 (MQ below (va_Qi post (xAt D cA aE ad A) A) args s 0 0 A) (F0 m 0 ls []) := by
  obtain ⟨hx, hb, hml, hr, hown, hts, hK, hA, hlk, hE, vE⟩ := id C
  intro x1 σ H locs ls hG hl hw
  obtain ⟨hP, hD, hS⟩ := id hG
  refine lv_aload_n hx hb dX7_first_0 rfl (lv_at hl 0 rfl) ?_
  refine va_get (D := D) (ci := 9) (v := .ref (ad 17)) (C := RX7) (T := TX7) (N := 1) hx hb hts (in_tb inX7) hown hK hP 22 rfl rfl 0 (by decide) (hts _ (List.mem_cons_of_mem _ tw_1_177)) (fun _ h9 => h9) rfl dX7_first_1 ?_
  refine lv_iload_n hx hb dX7_first_4 rfl (lv_at hl 1 rfl) ?_
  refine xV_i (As := [.int x1]) (rest := []) C (met_X0_has vE vM hw) (va_recv hK hP (ci := 2) (q0 := 17) rfl rfl) (cwV 1 hts (TB_G (TB_4 tw_4_39 tw_2_198 tw_2_199 tw_1_6) tw_2_200) rfl rfl rfl (by decide +kernel) ⟨by decide, by decide⟩) hP hD hS rfl hl.1 rfl (Nat.le_of_ble_eq_true rfl) dX7_first_5 ⟨by decide, by decide⟩ (fun r_1 σ_2 H locs hw hP hD hS => ?_)
  have hG : xG D cA aE ad A s σ_2 H locs := ⟨hP, hD, hS⟩
  refine lv_if_eq (tgt := 23) hx hb dX7_first_8 (by decide) (fun q_ => ?_) (fun q_ => ?_)
  · have hw := hw.1 q_
    exact kB_X7_first_23 C vM  σ_2 _ _ _ hG (lv_sub hl [] rfl) hw
  · have hw := hw.2 q_
    refine lv_aload_n hx hb dX7_first_11 rfl (lv_at hl 0 rfl) ?_
    refine va_get (D := D) (ci := 9) (v := .ref (ad 17)) (C := RX7) (T := TX7) (N := 1) hx hb hts (in_tb inX7) hown hK hP 22 rfl rfl 0 (by decide) (hts _ (List.mem_cons_of_mem _ tw_1_177)) (fun _ h9 => h9) rfl dX7_first_12 ?_
    refine va_get (D := D) (ci := 2) (v := .ref (ad 19)) (C := RX0) (T := TX0) (N := 5) hx hb hts (in_tb inX0) hown hK hP 17 rfl rfl 1 (by decide) (hts _ (List.mem_cons_of_mem _ tw_1_153)) (fun _ h9 => h9) rfl dX7_first_15 ?_
    refine lv_iload_n hx hb dX7_first_18 rfl (lv_at hl 1 rfl) ?_
    obtain ⟨h_3, hw⟩ := hw
    refine va_aldq hx hb hK hP 19 3 rfl rfl h_3 dX7_first_19 ?_
    rcases q_5 : xQ σ_2 1 x1.toNatClampNeg with _ | e_4
    · have hw := hw.1 q_5
      refine q_none rfl ?_
      refine lv_ifnonnullN hx hb dX7_first_20 ?_
      exact kB_X7_first_23 C vM  σ_2 _ _ _ hG (lv_sub hl [] rfl) hw
    · have hw := hw.2 e_4 q_5
      refine q_some rfl ?_
      refine lv_ifnonnull (tgt := 25) hx hb dX7_first_20 (by decide) ?_
      refine lv_aload_n hx hb dX7_first_25 rfl (lv_at hl 0 rfl) ?_
      refine va_get (D := D) (ci := 9) (v := .ref (ad 17)) (C := RX7) (T := TX7) (N := 1) hx hb hts (in_tb inX7) hown hK hP 22 rfl rfl 0 (by decide) (hts _ (List.mem_cons_of_mem _ tw_1_177)) (fun _ h9 => h9) rfl dX7_first_26 ?_
      refine va_get (D := D) (ci := 2) (v := .ref (ad 19)) (C := RX0) (T := TX0) (N := 5) hx hb hts (in_tb inX0) hown hK hP 17 rfl rfl 1 (by decide) (hts _ (List.mem_cons_of_mem _ tw_1_153)) (fun _ h9 => h9) rfl dX7_first_29 ?_
      refine lv_iload_n hx hb dX7_first_32 rfl (lv_at hl 1 rfl) ?_
      obtain ⟨h_6, hw⟩ := hw
      refine va_aldq hx hb hK hP 19 3 rfl rfl h_6 dX7_first_33 ?_
      rcases q_8 : xQ σ_2 1 x1.toNatClampNeg with _ | e_7
      · have hw := hw.1 q_8
        refine q_none rfl ?_
        exact hw.elim
      · have hw := hw.2 e_7 q_8
        refine q_some rfl ?_
        obtain ⟨h_23, hw⟩ := hw
        refine xO_i (As := []) (rest := []) C (met_X2_isJump vE vM hw) (va_Orecv (eX.o_obj (vM _ _ _ hE) h_23) hS) (cwV 0 hts (TB_G (TB_4 tw_4_40 tw_4_41 tw_4_42 tw_1_19) tw_4_43) rfl rfl rfl (by decide +kernel) ⟨by decide, by decide⟩) hP hD hS rfl hl.1 rfl (Nat.le_of_ble_eq_true rfl) dX7_first_34 ⟨by decide, by decide⟩ (fun r_9 H locs hw hP hS => ?_)
        have hG : xG D cA aE ad A s σ_2 H locs := ⟨hP, hD, hS⟩
        refine lv_if_eq (tgt := 55) hx hb dX7_first_37 (by decide) (fun q_ => ?_) (fun q_ => ?_)
        · have hw := hw.1 q_
          refine lv_aload_n hx hb dX7_first_55 rfl (lv_at hl 0 rfl) ?_
          refine va_get (D := D) (ci := 9) (v := .ref (ad 17)) (C := RX7) (T := TX7) (N := 1) hx hb hts (in_tb inX7) hown hK hP 22 rfl rfl 0 (by decide) (hts _ (List.mem_cons_of_mem _ tw_1_177)) (fun _ h9 => h9) rfl dX7_first_56 ?_
          refine va_get (D := D) (ci := 2) (v := .ref (ad 19)) (C := RX0) (T := TX0) (N := 5) hx hb hts (in_tb inX0) hown hK hP 17 rfl rfl 1 (by decide) (hts _ (List.mem_cons_of_mem _ tw_1_153)) (fun _ h9 => h9) rfl dX7_first_59 ?_
          refine lv_iload_n hx hb dX7_first_62 rfl (lv_at hl 1 rfl) ?_
          obtain ⟨h_11, hw⟩ := hw
          refine va_aldq hx hb hK hP 19 3 rfl rfl h_11 dX7_first_63 ?_
          rcases q_13 : xQ σ_2 1 x1.toNatClampNeg with _ | e_12
          · have hw := hw.1 q_13
            refine q_none rfl ?_
            exact hw.elim
          · have hw := hw.2 e_12 q_13
            refine q_some rfl ?_
            obtain ⟨h_19, hw⟩ := hw
            refine xO_i (As := []) (rest := []) C (met_X2_isLast vE vM hw) (va_Orecv (eX.o_obj (vM _ _ _ hE) h_19) hS) (cwV 0 hts (TB_G (TB_4 tw_4_49 tw_4_50 tw_4_51 tw_1_19) tw_4_52) rfl rfl rfl (by decide +kernel) ⟨by decide, by decide⟩) hP hD hS rfl hl.1 rfl (Nat.le_of_ble_eq_true rfl) dX7_first_64 ⟨by decide, by decide⟩ (fun r_14 H locs hw hP hS => ?_)
            have hG : xG D cA aE ad A s σ_2 H locs := ⟨hP, hD, hS⟩
            refine lv_if_eq (tgt := 89) hx hb dX7_first_67 (by decide) (fun q_ => ?_) (fun q_ => ?_)
            · have hw := hw.1 q_
              exact kB_X7_first_89 C vM x1 σ_2 _ _ _ hG (lv_sub hl [1] rfl) hw
            · have hw := hw.2 q_
              refine lv_aload_n hx hb dX7_first_70 rfl (lv_at hl 0 rfl) ?_
              refine va_get (D := D) (ci := 9) (v := .ref (ad 17)) (C := RX7) (T := TX7) (N := 1) hx hb hts (in_tb inX7) hown hK hP 22 rfl rfl 0 (by decide) (hts _ (List.mem_cons_of_mem _ tw_1_177)) (fun _ h9 => h9) rfl dX7_first_71 ?_
              refine va_get (D := D) (ci := 2) (v := .ref (ad 18)) (C := RX0) (T := TX0) (N := 5) hx hb hts (in_tb inX0) hown hK hP 17 rfl rfl 0 (by decide) (hts _ (List.mem_cons_of_mem _ tw_1_150)) (fun _ h9 => h9) rfl dX7_first_74 ?_
              refine lv_iload_n hx hb dX7_first_77 rfl (lv_at hl 1 rfl) ?_
              obtain ⟨h_16, hw⟩ := hw
              refine va_lald hx hb hK hP 18 1 rfl rfl h_16 dX7_first_78 ?_
              refine xS_i (As := [.long (xL σ_2 6 x1.toNatClampNeg)]) (rest := []) C (met_X2_isGuarded vE vM hw) (va_cwS 1 hts (TB_G (TB_3 tw_4_59 tw_2_121 tw_1_19) tw_2_122) rfl rfl rfl (by decide +kernel) ⟨by decide, by decide⟩) hP hD hS rfl hl.1 rfl (Nat.le_of_ble_eq_true rfl) dX7_first_79 ⟨by decide, by decide⟩ (fun r_17 H locs hw hP hS => ?_)
              have hG : xG D cA aE ad A s σ_2 H locs := ⟨hP, hD, hS⟩
              refine lv_if_ne (tgt := 89) hx hb dX7_first_82 (by decide) (fun q_ => ?_) (fun q_ => ?_)
              · have hw := hw.2 q_
                exact kB_X7_first_89 C vM x1 σ_2 _ _ _ hG (lv_sub hl [1] rfl) hw
              · have hw := hw.1 q_
                refine lv_iconst (v := (-1)) hx hb dX7_first_85 (by decide) ?_
                refine lv_goto (tgt := 92) hx hb dX7_first_86 (by decide) ?_
                exact kB_X7_first_92 C vM (-1) σ_2 _ _ _ hG (lv_sub hl [] rfl) hw
        · have hw := hw.2 q_
          refine lv_bipush (v := 116) hx hb dX7_first_40 (by decide) ?_
          refine lv_aload_n hx hb dX7_first_42 rfl (lv_at hl 0 rfl) ?_
          refine va_get (D := D) (ci := 9) (v := .ref (ad 17)) (C := RX7) (T := TX7) (N := 1) hx hb hts (in_tb inX7) hown hK hP 22 rfl rfl 0 (by decide) (hts _ (List.mem_cons_of_mem _ tw_1_177)) (fun _ h9 => h9) rfl dX7_first_43 ?_
          refine va_get (D := D) (ci := 2) (v := .ref (ad 18)) (C := RX0) (T := TX0) (N := 5) hx hb hts (in_tb inX0) hown hK hP 17 rfl rfl 0 (by decide) (hts _ (List.mem_cons_of_mem _ tw_1_150)) (fun _ h9 => h9) rfl dX7_first_46 ?_
          refine lv_iload_n hx hb dX7_first_49 rfl (lv_at hl 1 rfl) ?_
          obtain ⟨h_20, hw⟩ := hw
          refine va_lald hx hb hK hP 18 1 rfl rfl h_20 dX7_first_50 ?_
          refine xS_i (As := [.int 116, .long (xL σ_2 6 x1.toNatClampNeg)]) (rest := []) C (met_X2_fieldOf vE vM hw) (va_cwS 2 hts (TB_G (TB_3 tw_4_48 tw_2_98 tw_1_19) tw_2_99) rfl rfl rfl (by decide +kernel) ⟨by decide, by decide⟩) hP hD hS rfl hl.1 rfl (Nat.le_of_ble_eq_true rfl) dX7_first_51 ⟨by decide, by decide⟩ (fun r_21 H locs hw hP hS => ?_)
          have hG : xG D cA aE ad A s σ_2 H locs := ⟨hP, hD, hS⟩
          exact W.iret (v := r_21) hx hb hr (fun t ht hW => ⟨⟨_, σ_2, rfl, hw, by rw [ht]; exact hP, va_K.moved hW.alike hK, hD⟩, hS.F ht⟩) hS.2.2 dX7_first_54 hlk
set_option maxHeartbeats 4000000 in
set_option maxRecDepth 100000 in
theorem met_X7_first {l : Launch} {E : EnvT} (vE : EnvOk E) {D : va_G} {cA : Nat → ClassId} {aE ad : Nat → Nat} {σ : XS} {aK aV : Nat → Nat} {aO : Nat} (vM : eXs aK aV aE aO E) {sz : Nat} {x1 : Int32} {post : Int32 → XS → Prop} (hw : wp_X7_first post x1 σ) : Met l yX7_first wgX7_first rm_X7_first (va_Pc [.ref (ad 22), .int x1] (xPre E D cA aE ad sz σ)) (va_Qi post (xAt D cA aE ad (va_A (xW cA aE ad σ) sz)) (va_A (xW cA aE ad σ) sz)) 0 0 (va_A (xW cA aE ad σ) sz) := by
  refine Met.ofW (cc := cX7_first) (maxL := 2) (ret := (some .int)) (by decide +kernel) rfl ?_
  intro p e s m args below meth c s₁ B hml hv
  obtain ⟨rfl, hsz, hP, hK, hD0, hE⟩ := hv
  subst hsz
  have hD := hD0.self (sz := s.heap.size)
  generalize hAe : va_A (xW cA aE ad σ) s.heap.size = A at hD hE ⊢
  have hA : ∀ q : Nat, s.heap.size ≤ q → A q := fun q h => by rw [← hAe]; exact Or.inr h
  have hS : va_S A s.heap s.heap [] := va_S.rf
  have C : xCx p s m _ meth c cX7_first 2 (some .int) wgX7_first RX7 E D cA A := ⟨B.exec, B.bytes, hml, B.returns, findClass_of_methodNamed B.named, atoms_spec (ws := wgX7_first) B.pre, hK, hA, B.notSynchronized, hE, vE⟩
  have hG : xG D cA aE ad A s σ s.heap [] := ⟨hP, hD, hS⟩
  have hl := lv_entry ([.ref (ad 22), .int x1]) (n := 2) (Nat.le_of_ble_eq_true rfl)
  rw [lg_entry_eq]
  generalize (lg_sl ([.ref (ad 22), .int x1]) ++ List.replicate (2 - (lg_sl ([.ref (ad 22), .int x1])).length) Slot.unset).toArray = ls at hl ⊢
  have hl : lv_has ls 2 [(0, .ref (ad 22)), (1, .int x1)] := hl
  exact k_X7_first C vM x1 σ _ _ _ hG hl hw
/-! ===== X7_second ways ===== -/
def rm_X7_second : Room := { frames := 1, cells := 0, slots := 0, locals := 21 }
abbrev wgX7_second : List Cond := .code yX7_second cX7_second 2 (some .int) :: TB
def wB_X7_second_23 (post : Int32 → XS → Prop) (σ : XS) : Prop :=
  post (-1) σ
def wB_X7_second_62 (post : Int32 → XS → Prop) (t0 : Int32) (σ : XS) : Prop :=
  post t0 σ
def wB_X7_second_61 (post : Int32 → XS → Prop) (σ : XS) : Prop :=
  wB_X7_second_62 post (-1) σ
def wp_X7_second (post : Int32 → XS → Prop) (x1 : Int32) (σ : XS) : Prop :=
  wp_X0_has (fun r_1 σ_2 => (r_1 = 0 → (wB_X7_second_23 post σ_2)) ∧ (¬ r_1 = 0 → (vp_in x1 64 ∧ ((xQ σ_2 1 x1.toNatClampNeg = none → (wB_X7_second_23 post σ_2)) ∧ (∀ e_4 : Nat, xQ σ_2 1 x1.toNatClampNeg = some e_4 → (vp_in x1 64 ∧ ((xQ σ_2 1 x1.toNatClampNeg = none → (False)) ∧ (∀ e_7 : Nat, xQ σ_2 1 x1.toNatClampNeg = some e_7 → (e_7 < 53 ∧ wp_X2_isJump (fun r_9  => (r_9 = 0 → (wB_X7_second_61 post σ_2)) ∧ (¬ r_9 = 0 → (vp_in x1 64 ∧ (wp_X2_isGuarded (fun r_12  => (r_12 = 0 → (wB_X7_second_61 post σ_2)) ∧ (¬ r_12 = 0 → (wB_X7_second_62 post (x1 + 1) σ_2))) (xL σ_2 6 x1.toNatClampNeg))))) e_7))))))))) x1 σ
set_option maxHeartbeats 4000000 in
set_option maxRecDepth 100000 in
theorem kB_X7_second_23 {p : Program} {l : Launch} {e : Env} {s : State} {m : MethodId} {args : Array Value} {below : List Frame} {meth : Method} {c : Code} {A : Nat → Prop} {E : EnvT} {aK aV : Nat → Nat} {aO : Nat} {D : va_G} {cA : Nat → ClassId} {aE ad : Nat → Nat} (C : xCx p s m args meth c cX7_second 2 (some .int) wgX7_second RX7 E D cA A) (vM : eXs aK aV aE aO E) {post : Int32 → XS → Prop} :
    ∀ (σ : XS) (H : Heap) (locs : List Loc) (ls : Array Slot), xG D cA aE ad A s σ H locs → lv_has ls 2 [] → wB_X7_second_23 post σ → W p l e rm_X7_second s m args below meth c H locs 0 0 (MQ below (va_Qi post (xAt D cA aE ad A) A) args s 0 0 A) (F0 m 23 ls []) := by
  obtain ⟨hx, hb, hml, hr, hown, hts, hK, hA, hlk, hE, vE⟩ := id C
  intro σ H locs ls hG hl hw
  obtain ⟨hP, hD, hS⟩ := id hG
  refine lv_iconst (v := (-1)) hx hb dX7_second_23 (by decide) ?_
  exact W.iret (v := (-1)) hx hb hr (fun t ht hW => ⟨⟨_, σ, rfl, hw, by rw [ht]; exact hP, va_K.moved hW.alike hK, hD⟩, hS.F ht⟩) hS.2.2 dX7_second_24 hlk
set_option maxHeartbeats 4000000 in
set_option maxRecDepth 100000 in
theorem kB_X7_second_62 {p : Program} {l : Launch} {e : Env} {s : State} {m : MethodId} {args : Array Value} {below : List Frame} {meth : Method} {c : Code} {A : Nat → Prop} {E : EnvT} {aK aV : Nat → Nat} {aO : Nat} {D : va_G} {cA : Nat → ClassId} {aE ad : Nat → Nat} (C : xCx p s m args meth c cX7_second 2 (some .int) wgX7_second RX7 E D cA A) (vM : eXs aK aV aE aO E) {post : Int32 → XS → Prop} :
    ∀ (t0 : Int32) (σ : XS) (H : Heap) (locs : List Loc) (ls : Array Slot), xG D cA aE ad A s σ H locs → lv_has ls 2 [] → wB_X7_second_62 post t0 σ → W p l e rm_X7_second s m args below meth c H locs 0 0 (MQ below (va_Qi post (xAt D cA aE ad A) A) args s 0 0 A) (F0 m 62 ls [.int t0]) := by
  obtain ⟨hx, hb, hml, hr, hown, hts, hK, hA, hlk, hE, vE⟩ := id C
  intro t0 σ H locs ls hG hl hw
  obtain ⟨hP, hD, hS⟩ := id hG
  exact W.iret (v := t0) hx hb hr (fun t ht hW => ⟨⟨_, σ, rfl, hw, by rw [ht]; exact hP, va_K.moved hW.alike hK, hD⟩, hS.F ht⟩) hS.2.2 dX7_second_62 hlk
set_option maxHeartbeats 4000000 in
set_option maxRecDepth 100000 in
theorem kB_X7_second_61 {p : Program} {l : Launch} {e : Env} {s : State} {m : MethodId} {args : Array Value} {below : List Frame} {meth : Method} {c : Code} {A : Nat → Prop} {E : EnvT} {aK aV : Nat → Nat} {aO : Nat} {D : va_G} {cA : Nat → ClassId} {aE ad : Nat → Nat} (C : xCx p s m args meth c cX7_second 2 (some .int) wgX7_second RX7 E D cA A) (vM : eXs aK aV aE aO E) {post : Int32 → XS → Prop} :
    ∀ (σ : XS) (H : Heap) (locs : List Loc) (ls : Array Slot), xG D cA aE ad A s σ H locs → lv_has ls 2 [] → wB_X7_second_61 post σ → W p l e rm_X7_second s m args below meth c H locs 0 0 (MQ below (va_Qi post (xAt D cA aE ad A) A) args s 0 0 A) (F0 m 61 ls []) := by
  obtain ⟨hx, hb, hml, hr, hown, hts, hK, hA, hlk, hE, vE⟩ := id C
  intro σ H locs ls hG hl hw
  obtain ⟨hP, hD, hS⟩ := id hG
  refine lv_iconst (v := (-1)) hx hb dX7_second_61 (by decide) ?_
  exact kB_X7_second_62 C vM (-1) σ _ _ _ hG (lv_sub hl [] rfl) hw
set_option maxHeartbeats 4000000 in
set_option maxRecDepth 100000 in
theorem k_X7_second {p : Program} {l : Launch} {e : Env} {s : State} {m : MethodId} {args : Array Value} {below : List Frame} {meth : Method} {c : Code} {A : Nat → Prop} {E : EnvT} {aK aV : Nat → Nat} {aO : Nat} {D : va_G} {cA : Nat → ClassId} {aE ad : Nat → Nat} (C : xCx p s m args meth c cX7_second 2 (some .int) wgX7_second RX7 E D cA A) (vM : eXs aK aV aE aO E) {post : Int32 → XS → Prop} :
    ∀ (x1 : Int32) (σ : XS) (H : Heap) (locs : List Loc) (ls : Array Slot), xG D cA aE ad A s σ H locs → lv_has ls 2 [(0, .ref (ad 22)), (1, .int x1)] → wp_X7_second post x1 σ → W p l e rm_X7_second s m args below meth c H locs 0 0 (MQ below (va_Qi post (xAt D cA aE ad A) A) args s 0 0 A) (F0 m 0 ls []) := by
  obtain ⟨hx, hb, hml, hr, hown, hts, hK, hA, hlk, hE, vE⟩ := id C
  intro x1 σ H locs ls hG hl hw
  obtain ⟨hP, hD, hS⟩ := id hG
  refine lv_aload_n hx hb dX7_second_0 rfl (lv_at hl 0 rfl) ?_
  refine va_get (D := D) (ci := 9) (v := .ref (ad 17)) (C := RX7) (T := TX7) (N := 1) hx hb hts (in_tb inX7) hown hK hP 22 rfl rfl 0 (by decide) (hts _ (List.mem_cons_of_mem _ tw_1_177)) (fun _ h9 => h9) rfl dX7_second_1 ?_
  refine lv_iload_n hx hb dX7_second_4 rfl (lv_at hl 1 rfl) ?_
  refine xV_i (As := [.int x1]) (rest := []) C (met_X0_has vE vM hw) (va_recv hK hP (ci := 2) (q0 := 17) rfl rfl) (cwV 1 hts (TB_G (TB_4 tw_4_39 tw_2_198 tw_2_199 tw_1_6) tw_2_200) rfl rfl rfl (by decide +kernel) ⟨by decide, by decide⟩) hP hD hS rfl hl.1 rfl (Nat.le_of_ble_eq_true rfl) dX7_second_5 ⟨by decide, by decide⟩ (fun r_1 σ_2 H locs hw hP hD hS => ?_)
  have hG : xG D cA aE ad A s σ_2 H locs := ⟨hP, hD, hS⟩
  refine lv_if_eq (tgt := 23) hx hb dX7_second_8 (by decide) (fun q_ => ?_) (fun q_ => ?_)
  · have hw := hw.1 q_
    exact kB_X7_second_23 C vM  σ_2 _ _ _ hG (lv_sub hl [] rfl) hw
  · have hw := hw.2 q_
    refine lv_aload_n hx hb dX7_second_11 rfl (lv_at hl 0 rfl) ?_
    refine va_get (D := D) (ci := 9) (v := .ref (ad 17)) (C := RX7) (T := TX7) (N := 1) hx hb hts (in_tb inX7) hown hK hP 22 rfl rfl 0 (by decide) (hts _ (List.mem_cons_of_mem _ tw_1_177)) (fun _ h9 => h9) rfl dX7_second_12 ?_
    refine va_get (D := D) (ci := 2) (v := .ref (ad 19)) (C := RX0) (T := TX0) (N := 5) hx hb hts (in_tb inX0) hown hK hP 17 rfl rfl 1 (by decide) (hts _ (List.mem_cons_of_mem _ tw_1_153)) (fun _ h9 => h9) rfl dX7_second_15 ?_
    refine lv_iload_n hx hb dX7_second_18 rfl (lv_at hl 1 rfl) ?_
    obtain ⟨h_3, hw⟩ := hw
    refine va_aldq hx hb hK hP 19 3 rfl rfl h_3 dX7_second_19 ?_
    rcases q_5 : xQ σ_2 1 x1.toNatClampNeg with _ | e_4
    · have hw := hw.1 q_5
      refine q_none rfl ?_
      refine lv_ifnonnullN hx hb dX7_second_20 ?_
      exact kB_X7_second_23 C vM  σ_2 _ _ _ hG (lv_sub hl [] rfl) hw
    · have hw := hw.2 e_4 q_5
      refine q_some rfl ?_
      refine lv_ifnonnull (tgt := 25) hx hb dX7_second_20 (by decide) ?_
      refine lv_aload_n hx hb dX7_second_25 rfl (lv_at hl 0 rfl) ?_
      refine va_get (D := D) (ci := 9) (v := .ref (ad 17)) (C := RX7) (T := TX7) (N := 1) hx hb hts (in_tb inX7) hown hK hP 22 rfl rfl 0 (by decide) (hts _ (List.mem_cons_of_mem _ tw_1_177)) (fun _ h9 => h9) rfl dX7_second_26 ?_
      refine va_get (D := D) (ci := 2) (v := .ref (ad 19)) (C := RX0) (T := TX0) (N := 5) hx hb hts (in_tb inX0) hown hK hP 17 rfl rfl 1 (by decide) (hts _ (List.mem_cons_of_mem _ tw_1_153)) (fun _ h9 => h9) rfl dX7_second_29 ?_
      refine lv_iload_n hx hb dX7_second_32 rfl (lv_at hl 1 rfl) ?_
      obtain ⟨h_6, hw⟩ := hw
      refine va_aldq hx hb hK hP 19 3 rfl rfl h_6 dX7_second_33 ?_
      rcases q_8 : xQ σ_2 1 x1.toNatClampNeg with _ | e_7
      · have hw := hw.1 q_8
        refine q_none rfl ?_
        exact hw.elim
      · have hw := hw.2 e_7 q_8
        refine q_some rfl ?_
        obtain ⟨h_14, hw⟩ := hw
        refine xO_i (As := []) (rest := []) C (met_X2_isJump vE vM hw) (va_Orecv (eX.o_obj (vM _ _ _ hE) h_14) hS) (cwV 0 hts (TB_G (TB_4 tw_4_40 tw_4_41 tw_4_42 tw_1_19) tw_4_43) rfl rfl rfl (by decide +kernel) ⟨by decide, by decide⟩) hP hD hS rfl hl.1 rfl (Nat.le_of_ble_eq_true rfl) dX7_second_34 ⟨by decide, by decide⟩ (fun r_9 H locs hw hP hS => ?_)
        have hG : xG D cA aE ad A s σ_2 H locs := ⟨hP, hD, hS⟩
        refine lv_if_eq (tgt := 61) hx hb dX7_second_37 (by decide) (fun q_ => ?_) (fun q_ => ?_)
        · have hw := hw.1 q_
          exact kB_X7_second_61 C vM  σ_2 _ _ _ hG (lv_sub hl [] rfl) hw
        · have hw := hw.2 q_
          refine lv_aload_n hx hb dX7_second_40 rfl (lv_at hl 0 rfl) ?_
          refine va_get (D := D) (ci := 9) (v := .ref (ad 17)) (C := RX7) (T := TX7) (N := 1) hx hb hts (in_tb inX7) hown hK hP 22 rfl rfl 0 (by decide) (hts _ (List.mem_cons_of_mem _ tw_1_177)) (fun _ h9 => h9) rfl dX7_second_41 ?_
          refine va_get (D := D) (ci := 2) (v := .ref (ad 18)) (C := RX0) (T := TX0) (N := 5) hx hb hts (in_tb inX0) hown hK hP 17 rfl rfl 0 (by decide) (hts _ (List.mem_cons_of_mem _ tw_1_150)) (fun _ h9 => h9) rfl dX7_second_44 ?_
          refine lv_iload_n hx hb dX7_second_47 rfl (lv_at hl 1 rfl) ?_
          obtain ⟨h_11, hw⟩ := hw
          refine va_lald hx hb hK hP 18 1 rfl rfl h_11 dX7_second_48 ?_
          refine xS_i (As := [.long (xL σ_2 6 x1.toNatClampNeg)]) (rest := []) C (met_X2_isGuarded vE vM hw) (va_cwS 1 hts (TB_G (TB_3 tw_4_59 tw_2_121 tw_1_19) tw_2_122) rfl rfl rfl (by decide +kernel) ⟨by decide, by decide⟩) hP hD hS rfl hl.1 rfl (Nat.le_of_ble_eq_true rfl) dX7_second_49 ⟨by decide, by decide⟩ (fun r_12 H locs hw hP hS => ?_)
          have hG : xG D cA aE ad A s σ_2 H locs := ⟨hP, hD, hS⟩
          refine lv_if_eq (tgt := 61) hx hb dX7_second_52 (by decide) (fun q_ => ?_) (fun q_ => ?_)
          · have hw := hw.1 q_
            exact kB_X7_second_61 C vM  σ_2 _ _ _ hG (lv_sub hl [] rfl) hw
          · have hw := hw.2 q_
            refine lv_iload_n hx hb dX7_second_55 rfl (lv_at hl 1 rfl) ?_
            refine lv_iconst (v := 1) hx hb dX7_second_56 (by decide) ?_
            refine lv_iadd hx hb dX7_second_57 ?_
            refine lv_goto (tgt := 62) hx hb dX7_second_58 (by decide) ?_
            exact kB_X7_second_62 C vM (x1 + 1) σ_2 _ _ _ hG (lv_sub hl [] rfl) hw
set_option maxHeartbeats 4000000 in
set_option maxRecDepth 100000 in
theorem met_X7_second {l : Launch} {E : EnvT} (vE : EnvOk E) {D : va_G} {cA : Nat → ClassId} {aE ad : Nat → Nat} {σ : XS} {aK aV : Nat → Nat} {aO : Nat} (vM : eXs aK aV aE aO E) {sz : Nat} {x1 : Int32} {post : Int32 → XS → Prop} (hw : wp_X7_second post x1 σ) : Met l yX7_second wgX7_second rm_X7_second (va_Pc [.ref (ad 22), .int x1] (xPre E D cA aE ad sz σ)) (va_Qi post (xAt D cA aE ad (va_A (xW cA aE ad σ) sz)) (va_A (xW cA aE ad σ) sz)) 0 0 (va_A (xW cA aE ad σ) sz) := by
  refine Met.ofW (cc := cX7_second) (maxL := 2) (ret := (some .int)) (by decide +kernel) rfl ?_
  intro p e s m args below meth c s₁ B hml hv
  obtain ⟨rfl, hsz, hP, hK, hD0, hE⟩ := hv
  subst hsz
  have hD := hD0.self (sz := s.heap.size)
  generalize hAe : va_A (xW cA aE ad σ) s.heap.size = A at hD hE ⊢
  have hA : ∀ q : Nat, s.heap.size ≤ q → A q := fun q h => by rw [← hAe]; exact Or.inr h
  have hS : va_S A s.heap s.heap [] := va_S.rf
  have C : xCx p s m _ meth c cX7_second 2 (some .int) wgX7_second RX7 E D cA A := ⟨B.exec, B.bytes, hml, B.returns, findClass_of_methodNamed B.named, atoms_spec (ws := wgX7_second) B.pre, hK, hA, B.notSynchronized, hE, vE⟩
  have hG : xG D cA aE ad A s σ s.heap [] := ⟨hP, hD, hS⟩
  have hl := lv_entry ([.ref (ad 22), .int x1]) (n := 2) (Nat.le_of_ble_eq_true rfl)
  rw [lg_entry_eq]
  generalize (lg_sl ([.ref (ad 22), .int x1]) ++ List.replicate (2 - (lg_sl ([.ref (ad 22), .int x1])).length) Slot.unset).toArray = ls at hl ⊢
  have hl : lv_has ls 2 [(0, .ref (ad 22)), (1, .int x1)] := hl
  exact k_X7_second C vM x1 σ _ _ _ hG hl hw
/-! ===== X7_walk ways ===== -/
def rm_X7_walk : Room := { frames := 3, cells := 0, slots := 0, locals := 64 }
abbrev wgX7_walk : List Cond := .code yX7_walk cX7_walk 14 (some .long) :: TB
def wB_X7_walk_119 (post : Int64 → XS → Prop) (x4 : Int64) (σ : XS) : Prop :=
  post x4 σ
def wB_X7_walk_23 (post : Int64 → XS → Prop) (k23 : Int64 → Int64 → Int64 → Int32 → XS → Prop) (x2 : Int64) (x4 : Int64) (x6 : Int64) (x8 : Int32) (σ : XS) : Prop :=
  (64 ≤ x8 → (wB_X7_walk_119 post x4 σ)) ∧ (¬ 64 ≤ x8 → ((x6 = 0 → (wB_X7_walk_119 post x4 σ)) ∧ (¬ x6 = 0 → (∀ x9_4 : Int64, x9_4 = x6 &&& (-x6) → wp_J13_bitCount_95d88 (fun r_5  => wp_X7_first (fun r_7 σ_8 => wp_X0_bitOf (fun r_9 σ_10 => wp_X7_second (fun r_11 σ_12 => wp_X0_bitOf (fun r_13 σ_14 => ∀ x12_15 : Int64, x12_15 = (r_9 ||| r_13) &&& (x4 ^^^ (-1)) → ∀ x4_16 : Int64, x4_16 = x4 ||| x12_15 → ∀ x6_17 : Int64, x6_17 = (x6 ^^^ x9_4) ||| (x12_15 &&& (x2 ^^^ (-1))) → ∀ x8_18 : Int32, x8_18 = x8 + 1 → k23 x2 x4_16 x6_17 x8_18 σ_14) r_11 σ_12) r_5 σ_10) r_7 σ_8) r_5 σ) (x9_4 - 1)))))
def wL_X7_walk_23 (post : Int64 → XS → Prop) : Nat → Int64 → Int64 → Int64 → Int32 → XS → Prop
  | 0 => fun _ _ _ _ _ => False
  | n + 1 => wB_X7_walk_23 post (wL_X7_walk_23 post n)
def wp_X7_walk (post : Int64 → XS → Prop) (x1 : Int32) (x2 : Int64) (σ : XS) : Prop :=
  wp_X0_bitOf (fun r_1 σ_2 => ∀ x6_3 : Int64, x6_3 = r_1 &&& (x2 ^^^ (-1)) → ∃ n, wL_X7_walk_23 post n x2 r_1 x6_3 0 σ_2) x1 σ
set_option maxHeartbeats 4000000 in
set_option maxRecDepth 100000 in
theorem kB_X7_walk_119 {p : Program} {l : Launch} {e : Env} {s : State} {m : MethodId} {args : Array Value} {below : List Frame} {meth : Method} {c : Code} {A : Nat → Prop} {E : EnvT} {aK aV : Nat → Nat} {aO : Nat} {D : va_G} {cA : Nat → ClassId} {aE ad : Nat → Nat} (C : xCx p s m args meth c cX7_walk 14 (some .long) wgX7_walk RX7 E D cA A) (vM : eXs aK aV aE aO E) {post : Int64 → XS → Prop} :
    ∀ (x4 : Int64) (σ : XS) (H : Heap) (locs : List Loc) (ls : Array Slot), xG D cA aE ad A s σ H locs → lv_has ls 14 [(4, .long x4)] → wB_X7_walk_119 post x4 σ → W p l e rm_X7_walk s m args below meth c H locs 0 0 (MQ below (va_Ql post (xAt D cA aE ad A) A) args s 0 0 A) (F0 m 119 ls []) := by
  obtain ⟨hx, hb, hml, hr, hown, hts, hK, hA, hlk, hE, vE⟩ := id C
  intro x4 σ H locs ls hG hl hw
  obtain ⟨hP, hD, hS⟩ := id hG
  refine lv_lload hx hb dX7_walk_119 (lv_at hl 0 rfl) ?_
  exact W.lret (v := x4) hx hb hr (fun t ht hW => ⟨⟨_, σ, rfl, hw, by rw [ht]; exact hP, va_K.moved hW.alike hK, hD⟩, hS.F ht⟩) hS.2.2 dX7_walk_121 hlk
set_option maxHeartbeats 4000000 in
set_option maxRecDepth 100000 in
theorem kB_X7_walk_23 {p : Program} {l : Launch} {e : Env} {s : State} {m : MethodId} {args : Array Value} {below : List Frame} {meth : Method} {c : Code} {A : Nat → Prop} {E : EnvT} {aK aV : Nat → Nat} {aO : Nat} {D : va_G} {cA : Nat → ClassId} {aE ad : Nat → Nat} (C : xCx p s m args meth c cX7_walk 14 (some .long) wgX7_walk RX7 E D cA A) (vM : eXs aK aV aE aO E) {post : Int64 → XS → Prop}
    {k23 : Int64 → Int64 → Int64 → Int32 → XS → Prop} (hk23 : ∀ (x2 : Int64) (x4 : Int64) (x6 : Int64) (x8 : Int32) (σ : XS) (H : Heap) (locs : List Loc) (ls : Array Slot), xG D cA aE ad A s σ H locs → lv_has ls 14 [(0, .ref (ad 22)), (2, .long x2), (4, .long x4), (6, .long x6), (8, .int x8)] → k23 x2 x4 x6 x8 σ → W p l e rm_X7_walk s m args below meth c H locs 0 0 (MQ below (va_Ql post (xAt D cA aE ad A) A) args s 0 0 A) (F0 m 23 ls [])) :
    ∀ (x2 : Int64) (x4 : Int64) (x6 : Int64) (x8 : Int32) (σ : XS) (H : Heap) (locs : List Loc) (ls : Array Slot), xG D cA aE ad A s σ H locs → lv_has ls 14 [(0, .ref (ad 22)), (2, .long x2), (4, .long x4), (6, .long x6), (8, .int x8)] → wB_X7_walk_23 post k23 x2 x4 x6 x8 σ → W p l e rm_X7_walk s m args below meth c H locs 0 0 (MQ below (va_Ql post (xAt D cA aE ad A) A) args s 0 0 A) (F0 m 23 ls []) := by
  obtain ⟨hx, hb, hml, hr, hown, hts, hK, hA, hlk, hE, vE⟩ := id C
  intro x2 x4 x6 x8 σ H locs ls hG hl hw
  obtain ⟨hP, hD, hS⟩ := id hG
  refine lv_iload hx hb dX7_walk_23 (lv_at hl 4 rfl) ?_
  refine lv_bipush (v := 64) hx hb dX7_walk_25 (by decide) ?_
  refine lv_icmp_ge (tgt := 119) hx hb dX7_walk_27 (by decide) (fun q_ => ?_) (fun q_ => ?_)
  · have hw := hw.1 q_
    exact kB_X7_walk_119 C vM x4 σ _ _ _ hG (lv_sub hl [2] rfl) hw
  · have hw := hw.2 q_
    refine lv_lload hx hb dX7_walk_30 (lv_at hl 3 rfl) ?_
    refine lv_lconst (v := 0) hx hb dX7_walk_32 (by decide) ?_
    refine W.lcmp hx hb dX7_walk_33 ?_
    refine lv_if_eq (tgt := 119) hx hb dX7_walk_34 (by decide) (fun q_ => ?_) (fun q_ => ?_)
    · have hw := hw.1 (lc_eq.mp q_)
      exact kB_X7_walk_119 C vM x4 σ _ _ _ hG (lv_sub hl [2] rfl) hw
    · have hw := hw.2 (fun z => q_ (lc_eq.mpr z))
      refine lv_lload hx hb dX7_walk_37 (lv_at hl 3 rfl) ?_
      refine lv_lload hx hb dX7_walk_39 (lv_at hl 3 rfl) ?_
      refine lv_lneg hx hb dX7_walk_41 ?_
      refine lv_land hx hb dX7_walk_42 ?_
      refine lv_topl (fun x9_4 ex9_4 => ?_)
      have hw := hw x9_4 ex9_4
      refine lv_lstore (lv' := [(9, .long x9_4), (0, .ref (ad 22)), (2, .long x2), (4, .long x4), (6, .long x6), (8, .int x8)]) hx hb dX7_walk_43 hl (by decide) rfl (fun ls hl => ?_)
      refine lv_lload hx hb dX7_walk_45 (lv_at hl 0 rfl) ?_
      refine lv_lconst (v := 1) hx hb dX7_walk_47 (by decide) ?_
      refine lv_lsub hx hb dX7_walk_48 ?_
      refine xS_i (As := [.long (x9_4 - 1)]) (rest := []) C (met_J13_bitCount_95d88 vE vM hw) (va_cwS 1 hts (TB_G (TB_3 tw_4_82 tw_4_83 tw_1_29) tw_4_84) rfl rfl rfl (by decide +kernel) ⟨by decide, by decide⟩) hP hD hS rfl hl.1 rfl (Nat.le_of_ble_eq_true rfl) dX7_walk_49 ⟨by decide, by decide⟩ (fun r_5 H locs hw hP hS => ?_)
      have hG : xG D cA aE ad A s σ H locs := ⟨hP, hD, hS⟩
      refine lv_istore (lv' := [(11, .int r_5), (9, .long x9_4), (0, .ref (ad 22)), (2, .long x2), (4, .long x4), (6, .long x6), (8, .int x8)]) hx hb dX7_walk_52 hl (by decide) rfl (fun ls hl => ?_)
      refine lv_aload_n hx hb dX7_walk_54 rfl (lv_at hl 2 rfl) ?_
      refine va_get (D := D) (ci := 9) (v := .ref (ad 17)) (C := RX7) (T := TX7) (N := 1) hx hb hts (in_tb inX7) hown hK hP 22 rfl rfl 0 (by decide) (hts _ (List.mem_cons_of_mem _ tw_1_177)) (fun _ h9 => h9) rfl dX7_walk_55 ?_
      refine lv_aload_n hx hb dX7_walk_58 rfl (lv_at hl 2 rfl) ?_
      refine lv_iload hx hb dX7_walk_59 (lv_at hl 0 rfl) ?_
      refine xV_i (As := [.int r_5]) (rest := [.ref (ad 17)]) C (met_X7_first vE vM hw) (va_recv hK hP (ci := 9) (q0 := 22) rfl rfl) (cwV 1 hts (TB_G (TB_4 tw_4_88 tw_4_36 tw_4_37 tw_1_7) tw_4_38) rfl rfl rfl (by decide +kernel) ⟨by decide, by decide⟩) hP hD hS rfl hl.1 rfl (Nat.le_of_ble_eq_true rfl) dX7_walk_61 ⟨by decide, by decide⟩ (fun r_7 σ_8 H locs hw hP hD hS => ?_)
      have hG : xG D cA aE ad A s σ_8 H locs := ⟨hP, hD, hS⟩
      refine xV_l (As := [.int r_7]) (rest := []) C (met_X0_bitOf vE vM hw) (va_recv hK hP (ci := 2) (q0 := 17) rfl rfl) (cwV 1 hts (TB_G (TB_4 tw_4_76 tw_4_77 tw_4_78 tw_1_6) tw_4_79) rfl rfl rfl (by decide +kernel) ⟨by decide, by decide⟩) hP hD hS rfl hl.1 rfl (Nat.le_of_ble_eq_true rfl) dX7_walk_64 ⟨by decide, by decide⟩ (fun r_9 σ_10 H locs hw hP hD hS => ?_)
      have hG : xG D cA aE ad A s σ_10 H locs := ⟨hP, hD, hS⟩
      refine lv_aload_n hx hb dX7_walk_67 rfl (lv_at hl 2 rfl) ?_
      refine va_get (D := D) (ci := 9) (v := .ref (ad 17)) (C := RX7) (T := TX7) (N := 1) hx hb hts (in_tb inX7) hown hK hP 22 rfl rfl 0 (by decide) (hts _ (List.mem_cons_of_mem _ tw_1_177)) (fun _ h9 => h9) rfl dX7_walk_68 ?_
      refine lv_aload_n hx hb dX7_walk_71 rfl (lv_at hl 2 rfl) ?_
      refine lv_iload hx hb dX7_walk_72 (lv_at hl 0 rfl) ?_
      refine xV_i (As := [.int r_5]) (rest := [.ref (ad 17), .long r_9]) C (met_X7_second vE vM hw) (va_recv hK hP (ci := 9) (q0 := 22) rfl rfl) (cwV 1 hts (TB_G (TB_4 tw_4_89 tw_4_61 tw_4_62 tw_1_7) tw_4_63) rfl rfl rfl (by decide +kernel) ⟨by decide, by decide⟩) hP hD hS rfl hl.1 rfl (Nat.le_of_ble_eq_true rfl) dX7_walk_74 ⟨by decide, by decide⟩ (fun r_11 σ_12 H locs hw hP hD hS => ?_)
      have hG : xG D cA aE ad A s σ_12 H locs := ⟨hP, hD, hS⟩
      refine xV_l (As := [.int r_11]) (rest := [.long r_9]) C (met_X0_bitOf vE vM hw) (va_recv hK hP (ci := 2) (q0 := 17) rfl rfl) (cwV 1 hts (TB_G (TB_4 tw_4_76 tw_4_77 tw_4_78 tw_1_6) tw_4_79) rfl rfl rfl (by decide +kernel) ⟨by decide, by decide⟩) hP hD hS rfl hl.1 rfl (Nat.le_of_ble_eq_true rfl) dX7_walk_77 ⟨by decide, by decide⟩ (fun r_13 σ_14 H locs hw hP hD hS => ?_)
      have hG : xG D cA aE ad A s σ_14 H locs := ⟨hP, hD, hS⟩
      refine lv_lor hx hb dX7_walk_80 ?_
      refine lv_lload hx hb dX7_walk_81 (lv_at hl 4 rfl) ?_
      refine lv_ldc2 (v := (-1)) hx hb hown (hts _ (List.mem_cons_of_mem _ tw_4_81)) dX7_walk_83 ?_
      refine lv_lxor hx hb dX7_walk_86 ?_
      refine lv_land hx hb dX7_walk_87 ?_
      refine lv_topl (fun x12_15 ex12_15 => ?_)
      have hw := hw x12_15 ex12_15
      refine lv_lstore (lv' := [(12, .long x12_15), (11, .int r_5), (9, .long x9_4), (0, .ref (ad 22)), (2, .long x2), (4, .long x4), (6, .long x6), (8, .int x8)]) hx hb dX7_walk_88 hl (by decide) rfl (fun ls hl => ?_)
      refine lv_lload hx hb dX7_walk_90 (lv_at hl 5 rfl) ?_
      refine lv_lload hx hb dX7_walk_92 (lv_at hl 0 rfl) ?_
      refine lv_lor hx hb dX7_walk_94 ?_
      refine lv_topl (fun x4_16 ex4_16 => ?_)
      have hw := hw x4_16 ex4_16
      refine lv_lstore (lv' := [(4, .long x4_16), (12, .long x12_15), (11, .int r_5), (9, .long x9_4), (0, .ref (ad 22)), (2, .long x2), (6, .long x6), (8, .int x8)]) hx hb dX7_walk_95 hl (by decide) rfl (fun ls hl => ?_)
      refine lv_lload hx hb dX7_walk_97 (lv_at hl 6 rfl) ?_
      refine lv_lload hx hb dX7_walk_99 (lv_at hl 3 rfl) ?_
      refine lv_lxor hx hb dX7_walk_101 ?_
      refine lv_lload hx hb dX7_walk_102 (lv_at hl 1 rfl) ?_
      refine lv_lload_n hx hb dX7_walk_104 rfl (lv_at hl 5 rfl) ?_
      refine lv_ldc2 (v := (-1)) hx hb hown (hts _ (List.mem_cons_of_mem _ tw_4_81)) dX7_walk_105 ?_
      refine lv_lxor hx hb dX7_walk_108 ?_
      refine lv_land hx hb dX7_walk_109 ?_
      refine lv_lor hx hb dX7_walk_110 ?_
      refine lv_topl (fun x6_17 ex6_17 => ?_)
      have hw := hw x6_17 ex6_17
      refine lv_lstore (lv' := [(6, .long x6_17), (4, .long x4_16), (12, .long x12_15), (11, .int r_5), (9, .long x9_4), (0, .ref (ad 22)), (2, .long x2), (8, .int x8)]) hx hb dX7_walk_111 hl (by decide) rfl (fun ls hl => ?_)
      obtain ⟨x8_18, ex8_18⟩ : ∃ y : Int32, y = x8 + 1 := ⟨_, rfl⟩
      have hw := hw x8_18 ex8_18
      refine lv_iinc (v := x8_18) (lv' := [(8, .int x8_18), (6, .long x6_17), (4, .long x4_16), (12, .long x12_15), (11, .int r_5), (9, .long x9_4), (0, .ref (ad 22)), (2, .long x2)]) hx hb dX7_walk_113 hl (k := 7) rfl (by rw [ex8_18]; rfl) (by decide) rfl (fun ls hl => ?_)
      refine lv_goto (tgt := 23) hx hb dX7_walk_116 (by decide) ?_
      exact hk23 x2 x4_16 x6_17 x8_18 σ_14 _ _ _ hG (lv_sub hl [6, 7, 2, 1, 0] rfl) hw
theorem kL_X7_walk_23 {p : Program} {l : Launch} {e : Env} {s : State} {m : MethodId} {args : Array Value} {below : List Frame} {meth : Method} {c : Code} {A : Nat → Prop} {E : EnvT} {aK aV : Nat → Nat} {aO : Nat} {D : va_G} {cA : Nat → ClassId} {aE ad : Nat → Nat} (C : xCx p s m args meth c cX7_walk 14 (some .long) wgX7_walk RX7 E D cA A) (vM : eXs aK aV aE aO E) {post : Int64 → XS → Prop} :
    ∀ (n : Nat) (x2 : Int64) (x4 : Int64) (x6 : Int64) (x8 : Int32) (σ : XS) (H : Heap) (locs : List Loc) (ls : Array Slot), xG D cA aE ad A s σ H locs → lv_has ls 14 [(0, .ref (ad 22)), (2, .long x2), (4, .long x4), (6, .long x6), (8, .int x8)] → wL_X7_walk_23 post n x2 x4 x6 x8 σ → W p l e rm_X7_walk s m args below meth c H locs 0 0 (MQ below (va_Ql post (xAt D cA aE ad A) A) args s 0 0 A) (F0 m 23 ls []) := by
  intro n
  induction n with
  | zero => intro x2 x4 x6 x8 σ H locs ls hG hl hw; exact hw.elim
  | succ n ih => exact kB_X7_walk_23 C vM ih
set_option maxHeartbeats 4000000 in
set_option maxRecDepth 100000 in
theorem k_X7_walk {p : Program} {l : Launch} {e : Env} {s : State} {m : MethodId} {args : Array Value} {below : List Frame} {meth : Method} {c : Code} {A : Nat → Prop} {E : EnvT} {aK aV : Nat → Nat} {aO : Nat} {D : va_G} {cA : Nat → ClassId} {aE ad : Nat → Nat} (C : xCx p s m args meth c cX7_walk 14 (some .long) wgX7_walk RX7 E D cA A) (vM : eXs aK aV aE aO E) {post : Int64 → XS → Prop} :
    ∀ (x1 : Int32) (x2 : Int64) (σ : XS) (H : Heap) (locs : List Loc) (ls : Array Slot), xG D cA aE ad A s σ H locs → lv_has ls 14 [(0, .ref (ad 22)), (1, .int x1), (2, .long x2)] → wp_X7_walk post x1 x2 σ → W p l e rm_X7_walk s m args below meth c H locs 0 0 (MQ below (va_Ql post (xAt D cA aE ad A) A) args s 0 0 A) (F0 m 0 ls []) := by
  obtain ⟨hx, hb, hml, hr, hown, hts, hK, hA, hlk, hE, vE⟩ := id C
  intro x1 x2 σ H locs ls hG hl hw
  obtain ⟨hP, hD, hS⟩ := id hG
  refine lv_aload_n hx hb dX7_walk_0 rfl (lv_at hl 0 rfl) ?_
  refine va_get (D := D) (ci := 9) (v := .ref (ad 17)) (C := RX7) (T := TX7) (N := 1) hx hb hts (in_tb inX7) hown hK hP 22 rfl rfl 0 (by decide) (hts _ (List.mem_cons_of_mem _ tw_1_177)) (fun _ h9 => h9) rfl dX7_walk_1 ?_
  refine lv_iload_n hx hb dX7_walk_4 rfl (lv_at hl 1 rfl) ?_
  refine xV_l (As := [.int x1]) (rest := []) C (met_X0_bitOf vE vM hw) (va_recv hK hP (ci := 2) (q0 := 17) rfl rfl) (cwV 1 hts (TB_G (TB_4 tw_4_76 tw_4_77 tw_4_78 tw_1_6) tw_4_79) rfl rfl rfl (by decide +kernel) ⟨by decide, by decide⟩) hP hD hS rfl hl.1 rfl (Nat.le_of_ble_eq_true rfl) dX7_walk_5 ⟨by decide, by decide⟩ (fun r_1 σ_2 H locs hw hP hD hS => ?_)
  have hG : xG D cA aE ad A s σ_2 H locs := ⟨hP, hD, hS⟩
  refine lv_lstore (lv' := [(4, .long r_1), (0, .ref (ad 22)), (1, .int x1), (2, .long x2)]) hx hb dX7_walk_8 hl (by decide) rfl (fun ls hl => ?_)
  refine lv_lload hx hb dX7_walk_10 (lv_at hl 0 rfl) ?_
  refine lv_lload_n hx hb dX7_walk_12 rfl (lv_at hl 3 rfl) ?_
  refine lv_ldc2 (v := (-1)) hx hb hown (hts _ (List.mem_cons_of_mem _ tw_4_81)) dX7_walk_13 ?_
  refine lv_lxor hx hb dX7_walk_16 ?_
  refine lv_land hx hb dX7_walk_17 ?_
  refine lv_topl (fun x6_3 ex6_3 => ?_)
  have hw := hw x6_3 ex6_3
  refine lv_lstore (lv' := [(6, .long x6_3), (4, .long r_1), (0, .ref (ad 22)), (1, .int x1), (2, .long x2)]) hx hb dX7_walk_18 hl (by decide) rfl (fun ls hl => ?_)
  refine lv_iconst (v := 0) hx hb dX7_walk_20 (by decide) ?_
  refine lv_istore (lv' := [(8, .int 0), (6, .long x6_3), (4, .long r_1), (0, .ref (ad 22)), (1, .int x1), (2, .long x2)]) hx hb dX7_walk_21 hl (by decide) rfl (fun ls hl => ?_)
  obtain ⟨n_, hw⟩ := hw
  exact kL_X7_walk_23 C vM n_ x2 r_1 x6_3 0 σ_2 _ _ _ hG (lv_sub hl [3, 5, 2, 1, 0] rfl) hw
set_option maxHeartbeats 4000000 in
set_option maxRecDepth 100000 in
theorem met_X7_walk {l : Launch} {E : EnvT} (vE : EnvOk E) {D : va_G} {cA : Nat → ClassId} {aE ad : Nat → Nat} {σ : XS} {aK aV : Nat → Nat} {aO : Nat} (vM : eXs aK aV aE aO E) {sz : Nat} {x1 : Int32} {x2 : Int64} {post : Int64 → XS → Prop} (hw : wp_X7_walk post x1 x2 σ) : Met l yX7_walk wgX7_walk rm_X7_walk (va_Pc [.ref (ad 22), .int x1, .long x2] (xPre E D cA aE ad sz σ)) (va_Ql post (xAt D cA aE ad (va_A (xW cA aE ad σ) sz)) (va_A (xW cA aE ad σ) sz)) 0 0 (va_A (xW cA aE ad σ) sz) := by
  refine Met.ofW (cc := cX7_walk) (maxL := 14) (ret := (some .long)) (by decide +kernel) rfl ?_
  intro p e s m args below meth c s₁ B hml hv
  obtain ⟨rfl, hsz, hP, hK, hD0, hE⟩ := hv
  subst hsz
  have hD := hD0.self (sz := s.heap.size)
  generalize hAe : va_A (xW cA aE ad σ) s.heap.size = A at hD hE ⊢
  have hA : ∀ q : Nat, s.heap.size ≤ q → A q := fun q h => by rw [← hAe]; exact Or.inr h
  have hS : va_S A s.heap s.heap [] := va_S.rf
  have C : xCx p s m _ meth c cX7_walk 14 (some .long) wgX7_walk RX7 E D cA A := ⟨B.exec, B.bytes, hml, B.returns, findClass_of_methodNamed B.named, atoms_spec (ws := wgX7_walk) B.pre, hK, hA, B.notSynchronized, hE, vE⟩
  have hG : xG D cA aE ad A s σ s.heap [] := ⟨hP, hD, hS⟩
  have hl := lv_entry ([.ref (ad 22), .int x1, .long x2]) (n := 14) (Nat.le_of_ble_eq_true rfl)
  rw [lg_entry_eq]
  generalize (lg_sl ([.ref (ad 22), .int x1, .long x2]) ++ List.replicate (14 - (lg_sl ([.ref (ad 22), .int x1, .long x2])).length) Slot.unset).toArray = ls at hl ⊢
  have hl : lv_has ls 14 [(0, .ref (ad 22)), (1, .int x1), (2, .long x2)] := hl
  exact k_X7_walk C vM x1 x2 σ _ _ _ hG hl hw
/-! ===== X7_fromStart ways ===== -/
def rm_X7_fromStart : Room := { frames := 4, cells := 0, slots := 0, locals := 97 }
abbrev wgX7_fromStart : List Cond := .code yX7_fromStart cX7_fromStart 1 (some .long) :: TB
def wp_X7_fromStart (post : Int64 → XS → Prop) (σ : XS) : Prop :=
  wp_X7_walk (fun r_1 σ_2 => post r_1 σ_2) 0 0 σ
set_option maxHeartbeats 4000000 in
set_option maxRecDepth 100000 in
theorem k_X7_fromStart {p : Program} {l : Launch} {e : Env} {s : State} {m : MethodId} {args : Array Value} {below : List Frame} {meth : Method} {c : Code} {A : Nat → Prop} {E : EnvT} {aK aV : Nat → Nat} {aO : Nat} {D : va_G} {cA : Nat → ClassId} {aE ad : Nat → Nat} (C : xCx p s m args meth c cX7_fromStart 1 (some .long) wgX7_fromStart RX7 E D cA A) (vM : eXs aK aV aE aO E) {post : Int64 → XS → Prop} :
    ∀ (σ : XS) (H : Heap) (locs : List Loc) (ls : Array Slot), xG D cA aE ad A s σ H locs → lv_has ls 1 [(0, .ref (ad 22))] → wp_X7_fromStart post σ → W p l e rm_X7_fromStart s m args below meth c H locs 0 0 (MQ below (va_Ql post (xAt D cA aE ad A) A) args s 0 0 A) (F0 m 0 ls []) := by
  obtain ⟨hx, hb, hml, hr, hown, hts, hK, hA, hlk, hE, vE⟩ := id C
  intro σ H locs ls hG hl hw
  obtain ⟨hP, hD, hS⟩ := id hG
  refine lv_aload_n hx hb dX7_fromStart_0 rfl (lv_at hl 0 rfl) ?_
  refine lv_iconst (v := 0) hx hb dX7_fromStart_1 (by decide) ?_
  refine lv_lconst (v := 0) hx hb dX7_fromStart_2 (by decide) ?_
  refine xV_l (As := [.int 0, .long 0]) (rest := []) C (met_X7_walk vE vM hw) (va_recv hK hP (ci := 9) (q0 := 22) rfl rfl) (cwV 2 hts (TB_G (TB_4 tw_4_72 tw_4_74 ts_5 tw_1_7) tw_4_75) rfl rfl rfl (by decide +kernel) ⟨by decide, by decide⟩) hP hD hS rfl hl.1 rfl (Nat.le_of_ble_eq_true rfl) dX7_fromStart_3 ⟨by decide, by decide⟩ (fun r_1 σ_2 H locs hw hP hD hS => ?_)
  have hG : xG D cA aE ad A s σ_2 H locs := ⟨hP, hD, hS⟩
  exact W.lret (v := r_1) hx hb hr (fun t ht hW => ⟨⟨_, σ_2, rfl, hw, by rw [ht]; exact hP, va_K.moved hW.alike hK, hD⟩, hS.F ht⟩) hS.2.2 dX7_fromStart_6 hlk
set_option maxHeartbeats 4000000 in
set_option maxRecDepth 100000 in
theorem met_X7_fromStart {l : Launch} {E : EnvT} (vE : EnvOk E) {D : va_G} {cA : Nat → ClassId} {aE ad : Nat → Nat} {σ : XS} {aK aV : Nat → Nat} {aO : Nat} (vM : eXs aK aV aE aO E) {sz : Nat} {post : Int64 → XS → Prop} (hw : wp_X7_fromStart post σ) : Met l yX7_fromStart wgX7_fromStart rm_X7_fromStart (va_Pc [.ref (ad 22)] (xPre E D cA aE ad sz σ)) (va_Ql post (xAt D cA aE ad (va_A (xW cA aE ad σ) sz)) (va_A (xW cA aE ad σ) sz)) 0 0 (va_A (xW cA aE ad σ) sz) := by
  refine Met.ofW (cc := cX7_fromStart) (maxL := 1) (ret := (some .long)) (by decide +kernel) rfl ?_
  intro p e s m args below meth c s₁ B hml hv
  obtain ⟨rfl, hsz, hP, hK, hD0, hE⟩ := hv
  subst hsz
  have hD := hD0.self (sz := s.heap.size)
  generalize hAe : va_A (xW cA aE ad σ) s.heap.size = A at hD hE ⊢
  have hA : ∀ q : Nat, s.heap.size ≤ q → A q := fun q h => by rw [← hAe]; exact Or.inr h
  have hS : va_S A s.heap s.heap [] := va_S.rf
  have C : xCx p s m _ meth c cX7_fromStart 1 (some .long) wgX7_fromStart RX7 E D cA A := ⟨B.exec, B.bytes, hml, B.returns, findClass_of_methodNamed B.named, atoms_spec (ws := wgX7_fromStart) B.pre, hK, hA, B.notSynchronized, hE, vE⟩
  have hG : xG D cA aE ad A s σ s.heap [] := ⟨hP, hD, hS⟩
  have hl := lv_entry ([.ref (ad 22)]) (n := 1) (Nat.le_of_ble_eq_true rfl)
  rw [lg_entry_eq]
  generalize (lg_sl ([.ref (ad 22)]) ++ List.replicate (1 - (lg_sl ([.ref (ad 22)])).length) Slot.unset).toArray = ls at hl ⊢
  have hl : lv_has ls 1 [(0, .ref (ad 22))] := hl
  exact k_X7_fromStart C vM σ _ _ _ hG hl hw
