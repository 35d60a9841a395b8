/-! ===== X2_makes op ===== -/
def rm_X2_makes : Room := { frames := 4, cells := 0, slots := 0, locals := 85 }
abbrev wgX2_makes : List Cond := .code yX2_makes cX2_makes 10 (some .boolean) :: TB
def wB_X2_makes_147 (post : Int32 → Prop) (t0 : Int32) : Prop :=
  isB t0 ∧ (post t0)
def wB_X2_makes_99 (post : Int32 → Prop) : Prop :=
  post 0
def wB_X2_makes_129 (post : Int32 → Prop) (k32 : Nat → Int64 → Int64 → Int32 → Prop) (e0 : Nat) (x1 : Int64) (x4 : Int64) (x6 : Int32) : Prop :=
  ∀ x6_22 : Int32, x6_22 = x6 + 1 → k32 e0 x1 x4 x6_22
def wB_X2_makes_126 (post : Int32 → Prop) (k32 : Nat → Int64 → Int64 → Int32 → Prop) (e0 : Nat) (x1 : Int64) (x6 : Int32) (t0 : Int64) (t1 : Int64) : Prop :=
  ∀ x4_21 : Int64, x4_21 = t1 &&& t0 → wB_X2_makes_129 post k32 e0 x1 x4_21 x6
def wB_X2_makes_32 (post : Int32 → Prop) (k32 : Nat → Int64 → Int64 → Int32 → Prop) (e0 : Nat) (x1 : Int64) (x4 : Int64) (x6 : Int32) : Prop :=
  e0 < 53 ∧ ((pxI e0) < nX ∧ wp_J0_length_8abf5 (fun r_6  => (r_6 ≤ x6 → ((x4 = 0 → (wB_X2_makes_147 post 1)) ∧ (¬ x4 = 0 → (wB_X2_makes_147 post 0)))) ∧ (¬ r_6 ≤ x6 → (e0 < 53 ∧ ((pxI e0) < nX ∧ (vp_in x6 (lenX.getD (pxI e0) 0) ∧ (∀ r_12 : Int32, r_12 = sCh bytX (pxI e0) x6.toNatClampNeg → wp_X2_shiftOf (fun r_13  => wp_X2_fieldOf (fun r_15  => (r_13 = (-1) → (wB_X2_makes_129 post k32 e0 x1 x4 x6)) ∧ (¬ r_13 = (-1) → (wp_X2_leastOf (fun r_17  => (r_15 < r_17 → (wB_X2_makes_99 post)) ∧ (¬ r_15 < r_17 → (wp_X2_mostOf (fun r_19  => (r_15 ≤ r_19 → ((r_13 = 32 → (wB_X2_makes_126 post k32 e0 x1 x6 4294967295 x4)) ∧ (¬ r_13 = 32 → (wB_X2_makes_126 post k32 e0 x1 x6 (((15 : Int64) <<< (r_13.toInt64 &&& 63)) ^^^ (-1)) x4)))) ∧ (¬ r_15 ≤ r_19 → (wB_X2_makes_99 post))) r_12))) r_12))) r_12 x1) r_12)))))) (pxI e0))
def wL_X2_makes_32 (post : Int32 → Prop) : Nat → Nat → Int64 → Int64 → Int32 → Prop
  | 0 => fun _ _ _ _ => False
  | n + 1 => wB_X2_makes_32 post (wL_X2_makes_32 post n)
def wB_X2_makes_17 (post : Int32 → Prop) (e0 : Nat) (x1 : Int64) : Prop :=
  e0 < 53 ∧ (∀ x4_4 : Int64, x4_4 = (x1 ^^^ (opB e0)) &&& (-15728641) → ∃ n, wL_X2_makes_32 post n e0 x1 x4_4 0)
def wp_X2_makes (post : Int32 → Prop) (e0 : Nat) (x1 : Int64) : Prop :=
  wp_X2_guardOf (fun r_1  => (r_1 ≤ 0 → (wB_X2_makes_17 post e0 x1)) ∧ (¬ r_1 ≤ 0 → ((8 ≤ r_1 → (wB_X2_makes_17 post e0 x1)) ∧ (¬ 8 ≤ r_1 → (post 0))))) x1
set_option maxHeartbeats 4000000 in
set_option maxRecDepth 100000 in
theorem kB_X2_makes_147 {p : Program} {l : Launch} {e : Env} {s : State} {m : MethodId} {args : Array Value} {below : List Frame} {meth : Method} {c : Code} {A : Nat → Prop} {E : EnvT} {aK aV aE : Nat → Nat} {aO : Nat} (C : sCx p s m args meth c cX2_makes 10 (some .boolean) wgX2_makes RX2 E A) (vM : eXs aK aV aE aO E) {post : Int32 → Prop} :
    ∀ (t0 : Int32) (H : Heap) (locs : List Loc) (ls : Array Slot), va_S A s.heap H locs → lv_has ls 10 [] → wB_X2_makes_147 post t0 → W p l e rm_X2_makes s m args below meth c H locs 0 0 (MQ below (va_Qi (S := Unit) (fun r _ => post r) (fun _ _ => True) A) args s 0 0 A) (F0 m 147 ls [.int t0]) := by
  obtain ⟨hx, hb, hml, hr, hown, hts, hA, hlk, hE, vE⟩ := id C
  intro t0 H locs ls hG hl hw
  have hS := hG
  obtain ⟨h_8, hw⟩ := hw
  exact W.zret (v := t0) (ty := .boolean) hx hb hr (isB.n h_8) (fun t ht hW => ⟨⟨_, (), rfl, hw, trivial⟩, hS.F ht⟩) hS.2.2 dX2_makes_147 hlk
set_option maxHeartbeats 4000000 in
set_option maxRecDepth 100000 in
theorem kB_X2_makes_99 {p : Program} {l : Launch} {e : Env} {s : State} {m : MethodId} {args : Array Value} {below : List Frame} {meth : Method} {c : Code} {A : Nat → Prop} {E : EnvT} {aK aV aE : Nat → Nat} {aO : Nat} (C : sCx p s m args meth c cX2_makes 10 (some .boolean) wgX2_makes RX2 E A) (vM : eXs aK aV aE aO E) {post : Int32 → Prop} :
    ∀ (H : Heap) (locs : List Loc) (ls : Array Slot), va_S A s.heap H locs → lv_has ls 10 [] → wB_X2_makes_99 post → W p l e rm_X2_makes s m args below meth c H locs 0 0 (MQ below (va_Qi (S := Unit) (fun r _ => post r) (fun _ _ => True) A) args s 0 0 A) (F0 m 99 ls []) := by
  obtain ⟨hx, hb, hml, hr, hown, hts, hA, hlk, hE, vE⟩ := id C
  intro H locs ls hG hl hw
  have hS := hG
  refine lv_iconst (v := 0) hx hb dX2_makes_99 (by decide) ?_
  exact W.zret (v := 0) (ty := .boolean) hx hb hr rfl (fun t ht hW => ⟨⟨_, (), rfl, hw, trivial⟩, hS.F ht⟩) hS.2.2 dX2_makes_100 hlk
set_option maxHeartbeats 4000000 in
set_option maxRecDepth 100000 in
theorem kB_X2_makes_129 {p : Program} {l : Launch} {e : Env} {s : State} {m : MethodId} {args : Array Value} {below : List Frame} {meth : Method} {c : Code} {A : Nat → Prop} {E : EnvT} {aK aV aE : Nat → Nat} {aO : Nat} (C : sCx p s m args meth c cX2_makes 10 (some .boolean) wgX2_makes RX2 E A) (vM : eXs aK aV aE aO E) {post : Int32 → Prop}
    {k32 : Nat → Int64 → Int64 → Int32 → Prop} (hk32 : ∀ (e0 : Nat) (x1 : Int64) (x4 : Int64) (x6 : Int32) (H : Heap) (locs : List Loc) (ls : Array Slot), va_S A s.heap H locs → lv_has ls 10 [(0, .ref (aE e0)), (1, .long x1), (4, .long x4), (6, .int x6)] → k32 e0 x1 x4 x6 → W p l e rm_X2_makes s m args below meth c H locs 0 0 (MQ below (va_Qi (S := Unit) (fun r _ => post r) (fun _ _ => True) A) args s 0 0 A) (F0 m 32 ls [])) :
    ∀ (e0 : Nat) (x1 : Int64) (x4 : Int64) (x6 : Int32) (H : Heap) (locs : List Loc) (ls : Array Slot), va_S A s.heap H locs → lv_has ls 10 [(0, .ref (aE e0)), (1, .long x1), (4, .long x4), (6, .int x6)] → wB_X2_makes_129 post k32 e0 x1 x4 x6 → W p l e rm_X2_makes s m args below meth c H locs 0 0 (MQ below (va_Qi (S := Unit) (fun r _ => post r) (fun _ _ => True) A) args s 0 0 A) (F0 m 129 ls []) := by
  obtain ⟨hx, hb, hml, hr, hown, hts, hA, hlk, hE, vE⟩ := id C
  intro e0 x1 x4 x6 H locs ls hG hl hw
  have hS := hG
  obtain ⟨x6_22, ex6_22⟩ : ∃ y : Int32, y = x6 + 1 := ⟨_, rfl⟩
  have hw := hw x6_22 ex6_22
  refine lv_iinc (v := x6_22) (lv' := [(6, .int x6_22), (0, .ref (aE e0)), (1, .long x1), (4, .long x4)]) hx hb dX2_makes_129 hl (k := 3) rfl (by rw [ex6_22]; rfl) (by decide) rfl (fun ls hl => ?_)
  refine lv_goto (tgt := 32) hx hb dX2_makes_132 (by decide) ?_
  exact hk32 e0 x1 x4 x6_22 _ _ _ hG (lv_sub hl [1, 2, 3, 0] rfl) hw
set_option maxHeartbeats 4000000 in
set_option maxRecDepth 100000 in
theorem kB_X2_makes_126 {p : Program} {l : Launch} {e : Env} {s : State} {m : MethodId} {args : Array Value} {below : List Frame} {meth : Method} {c : Code} {A : Nat → Prop} {E : EnvT} {aK aV aE : Nat → Nat} {aO : Nat} (C : sCx p s m args meth c cX2_makes 10 (some .boolean) wgX2_makes RX2 E A) (vM : eXs aK aV aE aO E) {post : Int32 → Prop}
    {k32 : Nat → Int64 → Int64 → Int32 → Prop} (hk32 : ∀ (e0 : Nat) (x1 : Int64) (x4 : Int64) (x6 : Int32) (H : Heap) (locs : List Loc) (ls : Array Slot), va_S A s.heap H locs → lv_has ls 10 [(0, .ref (aE e0)), (1, .long x1), (4, .long x4), (6, .int x6)] → k32 e0 x1 x4 x6 → W p l e rm_X2_makes s m args below meth c H locs 0 0 (MQ below (va_Qi (S := Unit) (fun r _ => post r) (fun _ _ => True) A) args s 0 0 A) (F0 m 32 ls [])) :
    ∀ (e0 : Nat) (x1 : Int64) (x6 : Int32) (t0 : Int64) (t1 : Int64) (H : Heap) (locs : List Loc) (ls : Array Slot), va_S A s.heap H locs → lv_has ls 10 [(0, .ref (aE e0)), (1, .long x1), (6, .int x6)] → wB_X2_makes_126 post k32 e0 x1 x6 t0 t1 → W p l e rm_X2_makes s m args below meth c H locs 0 0 (MQ below (va_Qi (S := Unit) (fun r _ => post r) (fun _ _ => True) A) args s 0 0 A) (F0 m 126 ls [.long t0, .long t1]) := by
  obtain ⟨hx, hb, hml, hr, hown, hts, hA, hlk, hE, vE⟩ := id C
  intro e0 x1 x6 t0 t1 H locs ls hG hl hw
  have hS := hG
  refine lv_land hx hb dX2_makes_126 ?_
  refine lv_topl (fun x4_21 ex4_21 => ?_)
  have hw := hw x4_21 ex4_21
  refine lv_lstore (lv' := [(4, .long x4_21), (0, .ref (aE e0)), (1, .long x1), (6, .int x6)]) hx hb dX2_makes_127 hl (by decide) rfl (fun ls hl => ?_)
  exact kB_X2_makes_129 C vM hk32 e0 x1 x4_21 x6 _ _ _ hG (lv_sub hl [1, 2, 0, 3] rfl) hw
set_option maxHeartbeats 4000000 in
set_option maxRecDepth 100000 in
theorem kB_X2_makes_32 {p : Program} {l : Launch} {e : Env} {s : State} {m : MethodId} {args : Array Value} {below : List Frame} {meth : Method} {c : Code} {A : Nat → Prop} {E : EnvT} {aK aV aE : Nat → Nat} {aO : Nat} (C : sCx p s m args meth c cX2_makes 10 (some .boolean) wgX2_makes RX2 E A) (vM : eXs aK aV aE aO E) {post : Int32 → Prop}
    {k32 : Nat → Int64 → Int64 → Int32 → Prop} (hk32 : ∀ (e0 : Nat) (x1 : Int64) (x4 : Int64) (x6 : Int32) (H : Heap) (locs : List Loc) (ls : Array Slot), va_S A s.heap H locs → lv_has ls 10 [(0, .ref (aE e0)), (1, .long x1), (4, .long x4), (6, .int x6)] → k32 e0 x1 x4 x6 → W p l e rm_X2_makes s m args below meth c H locs 0 0 (MQ below (va_Qi (S := Unit) (fun r _ => post r) (fun _ _ => True) A) args s 0 0 A) (F0 m 32 ls [])) :
    ∀ (e0 : Nat) (x1 : Int64) (x4 : Int64) (x6 : Int32) (H : Heap) (locs : List Loc) (ls : Array Slot), va_S A s.heap H locs → lv_has ls 10 [(0, .ref (aE e0)), (1, .long x1), (4, .long x4), (6, .int x6)] → wB_X2_makes_32 post k32 e0 x1 x4 x6 → W p l e rm_X2_makes s m args below meth c H locs 0 0 (MQ below (va_Qi (S := Unit) (fun r _ => post r) (fun _ _ => True) A) args s 0 0 A) (F0 m 32 ls []) := by
  obtain ⟨hx, hb, hml, hr, hown, hts, hA, hlk, hE, vE⟩ := id C
  intro e0 x1 x4 x6 H locs ls hG hl hw
  have hS := hG
  refine lv_iload hx hb dX2_makes_32 (lv_at hl 3 rfl) ?_
  refine lv_aload_n hx hb dX2_makes_34 rfl (lv_at hl 0 rfl) ?_
  obtain ⟨h_5, hw⟩ := hw
  refine vk_getf hx hb (eX.o_parts (vM _ _ _ hE) h_5) hS hown (hts _ (List.mem_cons_of_mem _ tw_6_229)) (fun _ h => h) dX2_makes_35 ?_
  obtain ⟨h_23, hw⟩ := hw
  refine sO_i (As := []) (rest := [.int x6]) C (met_J0_length_8abf5 vE vM hw) (va_Orecv (eX.s_obj (vM _ _ _ hE) h_23) hS) (cwV 0 hts (TB_G (TB_4 tw_2_47 tw_2_48 tw_2_49 tw_1_11) tw_2_50) rfl rfl rfl (by decide +kernel) ⟨by decide, by decide⟩) hS rfl hl.1 rfl (Nat.le_of_ble_eq_true rfl) dX2_makes_38 ⟨by decide, by decide⟩ (fun r_6 H locs hw hS => ?_)
  have hG := hS
  refine lv_icmp_ge (tgt := 135) hx hb dX2_makes_41 (by decide) (fun q_ => ?_) (fun q_ => ?_)
  · have hw := hw.1 q_
    refine lv_lload hx hb dX2_makes_135 (lv_at hl 2 rfl) ?_
    refine lv_lconst (v := 0) hx hb dX2_makes_137 (by decide) ?_
    refine W.lcmp hx hb dX2_makes_138 ?_
    refine lv_if_ne (tgt := 146) hx hb dX2_makes_139 (by decide) (fun q_ => ?_) (fun q_ => ?_)
    · have hw := hw.2 (fun z => q_ (lc_eq.mpr z))
      refine lv_iconst (v := 0) hx hb dX2_makes_146 (by decide) ?_
      exact kB_X2_makes_147 C vM 0 _ _ _ hG (lv_sub hl [] rfl) hw
    · have hw := hw.1 (lc_eq.mp q_)
      refine lv_iconst (v := 1) hx hb dX2_makes_142 (by decide) ?_
      refine lv_goto (tgt := 147) hx hb dX2_makes_143 (by decide) ?_
      exact kB_X2_makes_147 C vM 1 _ _ _ hG (lv_sub hl [] rfl) hw
  · have hw := hw.2 q_
    refine lv_aload_n hx hb dX2_makes_44 rfl (lv_at hl 0 rfl) ?_
    obtain ⟨h_9, hw⟩ := hw
    refine vk_getf hx hb (eX.o_parts (vM _ _ _ hE) h_9) hS hown (hts _ (List.mem_cons_of_mem _ tw_6_229)) (fun _ h => h) dX2_makes_45 ?_
    refine lv_iload hx hb dX2_makes_48 (lv_at hl 3 rfl) ?_
    obtain ⟨h_11, h_10, hw⟩ := hw
    refine sO_i (As := [.int x6]) (rest := []) C (met_J0_charAt vE (fun A U H z => eX.str (vM A U H z)) h_11 (post := fun r => r = sCh bytX (pxI e0) x6.toNatClampNeg) (in_nn h_10) (in_lt h_10 (lenX_lt _)) h_10 rfl) (va_Orecv (eX.s_obj (vM _ _ _ hE) h_11) hS) (cwV 1 hts (TB_G (TB_4 tw_2_56 tw_2_57 tw_2_58 tw_1_11) tw_2_59) rfl rfl rfl (by decide +kernel) ⟨by decide, by decide⟩) hS rfl hl.1 rfl (Nat.le_of_ble_eq_true rfl) dX2_makes_50 ⟨by decide, by decide⟩ (fun r_12 H locs er_12 hS => ?_)
    have hw := hw r_12 er_12
    have hG := hS
    refine lv_istore (lv' := [(7, .int r_12), (0, .ref (aE e0)), (1, .long x1), (4, .long x4), (6, .int x6)]) hx hb dX2_makes_53 hl (by decide) rfl (fun ls hl => ?_)
    refine lv_iload hx hb dX2_makes_55 (lv_at hl 0 rfl) ?_
    refine sS_i (As := [.int r_12]) (rest := []) C (met_X2_shiftOf vE vM hw) (va_cwS 1 hts (TB_G (TB_3 tw_2_94 tw_2_95 tw_1_19) tw_2_96) rfl rfl rfl (by decide +kernel) ⟨by decide, by decide⟩) hS rfl hl.1 rfl (Nat.le_of_ble_eq_true rfl) dX2_makes_57 ⟨by decide, by decide⟩ (fun r_13 H locs hw hS => ?_)
    have hG := hS
    refine lv_istore (lv' := [(8, .int r_13), (7, .int r_12), (0, .ref (aE e0)), (1, .long x1), (4, .long x4), (6, .int x6)]) hx hb dX2_makes_60 hl (by decide) rfl (fun ls hl => ?_)
    refine lv_iload hx hb dX2_makes_62 (lv_at hl 1 rfl) ?_
    refine lv_lload_n hx hb dX2_makes_64 rfl (lv_at hl 3 rfl) ?_
    refine sS_i (As := [.int r_12, .long x1]) (rest := []) C (met_X2_fieldOf vE vM hw) (va_cwS 2 hts (TB_G (TB_3 tw_2_97 tw_2_98 tw_1_19) tw_2_99) rfl rfl rfl (by decide +kernel) ⟨by decide, by decide⟩) hS rfl hl.1 rfl (Nat.le_of_ble_eq_true rfl) dX2_makes_65 ⟨by decide, by decide⟩ (fun r_15 H locs hw hS => ?_)
    have hG := hS
    refine lv_istore (lv' := [(9, .int r_15), (8, .int r_13), (7, .int r_12), (0, .ref (aE e0)), (1, .long x1), (4, .long x4), (6, .int x6)]) hx hb dX2_makes_68 hl (by decide) rfl (fun ls hl => ?_)
    refine lv_iload hx hb dX2_makes_70 (lv_at hl 1 rfl) ?_
    refine lv_iconst (v := (-1)) hx hb dX2_makes_72 (by decide) ?_
    refine lv_icmp_ne (tgt := 79) hx hb dX2_makes_73 (by decide) (fun q_ => ?_) (fun q_ => ?_)
    · have hw := hw.2 q_
      refine lv_iload hx hb dX2_makes_79 (lv_at hl 0 rfl) ?_
      refine lv_iload hx hb dX2_makes_81 (lv_at hl 2 rfl) ?_
      refine sS_i (As := [.int r_12]) (rest := [.int r_15]) C (met_X2_leastOf vE vM hw) (va_cwS 1 hts (TB_G (TB_3 tw_2_100 tw_2_101 tw_1_19) tw_2_102) rfl rfl rfl (by decide +kernel) ⟨by decide, by decide⟩) hS rfl hl.1 rfl (Nat.le_of_ble_eq_true rfl) dX2_makes_83 ⟨by decide, by decide⟩ (fun r_17 H locs hw hS => ?_)
      have hG := hS
      refine lv_icmp_lt (tgt := 99) hx hb dX2_makes_86 (by decide) (fun q_ => ?_) (fun q_ => ?_)
      · have hw := hw.1 q_
        exact kB_X2_makes_99 C vM  _ _ _ hG (lv_sub hl [] rfl) hw
      · have hw := hw.2 q_
        refine lv_iload hx hb dX2_makes_89 (lv_at hl 0 rfl) ?_
        refine lv_iload hx hb dX2_makes_91 (lv_at hl 2 rfl) ?_
        refine sS_i (As := [.int r_12]) (rest := [.int r_15]) C (met_X2_mostOf vE vM hw) (va_cwS 1 hts (TB_G (TB_3 tw_2_104 tw_2_105 tw_1_19) tw_2_106) rfl rfl rfl (by decide +kernel) ⟨by decide, by decide⟩) hS rfl hl.1 rfl (Nat.le_of_ble_eq_true rfl) dX2_makes_93 ⟨by decide, by decide⟩ (fun r_19 H locs hw hS => ?_)
        have hG := hS
        refine lv_icmp_le (tgt := 101) hx hb dX2_makes_96 (by decide) (fun q_ => ?_) (fun q_ => ?_)
        · have hw := hw.1 q_
          refine lv_lload hx hb dX2_makes_101 (lv_at hl 5 rfl) ?_
          refine lv_iload hx hb dX2_makes_103 (lv_at hl 1 rfl) ?_
          refine lv_bipush (v := 32) hx hb dX2_makes_105 (by decide) ?_
          refine lv_icmp_ne (tgt := 116) hx hb dX2_makes_107 (by decide) (fun q_ => ?_) (fun q_ => ?_)
          · have hw := hw.2 q_
            refine lv_ldc2 (v := 15) hx hb hown (hts _ (List.mem_cons_of_mem _ tw_2_45)) dX2_makes_116 ?_
            refine lv_iload hx hb dX2_makes_119 (lv_at hl 1 rfl) ?_
            refine lv_lshl hx hb dX2_makes_121 rfl ?_
            refine lv_ldc2 (v := (-1)) hx hb hown (hts _ (List.mem_cons_of_mem _ tw_2_115)) dX2_makes_122 ?_
            refine lv_lxor hx hb dX2_makes_125 ?_
            exact kB_X2_makes_126 C vM hk32 e0 x1 x6 (((15 : Int64) <<< (r_13.toInt64 &&& 63)) ^^^ (-1)) x4 _ _ _ hG (lv_sub hl [3, 4, 6] rfl) hw
          · have hw := hw.1 q_
            refine lv_ldc2 (v := 4294967295) hx hb hown (hts _ (List.mem_cons_of_mem _ tw_2_114)) dX2_makes_110 ?_
            refine lv_goto (tgt := 126) hx hb dX2_makes_113 (by decide) ?_
            exact kB_X2_makes_126 C vM hk32 e0 x1 x6 4294967295 x4 _ _ _ hG (lv_sub hl [3, 4, 6] rfl) hw
        · have hw := hw.2 q_
          exact kB_X2_makes_99 C vM  _ _ _ hG (lv_sub hl [] rfl) hw
    · have hw := hw.1 q_
      refine lv_goto (tgt := 129) hx hb dX2_makes_76 (by decide) ?_
      exact kB_X2_makes_129 C vM hk32 e0 x1 x4 x6 _ _ _ hG (lv_sub hl [3, 4, 5, 6] rfl) hw
theorem kL_X2_makes_32 {p : Program} {l : Launch} {e : Env} {s : State} {m : MethodId} {args : Array Value} {below : List Frame} {meth : Method} {c : Code} {A : Nat → Prop} {E : EnvT} {aK aV aE : Nat → Nat} {aO : Nat} (C : sCx p s m args meth c cX2_makes 10 (some .boolean) wgX2_makes RX2 E A) (vM : eXs aK aV aE aO E) {post : Int32 → Prop} :
    ∀ (n : Nat) (e0 : Nat) (x1 : Int64) (x4 : Int64) (x6 : Int32) (H : Heap) (locs : List Loc) (ls : Array Slot), va_S A s.heap H locs → lv_has ls 10 [(0, .ref (aE e0)), (1, .long x1), (4, .long x4), (6, .int x6)] → wL_X2_makes_32 post n e0 x1 x4 x6 → W p l e rm_X2_makes s m args below meth c H locs 0 0 (MQ below (va_Qi (S := Unit) (fun r _ => post r) (fun _ _ => True) A) args s 0 0 A) (F0 m 32 ls []) := by
  intro n
  induction n with
  | zero => intro e0 x1 x4 x6 H locs ls hG hl hw; exact hw.elim
  | succ n ih => exact kB_X2_makes_32 C vM ih
set_option maxHeartbeats 4000000 in
set_option maxRecDepth 100000 in
theorem kB_X2_makes_17 {p : Program} {l : Launch} {e : Env} {s : State} {m : MethodId} {args : Array Value} {below : List Frame} {meth : Method} {c : Code} {A : Nat → Prop} {E : EnvT} {aK aV aE : Nat → Nat} {aO : Nat} (C : sCx p s m args meth c cX2_makes 10 (some .boolean) wgX2_makes RX2 E A) (vM : eXs aK aV aE aO E) {post : Int32 → Prop} :
    ∀ (e0 : Nat) (x1 : Int64) (H : Heap) (locs : List Loc) (ls : Array Slot), va_S A s.heap H locs → lv_has ls 10 [(0, .ref (aE e0)), (1, .long x1)] → wB_X2_makes_17 post e0 x1 → W p l e rm_X2_makes s m args below meth c H locs 0 0 (MQ below (va_Qi (S := Unit) (fun r _ => post r) (fun _ _ => True) A) args s 0 0 A) (F0 m 17 ls []) := by
  obtain ⟨hx, hb, hml, hr, hown, hts, hA, hlk, hE, vE⟩ := id C
  intro e0 x1 H locs ls hG hl hw
  have hS := hG
  refine lv_lload_n hx hb dX2_makes_17 rfl (lv_at hl 1 rfl) ?_
  refine lv_aload_n hx hb dX2_makes_18 rfl (lv_at hl 0 rfl) ?_
  obtain ⟨h_3, hw⟩ := hw
  refine vk_getf hx hb (eX.o_base (vM _ _ _ hE) h_3) hS hown (hts _ (List.mem_cons_of_mem _ tw_6_228)) (fun _ h => h) dX2_makes_19 ?_
  refine lv_lxor hx hb dX2_makes_22 ?_
  refine lv_ldc2 (v := (-15728641)) hx hb hown (hts _ (List.mem_cons_of_mem _ tw_2_46)) dX2_makes_23 ?_
  refine lv_land hx hb dX2_makes_26 ?_
  refine lv_topl (fun x4_4 ex4_4 => ?_)
  have hw := hw x4_4 ex4_4
  refine lv_lstore (lv' := [(4, .long x4_4), (0, .ref (aE e0)), (1, .long x1)]) hx hb dX2_makes_27 hl (by decide) rfl (fun ls hl => ?_)
  refine lv_iconst (v := 0) hx hb dX2_makes_29 (by decide) ?_
  refine lv_istore (lv' := [(6, .int 0), (4, .long x4_4), (0, .ref (aE e0)), (1, .long x1)]) hx hb dX2_makes_30 hl (by decide) rfl (fun ls hl => ?_)
  obtain ⟨n_, hw⟩ := hw
  exact kL_X2_makes_32 C vM n_ e0 x1 x4_4 0 _ _ _ hG (lv_sub hl [2, 3, 1, 0] rfl) hw
set_option maxHeartbeats 4000000 in
set_option maxRecDepth 100000 in
theorem k_X2_makes {p : Program} {l : Launch} {e : Env} {s : State} {m : MethodId} {args : Array Value} {below : List Frame} {meth : Method} {c : Code} {A : Nat → Prop} {E : EnvT} {aK aV aE : Nat → Nat} {aO : Nat} (C : sCx p s m args meth c cX2_makes 10 (some .boolean) wgX2_makes RX2 E A) (vM : eXs aK aV aE aO E) {post : Int32 → Prop} :
    ∀ (e0 : Nat) (x1 : Int64) (H : Heap) (locs : List Loc) (ls : Array Slot), va_S A s.heap H locs → lv_has ls 10 [(0, .ref (aE e0)), (1, .long x1)] → wp_X2_makes post e0 x1 → W p l e rm_X2_makes s m args below meth c H locs 0 0 (MQ below (va_Qi (S := Unit) (fun r _ => post r) (fun _ _ => True) A) args s 0 0 A) (F0 m 0 ls []) := by
  obtain ⟨hx, hb, hml, hr, hown, hts, hA, hlk, hE, vE⟩ := id C
  intro e0 x1 H locs ls hG hl hw
  have hS := hG
  refine lv_lload_n hx hb dX2_makes_0 rfl (lv_at hl 1 rfl) ?_
  refine sS_i (As := [.long x1]) (rest := []) C (met_X2_guardOf vE vM hw) (va_cwS 1 hts (TB_G (TB_3 tw_2_42 tw_2_43 tw_1_19) tw_2_44) rfl rfl rfl (by decide +kernel) ⟨by decide, by decide⟩) hS rfl hl.1 rfl (Nat.le_of_ble_eq_true rfl) dX2_makes_1 ⟨by decide, by decide⟩ (fun r_1 H locs hw hS => ?_)
  have hG := hS
  refine lv_istore_n (lv' := [(3, .int r_1), (0, .ref (aE e0)), (1, .long x1)]) hx hb dX2_makes_4 rfl hl (by decide) rfl (fun ls hl => ?_)
  refine lv_iload_n hx hb dX2_makes_5 rfl (lv_at hl 0 rfl) ?_
  refine lv_if_le (tgt := 17) hx hb dX2_makes_6 (by decide) (fun q_ => ?_) (fun q_ => ?_)
  · have hw := hw.1 q_
    exact kB_X2_makes_17 C vM e0 x1 _ _ _ hG (lv_sub hl [1, 2] rfl) hw
  · have hw := hw.2 q_
    refine lv_iload_n hx hb dX2_makes_9 rfl (lv_at hl 0 rfl) ?_
    refine lv_bipush (v := 8) hx hb dX2_makes_10 (by decide) ?_
    refine lv_icmp_ge (tgt := 17) hx hb dX2_makes_12 (by decide) (fun q_ => ?_) (fun q_ => ?_)
    · have hw := hw.1 q_
      exact kB_X2_makes_17 C vM e0 x1 _ _ _ hG (lv_sub hl [1, 2] rfl) hw
    · have hw := hw.2 q_
      refine lv_iconst (v := 0) hx hb dX2_makes_15 (by decide) ?_
      exact W.zret (v := 0) (ty := .boolean) hx hb hr rfl (fun t ht hW => ⟨⟨_, (), rfl, hw, trivial⟩, hS.F ht⟩) hS.2.2 dX2_makes_16 hlk
set_option maxHeartbeats 4000000 in
set_option maxRecDepth 100000 in
theorem met_X2_makes {l : Launch} {E : EnvT} (vE : EnvOk E) {aK aV aE : Nat → Nat} {aO : Nat} (vM : eXs aK aV aE aO E) {sz : Nat} {e0 : Nat} {x1 : Int64} {post : Int32 → Prop} (hw : wp_X2_makes post e0 x1) : Met l yX2_makes wgX2_makes rm_X2_makes (va_Pc [.ref (aE e0), .long x1] (sPre E sz)) (va_Qi (S := Unit) (fun r _ => post r) (fun _ _ => True) (va_A [] sz)) 0 0 (va_A [] sz) := by
  refine Met.ofW (cc := cX2_makes) (maxL := 10) (ret := (some .boolean)) (by decide +kernel) rfl ?_
  intro p e s m args below meth c s₁ B hml hv
  obtain ⟨rfl, hsz, hE⟩ := hv
  subst hsz
  generalize hAe : va_A [] s.heap.size = A at hE ⊢
  have hA : ∀ q : Nat, s.heap.size ≤ q → A q := fun q h => by rw [← hAe]; exact Or.inr h
  have hS : va_S A s.heap s.heap [] := va_S.rf
  have C : sCx p s m _ meth c cX2_makes 10 (some .boolean) wgX2_makes RX2 E A := ⟨B.exec, B.bytes, hml, B.returns, findClass_of_methodNamed B.named, atoms_spec (ws := wgX2_makes) B.pre, hA, B.notSynchronized, hE, vE⟩
  have hG := hS
  have hl := lv_entry ([.ref (aE e0), .long x1]) (n := 10) (Nat.le_of_ble_eq_true rfl)
  rw [lg_entry_eq]
  generalize (lg_sl ([.ref (aE e0), .long x1]) ++ List.replicate (10 - (lg_sl ([.ref (aE e0), .long x1])).length) Slot.unset).toArray = ls at hl ⊢
  have hl : lv_has ls 10 [(0, .ref (aE e0)), (1, .long x1)] := hl
  exact k_X2_makes C vM e0 x1 _ _ _ hG hl hw
/-! ===== X2_of  ===== -/
def rm_X2_of : Room := { frames := 5, cells := 0, slots := 0, locals := 114 }
abbrev wgX2_of : List Cond := .code yX2_of cX2_of 3 (some (.object "KernelText$Op")) :: TB
def wB_X2_of_40 (post : Option Nat → Prop) (k2 : Int64 → Int32 → Prop) (x0 : Int64) (x2 : Int32) : Prop :=
  ∀ x2_4 : Int32, x2_4 = x2 + 1 → k2 x0 x2_4
def wB_X2_of_2 (post : Option Nat → Prop) (k2 : Int64 → Int32 → Prop) (x0 : Int64) (x2 : Int32) : Prop :=
  (53 ≤ x2 → (post none)) ∧ (¬ 53 ≤ x2 → (vp_in x2 53 ∧ ((x2.toNatClampNeg) < 53 ∧ wp_X2_hasCodeOf (fun r_2  => (r_2 = 0 → (wB_X2_of_40 post k2 x0 x2)) ∧ (¬ r_2 = 0 → (vp_in x2 53 ∧ ((x2.toNatClampNeg) < 53 ∧ wp_X2_makes (fun r_6  => (r_6 = 0 → (wB_X2_of_40 post k2 x0 x2)) ∧ (¬ r_6 = 0 → (vp_in x2 53 ∧ (post (some (x2.toNatClampNeg)))))) (x2.toNatClampNeg) x0)))) (x2.toNatClampNeg) x0)))
def wL_X2_of_2 (post : Option Nat → Prop) : Nat → Int64 → Int32 → Prop
  | 0 => fun _ _ => False
  | n + 1 => wB_X2_of_2 post (wL_X2_of_2 post n)
def wp_X2_of (post : Option Nat → Prop) (x0 : Int64) : Prop :=
  ∃ n, wL_X2_of_2 post n x0 0
set_option maxHeartbeats 4000000 in
set_option maxRecDepth 100000 in
theorem kB_X2_of_40 {p : Program} {l : Launch} {e : Env} {s : State} {m : MethodId} {args : Array Value} {below : List Frame} {meth : Method} {c : Code} {A : Nat → Prop} {E : EnvT} {aK aV aE : Nat → Nat} {aO : Nat} (C : sCx p s m args meth c cX2_of 3 (some (.object "KernelText$Op")) wgX2_of RX2 E A) (vM : eXs aK aV aE aO E) {post : Option Nat → Prop}
    {k2 : Int64 → Int32 → Prop} (hk2 : ∀ (x0 : Int64) (x2 : Int32) (H : Heap) (locs : List Loc) (ls : Array Slot), va_S A s.heap H locs → lv_has ls 3 [(0, .long x0), (2, .int x2)] → k2 x0 x2 → W p l e rm_X2_of s m args below meth c H locs 0 0 (MQ below (va_Qe aE (S := Unit) (fun r _ => post r) (fun _ _ => True) A) args s 0 0 A) (F0 m 2 ls [])) :
    ∀ (x0 : Int64) (x2 : Int32) (H : Heap) (locs : List Loc) (ls : Array Slot), va_S A s.heap H locs → lv_has ls 3 [(0, .long x0), (2, .int x2)] → wB_X2_of_40 post k2 x0 x2 → W p l e rm_X2_of s m args below meth c H locs 0 0 (MQ below (va_Qe aE (S := Unit) (fun r _ => post r) (fun _ _ => True) A) args s 0 0 A) (F0 m 40 ls []) := by
  obtain ⟨hx, hb, hml, hr, hown, hts, hA, hlk, hE, vE⟩ := id C
  intro x0 x2 H locs ls hG hl hw
  have hS := hG
  obtain ⟨x2_4, ex2_4⟩ : ∃ y : Int32, y = x2 + 1 := ⟨_, rfl⟩
  have hw := hw x2_4 ex2_4
  refine lv_iinc (v := x2_4) (lv' := [(2, .int x2_4), (0, .long x0)]) hx hb dX2_of_40 hl (k := 1) rfl (by rw [ex2_4]; rfl) (by decide) rfl (fun ls hl => ?_)
  refine lv_goto (tgt := 2) hx hb dX2_of_43 (by decide) ?_
  exact hk2 x0 x2_4 _ _ _ hG (lv_sub hl [1, 0] rfl) hw
set_option maxHeartbeats 4000000 in
set_option maxRecDepth 100000 in
theorem kB_X2_of_2 {p : Program} {l : Launch} {e : Env} {s : State} {m : MethodId} {args : Array Value} {below : List Frame} {meth : Method} {c : Code} {A : Nat → Prop} {E : EnvT} {aK aV aE : Nat → Nat} {aO : Nat} (C : sCx p s m args meth c cX2_of 3 (some (.object "KernelText$Op")) wgX2_of RX2 E A) (vM : eXs aK aV aE aO E) {post : Option Nat → Prop}
    {k2 : Int64 → Int32 → Prop} (hk2 : ∀ (x0 : Int64) (x2 : Int32) (H : Heap) (locs : List Loc) (ls : Array Slot), va_S A s.heap H locs → lv_has ls 3 [(0, .long x0), (2, .int x2)] → k2 x0 x2 → W p l e rm_X2_of s m args below meth c H locs 0 0 (MQ below (va_Qe aE (S := Unit) (fun r _ => post r) (fun _ _ => True) A) args s 0 0 A) (F0 m 2 ls [])) :
    ∀ (x0 : Int64) (x2 : Int32) (H : Heap) (locs : List Loc) (ls : Array Slot), va_S A s.heap H locs → lv_has ls 3 [(0, .long x0), (2, .int x2)] → wB_X2_of_2 post k2 x0 x2 → W p l e rm_X2_of s m args below meth c H locs 0 0 (MQ below (va_Qe aE (S := Unit) (fun r _ => post r) (fun _ _ => True) A) args s 0 0 A) (F0 m 2 ls []) := by
  obtain ⟨hx, hb, hml, hr, hown, hts, hA, hlk, hE, vE⟩ := id C
  intro x0 x2 H locs ls hG hl hw
  have hS := hG
  refine lv_iload_n hx hb dX2_of_2 rfl (lv_at hl 1 rfl) ?_
  refine va_getsN hx hb (eX.ops (vM _ _ _ hE)) hS hown (va_Nw.use rfl (eX.nest (vM _ _ _ hE))) (fun _ h => h) dX2_of_3 ?_
  refine va_tlen (v := 53) hx hb (eX.opsT (vM _ _ _ hE)) hS rfl dX2_of_6 ?_
  refine lv_icmp_ge (tgt := 46) hx hb dX2_of_7 (by decide) (fun q_ => ?_) (fun q_ => ?_)
  · have hw := hw.1 q_
    refine lv_null hx hb dX2_of_46 ?_
    exact W.aret (v := va_re aE (none)) hx hb hr (Or.inl ⟨_, rfl⟩) (va_re_or _ _) (fun t ht hW => ⟨⟨none, (), rfl, hw, trivial⟩, hS.F ht⟩) hS.2.2 dX2_of_47 hlk
  · have hw := hw.2 q_
    refine va_getsN hx hb (eX.ops (vM _ _ _ hE)) hS hown (va_Nw.use rfl (eX.nest (vM _ _ _ hE))) (fun _ h => h) dX2_of_10 ?_
    refine lv_iload_n hx hb dX2_of_13 rfl (lv_at hl 1 rfl) ?_
    obtain ⟨h_1, hw⟩ := hw
    refine vb_tq hx hb (eX.opsT (vM _ _ _ hE)) hS h_1 rfl dX2_of_14 ?_
    refine lv_lload_n hx hb dX2_of_15 rfl (lv_at hl 0 rfl) ?_
    obtain ⟨h_10, hw⟩ := hw
    refine sO_i (As := [.long x0]) (rest := []) C (met_X2_hasCodeOf vE vM hw) (va_Orecv (eX.o_obj (vM _ _ _ hE) h_10) hS) (cwV 1 hts (TB_G (TB_4 tw_2_32 tw_2_34 ts_0 tw_1_19) tw_2_36) rfl rfl rfl (by decide +kernel) ⟨by decide, by decide⟩) hS rfl hl.1 rfl (Nat.le_of_ble_eq_true rfl) dX2_of_16 ⟨by decide, by decide⟩ (fun r_2 H locs hw hS => ?_)
    have hG := hS
    refine lv_if_eq (tgt := 40) hx hb dX2_of_19 (by decide) (fun q_ => ?_) (fun q_ => ?_)
    · have hw := hw.1 q_
      exact kB_X2_of_40 C vM hk2 x0 x2 _ _ _ hG (lv_sub hl [0, 1] rfl) hw
    · have hw := hw.2 q_
      refine va_getsN hx hb (eX.ops (vM _ _ _ hE)) hS hown (va_Nw.use rfl (eX.nest (vM _ _ _ hE))) (fun _ h => h) dX2_of_22 ?_
      refine lv_iload_n hx hb dX2_of_25 rfl (lv_at hl 1 rfl) ?_
      obtain ⟨h_5, hw⟩ := hw
      refine vb_tq hx hb (eX.opsT (vM _ _ _ hE)) hS h_5 rfl dX2_of_26 ?_
      refine lv_lload_n hx hb dX2_of_27 rfl (lv_at hl 0 rfl) ?_
      obtain ⟨h_9, hw⟩ := hw
      refine sO_i (As := [.long x0]) (rest := []) C (met_X2_makes vE vM hw) (va_Orecv (eX.o_obj (vM _ _ _ hE) h_9) hS) (cwV 1 hts (TB_G (TB_4 tw_2_38 tw_2_40 ts_1 tw_1_19) tw_2_41) rfl rfl rfl (by decide +kernel) ⟨by decide, by decide⟩) hS rfl hl.1 rfl (Nat.le_of_ble_eq_true rfl) dX2_of_28 ⟨by decide, by decide⟩ (fun r_6 H locs hw hS => ?_)
      have hG := hS
      refine lv_if_eq (tgt := 40) hx hb dX2_of_31 (by decide) (fun q_ => ?_) (fun q_ => ?_)
      · have hw := hw.1 q_
        exact kB_X2_of_40 C vM hk2 x0 x2 _ _ _ hG (lv_sub hl [0, 1] rfl) hw
      · have hw := hw.2 q_
        refine va_getsN hx hb (eX.ops (vM _ _ _ hE)) hS hown (va_Nw.use rfl (eX.nest (vM _ _ _ hE))) (fun _ h => h) dX2_of_34 ?_
        refine lv_iload_n hx hb dX2_of_37 rfl (lv_at hl 1 rfl) ?_
        obtain ⟨h_8, hw⟩ := hw
        refine vb_tq hx hb (eX.opsT (vM _ _ _ hE)) hS h_8 rfl dX2_of_38 ?_
        exact W.aret (v := va_re aE (some (x2.toNatClampNeg))) hx hb hr (Or.inl ⟨_, rfl⟩) (va_re_or _ _) (fun t ht hW => ⟨⟨some (x2.toNatClampNeg), (), rfl, hw, trivial⟩, hS.F ht⟩) hS.2.2 dX2_of_39 hlk
theorem kL_X2_of_2 {p : Program} {l : Launch} {e : Env} {s : State} {m : MethodId} {args : Array Value} {below : List Frame} {meth : Method} {c : Code} {A : Nat → Prop} {E : EnvT} {aK aV aE : Nat → Nat} {aO : Nat} (C : sCx p s m args meth c cX2_of 3 (some (.object "KernelText$Op")) wgX2_of RX2 E A) (vM : eXs aK aV aE aO E) {post : Option Nat → Prop} :
    ∀ (n : Nat) (x0 : Int64) (x2 : Int32) (H : Heap) (locs : List Loc) (ls : Array Slot), va_S A s.heap H locs → lv_has ls 3 [(0, .long x0), (2, .int x2)] → wL_X2_of_2 post n x0 x2 → W p l e rm_X2_of s m args below meth c H locs 0 0 (MQ below (va_Qe aE (S := Unit) (fun r _ => post r) (fun _ _ => True) A) args s 0 0 A) (F0 m 2 ls []) := by
  intro n
  induction n with
  | zero => intro x0 x2 H locs ls hG hl hw; exact hw.elim
  | succ n ih => exact kB_X2_of_2 C vM ih
set_option maxHeartbeats 4000000 in
set_option maxRecDepth 100000 in
theorem k_X2_of {p : Program} {l : Launch} {e : Env} {s : State} {m : MethodId} {args : Array Value} {below : List Frame} {meth : Method} {c : Code} {A : Nat → Prop} {E : EnvT} {aK aV aE : Nat → Nat} {aO : Nat} (C : sCx p s m args meth c cX2_of 3 (some (.object "KernelText$Op")) wgX2_of RX2 E A) (vM : eXs aK aV aE aO E) {post : Option Nat → Prop} :
    ∀ (x0 : Int64) (H : Heap) (locs : List Loc) (ls : Array Slot), va_S A s.heap H locs → lv_has ls 3 [(0, .long x0)] → wp_X2_of post x0 → W p l e rm_X2_of s m args below meth c H locs 0 0 (MQ below (va_Qe aE (S := Unit) (fun r _ => post r) (fun _ _ => True) A) args s 0 0 A) (F0 m 0 ls []) := by
  obtain ⟨hx, hb, hml, hr, hown, hts, hA, hlk, hE, vE⟩ := id C
  intro x0 H locs ls hG hl hw
  have hS := hG
  refine lv_iconst (v := 0) hx hb dX2_of_0 (by decide) ?_
  refine lv_istore_n (lv' := [(2, .int 0), (0, .long x0)]) hx hb dX2_of_1 rfl hl (by decide) rfl (fun ls hl => ?_)
  obtain ⟨n_, hw⟩ := hw
  exact kL_X2_of_2 C vM n_ x0 0 _ _ _ hG (lv_sub hl [1, 0] rfl) hw
set_option maxHeartbeats 4000000 in
set_option maxRecDepth 100000 in
theorem met_X2_of {l : Launch} {E : EnvT} (vE : EnvOk E) {aK aV aE : Nat → Nat} {aO : Nat} (vM : eXs aK aV aE aO E) {sz : Nat} {x0 : Int64} {post : Option Nat → Prop} (hw : wp_X2_of post x0) : Met l yX2_of wgX2_of rm_X2_of (va_Pc [.long x0] (sPre E sz)) (va_Qe aE (S := Unit) (fun r _ => post r) (fun _ _ => True) (va_A [] sz)) 0 0 (va_A [] sz) := by
  refine Met.ofW (cc := cX2_of) (maxL := 3) (ret := (some (.object "KernelText$Op"))) (by decide +kernel) rfl ?_
  intro p e s m args below meth c s₁ B hml hv
  obtain ⟨rfl, hsz, hE⟩ := hv
  subst hsz
  generalize hAe : va_A [] s.heap.size = A at hE ⊢
  have hA : ∀ q : Nat, s.heap.size ≤ q → A q := fun q h => by rw [← hAe]; exact Or.inr h
  have hS : va_S A s.heap s.heap [] := va_S.rf
  have C : sCx p s m _ meth c cX2_of 3 (some (.object "KernelText$Op")) wgX2_of RX2 E A := ⟨B.exec, B.bytes, hml, B.returns, findClass_of_methodNamed B.named, atoms_spec (ws := wgX2_of) B.pre, hA, B.notSynchronized, hE, vE⟩
  have hG := hS
  have hl := lv_entry ([.long x0]) (n := 3) (Nat.le_of_ble_eq_true rfl)
  rw [lg_entry_eq]
  generalize (lg_sl ([.long x0]) ++ List.replicate (3 - (lg_sl ([.long x0])).length) Slot.unset).toArray = ls at hl ⊢
  have hl : lv_has ls 3 [(0, .long x0)] := hl
  exact k_X2_of C vM x0 _ _ _ hG hl hw
/-! ===== X2_isGuarded  ===== -/
def rm_X2_isGuarded : Room := { frames := 0, cells := 0, slots := 0, locals := 0 }
abbrev wgX2_isGuarded : List Cond := .code yX2_isGuarded cX2_isGuarded 2 (some .boolean) :: TB
def wB_X2_isGuarded_18 (post : Int32 → Prop) (t0 : Int32) : Prop :=
  isB t0 ∧ (post t0)
def wp_X2_isGuarded (post : Int32 → Prop) (x0 : Int64) : Prop :=
  (((x0 >>> ((20 : Int32).toInt64 &&& 63)) &&& 15) = 0 → (wB_X2_isGuarded_18 post 0)) ∧ (¬ ((x0 >>> ((20 : Int32).toInt64 &&& 63)) &&& 15) = 0 → (wB_X2_isGuarded_18 post 1))
set_option maxHeartbeats 4000000 in
set_option maxRecDepth 100000 in
theorem kB_X2_isGuarded_18 {p : Program} {l : Launch} {e : Env} {s : State} {m : MethodId} {args : Array Value} {below : List Frame} {meth : Method} {c : Code} {A : Nat → Prop} {E : EnvT} {aK aV aE : Nat → Nat} {aO : Nat} (C : sCx p s m args meth c cX2_isGuarded 2 (some .boolean) wgX2_isGuarded RX2 E A) (vM : eXs aK aV aE aO E) {post : Int32 → Prop} :
    ∀ (t0 : Int32) (H : Heap) (locs : List Loc) (ls : Array Slot), va_S A s.heap H locs → lv_has ls 2 [] → wB_X2_isGuarded_18 post t0 → W p l e rm_X2_isGuarded s m args below meth c H locs 0 0 (MQ below (va_Qi (S := Unit) (fun r _ => post r) (fun _ _ => True) A) args s 0 0 A) (F0 m 18 ls [.int t0]) := by
  obtain ⟨hx, hb, hml, hr, hown, hts, hA, hlk, hE, vE⟩ := id C
  intro t0 H locs ls hG hl hw
  have hS := hG
  obtain ⟨h_1, hw⟩ := hw
  exact W.zret (v := t0) (ty := .boolean) hx hb hr (isB.n h_1) (fun t ht hW => ⟨⟨_, (), rfl, hw, trivial⟩, hS.F ht⟩) hS.2.2 dX2_isGuarded_18 hlk
set_option maxHeartbeats 4000000 in
set_option maxRecDepth 100000 in
theorem k_X2_isGuarded {p : Program} {l : Launch} {e : Env} {s : State} {m : MethodId} {args : Array Value} {below : List Frame} {meth : Method} {c : Code} {A : Nat → Prop} {E : EnvT} {aK aV aE : Nat → Nat} {aO : Nat} (C : sCx p s m args meth c cX2_isGuarded 2 (some .boolean) wgX2_isGuarded RX2 E A) (vM : eXs aK aV aE aO E) {post : Int32 → Prop} :
    ∀ (x0 : Int64) (H : Heap) (locs : List Loc) (ls : Array Slot), va_S A s.heap H locs → lv_has ls 2 [(0, .long x0)] → wp_X2_isGuarded post x0 → W p l e rm_X2_isGuarded s m args below meth c H locs 0 0 (MQ below (va_Qi (S := Unit) (fun r _ => post r) (fun _ _ => True) A) args s 0 0 A) (F0 m 0 ls []) := by
  obtain ⟨hx, hb, hml, hr, hown, hts, hA, hlk, hE, vE⟩ := id C
  intro x0 H locs ls hG hl hw
  have hS := hG
  refine lv_lload_n hx hb dX2_isGuarded_0 rfl (lv_at hl 0 rfl) ?_
  refine lv_bipush (v := 20) hx hb dX2_isGuarded_1 (by decide) ?_
  refine lv_lshr hx hb dX2_isGuarded_3 rfl ?_
  refine lv_ldc2 (v := 15) hx hb hown (hts _ (List.mem_cons_of_mem _ tw_2_45)) dX2_isGuarded_4 ?_
  refine lv_land hx hb dX2_isGuarded_7 ?_
  refine lv_lconst (v := 0) hx hb dX2_isGuarded_8 (by decide) ?_
  refine W.lcmp hx hb dX2_isGuarded_9 ?_
  refine lv_if_eq (tgt := 17) hx hb dX2_isGuarded_10 (by decide) (fun q_ => ?_) (fun q_ => ?_)
  · have hw := hw.1 (lc_eq.mp q_)
    refine lv_iconst (v := 0) hx hb dX2_isGuarded_17 (by decide) ?_
    exact kB_X2_isGuarded_18 C vM 0 _ _ _ hG (lv_sub hl [] rfl) hw
  · have hw := hw.2 (fun z => q_ (lc_eq.mpr z))
    refine lv_iconst (v := 1) hx hb dX2_isGuarded_13 (by decide) ?_
    refine lv_goto (tgt := 18) hx hb dX2_isGuarded_14 (by decide) ?_
    exact kB_X2_isGuarded_18 C vM 1 _ _ _ hG (lv_sub hl [] rfl) hw
set_option maxHeartbeats 4000000 in
set_option maxRecDepth 100000 in
theorem met_X2_isGuarded {l : Launch} {E : EnvT} (vE : EnvOk E) {aK aV aE : Nat → Nat} {aO : Nat} (vM : eXs aK aV aE aO E) {sz : Nat} {x0 : Int64} {post : Int32 → Prop} (hw : wp_X2_isGuarded post x0) : Met l yX2_isGuarded wgX2_isGuarded rm_X2_isGuarded (va_Pc [.long x0] (sPre E sz)) (va_Qi (S := Unit) (fun r _ => post r) (fun _ _ => True) (va_A [] sz)) 0 0 (va_A [] sz) := by
  refine Met.ofW (cc := cX2_isGuarded) (maxL := 2) (ret := (some .boolean)) (by decide +kernel) rfl ?_
  intro p e s m args below meth c s₁ B hml hv
  obtain ⟨rfl, hsz, hE⟩ := hv
  subst hsz
  generalize hAe : va_A [] s.heap.size = A at hE ⊢
  have hA : ∀ q : Nat, s.heap.size ≤ q → A q := fun q h => by rw [← hAe]; exact Or.inr h
  have hS : va_S A s.heap s.heap [] := va_S.rf
  have C : sCx p s m _ meth c cX2_isGuarded 2 (some .boolean) wgX2_isGuarded RX2 E A := ⟨B.exec, B.bytes, hml, B.returns, findClass_of_methodNamed B.named, atoms_spec (ws := wgX2_isGuarded) B.pre, hA, B.notSynchronized, hE, vE⟩
  have hG := hS
  have hl := lv_entry ([.long x0]) (n := 2) (Nat.le_of_ble_eq_true rfl)
  rw [lg_entry_eq]
  generalize (lg_sl ([.long x0]) ++ List.replicate (2 - (lg_sl ([.long x0])).length) Slot.unset).toArray = ls at hl ⊢
  have hl : lv_has ls 2 [(0, .long x0)] := hl
  exact k_X2_isGuarded C vM x0 _ _ _ hG hl hw
/-! ===== X2_bitOf  ===== -/
def rm_X2_bitOf : Room := { frames := 2, cells := 0, slots := 0, locals := 43 }
abbrev wgX2_bitOf : List Cond := .code yX2_bitOf cX2_bitOf 3 (some .int) :: TB
def wB_X2_bitOf_14 (post : Int32 → Prop) (x0 : Int32) (x1 : Int64) (t0 : Int32) (t1 : Int32) : Prop :=
  wp_X2_fieldOf (fun r_3  => post (t1 <<< ((t0 + r_3) &&& 31))) x0 x1
def wp_X2_bitOf (post : Int32 → Prop) (x0 : Int32) (x1 : Int64) : Prop :=
  wp_X2_isPredicate (fun r_1  => (r_1 = 0 → (wB_X2_bitOf_14 post x0 x1 0 1)) ∧ (¬ r_1 = 0 → (wB_X2_bitOf_14 post x0 x1 16 1))) x0
set_option maxHeartbeats 4000000 in
set_option maxRecDepth 100000 in
theorem kB_X2_bitOf_14 {p : Program} {l : Launch} {e : Env} {s : State} {m : MethodId} {args : Array Value} {below : List Frame} {meth : Method} {c : Code} {A : Nat → Prop} {E : EnvT} {aK aV aE : Nat → Nat} {aO : Nat} (C : sCx p s m args meth c cX2_bitOf 3 (some .int) wgX2_bitOf RX2 E A) (vM : eXs aK aV aE aO E) {post : Int32 → Prop} :
    ∀ (x0 : Int32) (x1 : Int64) (t0 : Int32) (t1 : Int32) (H : Heap) (locs : List Loc) (ls : Array Slot), va_S A s.heap H locs → lv_has ls 3 [(0, .int x0), (1, .long x1)] → wB_X2_bitOf_14 post x0 x1 t0 t1 → W p l e rm_X2_bitOf s m args below meth c H locs 0 0 (MQ below (va_Qi (S := Unit) (fun r _ => post r) (fun _ _ => True) A) args s 0 0 A) (F0 m 14 ls [.int t0, .int t1]) := by
  obtain ⟨hx, hb, hml, hr, hown, hts, hA, hlk, hE, vE⟩ := id C
  intro x0 x1 t0 t1 H locs ls hG hl hw
  have hS := hG
  refine lv_iload_n hx hb dX2_bitOf_14 rfl (lv_at hl 0 rfl) ?_
  refine lv_lload_n hx hb dX2_bitOf_15 rfl (lv_at hl 1 rfl) ?_
  refine sS_i (As := [.int x0, .long x1]) (rest := [.int t0, .int t1]) C (met_X2_fieldOf vE vM hw) (va_cwS 2 hts (TB_G (TB_3 tw_2_97 tw_2_98 tw_1_19) tw_2_99) rfl rfl rfl (by decide +kernel) ⟨by decide, by decide⟩) hS rfl hl.1 rfl (Nat.le_of_ble_eq_true rfl) dX2_bitOf_16 ⟨by decide, by decide⟩ (fun r_3 H locs hw hS => ?_)
  have hG := hS
  refine lv_iadd hx hb dX2_bitOf_19 ?_
  refine lv_ishl hx hb dX2_bitOf_20 ?_
  exact W.iret (v := t1 <<< ((t0 + r_3) &&& 31)) hx hb hr (fun t ht hW => ⟨⟨_, (), rfl, hw, trivial⟩, hS.F ht⟩) hS.2.2 dX2_bitOf_21 hlk
set_option maxHeartbeats 4000000 in
set_option maxRecDepth 100000 in
theorem k_X2_bitOf {p : Program} {l : Launch} {e : Env} {s : State} {m : MethodId} {args : Array Value} {below : List Frame} {meth : Method} {c : Code} {A : Nat → Prop} {E : EnvT} {aK aV aE : Nat → Nat} {aO : Nat} (C : sCx p s m args meth c cX2_bitOf 3 (some .int) wgX2_bitOf RX2 E A) (vM : eXs aK aV aE aO E) {post : Int32 → Prop} :
    ∀ (x0 : Int32) (x1 : Int64) (H : Heap) (locs : List Loc) (ls : Array Slot), va_S A s.heap H locs → lv_has ls 3 [(0, .int x0), (1, .long x1)] → wp_X2_bitOf post x0 x1 → W p l e rm_X2_bitOf s m args below meth c H locs 0 0 (MQ below (va_Qi (S := Unit) (fun r _ => post r) (fun _ _ => True) A) args s 0 0 A) (F0 m 0 ls []) := by
  obtain ⟨hx, hb, hml, hr, hown, hts, hA, hlk, hE, vE⟩ := id C
  intro x0 x1 H locs ls hG hl hw
  have hS := hG
  refine lv_iconst (v := 1) hx hb dX2_bitOf_0 (by decide) ?_
  refine lv_iload_n hx hb dX2_bitOf_1 rfl (lv_at hl 0 rfl) ?_
  refine sS_i (As := [.int x0]) (rest := [.int 1]) C (met_X2_isPredicate vE vM hw) (va_cwS 1 hts (TB_G (TB_3 tw_2_110 tw_2_111 tw_1_19) tw_2_112) rfl rfl rfl (by decide +kernel) ⟨by decide, by decide⟩) hS rfl hl.1 rfl (Nat.le_of_ble_eq_true rfl) dX2_bitOf_2 ⟨by decide, by decide⟩ (fun r_1 H locs hw hS => ?_)
  have hG := hS
  refine lv_if_eq (tgt := 13) hx hb dX2_bitOf_5 (by decide) (fun q_ => ?_) (fun q_ => ?_)
  · have hw := hw.1 q_
    refine lv_iconst (v := 0) hx hb dX2_bitOf_13 (by decide) ?_
    exact kB_X2_bitOf_14 C vM x0 x1 0 1 _ _ _ hG (lv_sub hl [0, 1] rfl) hw
  · have hw := hw.2 q_
    refine lv_bipush (v := 16) hx hb dX2_bitOf_8 (by decide) ?_
    refine lv_goto (tgt := 14) hx hb dX2_bitOf_10 (by decide) ?_
    exact kB_X2_bitOf_14 C vM x0 x1 16 1 _ _ _ hG (lv_sub hl [0, 1] rfl) hw
set_option maxHeartbeats 4000000 in
set_option maxRecDepth 100000 in
theorem met_X2_bitOf {l : Launch} {E : EnvT} (vE : EnvOk E) {aK aV aE : Nat → Nat} {aO : Nat} (vM : eXs aK aV aE aO E) {sz : Nat} {x0 : Int32} {x1 : Int64} {post : Int32 → Prop} (hw : wp_X2_bitOf post x0 x1) : Met l yX2_bitOf wgX2_bitOf rm_X2_bitOf (va_Pc [.int x0, .long x1] (sPre E sz)) (va_Qi (S := Unit) (fun r _ => post r) (fun _ _ => True) (va_A [] sz)) 0 0 (va_A [] sz) := by
  refine Met.ofW (cc := cX2_bitOf) (maxL := 3) (ret := (some .int)) (by decide +kernel) rfl ?_
  intro p e s m args below meth c s₁ B hml hv
  obtain ⟨rfl, hsz, hE⟩ := hv
  subst hsz
  generalize hAe : va_A [] s.heap.size = A at hE ⊢
  have hA : ∀ q : Nat, s.heap.size ≤ q → A q := fun q h => by rw [← hAe]; exact Or.inr h
  have hS : va_S A s.heap s.heap [] := va_S.rf
  have C : sCx p s m _ meth c cX2_bitOf 3 (some .int) wgX2_bitOf RX2 E A := ⟨B.exec, B.bytes, hml, B.returns, findClass_of_methodNamed B.named, atoms_spec (ws := wgX2_bitOf) B.pre, hA, B.notSynchronized, hE, vE⟩
  have hG := hS
  have hl := lv_entry ([.int x0, .long x1]) (n := 3) (Nat.le_of_ble_eq_true rfl)
  rw [lg_entry_eq]
  generalize (lg_sl ([.int x0, .long x1]) ++ List.replicate (3 - (lg_sl ([.int x0, .long x1])).length) Slot.unset).toArray = ls at hl ⊢
  have hl : lv_has ls 3 [(0, .int x0), (1, .long x1)] := hl
  exact k_X2_bitOf C vM x0 x1 _ _ _ hG hl hw
/-! ===== X2_isJump op ===== -/
def rm_X2_isJump : Room := { frames := 0, cells := 0, slots := 0, locals := 0 }
abbrev wgX2_isJump : List Cond := .code yX2_isJump cX2_isJump 1 (some .boolean) :: TB
def wB_X2_isJump_19 (post : Int32 → Prop) (t0 : Int32) : Prop :=
  isB t0 ∧ (post t0)
def wB_X2_isJump_14 (post : Int32 → Prop) : Prop :=
  wB_X2_isJump_19 post 1
def wp_X2_isJump (post : Int32 → Prop) (e0 : Nat) : Prop :=
  e0 < 53 ∧ ((e0 = 36 → (wB_X2_isJump_14 post)) ∧ (¬ e0 = 36 → (e0 < 53 ∧ ((e0 = 37 → (wB_X2_isJump_14 post)) ∧ (¬ e0 = 37 → (wB_X2_isJump_19 post 0))))))
set_option maxHeartbeats 4000000 in
set_option maxRecDepth 100000 in
theorem kB_X2_isJump_19 {p : Program} {l : Launch} {e : Env} {s : State} {m : MethodId} {args : Array Value} {below : List Frame} {meth : Method} {c : Code} {A : Nat → Prop} {E : EnvT} {aK aV aE : Nat → Nat} {aO : Nat} (C : sCx p s m args meth c cX2_isJump 1 (some .boolean) wgX2_isJump RX2 E A) (vM : eXs aK aV aE aO E) {post : Int32 → Prop} :
    ∀ (t0 : Int32) (H : Heap) (locs : List Loc) (ls : Array Slot), va_S A s.heap H locs → lv_has ls 1 [] → wB_X2_isJump_19 post t0 → W p l e rm_X2_isJump s m args below meth c H locs 0 0 (MQ below (va_Qi (S := Unit) (fun r _ => post r) (fun _ _ => True) A) args s 0 0 A) (F0 m 19 ls [.int t0]) := by
  obtain ⟨hx, hb, hml, hr, hown, hts, hA, hlk, hE, vE⟩ := id C
  intro t0 H locs ls hG hl hw
  have hS := hG
  obtain ⟨h_1, hw⟩ := hw
  exact W.zret (v := t0) (ty := .boolean) hx hb hr (isB.n h_1) (fun t ht hW => ⟨⟨_, (), rfl, hw, trivial⟩, hS.F ht⟩) hS.2.2 dX2_isJump_19 hlk
set_option maxHeartbeats 4000000 in
set_option maxRecDepth 100000 in
theorem kB_X2_isJump_14 {p : Program} {l : Launch} {e : Env} {s : State} {m : MethodId} {args : Array Value} {below : List Frame} {meth : Method} {c : Code} {A : Nat → Prop} {E : EnvT} {aK aV aE : Nat → Nat} {aO : Nat} (C : sCx p s m args meth c cX2_isJump 1 (some .boolean) wgX2_isJump RX2 E A) (vM : eXs aK aV aE aO E) {post : Int32 → Prop} :
    ∀ (H : Heap) (locs : List Loc) (ls : Array Slot), va_S A s.heap H locs → lv_has ls 1 [] → wB_X2_isJump_14 post → W p l e rm_X2_isJump s m args below meth c H locs 0 0 (MQ below (va_Qi (S := Unit) (fun r _ => post r) (fun _ _ => True) A) args s 0 0 A) (F0 m 14 ls []) := by
  obtain ⟨hx, hb, hml, hr, hown, hts, hA, hlk, hE, vE⟩ := id C
  intro H locs ls hG hl hw
  have hS := hG
  refine lv_iconst (v := 1) hx hb dX2_isJump_14 (by decide) ?_
  refine lv_goto (tgt := 19) hx hb dX2_isJump_15 (by decide) ?_
  exact kB_X2_isJump_19 C vM 1 _ _ _ hG (lv_sub hl [] rfl) hw
set_option maxHeartbeats 4000000 in
set_option maxRecDepth 100000 in
theorem k_X2_isJump {p : Program} {l : Launch} {e : Env} {s : State} {m : MethodId} {args : Array Value} {below : List Frame} {meth : Method} {c : Code} {A : Nat → Prop} {E : EnvT} {aK aV aE : Nat → Nat} {aO : Nat} (C : sCx p s m args meth c cX2_isJump 1 (some .boolean) wgX2_isJump RX2 E A) (vM : eXs aK aV aE aO E) {post : Int32 → Prop} :
    ∀ (e0 : Nat) (H : Heap) (locs : List Loc) (ls : Array Slot), va_S A s.heap H locs → lv_has ls 1 [(0, .ref (aE e0))] → wp_X2_isJump post e0 → W p l e rm_X2_isJump s m args below meth c H locs 0 0 (MQ below (va_Qi (S := Unit) (fun r _ => post r) (fun _ _ => True) A) args s 0 0 A) (F0 m 0 ls []) := by
  obtain ⟨hx, hb, hml, hr, hown, hts, hA, hlk, hE, vE⟩ := id C
  intro e0 H locs ls hG hl hw
  have hS := hG
  refine lv_aload_n hx hb dX2_isJump_0 rfl (lv_at hl 0 rfl) ?_
  refine va_gets hx hb (eX.c_GO (vM _ _ _ hE)) hS hown (hts _ (List.mem_cons_of_mem _ tw_4_44)) (fun _ h => h) dX2_isJump_1 ?_
  obtain ⟨h_3, hw⟩ := hw
  refine lv_acmp_eq (rx := some (aE e0)) (ry := some (aE 36)) (tgt := 14) hx hb dX2_isJump_4 (by decide) (fun q_ => ?_) (fun q_ => ?_)
  · have hw := hw.1 (op_in vM hE h_3 (by decide) q_)
    exact kB_X2_isJump_14 C vM  _ _ _ hG (lv_sub hl [] rfl) hw
  · have hw := hw.2 (fun z => q_ (op_eq z))
    refine lv_aload_n hx hb dX2_isJump_7 rfl (lv_at hl 0 rfl) ?_
    refine va_gets hx hb (eX.c_CALL (vM _ _ _ hE)) hS hown (hts _ (List.mem_cons_of_mem _ tw_4_46)) (fun _ h => h) dX2_isJump_8 ?_
    obtain ⟨h_2, hw⟩ := hw
    refine lv_acmp_ne (rx := some (aE e0)) (ry := some (aE 37)) (tgt := 18) hx hb dX2_isJump_11 (by decide) (fun q_ => ?_) (fun q_ => ?_)
    · have hw := hw.2 (fun z => q_ (op_eq z))
      refine lv_iconst (v := 0) hx hb dX2_isJump_18 (by decide) ?_
      exact kB_X2_isJump_19 C vM 0 _ _ _ hG (lv_sub hl [] rfl) hw
    · have hw := hw.1 (op_in vM hE h_2 (by decide) q_)
      exact kB_X2_isJump_14 C vM  _ _ _ hG (lv_sub hl [] rfl) hw
set_option maxHeartbeats 4000000 in
set_option maxRecDepth 100000 in
theorem met_X2_isJump {l : Launch} {E : EnvT} (vE : EnvOk E) {aK aV aE : Nat → Nat} {aO : Nat} (vM : eXs aK aV aE aO E) {sz : Nat} {e0 : Nat} {post : Int32 → Prop} (hw : wp_X2_isJump post e0) : Met l yX2_isJump wgX2_isJump rm_X2_isJump (va_Pc [.ref (aE e0)] (sPre E sz)) (va_Qi (S := Unit) (fun r _ => post r) (fun _ _ => True) (va_A [] sz)) 0 0 (va_A [] sz) := by
  refine Met.ofW (cc := cX2_isJump) (maxL := 1) (ret := (some .boolean)) (by decide +kernel) rfl ?_
  intro p e s m args below meth c s₁ B hml hv
  obtain ⟨rfl, hsz, hE⟩ := hv
  subst hsz
  generalize hAe : va_A [] s.heap.size = A at hE ⊢
  have hA : ∀ q : Nat, s.heap.size ≤ q → A q := fun q h => by rw [← hAe]; exact Or.inr h
  have hS : va_S A s.heap s.heap [] := va_S.rf
  have C : sCx p s m _ meth c cX2_isJump 1 (some .boolean) wgX2_isJump RX2 E A := ⟨B.exec, B.bytes, hml, B.returns, findClass_of_methodNamed B.named, atoms_spec (ws := wgX2_isJump) B.pre, hA, B.notSynchronized, hE, vE⟩
  have hG := hS
  have hl := lv_entry ([.ref (aE e0)]) (n := 1) (Nat.le_of_ble_eq_true rfl)
  rw [lg_entry_eq]
  generalize (lg_sl ([.ref (aE e0)]) ++ List.replicate (1 - (lg_sl ([.ref (aE e0)])).length) Slot.unset).toArray = ls at hl ⊢
  have hl : lv_has ls 1 [(0, .ref (aE e0))] := hl
  exact k_X2_isJump C vM e0 _ _ _ hG hl hw
/-! ===== X2_amountPart op ===== -/
def rm_X2_amountPart : Room := { frames := 1, cells := 0, slots := 0, locals := 20 }
abbrev wgX2_amountPart : List Cond := .code yX2_amountPart cX2_amountPart 1 (some .char) :: TB
def wB_X2_amountPart_14 (post : Int32 → Prop) (t0 : Int32) : Prop :=
  isC t0 ∧ (post t0)
def wp_X2_amountPart (post : Int32 → Prop) (e0 : Nat) : Prop :=
  e0 < 53 ∧ wp_X2_isJump (fun r_1  => (r_1 = 0 → (wB_X2_amountPart_14 post 110)) ∧ (¬ r_1 = 0 → (wB_X2_amountPart_14 post 116))) e0
set_option maxHeartbeats 4000000 in
set_option maxRecDepth 100000 in
theorem kB_X2_amountPart_14 {p : Program} {l : Launch} {e : Env} {s : State} {m : MethodId} {args : Array Value} {below : List Frame} {meth : Method} {c : Code} {A : Nat → Prop} {E : EnvT} {aK aV aE : Nat → Nat} {aO : Nat} (C : sCx p s m args meth c cX2_amountPart 1 (some .char) wgX2_amountPart RX2 E A) (vM : eXs aK aV aE aO E) {post : Int32 → Prop} :
    ∀ (t0 : Int32) (H : Heap) (locs : List Loc) (ls : Array Slot), va_S A s.heap H locs → lv_has ls 1 [] → wB_X2_amountPart_14 post t0 → W p l e rm_X2_amountPart s m args below meth c H locs 0 0 (MQ below (va_Qi (S := Unit) (fun r _ => post r) (fun _ _ => True) A) args s 0 0 A) (F0 m 14 ls [.int t0]) := by
  obtain ⟨hx, hb, hml, hr, hown, hts, hA, hlk, hE, vE⟩ := id C
  intro t0 H locs ls hG hl hw
  have hS := hG
  obtain ⟨h_3, hw⟩ := hw
  exact W.zret (v := t0) (ty := .char) hx hb hr h_3 (fun t ht hW => ⟨⟨_, (), rfl, hw, trivial⟩, hS.F ht⟩) hS.2.2 dX2_amountPart_14 hlk
set_option maxHeartbeats 4000000 in
set_option maxRecDepth 100000 in
theorem k_X2_amountPart {p : Program} {l : Launch} {e : Env} {s : State} {m : MethodId} {args : Array Value} {below : List Frame} {meth : Method} {c : Code} {A : Nat → Prop} {E : EnvT} {aK aV aE : Nat → Nat} {aO : Nat} (C : sCx p s m args meth c cX2_amountPart 1 (some .char) wgX2_amountPart RX2 E A) (vM : eXs aK aV aE aO E) {post : Int32 → Prop} :
    ∀ (e0 : Nat) (H : Heap) (locs : List Loc) (ls : Array Slot), va_S A s.heap H locs → lv_has ls 1 [(0, .ref (aE e0))] → wp_X2_amountPart post e0 → W p l e rm_X2_amountPart s m args below meth c H locs 0 0 (MQ below (va_Qi (S := Unit) (fun r _ => post r) (fun _ _ => True) A) args s 0 0 A) (F0 m 0 ls []) := by
  obtain ⟨hx, hb, hml, hr, hown, hts, hA, hlk, hE, vE⟩ := id C
  intro e0 H locs ls hG hl hw
  have hS := hG
  refine lv_aload_n hx hb dX2_amountPart_0 rfl (lv_at hl 0 rfl) ?_
  obtain ⟨h_4, hw⟩ := hw
  refine sO_i (As := []) (rest := []) C (met_X2_isJump vE vM hw) (va_Orecv (eX.o_obj (vM _ _ _ hE) h_4) hS) (cwV 0 hts (TB_G (TB_4 tw_5_57 tw_4_41 tw_4_42 tw_1_19) tw_4_43) rfl rfl rfl (by decide +kernel) ⟨by decide, by decide⟩) hS rfl hl.1 rfl (Nat.le_of_ble_eq_true rfl) dX2_amountPart_1 ⟨by decide, by decide⟩ (fun r_1 H locs hw hS => ?_)
  have hG := hS
  refine lv_if_eq (tgt := 12) hx hb dX2_amountPart_4 (by decide) (fun q_ => ?_) (fun q_ => ?_)
  · have hw := hw.1 q_
    refine lv_bipush (v := 110) hx hb dX2_amountPart_12 (by decide) ?_
    exact kB_X2_amountPart_14 C vM 110 _ _ _ hG (lv_sub hl [] rfl) hw
  · have hw := hw.2 q_
    refine lv_bipush (v := 116) hx hb dX2_amountPart_7 (by decide) ?_
    refine lv_goto (tgt := 14) hx hb dX2_amountPart_9 (by decide) ?_
    exact kB_X2_amountPart_14 C vM 116 _ _ _ hG (lv_sub hl [] rfl) hw
set_option maxHeartbeats 4000000 in
set_option maxRecDepth 100000 in
theorem met_X2_amountPart {l : Launch} {E : EnvT} (vE : EnvOk E) {aK aV aE : Nat → Nat} {aO : Nat} (vM : eXs aK aV aE aO E) {sz : Nat} {e0 : Nat} {post : Int32 → Prop} (hw : wp_X2_amountPart post e0) : Met l yX2_amountPart wgX2_amountPart rm_X2_amountPart (va_Pc [.ref (aE e0)] (sPre E sz)) (va_Qi (S := Unit) (fun r _ => post r) (fun _ _ => True) (va_A [] sz)) 0 0 (va_A [] sz) := by
  refine Met.ofW (cc := cX2_amountPart) (maxL := 1) (ret := (some .char)) (by decide +kernel) rfl ?_
  intro p e s m args below meth c s₁ B hml hv
  obtain ⟨rfl, hsz, hE⟩ := hv
  subst hsz
  generalize hAe : va_A [] s.heap.size = A at hE ⊢
  have hA : ∀ q : Nat, s.heap.size ≤ q → A q := fun q h => by rw [← hAe]; exact Or.inr h
  have hS : va_S A s.heap s.heap [] := va_S.rf
  have C : sCx p s m _ meth c cX2_amountPart 1 (some .char) wgX2_amountPart RX2 E A := ⟨B.exec, B.bytes, hml, B.returns, findClass_of_methodNamed B.named, atoms_spec (ws := wgX2_amountPart) B.pre, hA, B.notSynchronized, hE, vE⟩
  have hG := hS
  have hl := lv_entry ([.ref (aE e0)]) (n := 1) (Nat.le_of_ble_eq_true rfl)
  rw [lg_entry_eq]
  generalize (lg_sl ([.ref (aE e0)]) ++ List.replicate (1 - (lg_sl ([.ref (aE e0)])).length) Slot.unset).toArray = ls at hl ⊢
  have hl : lv_has ls 1 [(0, .ref (aE e0))] := hl
  exact k_X2_amountPart C vM e0 _ _ _ hG hl hw
/-! ===== X2_isLast op ===== -/
def rm_X2_isLast : Room := { frames := 0, cells := 0, slots := 0, locals := 0 }
abbrev wgX2_isLast : List Cond := .code yX2_isLast cX2_isLast 1 (some .boolean) :: TB
def wB_X2_isLast_26 (post : Int32 → Prop) (t0 : Int32) : Prop :=
  isB t0 ∧ (post t0)
def wB_X2_isLast_21 (post : Int32 → Prop) : Prop :=
  wB_X2_isLast_26 post 1
def wp_X2_isLast (post : Int32 → Prop) (e0 : Nat) : Prop :=
  e0 < 53 ∧ ((e0 = 0 → (wB_X2_isLast_21 post)) ∧ (¬ e0 = 0 → (e0 < 53 ∧ ((e0 = 1 → (wB_X2_isLast_21 post)) ∧ (¬ e0 = 1 → (e0 < 53 ∧ ((e0 = 38 → (wB_X2_isLast_21 post)) ∧ (¬ e0 = 38 → (wB_X2_isLast_26 post 0)))))))))
set_option maxHeartbeats 4000000 in
set_option maxRecDepth 100000 in
theorem kB_X2_isLast_26 {p : Program} {l : Launch} {e : Env} {s : State} {m : MethodId} {args : Array Value} {below : List Frame} {meth : Method} {c : Code} {A : Nat → Prop} {E : EnvT} {aK aV aE : Nat → Nat} {aO : Nat} (C : sCx p s m args meth c cX2_isLast 1 (some .boolean) wgX2_isLast RX2 E A) (vM : eXs aK aV aE aO E) {post : Int32 → Prop} :
    ∀ (t0 : Int32) (H : Heap) (locs : List Loc) (ls : Array Slot), va_S A s.heap H locs → lv_has ls 1 [] → wB_X2_isLast_26 post t0 → W p l e rm_X2_isLast s m args below meth c H locs 0 0 (MQ below (va_Qi (S := Unit) (fun r _ => post r) (fun _ _ => True) A) args s 0 0 A) (F0 m 26 ls [.int t0]) := by
  obtain ⟨hx, hb, hml, hr, hown, hts, hA, hlk, hE, vE⟩ := id C
  intro t0 H locs ls hG hl hw
  have hS := hG
  obtain ⟨h_1, hw⟩ := hw
  exact W.zret (v := t0) (ty := .boolean) hx hb hr (isB.n h_1) (fun t ht hW => ⟨⟨_, (), rfl, hw, trivial⟩, hS.F ht⟩) hS.2.2 dX2_isLast_26 hlk
set_option maxHeartbeats 4000000 in
set_option maxRecDepth 100000 in
theorem kB_X2_isLast_21 {p : Program} {l : Launch} {e : Env} {s : State} {m : MethodId} {args : Array Value} {below : List Frame} {meth : Method} {c : Code} {A : Nat → Prop} {E : EnvT} {aK aV aE : Nat → Nat} {aO : Nat} (C : sCx p s m args meth c cX2_isLast 1 (some .boolean) wgX2_isLast RX2 E A) (vM : eXs aK aV aE aO E) {post : Int32 → Prop} :
    ∀ (H : Heap) (locs : List Loc) (ls : Array Slot), va_S A s.heap H locs → lv_has ls 1 [] → wB_X2_isLast_21 post → W p l e rm_X2_isLast s m args below meth c H locs 0 0 (MQ below (va_Qi (S := Unit) (fun r _ => post r) (fun _ _ => True) A) args s 0 0 A) (F0 m 21 ls []) := by
  obtain ⟨hx, hb, hml, hr, hown, hts, hA, hlk, hE, vE⟩ := id C
  intro H locs ls hG hl hw
  have hS := hG
  refine lv_iconst (v := 1) hx hb dX2_isLast_21 (by decide) ?_
  refine lv_goto (tgt := 26) hx hb dX2_isLast_22 (by decide) ?_
  exact kB_X2_isLast_26 C vM 1 _ _ _ hG (lv_sub hl [] rfl) hw
set_option maxHeartbeats 4000000 in
set_option maxRecDepth 100000 in
theorem k_X2_isLast {p : Program} {l : Launch} {e : Env} {s : State} {m : MethodId} {args : Array Value} {below : List Frame} {meth : Method} {c : Code} {A : Nat → Prop} {E : EnvT} {aK aV aE : Nat → Nat} {aO : Nat} (C : sCx p s m args meth c cX2_isLast 1 (some .boolean) wgX2_isLast RX2 E A) (vM : eXs aK aV aE aO E) {post : Int32 → Prop} :
    ∀ (e0 : Nat) (H : Heap) (locs : List Loc) (ls : Array Slot), va_S A s.heap H locs → lv_has ls 1 [(0, .ref (aE e0))] → wp_X2_isLast post e0 → W p l e rm_X2_isLast s m args below meth c H locs 0 0 (MQ below (va_Qi (S := Unit) (fun r _ => post r) (fun _ _ => True) A) args s 0 0 A) (F0 m 0 ls []) := by
  obtain ⟨hx, hb, hml, hr, hown, hts, hA, hlk, hE, vE⟩ := id C
  intro e0 H locs ls hG hl hw
  have hS := hG
  refine lv_aload_n hx hb dX2_isLast_0 rfl (lv_at hl 0 rfl) ?_
  refine va_gets hx hb (eX.c_EXIT (vM _ _ _ hE)) hS hown (hts _ (List.mem_cons_of_mem _ tw_4_53)) (fun _ h => h) dX2_isLast_1 ?_
  obtain ⟨h_4, hw⟩ := hw
  refine lv_acmp_eq (rx := some (aE e0)) (ry := some (aE 0)) (tgt := 21) hx hb dX2_isLast_4 (by decide) (fun q_ => ?_) (fun q_ => ?_)
  · have hw := hw.1 (op_in vM hE h_4 (by decide) q_)
    exact kB_X2_isLast_21 C vM  _ _ _ hG (lv_sub hl [] rfl) hw
  · have hw := hw.2 (fun z => q_ (op_eq z))
    refine lv_aload_n hx hb dX2_isLast_7 rfl (lv_at hl 0 rfl) ?_
    refine va_gets hx hb (eX.c_WORD (vM _ _ _ hE)) hS hown (hts _ (List.mem_cons_of_mem _ tw_4_55)) (fun _ h => h) dX2_isLast_8 ?_
    obtain ⟨h_3, hw⟩ := hw
    refine lv_acmp_eq (rx := some (aE e0)) (ry := some (aE 1)) (tgt := 21) hx hb dX2_isLast_11 (by decide) (fun q_ => ?_) (fun q_ => ?_)
    · have hw := hw.1 (op_in vM hE h_3 (by decide) q_)
      exact kB_X2_isLast_21 C vM  _ _ _ hG (lv_sub hl [] rfl) hw
    · have hw := hw.2 (fun z => q_ (op_eq z))
      refine lv_aload_n hx hb dX2_isLast_14 rfl (lv_at hl 0 rfl) ?_
      refine va_gets hx hb (eX.c_BACK (vM _ _ _ hE)) hS hown (hts _ (List.mem_cons_of_mem _ tw_4_57)) (fun _ h => h) dX2_isLast_15 ?_
      obtain ⟨h_2, hw⟩ := hw
      refine lv_acmp_ne (rx := some (aE e0)) (ry := some (aE 38)) (tgt := 25) hx hb dX2_isLast_18 (by decide) (fun q_ => ?_) (fun q_ => ?_)
      · have hw := hw.2 (fun z => q_ (op_eq z))
        refine lv_iconst (v := 0) hx hb dX2_isLast_25 (by decide) ?_
        exact kB_X2_isLast_26 C vM 0 _ _ _ hG (lv_sub hl [] rfl) hw
      · have hw := hw.1 (op_in vM hE h_2 (by decide) q_)
        exact kB_X2_isLast_21 C vM  _ _ _ hG (lv_sub hl [] rfl) hw
set_option maxHeartbeats 4000000 in
set_option maxRecDepth 100000 in
theorem met_X2_isLast {l : Launch} {E : EnvT} (vE : EnvOk E) {aK aV aE : Nat → Nat} {aO : Nat} (vM : eXs aK aV aE aO E) {sz : Nat} {e0 : Nat} {post : Int32 → Prop} (hw : wp_X2_isLast post e0) : Met l yX2_isLast wgX2_isLast rm_X2_isLast (va_Pc [.ref (aE e0)] (sPre E sz)) (va_Qi (S := Unit) (fun r _ => post r) (fun _ _ => True) (va_A [] sz)) 0 0 (va_A [] sz) := by
  refine Met.ofW (cc := cX2_isLast) (maxL := 1) (ret := (some .boolean)) (by decide +kernel) rfl ?_
  intro p e s m args below meth c s₁ B hml hv
  obtain ⟨rfl, hsz, hE⟩ := hv
  subst hsz
  generalize hAe : va_A [] s.heap.size = A at hE ⊢
  have hA : ∀ q : Nat, s.heap.size ≤ q → A q := fun q h => by rw [← hAe]; exact Or.inr h
  have hS : va_S A s.heap s.heap [] := va_S.rf
  have C : sCx p s m _ meth c cX2_isLast 1 (some .boolean) wgX2_isLast RX2 E A := ⟨B.exec, B.bytes, hml, B.returns, findClass_of_methodNamed B.named, atoms_spec (ws := wgX2_isLast) B.pre, hA, B.notSynchronized, hE, vE⟩
  have hG := hS
  have hl := lv_entry ([.ref (aE e0)]) (n := 1) (Nat.le_of_ble_eq_true rfl)
  rw [lg_entry_eq]
  generalize (lg_sl ([.ref (aE e0)]) ++ List.replicate (1 - (lg_sl ([.ref (aE e0)])).length) Slot.unset).toArray = ls at hl ⊢
  have hl : lv_has ls 1 [(0, .ref (aE e0))] := hl
  exact k_X2_isLast C vM e0 _ _ _ hG hl hw
