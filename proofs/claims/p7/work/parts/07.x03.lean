/-! ===== X2_readsOf op ===== -/
def rm_X2_readsOf : Room := { frames := 4, cells := 0, slots := 0, locals := 85 }
abbrev wgX2_readsOf : List Cond := .code yX2_readsOf cX2_readsOf 6 (some .int) :: TB
def wB_X2_readsOf_118 (post : Int32 → Prop) (t0 : Int32) : Prop :=
  post t0
def wB_X2_readsOf_93 (post : Int32 → Prop) (k26 : Nat → Int64 → Int32 → Int32 → Prop) (e0 : Nat) (x1 : Int64) (x3 : Int32) (x4 : Int32) : Prop :=
  ∀ x4_16 : Int32, x4_16 = x4 + 1 → k26 e0 x1 x3 x4_16
def wB_X2_readsOf_84 (post : Int32 → Prop) (k26 : Nat → Int64 → Int32 → Int32 → Prop) (e0 : Nat) (x1 : Int64) (x3 : Int32) (x4 : Int32) (x5 : Int32) : Prop :=
  wp_X2_bitOf (fun r_13  => ∀ x3_15 : Int32, x3_15 = x3 ||| r_13 → wB_X2_readsOf_93 post k26 e0 x1 x3_15 x4) x5 x1
def wB_X2_readsOf_26 (post : Int32 → Prop) (k26 : Nat → Int64 → Int32 → Int32 → Prop) (e0 : Nat) (x1 : Int64) (x3 : Int32) (x4 : Int32) : Prop :=
  e0 < 53 ∧ ((pxI e0) < nX ∧ wp_J0_length_8abf5 (fun r_4  => (r_4 ≤ x4 → (e0 < 53 ∧ ((e0 = 46 → (wp_X2_bitOf (fun r_6  => wB_X2_readsOf_118 post (x3 ||| r_6)) 100 x1)) ∧ (¬ e0 = 46 → (wB_X2_readsOf_118 post x3))))) ∧ (¬ r_4 ≤ x4 → (e0 < 53 ∧ ((pxI e0) < nX ∧ (vp_in x4 (lenX.getD (pxI e0) 0) ∧ (∀ r_12 : Int32, r_12 = sCh bytX (pxI e0) x4.toNatClampNeg → (r_12 = 97 → (wB_X2_readsOf_84 post k26 e0 x1 x3 x4 r_12)) ∧ (¬ r_12 = 97 → ((r_12 = 98 → (wB_X2_readsOf_84 post k26 e0 x1 x3 x4 r_12)) ∧ (¬ r_12 = 98 → ((r_12 = 65 → (wB_X2_readsOf_84 post k26 e0 x1 x3 x4 r_12)) ∧ (¬ r_12 = 65 → ((r_12 = 66 → (wB_X2_readsOf_84 post k26 e0 x1 x3 x4 r_12)) ∧ (¬ r_12 = 66 → ((r_12 = 113 → (wB_X2_readsOf_84 post k26 e0 x1 x3 x4 r_12)) ∧ (¬ r_12 = 113 → (wB_X2_readsOf_93 post k26 e0 x1 x3 x4)))))))))))))))) (pxI e0))
def wL_X2_readsOf_26 (post : Int32 → Prop) : Nat → Nat → Int64 → Int32 → Int32 → Prop
  | 0 => fun _ _ _ _ => False
  | n + 1 => wB_X2_readsOf_26 post (wL_X2_readsOf_26 post n)
def wB_X2_readsOf_22 (post : Int32 → Prop) (e0 : Nat) (x1 : Int64) (t0 : Int32) : Prop :=
  ∃ n, wL_X2_readsOf_26 post n e0 x1 t0 0
def wp_X2_readsOf (post : Int32 → Prop) (e0 : Nat) (x1 : Int64) : Prop :=
  wp_X2_isGuarded (fun r_1  => (r_1 = 0 → (wB_X2_readsOf_22 post e0 x1 0)) ∧ (¬ r_1 = 0 → (wp_X2_guardOf (fun r_18  => wB_X2_readsOf_22 post e0 x1 ((1 : Int32) <<< ((16 + (r_18 - r_18 / 4 * 4)) &&& 31))) x1))) x1
set_option maxHeartbeats 4000000 in
set_option maxRecDepth 100000 in
theorem kB_X2_readsOf_118 {p : Program} {l : Launch} {e : Env} {s : State} {m : MethodId} {args : Array Value} {below : List Frame} {meth : Method} {c : Code} {A : Nat → Prop} {E : EnvT} {aK aV aE : Nat → Nat} {aO : Nat} (C : sCx p s m args meth c cX2_readsOf 6 (some .int) wgX2_readsOf RX2 E A) (vM : eXs aK aV aE aO E) {post : Int32 → Prop} :
    ∀ (t0 : Int32) (H : Heap) (locs : List Loc) (ls : Array Slot), va_S A s.heap H locs → lv_has ls 6 [] → wB_X2_readsOf_118 post t0 → W p l e rm_X2_readsOf s m args below meth c H locs 0 0 (MQ below (va_Qi (S := Unit) (fun r _ => post r) (fun _ _ => True) A) args s 0 0 A) (F0 m 118 ls [.int t0]) := by
  obtain ⟨hx, hb, hml, hr, hown, hts, hA, hlk, hE, vE⟩ := id C
  intro t0 H locs ls hG hl hw
  have hS := hG
  exact W.iret (v := t0) hx hb hr (fun t ht hW => ⟨⟨_, (), rfl, hw, trivial⟩, hS.F ht⟩) hS.2.2 dX2_readsOf_118 hlk
set_option maxHeartbeats 4000000 in
set_option maxRecDepth 100000 in
theorem kB_X2_readsOf_93 {p : Program} {l : Launch} {e : Env} {s : State} {m : MethodId} {args : Array Value} {below : List Frame} {meth : Method} {c : Code} {A : Nat → Prop} {E : EnvT} {aK aV aE : Nat → Nat} {aO : Nat} (C : sCx p s m args meth c cX2_readsOf 6 (some .int) wgX2_readsOf RX2 E A) (vM : eXs aK aV aE aO E) {post : Int32 → Prop}
    {k26 : Nat → Int64 → Int32 → Int32 → Prop} (hk26 : ∀ (e0 : Nat) (x1 : Int64) (x3 : Int32) (x4 : Int32) (H : Heap) (locs : List Loc) (ls : Array Slot), va_S A s.heap H locs → lv_has ls 6 [(0, .ref (aE e0)), (1, .long x1), (3, .int x3), (4, .int x4)] → k26 e0 x1 x3 x4 → W p l e rm_X2_readsOf s m args below meth c H locs 0 0 (MQ below (va_Qi (S := Unit) (fun r _ => post r) (fun _ _ => True) A) args s 0 0 A) (F0 m 26 ls [])) :
    ∀ (e0 : Nat) (x1 : Int64) (x3 : Int32) (x4 : Int32) (H : Heap) (locs : List Loc) (ls : Array Slot), va_S A s.heap H locs → lv_has ls 6 [(0, .ref (aE e0)), (1, .long x1), (3, .int x3), (4, .int x4)] → wB_X2_readsOf_93 post k26 e0 x1 x3 x4 → W p l e rm_X2_readsOf s m args below meth c H locs 0 0 (MQ below (va_Qi (S := Unit) (fun r _ => post r) (fun _ _ => True) A) args s 0 0 A) (F0 m 93 ls []) := by
  obtain ⟨hx, hb, hml, hr, hown, hts, hA, hlk, hE, vE⟩ := id C
  intro e0 x1 x3 x4 H locs ls hG hl hw
  have hS := hG
  obtain ⟨x4_16, ex4_16⟩ : ∃ y : Int32, y = x4 + 1 := ⟨_, rfl⟩
  have hw := hw x4_16 ex4_16
  refine lv_iinc (v := x4_16) (lv' := [(4, .int x4_16), (0, .ref (aE e0)), (1, .long x1), (3, .int x3)]) hx hb dX2_readsOf_93 hl (k := 3) rfl (by rw [ex4_16]; rfl) (by decide) rfl (fun ls hl => ?_)
  refine lv_goto (tgt := 26) hx hb dX2_readsOf_96 (by decide) ?_
  exact hk26 e0 x1 x3 x4_16 _ _ _ hG (lv_sub hl [1, 2, 3, 0] rfl) hw
set_option maxHeartbeats 4000000 in
set_option maxRecDepth 100000 in
theorem kB_X2_readsOf_84 {p : Program} {l : Launch} {e : Env} {s : State} {m : MethodId} {args : Array Value} {below : List Frame} {meth : Method} {c : Code} {A : Nat → Prop} {E : EnvT} {aK aV aE : Nat → Nat} {aO : Nat} (C : sCx p s m args meth c cX2_readsOf 6 (some .int) wgX2_readsOf RX2 E A) (vM : eXs aK aV aE aO E) {post : Int32 → Prop}
    {k26 : Nat → Int64 → Int32 → Int32 → Prop} (hk26 : ∀ (e0 : Nat) (x1 : Int64) (x3 : Int32) (x4 : Int32) (H : Heap) (locs : List Loc) (ls : Array Slot), va_S A s.heap H locs → lv_has ls 6 [(0, .ref (aE e0)), (1, .long x1), (3, .int x3), (4, .int x4)] → k26 e0 x1 x3 x4 → W p l e rm_X2_readsOf s m args below meth c H locs 0 0 (MQ below (va_Qi (S := Unit) (fun r _ => post r) (fun _ _ => True) A) args s 0 0 A) (F0 m 26 ls [])) :
    ∀ (e0 : Nat) (x1 : Int64) (x3 : Int32) (x4 : Int32) (x5 : Int32) (H : Heap) (locs : List Loc) (ls : Array Slot), va_S A s.heap H locs → lv_has ls 6 [(0, .ref (aE e0)), (1, .long x1), (3, .int x3), (4, .int x4), (5, .int x5)] → wB_X2_readsOf_84 post k26 e0 x1 x3 x4 x5 → W p l e rm_X2_readsOf s m args below meth c H locs 0 0 (MQ below (va_Qi (S := Unit) (fun r _ => post r) (fun _ _ => True) A) args s 0 0 A) (F0 m 84 ls []) := by
  obtain ⟨hx, hb, hml, hr, hown, hts, hA, hlk, hE, vE⟩ := id C
  intro e0 x1 x3 x4 x5 H locs ls hG hl hw
  have hS := hG
  refine lv_iload_n hx hb dX2_readsOf_84 rfl (lv_at hl 2 rfl) ?_
  refine lv_iload hx hb dX2_readsOf_85 (lv_at hl 4 rfl) ?_
  refine lv_lload_n hx hb dX2_readsOf_87 rfl (lv_at hl 1 rfl) ?_
  refine sS_i (As := [.int x5, .long x1]) (rest := [.int x3]) C (met_X2_bitOf vE vM hw) (va_cwS 2 hts (TB_G (TB_3 tw_2_123 tw_2_124 tw_1_19) tw_2_125) rfl rfl rfl (by decide +kernel) ⟨by decide, by decide⟩) hS rfl hl.1 rfl (Nat.le_of_ble_eq_true rfl) dX2_readsOf_88 ⟨by decide, by decide⟩ (fun r_13 H locs hw hS => ?_)
  have hG := hS
  refine lv_ior hx hb dX2_readsOf_91 ?_
  refine lv_topi (fun x3_15 ex3_15 => ?_)
  have hw := hw x3_15 ex3_15
  refine lv_istore_n (lv' := [(3, .int x3_15), (0, .ref (aE e0)), (1, .long x1), (4, .int x4), (5, .int x5)]) hx hb dX2_readsOf_92 rfl hl (by decide) rfl (fun ls hl => ?_)
  exact kB_X2_readsOf_93 C vM hk26 e0 x1 x3_15 x4 _ _ _ hG (lv_sub hl [1, 2, 0, 3] rfl) hw
set_option maxHeartbeats 4000000 in
set_option maxRecDepth 100000 in
theorem kB_X2_readsOf_26 {p : Program} {l : Launch} {e : Env} {s : State} {m : MethodId} {args : Array Value} {below : List Frame} {meth : Method} {c : Code} {A : Nat → Prop} {E : EnvT} {aK aV aE : Nat → Nat} {aO : Nat} (C : sCx p s m args meth c cX2_readsOf 6 (some .int) wgX2_readsOf RX2 E A) (vM : eXs aK aV aE aO E) {post : Int32 → Prop}
    {k26 : Nat → Int64 → Int32 → Int32 → Prop} (hk26 : ∀ (e0 : Nat) (x1 : Int64) (x3 : Int32) (x4 : Int32) (H : Heap) (locs : List Loc) (ls : Array Slot), va_S A s.heap H locs → lv_has ls 6 [(0, .ref (aE e0)), (1, .long x1), (3, .int x3), (4, .int x4)] → k26 e0 x1 x3 x4 → W p l e rm_X2_readsOf s m args below meth c H locs 0 0 (MQ below (va_Qi (S := Unit) (fun r _ => post r) (fun _ _ => True) A) args s 0 0 A) (F0 m 26 ls [])) :
    ∀ (e0 : Nat) (x1 : Int64) (x3 : Int32) (x4 : Int32) (H : Heap) (locs : List Loc) (ls : Array Slot), va_S A s.heap H locs → lv_has ls 6 [(0, .ref (aE e0)), (1, .long x1), (3, .int x3), (4, .int x4)] → wB_X2_readsOf_26 post k26 e0 x1 x3 x4 → W p l e rm_X2_readsOf s m args below meth c H locs 0 0 (MQ below (va_Qi (S := Unit) (fun r _ => post r) (fun _ _ => True) A) args s 0 0 A) (F0 m 26 ls []) := by
  obtain ⟨hx, hb, hml, hr, hown, hts, hA, hlk, hE, vE⟩ := id C
  intro e0 x1 x3 x4 H locs ls hG hl hw
  have hS := hG
  refine lv_iload hx hb dX2_readsOf_26 (lv_at hl 3 rfl) ?_
  refine lv_aload_n hx hb dX2_readsOf_28 rfl (lv_at hl 0 rfl) ?_
  obtain ⟨h_3, hw⟩ := hw
  refine vk_getf hx hb (eX.o_parts (vM _ _ _ hE) h_3) hS hown (hts _ (List.mem_cons_of_mem _ tw_6_229)) (fun _ h => h) dX2_readsOf_29 ?_
  obtain ⟨h_17, hw⟩ := hw
  refine sO_i (As := []) (rest := [.int x4]) C (met_J0_length_8abf5 vE vM hw) (va_Orecv (eX.s_obj (vM _ _ _ hE) h_17) hS) (cwV 0 hts (TB_G (TB_4 tw_2_47 tw_2_48 tw_2_49 tw_1_11) tw_2_50) rfl rfl rfl (by decide +kernel) ⟨by decide, by decide⟩) hS rfl hl.1 rfl (Nat.le_of_ble_eq_true rfl) dX2_readsOf_32 ⟨by decide, by decide⟩ (fun r_4 H locs hw hS => ?_)
  have hG := hS
  refine lv_icmp_ge (tgt := 99) hx hb dX2_readsOf_35 (by decide) (fun q_ => ?_) (fun q_ => ?_)
  · have hw := hw.1 q_
    refine lv_aload_n hx hb dX2_readsOf_99 rfl (lv_at hl 0 rfl) ?_
    refine va_gets hx hb (eX.c_ATCAS (vM _ _ _ hE)) hS hown (hts _ (List.mem_cons_of_mem _ tw_2_126)) (fun _ h => h) dX2_readsOf_100 ?_
    obtain ⟨h_8, hw⟩ := hw
    refine lv_acmp_ne (rx := some (aE e0)) (ry := some (aE 46)) (tgt := 117) hx hb dX2_readsOf_103 (by decide) (fun q_ => ?_) (fun q_ => ?_)
    · have hw := hw.2 (fun z => q_ (op_eq z))
      refine lv_iload_n hx hb dX2_readsOf_117 rfl (lv_at hl 2 rfl) ?_
      exact kB_X2_readsOf_118 C vM x3 _ _ _ hG (lv_sub hl [] rfl) hw
    · have hw := hw.1 (op_in vM hE h_8 (by decide) q_)
      refine lv_iload_n hx hb dX2_readsOf_106 rfl (lv_at hl 2 rfl) ?_
      refine lv_bipush (v := 100) hx hb dX2_readsOf_107 (by decide) ?_
      refine lv_lload_n hx hb dX2_readsOf_109 rfl (lv_at hl 1 rfl) ?_
      refine sS_i (As := [.int 100, .long x1]) (rest := [.int x3]) C (met_X2_bitOf vE vM hw) (va_cwS 2 hts (TB_G (TB_3 tw_2_123 tw_2_124 tw_1_19) tw_2_125) rfl rfl rfl (by decide +kernel) ⟨by decide, by decide⟩) hS rfl hl.1 rfl (Nat.le_of_ble_eq_true rfl) dX2_readsOf_110 ⟨by decide, by decide⟩ (fun r_6 H locs hw hS => ?_)
      have hG := hS
      refine lv_ior hx hb dX2_readsOf_113 ?_
      refine lv_goto (tgt := 118) hx hb dX2_readsOf_114 (by decide) ?_
      exact kB_X2_readsOf_118 C vM (x3 ||| r_6) _ _ _ hG (lv_sub hl [] rfl) hw
  · have hw := hw.2 q_
    refine lv_aload_n hx hb dX2_readsOf_38 rfl (lv_at hl 0 rfl) ?_
    obtain ⟨h_9, hw⟩ := hw
    refine vk_getf hx hb (eX.o_parts (vM _ _ _ hE) h_9) hS hown (hts _ (List.mem_cons_of_mem _ tw_6_229)) (fun _ h => h) dX2_readsOf_39 ?_
    refine lv_iload hx hb dX2_readsOf_42 (lv_at hl 3 rfl) ?_
    obtain ⟨h_11, h_10, hw⟩ := hw
    refine sO_i (As := [.int x4]) (rest := []) C (met_J0_charAt vE (fun A U H z => eX.str (vM A U H z)) h_11 (post := fun r => r = sCh bytX (pxI e0) x4.toNatClampNeg) (in_nn h_10) (in_lt h_10 (lenX_lt _)) h_10 rfl) (va_Orecv (eX.s_obj (vM _ _ _ hE) h_11) hS) (cwV 1 hts (TB_G (TB_4 tw_2_56 tw_2_57 tw_2_58 tw_1_11) tw_2_59) rfl rfl rfl (by decide +kernel) ⟨by decide, by decide⟩) hS rfl hl.1 rfl (Nat.le_of_ble_eq_true rfl) dX2_readsOf_44 ⟨by decide, by decide⟩ (fun r_12 H locs er_12 hS => ?_)
    have hw := hw r_12 er_12
    have hG := hS
    refine lv_istore (lv' := [(5, .int r_12), (0, .ref (aE e0)), (1, .long x1), (3, .int x3), (4, .int x4)]) hx hb dX2_readsOf_47 hl (by decide) rfl (fun ls hl => ?_)
    refine lv_iload hx hb dX2_readsOf_49 (lv_at hl 0 rfl) ?_
    refine lv_bipush (v := 97) hx hb dX2_readsOf_51 (by decide) ?_
    refine lv_icmp_eq (tgt := 84) hx hb dX2_readsOf_53 (by decide) (fun q_ => ?_) (fun q_ => ?_)
    · have hw := hw.1 q_
      exact kB_X2_readsOf_84 C vM hk26 e0 x1 x3 x4 r_12 _ _ _ hG (lv_sub hl [1, 2, 3, 4, 0] rfl) hw
    · have hw := hw.2 q_
      refine lv_iload hx hb dX2_readsOf_56 (lv_at hl 0 rfl) ?_
      refine lv_bipush (v := 98) hx hb dX2_readsOf_58 (by decide) ?_
      refine lv_icmp_eq (tgt := 84) hx hb dX2_readsOf_60 (by decide) (fun q_ => ?_) (fun q_ => ?_)
      · have hw := hw.1 q_
        exact kB_X2_readsOf_84 C vM hk26 e0 x1 x3 x4 r_12 _ _ _ hG (lv_sub hl [1, 2, 3, 4, 0] rfl) hw
      · have hw := hw.2 q_
        refine lv_iload hx hb dX2_readsOf_63 (lv_at hl 0 rfl) ?_
        refine lv_bipush (v := 65) hx hb dX2_readsOf_65 (by decide) ?_
        refine lv_icmp_eq (tgt := 84) hx hb dX2_readsOf_67 (by decide) (fun q_ => ?_) (fun q_ => ?_)
        · have hw := hw.1 q_
          exact kB_X2_readsOf_84 C vM hk26 e0 x1 x3 x4 r_12 _ _ _ hG (lv_sub hl [1, 2, 3, 4, 0] rfl) hw
        · have hw := hw.2 q_
          refine lv_iload hx hb dX2_readsOf_70 (lv_at hl 0 rfl) ?_
          refine lv_bipush (v := 66) hx hb dX2_readsOf_72 (by decide) ?_
          refine lv_icmp_eq (tgt := 84) hx hb dX2_readsOf_74 (by decide) (fun q_ => ?_) (fun q_ => ?_)
          · have hw := hw.1 q_
            exact kB_X2_readsOf_84 C vM hk26 e0 x1 x3 x4 r_12 _ _ _ hG (lv_sub hl [1, 2, 3, 4, 0] rfl) hw
          · have hw := hw.2 q_
            refine lv_iload hx hb dX2_readsOf_77 (lv_at hl 0 rfl) ?_
            refine lv_bipush (v := 113) hx hb dX2_readsOf_79 (by decide) ?_
            refine lv_icmp_ne (tgt := 93) hx hb dX2_readsOf_81 (by decide) (fun q_ => ?_) (fun q_ => ?_)
            · have hw := hw.2 q_
              exact kB_X2_readsOf_93 C vM hk26 e0 x1 x3 x4 _ _ _ hG (lv_sub hl [1, 2, 3, 4] rfl) hw
            · have hw := hw.1 q_
              exact kB_X2_readsOf_84 C vM hk26 e0 x1 x3 x4 r_12 _ _ _ hG (lv_sub hl [1, 2, 3, 4, 0] rfl) hw
theorem kL_X2_readsOf_26 {p : Program} {l : Launch} {e : Env} {s : State} {m : MethodId} {args : Array Value} {below : List Frame} {meth : Method} {c : Code} {A : Nat → Prop} {E : EnvT} {aK aV aE : Nat → Nat} {aO : Nat} (C : sCx p s m args meth c cX2_readsOf 6 (some .int) wgX2_readsOf RX2 E A) (vM : eXs aK aV aE aO E) {post : Int32 → Prop} :
    ∀ (n : Nat) (e0 : Nat) (x1 : Int64) (x3 : Int32) (x4 : Int32) (H : Heap) (locs : List Loc) (ls : Array Slot), va_S A s.heap H locs → lv_has ls 6 [(0, .ref (aE e0)), (1, .long x1), (3, .int x3), (4, .int x4)] → wL_X2_readsOf_26 post n e0 x1 x3 x4 → W p l e rm_X2_readsOf s m args below meth c H locs 0 0 (MQ below (va_Qi (S := Unit) (fun r _ => post r) (fun _ _ => True) A) args s 0 0 A) (F0 m 26 ls []) := by
  intro n
  induction n with
  | zero => intro e0 x1 x3 x4 H locs ls hG hl hw; exact hw.elim
  | succ n ih => exact kB_X2_readsOf_26 C vM ih
set_option maxHeartbeats 4000000 in
set_option maxRecDepth 100000 in
theorem kB_X2_readsOf_22 {p : Program} {l : Launch} {e : Env} {s : State} {m : MethodId} {args : Array Value} {below : List Frame} {meth : Method} {c : Code} {A : Nat → Prop} {E : EnvT} {aK aV aE : Nat → Nat} {aO : Nat} (C : sCx p s m args meth c cX2_readsOf 6 (some .int) wgX2_readsOf RX2 E A) (vM : eXs aK aV aE aO E) {post : Int32 → Prop} :
    ∀ (e0 : Nat) (x1 : Int64) (t0 : Int32) (H : Heap) (locs : List Loc) (ls : Array Slot), va_S A s.heap H locs → lv_has ls 6 [(0, .ref (aE e0)), (1, .long x1)] → wB_X2_readsOf_22 post e0 x1 t0 → W p l e rm_X2_readsOf s m args below meth c H locs 0 0 (MQ below (va_Qi (S := Unit) (fun r _ => post r) (fun _ _ => True) A) args s 0 0 A) (F0 m 22 ls [.int t0]) := by
  obtain ⟨hx, hb, hml, hr, hown, hts, hA, hlk, hE, vE⟩ := id C
  intro e0 x1 t0 H locs ls hG hl hw
  have hS := hG
  refine lv_istore_n (lv' := [(3, .int t0), (0, .ref (aE e0)), (1, .long x1)]) hx hb dX2_readsOf_22 rfl hl (by decide) rfl (fun ls hl => ?_)
  refine lv_iconst (v := 0) hx hb dX2_readsOf_23 (by decide) ?_
  refine lv_istore (lv' := [(4, .int 0), (3, .int t0), (0, .ref (aE e0)), (1, .long x1)]) hx hb dX2_readsOf_24 hl (by decide) rfl (fun ls hl => ?_)
  obtain ⟨n_, hw⟩ := hw
  exact kL_X2_readsOf_26 C vM n_ e0 x1 t0 0 _ _ _ hG (lv_sub hl [2, 3, 1, 0] rfl) hw
set_option maxHeartbeats 4000000 in
set_option maxRecDepth 100000 in
theorem k_X2_readsOf {p : Program} {l : Launch} {e : Env} {s : State} {m : MethodId} {args : Array Value} {below : List Frame} {meth : Method} {c : Code} {A : Nat → Prop} {E : EnvT} {aK aV aE : Nat → Nat} {aO : Nat} (C : sCx p s m args meth c cX2_readsOf 6 (some .int) wgX2_readsOf RX2 E A) (vM : eXs aK aV aE aO E) {post : Int32 → Prop} :
    ∀ (e0 : Nat) (x1 : Int64) (H : Heap) (locs : List Loc) (ls : Array Slot), va_S A s.heap H locs → lv_has ls 6 [(0, .ref (aE e0)), (1, .long x1)] → wp_X2_readsOf post e0 x1 → W p l e rm_X2_readsOf s m args below meth c H locs 0 0 (MQ below (va_Qi (S := Unit) (fun r _ => post r) (fun _ _ => True) A) args s 0 0 A) (F0 m 0 ls []) := by
  obtain ⟨hx, hb, hml, hr, hown, hts, hA, hlk, hE, vE⟩ := id C
  intro e0 x1 H locs ls hG hl hw
  have hS := hG
  refine lv_lload_n hx hb dX2_readsOf_0 rfl (lv_at hl 1 rfl) ?_
  refine sS_i (As := [.long x1]) (rest := []) C (met_X2_isGuarded vE vM hw) (va_cwS 1 hts (TB_G (TB_3 tw_2_120 tw_2_121 tw_1_19) tw_2_122) rfl rfl rfl (by decide +kernel) ⟨by decide, by decide⟩) hS rfl hl.1 rfl (Nat.le_of_ble_eq_true rfl) dX2_readsOf_1 ⟨by decide, by decide⟩ (fun r_1 H locs hw hS => ?_)
  have hG := hS
  refine lv_if_eq (tgt := 21) hx hb dX2_readsOf_4 (by decide) (fun q_ => ?_) (fun q_ => ?_)
  · have hw := hw.1 q_
    refine lv_iconst (v := 0) hx hb dX2_readsOf_21 (by decide) ?_
    exact kB_X2_readsOf_22 C vM e0 x1 0 _ _ _ hG (lv_sub hl [0, 1] rfl) hw
  · have hw := hw.2 q_
    refine lv_iconst (v := 1) hx hb dX2_readsOf_7 (by decide) ?_
    refine lv_bipush (v := 16) hx hb dX2_readsOf_8 (by decide) ?_
    refine lv_lload_n hx hb dX2_readsOf_10 rfl (lv_at hl 1 rfl) ?_
    refine sS_i (As := [.long x1]) (rest := [.int 16, .int 1]) C (met_X2_guardOf vE vM hw) (va_cwS 1 hts (TB_G (TB_3 tw_2_42 tw_2_43 tw_1_19) tw_2_44) rfl rfl rfl (by decide +kernel) ⟨by decide, by decide⟩) hS rfl hl.1 rfl (Nat.le_of_ble_eq_true rfl) dX2_readsOf_11 ⟨by decide, by decide⟩ (fun r_18 H locs hw hS => ?_)
    have hG := hS
    refine lv_iconst (v := 4) hx hb dX2_readsOf_14 (by decide) ?_
    refine lv_irem hx hb dX2_readsOf_15 (by decide) ?_
    refine lv_iadd hx hb dX2_readsOf_16 ?_
    refine lv_ishl hx hb dX2_readsOf_17 ?_
    refine lv_goto (tgt := 22) hx hb dX2_readsOf_18 (by decide) ?_
    exact kB_X2_readsOf_22 C vM e0 x1 ((1 : Int32) <<< ((16 + (r_18 - r_18 / 4 * 4)) &&& 31)) _ _ _ hG (lv_sub hl [0, 1] rfl) hw
set_option maxHeartbeats 4000000 in
set_option maxRecDepth 100000 in
theorem met_X2_readsOf {l : Launch} {E : EnvT} (vE : EnvOk E) {aK aV aE : Nat → Nat} {aO : Nat} (vM : eXs aK aV aE aO E) {sz : Nat} {e0 : Nat} {x1 : Int64} {post : Int32 → Prop} (hw : wp_X2_readsOf post e0 x1) : Met l yX2_readsOf wgX2_readsOf rm_X2_readsOf (va_Pc [.ref (aE e0), .long x1] (sPre E sz)) (va_Qi (S := Unit) (fun r _ => post r) (fun _ _ => True) (va_A [] sz)) 0 0 (va_A [] sz) := by
  refine Met.ofW (cc := cX2_readsOf) (maxL := 6) (ret := (some .int)) (by decide +kernel) rfl ?_
  intro p e s m args below meth c s₁ B hml hv
  obtain ⟨rfl, hsz, hE⟩ := hv
  subst hsz
  generalize hAe : va_A [] s.heap.size = A at hE ⊢
  have hA : ∀ q : Nat, s.heap.size ≤ q → A q := fun q h => by rw [← hAe]; exact Or.inr h
  have hS : va_S A s.heap s.heap [] := va_S.rf
  have C : sCx p s m _ meth c cX2_readsOf 6 (some .int) wgX2_readsOf RX2 E A := ⟨B.exec, B.bytes, hml, B.returns, findClass_of_methodNamed B.named, atoms_spec (ws := wgX2_readsOf) B.pre, hA, B.notSynchronized, hE, vE⟩
  have hG := hS
  have hl := lv_entry ([.ref (aE e0), .long x1]) (n := 6) (Nat.le_of_ble_eq_true rfl)
  rw [lg_entry_eq]
  generalize (lg_sl ([.ref (aE e0), .long x1]) ++ List.replicate (6 - (lg_sl ([.ref (aE e0), .long x1])).length) Slot.unset).toArray = ls at hl ⊢
  have hl : lv_has ls 6 [(0, .ref (aE e0)), (1, .long x1)] := hl
  exact k_X2_readsOf C vM e0 x1 _ _ _ hG hl hw
/-! ===== X2_writesOf op ===== -/
def rm_X2_writesOf : Room := { frames := 4, cells := 0, slots := 0, locals := 91 }
abbrev wgX2_writesOf : List Cond := .code yX2_writesOf cX2_writesOf 3 (some .int) :: TB
def wB_X2_writesOf_41 (post : Int32 → Prop) (t0 : Int32) : Prop :=
  post t0
def wp_X2_writesOf (post : Int32 → Prop) (e0 : Nat) (x1 : Int64) : Prop :=
  e0 < 53 ∧ ((pxI e0) < nX ∧ wp_J0_indexOf_0f7a4 (fun r_2  => (r_2 < 0 → (e0 < 53 ∧ ((pxI e0) < nX ∧ wp_J0_indexOf_0f7a4 (fun r_5  => (r_5 < 0 → (wB_X2_writesOf_41 post 0)) ∧ (¬ r_5 < 0 → (wp_X2_bitOf (fun r_7  => wB_X2_writesOf_41 post r_7) 68 x1))) (pxI e0) 68))) ∧ (¬ r_2 < 0 → (wp_X2_bitOf (fun r_10  => post r_10) 100 x1))) (pxI e0) 100)
set_option maxHeartbeats 4000000 in
set_option maxRecDepth 100000 in
theorem kB_X2_writesOf_41 {p : Program} {l : Launch} {e : Env} {s : State} {m : MethodId} {args : Array Value} {below : List Frame} {meth : Method} {c : Code} {A : Nat → Prop} {E : EnvT} {aK aV aE : Nat → Nat} {aO : Nat} (C : sCx p s m args meth c cX2_writesOf 3 (some .int) wgX2_writesOf RX2 E A) (vM : eXs aK aV aE aO E) {post : Int32 → Prop} :
    ∀ (t0 : Int32) (H : Heap) (locs : List Loc) (ls : Array Slot), va_S A s.heap H locs → lv_has ls 3 [] → wB_X2_writesOf_41 post t0 → W p l e rm_X2_writesOf s m args below meth c H locs 0 0 (MQ below (va_Qi (S := Unit) (fun r _ => post r) (fun _ _ => True) A) args s 0 0 A) (F0 m 41 ls [.int t0]) := by
  obtain ⟨hx, hb, hml, hr, hown, hts, hA, hlk, hE, vE⟩ := id C
  intro t0 H locs ls hG hl hw
  have hS := hG
  exact W.iret (v := t0) hx hb hr (fun t ht hW => ⟨⟨_, (), rfl, hw, trivial⟩, hS.F ht⟩) hS.2.2 dX2_writesOf_41 hlk
set_option maxHeartbeats 4000000 in
set_option maxRecDepth 100000 in
theorem k_X2_writesOf {p : Program} {l : Launch} {e : Env} {s : State} {m : MethodId} {args : Array Value} {below : List Frame} {meth : Method} {c : Code} {A : Nat → Prop} {E : EnvT} {aK aV aE : Nat → Nat} {aO : Nat} (C : sCx p s m args meth c cX2_writesOf 3 (some .int) wgX2_writesOf RX2 E A) (vM : eXs aK aV aE aO E) {post : Int32 → Prop} :
    ∀ (e0 : Nat) (x1 : Int64) (H : Heap) (locs : List Loc) (ls : Array Slot), va_S A s.heap H locs → lv_has ls 3 [(0, .ref (aE e0)), (1, .long x1)] → wp_X2_writesOf post e0 x1 → W p l e rm_X2_writesOf s m args below meth c H locs 0 0 (MQ below (va_Qi (S := Unit) (fun r _ => post r) (fun _ _ => True) A) args s 0 0 A) (F0 m 0 ls []) := by
  obtain ⟨hx, hb, hml, hr, hown, hts, hA, hlk, hE, vE⟩ := id C
  intro e0 x1 H locs ls hG hl hw
  have hS := hG
  refine lv_aload_n hx hb dX2_writesOf_0 rfl (lv_at hl 0 rfl) ?_
  obtain ⟨h_1, hw⟩ := hw
  refine vk_getf hx hb (eX.o_parts (vM _ _ _ hE) h_1) hS hown (hts _ (List.mem_cons_of_mem _ tw_6_229)) (fun _ h => h) dX2_writesOf_1 ?_
  refine lv_bipush (v := 100) hx hb dX2_writesOf_4 (by decide) ?_
  obtain ⟨h_12, hw⟩ := hw
  refine sO_i (As := [.int 100]) (rest := []) C (met_J0_indexOf_0f7a4 vE vM hw) (va_Orecv (eX.s_obj (vM _ _ _ hE) h_12) hS) (cwV 1 hts (TB_G (TB_4 tw_2_133 tw_2_134 tw_2_135 tw_1_11) tw_2_136) rfl rfl rfl (by decide +kernel) ⟨by decide, by decide⟩) hS rfl hl.1 rfl (Nat.le_of_ble_eq_true rfl) dX2_writesOf_6 ⟨by decide, by decide⟩ (fun r_2 H locs hw hS => ?_)
  have hG := hS
  refine lv_if_lt (tgt := 19) hx hb dX2_writesOf_9 (by decide) (fun q_ => ?_) (fun q_ => ?_)
  · have hw := hw.1 q_
    refine lv_aload_n hx hb dX2_writesOf_19 rfl (lv_at hl 0 rfl) ?_
    obtain ⟨h_4, hw⟩ := hw
    refine vk_getf hx hb (eX.o_parts (vM _ _ _ hE) h_4) hS hown (hts _ (List.mem_cons_of_mem _ tw_6_229)) (fun _ h => h) dX2_writesOf_20 ?_
    refine lv_bipush (v := 68) hx hb dX2_writesOf_23 (by decide) ?_
    obtain ⟨h_9, hw⟩ := hw
    refine sO_i (As := [.int 68]) (rest := []) C (met_J0_indexOf_0f7a4 vE vM hw) (va_Orecv (eX.s_obj (vM _ _ _ hE) h_9) hS) (cwV 1 hts (TB_G (TB_4 tw_2_133 tw_2_134 tw_2_135 tw_1_11) tw_2_136) rfl rfl rfl (by decide +kernel) ⟨by decide, by decide⟩) hS rfl hl.1 rfl (Nat.le_of_ble_eq_true rfl) dX2_writesOf_25 ⟨by decide, by decide⟩ (fun r_5 H locs hw hS => ?_)
    have hG := hS
    refine lv_if_lt (tgt := 40) hx hb dX2_writesOf_28 (by decide) (fun q_ => ?_) (fun q_ => ?_)
    · have hw := hw.1 q_
      refine lv_iconst (v := 0) hx hb dX2_writesOf_40 (by decide) ?_
      exact kB_X2_writesOf_41 C vM 0 _ _ _ hG (lv_sub hl [] rfl) hw
    · have hw := hw.2 q_
      refine lv_bipush (v := 68) hx hb dX2_writesOf_31 (by decide) ?_
      refine lv_lload_n hx hb dX2_writesOf_33 rfl (lv_at hl 1 rfl) ?_
      refine sS_i (As := [.int 68, .long x1]) (rest := []) C (met_X2_bitOf vE vM hw) (va_cwS 2 hts (TB_G (TB_3 tw_2_123 tw_2_124 tw_1_19) tw_2_125) rfl rfl rfl (by decide +kernel) ⟨by decide, by decide⟩) hS rfl hl.1 rfl (Nat.le_of_ble_eq_true rfl) dX2_writesOf_34 ⟨by decide, by decide⟩ (fun r_7 H locs hw hS => ?_)
      have hG := hS
      refine lv_goto (tgt := 41) hx hb dX2_writesOf_37 (by decide) ?_
      exact kB_X2_writesOf_41 C vM r_7 _ _ _ hG (lv_sub hl [] rfl) hw
  · have hw := hw.2 q_
    refine lv_bipush (v := 100) hx hb dX2_writesOf_12 (by decide) ?_
    refine lv_lload_n hx hb dX2_writesOf_14 rfl (lv_at hl 1 rfl) ?_
    refine sS_i (As := [.int 100, .long x1]) (rest := []) C (met_X2_bitOf vE vM hw) (va_cwS 2 hts (TB_G (TB_3 tw_2_123 tw_2_124 tw_1_19) tw_2_125) rfl rfl rfl (by decide +kernel) ⟨by decide, by decide⟩) hS rfl hl.1 rfl (Nat.le_of_ble_eq_true rfl) dX2_writesOf_15 ⟨by decide, by decide⟩ (fun r_10 H locs hw hS => ?_)
    have hG := hS
    exact W.iret (v := r_10) hx hb hr (fun t ht hW => ⟨⟨_, (), rfl, hw, trivial⟩, hS.F ht⟩) hS.2.2 dX2_writesOf_18 hlk
set_option maxHeartbeats 4000000 in
set_option maxRecDepth 100000 in
theorem met_X2_writesOf {l : Launch} {E : EnvT} (vE : EnvOk E) {aK aV aE : Nat → Nat} {aO : Nat} (vM : eXs aK aV aE aO E) {sz : Nat} {e0 : Nat} {x1 : Int64} {post : Int32 → Prop} (hw : wp_X2_writesOf post e0 x1) : Met l yX2_writesOf wgX2_writesOf rm_X2_writesOf (va_Pc [.ref (aE e0), .long x1] (sPre E sz)) (va_Qi (S := Unit) (fun r _ => post r) (fun _ _ => True) (va_A [] sz)) 0 0 (va_A [] sz) := by
  refine Met.ofW (cc := cX2_writesOf) (maxL := 3) (ret := (some .int)) (by decide +kernel) rfl ?_
  intro p e s m args below meth c s₁ B hml hv
  obtain ⟨rfl, hsz, hE⟩ := hv
  subst hsz
  generalize hAe : va_A [] s.heap.size = A at hE ⊢
  have hA : ∀ q : Nat, s.heap.size ≤ q → A q := fun q h => by rw [← hAe]; exact Or.inr h
  have hS : va_S A s.heap s.heap [] := va_S.rf
  have C : sCx p s m _ meth c cX2_writesOf 3 (some .int) wgX2_writesOf RX2 E A := ⟨B.exec, B.bytes, hml, B.returns, findClass_of_methodNamed B.named, atoms_spec (ws := wgX2_writesOf) B.pre, hA, B.notSynchronized, hE, vE⟩
  have hG := hS
  have hl := lv_entry ([.ref (aE e0), .long x1]) (n := 3) (Nat.le_of_ble_eq_true rfl)
  rw [lg_entry_eq]
  generalize (lg_sl ([.ref (aE e0), .long x1]) ++ List.replicate (3 - (lg_sl ([.ref (aE e0), .long x1])).length) Slot.unset).toArray = ls at hl ⊢
  have hl : lv_has ls 3 [(0, .ref (aE e0)), (1, .long x1)] := hl
  exact k_X2_writesOf C vM e0 x1 _ _ _ hG hl hw
/-! ===== X5_byteOf  ===== -/
def rm_X5_byteOf : Room := { frames := 0, cells := 0, slots := 0, locals := 0 }
abbrev wgX5_byteOf : List Cond := .code yX5_byteOf cX5_byteOf 3 (some .int) :: TB
def wp_X5_byteOf (post : Int32 → Prop) (x0 : Int64) (x2 : Int32) : Prop :=
  post (((x0 >>> ((8 * x2).toInt64 &&& 63)) &&& 255).toInt32)
set_option maxHeartbeats 4000000 in
set_option maxRecDepth 100000 in
theorem k_X5_byteOf {p : Program} {l : Launch} {e : Env} {s : State} {m : MethodId} {args : Array Value} {below : List Frame} {meth : Method} {c : Code} {A : Nat → Prop} {E : EnvT} {aK aV aE : Nat → Nat} {aO : Nat} (C : sCx p s m args meth c cX5_byteOf 3 (some .int) wgX5_byteOf RX5 E A) (vM : eXs aK aV aE aO E) {post : Int32 → Prop} :
    ∀ (x0 : Int64) (x2 : Int32) (H : Heap) (locs : List Loc) (ls : Array Slot), va_S A s.heap H locs → lv_has ls 3 [(0, .long x0), (2, .int x2)] → wp_X5_byteOf post x0 x2 → W p l e rm_X5_byteOf s m args below meth c H locs 0 0 (MQ below (va_Qi (S := Unit) (fun r _ => post r) (fun _ _ => True) A) args s 0 0 A) (F0 m 0 ls []) := by
  obtain ⟨hx, hb, hml, hr, hown, hts, hA, hlk, hE, vE⟩ := id C
  intro x0 x2 H locs ls hG hl hw
  have hS := hG
  refine lv_lload_n hx hb dX5_byteOf_0 rfl (lv_at hl 0 rfl) ?_
  refine lv_bipush (v := 8) hx hb dX5_byteOf_1 (by decide) ?_
  refine lv_iload_n hx hb dX5_byteOf_3 rfl (lv_at hl 1 rfl) ?_
  refine lv_imul hx hb dX5_byteOf_4 ?_
  refine lv_lshr hx hb dX5_byteOf_5 rfl ?_
  refine lv_ldc2 (v := 255) hx hb hown (hts _ (List.mem_cons_of_mem _ tw_2_14)) dX5_byteOf_6 ?_
  refine lv_land hx hb dX5_byteOf_9 ?_
  refine lv_l2i hx hb dX5_byteOf_10 rfl ?_
  exact W.iret (v := ((x0 >>> ((8 * x2).toInt64 &&& 63)) &&& 255).toInt32) hx hb hr (fun t ht hW => ⟨⟨_, (), rfl, hw, trivial⟩, hS.F ht⟩) hS.2.2 dX5_byteOf_11 hlk
set_option maxHeartbeats 4000000 in
set_option maxRecDepth 100000 in
theorem met_X5_byteOf {l : Launch} {E : EnvT} (vE : EnvOk E) {aK aV aE : Nat → Nat} {aO : Nat} (vM : eXs aK aV aE aO E) {sz : Nat} {x0 : Int64} {x2 : Int32} {post : Int32 → Prop} (hw : wp_X5_byteOf post x0 x2) : Met l yX5_byteOf wgX5_byteOf rm_X5_byteOf (va_Pc [.long x0, .int x2] (sPre E sz)) (va_Qi (S := Unit) (fun r _ => post r) (fun _ _ => True) (va_A [] sz)) 0 0 (va_A [] sz) := by
  refine Met.ofW (cc := cX5_byteOf) (maxL := 3) (ret := (some .int)) (by decide +kernel) rfl ?_
  intro p e s m args below meth c s₁ B hml hv
  obtain ⟨rfl, hsz, hE⟩ := hv
  subst hsz
  generalize hAe : va_A [] s.heap.size = A at hE ⊢
  have hA : ∀ q : Nat, s.heap.size ≤ q → A q := fun q h => by rw [← hAe]; exact Or.inr h
  have hS : va_S A s.heap s.heap [] := va_S.rf
  have C : sCx p s m _ meth c cX5_byteOf 3 (some .int) wgX5_byteOf RX5 E A := ⟨B.exec, B.bytes, hml, B.returns, findClass_of_methodNamed B.named, atoms_spec (ws := wgX5_byteOf) B.pre, hA, B.notSynchronized, hE, vE⟩
  have hG := hS
  have hl := lv_entry ([.long x0, .int x2]) (n := 3) (Nat.le_of_ble_eq_true rfl)
  rw [lg_entry_eq]
  generalize (lg_sl ([.long x0, .int x2]) ++ List.replicate (3 - (lg_sl ([.long x0, .int x2])).length) Slot.unset).toArray = ls at hl ⊢
  have hl : lv_has ls 3 [(0, .long x0), (2, .int x2)] := hl
  exact k_X5_byteOf C vM x0 x2 _ _ _ hG hl hw
/-! ===== X5_append tape ===== -/
def rm_X5_append : Room := { frames := 1, cells := 0, slots := 0, locals := 22 }
abbrev wgX5_append : List Cond := .code yX5_append cX5_append 6 (some .boolean) :: TB
def wB_X5_append_23 (post : Int32 → XS → Prop) (σ : XS) : Prop :=
  post 0 σ
def wB_X5_append_69 (post : Int32 → XS → Prop) (k69 : Int64 → Int32 → XS → Prop) (x1 : Int64) (x4 : Int32) (σ : XS) : Prop :=
  (x4 < 0 → (post 1 σ)) ∧ (¬ x4 < 0 → (wp_X5_byteOf (fun r_2  => vp_in (xI σ 0) 700 ∧ (∀ x4_5 : Int32, x4_5 = x4 + (-1) → k69 x1 x4_5 (yI (yA σ 0 (xI σ 0).toNatClampNeg (vp_nar .char ((r_2.toUInt32 % 65536).toInt32))) 0 ((xI σ 0) + 1)))) x1 x4))
def wL_X5_append_69 (post : Int32 → XS → Prop) : Nat → Int64 → Int32 → XS → Prop
  | 0 => fun _ _ _ => False
  | n + 1 => wB_X5_append_69 post (wL_X5_append_69 post n)
def wB_X5_append_56 (post : Int32 → XS → Prop) (σ : XS) : Prop :=
  post 0 σ
def wB_X5_append_28 (post : Int32 → XS → Prop) (k28 : Int64 → Int32 → Int32 → XS → Prop) (x1 : Int64) (x3 : Int32) (x4 : Int32) (σ : XS) : Prop :=
  (x3 ≤ x4 → (∀ x4_1 : Int32, x4_1 = x3 - 1 → ∃ n, wL_X5_append_69 post n x1 x4_1 σ)) ∧ (¬ x3 ≤ x4 → (wp_X5_byteOf (fun r_6  => (r_6 < 32 → (wB_X5_append_56 post σ)) ∧ (¬ r_6 < 32 → ((r_6 ≤ 126 → (∀ x4_8 : Int32, x4_8 = x4 + 1 → k28 x1 x3 x4_8 σ)) ∧ (¬ r_6 ≤ 126 → (wB_X5_append_56 post σ))))) x1 x4))
def wL_X5_append_28 (post : Int32 → XS → Prop) : Nat → Int64 → Int32 → Int32 → XS → Prop
  | 0 => fun _ _ _ _ => False
  | n + 1 => wB_X5_append_28 post (wL_X5_append_28 post n)
def wp_X5_append (post : Int32 → XS → Prop) (x1 : Int64) (x3 : Int32) (σ : XS) : Prop :=
  (x3 < 1 → (wB_X5_append_23 post σ)) ∧ (¬ x3 < 1 → ((8 < x3 → (wB_X5_append_23 post σ)) ∧ (¬ 8 < x3 → (((xI σ 0) ≤ (700 - x3) → (∃ n, wL_X5_append_28 post n x1 x3 0 σ)) ∧ (¬ (xI σ 0) ≤ (700 - x3) → (wB_X5_append_23 post σ))))))
set_option maxHeartbeats 4000000 in
set_option maxRecDepth 100000 in
theorem kB_X5_append_23 {p : Program} {l : Launch} {e : Env} {s : State} {m : MethodId} {args : Array Value} {below : List Frame} {meth : Method} {c : Code} {A : Nat → Prop} {E : EnvT} {aK aV : Nat → Nat} {aO : Nat} {D : va_G} {cA : Nat → ClassId} {aE ad : Nat → Nat} (C : xCx p s m args meth c cX5_append 6 (some .boolean) wgX5_append RX5 E D cA A) (vM : eXs aK aV aE aO E) {post : Int32 → XS → Prop} :
    ∀ (σ : XS) (H : Heap) (locs : List Loc) (ls : Array Slot), xG D cA aE ad A s σ H locs → lv_has ls 6 [] → wB_X5_append_23 post σ → W p l e rm_X5_append s m args below meth c H locs 0 0 (MQ below (va_Qi post (xAt D cA aE ad A) A) args s 0 0 A) (F0 m 23 ls []) := by
  obtain ⟨hx, hb, hml, hr, hown, hts, hK, hA, hlk, hE, vE⟩ := id C
  intro σ H locs ls hG hl hw
  obtain ⟨hP, hD, hS⟩ := id hG
  refine lv_iconst (v := 0) hx hb dX5_append_23 (by decide) ?_
  exact W.zret (v := 0) (ty := .boolean) hx hb hr rfl (fun t ht hW => ⟨⟨_, σ, rfl, hw, by rw [ht]; exact hP, va_K.moved hW.alike hK, hD⟩, hS.F ht⟩) hS.2.2 dX5_append_24 hlk
set_option maxHeartbeats 4000000 in
set_option maxRecDepth 100000 in
theorem kB_X5_append_69 {p : Program} {l : Launch} {e : Env} {s : State} {m : MethodId} {args : Array Value} {below : List Frame} {meth : Method} {c : Code} {A : Nat → Prop} {E : EnvT} {aK aV : Nat → Nat} {aO : Nat} {D : va_G} {cA : Nat → ClassId} {aE ad : Nat → Nat} (C : xCx p s m args meth c cX5_append 6 (some .boolean) wgX5_append RX5 E D cA A) (vM : eXs aK aV aE aO E) {post : Int32 → XS → Prop}
    {k69 : Int64 → Int32 → XS → Prop} (hk69 : ∀ (x1 : Int64) (x4 : Int32) (σ : XS) (H : Heap) (locs : List Loc) (ls : Array Slot), xG D cA aE ad A s σ H locs → lv_has ls 6 [(0, .ref (ad 1)), (1, .long x1), (4, .int x4)] → k69 x1 x4 σ → W p l e rm_X5_append s m args below meth c H locs 0 0 (MQ below (va_Qi post (xAt D cA aE ad A) A) args s 0 0 A) (F0 m 69 ls [])) :
    ∀ (x1 : Int64) (x4 : Int32) (σ : XS) (H : Heap) (locs : List Loc) (ls : Array Slot), xG D cA aE ad A s σ H locs → lv_has ls 6 [(0, .ref (ad 1)), (1, .long x1), (4, .int x4)] → wB_X5_append_69 post k69 x1 x4 σ → W p l e rm_X5_append s m args below meth c H locs 0 0 (MQ below (va_Qi post (xAt D cA aE ad A) A) args s 0 0 A) (F0 m 69 ls []) := by
  obtain ⟨hx, hb, hml, hr, hown, hts, hK, hA, hlk, hE, vE⟩ := id C
  intro x1 x4 σ H locs ls hG hl hw
  obtain ⟨hP, hD, hS⟩ := id hG
  refine lv_iload hx hb dX5_append_69 (lv_at hl 2 rfl) ?_
  refine lv_if_lt (tgt := 106) hx hb dX5_append_71 (by decide) (fun q_ => ?_) (fun q_ => ?_)
  · have hw := hw.1 q_
    refine lv_iconst (v := 1) hx hb dX5_append_106 (by decide) ?_
    exact W.zret (v := 1) (ty := .boolean) hx hb hr rfl (fun t ht hW => ⟨⟨_, σ, rfl, hw, by rw [ht]; exact hP, va_K.moved hW.alike hK, hD⟩, hS.F ht⟩) hS.2.2 dX5_append_107 hlk
  · have hw := hw.2 q_
    refine lv_aload_n hx hb dX5_append_74 rfl (lv_at hl 0 rfl) ?_
    refine va_get (D := D) (ci := 7) (v := .ref (ad 2)) (C := RX5) (T := TX5) (N := 2) hx hb hts (in_tb inX5) hown hK hP 1 rfl rfl 0 (by decide) (hts _ (List.mem_cons_of_mem _ tw_1_44)) (fun _ h9 => h9) rfl dX5_append_75 ?_
    refine lv_aload_n hx hb dX5_append_78 rfl (lv_at hl 0 rfl) ?_
    refine va_get (D := D) (ci := 7) (v := .int (xI σ 0)) (C := RX5) (T := TX5) (N := 2) hx hb hts (in_tb inX5) hown hK hP 1 rfl rfl 1 (by decide) (hts _ (List.mem_cons_of_mem _ tw_1_46)) (fun _ h9 => h9) rfl dX5_append_79 ?_
    refine lv_lload_n hx hb dX5_append_82 rfl (lv_at hl 1 rfl) ?_
    refine lv_iload hx hb dX5_append_83 (lv_at hl 2 rfl) ?_
    refine xS_i (As := [.long x1, .int x4]) (rest := [.int (xI σ 0), .ref (ad 2)]) C (met_X5_byteOf vE vM hw) (va_cwS 2 hts (TB_G (TB_3 tw_2_11 tw_2_12 tw_1_2) tw_2_13) rfl rfl rfl (by decide +kernel) ⟨by decide, by decide⟩) hP hD hS rfl hl.1 rfl (Nat.le_of_ble_eq_true rfl) dX5_append_85 ⟨by decide, by decide⟩ (fun r_2 H locs hw hP hS => ?_)
    have hG : xG D cA aE ad A s σ H locs := ⟨hP, hD, hS⟩
    refine lv_i2c hx hb dX5_append_88 rfl ?_
    obtain ⟨h_4, hw⟩ := hw
    refine va_cast hx hb hK hP hD hS 2 2 rfl rfl h_4 dX5_append_89 (fun H locs hP hD hS => ?_)
    have hG : xG D cA aE ad A s (yA σ 0 (xI σ 0).toNatClampNeg (vp_nar .char ((r_2.toUInt32 % 65536).toInt32))) H locs := ⟨hP, hD, hS⟩
    obtain ⟨hP, hD, hS⟩ := id hG
    refine lv_aload_n hx hb dX5_append_90 rfl (lv_at hl 0 rfl) ?_
    refine lv_dup hx hb dX5_append_91 rfl ?_
    refine va_get (D := D) (ci := 7) (v := .int (xI σ 0)) (C := RX5) (T := TX5) (N := 2) hx hb hts (in_tb inX5) hown hK hP 1 rfl rfl 1 (by decide) (hts _ (List.mem_cons_of_mem _ tw_1_46)) (fun _ h9 => h9) rfl dX5_append_92 ?_
    refine lv_iconst (v := 1) hx hb dX5_append_95 (by decide) ?_
    refine lv_iadd hx hb dX5_append_96 ?_
    refine va_put (D := D) (ci := 7) (v := .int ((xI σ 0) + 1)) (ty := .int) (C := RX5) (T := TX5) (N := 2) hx hb hts (in_tb inX5) tyX5 tyX5_ok nmX5 hown hK hP hD hS 1 rfl rfl 1 (by decide) (hts _ (List.mem_cons_of_mem _ tw_1_46)) (fun _ h9 => h9) rfl (by decide +kernel) rfl rfl (Nat.le_of_ble_eq_true rfl) dX5_append_97 (fun H locs hP hD hS => ?_)
    have hG : xG D cA aE ad A s (yI (yA σ 0 (xI σ 0).toNatClampNeg (vp_nar .char ((r_2.toUInt32 % 65536).toInt32))) 0 ((xI σ 0) + 1)) H locs := ⟨hP, hD, hS⟩
    obtain ⟨hP, hD, hS⟩ := id hG
    obtain ⟨x4_5, ex4_5⟩ : ∃ y : Int32, y = x4 + (-1) := ⟨_, rfl⟩
    have hw := hw x4_5 ex4_5
    refine lv_iinc (v := x4_5) (lv' := [(4, .int x4_5), (0, .ref (ad 1)), (1, .long x1)]) hx hb dX5_append_100 hl (k := 2) rfl (by rw [ex4_5]; rfl) (by decide) rfl (fun ls hl => ?_)
    refine lv_goto (tgt := 69) hx hb dX5_append_103 (by decide) ?_
    exact hk69 x1 x4_5 (yI (yA σ 0 (xI σ 0).toNatClampNeg (vp_nar .char ((r_2.toUInt32 % 65536).toInt32))) 0 ((xI σ 0) + 1)) _ _ _ hG (lv_sub hl [1, 2, 0] rfl) hw
theorem kL_X5_append_69 {p : Program} {l : Launch} {e : Env} {s : State} {m : MethodId} {args : Array Value} {below : List Frame} {meth : Method} {c : Code} {A : Nat → Prop} {E : EnvT} {aK aV : Nat → Nat} {aO : Nat} {D : va_G} {cA : Nat → ClassId} {aE ad : Nat → Nat} (C : xCx p s m args meth c cX5_append 6 (some .boolean) wgX5_append RX5 E D cA A) (vM : eXs aK aV aE aO E) {post : Int32 → XS → Prop} :
    ∀ (n : Nat) (x1 : Int64) (x4 : Int32) (σ : XS) (H : Heap) (locs : List Loc) (ls : Array Slot), xG D cA aE ad A s σ H locs → lv_has ls 6 [(0, .ref (ad 1)), (1, .long x1), (4, .int x4)] → wL_X5_append_69 post n x1 x4 σ → W p l e rm_X5_append s m args below meth c H locs 0 0 (MQ below (va_Qi post (xAt D cA aE ad A) A) args s 0 0 A) (F0 m 69 ls []) := by
  intro n
  induction n with
  | zero => intro x1 x4 σ H locs ls hG hl hw; exact hw.elim
  | succ n ih => exact kB_X5_append_69 C vM ih
set_option maxHeartbeats 4000000 in
set_option maxRecDepth 100000 in
theorem kB_X5_append_56 {p : Program} {l : Launch} {e : Env} {s : State} {m : MethodId} {args : Array Value} {below : List Frame} {meth : Method} {c : Code} {A : Nat → Prop} {E : EnvT} {aK aV : Nat → Nat} {aO : Nat} {D : va_G} {cA : Nat → ClassId} {aE ad : Nat → Nat} (C : xCx p s m args meth c cX5_append 6 (some .boolean) wgX5_append RX5 E D cA A) (vM : eXs aK aV aE aO E) {post : Int32 → XS → Prop} :
    ∀ (σ : XS) (H : Heap) (locs : List Loc) (ls : Array Slot), xG D cA aE ad A s σ H locs → lv_has ls 6 [] → wB_X5_append_56 post σ → W p l e rm_X5_append s m args below meth c H locs 0 0 (MQ below (va_Qi post (xAt D cA aE ad A) A) args s 0 0 A) (F0 m 56 ls []) := by
  obtain ⟨hx, hb, hml, hr, hown, hts, hK, hA, hlk, hE, vE⟩ := id C
  intro σ H locs ls hG hl hw
  obtain ⟨hP, hD, hS⟩ := id hG
  refine lv_iconst (v := 0) hx hb dX5_append_56 (by decide) ?_
  exact W.zret (v := 0) (ty := .boolean) hx hb hr rfl (fun t ht hW => ⟨⟨_, σ, rfl, hw, by rw [ht]; exact hP, va_K.moved hW.alike hK, hD⟩, hS.F ht⟩) hS.2.2 dX5_append_57 hlk
set_option maxHeartbeats 4000000 in
set_option maxRecDepth 100000 in
theorem kB_X5_append_28 {p : Program} {l : Launch} {e : Env} {s : State} {m : MethodId} {args : Array Value} {below : List Frame} {meth : Method} {c : Code} {A : Nat → Prop} {E : EnvT} {aK aV : Nat → Nat} {aO : Nat} {D : va_G} {cA : Nat → ClassId} {aE ad : Nat → Nat} (C : xCx p s m args meth c cX5_append 6 (some .boolean) wgX5_append RX5 E D cA A) (vM : eXs aK aV aE aO E) {post : Int32 → XS → Prop}
    {k28 : Int64 → Int32 → Int32 → XS → Prop} (hk28 : ∀ (x1 : Int64) (x3 : Int32) (x4 : Int32) (σ : XS) (H : Heap) (locs : List Loc) (ls : Array Slot), xG D cA aE ad A s σ H locs → lv_has ls 6 [(0, .ref (ad 1)), (1, .long x1), (3, .int x3), (4, .int x4)] → k28 x1 x3 x4 σ → W p l e rm_X5_append s m args below meth c H locs 0 0 (MQ below (va_Qi post (xAt D cA aE ad A) A) args s 0 0 A) (F0 m 28 ls [])) :
    ∀ (x1 : Int64) (x3 : Int32) (x4 : Int32) (σ : XS) (H : Heap) (locs : List Loc) (ls : Array Slot), xG D cA aE ad A s σ H locs → lv_has ls 6 [(0, .ref (ad 1)), (1, .long x1), (3, .int x3), (4, .int x4)] → wB_X5_append_28 post k28 x1 x3 x4 σ → W p l e rm_X5_append s m args below meth c H locs 0 0 (MQ below (va_Qi post (xAt D cA aE ad A) A) args s 0 0 A) (F0 m 28 ls []) := by
  obtain ⟨hx, hb, hml, hr, hown, hts, hK, hA, hlk, hE, vE⟩ := id C
  intro x1 x3 x4 σ H locs ls hG hl hw
  obtain ⟨hP, hD, hS⟩ := id hG
  refine lv_iload hx hb dX5_append_28 (lv_at hl 3 rfl) ?_
  refine lv_iload_n hx hb dX5_append_30 rfl (lv_at hl 2 rfl) ?_
  refine lv_icmp_ge (tgt := 64) hx hb dX5_append_31 (by decide) (fun q_ => ?_) (fun q_ => ?_)
  · have hw := hw.1 q_
    refine lv_iload_n hx hb dX5_append_64 rfl (lv_at hl 2 rfl) ?_
    refine lv_iconst (v := 1) hx hb dX5_append_65 (by decide) ?_
    refine lv_isub hx hb dX5_append_66 ?_
    refine lv_topi (fun x4_1 ex4_1 => ?_)
    have hw := hw x4_1 ex4_1
    refine lv_istore (lv' := [(4, .int x4_1), (0, .ref (ad 1)), (1, .long x1), (3, .int x3)]) hx hb dX5_append_67 hl (by decide) rfl (fun ls hl => ?_)
    obtain ⟨n_, hw⟩ := hw
    exact kL_X5_append_69 C vM n_ x1 x4_1 σ _ _ _ hG (lv_sub hl [1, 2, 0] rfl) hw
  · have hw := hw.2 q_
    refine lv_lload_n hx hb dX5_append_34 rfl (lv_at hl 1 rfl) ?_
    refine lv_iload hx hb dX5_append_35 (lv_at hl 3 rfl) ?_
    refine xS_i (As := [.long x1, .int x4]) (rest := []) C (met_X5_byteOf vE vM hw) (va_cwS 2 hts (TB_G (TB_3 tw_2_11 tw_2_12 tw_1_2) tw_2_13) rfl rfl rfl (by decide +kernel) ⟨by decide, by decide⟩) hP hD hS rfl hl.1 rfl (Nat.le_of_ble_eq_true rfl) dX5_append_37 ⟨by decide, by decide⟩ (fun r_6 H locs hw hP hS => ?_)
    have hG : xG D cA aE ad A s σ H locs := ⟨hP, hD, hS⟩
    refine lv_istore (lv' := [(5, .int r_6), (0, .ref (ad 1)), (1, .long x1), (3, .int x3), (4, .int x4)]) hx hb dX5_append_40 hl (by decide) rfl (fun ls hl => ?_)
    refine lv_iload hx hb dX5_append_42 (lv_at hl 0 rfl) ?_
    refine lv_bipush (v := 32) hx hb dX5_append_44 (by decide) ?_
    refine lv_icmp_lt (tgt := 56) hx hb dX5_append_46 (by decide) (fun q_ => ?_) (fun q_ => ?_)
    · have hw := hw.1 q_
      exact kB_X5_append_56 C vM  σ _ _ _ hG (lv_sub hl [] rfl) hw
    · have hw := hw.2 q_
      refine lv_iload hx hb dX5_append_49 (lv_at hl 0 rfl) ?_
      refine lv_bipush (v := 126) hx hb dX5_append_51 (by decide) ?_
      refine lv_icmp_le (tgt := 58) hx hb dX5_append_53 (by decide) (fun q_ => ?_) (fun q_ => ?_)
      · have hw := hw.1 q_
        obtain ⟨x4_8, ex4_8⟩ : ∃ y : Int32, y = x4 + 1 := ⟨_, rfl⟩
        have hw := hw x4_8 ex4_8
        refine lv_iinc (v := x4_8) (lv' := [(4, .int x4_8), (5, .int r_6), (0, .ref (ad 1)), (1, .long x1), (3, .int x3)]) hx hb dX5_append_58 hl (k := 4) rfl (by rw [ex4_8]; rfl) (by decide) rfl (fun ls hl => ?_)
        refine lv_goto (tgt := 28) hx hb dX5_append_61 (by decide) ?_
        exact hk28 x1 x3 x4_8 σ _ _ _ hG (lv_sub hl [2, 3, 4, 0] rfl) hw
      · have hw := hw.2 q_
        exact kB_X5_append_56 C vM  σ _ _ _ hG (lv_sub hl [] rfl) hw
theorem kL_X5_append_28 {p : Program} {l : Launch} {e : Env} {s : State} {m : MethodId} {args : Array Value} {below : List Frame} {meth : Method} {c : Code} {A : Nat → Prop} {E : EnvT} {aK aV : Nat → Nat} {aO : Nat} {D : va_G} {cA : Nat → ClassId} {aE ad : Nat → Nat} (C : xCx p s m args meth c cX5_append 6 (some .boolean) wgX5_append RX5 E D cA A) (vM : eXs aK aV aE aO E) {post : Int32 → XS → Prop} :
    ∀ (n : Nat) (x1 : Int64) (x3 : Int32) (x4 : Int32) (σ : XS) (H : Heap) (locs : List Loc) (ls : Array Slot), xG D cA aE ad A s σ H locs → lv_has ls 6 [(0, .ref (ad 1)), (1, .long x1), (3, .int x3), (4, .int x4)] → wL_X5_append_28 post n x1 x3 x4 σ → W p l e rm_X5_append s m args below meth c H locs 0 0 (MQ below (va_Qi post (xAt D cA aE ad A) A) args s 0 0 A) (F0 m 28 ls []) := by
  intro n
  induction n with
  | zero => intro x1 x3 x4 σ H locs ls hG hl hw; exact hw.elim
  | succ n ih => exact kB_X5_append_28 C vM ih
set_option maxHeartbeats 4000000 in
set_option maxRecDepth 100000 in
theorem k_X5_append {p : Program} {l : Launch} {e : Env} {s : State} {m : MethodId} {args : Array Value} {below : List Frame} {meth : Method} {c : Code} {A : Nat → Prop} {E : EnvT} {aK aV : Nat → Nat} {aO : Nat} {D : va_G} {cA : Nat → ClassId} {aE ad : Nat → Nat} (C : xCx p s m args meth c cX5_append 6 (some .boolean) wgX5_append RX5 E D cA A) (vM : eXs aK aV aE aO E) {post : Int32 → XS → Prop} :
    ∀ (x1 : Int64) (x3 : Int32) (σ : XS) (H : Heap) (locs : List Loc) (ls : Array Slot), xG D cA aE ad A s σ H locs → lv_has ls 6 [(0, .ref (ad 1)), (1, .long x1), (3, .int x3)] → wp_X5_append post x1 x3 σ → W p l e rm_X5_append s m args below meth c H locs 0 0 (MQ below (va_Qi post (xAt D cA aE ad A) A) args s 0 0 A) (F0 m 0 ls []) := by
  obtain ⟨hx, hb, hml, hr, hown, hts, hK, hA, hlk, hE, vE⟩ := id C
  intro x1 x3 σ H locs ls hG hl hw
  obtain ⟨hP, hD, hS⟩ := id hG
  refine lv_iload_n hx hb dX5_append_0 rfl (lv_at hl 2 rfl) ?_
  refine lv_iconst (v := 1) hx hb dX5_append_1 (by decide) ?_
  refine lv_icmp_lt (tgt := 23) hx hb dX5_append_2 (by decide) (fun q_ => ?_) (fun q_ => ?_)
  · have hw := hw.1 q_
    exact kB_X5_append_23 C vM  σ _ _ _ hG (lv_sub hl [] rfl) hw
  · have hw := hw.2 q_
    refine lv_iload_n hx hb dX5_append_5 rfl (lv_at hl 2 rfl) ?_
    refine lv_bipush (v := 8) hx hb dX5_append_6 (by decide) ?_
    refine lv_icmp_gt (tgt := 23) hx hb dX5_append_8 (by decide) (fun q_ => ?_) (fun q_ => ?_)
    · have hw := hw.1 q_
      exact kB_X5_append_23 C vM  σ _ _ _ hG (lv_sub hl [] rfl) hw
    · have hw := hw.2 q_
      refine lv_aload_n hx hb dX5_append_11 rfl (lv_at hl 0 rfl) ?_
      refine va_get (D := D) (ci := 7) (v := .int (xI σ 0)) (C := RX5) (T := TX5) (N := 2) hx hb hts (in_tb inX5) hown hK hP 1 rfl rfl 1 (by decide) (hts _ (List.mem_cons_of_mem _ tw_1_46)) (fun _ h9 => h9) rfl dX5_append_12 ?_
      refine lv_sipush (v := 700) hx hb dX5_append_15 (by decide) ?_
      refine lv_iload_n hx hb dX5_append_18 rfl (lv_at hl 2 rfl) ?_
      refine lv_isub hx hb dX5_append_19 ?_
      refine lv_icmp_le (tgt := 25) hx hb dX5_append_20 (by decide) (fun q_ => ?_) (fun q_ => ?_)
      · have hw := hw.1 q_
        refine lv_iconst (v := 0) hx hb dX5_append_25 (by decide) ?_
        refine lv_istore (lv' := [(4, .int 0), (0, .ref (ad 1)), (1, .long x1), (3, .int x3)]) hx hb dX5_append_26 hl (by decide) rfl (fun ls hl => ?_)
        obtain ⟨n_, hw⟩ := hw
        exact kL_X5_append_28 C vM n_ x1 x3 0 σ _ _ _ hG (lv_sub hl [1, 2, 3, 0] rfl) hw
      · have hw := hw.2 q_
        exact kB_X5_append_23 C vM  σ _ _ _ hG (lv_sub hl [] rfl) hw
set_option maxHeartbeats 4000000 in
set_option maxRecDepth 100000 in
theorem met_X5_append {l : Launch} {E : EnvT} (vE : EnvOk E) {D : va_G} {cA : Nat → ClassId} {aE ad : Nat → Nat} {σ : XS} {aK aV : Nat → Nat} {aO : Nat} (vM : eXs aK aV aE aO E) {sz : Nat} {x1 : Int64} {x3 : Int32} {post : Int32 → XS → Prop} (hw : wp_X5_append post x1 x3 σ) : Met l yX5_append wgX5_append rm_X5_append (va_Pc [.ref (ad 1), .long x1, .int x3] (xPre E D cA aE ad sz σ)) (va_Qi post (xAt D cA aE ad (va_A (xW cA aE ad σ) sz)) (va_A (xW cA aE ad σ) sz)) 0 0 (va_A (xW cA aE ad σ) sz) := by
  refine Met.ofW (cc := cX5_append) (maxL := 6) (ret := (some .boolean)) (by decide +kernel) rfl ?_
  intro p e s m args below meth c s₁ B hml hv
  obtain ⟨rfl, hsz, hP, hK, hD0, hE⟩ := hv
  subst hsz
  have hD := hD0.self (sz := s.heap.size)
  generalize hAe : va_A (xW cA aE ad σ) s.heap.size = A at hD hE ⊢
  have hA : ∀ q : Nat, s.heap.size ≤ q → A q := fun q h => by rw [← hAe]; exact Or.inr h
  have hS : va_S A s.heap s.heap [] := va_S.rf
  have C : xCx p s m _ meth c cX5_append 6 (some .boolean) wgX5_append RX5 E D cA A := ⟨B.exec, B.bytes, hml, B.returns, findClass_of_methodNamed B.named, atoms_spec (ws := wgX5_append) B.pre, hK, hA, B.notSynchronized, hE, vE⟩
  have hG : xG D cA aE ad A s σ s.heap [] := ⟨hP, hD, hS⟩
  have hl := lv_entry ([.ref (ad 1), .long x1, .int x3]) (n := 6) (Nat.le_of_ble_eq_true rfl)
  rw [lg_entry_eq]
  generalize (lg_sl ([.ref (ad 1), .long x1, .int x3]) ++ List.replicate (6 - (lg_sl ([.ref (ad 1), .long x1, .int x3])).length) Slot.unset).toArray = ls at hl ⊢
  have hl : lv_has ls 6 [(0, .ref (ad 1)), (1, .long x1), (3, .int x3)] := hl
  exact k_X5_append C vM x1 x3 σ _ _ _ hG hl hw
/-! ===== X6_isDigit  ===== -/
def rm_X6_isDigit : Room := { frames := 0, cells := 0, slots := 0, locals := 0 }
abbrev wgX6_isDigit : List Cond := .code yX6_isDigit cX6_isDigit 1 (some .boolean) :: TB
def wB_X6_isDigit_17 (post : Int32 → Prop) (t0 : Int32) : Prop :=
  isB t0 ∧ (post t0)
def wB_X6_isDigit_16 (post : Int32 → Prop) : Prop :=
  wB_X6_isDigit_17 post 0
def wp_X6_isDigit (post : Int32 → Prop) (x0 : Int32) : Prop :=
  (x0 < 48 → (wB_X6_isDigit_16 post)) ∧ (¬ x0 < 48 → ((57 < x0 → (wB_X6_isDigit_16 post)) ∧ (¬ 57 < x0 → (wB_X6_isDigit_17 post 1))))
set_option maxHeartbeats 4000000 in
set_option maxRecDepth 100000 in
theorem kB_X6_isDigit_17 {p : Program} {l : Launch} {e : Env} {s : State} {m : MethodId} {args : Array Value} {below : List Frame} {meth : Method} {c : Code} {A : Nat → Prop} {E : EnvT} {aK aV aE : Nat → Nat} {aO : Nat} (C : sCx p s m args meth c cX6_isDigit 1 (some .boolean) wgX6_isDigit RX6 E A) (vM : eXs aK aV aE aO E) {post : Int32 → Prop} :
    ∀ (t0 : Int32) (H : Heap) (locs : List Loc) (ls : Array Slot), va_S A s.heap H locs → lv_has ls 1 [] → wB_X6_isDigit_17 post t0 → W p l e rm_X6_isDigit s m args below meth c H locs 0 0 (MQ below (va_Qi (S := Unit) (fun r _ => post r) (fun _ _ => True) A) args s 0 0 A) (F0 m 17 ls [.int t0]) := by
  obtain ⟨hx, hb, hml, hr, hown, hts, hA, hlk, hE, vE⟩ := id C
  intro t0 H locs ls hG hl hw
  have hS := hG
  obtain ⟨h_1, hw⟩ := hw
  exact W.zret (v := t0) (ty := .boolean) hx hb hr (isB.n h_1) (fun t ht hW => ⟨⟨_, (), rfl, hw, trivial⟩, hS.F ht⟩) hS.2.2 dX6_isDigit_17 hlk
set_option maxHeartbeats 4000000 in
set_option maxRecDepth 100000 in
theorem kB_X6_isDigit_16 {p : Program} {l : Launch} {e : Env} {s : State} {m : MethodId} {args : Array Value} {below : List Frame} {meth : Method} {c : Code} {A : Nat → Prop} {E : EnvT} {aK aV aE : Nat → Nat} {aO : Nat} (C : sCx p s m args meth c cX6_isDigit 1 (some .boolean) wgX6_isDigit RX6 E A) (vM : eXs aK aV aE aO E) {post : Int32 → Prop} :
    ∀ (H : Heap) (locs : List Loc) (ls : Array Slot), va_S A s.heap H locs → lv_has ls 1 [] → wB_X6_isDigit_16 post → W p l e rm_X6_isDigit s m args below meth c H locs 0 0 (MQ below (va_Qi (S := Unit) (fun r _ => post r) (fun _ _ => True) A) args s 0 0 A) (F0 m 16 ls []) := by
  obtain ⟨hx, hb, hml, hr, hown, hts, hA, hlk, hE, vE⟩ := id C
  intro H locs ls hG hl hw
  have hS := hG
  refine lv_iconst (v := 0) hx hb dX6_isDigit_16 (by decide) ?_
  exact kB_X6_isDigit_17 C vM 0 _ _ _ hG (lv_sub hl [] rfl) hw
set_option maxHeartbeats 4000000 in
set_option maxRecDepth 100000 in
theorem k_X6_isDigit {p : Program} {l : Launch} {e : Env} {s : State} {m : MethodId} {args : Array Value} {below : List Frame} {meth : Method} {c : Code} {A : Nat → Prop} {E : EnvT} {aK aV aE : Nat → Nat} {aO : Nat} (C : sCx p s m args meth c cX6_isDigit 1 (some .boolean) wgX6_isDigit RX6 E A) (vM : eXs aK aV aE aO E) {post : Int32 → Prop} :
    ∀ (x0 : Int32) (H : Heap) (locs : List Loc) (ls : Array Slot), va_S A s.heap H locs → lv_has ls 1 [(0, .int x0)] → wp_X6_isDigit post x0 → W p l e rm_X6_isDigit s m args below meth c H locs 0 0 (MQ below (va_Qi (S := Unit) (fun r _ => post r) (fun _ _ => True) A) args s 0 0 A) (F0 m 0 ls []) := by
  obtain ⟨hx, hb, hml, hr, hown, hts, hA, hlk, hE, vE⟩ := id C
  intro x0 H locs ls hG hl hw
  have hS := hG
  refine lv_iload_n hx hb dX6_isDigit_0 rfl (lv_at hl 0 rfl) ?_
  refine lv_bipush (v := 48) hx hb dX6_isDigit_1 (by decide) ?_
  refine lv_icmp_lt (tgt := 16) hx hb dX6_isDigit_3 (by decide) (fun q_ => ?_) (fun q_ => ?_)
  · have hw := hw.1 q_
    exact kB_X6_isDigit_16 C vM  _ _ _ hG (lv_sub hl [] rfl) hw
  · have hw := hw.2 q_
    refine lv_iload_n hx hb dX6_isDigit_6 rfl (lv_at hl 0 rfl) ?_
    refine lv_bipush (v := 57) hx hb dX6_isDigit_7 (by decide) ?_
    refine lv_icmp_gt (tgt := 16) hx hb dX6_isDigit_9 (by decide) (fun q_ => ?_) (fun q_ => ?_)
    · have hw := hw.1 q_
      exact kB_X6_isDigit_16 C vM  _ _ _ hG (lv_sub hl [] rfl) hw
    · have hw := hw.2 q_
      refine lv_iconst (v := 1) hx hb dX6_isDigit_12 (by decide) ?_
      refine lv_goto (tgt := 17) hx hb dX6_isDigit_13 (by decide) ?_
      exact kB_X6_isDigit_17 C vM 1 _ _ _ hG (lv_sub hl [] rfl) hw
set_option maxHeartbeats 4000000 in
set_option maxRecDepth 100000 in
theorem met_X6_isDigit {l : Launch} {E : EnvT} (vE : EnvOk E) {aK aV aE : Nat → Nat} {aO : Nat} (vM : eXs aK aV aE aO E) {sz : Nat} {x0 : Int32} {post : Int32 → Prop} (hw : wp_X6_isDigit post x0) : Met l yX6_isDigit wgX6_isDigit rm_X6_isDigit (va_Pc [.int x0] (sPre E sz)) (va_Qi (S := Unit) (fun r _ => post r) (fun _ _ => True) (va_A [] sz)) 0 0 (va_A [] sz) := by
  refine Met.ofW (cc := cX6_isDigit) (maxL := 1) (ret := (some .boolean)) (by decide +kernel) rfl ?_
  intro p e s m args below meth c s₁ B hml hv
  obtain ⟨rfl, hsz, hE⟩ := hv
  subst hsz
  generalize hAe : va_A [] s.heap.size = A at hE ⊢
  have hA : ∀ q : Nat, s.heap.size ≤ q → A q := fun q h => by rw [← hAe]; exact Or.inr h
  have hS : va_S A s.heap s.heap [] := va_S.rf
  have C : sCx p s m _ meth c cX6_isDigit 1 (some .boolean) wgX6_isDigit RX6 E A := ⟨B.exec, B.bytes, hml, B.returns, findClass_of_methodNamed B.named, atoms_spec (ws := wgX6_isDigit) B.pre, hA, B.notSynchronized, hE, vE⟩
  have hG := hS
  have hl := lv_entry ([.int x0]) (n := 1) (Nat.le_of_ble_eq_true rfl)
  rw [lg_entry_eq]
  generalize (lg_sl ([.int x0]) ++ List.replicate (1 - (lg_sl ([.int x0])).length) Slot.unset).toArray = ls at hl ⊢
  have hl : lv_has ls 1 [(0, .int x0)] := hl
  exact k_X6_isDigit C vM x0 _ _ _ hG hl hw
/-! ===== X6_isSmall  ===== -/
def rm_X6_isSmall : Room := { frames := 0, cells := 0, slots := 0, locals := 0 }
abbrev wgX6_isSmall : List Cond := .code yX6_isSmall cX6_isSmall 1 (some .boolean) :: TB
def wB_X6_isSmall_17 (post : Int32 → Prop) (t0 : Int32) : Prop :=
  isB t0 ∧ (post t0)
def wB_X6_isSmall_16 (post : Int32 → Prop) : Prop :=
  wB_X6_isSmall_17 post 0
def wp_X6_isSmall (post : Int32 → Prop) (x0 : Int32) : Prop :=
  (x0 < 97 → (wB_X6_isSmall_16 post)) ∧ (¬ x0 < 97 → ((122 < x0 → (wB_X6_isSmall_16 post)) ∧ (¬ 122 < x0 → (wB_X6_isSmall_17 post 1))))
set_option maxHeartbeats 4000000 in
set_option maxRecDepth 100000 in
theorem kB_X6_isSmall_17 {p : Program} {l : Launch} {e : Env} {s : State} {m : MethodId} {args : Array Value} {below : List Frame} {meth : Method} {c : Code} {A : Nat → Prop} {E : EnvT} {aK aV aE : Nat → Nat} {aO : Nat} (C : sCx p s m args meth c cX6_isSmall 1 (some .boolean) wgX6_isSmall RX6 E A) (vM : eXs aK aV aE aO E) {post : Int32 → Prop} :
    ∀ (t0 : Int32) (H : Heap) (locs : List Loc) (ls : Array Slot), va_S A s.heap H locs → lv_has ls 1 [] → wB_X6_isSmall_17 post t0 → W p l e rm_X6_isSmall s m args below meth c H locs 0 0 (MQ below (va_Qi (S := Unit) (fun r _ => post r) (fun _ _ => True) A) args s 0 0 A) (F0 m 17 ls [.int t0]) := by
  obtain ⟨hx, hb, hml, hr, hown, hts, hA, hlk, hE, vE⟩ := id C
  intro t0 H locs ls hG hl hw
  have hS := hG
  obtain ⟨h_1, hw⟩ := hw
  exact W.zret (v := t0) (ty := .boolean) hx hb hr (isB.n h_1) (fun t ht hW => ⟨⟨_, (), rfl, hw, trivial⟩, hS.F ht⟩) hS.2.2 dX6_isSmall_17 hlk
set_option maxHeartbeats 4000000 in
set_option maxRecDepth 100000 in
theorem kB_X6_isSmall_16 {p : Program} {l : Launch} {e : Env} {s : State} {m : MethodId} {args : Array Value} {below : List Frame} {meth : Method} {c : Code} {A : Nat → Prop} {E : EnvT} {aK aV aE : Nat → Nat} {aO : Nat} (C : sCx p s m args meth c cX6_isSmall 1 (some .boolean) wgX6_isSmall RX6 E A) (vM : eXs aK aV aE aO E) {post : Int32 → Prop} :
    ∀ (H : Heap) (locs : List Loc) (ls : Array Slot), va_S A s.heap H locs → lv_has ls 1 [] → wB_X6_isSmall_16 post → W p l e rm_X6_isSmall s m args below meth c H locs 0 0 (MQ below (va_Qi (S := Unit) (fun r _ => post r) (fun _ _ => True) A) args s 0 0 A) (F0 m 16 ls []) := by
  obtain ⟨hx, hb, hml, hr, hown, hts, hA, hlk, hE, vE⟩ := id C
  intro H locs ls hG hl hw
  have hS := hG
  refine lv_iconst (v := 0) hx hb dX6_isSmall_16 (by decide) ?_
  exact kB_X6_isSmall_17 C vM 0 _ _ _ hG (lv_sub hl [] rfl) hw
set_option maxHeartbeats 4000000 in
set_option maxRecDepth 100000 in
theorem k_X6_isSmall {p : Program} {l : Launch} {e : Env} {s : State} {m : MethodId} {args : Array Value} {below : List Frame} {meth : Method} {c : Code} {A : Nat → Prop} {E : EnvT} {aK aV aE : Nat → Nat} {aO : Nat} (C : sCx p s m args meth c cX6_isSmall 1 (some .boolean) wgX6_isSmall RX6 E A) (vM : eXs aK aV aE aO E) {post : Int32 → Prop} :
    ∀ (x0 : Int32) (H : Heap) (locs : List Loc) (ls : Array Slot), va_S A s.heap H locs → lv_has ls 1 [(0, .int x0)] → wp_X6_isSmall post x0 → W p l e rm_X6_isSmall s m args below meth c H locs 0 0 (MQ below (va_Qi (S := Unit) (fun r _ => post r) (fun _ _ => True) A) args s 0 0 A) (F0 m 0 ls []) := by
  obtain ⟨hx, hb, hml, hr, hown, hts, hA, hlk, hE, vE⟩ := id C
  intro x0 H locs ls hG hl hw
  have hS := hG
  refine lv_iload_n hx hb dX6_isSmall_0 rfl (lv_at hl 0 rfl) ?_
  refine lv_bipush (v := 97) hx hb dX6_isSmall_1 (by decide) ?_
  refine lv_icmp_lt (tgt := 16) hx hb dX6_isSmall_3 (by decide) (fun q_ => ?_) (fun q_ => ?_)
  · have hw := hw.1 q_
    exact kB_X6_isSmall_16 C vM  _ _ _ hG (lv_sub hl [] rfl) hw
  · have hw := hw.2 q_
    refine lv_iload_n hx hb dX6_isSmall_6 rfl (lv_at hl 0 rfl) ?_
    refine lv_bipush (v := 122) hx hb dX6_isSmall_7 (by decide) ?_
    refine lv_icmp_gt (tgt := 16) hx hb dX6_isSmall_9 (by decide) (fun q_ => ?_) (fun q_ => ?_)
    · have hw := hw.1 q_
      exact kB_X6_isSmall_16 C vM  _ _ _ hG (lv_sub hl [] rfl) hw
    · have hw := hw.2 q_
      refine lv_iconst (v := 1) hx hb dX6_isSmall_12 (by decide) ?_
      refine lv_goto (tgt := 17) hx hb dX6_isSmall_13 (by decide) ?_
      exact kB_X6_isSmall_17 C vM 1 _ _ _ hG (lv_sub hl [] rfl) hw
set_option maxHeartbeats 4000000 in
set_option maxRecDepth 100000 in
theorem met_X6_isSmall {l : Launch} {E : EnvT} (vE : EnvOk E) {aK aV aE : Nat → Nat} {aO : Nat} (vM : eXs aK aV aE aO E) {sz : Nat} {x0 : Int32} {post : Int32 → Prop} (hw : wp_X6_isSmall post x0) : Met l yX6_isSmall wgX6_isSmall rm_X6_isSmall (va_Pc [.int x0] (sPre E sz)) (va_Qi (S := Unit) (fun r _ => post r) (fun _ _ => True) (va_A [] sz)) 0 0 (va_A [] sz) := by
  refine Met.ofW (cc := cX6_isSmall) (maxL := 1) (ret := (some .boolean)) (by decide +kernel) rfl ?_
  intro p e s m args below meth c s₁ B hml hv
  obtain ⟨rfl, hsz, hE⟩ := hv
  subst hsz
  generalize hAe : va_A [] s.heap.size = A at hE ⊢
  have hA : ∀ q : Nat, s.heap.size ≤ q → A q := fun q h => by rw [← hAe]; exact Or.inr h
  have hS : va_S A s.heap s.heap [] := va_S.rf
  have C : sCx p s m _ meth c cX6_isSmall 1 (some .boolean) wgX6_isSmall RX6 E A := ⟨B.exec, B.bytes, hml, B.returns, findClass_of_methodNamed B.named, atoms_spec (ws := wgX6_isSmall) B.pre, hA, B.notSynchronized, hE, vE⟩
  have hG := hS
  have hl := lv_entry ([.int x0]) (n := 1) (Nat.le_of_ble_eq_true rfl)
  rw [lg_entry_eq]
  generalize (lg_sl ([.int x0]) ++ List.replicate (1 - (lg_sl ([.int x0])).length) Slot.unset).toArray = ls at hl ⊢
  have hl : lv_has ls 1 [(0, .int x0)] := hl
  exact k_X6_isSmall C vM x0 _ _ _ hG hl hw
/-! ===== X6_put tokens ===== -/
def rm_X6_put : Room := { frames := 0, cells := 0, slots := 0, locals := 0 }
abbrev wgX6_put : List Cond := .code yX6_put cX6_put 5 none :: TB
def wp_X6_put (post : XS → Prop) (x1 : Int32) (x2 : Int32) (x3 : Int64) (σ : XS) : Prop :=
  ((xI σ 4) ≤ 700 → (vp_in (xI σ 4) 701 ∧ (vp_in (xI σ 4) 701 ∧ (vp_in (xI σ 4) 701 ∧ (post (yI (yL (yA (yA σ 1 (xI σ 4).toNatClampNeg x1) 2 (xI σ 4).toNatClampNeg x2) 0 (xI σ 4).toNatClampNeg x3) 4 ((xI σ 4) + 1))))))) ∧ (¬ (xI σ 4) ≤ 700 → (post σ))
set_option maxHeartbeats 4000000 in
set_option maxRecDepth 100000 in
theorem k_X6_put {p : Program} {l : Launch} {e : Env} {s : State} {m : MethodId} {args : Array Value} {below : List Frame} {meth : Method} {c : Code} {A : Nat → Prop} {E : EnvT} {aK aV : Nat → Nat} {aO : Nat} {D : va_G} {cA : Nat → ClassId} {aE ad : Nat → Nat} (C : xCx p s m args meth c cX6_put 5 none wgX6_put RX6 E D cA A) (vM : eXs aK aV aE aO E) {post : XS → Prop} :
    ∀ (x1 : Int32) (x2 : Int32) (x3 : Int64) (σ : XS) (H : Heap) (locs : List Loc) (ls : Array Slot), xG D cA aE ad A s σ H locs → lv_has ls 5 [(0, .ref (ad 4)), (1, .int x1), (2, .int x2), (3, .long x3)] → wp_X6_put post x1 x2 x3 σ → W p l e rm_X6_put s m args below meth c H locs 0 0 (MQ below (va_Qv post (xAt D cA aE ad A) A) args s 0 0 A) (F0 m 0 ls []) := by
  obtain ⟨hx, hb, hml, hr, hown, hts, hK, hA, hlk, hE, vE⟩ := id C
  intro x1 x2 x3 σ H locs ls hG hl hw
  obtain ⟨hP, hD, hS⟩ := id hG
  refine lv_aload_n hx hb dX6_put_0 rfl (lv_at hl 0 rfl) ?_
  refine va_get (D := D) (ci := 8) (v := .int (xI σ 4)) (C := RX6) (T := TX6) (N := 6) hx hb hts (in_tb inX6) hown hK hP 4 rfl rfl 4 (by decide) (hts _ (List.mem_cons_of_mem _ tw_1_95)) (fun _ h9 => h9) rfl dX6_put_1 ?_
  refine lv_sipush (v := 700) hx hb dX6_put_4 (by decide) ?_
  refine lv_icmp_le (tgt := 11) hx hb dX6_put_7 (by decide) (fun q_ => ?_) (fun q_ => ?_)
  · have hw := hw.1 q_
    refine lv_aload_n hx hb dX6_put_11 rfl (lv_at hl 0 rfl) ?_
    refine va_get (D := D) (ci := 8) (v := .ref (ad 5)) (C := RX6) (T := TX6) (N := 6) hx hb hts (in_tb inX6) hown hK hP 4 rfl rfl 1 (by decide) (hts _ (List.mem_cons_of_mem _ tw_1_92)) (fun _ h9 => h9) rfl dX6_put_12 ?_
    refine lv_aload_n hx hb dX6_put_15 rfl (lv_at hl 0 rfl) ?_
    refine va_get (D := D) (ci := 8) (v := .int (xI σ 4)) (C := RX6) (T := TX6) (N := 6) hx hb hts (in_tb inX6) hown hK hP 4 rfl rfl 4 (by decide) (hts _ (List.mem_cons_of_mem _ tw_1_95)) (fun _ h9 => h9) rfl dX6_put_16 ?_
    refine lv_iload_n hx hb dX6_put_19 rfl (lv_at hl 1 rfl) ?_
    obtain ⟨h_1, hw⟩ := hw
    refine va_iast hx hb hK hP hD hS 5 0 rfl rfl h_1 dX6_put_20 (fun H locs hP hD hS => ?_)
    have hG : xG D cA aE ad A s (yA σ 1 (xI σ 4).toNatClampNeg x1) H locs := ⟨hP, hD, hS⟩
    obtain ⟨hP, hD, hS⟩ := id hG
    refine lv_aload_n hx hb dX6_put_21 rfl (lv_at hl 0 rfl) ?_
    refine va_get (D := D) (ci := 8) (v := .ref (ad 6)) (C := RX6) (T := TX6) (N := 6) hx hb hts (in_tb inX6) hown hK hP 4 rfl rfl 2 (by decide) (hts _ (List.mem_cons_of_mem _ tw_1_93)) (fun _ h9 => h9) rfl dX6_put_22 ?_
    refine lv_aload_n hx hb dX6_put_25 rfl (lv_at hl 0 rfl) ?_
    refine va_get (D := D) (ci := 8) (v := .int (xI σ 4)) (C := RX6) (T := TX6) (N := 6) hx hb hts (in_tb inX6) hown hK hP 4 rfl rfl 4 (by decide) (hts _ (List.mem_cons_of_mem _ tw_1_95)) (fun _ h9 => h9) rfl dX6_put_26 ?_
    refine lv_iload_n hx hb dX6_put_29 rfl (lv_at hl 2 rfl) ?_
    obtain ⟨h_2, hw⟩ := hw
    refine va_iast hx hb hK hP hD hS 6 0 rfl rfl h_2 dX6_put_30 (fun H locs hP hD hS => ?_)
    have hG : xG D cA aE ad A s (yA (yA σ 1 (xI σ 4).toNatClampNeg x1) 2 (xI σ 4).toNatClampNeg x2) H locs := ⟨hP, hD, hS⟩
    obtain ⟨hP, hD, hS⟩ := id hG
    refine lv_aload_n hx hb dX6_put_31 rfl (lv_at hl 0 rfl) ?_
    refine va_get (D := D) (ci := 8) (v := .ref (ad 7)) (C := RX6) (T := TX6) (N := 6) hx hb hts (in_tb inX6) hown hK hP 4 rfl rfl 3 (by decide) (hts _ (List.mem_cons_of_mem _ tw_1_94)) (fun _ h9 => h9) rfl dX6_put_32 ?_
    refine lv_aload_n hx hb dX6_put_35 rfl (lv_at hl 0 rfl) ?_
    refine va_get (D := D) (ci := 8) (v := .int (xI σ 4)) (C := RX6) (T := TX6) (N := 6) hx hb hts (in_tb inX6) hown hK hP 4 rfl rfl 4 (by decide) (hts _ (List.mem_cons_of_mem _ tw_1_95)) (fun _ h9 => h9) rfl dX6_put_36 ?_
    refine lv_lload_n hx hb dX6_put_39 rfl (lv_at hl 3 rfl) ?_
    obtain ⟨h_3, hw⟩ := hw
    refine va_last hx hb hK hP hD hS 7 1 rfl rfl h_3 dX6_put_40 (fun H locs hP hD hS => ?_)
    have hG : xG D cA aE ad A s (yL (yA (yA σ 1 (xI σ 4).toNatClampNeg x1) 2 (xI σ 4).toNatClampNeg x2) 0 (xI σ 4).toNatClampNeg x3) H locs := ⟨hP, hD, hS⟩
    obtain ⟨hP, hD, hS⟩ := id hG
    refine lv_aload_n hx hb dX6_put_41 rfl (lv_at hl 0 rfl) ?_
    refine lv_dup hx hb dX6_put_42 rfl ?_
    refine va_get (D := D) (ci := 8) (v := .int (xI σ 4)) (C := RX6) (T := TX6) (N := 6) hx hb hts (in_tb inX6) hown hK hP 4 rfl rfl 4 (by decide) (hts _ (List.mem_cons_of_mem _ tw_1_95)) (fun _ h9 => h9) rfl dX6_put_43 ?_
    refine lv_iconst (v := 1) hx hb dX6_put_46 (by decide) ?_
    refine lv_iadd hx hb dX6_put_47 ?_
    refine va_put (D := D) (ci := 8) (v := .int ((xI σ 4) + 1)) (ty := .int) (C := RX6) (T := TX6) (N := 6) hx hb hts (in_tb inX6) tyX6 tyX6_ok nmX6 hown hK hP hD hS 4 rfl rfl 4 (by decide) (hts _ (List.mem_cons_of_mem _ tw_1_95)) (fun _ h9 => h9) rfl (by decide +kernel) rfl rfl (Nat.le_of_ble_eq_true rfl) dX6_put_48 (fun H locs hP hD hS => ?_)
    have hG : xG D cA aE ad A s (yI (yL (yA (yA σ 1 (xI σ 4).toNatClampNeg x1) 2 (xI σ 4).toNatClampNeg x2) 0 (xI σ 4).toNatClampNeg x3) 4 ((xI σ 4) + 1)) H locs := ⟨hP, hD, hS⟩
    obtain ⟨hP, hD, hS⟩ := id hG
    exact W.vret hx hb hr (fun t ht hW => ⟨⟨(yI (yL (yA (yA σ 1 (xI σ 4).toNatClampNeg x1) 2 (xI σ 4).toNatClampNeg x2) 0 (xI σ 4).toNatClampNeg x3) 4 ((xI σ 4) + 1)), rfl, hw, by rw [ht]; exact hP, va_K.moved hW.alike hK, hD⟩, hS.F ht⟩) hS.2.2 dX6_put_51 hlk
  · have hw := hw.2 q_
    exact W.vret hx hb hr (fun t ht hW => ⟨⟨σ, rfl, hw, by rw [ht]; exact hP, va_K.moved hW.alike hK, hD⟩, hS.F ht⟩) hS.2.2 dX6_put_10 hlk
set_option maxHeartbeats 4000000 in
set_option maxRecDepth 100000 in
theorem met_X6_put {l : Launch} {E : EnvT} (vE : EnvOk E) {D : va_G} {cA : Nat → ClassId} {aE ad : Nat → Nat} {σ : XS} {aK aV : Nat → Nat} {aO : Nat} (vM : eXs aK aV aE aO E) {sz : Nat} {x1 : Int32} {x2 : Int32} {x3 : Int64} {post : XS → Prop} (hw : wp_X6_put post x1 x2 x3 σ) : Met l yX6_put wgX6_put rm_X6_put (va_Pc [.ref (ad 4), .int x1, .int x2, .long x3] (xPre E D cA aE ad sz σ)) (va_Qv post (xAt D cA aE ad (va_A (xW cA aE ad σ) sz)) (va_A (xW cA aE ad σ) sz)) 0 0 (va_A (xW cA aE ad σ) sz) := by
  refine Met.ofW (cc := cX6_put) (maxL := 5) (ret := none) (by decide +kernel) rfl ?_
  intro p e s m args below meth c s₁ B hml hv
  obtain ⟨rfl, hsz, hP, hK, hD0, hE⟩ := hv
  subst hsz
  have hD := hD0.self (sz := s.heap.size)
  generalize hAe : va_A (xW cA aE ad σ) s.heap.size = A at hD hE ⊢
  have hA : ∀ q : Nat, s.heap.size ≤ q → A q := fun q h => by rw [← hAe]; exact Or.inr h
  have hS : va_S A s.heap s.heap [] := va_S.rf
  have C : xCx p s m _ meth c cX6_put 5 none wgX6_put RX6 E D cA A := ⟨B.exec, B.bytes, hml, B.returns, findClass_of_methodNamed B.named, atoms_spec (ws := wgX6_put) B.pre, hK, hA, B.notSynchronized, hE, vE⟩
  have hG : xG D cA aE ad A s σ s.heap [] := ⟨hP, hD, hS⟩
  have hl := lv_entry ([.ref (ad 4), .int x1, .int x2, .long x3]) (n := 5) (Nat.le_of_ble_eq_true rfl)
  rw [lg_entry_eq]
  generalize (lg_sl ([.ref (ad 4), .int x1, .int x2, .long x3]) ++ List.replicate (5 - (lg_sl ([.ref (ad 4), .int x1, .int x2, .long x3])).length) Slot.unset).toArray = ls at hl ⊢
  have hl : lv_has ls 5 [(0, .ref (ad 4)), (1, .int x1), (2, .int x2), (3, .long x3)] := hl
  exact k_X6_put C vM x1 x2 x3 σ _ _ _ hG hl hw
