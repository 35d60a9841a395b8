/-! ===== X3_takeWord parser ===== -/
def rm_X3_takeWord : Room := { frames := 4, cells := 0, slots := 0, locals := 85 }
abbrev wgX3_takeWord : List Cond := .code yX3_takeWord cX3_takeWord 8 (some .boolean) :: TB
def wB_X3_takeWord_91 (post : Int32 → XS → Prop) (k91 : Option Nat → Int64 → Int32 → XS → Prop) (o2 : Option Nat) (x3 : Int64) (x5 : Int32) (σ : XS) : Prop :=
  (o2 = none → (False)) ∧ (∀ e_13 : Nat, o2 = some e_13 → (e_13 < 53 ∧ ((pxI e_13) < nX ∧ wp_J0_length_8abf5 (fun r_15  => (r_15 ≤ x5 → (vp_in (xI σ 1) 64 ∧ (post 1 (yI (yL σ 3 (xI σ 1).toNatClampNeg x3) 1 ((xI σ 1) + 1))))) ∧ (¬ r_15 ≤ x5 → (e_13 < 53 ∧ ((pxI e_13) < nX ∧ (vp_in x5 (lenX.getD (pxI e_13) 0) ∧ (∀ r_21 : Int32, r_21 = sCh bytX (pxI e_13) x5.toNatClampNeg → wp_X3_takePart (fun r_22 σ_23 => (r_22 = (-1) → (wp_X3_refuse (fun r_26 σ_27 => isB r_26 ∧ (post r_26 σ_27)) σ_23)) ∧ (¬ r_22 = (-1) → (∀ x3_24 : Int64, x3_24 = x3 ||| r_22 → ∀ x5_25 : Int32, x5_25 = x5 + 1 → k91 (some e_13) x3_24 x5_25 σ_23))) r_21 σ)))))) (pxI e_13))))
def wL_X3_takeWord_91 (post : Int32 → XS → Prop) : Nat → Option Nat → Int64 → Int32 → XS → Prop
  | 0 => fun _ _ _ _ => False
  | n + 1 => wB_X3_takeWord_91 post (wL_X3_takeWord_91 post n)
def wB_X3_takeWord_25 (post : Int32 → XS → Prop) (x1 : Int32) (u0 : Option Nat) (σ : XS) : Prop :=
  (u0 = none → (wp_X3_refuseNoWord (fun r_4 σ_5 => isB r_4 ∧ (post r_4 σ_5)) x1 σ)) ∧ (∀ e_3 : Nat, u0 = some e_3 → (((xI σ 1) < 64 → (wp_X6_advance (fun σ_8 => e_3 < 53 ∧ vp_in (xI σ_8 1) 64 ∧ (vp_in (xI σ_8 1) 64 ∧ (e_3 < 53 ∧ (∀ x3_12 : Int64, x3_12 = (opB e_3) ||| ((x1.toInt64) <<< ((20 : Int32).toInt64 &&& 63)) → ∃ n, wL_X3_takeWord_91 post n (some e_3) x3_12 0 (yA (yQ σ_8 0 (xI σ_8 1).toNatClampNeg (some e_3)) 3 (xI σ_8 1).toNatClampNeg (-1)))))) σ)) ∧ (¬ (xI σ 1) < 64 → (wp_X3_refuse (fun r_31 σ_32 => isB r_31 ∧ (post r_31 σ_32)) σ))))
def wp_X3_takeWord (post : Int32 → XS → Prop) (x1 : Int32) (σ : XS) : Prop :=
  wp_X6_kind (fun r_1 σ_2 => (r_1 = 1 → (wp_X6_value (fun r_34 σ_35 => wp_X2_named (fun r_36  => (r_36 = none → (wB_X3_takeWord_25 post x1 none σ_35)) ∧ (∀ e_38 : Nat, r_36 = some e_38 → (wB_X3_takeWord_25 post x1 (some e_38) σ_35))) r_34) σ_2)) ∧ (¬ r_1 = 1 → (wB_X3_takeWord_25 post x1 none σ_2))) σ
set_option maxHeartbeats 4000000 in
set_option maxRecDepth 100000 in
theorem kB_X3_takeWord_91 {p : Program} {l : Launch} {e : Env} {s : State} {m : MethodId} {args : Array Value} {below : List Frame} {meth : Method} {c : Code} {A : Nat → Prop} {E : EnvT} {aK aV : Nat → Nat} {aO : Nat} {D : va_G} {cA : Nat → ClassId} {aE ad : Nat → Nat} (C : xCx p s m args meth c cX3_takeWord 8 (some .boolean) wgX3_takeWord RX3 E D cA A) (vM : eXs aK aV aE aO E) {post : Int32 → XS → Prop}
    {k91 : Option Nat → Int64 → Int32 → XS → Prop} (hk91 : ∀ (o2 : Option Nat) (x3 : Int64) (x5 : Int32) (σ : XS) (H : Heap) (locs : List Loc) (ls : Array Slot), xG D cA aE ad A s σ H locs → lv_has ls 8 [(0, .ref (ad 3)), (2, va_re aE o2), (3, .long x3), (5, .int x5)] → k91 o2 x3 x5 σ → W p l e rm_X3_takeWord s m args below meth c H locs 0 0 (MQ below (va_Qi post (xAt D cA aE ad A) A) args s 0 0 A) (F0 m 91 ls [])) :
    ∀ (o2 : Option Nat) (x3 : Int64) (x5 : Int32) (σ : XS) (H : Heap) (locs : List Loc) (ls : Array Slot), xG D cA aE ad A s σ H locs → lv_has ls 8 [(0, .ref (ad 3)), (2, va_re aE o2), (3, .long x3), (5, .int x5)] → wB_X3_takeWord_91 post k91 o2 x3 x5 σ → W p l e rm_X3_takeWord s m args below meth c H locs 0 0 (MQ below (va_Qi post (xAt D cA aE ad A) A) args s 0 0 A) (F0 m 91 ls []) := by
  obtain ⟨hx, hb, hml, hr, hown, hts, hK, hA, hlk, hE, vE⟩ := id C
  intro o2 x3 x5 σ H locs ls hG hl hw
  obtain ⟨hP, hD, hS⟩ := id hG
  rcases o2 with _ | e_13
  · have hw := hw.1 rfl
    have hl : lv_has ls 8 [(0, .ref (ad 3)), (2, .null), (3, .long x3), (5, .int x5)] := hl
    show W p l e rm_X3_takeWord s m args below meth c _ _ 0 0 (MQ below (va_Qi post (xAt D cA aE ad A) A) args s 0 0 A) (F0 m 91 ls [])
    refine lv_iload hx hb dX3_takeWord_91 (lv_at hl 3 rfl) ?_
    refine lv_aload_nN hx hb dX3_takeWord_93 rfl (lv_at hl 1 rfl) ?_
    exact hw.elim
  · have hw := hw.2 e_13 rfl
    have hl : lv_has ls 8 [(0, .ref (ad 3)), (2, .ref (aE e_13)), (3, .long x3), (5, .int x5)] := hl
    show W p l e rm_X3_takeWord s m args below meth c _ _ 0 0 (MQ below (va_Qi post (xAt D cA aE ad A) A) args s 0 0 A) (F0 m 91 ls [])
    refine lv_iload hx hb dX3_takeWord_91 (lv_at hl 3 rfl) ?_
    refine lv_aload_n hx hb dX3_takeWord_93 rfl (lv_at hl 1 rfl) ?_
    obtain ⟨h_14, hw⟩ := hw
    refine vk_getf hx hb (eX.o_parts (vM _ _ _ hE) h_14) hS hown (hts _ (List.mem_cons_of_mem _ tw_6_227)) (fun _ h => h) dX3_takeWord_94 ?_
    obtain ⟨h_29, hw⟩ := hw
    refine xO_i (As := []) (rest := [.int x5]) C (met_J0_length_8abf5 vE vM hw) (va_Orecv (eX.s_obj (vM _ _ _ hE) h_29) hS) (cwV 0 hts (TB_G (TB_4 tw_5_40 tw_2_48 tw_2_49 tw_1_11) tw_2_50) rfl rfl rfl (by decide +kernel) ⟨by decide, by decide⟩) hP hD hS rfl hl.1 rfl (Nat.le_of_ble_eq_true rfl) dX3_takeWord_97 ⟨by decide, by decide⟩ (fun r_15 H locs hw hP hS => ?_)
    have hG : xG D cA aE ad A s σ H locs := ⟨hP, hD, hS⟩
    refine lv_icmp_ge (tgt := 143) hx hb dX3_takeWord_100 (by decide) (fun q_ => ?_) (fun q_ => ?_)
    · have hw := hw.1 q_
      refine lv_aload_n hx hb dX3_takeWord_143 rfl (lv_at hl 0 rfl) ?_
      refine va_get (D := D) (ci := 5) (v := .ref (ad 13)) (C := RX3) (T := TX3) (N := 8) hx hb hts (in_tb inX3) hown hK hP 3 rfl rfl 4 (by decide) (hts _ (List.mem_cons_of_mem _ tw_1_115)) (fun _ h9 => h9) rfl dX3_takeWord_144 ?_
      refine lv_aload_n hx hb dX3_takeWord_147 rfl (lv_at hl 0 rfl) ?_
      refine va_get (D := D) (ci := 5) (v := .int (xI σ 1)) (C := RX3) (T := TX3) (N := 8) hx hb hts (in_tb inX3) hown hK hP 3 rfl rfl 5 (by decide) (hts _ (List.mem_cons_of_mem _ tw_1_117)) (fun _ h9 => h9) rfl dX3_takeWord_148 ?_
      refine lv_lload_n hx hb dX3_takeWord_151 rfl (lv_at hl 2 rfl) ?_
      obtain ⟨h_17, hw⟩ := hw
      refine va_last hx hb hK hP hD hS 13 1 rfl rfl h_17 dX3_takeWord_152 (fun H locs hP hD hS => ?_)
      have hG : xG D cA aE ad A s (yL σ 3 (xI σ 1).toNatClampNeg x3) H locs := ⟨hP, hD, hS⟩
      obtain ⟨hP, hD, hS⟩ := id hG
      refine lv_aload_n hx hb dX3_takeWord_153 rfl (lv_at hl 0 rfl) ?_
      refine lv_dup hx hb dX3_takeWord_154 rfl ?_
      refine va_get (D := D) (ci := 5) (v := .int (xI σ 1)) (C := RX3) (T := TX3) (N := 8) hx hb hts (in_tb inX3) hown hK hP 3 rfl rfl 5 (by decide) (hts _ (List.mem_cons_of_mem _ tw_1_117)) (fun _ h9 => h9) rfl dX3_takeWord_155 ?_
      refine lv_iconst (v := 1) hx hb dX3_takeWord_158 (by decide) ?_
      refine lv_iadd hx hb dX3_takeWord_159 ?_
      refine va_put (D := D) (ci := 5) (v := .int ((xI σ 1) + 1)) (ty := .int) (C := RX3) (T := TX3) (N := 8) hx hb hts (in_tb inX3) tyX3 tyX3_ok nmX3 hown hK hP hD hS 3 rfl rfl 5 (by decide) (hts _ (List.mem_cons_of_mem _ tw_1_117)) (fun _ h9 => h9) rfl (by decide +kernel) rfl rfl (Nat.le_of_ble_eq_true rfl) dX3_takeWord_160 (fun H locs hP hD hS => ?_)
      have hG : xG D cA aE ad A s (yI (yL σ 3 (xI σ 1).toNatClampNeg x3) 1 ((xI σ 1) + 1)) H locs := ⟨hP, hD, hS⟩
      obtain ⟨hP, hD, hS⟩ := id hG
      refine lv_iconst (v := 1) hx hb dX3_takeWord_163 (by decide) ?_
      exact W.zret (v := 1) (ty := .boolean) hx hb hr rfl (fun t ht hW => ⟨⟨_, (yI (yL σ 3 (xI σ 1).toNatClampNeg x3) 1 ((xI σ 1) + 1)), rfl, hw, by rw [ht]; exact hP, va_K.moved hW.alike hK, hD⟩, hS.F ht⟩) hS.2.2 dX3_takeWord_164 hlk
    · have hw := hw.2 q_
      refine lv_aload_n hx hb dX3_takeWord_103 rfl (lv_at hl 0 rfl) ?_
      refine lv_aload_n hx hb dX3_takeWord_104 rfl (lv_at hl 1 rfl) ?_
      obtain ⟨h_18, hw⟩ := hw
      refine vk_getf hx hb (eX.o_parts (vM _ _ _ hE) h_18) hS hown (hts _ (List.mem_cons_of_mem _ tw_6_227)) (fun _ h => h) dX3_takeWord_105 ?_
      refine lv_iload hx hb dX3_takeWord_108 (lv_at hl 3 rfl) ?_
      obtain ⟨h_20, h_19, hw⟩ := hw
      refine xO_i (As := [.int x5]) (rest := [.ref (ad 3)]) C (met_J0_charAt vE (fun A U H z => eX.str (vM A U H z)) h_20 (post := fun r => r = sCh bytX (pxI e_13) x5.toNatClampNeg) (in_nn h_19) (in_lt h_19 (lenX_lt _)) h_19 rfl) (va_Orecv (eX.s_obj (vM _ _ _ hE) h_20) hS) (cwV 1 hts (TB_G (TB_4 tw_5_41 tw_2_57 tw_2_58 tw_1_11) tw_2_59) rfl rfl rfl (by decide +kernel) ⟨by decide, by decide⟩) hP hD hS rfl hl.1 rfl (Nat.le_of_ble_eq_true rfl) dX3_takeWord_110 ⟨by decide, by decide⟩ (fun r_21 H locs er_21 hP hS => ?_)
      have hw := hw r_21 er_21
      have hG : xG D cA aE ad A s σ H locs := ⟨hP, hD, hS⟩
      refine xV_l (As := [.int r_21]) (rest := []) C (met_X3_takePart vE vM hw) (va_recv hK hP (ci := 5) (q0 := 3) rfl rfl) (cwV 1 hts (TB_G (TB_4 tw_5_42 tw_5_44 ts_25 tw_1_3) tw_5_45) rfl rfl rfl (by decide +kernel) ⟨by decide, by decide⟩) hP hD hS rfl hl.1 rfl (Nat.le_of_ble_eq_true rfl) dX3_takeWord_113 ⟨by decide, by decide⟩ (fun r_22 σ_23 H locs hw hP hD hS => ?_)
      have hG : xG D cA aE ad A s σ_23 H locs := ⟨hP, hD, hS⟩
      refine lv_lstore (lv' := [(6, .long r_22), (0, .ref (ad 3)), (2, .ref (aE e_13)), (3, .long x3), (5, .int x5)]) hx hb dX3_takeWord_116 hl (by decide) rfl (fun ls hl => ?_)
      refine lv_lload hx hb dX3_takeWord_118 (lv_at hl 0 rfl) ?_
      refine lv_ldc2 (v := (-1)) hx hb hown (hts _ (List.mem_cons_of_mem _ tw_5_46)) dX3_takeWord_120 ?_
      refine W.lcmp hx hb dX3_takeWord_123 ?_
      refine lv_if_ne (tgt := 132) hx hb dX3_takeWord_124 (by decide) (fun q_ => ?_) (fun q_ => ?_)
      · have hw := hw.2 (fun z => q_ (lc_eq.mpr z))
        refine lv_lload_n hx hb dX3_takeWord_132 rfl (lv_at hl 3 rfl) ?_
        refine lv_lload hx hb dX3_takeWord_133 (lv_at hl 0 rfl) ?_
        refine lv_lor hx hb dX3_takeWord_135 ?_
        refine lv_topl (fun x3_24 ex3_24 => ?_)
        have hw := hw x3_24 ex3_24
        refine lv_lstore_n (lv' := [(3, .long x3_24), (6, .long r_22), (0, .ref (ad 3)), (2, .ref (aE e_13)), (5, .int x5)]) hx hb dX3_takeWord_136 rfl hl (by decide) rfl (fun ls hl => ?_)
        obtain ⟨x5_25, ex5_25⟩ : ∃ y : Int32, y = x5 + 1 := ⟨_, rfl⟩
        have hw := hw x5_25 ex5_25
        refine lv_iinc (v := x5_25) (lv' := [(5, .int x5_25), (3, .long x3_24), (6, .long r_22), (0, .ref (ad 3)), (2, .ref (aE e_13))]) hx hb dX3_takeWord_137 hl (k := 4) rfl (by rw [ex5_25]; rfl) (by decide) rfl (fun ls hl => ?_)
        refine lv_goto (tgt := 91) hx hb dX3_takeWord_140 (by decide) ?_
        exact hk91 (some e_13) x3_24 x5_25 σ_23 _ _ _ hG (lv_sub hl [3, 4, 1, 0] rfl) hw
      · have hw := hw.1 (lc_eq.mp q_)
        refine lv_aload_n hx hb dX3_takeWord_127 rfl (lv_at hl 1 rfl) ?_
        refine xV_i (As := []) (rest := []) C (met_X3_refuse vE vM hw) (va_recv hK hP (ci := 5) (q0 := 3) rfl rfl) (cwV 0 hts (TB_G (TB_4 tw_4_216 tw_4_218 ts_16 tw_1_3) tw_4_219) rfl rfl rfl (by decide +kernel) ⟨by decide, by decide⟩) hP hD hS rfl hl.1 rfl (Nat.le_of_ble_eq_true rfl) dX3_takeWord_128 ⟨by decide, by decide⟩ (fun r_26 σ_27 H locs hw hP hD hS => ?_)
        have hG : xG D cA aE ad A s σ_27 H locs := ⟨hP, hD, hS⟩
        obtain ⟨h_28, hw⟩ := hw
        exact W.zret (v := r_26) (ty := .boolean) hx hb hr (isB.n h_28) (fun t ht hW => ⟨⟨_, σ_27, rfl, hw, by rw [ht]; exact hP, va_K.moved hW.alike hK, hD⟩, hS.F ht⟩) hS.2.2 dX3_takeWord_131 hlk
theorem kL_X3_takeWord_91 {p : Program} {l : Launch} {e : Env} {s : State} {m : MethodId} {args : Array Value} {below : List Frame} {meth : Method} {c : Code} {A : Nat → Prop} {E : EnvT} {aK aV : Nat → Nat} {aO : Nat} {D : va_G} {cA : Nat → ClassId} {aE ad : Nat → Nat} (C : xCx p s m args meth c cX3_takeWord 8 (some .boolean) wgX3_takeWord RX3 E D cA A) (vM : eXs aK aV aE aO E) {post : Int32 → XS → Prop} :
    ∀ (n : Nat) (o2 : Option Nat) (x3 : Int64) (x5 : Int32) (σ : XS) (H : Heap) (locs : List Loc) (ls : Array Slot), xG D cA aE ad A s σ H locs → lv_has ls 8 [(0, .ref (ad 3)), (2, va_re aE o2), (3, .long x3), (5, .int x5)] → wL_X3_takeWord_91 post n o2 x3 x5 σ → W p l e rm_X3_takeWord s m args below meth c H locs 0 0 (MQ below (va_Qi post (xAt D cA aE ad A) A) args s 0 0 A) (F0 m 91 ls []) := by
  intro n
  induction n with
  | zero => intro o2 x3 x5 σ H locs ls hG hl hw; exact hw.elim
  | succ n ih => exact kB_X3_takeWord_91 C vM ih
set_option maxHeartbeats 4000000 in
set_option maxRecDepth 100000 in
theorem kB_X3_takeWord_25 {p : Program} {l : Launch} {e : Env} {s : State} {m : MethodId} {args : Array Value} {below : List Frame} {meth : Method} {c : Code} {A : Nat → Prop} {E : EnvT} {aK aV : Nat → Nat} {aO : Nat} {D : va_G} {cA : Nat → ClassId} {aE ad : Nat → Nat} (C : xCx p s m args meth c cX3_takeWord 8 (some .boolean) wgX3_takeWord RX3 E D cA A) (vM : eXs aK aV aE aO E) {post : Int32 → XS → Prop} :
    ∀ (x1 : Int32) (u0 : Option Nat) (σ : XS) (H : Heap) (locs : List Loc) (ls : Array Slot), xG D cA aE ad A s σ H locs → lv_has ls 8 [(0, .ref (ad 3)), (1, .int x1)] → wB_X3_takeWord_25 post x1 u0 σ → W p l e rm_X3_takeWord s m args below meth c H locs 0 0 (MQ below (va_Qi post (xAt D cA aE ad A) A) args s 0 0 A) (F0 m 25 ls [va_re aE u0]) := by
  obtain ⟨hx, hb, hml, hr, hown, hts, hK, hA, hlk, hE, vE⟩ := id C
  intro x1 u0 σ H locs ls hG hl hw
  obtain ⟨hP, hD, hS⟩ := id hG
  rcases u0 with _ | e_3
  · have hw := hw.1 rfl
    have hl : lv_has ls 8 [(0, .ref (ad 3)), (1, .int x1)] := hl
    show W p l e rm_X3_takeWord s m args below meth c _ _ 0 0 (MQ below (va_Qi post (xAt D cA aE ad A) A) args s 0 0 A) (F0 m 25 ls [.null])
    refine lv_astore_nN (lv' := [(2, .null), (0, .ref (ad 3)), (1, .int x1)]) hx hb dX3_takeWord_25 rfl hl (by decide) rfl (fun ls hl => ?_)
    refine lv_aload_nN hx hb dX3_takeWord_26 rfl (lv_at hl 0 rfl) ?_
    refine lv_ifnonnullN hx hb dX3_takeWord_27 ?_
    refine lv_aload_n hx hb dX3_takeWord_30 rfl (lv_at hl 1 rfl) ?_
    refine lv_iload_n hx hb dX3_takeWord_31 rfl (lv_at hl 2 rfl) ?_
    refine xV_i (As := [.int x1]) (rest := []) C (met_X3_refuseNoWord vE vM hw) (va_recv hK hP (ci := 5) (q0 := 3) rfl rfl) (cwV 1 hts (TB_G (TB_4 tw_5_36 tw_5_38 ts_24 tw_1_3) tw_5_39) rfl rfl rfl (by decide +kernel) ⟨by decide, by decide⟩) hP hD hS rfl hl.1 rfl (Nat.le_of_ble_eq_true rfl) dX3_takeWord_32 ⟨by decide, by decide⟩ (fun r_4 σ_5 H locs hw hP hD hS => ?_)
    have hG : xG D cA aE ad A s σ_5 H locs := ⟨hP, hD, hS⟩
    obtain ⟨h_6, hw⟩ := hw
    exact W.zret (v := r_4) (ty := .boolean) hx hb hr (isB.n h_6) (fun t ht hW => ⟨⟨_, σ_5, rfl, hw, by rw [ht]; exact hP, va_K.moved hW.alike hK, hD⟩, hS.F ht⟩) hS.2.2 dX3_takeWord_35 hlk
  · have hw := hw.2 e_3 rfl
    have hl : lv_has ls 8 [(0, .ref (ad 3)), (1, .int x1)] := hl
    show W p l e rm_X3_takeWord s m args below meth c _ _ 0 0 (MQ below (va_Qi post (xAt D cA aE ad A) A) args s 0 0 A) (F0 m 25 ls [.ref (aE e_3)])
    refine lv_astore_n (lv' := [(2, .ref (aE e_3)), (0, .ref (ad 3)), (1, .int x1)]) hx hb dX3_takeWord_25 rfl hl (by decide) rfl (fun ls hl => ?_)
    refine lv_aload_n hx hb dX3_takeWord_26 rfl (lv_at hl 0 rfl) ?_
    refine lv_ifnonnull (tgt := 36) hx hb dX3_takeWord_27 (by decide) ?_
    refine lv_aload_n hx hb dX3_takeWord_36 rfl (lv_at hl 1 rfl) ?_
    refine va_get (D := D) (ci := 5) (v := .int (xI σ 1)) (C := RX3) (T := TX3) (N := 8) hx hb hts (in_tb inX3) hown hK hP 3 rfl rfl 5 (by decide) (hts _ (List.mem_cons_of_mem _ tw_1_117)) (fun _ h9 => h9) rfl dX3_takeWord_37 ?_
    refine lv_bipush (v := 64) hx hb dX3_takeWord_40 (by decide) ?_
    refine lv_icmp_lt (tgt := 50) hx hb dX3_takeWord_42 (by decide) (fun q_ => ?_) (fun q_ => ?_)
    · have hw := hw.1 q_
      refine lv_aload_n hx hb dX3_takeWord_50 rfl (lv_at hl 1 rfl) ?_
      refine va_get (D := D) (ci := 5) (v := .ref (ad 4)) (C := RX3) (T := TX3) (N := 8) hx hb hts (in_tb inX3) hown hK hP 3 rfl rfl 0 (by decide) (hts _ (List.mem_cons_of_mem _ tw_1_110)) (fun _ h9 => h9) rfl dX3_takeWord_51 ?_
      refine xV_v (As := []) (rest := []) C (met_X6_advance vE vM hw) (va_recv hK hP (ci := 8) (q0 := 4) rfl rfl) (cwV 0 hts (TB_G (TB_4 tw_4_204 tw_4_205 tw_4_206 tw_1_5) tw_4_207) rfl rfl rfl (by decide +kernel) ⟨by decide, by decide⟩) hP hD hS rfl hl.1 rfl (Nat.le_of_ble_eq_true rfl) dX3_takeWord_54 ⟨by decide, by decide⟩ (fun σ_8 H locs hw hP hD hS => ?_)
      have hG : xG D cA aE ad A s σ_8 H locs := ⟨hP, hD, hS⟩
      refine lv_aload_n hx hb dX3_takeWord_57 rfl (lv_at hl 1 rfl) ?_
      refine va_get (D := D) (ci := 5) (v := .ref (ad 8)) (C := RX3) (T := TX3) (N := 8) hx hb hts (in_tb inX3) hown hK hP 3 rfl rfl 1 (by decide) (hts _ (List.mem_cons_of_mem _ tw_1_111)) (fun _ h9 => h9) rfl dX3_takeWord_58 ?_
      refine lv_aload_n hx hb dX3_takeWord_61 rfl (lv_at hl 1 rfl) ?_
      refine va_get (D := D) (ci := 5) (v := .int (xI σ_8 1)) (C := RX3) (T := TX3) (N := 8) hx hb hts (in_tb inX3) hown hK hP 3 rfl rfl 5 (by decide) (hts _ (List.mem_cons_of_mem _ tw_1_117)) (fun _ h9 => h9) rfl dX3_takeWord_62 ?_
      refine lv_aload_n hx hb dX3_takeWord_65 rfl (lv_at hl 0 rfl) ?_
      obtain ⟨h_30, h_9, hw⟩ := hw
      refine vb_astq (C := "KernelText$Op") hx hb hK hP hD hS 8 3 rfl rfl (va_Orecv (eX.o_obj (vM _ _ _ hE) h_30) hS) (fun _ _ h1 h2 => by rw [h1] at h2; cases h2; exact va_asg _ _) h_9 dX3_takeWord_66 (fun H locs hP hD hS => ?_)
      rw [qu_some] at hP hD
      have hG : xG D cA aE ad A s (yQ σ_8 0 (xI σ_8 1).toNatClampNeg (some e_3)) H locs := ⟨hP, hD, hS⟩
      obtain ⟨hP, hD, hS⟩ := id hG
      refine lv_aload_n hx hb dX3_takeWord_67 rfl (lv_at hl 1 rfl) ?_
      refine va_get (D := D) (ci := 5) (v := .ref (ad 9)) (C := RX3) (T := TX3) (N := 8) hx hb hts (in_tb inX3) hown hK hP 3 rfl rfl 2 (by decide) (hts _ (List.mem_cons_of_mem _ tw_1_112)) (fun _ h9 => h9) rfl dX3_takeWord_68 ?_
      refine lv_aload_n hx hb dX3_takeWord_71 rfl (lv_at hl 1 rfl) ?_
      refine va_get (D := D) (ci := 5) (v := .int (xI σ_8 1)) (C := RX3) (T := TX3) (N := 8) hx hb hts (in_tb inX3) hown hK hP 3 rfl rfl 5 (by decide) (hts _ (List.mem_cons_of_mem _ tw_1_117)) (fun _ h9 => h9) rfl dX3_takeWord_72 ?_
      refine lv_iconst (v := (-1)) hx hb dX3_takeWord_75 (by decide) ?_
      obtain ⟨h_10, hw⟩ := hw
      refine va_iast hx hb hK hP hD hS 9 0 rfl rfl h_10 dX3_takeWord_76 (fun H locs hP hD hS => ?_)
      have hG : xG D cA aE ad A s (yA (yQ σ_8 0 (xI σ_8 1).toNatClampNeg (some e_3)) 3 (xI σ_8 1).toNatClampNeg (-1)) H locs := ⟨hP, hD, hS⟩
      obtain ⟨hP, hD, hS⟩ := id hG
      refine lv_aload_n hx hb dX3_takeWord_77 rfl (lv_at hl 0 rfl) ?_
      obtain ⟨h_11, hw⟩ := hw
      refine vk_getf hx hb (eX.o_base (vM _ _ _ hE) h_11) hS hown (hts _ (List.mem_cons_of_mem _ tw_6_226)) (fun _ h => h) dX3_takeWord_78 ?_
      refine lv_iload_n hx hb dX3_takeWord_81 rfl (lv_at hl 2 rfl) ?_
      refine lv_i2l hx hb dX3_takeWord_82 rfl ?_
      refine lv_bipush (v := 20) hx hb dX3_takeWord_83 (by decide) ?_
      refine lv_lshl hx hb dX3_takeWord_85 rfl ?_
      refine lv_lor hx hb dX3_takeWord_86 ?_
      refine lv_topl (fun x3_12 ex3_12 => ?_)
      have hw := hw x3_12 ex3_12
      refine lv_lstore_n (lv' := [(3, .long x3_12), (2, .ref (aE e_3)), (0, .ref (ad 3)), (1, .int x1)]) hx hb dX3_takeWord_87 rfl hl (by decide) rfl (fun ls hl => ?_)
      refine lv_iconst (v := 0) hx hb dX3_takeWord_88 (by decide) ?_
      refine lv_istore (lv' := [(5, .int 0), (3, .long x3_12), (2, .ref (aE e_3)), (0, .ref (ad 3)), (1, .int x1)]) hx hb dX3_takeWord_89 hl (by decide) rfl (fun ls hl => ?_)
      obtain ⟨n_, hw⟩ := hw
      exact kL_X3_takeWord_91 C vM n_ (some e_3) x3_12 0 (yA (yQ σ_8 0 (xI σ_8 1).toNatClampNeg (some e_3)) 3 (xI σ_8 1).toNatClampNeg (-1)) _ _ _ hG (lv_sub hl [3, 2, 1, 0] rfl) hw
    · have hw := hw.2 q_
      refine lv_aload_n hx hb dX3_takeWord_45 rfl (lv_at hl 1 rfl) ?_
      refine xV_i (As := []) (rest := []) C (met_X3_refuse vE vM hw) (va_recv hK hP (ci := 5) (q0 := 3) rfl rfl) (cwV 0 hts (TB_G (TB_4 tw_4_216 tw_4_218 ts_16 tw_1_3) tw_4_219) rfl rfl rfl (by decide +kernel) ⟨by decide, by decide⟩) hP hD hS rfl hl.1 rfl (Nat.le_of_ble_eq_true rfl) dX3_takeWord_46 ⟨by decide, by decide⟩ (fun r_31 σ_32 H locs hw hP hD hS => ?_)
      have hG : xG D cA aE ad A s σ_32 H locs := ⟨hP, hD, hS⟩
      obtain ⟨h_33, hw⟩ := hw
      exact W.zret (v := r_31) (ty := .boolean) hx hb hr (isB.n h_33) (fun t ht hW => ⟨⟨_, σ_32, rfl, hw, by rw [ht]; exact hP, va_K.moved hW.alike hK, hD⟩, hS.F ht⟩) hS.2.2 dX3_takeWord_49 hlk
set_option maxHeartbeats 4000000 in
set_option maxRecDepth 100000 in
theorem k_X3_takeWord {p : Program} {l : Launch} {e : Env} {s : State} {m : MethodId} {args : Array Value} {below : List Frame} {meth : Method} {c : Code} {A : Nat → Prop} {E : EnvT} {aK aV : Nat → Nat} {aO : Nat} {D : va_G} {cA : Nat → ClassId} {aE ad : Nat → Nat} (C : xCx p s m args meth c cX3_takeWord 8 (some .boolean) wgX3_takeWord RX3 E D cA A) (vM : eXs aK aV aE aO E) {post : Int32 → XS → Prop} :
    ∀ (x1 : Int32) (σ : XS) (H : Heap) (locs : List Loc) (ls : Array Slot), xG D cA aE ad A s σ H locs → lv_has ls 8 [(0, .ref (ad 3)), (1, .int x1)] → wp_X3_takeWord post x1 σ → W p l e rm_X3_takeWord s m args below meth c H locs 0 0 (MQ below (va_Qi post (xAt D cA aE ad A) A) args s 0 0 A) (F0 m 0 ls []) := by
  obtain ⟨hx, hb, hml, hr, hown, hts, hK, hA, hlk, hE, vE⟩ := id C
  intro x1 σ H locs ls hG hl hw
  obtain ⟨hP, hD, hS⟩ := id hG
  refine lv_aload_n hx hb dX3_takeWord_0 rfl (lv_at hl 0 rfl) ?_
  refine va_get (D := D) (ci := 5) (v := .ref (ad 4)) (C := RX3) (T := TX3) (N := 8) hx hb hts (in_tb inX3) hown hK hP 3 rfl rfl 0 (by decide) (hts _ (List.mem_cons_of_mem _ tw_1_110)) (fun _ h9 => h9) rfl dX3_takeWord_1 ?_
  refine xV_i (As := []) (rest := []) C (met_X6_kind vE vM hw) (va_recv hK hP (ci := 8) (q0 := 4) rfl rfl) (cwV 0 hts (TB_G (TB_4 tw_4_180 tw_4_181 tw_4_182 tw_1_5) tw_4_183) rfl rfl rfl (by decide +kernel) ⟨by decide, by decide⟩) hP hD hS rfl hl.1 rfl (Nat.le_of_ble_eq_true rfl) dX3_takeWord_4 ⟨by decide, by decide⟩ (fun r_1 σ_2 H locs hw hP hD hS => ?_)
  have hG : xG D cA aE ad A s σ_2 H locs := ⟨hP, hD, hS⟩
  refine lv_iconst (v := 1) hx hb dX3_takeWord_7 (by decide) ?_
  refine lv_icmp_ne (tgt := 24) hx hb dX3_takeWord_8 (by decide) (fun q_ => ?_) (fun q_ => ?_)
  · have hw := hw.2 q_
    refine lv_null hx hb dX3_takeWord_24 ?_
    exact kB_X3_takeWord_25 C vM x1 none σ_2 _ _ _ hG (lv_sub hl [0, 1] rfl) hw
  · have hw := hw.1 q_
    refine lv_aload_n hx hb dX3_takeWord_11 rfl (lv_at hl 0 rfl) ?_
    refine va_get (D := D) (ci := 5) (v := .ref (ad 4)) (C := RX3) (T := TX3) (N := 8) hx hb hts (in_tb inX3) hown hK hP 3 rfl rfl 0 (by decide) (hts _ (List.mem_cons_of_mem _ tw_1_110)) (fun _ h9 => h9) rfl dX3_takeWord_12 ?_
    refine xV_l (As := []) (rest := []) C (met_X6_value vE vM hw) (va_recv hK hP (ci := 8) (q0 := 4) rfl rfl) (cwV 0 hts (TB_G (TB_4 tw_4_196 tw_4_197 tw_4_198 tw_1_5) tw_4_199) rfl rfl rfl (by decide +kernel) ⟨by decide, by decide⟩) hP hD hS rfl hl.1 rfl (Nat.le_of_ble_eq_true rfl) dX3_takeWord_15 ⟨by decide, by decide⟩ (fun r_34 σ_35 H locs hw hP hD hS => ?_)
    have hG : xG D cA aE ad A s σ_35 H locs := ⟨hP, hD, hS⟩
    refine xS_e (As := [.long r_34]) (rest := []) C (met_X2_named vE vM hw) (va_cwS 1 hts (TB_G (TB_3 tw_5_33 tw_5_34 tw_1_19) tw_5_35) rfl rfl rfl (by decide +kernel) ⟨by decide, by decide⟩) hP hD hS rfl hl.1 rfl (Nat.le_of_ble_eq_true rfl) dX3_takeWord_18 ⟨by decide, by decide⟩ (fun r_36 H locs hw hP hS => ?_)
    have hG : xG D cA aE ad A s σ_35 H locs := ⟨hP, hD, hS⟩
    rcases r_36 with _ | e_38
    · have hw := hw.1 rfl
      show W p l e rm_X3_takeWord s m args below meth c _ _ 0 0 (MQ below (va_Qi post (xAt D cA aE ad A) A) args s 0 0 A) (F0 m 21 ls [.null])
      refine lv_goto (tgt := 25) hx hb dX3_takeWord_21 (by decide) ?_
      exact kB_X3_takeWord_25 C vM x1 none σ_35 _ _ _ hG (lv_sub hl [0, 1] rfl) hw
    · have hw := hw.2 e_38 rfl
      show W p l e rm_X3_takeWord s m args below meth c _ _ 0 0 (MQ below (va_Qi post (xAt D cA aE ad A) A) args s 0 0 A) (F0 m 21 ls [.ref (aE e_38)])
      refine lv_goto (tgt := 25) hx hb dX3_takeWord_21 (by decide) ?_
      exact kB_X3_takeWord_25 C vM x1 (some e_38) σ_35 _ _ _ hG (lv_sub hl [0, 1] rfl) hw
set_option maxHeartbeats 4000000 in
set_option maxRecDepth 100000 in
theorem met_X3_takeWord {l : Launch} {E : EnvT} (vE : EnvOk E) {D : va_G} {cA : Nat → ClassId} {aE ad : Nat → Nat} {σ : XS} {aK aV : Nat → Nat} {aO : Nat} (vM : eXs aK aV aE aO E) {sz : Nat} {x1 : Int32} {post : Int32 → XS → Prop} (hw : wp_X3_takeWord post x1 σ) : Met l yX3_takeWord wgX3_takeWord rm_X3_takeWord (va_Pc [.ref (ad 3), .int x1] (xPre E D cA aE ad sz σ)) (va_Qi post (xAt D cA aE ad (va_A (xW cA aE ad σ) sz)) (va_A (xW cA aE ad σ) sz)) 0 0 (va_A (xW cA aE ad σ) sz) := by
  refine Met.ofW (cc := cX3_takeWord) (maxL := 8) (ret := (some .boolean)) (by decide +kernel) rfl ?_
  intro p e s m args below meth c s₁ B hml hv
  obtain ⟨rfl, hsz, hP, hK, hD0, hE⟩ := hv
  subst hsz
  have hD := hD0.self (sz := s.heap.size)
  generalize hAe : va_A (xW cA aE ad σ) s.heap.size = A at hD hE ⊢
  have hA : ∀ q : Nat, s.heap.size ≤ q → A q := fun q h => by rw [← hAe]; exact Or.inr h
  have hS : va_S A s.heap s.heap [] := va_S.rf
  have C : xCx p s m _ meth c cX3_takeWord 8 (some .boolean) wgX3_takeWord RX3 E D cA A := ⟨B.exec, B.bytes, hml, B.returns, findClass_of_methodNamed B.named, atoms_spec (ws := wgX3_takeWord) B.pre, hK, hA, B.notSynchronized, hE, vE⟩
  have hG : xG D cA aE ad A s σ s.heap [] := ⟨hP, hD, hS⟩
  have hl := lv_entry ([.ref (ad 3), .int x1]) (n := 8) (Nat.le_of_ble_eq_true rfl)
  rw [lg_entry_eq]
  generalize (lg_sl ([.ref (ad 3), .int x1]) ++ List.replicate (8 - (lg_sl ([.ref (ad 3), .int x1])).length) Slot.unset).toArray = ls at hl ⊢
  have hl : lv_has ls 8 [(0, .ref (ad 3)), (1, .int x1)] := hl
  exact k_X3_takeWord C vM x1 σ _ _ _ hG hl hw
/-! ===== X3_takeStatement parser ===== -/
def rm_X3_takeStatement : Room := { frames := 5, cells := 0, slots := 0, locals := 112 }
abbrev wgX3_takeStatement : List Cond := .code yX3_takeStatement cX3_takeStatement 2 (some .boolean) :: TB
def wB_X3_takeStatement_175 (post : Int32 → XS → Prop) (t0 : Int32) (σ : XS) : Prop :=
  isB t0 ∧ (post t0 σ)
def wB_X3_takeStatement_174 (post : Int32 → XS → Prop) (σ : XS) : Prop :=
  wB_X3_takeStatement_175 post 0 σ
def wB_X3_takeStatement_142 (post : Int32 → XS → Prop) (t0 : Int32) (σ : XS) : Prop :=
  (t0 = (-1) → (wp_X3_refuse (fun r_12 σ_13 => isB r_12 ∧ (post r_12 σ_13)) σ)) ∧ (¬ t0 = (-1) → (wp_X3_takeWord (fun r_7 σ_8 => (r_7 = 0 → (wB_X3_takeStatement_174 post σ_8)) ∧ (¬ r_7 = 0 → (wp_X3_takeSign (fun r_10 σ_11 => (r_10 = 0 → (wB_X3_takeStatement_174 post σ_11)) ∧ (¬ r_10 = 0 → (wB_X3_takeStatement_175 post 1 σ_11))) 59 σ_8))) t0 σ))
def wB_X3_takeStatement_103 (post : Int32 → XS → Prop) (σ : XS) : Prop :=
  wp_X6_kind (fun r_3 σ_4 => (r_3 = 59 → (wp_X3_takeSign (fun r_17 σ_18 => isB r_17 ∧ (post r_17 σ_18)) 59 σ_4)) ∧ (¬ r_3 = 59 → (wp_X6_kind (fun r_5 σ_6 => (r_5 = 64 → (wp_X3_takeGuard (fun r_15 σ_16 => wB_X3_takeStatement_142 post r_15 σ_16) σ_6)) ∧ (¬ r_5 = 64 → (wB_X3_takeStatement_142 post 0 σ_6))) σ_4))) σ
def wB_X3_takeStatement_30 (post : Int32 → XS → Prop) (k30 : Int32 → XS → Prop) (x1 : Int32) (σ : XS) : Prop :=
  (350 ≤ x1 → (wB_X3_takeStatement_103 post σ)) ∧ (¬ 350 ≤ x1 → (wp_X6_kind (fun r_20 σ_21 => (r_20 = 1 → (wp_X6_follower (fun r_22 σ_23 => (r_22 = 58 → (wp_X6_value (fun r_24 σ_25 => wp_X6_place (fun r_26 σ_27 => wp_X3_tellName (fun σ_29 => wp_X6_advance (fun σ_31 => wp_X6_advance (fun σ_33 => ∀ x1_34 : Int32, x1_34 = x1 + 1 → k30 x1_34 σ_33) σ_31) σ_29) r_24 r_26 ((xI σ_27 1).toInt64) σ_27) σ_25) σ_23)) ∧ (¬ r_22 = 58 → (wB_X3_takeStatement_103 post σ_23))) σ_21)) ∧ (¬ r_20 = 1 → (wB_X3_takeStatement_103 post σ_21))) σ))
def wL_X3_takeStatement_30 (post : Int32 → XS → Prop) : Nat → Int32 → XS → Prop
  | 0 => fun _ _ => False
  | n + 1 => wB_X3_takeStatement_30 post (wL_X3_takeStatement_30 post n)
def wB_X3_takeStatement_28 (post : Int32 → XS → Prop) (σ : XS) : Prop :=
  ∃ n, wL_X3_takeStatement_30 post n 0 σ
def wp_X3_takeStatement (post : Int32 → XS → Prop) (σ : XS) : Prop :=
  wp_X6_kind (fun r_1 σ_2 => (r_1 = 1 → (wp_X6_follower (fun r_35 σ_36 => (r_35 = 61 → (wp_X3_takeConstant (fun r_37 σ_38 => isB r_37 ∧ (post r_37 σ_38)) σ_36)) ∧ (¬ r_35 = 61 → (wB_X3_takeStatement_28 post σ_36))) σ_2)) ∧ (¬ r_1 = 1 → (wB_X3_takeStatement_28 post σ_2))) σ
set_option maxHeartbeats 4000000 in
set_option maxRecDepth 100000 in
theorem kB_X3_takeStatement_175 {p : Program} {l : Launch} {e : Env} {s : State} {m : MethodId} {args : Array Value} {below : List Frame} {meth : Method} {c : Code} {A : Nat → Prop} {E : EnvT} {aK aV : Nat → Nat} {aO : Nat} {D : va_G} {cA : Nat → ClassId} {aE ad : Nat → Nat} (C : xCx p s m args meth c cX3_takeStatement 2 (some .boolean) wgX3_takeStatement RX3 E D cA A) (vM : eXs aK aV aE aO E) {post : Int32 → XS → Prop} :
    ∀ (t0 : Int32) (σ : XS) (H : Heap) (locs : List Loc) (ls : Array Slot), xG D cA aE ad A s σ H locs → lv_has ls 2 [] → wB_X3_takeStatement_175 post t0 σ → W p l e rm_X3_takeStatement s m args below meth c H locs 0 0 (MQ below (va_Qi post (xAt D cA aE ad A) A) args s 0 0 A) (F0 m 175 ls [.int t0]) := by
  obtain ⟨hx, hb, hml, hr, hown, hts, hK, hA, hlk, hE, vE⟩ := id C
  intro t0 σ H locs ls hG hl hw
  obtain ⟨hP, hD, hS⟩ := id hG
  obtain ⟨h_9, hw⟩ := hw
  exact W.zret (v := t0) (ty := .boolean) hx hb hr (isB.n h_9) (fun t ht hW => ⟨⟨_, σ, rfl, hw, by rw [ht]; exact hP, va_K.moved hW.alike hK, hD⟩, hS.F ht⟩) hS.2.2 dX3_takeStatement_175 hlk
set_option maxHeartbeats 4000000 in
set_option maxRecDepth 100000 in
theorem kB_X3_takeStatement_174 {p : Program} {l : Launch} {e : Env} {s : State} {m : MethodId} {args : Array Value} {below : List Frame} {meth : Method} {c : Code} {A : Nat → Prop} {E : EnvT} {aK aV : Nat → Nat} {aO : Nat} {D : va_G} {cA : Nat → ClassId} {aE ad : Nat → Nat} (C : xCx p s m args meth c cX3_takeStatement 2 (some .boolean) wgX3_takeStatement RX3 E D cA A) (vM : eXs aK aV aE aO E) {post : Int32 → XS → Prop} :
    ∀ (σ : XS) (H : Heap) (locs : List Loc) (ls : Array Slot), xG D cA aE ad A s σ H locs → lv_has ls 2 [] → wB_X3_takeStatement_174 post σ → W p l e rm_X3_takeStatement s m args below meth c H locs 0 0 (MQ below (va_Qi post (xAt D cA aE ad A) A) args s 0 0 A) (F0 m 174 ls []) := by
  obtain ⟨hx, hb, hml, hr, hown, hts, hK, hA, hlk, hE, vE⟩ := id C
  intro σ H locs ls hG hl hw
  obtain ⟨hP, hD, hS⟩ := id hG
  refine lv_iconst (v := 0) hx hb dX3_takeStatement_174 (by decide) ?_
  exact kB_X3_takeStatement_175 C vM 0 σ _ _ _ hG (lv_sub hl [] rfl) hw
set_option maxHeartbeats 4000000 in
set_option maxRecDepth 100000 in
theorem kB_X3_takeStatement_142 {p : Program} {l : Launch} {e : Env} {s : State} {m : MethodId} {args : Array Value} {below : List Frame} {meth : Method} {c : Code} {A : Nat → Prop} {E : EnvT} {aK aV : Nat → Nat} {aO : Nat} {D : va_G} {cA : Nat → ClassId} {aE ad : Nat → Nat} (C : xCx p s m args meth c cX3_takeStatement 2 (some .boolean) wgX3_takeStatement RX3 E D cA A) (vM : eXs aK aV aE aO E) {post : Int32 → XS → Prop} :
    ∀ (t0 : Int32) (σ : XS) (H : Heap) (locs : List Loc) (ls : Array Slot), xG D cA aE ad A s σ H locs → lv_has ls 2 [(0, .ref (ad 3))] → wB_X3_takeStatement_142 post t0 σ → W p l e rm_X3_takeStatement s m args below meth c H locs 0 0 (MQ below (va_Qi post (xAt D cA aE ad A) A) args s 0 0 A) (F0 m 142 ls [.int t0]) := by
  obtain ⟨hx, hb, hml, hr, hown, hts, hK, hA, hlk, hE, vE⟩ := id C
  intro t0 σ H locs ls hG hl hw
  obtain ⟨hP, hD, hS⟩ := id hG
  refine lv_istore_n (lv' := [(1, .int t0), (0, .ref (ad 3))]) hx hb dX3_takeStatement_142 rfl hl (by decide) rfl (fun ls hl => ?_)
  refine lv_iload_n hx hb dX3_takeStatement_143 rfl (lv_at hl 0 rfl) ?_
  refine lv_iconst (v := (-1)) hx hb dX3_takeStatement_144 (by decide) ?_
  refine lv_icmp_ne (tgt := 153) hx hb dX3_takeStatement_145 (by decide) (fun q_ => ?_) (fun q_ => ?_)
  · have hw := hw.2 q_
    refine lv_aload_n hx hb dX3_takeStatement_153 rfl (lv_at hl 1 rfl) ?_
    refine lv_iload_n hx hb dX3_takeStatement_154 rfl (lv_at hl 0 rfl) ?_
    refine xV_i (As := [.int t0]) (rest := []) C (met_X3_takeWord vE vM hw) (va_recv hK hP (ci := 5) (q0 := 3) rfl rfl) (cwV 1 hts (TB_G (TB_4 tw_5_29 tw_5_31 ts_23 tw_1_3) tw_5_32) rfl rfl rfl (by decide +kernel) ⟨by decide, by decide⟩) hP hD hS rfl hl.1 rfl (Nat.le_of_ble_eq_true rfl) dX3_takeStatement_155 ⟨by decide, by decide⟩ (fun r_7 σ_8 H locs hw hP hD hS => ?_)
    have hG : xG D cA aE ad A s σ_8 H locs := ⟨hP, hD, hS⟩
    refine lv_if_eq (tgt := 174) hx hb dX3_takeStatement_158 (by decide) (fun q_ => ?_) (fun q_ => ?_)
    · have hw := hw.1 q_
      exact kB_X3_takeStatement_174 C vM  σ_8 _ _ _ hG (lv_sub hl [] rfl) hw
    · have hw := hw.2 q_
      refine lv_aload_n hx hb dX3_takeStatement_161 rfl (lv_at hl 1 rfl) ?_
      refine lv_bipush (v := 59) hx hb dX3_takeStatement_162 (by decide) ?_
      refine xV_i (As := [.int 59]) (rest := []) C (met_X3_takeSign vE vM hw) (va_recv hK hP (ci := 5) (q0 := 3) rfl rfl) (cwV 1 hts (TB_G (TB_4 tw_5_12 tw_5_14 ts_21 tw_1_3) tw_5_15) rfl rfl rfl (by decide +kernel) ⟨by decide, by decide⟩) hP hD hS rfl hl.1 rfl (Nat.le_of_ble_eq_true rfl) dX3_takeStatement_164 ⟨by decide, by decide⟩ (fun r_10 σ_11 H locs hw hP hD hS => ?_)
      have hG : xG D cA aE ad A s σ_11 H locs := ⟨hP, hD, hS⟩
      refine lv_if_eq (tgt := 174) hx hb dX3_takeStatement_167 (by decide) (fun q_ => ?_) (fun q_ => ?_)
      · have hw := hw.1 q_
        exact kB_X3_takeStatement_174 C vM  σ_11 _ _ _ hG (lv_sub hl [] rfl) hw
      · have hw := hw.2 q_
        refine lv_iconst (v := 1) hx hb dX3_takeStatement_170 (by decide) ?_
        refine lv_goto (tgt := 175) hx hb dX3_takeStatement_171 (by decide) ?_
        exact kB_X3_takeStatement_175 C vM 1 σ_11 _ _ _ hG (lv_sub hl [] rfl) hw
  · have hw := hw.1 q_
    refine lv_aload_n hx hb dX3_takeStatement_148 rfl (lv_at hl 1 rfl) ?_
    refine xV_i (As := []) (rest := []) C (met_X3_refuse vE vM hw) (va_recv hK hP (ci := 5) (q0 := 3) rfl rfl) (cwV 0 hts (TB_G (TB_4 tw_4_216 tw_4_218 ts_16 tw_1_3) tw_4_219) rfl rfl rfl (by decide +kernel) ⟨by decide, by decide⟩) hP hD hS rfl hl.1 rfl (Nat.le_of_ble_eq_true rfl) dX3_takeStatement_149 ⟨by decide, by decide⟩ (fun r_12 σ_13 H locs hw hP hD hS => ?_)
    have hG : xG D cA aE ad A s σ_13 H locs := ⟨hP, hD, hS⟩
    obtain ⟨h_14, hw⟩ := hw
    exact W.zret (v := r_12) (ty := .boolean) hx hb hr (isB.n h_14) (fun t ht hW => ⟨⟨_, σ_13, rfl, hw, by rw [ht]; exact hP, va_K.moved hW.alike hK, hD⟩, hS.F ht⟩) hS.2.2 dX3_takeStatement_152 hlk
set_option maxHeartbeats 4000000 in
set_option maxRecDepth 100000 in
theorem kB_X3_takeStatement_103 {p : Program} {l : Launch} {e : Env} {s : State} {m : MethodId} {args : Array Value} {below : List Frame} {meth : Method} {c : Code} {A : Nat → Prop} {E : EnvT} {aK aV : Nat → Nat} {aO : Nat} {D : va_G} {cA : Nat → ClassId} {aE ad : Nat → Nat} (C : xCx p s m args meth c cX3_takeStatement 2 (some .boolean) wgX3_takeStatement RX3 E D cA A) (vM : eXs aK aV aE aO E) {post : Int32 → XS → Prop} :
    ∀ (σ : XS) (H : Heap) (locs : List Loc) (ls : Array Slot), xG D cA aE ad A s σ H locs → lv_has ls 2 [(0, .ref (ad 3))] → wB_X3_takeStatement_103 post σ → W p l e rm_X3_takeStatement s m args below meth c H locs 0 0 (MQ below (va_Qi post (xAt D cA aE ad A) A) args s 0 0 A) (F0 m 103 ls []) := by
  obtain ⟨hx, hb, hml, hr, hown, hts, hK, hA, hlk, hE, vE⟩ := id C
  intro σ H locs ls hG hl hw
  obtain ⟨hP, hD, hS⟩ := id hG
  refine lv_aload_n hx hb dX3_takeStatement_103 rfl (lv_at hl 0 rfl) ?_
  refine va_get (D := D) (ci := 5) (v := .ref (ad 4)) (C := RX3) (T := TX3) (N := 8) hx hb hts (in_tb inX3) hown hK hP 3 rfl rfl 0 (by decide) (hts _ (List.mem_cons_of_mem _ tw_1_110)) (fun _ h9 => h9) rfl dX3_takeStatement_104 ?_
  refine xV_i (As := []) (rest := []) C (met_X6_kind vE vM hw) (va_recv hK hP (ci := 8) (q0 := 4) rfl rfl) (cwV 0 hts (TB_G (TB_4 tw_4_180 tw_4_181 tw_4_182 tw_1_5) tw_4_183) rfl rfl rfl (by decide +kernel) ⟨by decide, by decide⟩) hP hD hS rfl hl.1 rfl (Nat.le_of_ble_eq_true rfl) dX3_takeStatement_107 ⟨by decide, by decide⟩ (fun r_3 σ_4 H locs hw hP hD hS => ?_)
  have hG : xG D cA aE ad A s σ_4 H locs := ⟨hP, hD, hS⟩
  refine lv_bipush (v := 59) hx hb dX3_takeStatement_110 (by decide) ?_
  refine lv_icmp_ne (tgt := 122) hx hb dX3_takeStatement_112 (by decide) (fun q_ => ?_) (fun q_ => ?_)
  · have hw := hw.2 q_
    refine lv_aload_n hx hb dX3_takeStatement_122 rfl (lv_at hl 0 rfl) ?_
    refine va_get (D := D) (ci := 5) (v := .ref (ad 4)) (C := RX3) (T := TX3) (N := 8) hx hb hts (in_tb inX3) hown hK hP 3 rfl rfl 0 (by decide) (hts _ (List.mem_cons_of_mem _ tw_1_110)) (fun _ h9 => h9) rfl dX3_takeStatement_123 ?_
    refine xV_i (As := []) (rest := []) C (met_X6_kind vE vM hw) (va_recv hK hP (ci := 8) (q0 := 4) rfl rfl) (cwV 0 hts (TB_G (TB_4 tw_4_180 tw_4_181 tw_4_182 tw_1_5) tw_4_183) rfl rfl rfl (by decide +kernel) ⟨by decide, by decide⟩) hP hD hS rfl hl.1 rfl (Nat.le_of_ble_eq_true rfl) dX3_takeStatement_126 ⟨by decide, by decide⟩ (fun r_5 σ_6 H locs hw hP hD hS => ?_)
    have hG : xG D cA aE ad A s σ_6 H locs := ⟨hP, hD, hS⟩
    refine lv_bipush (v := 64) hx hb dX3_takeStatement_129 (by decide) ?_
    refine lv_icmp_ne (tgt := 141) hx hb dX3_takeStatement_131 (by decide) (fun q_ => ?_) (fun q_ => ?_)
    · have hw := hw.2 q_
      refine lv_iconst (v := 0) hx hb dX3_takeStatement_141 (by decide) ?_
      exact kB_X3_takeStatement_142 C vM 0 σ_6 _ _ _ hG (lv_sub hl [0] rfl) hw
    · have hw := hw.1 q_
      refine lv_aload_n hx hb dX3_takeStatement_134 rfl (lv_at hl 0 rfl) ?_
      refine xV_i (As := []) (rest := []) C (met_X3_takeGuard vE vM hw) (va_recv hK hP (ci := 5) (q0 := 3) rfl rfl) (cwV 0 hts (TB_G (TB_4 tw_5_16 tw_5_18 ts_22 tw_1_3) tw_5_19) rfl rfl rfl (by decide +kernel) ⟨by decide, by decide⟩) hP hD hS rfl hl.1 rfl (Nat.le_of_ble_eq_true rfl) dX3_takeStatement_135 ⟨by decide, by decide⟩ (fun r_15 σ_16 H locs hw hP hD hS => ?_)
      have hG : xG D cA aE ad A s σ_16 H locs := ⟨hP, hD, hS⟩
      refine lv_goto (tgt := 142) hx hb dX3_takeStatement_138 (by decide) ?_
      exact kB_X3_takeStatement_142 C vM r_15 σ_16 _ _ _ hG (lv_sub hl [0] rfl) hw
  · have hw := hw.1 q_
    refine lv_aload_n hx hb dX3_takeStatement_115 rfl (lv_at hl 0 rfl) ?_
    refine lv_bipush (v := 59) hx hb dX3_takeStatement_116 (by decide) ?_
    refine xV_i (As := [.int 59]) (rest := []) C (met_X3_takeSign vE vM hw) (va_recv hK hP (ci := 5) (q0 := 3) rfl rfl) (cwV 1 hts (TB_G (TB_4 tw_5_12 tw_5_14 ts_21 tw_1_3) tw_5_15) rfl rfl rfl (by decide +kernel) ⟨by decide, by decide⟩) hP hD hS rfl hl.1 rfl (Nat.le_of_ble_eq_true rfl) dX3_takeStatement_118 ⟨by decide, by decide⟩ (fun r_17 σ_18 H locs hw hP hD hS => ?_)
    have hG : xG D cA aE ad A s σ_18 H locs := ⟨hP, hD, hS⟩
    obtain ⟨h_19, hw⟩ := hw
    exact W.zret (v := r_17) (ty := .boolean) hx hb hr (isB.n h_19) (fun t ht hW => ⟨⟨_, σ_18, rfl, hw, by rw [ht]; exact hP, va_K.moved hW.alike hK, hD⟩, hS.F ht⟩) hS.2.2 dX3_takeStatement_121 hlk
set_option maxHeartbeats 4000000 in
set_option maxRecDepth 100000 in
theorem kB_X3_takeStatement_30 {p : Program} {l : Launch} {e : Env} {s : State} {m : MethodId} {args : Array Value} {below : List Frame} {meth : Method} {c : Code} {A : Nat → Prop} {E : EnvT} {aK aV : Nat → Nat} {aO : Nat} {D : va_G} {cA : Nat → ClassId} {aE ad : Nat → Nat} (C : xCx p s m args meth c cX3_takeStatement 2 (some .boolean) wgX3_takeStatement RX3 E D cA A) (vM : eXs aK aV aE aO E) {post : Int32 → XS → Prop}
    {k30 : Int32 → XS → Prop} (hk30 : ∀ (x1 : Int32) (σ : XS) (H : Heap) (locs : List Loc) (ls : Array Slot), xG D cA aE ad A s σ H locs → lv_has ls 2 [(0, .ref (ad 3)), (1, .int x1)] → k30 x1 σ → W p l e rm_X3_takeStatement s m args below meth c H locs 0 0 (MQ below (va_Qi post (xAt D cA aE ad A) A) args s 0 0 A) (F0 m 30 ls [])) :
    ∀ (x1 : Int32) (σ : XS) (H : Heap) (locs : List Loc) (ls : Array Slot), xG D cA aE ad A s σ H locs → lv_has ls 2 [(0, .ref (ad 3)), (1, .int x1)] → wB_X3_takeStatement_30 post k30 x1 σ → W p l e rm_X3_takeStatement s m args below meth c H locs 0 0 (MQ below (va_Qi post (xAt D cA aE ad A) A) args s 0 0 A) (F0 m 30 ls []) := by
  obtain ⟨hx, hb, hml, hr, hown, hts, hK, hA, hlk, hE, vE⟩ := id C
  intro x1 σ H locs ls hG hl hw
  obtain ⟨hP, hD, hS⟩ := id hG
  refine lv_iload_n hx hb dX3_takeStatement_30 rfl (lv_at hl 1 rfl) ?_
  refine lv_sipush (v := 350) hx hb dX3_takeStatement_31 (by decide) ?_
  refine lv_icmp_ge (tgt := 103) hx hb dX3_takeStatement_34 (by decide) (fun q_ => ?_) (fun q_ => ?_)
  · have hw := hw.1 q_
    exact kB_X3_takeStatement_103 C vM  σ _ _ _ hG (lv_sub hl [0] rfl) hw
  · have hw := hw.2 q_
    refine lv_aload_n hx hb dX3_takeStatement_37 rfl (lv_at hl 0 rfl) ?_
    refine va_get (D := D) (ci := 5) (v := .ref (ad 4)) (C := RX3) (T := TX3) (N := 8) hx hb hts (in_tb inX3) hown hK hP 3 rfl rfl 0 (by decide) (hts _ (List.mem_cons_of_mem _ tw_1_110)) (fun _ h9 => h9) rfl dX3_takeStatement_38 ?_
    refine xV_i (As := []) (rest := []) C (met_X6_kind vE vM hw) (va_recv hK hP (ci := 8) (q0 := 4) rfl rfl) (cwV 0 hts (TB_G (TB_4 tw_4_180 tw_4_181 tw_4_182 tw_1_5) tw_4_183) rfl rfl rfl (by decide +kernel) ⟨by decide, by decide⟩) hP hD hS rfl hl.1 rfl (Nat.le_of_ble_eq_true rfl) dX3_takeStatement_41 ⟨by decide, by decide⟩ (fun r_20 σ_21 H locs hw hP hD hS => ?_)
    have hG : xG D cA aE ad A s σ_21 H locs := ⟨hP, hD, hS⟩
    refine lv_iconst (v := 1) hx hb dX3_takeStatement_44 (by decide) ?_
    refine lv_icmp_ne (tgt := 103) hx hb dX3_takeStatement_45 (by decide) (fun q_ => ?_) (fun q_ => ?_)
    · have hw := hw.2 q_
      exact kB_X3_takeStatement_103 C vM  σ_21 _ _ _ hG (lv_sub hl [0] rfl) hw
    · have hw := hw.1 q_
      refine lv_aload_n hx hb dX3_takeStatement_48 rfl (lv_at hl 0 rfl) ?_
      refine va_get (D := D) (ci := 5) (v := .ref (ad 4)) (C := RX3) (T := TX3) (N := 8) hx hb hts (in_tb inX3) hown hK hP 3 rfl rfl 0 (by decide) (hts _ (List.mem_cons_of_mem _ tw_1_110)) (fun _ h9 => h9) rfl dX3_takeStatement_49 ?_
      refine xV_i (As := []) (rest := []) C (met_X6_follower vE vM hw) (va_recv hK hP (ci := 8) (q0 := 4) rfl rfl) (cwV 0 hts (TB_G (TB_4 tw_4_188 tw_4_189 tw_4_190 tw_1_5) tw_4_191) rfl rfl rfl (by decide +kernel) ⟨by decide, by decide⟩) hP hD hS rfl hl.1 rfl (Nat.le_of_ble_eq_true rfl) dX3_takeStatement_52 ⟨by decide, by decide⟩ (fun r_22 σ_23 H locs hw hP hD hS => ?_)
      have hG : xG D cA aE ad A s σ_23 H locs := ⟨hP, hD, hS⟩
      refine lv_bipush (v := 58) hx hb dX3_takeStatement_55 (by decide) ?_
      refine lv_icmp_ne (tgt := 103) hx hb dX3_takeStatement_57 (by decide) (fun q_ => ?_) (fun q_ => ?_)
      · have hw := hw.2 q_
        exact kB_X3_takeStatement_103 C vM  σ_23 _ _ _ hG (lv_sub hl [0] rfl) hw
      · have hw := hw.1 q_
        refine lv_aload_n hx hb dX3_takeStatement_60 rfl (lv_at hl 0 rfl) ?_
        refine lv_aload_n hx hb dX3_takeStatement_61 rfl (lv_at hl 0 rfl) ?_
        refine va_get (D := D) (ci := 5) (v := .ref (ad 4)) (C := RX3) (T := TX3) (N := 8) hx hb hts (in_tb inX3) hown hK hP 3 rfl rfl 0 (by decide) (hts _ (List.mem_cons_of_mem _ tw_1_110)) (fun _ h9 => h9) rfl dX3_takeStatement_62 ?_
        refine xV_l (As := []) (rest := [.ref (ad 3)]) C (met_X6_value vE vM hw) (va_recv hK hP (ci := 8) (q0 := 4) rfl rfl) (cwV 0 hts (TB_G (TB_4 tw_4_196 tw_4_197 tw_4_198 tw_1_5) tw_4_199) rfl rfl rfl (by decide +kernel) ⟨by decide, by decide⟩) hP hD hS rfl hl.1 rfl (Nat.le_of_ble_eq_true rfl) dX3_takeStatement_65 ⟨by decide, by decide⟩ (fun r_24 σ_25 H locs hw hP hD hS => ?_)
        have hG : xG D cA aE ad A s σ_25 H locs := ⟨hP, hD, hS⟩
        refine lv_aload_n hx hb dX3_takeStatement_68 rfl (lv_at hl 0 rfl) ?_
        refine va_get (D := D) (ci := 5) (v := .ref (ad 4)) (C := RX3) (T := TX3) (N := 8) hx hb hts (in_tb inX3) hown hK hP 3 rfl rfl 0 (by decide) (hts _ (List.mem_cons_of_mem _ tw_1_110)) (fun _ h9 => h9) rfl dX3_takeStatement_69 ?_
        refine xV_i (As := []) (rest := [.long r_24, .ref (ad 3)]) C (met_X6_place vE vM hw) (va_recv hK hP (ci := 8) (q0 := 4) rfl rfl) (cwV 0 hts (TB_G (TB_4 tw_4_200 tw_4_201 tw_4_202 tw_1_5) tw_4_203) rfl rfl rfl (by decide +kernel) ⟨by decide, by decide⟩) hP hD hS rfl hl.1 rfl (Nat.le_of_ble_eq_true rfl) dX3_takeStatement_72 ⟨by decide, by decide⟩ (fun r_26 σ_27 H locs hw hP hD hS => ?_)
        have hG : xG D cA aE ad A s σ_27 H locs := ⟨hP, hD, hS⟩
        refine lv_aload_n hx hb dX3_takeStatement_75 rfl (lv_at hl 0 rfl) ?_
        refine va_get (D := D) (ci := 5) (v := .int (xI σ_27 1)) (C := RX3) (T := TX3) (N := 8) hx hb hts (in_tb inX3) hown hK hP 3 rfl rfl 5 (by decide) (hts _ (List.mem_cons_of_mem _ tw_1_117)) (fun _ h9 => h9) rfl dX3_takeStatement_76 ?_
        refine lv_i2l hx hb dX3_takeStatement_79 rfl ?_
        refine xV_v (As := [.long r_24, .int r_26, .long ((xI σ_27 1).toInt64)]) (rest := []) C (met_X3_tellName vE vM hw) (va_recv hK hP (ci := 5) (q0 := 3) rfl rfl) (cwV 3 hts (TB_G (TB_4 tw_5_3 tw_5_5 ts_20 tw_1_3) tw_5_6) rfl rfl rfl (by decide +kernel) ⟨by decide, by decide⟩) hP hD hS rfl hl.1 rfl (Nat.le_of_ble_eq_true rfl) dX3_takeStatement_80 ⟨by decide, by decide⟩ (fun σ_29 H locs hw hP hD hS => ?_)
        have hG : xG D cA aE ad A s σ_29 H locs := ⟨hP, hD, hS⟩
        refine lv_aload_n hx hb dX3_takeStatement_83 rfl (lv_at hl 0 rfl) ?_
        refine va_get (D := D) (ci := 5) (v := .ref (ad 4)) (C := RX3) (T := TX3) (N := 8) hx hb hts (in_tb inX3) hown hK hP 3 rfl rfl 0 (by decide) (hts _ (List.mem_cons_of_mem _ tw_1_110)) (fun _ h9 => h9) rfl dX3_takeStatement_84 ?_
        refine xV_v (As := []) (rest := []) C (met_X6_advance vE vM hw) (va_recv hK hP (ci := 8) (q0 := 4) rfl rfl) (cwV 0 hts (TB_G (TB_4 tw_4_204 tw_4_205 tw_4_206 tw_1_5) tw_4_207) rfl rfl rfl (by decide +kernel) ⟨by decide, by decide⟩) hP hD hS rfl hl.1 rfl (Nat.le_of_ble_eq_true rfl) dX3_takeStatement_87 ⟨by decide, by decide⟩ (fun σ_31 H locs hw hP hD hS => ?_)
        have hG : xG D cA aE ad A s σ_31 H locs := ⟨hP, hD, hS⟩
        refine lv_aload_n hx hb dX3_takeStatement_90 rfl (lv_at hl 0 rfl) ?_
        refine va_get (D := D) (ci := 5) (v := .ref (ad 4)) (C := RX3) (T := TX3) (N := 8) hx hb hts (in_tb inX3) hown hK hP 3 rfl rfl 0 (by decide) (hts _ (List.mem_cons_of_mem _ tw_1_110)) (fun _ h9 => h9) rfl dX3_takeStatement_91 ?_
        refine xV_v (As := []) (rest := []) C (met_X6_advance vE vM hw) (va_recv hK hP (ci := 8) (q0 := 4) rfl rfl) (cwV 0 hts (TB_G (TB_4 tw_4_204 tw_4_205 tw_4_206 tw_1_5) tw_4_207) rfl rfl rfl (by decide +kernel) ⟨by decide, by decide⟩) hP hD hS rfl hl.1 rfl (Nat.le_of_ble_eq_true rfl) dX3_takeStatement_94 ⟨by decide, by decide⟩ (fun σ_33 H locs hw hP hD hS => ?_)
        have hG : xG D cA aE ad A s σ_33 H locs := ⟨hP, hD, hS⟩
        obtain ⟨x1_34, ex1_34⟩ : ∃ y : Int32, y = x1 + 1 := ⟨_, rfl⟩
        have hw := hw x1_34 ex1_34
        refine lv_iinc (v := x1_34) (lv' := [(1, .int x1_34), (0, .ref (ad 3))]) hx hb dX3_takeStatement_97 hl (k := 1) rfl (by rw [ex1_34]; rfl) (by decide) rfl (fun ls hl => ?_)
        refine lv_goto (tgt := 30) hx hb dX3_takeStatement_100 (by decide) ?_
        exact hk30 x1_34 σ_33 _ _ _ hG (lv_sub hl [1, 0] rfl) hw
theorem kL_X3_takeStatement_30 {p : Program} {l : Launch} {e : Env} {s : State} {m : MethodId} {args : Array Value} {below : List Frame} {meth : Method} {c : Code} {A : Nat → Prop} {E : EnvT} {aK aV : Nat → Nat} {aO : Nat} {D : va_G} {cA : Nat → ClassId} {aE ad : Nat → Nat} (C : xCx p s m args meth c cX3_takeStatement 2 (some .boolean) wgX3_takeStatement RX3 E D cA A) (vM : eXs aK aV aE aO E) {post : Int32 → XS → Prop} :
    ∀ (n : Nat) (x1 : Int32) (σ : XS) (H : Heap) (locs : List Loc) (ls : Array Slot), xG D cA aE ad A s σ H locs → lv_has ls 2 [(0, .ref (ad 3)), (1, .int x1)] → wL_X3_takeStatement_30 post n x1 σ → W p l e rm_X3_takeStatement s m args below meth c H locs 0 0 (MQ below (va_Qi post (xAt D cA aE ad A) A) args s 0 0 A) (F0 m 30 ls []) := by
  intro n
  induction n with
  | zero => intro x1 σ H locs ls hG hl hw; exact hw.elim
  | succ n ih => exact kB_X3_takeStatement_30 C vM ih
set_option maxHeartbeats 4000000 in
set_option maxRecDepth 100000 in
theorem kB_X3_takeStatement_28 {p : Program} {l : Launch} {e : Env} {s : State} {m : MethodId} {args : Array Value} {below : List Frame} {meth : Method} {c : Code} {A : Nat → Prop} {E : EnvT} {aK aV : Nat → Nat} {aO : Nat} {D : va_G} {cA : Nat → ClassId} {aE ad : Nat → Nat} (C : xCx p s m args meth c cX3_takeStatement 2 (some .boolean) wgX3_takeStatement RX3 E D cA A) (vM : eXs aK aV aE aO E) {post : Int32 → XS → Prop} :
    ∀ (σ : XS) (H : Heap) (locs : List Loc) (ls : Array Slot), xG D cA aE ad A s σ H locs → lv_has ls 2 [(0, .ref (ad 3))] → wB_X3_takeStatement_28 post σ → W p l e rm_X3_takeStatement s m args below meth c H locs 0 0 (MQ below (va_Qi post (xAt D cA aE ad A) A) args s 0 0 A) (F0 m 28 ls []) := by
  obtain ⟨hx, hb, hml, hr, hown, hts, hK, hA, hlk, hE, vE⟩ := id C
  intro σ H locs ls hG hl hw
  obtain ⟨hP, hD, hS⟩ := id hG
  refine lv_iconst (v := 0) hx hb dX3_takeStatement_28 (by decide) ?_
  refine lv_istore_n (lv' := [(1, .int 0), (0, .ref (ad 3))]) hx hb dX3_takeStatement_29 rfl hl (by decide) rfl (fun ls hl => ?_)
  obtain ⟨n_, hw⟩ := hw
  exact kL_X3_takeStatement_30 C vM n_ 0 σ _ _ _ hG (lv_sub hl [1, 0] rfl) hw
set_option maxHeartbeats 4000000 in
set_option maxRecDepth 100000 in
theorem k_X3_takeStatement {p : Program} {l : Launch} {e : Env} {s : State} {m : MethodId} {args : Array Value} {below : List Frame} {meth : Method} {c : Code} {A : Nat → Prop} {E : EnvT} {aK aV : Nat → Nat} {aO : Nat} {D : va_G} {cA : Nat → ClassId} {aE ad : Nat → Nat} (C : xCx p s m args meth c cX3_takeStatement 2 (some .boolean) wgX3_takeStatement RX3 E D cA A) (vM : eXs aK aV aE aO E) {post : Int32 → XS → Prop} :
    ∀ (σ : XS) (H : Heap) (locs : List Loc) (ls : Array Slot), xG D cA aE ad A s σ H locs → lv_has ls 2 [(0, .ref (ad 3))] → wp_X3_takeStatement post σ → W p l e rm_X3_takeStatement s m args below meth c H locs 0 0 (MQ below (va_Qi post (xAt D cA aE ad A) A) args s 0 0 A) (F0 m 0 ls []) := by
  obtain ⟨hx, hb, hml, hr, hown, hts, hK, hA, hlk, hE, vE⟩ := id C
  intro σ H locs ls hG hl hw
  obtain ⟨hP, hD, hS⟩ := id hG
  refine lv_aload_n hx hb dX3_takeStatement_0 rfl (lv_at hl 0 rfl) ?_
  refine va_get (D := D) (ci := 5) (v := .ref (ad 4)) (C := RX3) (T := TX3) (N := 8) hx hb hts (in_tb inX3) hown hK hP 3 rfl rfl 0 (by decide) (hts _ (List.mem_cons_of_mem _ tw_1_110)) (fun _ h9 => h9) rfl dX3_takeStatement_1 ?_
  refine xV_i (As := []) (rest := []) C (met_X6_kind vE vM hw) (va_recv hK hP (ci := 8) (q0 := 4) rfl rfl) (cwV 0 hts (TB_G (TB_4 tw_4_180 tw_4_181 tw_4_182 tw_1_5) tw_4_183) rfl rfl rfl (by decide +kernel) ⟨by decide, by decide⟩) hP hD hS rfl hl.1 rfl (Nat.le_of_ble_eq_true rfl) dX3_takeStatement_4 ⟨by decide, by decide⟩ (fun r_1 σ_2 H locs hw hP hD hS => ?_)
  have hG : xG D cA aE ad A s σ_2 H locs := ⟨hP, hD, hS⟩
  refine lv_iconst (v := 1) hx hb dX3_takeStatement_7 (by decide) ?_
  refine lv_icmp_ne (tgt := 28) hx hb dX3_takeStatement_8 (by decide) (fun q_ => ?_) (fun q_ => ?_)
  · have hw := hw.2 q_
    exact kB_X3_takeStatement_28 C vM  σ_2 _ _ _ hG (lv_sub hl [0] rfl) hw
  · have hw := hw.1 q_
    refine lv_aload_n hx hb dX3_takeStatement_11 rfl (lv_at hl 0 rfl) ?_
    refine va_get (D := D) (ci := 5) (v := .ref (ad 4)) (C := RX3) (T := TX3) (N := 8) hx hb hts (in_tb inX3) hown hK hP 3 rfl rfl 0 (by decide) (hts _ (List.mem_cons_of_mem _ tw_1_110)) (fun _ h9 => h9) rfl dX3_takeStatement_12 ?_
    refine xV_i (As := []) (rest := []) C (met_X6_follower vE vM hw) (va_recv hK hP (ci := 8) (q0 := 4) rfl rfl) (cwV 0 hts (TB_G (TB_4 tw_4_188 tw_4_189 tw_4_190 tw_1_5) tw_4_191) rfl rfl rfl (by decide +kernel) ⟨by decide, by decide⟩) hP hD hS rfl hl.1 rfl (Nat.le_of_ble_eq_true rfl) dX3_takeStatement_15 ⟨by decide, by decide⟩ (fun r_35 σ_36 H locs hw hP hD hS => ?_)
    have hG : xG D cA aE ad A s σ_36 H locs := ⟨hP, hD, hS⟩
    refine lv_bipush (v := 61) hx hb dX3_takeStatement_18 (by decide) ?_
    refine lv_icmp_ne (tgt := 28) hx hb dX3_takeStatement_20 (by decide) (fun q_ => ?_) (fun q_ => ?_)
    · have hw := hw.2 q_
      exact kB_X3_takeStatement_28 C vM  σ_36 _ _ _ hG (lv_sub hl [0] rfl) hw
    · have hw := hw.1 q_
      refine lv_aload_n hx hb dX3_takeStatement_23 rfl (lv_at hl 0 rfl) ?_
      refine xV_i (As := []) (rest := []) C (met_X3_takeConstant vE vM hw) (va_recv hK hP (ci := 5) (q0 := 3) rfl rfl) (cwV 0 hts (TB_G (TB_4 tw_4_192 tw_4_194 ts_14 tw_1_3) tw_4_195) rfl rfl rfl (by decide +kernel) ⟨by decide, by decide⟩) hP hD hS rfl hl.1 rfl (Nat.le_of_ble_eq_true rfl) dX3_takeStatement_24 ⟨by decide, by decide⟩ (fun r_37 σ_38 H locs hw hP hD hS => ?_)
      have hG : xG D cA aE ad A s σ_38 H locs := ⟨hP, hD, hS⟩
      obtain ⟨h_39, hw⟩ := hw
      exact W.zret (v := r_37) (ty := .boolean) hx hb hr (isB.n h_39) (fun t ht hW => ⟨⟨_, σ_38, rfl, hw, by rw [ht]; exact hP, va_K.moved hW.alike hK, hD⟩, hS.F ht⟩) hS.2.2 dX3_takeStatement_27 hlk
set_option maxHeartbeats 4000000 in
set_option maxRecDepth 100000 in
theorem met_X3_takeStatement {l : Launch} {E : EnvT} (vE : EnvOk E) {D : va_G} {cA : Nat → ClassId} {aE ad : Nat → Nat} {σ : XS} {aK aV : Nat → Nat} {aO : Nat} (vM : eXs aK aV aE aO E) {sz : Nat} {post : Int32 → XS → Prop} (hw : wp_X3_takeStatement post σ) : Met l yX3_takeStatement wgX3_takeStatement rm_X3_takeStatement (va_Pc [.ref (ad 3)] (xPre E D cA aE ad sz σ)) (va_Qi post (xAt D cA aE ad (va_A (xW cA aE ad σ) sz)) (va_A (xW cA aE ad σ) sz)) 0 0 (va_A (xW cA aE ad σ) sz) := by
  refine Met.ofW (cc := cX3_takeStatement) (maxL := 2) (ret := (some .boolean)) (by decide +kernel) rfl ?_
  intro p e s m args below meth c s₁ B hml hv
  obtain ⟨rfl, hsz, hP, hK, hD0, hE⟩ := hv
  subst hsz
  have hD := hD0.self (sz := s.heap.size)
  generalize hAe : va_A (xW cA aE ad σ) s.heap.size = A at hD hE ⊢
  have hA : ∀ q : Nat, s.heap.size ≤ q → A q := fun q h => by rw [← hAe]; exact Or.inr h
  have hS : va_S A s.heap s.heap [] := va_S.rf
  have C : xCx p s m _ meth c cX3_takeStatement 2 (some .boolean) wgX3_takeStatement RX3 E D cA A := ⟨B.exec, B.bytes, hml, B.returns, findClass_of_methodNamed B.named, atoms_spec (ws := wgX3_takeStatement) B.pre, hK, hA, B.notSynchronized, hE, vE⟩
  have hG : xG D cA aE ad A s σ s.heap [] := ⟨hP, hD, hS⟩
  have hl := lv_entry ([.ref (ad 3)]) (n := 2) (Nat.le_of_ble_eq_true rfl)
  rw [lg_entry_eq]
  generalize (lg_sl ([.ref (ad 3)]) ++ List.replicate (2 - (lg_sl ([.ref (ad 3)])).length) Slot.unset).toArray = ls at hl ⊢
  have hl : lv_has ls 2 [(0, .ref (ad 3))] := hl
  exact k_X3_takeStatement C vM σ _ _ _ hG hl hw
