/-! ===== X1_tell names ===== -/
def rm_X1_tell_names : Room := { frames := 1, cells := 0, slots := 0, locals := 23 }
def wB_X1_tell_names_19 (post : Int32 → XS → Prop) (σ : XS) : Prop :=
  post 0 σ
def wp_X1_tell_names (post : Int32 → XS → Prop) (x1 : Int64) (x3 : Int64) (σ : XS) : Prop :=
  wp_X1_find_names (fun r_1 σ_2 => (r_1 = (-1) → (((xI σ_2 7) < 350 → (vp_in (xI σ_2 7) 350 ∧ (vp_in (xI σ_2 7) 350 ∧ (post 1 (yI (yL (yL σ_2 4 (xI σ_2 7).toNatClampNeg x1) 5 (xI σ_2 7).toNatClampNeg x3) 7 ((xI σ_2 7) + 1)))))) ∧ (¬ (xI σ_2 7) < 350 → (wB_X1_tell_names_19 post σ_2)))) ∧ (¬ r_1 = (-1) → (wB_X1_tell_names_19 post σ_2))) x1 σ
set_option maxHeartbeats 4000000 in
set_option maxRecDepth 100000 in
theorem kB_X1_tell_names_19 {p : Program} {l : Launch} {e : Env} {s : State} {m : MethodId} {args : Array Value} {below : List Frame} {meth : Method} {c : Code} {A : Nat → Prop} {E : EnvT} {aK aV : Nat → Nat} {aO : Nat} {D : va_G} {cA : Nat → ClassId} {aE ad : Nat → Nat} (C : xCx p s m args meth c cX1_tell 5 (some .boolean) wgX1_tell RX1 E D cA A) (vM : eXs aK aV aE aO E) {post : Int32 → XS → Prop} :
    ∀ (σ : XS) (H : Heap) (locs : List Loc) (ls : Array Slot), xG D cA aE ad A s σ H locs → lv_has ls 5 [] → wB_X1_tell_names_19 post σ → W p l e rm_X1_tell_names s m args below meth c H locs 0 0 (MQ below (va_Qi post (xAt D cA aE ad A) A) args s 0 0 A) (F0 m 19 ls []) := by
  obtain ⟨hx, hb, hml, hr, hown, hts, hK, hA, hlk, hE, vE⟩ := id C
  intro σ H locs ls hG hl hw
  obtain ⟨hP, hD, hS⟩ := id hG
  refine lv_iconst (v := 0) hx hb dX1_tell_19 (by decide) ?_
  exact W.zret (v := 0) (ty := .boolean) hx hb hr rfl (fun t ht hW => ⟨⟨_, σ, rfl, hw, by rw [ht]; exact hP, va_K.moved hW.alike hK, hD⟩, hS.F ht⟩) hS.2.2 dX1_tell_20 hlk
set_option maxHeartbeats 4000000 in
set_option maxRecDepth 100000 in
theorem k_X1_tell_names {p : Program} {l : Launch} {e : Env} {s : State} {m : MethodId} {args : Array Value} {below : List Frame} {meth : Method} {c : Code} {A : Nat → Prop} {E : EnvT} {aK aV : Nat → Nat} {aO : Nat} {D : va_G} {cA : Nat → ClassId} {aE ad : Nat → Nat} (C : xCx p s m args meth c cX1_tell 5 (some .boolean) wgX1_tell RX1 E D cA A) (vM : eXs aK aV aE aO E) {post : Int32 → XS → Prop} :
    ∀ (x1 : Int64) (x3 : Int64) (σ : XS) (H : Heap) (locs : List Loc) (ls : Array Slot), xG D cA aE ad A s σ H locs → lv_has ls 5 [(0, .ref (ad 14)), (1, .long x1), (3, .long x3)] → wp_X1_tell_names post x1 x3 σ → W p l e rm_X1_tell_names s m args below meth c H locs 0 0 (MQ below (va_Qi post (xAt D cA aE ad A) A) args s 0 0 A) (F0 m 0 ls []) := by
  obtain ⟨hx, hb, hml, hr, hown, hts, hK, hA, hlk, hE, vE⟩ := id C
  intro x1 x3 σ H locs ls hG hl hw
  obtain ⟨hP, hD, hS⟩ := id hG
  refine lv_aload_n hx hb dX1_tell_0 rfl (lv_at hl 0 rfl) ?_
  refine lv_lload_n hx hb dX1_tell_1 rfl (lv_at hl 1 rfl) ?_
  refine xV_i (As := [.long x1]) (rest := []) C (met_X1_find_names vE vM hw) (va_recv hK hP (ci := 3) (q0 := 14) rfl rfl) (cwV 1 hts (TB_G (TB_4 tw_5_11 tw_4_234 tw_4_235 tw_1_4) tw_4_236) rfl rfl rfl (by decide +kernel) ⟨by decide, by decide⟩) hP hD hS rfl hl.1 rfl (Nat.le_of_ble_eq_true rfl) dX1_tell_2 ⟨by decide, by decide⟩ (fun r_1 σ_2 H locs hw hP hD hS => ?_)
  have hG : xG D cA aE ad A s σ_2 H locs := ⟨hP, hD, hS⟩
  refine lv_iconst (v := (-1)) hx hb dX1_tell_5 (by decide) ?_
  refine lv_icmp_ne (tgt := 19) hx hb dX1_tell_6 (by decide) (fun q_ => ?_) (fun q_ => ?_)
  · have hw := hw.2 q_
    exact kB_X1_tell_names_19 C vM  σ_2 _ _ _ hG (lv_sub hl [] rfl) hw
  · have hw := hw.1 q_
    refine lv_aload_n hx hb dX1_tell_9 rfl (lv_at hl 0 rfl) ?_
    refine va_get (D := D) (ci := 3) (v := .int (xI σ_2 7)) (C := RX1) (T := TX1) (N := 3) hx hb hts (in_tb inX1) hown hK hP 14 rfl rfl 2 (by decide) (hts _ (List.mem_cons_of_mem _ tw_1_73)) (fun _ h9 => h9) rfl dX1_tell_10 ?_
    refine lv_sipush (v := 350) hx hb dX1_tell_13 (by decide) ?_
    refine lv_icmp_lt (tgt := 21) hx hb dX1_tell_16 (by decide) (fun q_ => ?_) (fun q_ => ?_)
    · have hw := hw.1 q_
      refine lv_aload_n hx hb dX1_tell_21 rfl (lv_at hl 0 rfl) ?_
      refine va_get (D := D) (ci := 3) (v := .ref (ad 15)) (C := RX1) (T := TX1) (N := 3) hx hb hts (in_tb inX1) hown hK hP 14 rfl rfl 0 (by decide) (hts _ (List.mem_cons_of_mem _ tw_1_69)) (fun _ h9 => h9) rfl dX1_tell_22 ?_
      refine lv_aload_n hx hb dX1_tell_25 rfl (lv_at hl 0 rfl) ?_
      refine va_get (D := D) (ci := 3) (v := .int (xI σ_2 7)) (C := RX1) (T := TX1) (N := 3) hx hb hts (in_tb inX1) hown hK hP 14 rfl rfl 2 (by decide) (hts _ (List.mem_cons_of_mem _ tw_1_73)) (fun _ h9 => h9) rfl dX1_tell_26 ?_
      refine lv_lload_n hx hb dX1_tell_29 rfl (lv_at hl 1 rfl) ?_
      obtain ⟨h_3, hw⟩ := hw
      refine va_last hx hb hK hP hD hS 15 1 rfl rfl h_3 dX1_tell_30 (fun H locs hP hD hS => ?_)
      have hG : xG D cA aE ad A s (yL σ_2 4 (xI σ_2 7).toNatClampNeg x1) H locs := ⟨hP, hD, hS⟩
      obtain ⟨hP, hD, hS⟩ := id hG
      refine lv_aload_n hx hb dX1_tell_31 rfl (lv_at hl 0 rfl) ?_
      refine va_get (D := D) (ci := 3) (v := .ref (ad 16)) (C := RX1) (T := TX1) (N := 3) hx hb hts (in_tb inX1) hown hK hP 14 rfl rfl 1 (by decide) (hts _ (List.mem_cons_of_mem _ tw_1_70)) (fun _ h9 => h9) rfl dX1_tell_32 ?_
      refine lv_aload_n hx hb dX1_tell_35 rfl (lv_at hl 0 rfl) ?_
      refine va_get (D := D) (ci := 3) (v := .int (xI σ_2 7)) (C := RX1) (T := TX1) (N := 3) hx hb hts (in_tb inX1) hown hK hP 14 rfl rfl 2 (by decide) (hts _ (List.mem_cons_of_mem _ tw_1_73)) (fun _ h9 => h9) rfl dX1_tell_36 ?_
      refine lv_lload_n hx hb dX1_tell_39 rfl (lv_at hl 2 rfl) ?_
      obtain ⟨h_4, hw⟩ := hw
      refine va_last hx hb hK hP hD hS 16 1 rfl rfl h_4 dX1_tell_40 (fun H locs hP hD hS => ?_)
      have hG : xG D cA aE ad A s (yL (yL σ_2 4 (xI σ_2 7).toNatClampNeg x1) 5 (xI σ_2 7).toNatClampNeg x3) H locs := ⟨hP, hD, hS⟩
      obtain ⟨hP, hD, hS⟩ := id hG
      refine lv_aload_n hx hb dX1_tell_41 rfl (lv_at hl 0 rfl) ?_
      refine lv_dup hx hb dX1_tell_42 rfl ?_
      refine va_get (D := D) (ci := 3) (v := .int (xI σ_2 7)) (C := RX1) (T := TX1) (N := 3) hx hb hts (in_tb inX1) hown hK hP 14 rfl rfl 2 (by decide) (hts _ (List.mem_cons_of_mem _ tw_1_73)) (fun _ h9 => h9) rfl dX1_tell_43 ?_
      refine lv_iconst (v := 1) hx hb dX1_tell_46 (by decide) ?_
      refine lv_iadd hx hb dX1_tell_47 ?_
      refine va_put (D := D) (ci := 3) (v := .int ((xI σ_2 7) + 1)) (ty := .int) (C := RX1) (T := TX1) (N := 3) hx hb hts (in_tb inX1) tyX1 tyX1_ok nmX1 hown hK hP hD hS 14 rfl rfl 2 (by decide) (hts _ (List.mem_cons_of_mem _ tw_1_73)) (fun _ h9 => h9) rfl (by decide +kernel) rfl rfl (Nat.le_of_ble_eq_true rfl) dX1_tell_48 (fun H locs hP hD hS => ?_)
      have hG : xG D cA aE ad A s (yI (yL (yL σ_2 4 (xI σ_2 7).toNatClampNeg x1) 5 (xI σ_2 7).toNatClampNeg x3) 7 ((xI σ_2 7) + 1)) H locs := ⟨hP, hD, hS⟩
      obtain ⟨hP, hD, hS⟩ := id hG
      refine lv_iconst (v := 1) hx hb dX1_tell_51 (by decide) ?_
      exact W.zret (v := 1) (ty := .boolean) hx hb hr rfl (fun t ht hW => ⟨⟨_, (yI (yL (yL σ_2 4 (xI σ_2 7).toNatClampNeg x1) 5 (xI σ_2 7).toNatClampNeg x3) 7 ((xI σ_2 7) + 1)), rfl, hw, by rw [ht]; exact hP, va_K.moved hW.alike hK, hD⟩, hS.F ht⟩) hS.2.2 dX1_tell_52 hlk
    · have hw := hw.2 q_
      exact kB_X1_tell_names_19 C vM  σ_2 _ _ _ hG (lv_sub hl [] rfl) hw
set_option maxHeartbeats 4000000 in
set_option maxRecDepth 100000 in
theorem met_X1_tell_names {l : Launch} {E : EnvT} (vE : EnvOk E) {D : va_G} {cA : Nat → ClassId} {aE ad : Nat → Nat} {σ : XS} {aK aV : Nat → Nat} {aO : Nat} (vM : eXs aK aV aE aO E) {sz : Nat} {x1 : Int64} {x3 : Int64} {post : Int32 → XS → Prop} (hw : wp_X1_tell_names post x1 x3 σ) : Met l yX1_tell wgX1_tell rm_X1_tell_names (va_Pc [.ref (ad 14), .long x1, .long x3] (xPre E D cA aE ad sz σ)) (va_Qi post (xAt D cA aE ad (va_A (xW cA aE ad σ) sz)) (va_A (xW cA aE ad σ) sz)) 0 0 (va_A (xW cA aE ad σ) sz) := by
  refine Met.ofW (cc := cX1_tell) (maxL := 5) (ret := (some .boolean)) (by decide +kernel) rfl ?_
  intro p e s m args below meth c s₁ B hml hv
  obtain ⟨rfl, hsz, hP, hK, hD0, hE⟩ := hv
  subst hsz
  have hD := hD0.self (sz := s.heap.size)
  generalize hAe : va_A (xW cA aE ad σ) s.heap.size = A at hD hE ⊢
  have hA : ∀ q : Nat, s.heap.size ≤ q → A q := fun q h => by rw [← hAe]; exact Or.inr h
  have hS : va_S A s.heap s.heap [] := va_S.rf
  have C : xCx p s m _ meth c cX1_tell 5 (some .boolean) wgX1_tell RX1 E D cA A := ⟨B.exec, B.bytes, hml, B.returns, findClass_of_methodNamed B.named, atoms_spec (ws := wgX1_tell) B.pre, hK, hA, B.notSynchronized, hE, vE⟩
  have hG : xG D cA aE ad A s σ s.heap [] := ⟨hP, hD, hS⟩
  have hl := lv_entry ([.ref (ad 14), .long x1, .long x3]) (n := 5) (Nat.le_of_ble_eq_true rfl)
  rw [lg_entry_eq]
  generalize (lg_sl ([.ref (ad 14), .long x1, .long x3]) ++ List.replicate (5 - (lg_sl ([.ref (ad 14), .long x1, .long x3])).length) Slot.unset).toArray = ls at hl ⊢
  have hl : lv_has ls 5 [(0, .ref (ad 14)), (1, .long x1), (3, .long x3)] := hl
  exact k_X1_tell_names C vM x1 x3 σ _ _ _ hG hl hw
/-! ===== X1_become told ===== -/
def rm_X1_become_told : Room := { frames := 1, cells := 0, slots := 0, locals := 80 }
abbrev wgX1_become : List Cond := .code yX1_become cX1_become 2 none :: TB
def wp_X1_become_told (post : XS → Prop) (σ : XS) : Prop :=
  ¬ (0 : Int32) < 0 ∧ ¬ (0 : Int32) < 0 ∧ ¬ (xI σ 6) < 0 ∧ (0 : Int32).toNatClampNeg + (xI σ 6).toNatClampNeg ≤ 350 ∧ (0 : Int32).toNatClampNeg + (xI σ 6).toNatClampNeg ≤ 350 ∧ (¬ (0 : Int32) < 0 ∧ ¬ (0 : Int32) < 0 ∧ ¬ (xI σ 6) < 0 ∧ (0 : Int32).toNatClampNeg + (xI σ 6).toNatClampNeg ≤ 350 ∧ (0 : Int32).toNatClampNeg + (xI σ 6).toNatClampNeg ≤ 350 ∧ (post (yLs (yLs (yI σ 6 (xI σ 6)) 1 (va_cpy (xL σ 1) (xL σ 1) (0 : Int32).toNatClampNeg (0 : Int32).toNatClampNeg (xI σ 6).toNatClampNeg)) 2 (va_cpy (xL σ 2) (xL σ 2) (0 : Int32).toNatClampNeg (0 : Int32).toNatClampNeg (xI σ 6).toNatClampNeg))))
set_option maxHeartbeats 4000000 in
set_option maxRecDepth 100000 in
theorem k_X1_become_told {p : Program} {l : Launch} {e : Env} {s : State} {m : MethodId} {args : Array Value} {below : List Frame} {meth : Method} {c : Code} {A : Nat → Prop} {E : EnvT} {aK aV : Nat → Nat} {aO : Nat} {D : va_G} {cA : Nat → ClassId} {aE ad : Nat → Nat} (C : xCx p s m args meth c cX1_become 2 none wgX1_become RX1 E D cA A) (vM : eXs aK aV aE aO E) {post : XS → Prop} :
    ∀ (σ : XS) (H : Heap) (locs : List Loc) (ls : Array Slot), xG D cA aE ad A s σ H locs → lv_has ls 2 [(0, .ref (ad 10)), (1, .ref (ad 10))] → wp_X1_become_told post σ → W p l e rm_X1_become_told s m args below meth c H locs 0 0 (MQ below (va_Qv post (xAt D cA aE ad A) A) args s 0 0 A) (F0 m 0 ls []) := by
  obtain ⟨hx, hb, hml, hr, hown, hts, hK, hA, hlk, hE, vE⟩ := id C
  intro σ H locs ls hG hl hw
  obtain ⟨hP, hD, hS⟩ := id hG
  refine lv_aload_n hx hb dX1_become_0 rfl (lv_at hl 0 rfl) ?_
  refine lv_aload_n hx hb dX1_become_1 rfl (lv_at hl 1 rfl) ?_
  refine va_get (D := D) (ci := 3) (v := .int (xI σ 6)) (C := RX1) (T := TX1) (N := 3) hx hb hts (in_tb inX1) hown hK hP 10 rfl rfl 2 (by decide) (hts _ (List.mem_cons_of_mem _ tw_1_73)) (fun _ h9 => h9) rfl dX1_become_2 ?_
  refine va_put (D := D) (ci := 3) (v := .int (xI σ 6)) (ty := .int) (C := RX1) (T := TX1) (N := 3) hx hb hts (in_tb inX1) tyX1 tyX1_ok nmX1 hown hK hP hD hS 10 rfl rfl 2 (by decide) (hts _ (List.mem_cons_of_mem _ tw_1_73)) (fun _ h9 => h9) rfl (by decide +kernel) rfl rfl (Nat.le_of_ble_eq_true rfl) dX1_become_5 (fun H locs hP hD hS => ?_)
  have hG : xG D cA aE ad A s (yI σ 6 (xI σ 6)) H locs := ⟨hP, hD, hS⟩
  obtain ⟨hP, hD, hS⟩ := id hG
  refine lv_aload_n hx hb dX1_become_8 rfl (lv_at hl 1 rfl) ?_
  refine va_get (D := D) (ci := 3) (v := .ref (ad 11)) (C := RX1) (T := TX1) (N := 3) hx hb hts (in_tb inX1) hown hK hP 10 rfl rfl 0 (by decide) (hts _ (List.mem_cons_of_mem _ tw_1_69)) (fun _ h9 => h9) rfl dX1_become_9 ?_
  refine lv_iconst (v := 0) hx hb dX1_become_12 (by decide) ?_
  refine lv_aload_n hx hb dX1_become_13 rfl (lv_at hl 0 rfl) ?_
  refine va_get (D := D) (ci := 3) (v := .ref (ad 11)) (C := RX1) (T := TX1) (N := 3) hx hb hts (in_tb inX1) hown hK hP 10 rfl rfl 0 (by decide) (hts _ (List.mem_cons_of_mem _ tw_1_69)) (fun _ h9 => h9) rfl dX1_become_14 ?_
  refine lv_iconst (v := 0) hx hb dX1_become_17 (by decide) ?_
  refine lv_aload_n hx hb dX1_become_18 rfl (lv_at hl 0 rfl) ?_
  refine va_get (D := D) (ci := 3) (v := .int (xI σ 6)) (C := RX1) (T := TX1) (N := 3) hx hb hts (in_tb inX1) hown hK hP 10 rfl rfl 2 (by decide) (hts _ (List.mem_cons_of_mem _ tw_1_73)) (fun _ h9 => h9) rfl dX1_become_19 ?_
  obtain ⟨h_1, h_2, h_3, h_4, h_5, hw⟩ := hw
  refine va_copyl (ty := .long) hx hb (hml.trans hl.1.symm) hown (hts _ (List.mem_cons_of_mem _ tw_5_70)) (hts _ (List.mem_cons_of_mem _ tw_3_2)) (hts _ (List.mem_cons_of_mem _ tw_3_1)) (hts _ (List.mem_cons_of_mem _ tw_1_24)) hK hP hD hS 11 11 1 1 rfl rfl rfl rfl rfl h_1 h_2 h_3 h_4 h_5 (fun _ _ => rfl) (by decide) (by decide +kernel) dX1_become_22 (fun H locs hP hD hS => ?_)
  have hG : xG D cA aE ad A s (yLs (yI σ 6 (xI σ 6)) 1 (va_cpy (xL σ 1) (xL σ 1) (0 : Int32).toNatClampNeg (0 : Int32).toNatClampNeg (xI σ 6).toNatClampNeg)) H locs := ⟨hP, hD, hS⟩
  obtain ⟨hP, hD, hS⟩ := id hG
  refine lv_aload_n hx hb dX1_become_25 rfl (lv_at hl 1 rfl) ?_
  refine va_get (D := D) (ci := 3) (v := .ref (ad 12)) (C := RX1) (T := TX1) (N := 3) hx hb hts (in_tb inX1) hown hK hP 10 rfl rfl 1 (by decide) (hts _ (List.mem_cons_of_mem _ tw_1_70)) (fun _ h9 => h9) rfl dX1_become_26 ?_
  refine lv_iconst (v := 0) hx hb dX1_become_29 (by decide) ?_
  refine lv_aload_n hx hb dX1_become_30 rfl (lv_at hl 0 rfl) ?_
  refine va_get (D := D) (ci := 3) (v := .ref (ad 12)) (C := RX1) (T := TX1) (N := 3) hx hb hts (in_tb inX1) hown hK hP 10 rfl rfl 1 (by decide) (hts _ (List.mem_cons_of_mem _ tw_1_70)) (fun _ h9 => h9) rfl dX1_become_31 ?_
  refine lv_iconst (v := 0) hx hb dX1_become_34 (by decide) ?_
  refine lv_aload_n hx hb dX1_become_35 rfl (lv_at hl 0 rfl) ?_
  refine va_get (D := D) (ci := 3) (v := .int (xI σ 6)) (C := RX1) (T := TX1) (N := 3) hx hb hts (in_tb inX1) hown hK hP 10 rfl rfl 2 (by decide) (hts _ (List.mem_cons_of_mem _ tw_1_73)) (fun _ h9 => h9) rfl dX1_become_36 ?_
  obtain ⟨h_6, h_7, h_8, h_9, h_10, hw⟩ := hw
  refine va_copyl (ty := .long) hx hb (hml.trans hl.1.symm) hown (hts _ (List.mem_cons_of_mem _ tw_5_70)) (hts _ (List.mem_cons_of_mem _ tw_3_2)) (hts _ (List.mem_cons_of_mem _ tw_3_1)) (hts _ (List.mem_cons_of_mem _ tw_1_24)) hK hP hD hS 12 12 1 1 rfl rfl rfl rfl rfl h_6 h_7 h_8 h_9 h_10 (fun _ _ => rfl) (by decide) (by decide +kernel) dX1_become_39 (fun H locs hP hD hS => ?_)
  have hG : xG D cA aE ad A s (yLs (yLs (yI σ 6 (xI σ 6)) 1 (va_cpy (xL σ 1) (xL σ 1) (0 : Int32).toNatClampNeg (0 : Int32).toNatClampNeg (xI σ 6).toNatClampNeg)) 2 (va_cpy (xL σ 2) (xL σ 2) (0 : Int32).toNatClampNeg (0 : Int32).toNatClampNeg (xI σ 6).toNatClampNeg)) H locs := ⟨hP, hD, hS⟩
  obtain ⟨hP, hD, hS⟩ := id hG
  exact W.vret hx hb hr (fun t ht hW => ⟨⟨(yLs (yLs (yI σ 6 (xI σ 6)) 1 (va_cpy (xL σ 1) (xL σ 1) (0 : Int32).toNatClampNeg (0 : Int32).toNatClampNeg (xI σ 6).toNatClampNeg)) 2 (va_cpy (xL σ 2) (xL σ 2) (0 : Int32).toNatClampNeg (0 : Int32).toNatClampNeg (xI σ 6).toNatClampNeg)), rfl, hw, by rw [ht]; exact hP, va_K.moved hW.alike hK, hD⟩, hS.F ht⟩) hS.2.2 dX1_become_42 hlk
set_option maxHeartbeats 4000000 in
set_option maxRecDepth 100000 in
theorem met_X1_become_told {l : Launch} {E : EnvT} (vE : EnvOk E) {D : va_G} {cA : Nat → ClassId} {aE ad : Nat → Nat} {σ : XS} {aK aV : Nat → Nat} {aO : Nat} (vM : eXs aK aV aE aO E) {sz : Nat} {post : XS → Prop} (hw : wp_X1_become_told post σ) : Met l yX1_become wgX1_become rm_X1_become_told (va_Pc [.ref (ad 10), .ref (ad 10)] (xPre E D cA aE ad sz σ)) (va_Qv post (xAt D cA aE ad (va_A (xW cA aE ad σ) sz)) (va_A (xW cA aE ad σ) sz)) 0 0 (va_A (xW cA aE ad σ) sz) := by
  refine Met.ofW (cc := cX1_become) (maxL := 2) (ret := none) (by decide +kernel) rfl ?_
  intro p e s m args below meth c s₁ B hml hv
  obtain ⟨rfl, hsz, hP, hK, hD0, hE⟩ := hv
  subst hsz
  have hD := hD0.self (sz := s.heap.size)
  generalize hAe : va_A (xW cA aE ad σ) s.heap.size = A at hD hE ⊢
  have hA : ∀ q : Nat, s.heap.size ≤ q → A q := fun q h => by rw [← hAe]; exact Or.inr h
  have hS : va_S A s.heap s.heap [] := va_S.rf
  have C : xCx p s m _ meth c cX1_become 2 none wgX1_become RX1 E D cA A := ⟨B.exec, B.bytes, hml, B.returns, findClass_of_methodNamed B.named, atoms_spec (ws := wgX1_become) B.pre, hK, hA, B.notSynchronized, hE, vE⟩
  have hG : xG D cA aE ad A s σ s.heap [] := ⟨hP, hD, hS⟩
  have hl := lv_entry ([.ref (ad 10), .ref (ad 10)]) (n := 2) (Nat.le_of_ble_eq_true rfl)
  rw [lg_entry_eq]
  generalize (lg_sl ([.ref (ad 10), .ref (ad 10)]) ++ List.replicate (2 - (lg_sl ([.ref (ad 10), .ref (ad 10)])).length) Slot.unset).toArray = ls at hl ⊢
  have hl : lv_has ls 2 [(0, .ref (ad 10)), (1, .ref (ad 10))] := hl
  exact k_X1_become_told C vM σ _ _ _ hG hl hw
/-! ===== X1_become names ===== -/
def rm_X1_become_names : Room := { frames := 1, cells := 0, slots := 0, locals := 80 }
def wp_X1_become_names (post : XS → Prop) (σ : XS) : Prop :=
  ¬ (0 : Int32) < 0 ∧ ¬ (0 : Int32) < 0 ∧ ¬ (xI σ 6) < 0 ∧ (0 : Int32).toNatClampNeg + (xI σ 6).toNatClampNeg ≤ 350 ∧ (0 : Int32).toNatClampNeg + (xI σ 6).toNatClampNeg ≤ 350 ∧ (¬ (0 : Int32) < 0 ∧ ¬ (0 : Int32) < 0 ∧ ¬ (xI σ 6) < 0 ∧ (0 : Int32).toNatClampNeg + (xI σ 6).toNatClampNeg ≤ 350 ∧ (0 : Int32).toNatClampNeg + (xI σ 6).toNatClampNeg ≤ 350 ∧ (post (yLs (yLs (yI σ 7 (xI σ 6)) 4 (va_cpy (xL σ 1) (xL σ 4) (0 : Int32).toNatClampNeg (0 : Int32).toNatClampNeg (xI σ 6).toNatClampNeg)) 5 (va_cpy (xL σ 2) (xL σ 5) (0 : Int32).toNatClampNeg (0 : Int32).toNatClampNeg (xI σ 6).toNatClampNeg))))
set_option maxHeartbeats 4000000 in
set_option maxRecDepth 100000 in
theorem k_X1_become_names {p : Program} {l : Launch} {e : Env} {s : State} {m : MethodId} {args : Array Value} {below : List Frame} {meth : Method} {c : Code} {A : Nat → Prop} {E : EnvT} {aK aV : Nat → Nat} {aO : Nat} {D : va_G} {cA : Nat → ClassId} {aE ad : Nat → Nat} (C : xCx p s m args meth c cX1_become 2 none wgX1_become RX1 E D cA A) (vM : eXs aK aV aE aO E) {post : XS → Prop} :
    ∀ (σ : XS) (H : Heap) (locs : List Loc) (ls : Array Slot), xG D cA aE ad A s σ H locs → lv_has ls 2 [(0, .ref (ad 14)), (1, .ref (ad 10))] → wp_X1_become_names post σ → W p l e rm_X1_become_names s m args below meth c H locs 0 0 (MQ below (va_Qv post (xAt D cA aE ad A) A) args s 0 0 A) (F0 m 0 ls []) := by
  obtain ⟨hx, hb, hml, hr, hown, hts, hK, hA, hlk, hE, vE⟩ := id C
  intro σ H locs ls hG hl hw
  obtain ⟨hP, hD, hS⟩ := id hG
  refine lv_aload_n hx hb dX1_become_0 rfl (lv_at hl 0 rfl) ?_
  refine lv_aload_n hx hb dX1_become_1 rfl (lv_at hl 1 rfl) ?_
  refine va_get (D := D) (ci := 3) (v := .int (xI σ 6)) (C := RX1) (T := TX1) (N := 3) hx hb hts (in_tb inX1) hown hK hP 10 rfl rfl 2 (by decide) (hts _ (List.mem_cons_of_mem _ tw_1_73)) (fun _ h9 => h9) rfl dX1_become_2 ?_
  refine va_put (D := D) (ci := 3) (v := .int (xI σ 6)) (ty := .int) (C := RX1) (T := TX1) (N := 3) hx hb hts (in_tb inX1) tyX1 tyX1_ok nmX1 hown hK hP hD hS 14 rfl rfl 2 (by decide) (hts _ (List.mem_cons_of_mem _ tw_1_73)) (fun _ h9 => h9) rfl (by decide +kernel) rfl rfl (Nat.le_of_ble_eq_true rfl) dX1_become_5 (fun H locs hP hD hS => ?_)
  have hG : xG D cA aE ad A s (yI σ 7 (xI σ 6)) H locs := ⟨hP, hD, hS⟩
  obtain ⟨hP, hD, hS⟩ := id hG
  refine lv_aload_n hx hb dX1_become_8 rfl (lv_at hl 1 rfl) ?_
  refine va_get (D := D) (ci := 3) (v := .ref (ad 11)) (C := RX1) (T := TX1) (N := 3) hx hb hts (in_tb inX1) hown hK hP 10 rfl rfl 0 (by decide) (hts _ (List.mem_cons_of_mem _ tw_1_69)) (fun _ h9 => h9) rfl dX1_become_9 ?_
  refine lv_iconst (v := 0) hx hb dX1_become_12 (by decide) ?_
  refine lv_aload_n hx hb dX1_become_13 rfl (lv_at hl 0 rfl) ?_
  refine va_get (D := D) (ci := 3) (v := .ref (ad 15)) (C := RX1) (T := TX1) (N := 3) hx hb hts (in_tb inX1) hown hK hP 14 rfl rfl 0 (by decide) (hts _ (List.mem_cons_of_mem _ tw_1_69)) (fun _ h9 => h9) rfl dX1_become_14 ?_
  refine lv_iconst (v := 0) hx hb dX1_become_17 (by decide) ?_
  refine lv_aload_n hx hb dX1_become_18 rfl (lv_at hl 0 rfl) ?_
  refine va_get (D := D) (ci := 3) (v := .int (xI σ 6)) (C := RX1) (T := TX1) (N := 3) hx hb hts (in_tb inX1) hown hK hP 14 rfl rfl 2 (by decide) (hts _ (List.mem_cons_of_mem _ tw_1_73)) (fun _ h9 => h9) rfl dX1_become_19 ?_
  obtain ⟨h_1, h_2, h_3, h_4, h_5, hw⟩ := hw
  refine va_copyl (ty := .long) hx hb (hml.trans hl.1.symm) hown (hts _ (List.mem_cons_of_mem _ tw_5_70)) (hts _ (List.mem_cons_of_mem _ tw_3_2)) (hts _ (List.mem_cons_of_mem _ tw_3_1)) (hts _ (List.mem_cons_of_mem _ tw_1_24)) hK hP hD hS 11 15 1 1 rfl rfl rfl rfl rfl h_1 h_2 h_3 h_4 h_5 (fun _ _ => rfl) (by decide) (by decide +kernel) dX1_become_22 (fun H locs hP hD hS => ?_)
  have hG : xG D cA aE ad A s (yLs (yI σ 7 (xI σ 6)) 4 (va_cpy (xL σ 1) (xL σ 4) (0 : Int32).toNatClampNeg (0 : Int32).toNatClampNeg (xI σ 6).toNatClampNeg)) H locs := ⟨hP, hD, hS⟩
  obtain ⟨hP, hD, hS⟩ := id hG
  refine lv_aload_n hx hb dX1_become_25 rfl (lv_at hl 1 rfl) ?_
  refine va_get (D := D) (ci := 3) (v := .ref (ad 12)) (C := RX1) (T := TX1) (N := 3) hx hb hts (in_tb inX1) hown hK hP 10 rfl rfl 1 (by decide) (hts _ (List.mem_cons_of_mem _ tw_1_70)) (fun _ h9 => h9) rfl dX1_become_26 ?_
  refine lv_iconst (v := 0) hx hb dX1_become_29 (by decide) ?_
  refine lv_aload_n hx hb dX1_become_30 rfl (lv_at hl 0 rfl) ?_
  refine va_get (D := D) (ci := 3) (v := .ref (ad 16)) (C := RX1) (T := TX1) (N := 3) hx hb hts (in_tb inX1) hown hK hP 14 rfl rfl 1 (by decide) (hts _ (List.mem_cons_of_mem _ tw_1_70)) (fun _ h9 => h9) rfl dX1_become_31 ?_
  refine lv_iconst (v := 0) hx hb dX1_become_34 (by decide) ?_
  refine lv_aload_n hx hb dX1_become_35 rfl (lv_at hl 0 rfl) ?_
  refine va_get (D := D) (ci := 3) (v := .int (xI σ 6)) (C := RX1) (T := TX1) (N := 3) hx hb hts (in_tb inX1) hown hK hP 14 rfl rfl 2 (by decide) (hts _ (List.mem_cons_of_mem _ tw_1_73)) (fun _ h9 => h9) rfl dX1_become_36 ?_
  obtain ⟨h_6, h_7, h_8, h_9, h_10, hw⟩ := hw
  refine va_copyl (ty := .long) hx hb (hml.trans hl.1.symm) hown (hts _ (List.mem_cons_of_mem _ tw_5_70)) (hts _ (List.mem_cons_of_mem _ tw_3_2)) (hts _ (List.mem_cons_of_mem _ tw_3_1)) (hts _ (List.mem_cons_of_mem _ tw_1_24)) hK hP hD hS 12 16 1 1 rfl rfl rfl rfl rfl h_6 h_7 h_8 h_9 h_10 (fun _ _ => rfl) (by decide) (by decide +kernel) dX1_become_39 (fun H locs hP hD hS => ?_)
  have hG : xG D cA aE ad A s (yLs (yLs (yI σ 7 (xI σ 6)) 4 (va_cpy (xL σ 1) (xL σ 4) (0 : Int32).toNatClampNeg (0 : Int32).toNatClampNeg (xI σ 6).toNatClampNeg)) 5 (va_cpy (xL σ 2) (xL σ 5) (0 : Int32).toNatClampNeg (0 : Int32).toNatClampNeg (xI σ 6).toNatClampNeg)) H locs := ⟨hP, hD, hS⟩
  obtain ⟨hP, hD, hS⟩ := id hG
  exact W.vret hx hb hr (fun t ht hW => ⟨⟨(yLs (yLs (yI σ 7 (xI σ 6)) 4 (va_cpy (xL σ 1) (xL σ 4) (0 : Int32).toNatClampNeg (0 : Int32).toNatClampNeg (xI σ 6).toNatClampNeg)) 5 (va_cpy (xL σ 2) (xL σ 5) (0 : Int32).toNatClampNeg (0 : Int32).toNatClampNeg (xI σ 6).toNatClampNeg)), rfl, hw, by rw [ht]; exact hP, va_K.moved hW.alike hK, hD⟩, hS.F ht⟩) hS.2.2 dX1_become_42 hlk
set_option maxHeartbeats 4000000 in
set_option maxRecDepth 100000 in
theorem met_X1_become_names {l : Launch} {E : EnvT} (vE : EnvOk E) {D : va_G} {cA : Nat → ClassId} {aE ad : Nat → Nat} {σ : XS} {aK aV : Nat → Nat} {aO : Nat} (vM : eXs aK aV aE aO E) {sz : Nat} {post : XS → Prop} (hw : wp_X1_become_names post σ) : Met l yX1_become wgX1_become rm_X1_become_names (va_Pc [.ref (ad 14), .ref (ad 10)] (xPre E D cA aE ad sz σ)) (va_Qv post (xAt D cA aE ad (va_A (xW cA aE ad σ) sz)) (va_A (xW cA aE ad σ) sz)) 0 0 (va_A (xW cA aE ad σ) sz) := by
  refine Met.ofW (cc := cX1_become) (maxL := 2) (ret := none) (by decide +kernel) rfl ?_
  intro p e s m args below meth c s₁ B hml hv
  obtain ⟨rfl, hsz, hP, hK, hD0, hE⟩ := hv
  subst hsz
  have hD := hD0.self (sz := s.heap.size)
  generalize hAe : va_A (xW cA aE ad σ) s.heap.size = A at hD hE ⊢
  have hA : ∀ q : Nat, s.heap.size ≤ q → A q := fun q h => by rw [← hAe]; exact Or.inr h
  have hS : va_S A s.heap s.heap [] := va_S.rf
  have C : xCx p s m _ meth c cX1_become 2 none wgX1_become RX1 E D cA A := ⟨B.exec, B.bytes, hml, B.returns, findClass_of_methodNamed B.named, atoms_spec (ws := wgX1_become) B.pre, hK, hA, B.notSynchronized, hE, vE⟩
  have hG : xG D cA aE ad A s σ s.heap [] := ⟨hP, hD, hS⟩
  have hl := lv_entry ([.ref (ad 14), .ref (ad 10)]) (n := 2) (Nat.le_of_ble_eq_true rfl)
  rw [lg_entry_eq]
  generalize (lg_sl ([.ref (ad 14), .ref (ad 10)]) ++ List.replicate (2 - (lg_sl ([.ref (ad 14), .ref (ad 10)])).length) Slot.unset).toArray = ls at hl ⊢
  have hl : lv_has ls 2 [(0, .ref (ad 14)), (1, .ref (ad 10))] := hl
  exact k_X1_become_names C vM σ _ _ _ hG hl hw
/-! ===== X0_has kernel ===== -/
def rm_X0_has : Room := { frames := 0, cells := 0, slots := 0, locals := 0 }
abbrev wgX0_has : List Cond := .code yX0_has cX0_has 2 (some .boolean) :: TB
def wB_X0_has_17 (post : Int32 → XS → Prop) (t0 : Int32) (σ : XS) : Prop :=
  isB t0 ∧ (post t0 σ)
def wB_X0_has_16 (post : Int32 → XS → Prop) (σ : XS) : Prop :=
  wB_X0_has_17 post 0 σ
def wp_X0_has (post : Int32 → XS → Prop) (x1 : Int32) (σ : XS) : Prop :=
  (x1 < 0 → (wB_X0_has_16 post σ)) ∧ (¬ x1 < 0 → (((xI σ 8) ≤ x1 → (wB_X0_has_16 post σ)) ∧ (¬ (xI σ 8) ≤ x1 → (wB_X0_has_17 post 1 σ))))
set_option maxHeartbeats 4000000 in
set_option maxRecDepth 100000 in
theorem kB_X0_has_17 {p : Program} {l : Launch} {e : Env} {s : State} {m : MethodId} {args : Array Value} {below : List Frame} {meth : Method} {c : Code} {A : Nat → Prop} {E : EnvT} {aK aV : Nat → Nat} {aO : Nat} {D : va_G} {cA : Nat → ClassId} {aE ad : Nat → Nat} (C : xCx p s m args meth c cX0_has 2 (some .boolean) wgX0_has RX0 E D cA A) (vM : eXs aK aV aE aO E) {post : Int32 → XS → Prop} :
    ∀ (t0 : Int32) (σ : XS) (H : Heap) (locs : List Loc) (ls : Array Slot), xG D cA aE ad A s σ H locs → lv_has ls 2 [] → wB_X0_has_17 post t0 σ → W p l e rm_X0_has s m args below meth c H locs 0 0 (MQ below (va_Qi post (xAt D cA aE ad A) A) args s 0 0 A) (F0 m 17 ls [.int t0]) := by
  obtain ⟨hx, hb, hml, hr, hown, hts, hK, hA, hlk, hE, vE⟩ := id C
  intro t0 σ H locs ls hG hl hw
  obtain ⟨hP, hD, hS⟩ := id hG
  obtain ⟨h_1, hw⟩ := hw
  exact W.zret (v := t0) (ty := .boolean) hx hb hr (isB.n h_1) (fun t ht hW => ⟨⟨_, σ, rfl, hw, by rw [ht]; exact hP, va_K.moved hW.alike hK, hD⟩, hS.F ht⟩) hS.2.2 dX0_has_17 hlk
set_option maxHeartbeats 4000000 in
set_option maxRecDepth 100000 in
theorem kB_X0_has_16 {p : Program} {l : Launch} {e : Env} {s : State} {m : MethodId} {args : Array Value} {below : List Frame} {meth : Method} {c : Code} {A : Nat → Prop} {E : EnvT} {aK aV : Nat → Nat} {aO : Nat} {D : va_G} {cA : Nat → ClassId} {aE ad : Nat → Nat} (C : xCx p s m args meth c cX0_has 2 (some .boolean) wgX0_has RX0 E D cA A) (vM : eXs aK aV aE aO E) {post : Int32 → XS → Prop} :
    ∀ (σ : XS) (H : Heap) (locs : List Loc) (ls : Array Slot), xG D cA aE ad A s σ H locs → lv_has ls 2 [] → wB_X0_has_16 post σ → W p l e rm_X0_has s m args below meth c H locs 0 0 (MQ below (va_Qi post (xAt D cA aE ad A) A) args s 0 0 A) (F0 m 16 ls []) := by
  obtain ⟨hx, hb, hml, hr, hown, hts, hK, hA, hlk, hE, vE⟩ := id C
  intro σ H locs ls hG hl hw
  obtain ⟨hP, hD, hS⟩ := id hG
  refine lv_iconst (v := 0) hx hb dX0_has_16 (by decide) ?_
  exact kB_X0_has_17 C vM 0 σ _ _ _ hG (lv_sub hl [] rfl) hw
set_option maxHeartbeats 4000000 in
set_option maxRecDepth 100000 in
theorem k_X0_has {p : Program} {l : Launch} {e : Env} {s : State} {m : MethodId} {args : Array Value} {below : List Frame} {meth : Method} {c : Code} {A : Nat → Prop} {E : EnvT} {aK aV : Nat → Nat} {aO : Nat} {D : va_G} {cA : Nat → ClassId} {aE ad : Nat → Nat} (C : xCx p s m args meth c cX0_has 2 (some .boolean) wgX0_has RX0 E D cA A) (vM : eXs aK aV aE aO E) {post : Int32 → XS → Prop} :
    ∀ (x1 : Int32) (σ : XS) (H : Heap) (locs : List Loc) (ls : Array Slot), xG D cA aE ad A s σ H locs → lv_has ls 2 [(0, .ref (ad 17)), (1, .int x1)] → wp_X0_has post x1 σ → W p l e rm_X0_has s m args below meth c H locs 0 0 (MQ below (va_Qi post (xAt D cA aE ad A) A) args s 0 0 A) (F0 m 0 ls []) := by
  obtain ⟨hx, hb, hml, hr, hown, hts, hK, hA, hlk, hE, vE⟩ := id C
  intro x1 σ H locs ls hG hl hw
  obtain ⟨hP, hD, hS⟩ := id hG
  refine lv_iload_n hx hb dX0_has_0 rfl (lv_at hl 1 rfl) ?_
  refine lv_if_lt (tgt := 16) hx hb dX0_has_1 (by decide) (fun q_ => ?_) (fun q_ => ?_)
  · have hw := hw.1 q_
    exact kB_X0_has_16 C vM  σ _ _ _ hG (lv_sub hl [] rfl) hw
  · have hw := hw.2 q_
    refine lv_iload_n hx hb dX0_has_4 rfl (lv_at hl 1 rfl) ?_
    refine lv_aload_n hx hb dX0_has_5 rfl (lv_at hl 0 rfl) ?_
    refine va_get (D := D) (ci := 2) (v := .int (xI σ 8)) (C := RX0) (T := TX0) (N := 5) hx hb hts (in_tb inX0) hown hK hP 17 rfl rfl 4 (by decide) (hts _ (List.mem_cons_of_mem _ tw_1_157)) (fun _ h9 => h9) rfl dX0_has_6 ?_
    refine lv_icmp_ge (tgt := 16) hx hb dX0_has_9 (by decide) (fun q_ => ?_) (fun q_ => ?_)
    · have hw := hw.1 q_
      exact kB_X0_has_16 C vM  σ _ _ _ hG (lv_sub hl [] rfl) hw
    · have hw := hw.2 q_
      refine lv_iconst (v := 1) hx hb dX0_has_12 (by decide) ?_
      refine lv_goto (tgt := 17) hx hb dX0_has_13 (by decide) ?_
      exact kB_X0_has_17 C vM 1 σ _ _ _ hG (lv_sub hl [] rfl) hw
set_option maxHeartbeats 4000000 in
set_option maxRecDepth 100000 in
theorem met_X0_has {l : Launch} {E : EnvT} (vE : EnvOk E) {D : va_G} {cA : Nat → ClassId} {aE ad : Nat → Nat} {σ : XS} {aK aV : Nat → Nat} {aO : Nat} (vM : eXs aK aV aE aO E) {sz : Nat} {x1 : Int32} {post : Int32 → XS → Prop} (hw : wp_X0_has post x1 σ) : Met l yX0_has wgX0_has rm_X0_has (va_Pc [.ref (ad 17), .int x1] (xPre E D cA aE ad sz σ)) (va_Qi post (xAt D cA aE ad (va_A (xW cA aE ad σ) sz)) (va_A (xW cA aE ad σ) sz)) 0 0 (va_A (xW cA aE ad σ) sz) := by
  refine Met.ofW (cc := cX0_has) (maxL := 2) (ret := (some .boolean)) (by decide +kernel) rfl ?_
  intro p e s m args below meth c s₁ B hml hv
  obtain ⟨rfl, hsz, hP, hK, hD0, hE⟩ := hv
  subst hsz
  have hD := hD0.self (sz := s.heap.size)
  generalize hAe : va_A (xW cA aE ad σ) s.heap.size = A at hD hE ⊢
  have hA : ∀ q : Nat, s.heap.size ≤ q → A q := fun q h => by rw [← hAe]; exact Or.inr h
  have hS : va_S A s.heap s.heap [] := va_S.rf
  have C : xCx p s m _ meth c cX0_has 2 (some .boolean) wgX0_has RX0 E D cA A := ⟨B.exec, B.bytes, hml, B.returns, findClass_of_methodNamed B.named, atoms_spec (ws := wgX0_has) B.pre, hK, hA, B.notSynchronized, hE, vE⟩
  have hG : xG D cA aE ad A s σ s.heap [] := ⟨hP, hD, hS⟩
  have hl := lv_entry ([.ref (ad 17), .int x1]) (n := 2) (Nat.le_of_ble_eq_true rfl)
  rw [lg_entry_eq]
  generalize (lg_sl ([.ref (ad 17), .int x1]) ++ List.replicate (2 - (lg_sl ([.ref (ad 17), .int x1])).length) Slot.unset).toArray = ls at hl ⊢
  have hl : lv_has ls 2 [(0, .ref (ad 17)), (1, .int x1)] := hl
  exact k_X0_has C vM x1 σ _ _ _ hG hl hw
/-! ===== X0_bitOf kernel ===== -/
def rm_X0_bitOf : Room := { frames := 1, cells := 0, slots := 0, locals := 21 }
abbrev wgX0_bitOf : List Cond := .code yX0_bitOf cX0_bitOf 2 (some .long) :: TB
def wB_X0_bitOf_15 (post : Int64 → XS → Prop) (t0 : Int64) (σ : XS) : Prop :=
  post t0 σ
def wp_X0_bitOf (post : Int64 → XS → Prop) (x1 : Int32) (σ : XS) : Prop :=
  wp_X0_has (fun r_1 σ_2 => (r_1 = 0 → (wB_X0_bitOf_15 post 0 σ_2)) ∧ (¬ r_1 = 0 → (wB_X0_bitOf_15 post ((1 : Int64) <<< (x1.toInt64 &&& 63)) σ_2))) x1 σ
set_option maxHeartbeats 4000000 in
set_option maxRecDepth 100000 in
theorem kB_X0_bitOf_15 {p : Program} {l : Launch} {e : Env} {s : State} {m : MethodId} {args : Array Value} {below : List Frame} {meth : Method} {c : Code} {A : Nat → Prop} {E : EnvT} {aK aV : Nat → Nat} {aO : Nat} {D : va_G} {cA : Nat → ClassId} {aE ad : Nat → Nat} (C : xCx p s m args meth c cX0_bitOf 2 (some .long) wgX0_bitOf RX0 E D cA A) (vM : eXs aK aV aE aO E) {post : Int64 → XS → Prop} :
    ∀ (t0 : Int64) (σ : XS) (H : Heap) (locs : List Loc) (ls : Array Slot), xG D cA aE ad A s σ H locs → lv_has ls 2 [] → wB_X0_bitOf_15 post t0 σ → W p l e rm_X0_bitOf s m args below meth c H locs 0 0 (MQ below (va_Ql post (xAt D cA aE ad A) A) args s 0 0 A) (F0 m 15 ls [.long t0]) := by
  obtain ⟨hx, hb, hml, hr, hown, hts, hK, hA, hlk, hE, vE⟩ := id C
  intro t0 σ H locs ls hG hl hw
  obtain ⟨hP, hD, hS⟩ := id hG
  exact W.lret (v := t0) hx hb hr (fun t ht hW => ⟨⟨_, σ, rfl, hw, by rw [ht]; exact hP, va_K.moved hW.alike hK, hD⟩, hS.F ht⟩) hS.2.2 dX0_bitOf_15 hlk
set_option maxHeartbeats 4000000 in
set_option maxRecDepth 100000 in
theorem k_X0_bitOf {p : Program} {l : Launch} {e : Env} {s : State} {m : MethodId} {args : Array Value} {below : List Frame} {meth : Method} {c : Code} {A : Nat → Prop} {E : EnvT} {aK aV : Nat → Nat} {aO : Nat} {D : va_G} {cA : Nat → ClassId} {aE ad : Nat → Nat} (C : xCx p s m args meth c cX0_bitOf 2 (some .long) wgX0_bitOf RX0 E D cA A) (vM : eXs aK aV aE aO E) {post : Int64 → XS → Prop} :
    ∀ (x1 : Int32) (σ : XS) (H : Heap) (locs : List Loc) (ls : Array Slot), xG D cA aE ad A s σ H locs → lv_has ls 2 [(0, .ref (ad 17)), (1, .int x1)] → wp_X0_bitOf post x1 σ → W p l e rm_X0_bitOf s m args below meth c H locs 0 0 (MQ below (va_Ql post (xAt D cA aE ad A) A) args s 0 0 A) (F0 m 0 ls []) := by
  obtain ⟨hx, hb, hml, hr, hown, hts, hK, hA, hlk, hE, vE⟩ := id C
  intro x1 σ H locs ls hG hl hw
  obtain ⟨hP, hD, hS⟩ := id hG
  refine lv_aload_n hx hb dX0_bitOf_0 rfl (lv_at hl 0 rfl) ?_
  refine lv_iload_n hx hb dX0_bitOf_1 rfl (lv_at hl 1 rfl) ?_
  refine xV_i (As := [.int x1]) (rest := []) C (met_X0_has vE vM hw) (va_recv hK hP (ci := 2) (q0 := 17) rfl rfl) (cwV 1 hts (TB_G (TB_4 tw_4_80 tw_2_198 tw_2_199 tw_1_6) tw_2_200) rfl rfl rfl (by decide +kernel) ⟨by decide, by decide⟩) hP hD hS rfl hl.1 rfl (Nat.le_of_ble_eq_true rfl) dX0_bitOf_2 ⟨by decide, by decide⟩ (fun r_1 σ_2 H locs hw hP hD hS => ?_)
  have hG : xG D cA aE ad A s σ_2 H locs := ⟨hP, hD, hS⟩
  refine lv_if_eq (tgt := 14) hx hb dX0_bitOf_5 (by decide) (fun q_ => ?_) (fun q_ => ?_)
  · have hw := hw.1 q_
    refine lv_lconst (v := 0) hx hb dX0_bitOf_14 (by decide) ?_
    exact kB_X0_bitOf_15 C vM 0 σ_2 _ _ _ hG (lv_sub hl [] rfl) hw
  · have hw := hw.2 q_
    refine lv_lconst (v := 1) hx hb dX0_bitOf_8 (by decide) ?_
    refine lv_iload_n hx hb dX0_bitOf_9 rfl (lv_at hl 1 rfl) ?_
    refine lv_lshl hx hb dX0_bitOf_10 rfl ?_
    refine lv_goto (tgt := 15) hx hb dX0_bitOf_11 (by decide) ?_
    exact kB_X0_bitOf_15 C vM ((1 : Int64) <<< (x1.toInt64 &&& 63)) σ_2 _ _ _ hG (lv_sub hl [] rfl) hw
set_option maxHeartbeats 4000000 in
set_option maxRecDepth 100000 in
theorem met_X0_bitOf {l : Launch} {E : EnvT} (vE : EnvOk E) {D : va_G} {cA : Nat → ClassId} {aE ad : Nat → Nat} {σ : XS} {aK aV : Nat → Nat} {aO : Nat} (vM : eXs aK aV aE aO E) {sz : Nat} {x1 : Int32} {post : Int64 → XS → Prop} (hw : wp_X0_bitOf post x1 σ) : Met l yX0_bitOf wgX0_bitOf rm_X0_bitOf (va_Pc [.ref (ad 17), .int x1] (xPre E D cA aE ad sz σ)) (va_Ql post (xAt D cA aE ad (va_A (xW cA aE ad σ) sz)) (va_A (xW cA aE ad σ) sz)) 0 0 (va_A (xW cA aE ad σ) sz) := by
  refine Met.ofW (cc := cX0_bitOf) (maxL := 2) (ret := (some .long)) (by decide +kernel) rfl ?_
  intro p e s m args below meth c s₁ B hml hv
  obtain ⟨rfl, hsz, hP, hK, hD0, hE⟩ := hv
  subst hsz
  have hD := hD0.self (sz := s.heap.size)
  generalize hAe : va_A (xW cA aE ad σ) s.heap.size = A at hD hE ⊢
  have hA : ∀ q : Nat, s.heap.size ≤ q → A q := fun q h => by rw [← hAe]; exact Or.inr h
  have hS : va_S A s.heap s.heap [] := va_S.rf
  have C : xCx p s m _ meth c cX0_bitOf 2 (some .long) wgX0_bitOf RX0 E D cA A := ⟨B.exec, B.bytes, hml, B.returns, findClass_of_methodNamed B.named, atoms_spec (ws := wgX0_bitOf) B.pre, hK, hA, B.notSynchronized, hE, vE⟩
  have hG : xG D cA aE ad A s σ s.heap [] := ⟨hP, hD, hS⟩
  have hl := lv_entry ([.ref (ad 17), .int x1]) (n := 2) (Nat.le_of_ble_eq_true rfl)
  rw [lg_entry_eq]
  generalize (lg_sl ([.ref (ad 17), .int x1]) ++ List.replicate (2 - (lg_sl ([.ref (ad 17), .int x1])).length) Slot.unset).toArray = ls at hl ⊢
  have hl : lv_has ls 2 [(0, .ref (ad 17)), (1, .int x1)] := hl
  exact k_X0_bitOf C vM x1 σ _ _ _ hG hl hw
/-! ===== X0_put kernel ===== -/
def rm_X0_put : Room := { frames := 6, cells := 0, slots := 0, locals := 136 }
abbrev wgX0_put : List Cond := .code yX0_put cX0_put 5 none :: TB
def wB_X0_put_18 (post : XS → Prop) (σ : XS) : Prop :=
  post σ
def wB_X0_put_88 (post : XS → Prop) (x1 : Int32) (t0 : Int32) (t1 : Int32) (σ : XS) : Prop :=
  vp_in t1 64 ∧ (wp_J9_max_7cf53 (fun r_9  => post (yI (yA σ 5 t1.toNatClampNeg t0) 8 r_9)) (xI σ 8) (x1 + 1))
def wB_X0_put_78 (post : XS → Prop) (x1 : Int32) (t0 : Int32) (σ : XS) : Prop :=
  wB_X0_put_88 post x1 0 t0 σ
def wB_X0_put_60 (post : XS → Prop) (x1 : Int32) (x2 : Int64) (o4 : Option Nat) (t0 : Int32) (t1 : Int32) (σ : XS) : Prop :=
  (o4 = none → (vp_in t1 64 ∧ (wB_X0_put_78 post x1 x1 (yA σ 4 t1.toNatClampNeg t0)))) ∧ (∀ e_6 : Nat, o4 = some e_6 → (vp_in t1 64 ∧ (wp_X2_isGuarded (fun r_12  => (r_12 = 0 → (e_6 < 53 ∧ wp_X2_writesOf (fun r_14  => wB_X0_put_88 post x1 r_14 x1 (yA σ 4 t1.toNatClampNeg t0)) e_6 x2)) ∧ (¬ r_12 = 0 → (wB_X0_put_78 post x1 x1 (yA σ 4 t1.toNatClampNeg t0)))) x2)))
def wp_X0_put (post : XS → Prop) (x1 : Int32) (x2 : Int64) (σ : XS) : Prop :=
  (x1 < 0 → (wB_X0_put_18 post σ)) ∧ (¬ x1 < 0 → (((xI σ 8) < x1 → (wB_X0_put_18 post σ)) ∧ (¬ (xI σ 8) < x1 → ((x1 < 64 → (wp_X2_of (fun r_1  => (r_1 = none → (vp_in x1 64 ∧ (vp_in x1 64 ∧ (wB_X0_put_60 post x1 x2 none 0 x1 (yQ (yL σ 6 x1.toNatClampNeg x2) 1 x1.toNatClampNeg none))))) ∧ (∀ e_3 : Nat, r_1 = some e_3 → (vp_in x1 64 ∧ (e_3 < 53 ∧ vp_in x1 64 ∧ (e_3 < 53 ∧ wp_X2_readsOf (fun r_19  => wB_X0_put_60 post x1 x2 (some e_3) r_19 x1 (yQ (yL σ 6 x1.toNatClampNeg x2) 1 x1.toNatClampNeg (some e_3))) e_3 x2))))) x2)) ∧ (¬ x1 < 64 → (wB_X0_put_18 post σ))))))
set_option maxHeartbeats 4000000 in
set_option maxRecDepth 100000 in
theorem kB_X0_put_18 {p : Program} {l : Launch} {e : Env} {s : State} {m : MethodId} {args : Array Value} {below : List Frame} {meth : Method} {c : Code} {A : Nat → Prop} {E : EnvT} {aK aV : Nat → Nat} {aO : Nat} {D : va_G} {cA : Nat → ClassId} {aE ad : Nat → Nat} (C : xCx p s m args meth c cX0_put 5 none wgX0_put RX0 E D cA A) (vM : eXs aK aV aE aO E) {post : XS → Prop} :
    ∀ (σ : XS) (H : Heap) (locs : List Loc) (ls : Array Slot), xG D cA aE ad A s σ H locs → lv_has ls 5 [] → wB_X0_put_18 post σ → W p l e rm_X0_put s m args below meth c H locs 0 0 (MQ below (va_Qv post (xAt D cA aE ad A) A) args s 0 0 A) (F0 m 18 ls []) := by
  obtain ⟨hx, hb, hml, hr, hown, hts, hK, hA, hlk, hE, vE⟩ := id C
  intro σ H locs ls hG hl hw
  obtain ⟨hP, hD, hS⟩ := id hG
  exact W.vret hx hb hr (fun t ht hW => ⟨⟨σ, rfl, hw, by rw [ht]; exact hP, va_K.moved hW.alike hK, hD⟩, hS.F ht⟩) hS.2.2 dX0_put_18 hlk
set_option maxHeartbeats 4000000 in
set_option maxRecDepth 100000 in
theorem kB_X0_put_88 {p : Program} {l : Launch} {e : Env} {s : State} {m : MethodId} {args : Array Value} {below : List Frame} {meth : Method} {c : Code} {A : Nat → Prop} {E : EnvT} {aK aV : Nat → Nat} {aO : Nat} {D : va_G} {cA : Nat → ClassId} {aE ad : Nat → Nat} (C : xCx p s m args meth c cX0_put 5 none wgX0_put RX0 E D cA A) (vM : eXs aK aV aE aO E) {post : XS → Prop} :
    ∀ (x1 : Int32) (t0 : Int32) (t1 : Int32) (σ : XS) (H : Heap) (locs : List Loc) (ls : Array Slot), xG D cA aE ad A s σ H locs → lv_has ls 5 [(0, .ref (ad 17)), (1, .int x1)] → wB_X0_put_88 post x1 t0 t1 σ → W p l e rm_X0_put s m args below meth c H locs 0 0 (MQ below (va_Qv post (xAt D cA aE ad A) A) args s 0 0 A) (F0 m 88 ls [.int t0, .int t1, .ref (ad 21)]) := by
  obtain ⟨hx, hb, hml, hr, hown, hts, hK, hA, hlk, hE, vE⟩ := id C
  intro x1 t0 t1 σ H locs ls hG hl hw
  obtain ⟨hP, hD, hS⟩ := id hG
  obtain ⟨h_8, hw⟩ := hw
  refine va_iast hx hb hK hP hD hS 21 0 rfl rfl h_8 dX0_put_88 (fun H locs hP hD hS => ?_)
  have hG : xG D cA aE ad A s (yA σ 5 t1.toNatClampNeg t0) H locs := ⟨hP, hD, hS⟩
  obtain ⟨hP, hD, hS⟩ := id hG
  refine lv_aload_n hx hb dX0_put_89 rfl (lv_at hl 0 rfl) ?_
  refine lv_aload_n hx hb dX0_put_90 rfl (lv_at hl 0 rfl) ?_
  refine va_get (D := D) (ci := 2) (v := .int (xI σ 8)) (C := RX0) (T := TX0) (N := 5) hx hb hts (in_tb inX0) hown hK hP 17 rfl rfl 4 (by decide) (hts _ (List.mem_cons_of_mem _ tw_1_157)) (fun _ h9 => h9) rfl dX0_put_91 ?_
  refine lv_iload_n hx hb dX0_put_94 rfl (lv_at hl 1 rfl) ?_
  refine lv_iconst (v := 1) hx hb dX0_put_95 (by decide) ?_
  refine lv_iadd hx hb dX0_put_96 ?_
  refine xS_i (As := [.int (xI σ 8), .int (x1 + 1)]) (rest := [.ref (ad 17)]) C (met_J9_max_7cf53 vE vM hw) (va_cwS 2 hts (TB_G (TB_3 tw_2_192 tw_2_149 tw_1_15) tw_2_150) rfl rfl rfl (by decide +kernel) ⟨by decide, by decide⟩) hP hD hS rfl hl.1 rfl (Nat.le_of_ble_eq_true rfl) dX0_put_97 ⟨by decide, by decide⟩ (fun r_9 H locs hw hP hS => ?_)
  have hG : xG D cA aE ad A s (yA σ 5 t1.toNatClampNeg t0) H locs := ⟨hP, hD, hS⟩
  refine va_put (D := D) (ci := 2) (v := .int r_9) (ty := .int) (C := RX0) (T := TX0) (N := 5) hx hb hts (in_tb inX0) tyX0 tyX0_ok nmX0 hown hK hP hD hS 17 rfl rfl 4 (by decide) (hts _ (List.mem_cons_of_mem _ tw_1_157)) (fun _ h9 => h9) rfl (by decide +kernel) rfl rfl (Nat.le_of_ble_eq_true rfl) dX0_put_100 (fun H locs hP hD hS => ?_)
  have hG : xG D cA aE ad A s (yI (yA σ 5 t1.toNatClampNeg t0) 8 r_9) H locs := ⟨hP, hD, hS⟩
  obtain ⟨hP, hD, hS⟩ := id hG
  exact W.vret hx hb hr (fun t ht hW => ⟨⟨(yI (yA σ 5 t1.toNatClampNeg t0) 8 r_9), rfl, hw, by rw [ht]; exact hP, va_K.moved hW.alike hK, hD⟩, hS.F ht⟩) hS.2.2 dX0_put_103 hlk
set_option maxHeartbeats 4000000 in
set_option maxRecDepth 100000 in
theorem kB_X0_put_78 {p : Program} {l : Launch} {e : Env} {s : State} {m : MethodId} {args : Array Value} {below : List Frame} {meth : Method} {c : Code} {A : Nat → Prop} {E : EnvT} {aK aV : Nat → Nat} {aO : Nat} {D : va_G} {cA : Nat → ClassId} {aE ad : Nat → Nat} (C : xCx p s m args meth c cX0_put 5 none wgX0_put RX0 E D cA A) (vM : eXs aK aV aE aO E) {post : XS → Prop} :
    ∀ (x1 : Int32) (t0 : Int32) (σ : XS) (H : Heap) (locs : List Loc) (ls : Array Slot), xG D cA aE ad A s σ H locs → lv_has ls 5 [(0, .ref (ad 17)), (1, .int x1)] → wB_X0_put_78 post x1 t0 σ → W p l e rm_X0_put s m args below meth c H locs 0 0 (MQ below (va_Qv post (xAt D cA aE ad A) A) args s 0 0 A) (F0 m 78 ls [.int t0, .ref (ad 21)]) := by
  obtain ⟨hx, hb, hml, hr, hown, hts, hK, hA, hlk, hE, vE⟩ := id C
  intro x1 t0 σ H locs ls hG hl hw
  obtain ⟨hP, hD, hS⟩ := id hG
  refine lv_iconst (v := 0) hx hb dX0_put_78 (by decide) ?_
  refine lv_goto (tgt := 88) hx hb dX0_put_79 (by decide) ?_
  exact kB_X0_put_88 C vM x1 0 t0 σ _ _ _ hG (lv_sub hl [0, 1] rfl) hw
set_option maxHeartbeats 4000000 in
set_option maxRecDepth 100000 in
theorem kB_X0_put_60 {p : Program} {l : Launch} {e : Env} {s : State} {m : MethodId} {args : Array Value} {below : List Frame} {meth : Method} {c : Code} {A : Nat → Prop} {E : EnvT} {aK aV : Nat → Nat} {aO : Nat} {D : va_G} {cA : Nat → ClassId} {aE ad : Nat → Nat} (C : xCx p s m args meth c cX0_put 5 none wgX0_put RX0 E D cA A) (vM : eXs aK aV aE aO E) {post : XS → Prop} :
    ∀ (x1 : Int32) (x2 : Int64) (o4 : Option Nat) (t0 : Int32) (t1 : Int32) (σ : XS) (H : Heap) (locs : List Loc) (ls : Array Slot), xG D cA aE ad A s σ H locs → lv_has ls 5 [(0, .ref (ad 17)), (1, .int x1), (2, .long x2), (4, va_re aE o4)] → wB_X0_put_60 post x1 x2 o4 t0 t1 σ → W p l e rm_X0_put s m args below meth c H locs 0 0 (MQ below (va_Qv post (xAt D cA aE ad A) A) args s 0 0 A) (F0 m 60 ls [.int t0, .int t1, .ref (ad 20)]) := by
  obtain ⟨hx, hb, hml, hr, hown, hts, hK, hA, hlk, hE, vE⟩ := id C
  intro x1 x2 o4 t0 t1 σ H locs ls hG hl hw
  obtain ⟨hP, hD, hS⟩ := id hG
  rcases o4 with _ | e_6
  · have hw := hw.1 rfl
    have hl : lv_has ls 5 [(0, .ref (ad 17)), (1, .int x1), (2, .long x2), (4, .null)] := hl
    show W p l e rm_X0_put s m args below meth c _ _ 0 0 (MQ below (va_Qv post (xAt D cA aE ad A) A) args s 0 0 A) (F0 m 60 ls [.int t0, .int t1, .ref (ad 20)])
    obtain ⟨h_7, hw⟩ := hw
    refine va_iast hx hb hK hP hD hS 20 0 rfl rfl h_7 dX0_put_60 (fun H locs hP hD hS => ?_)
    have hG : xG D cA aE ad A s (yA σ 4 t1.toNatClampNeg t0) H locs := ⟨hP, hD, hS⟩
    obtain ⟨hP, hD, hS⟩ := id hG
    refine lv_aload_n hx hb dX0_put_61 rfl (lv_at hl 0 rfl) ?_
    refine va_get (D := D) (ci := 2) (v := .ref (ad 21)) (C := RX0) (T := TX0) (N := 5) hx hb hts (in_tb inX0) hown hK hP 17 rfl rfl 3 (by decide) (hts _ (List.mem_cons_of_mem _ tw_1_156)) (fun _ h9 => h9) rfl dX0_put_62 ?_
    refine lv_iload_n hx hb dX0_put_65 rfl (lv_at hl 1 rfl) ?_
    refine lv_aloadN hx hb dX0_put_66 (lv_at hl 3 rfl) ?_
    refine lv_ifnullN (tgt := 78) hx hb dX0_put_68 (by decide) ?_
    exact kB_X0_put_78 C vM x1 x1 (yA σ 4 t1.toNatClampNeg t0) _ _ _ hG (lv_sub hl [0, 1] rfl) hw
  · have hw := hw.2 e_6 rfl
    have hl : lv_has ls 5 [(0, .ref (ad 17)), (1, .int x1), (2, .long x2), (4, .ref (aE e_6))] := hl
    show W p l e rm_X0_put s m args below meth c _ _ 0 0 (MQ below (va_Qv post (xAt D cA aE ad A) A) args s 0 0 A) (F0 m 60 ls [.int t0, .int t1, .ref (ad 20)])
    obtain ⟨h_11, hw⟩ := hw
    refine va_iast hx hb hK hP hD hS 20 0 rfl rfl h_11 dX0_put_60 (fun H locs hP hD hS => ?_)
    have hG : xG D cA aE ad A s (yA σ 4 t1.toNatClampNeg t0) H locs := ⟨hP, hD, hS⟩
    obtain ⟨hP, hD, hS⟩ := id hG
    refine lv_aload_n hx hb dX0_put_61 rfl (lv_at hl 0 rfl) ?_
    refine va_get (D := D) (ci := 2) (v := .ref (ad 21)) (C := RX0) (T := TX0) (N := 5) hx hb hts (in_tb inX0) hown hK hP 17 rfl rfl 3 (by decide) (hts _ (List.mem_cons_of_mem _ tw_1_156)) (fun _ h9 => h9) rfl dX0_put_62 ?_
    refine lv_iload_n hx hb dX0_put_65 rfl (lv_at hl 1 rfl) ?_
    refine lv_aload hx hb dX0_put_66 (lv_at hl 3 rfl) ?_
    refine lv_ifnull hx hb dX0_put_68 ?_
    refine lv_lload_n hx hb dX0_put_71 rfl (lv_at hl 2 rfl) ?_
    refine xS_i (As := [.long x2]) (rest := [.int x1, .ref (ad 21)]) C (met_X2_isGuarded vE vM hw) (va_cwS 1 hts (TB_G (TB_3 tw_2_128 tw_2_121 tw_1_19) tw_2_122) rfl rfl rfl (by decide +kernel) ⟨by decide, by decide⟩) hP hD hS rfl hl.1 rfl (Nat.le_of_ble_eq_true rfl) dX0_put_72 ⟨by decide, by decide⟩ (fun r_12 H locs hw hP hS => ?_)
    have hG : xG D cA aE ad A s (yA σ 4 t1.toNatClampNeg t0) H locs := ⟨hP, hD, hS⟩
    refine lv_if_eq (tgt := 82) hx hb dX0_put_75 (by decide) (fun q_ => ?_) (fun q_ => ?_)
    · have hw := hw.1 q_
      refine lv_aload hx hb dX0_put_82 (lv_at hl 3 rfl) ?_
      refine lv_lload_n hx hb dX0_put_84 rfl (lv_at hl 2 rfl) ?_
      obtain ⟨h_16, hw⟩ := hw
      refine xO_i (As := [.long x2]) (rest := [.int x1, .ref (ad 21)]) C (met_X2_writesOf vE vM hw) (va_Orecv (eX.o_obj (vM _ _ _ hE) h_16) hS) (cwV 1 hts (TB_G (TB_4 tw_2_129 tw_2_130 tw_2_131 tw_1_19) tw_2_132) rfl rfl rfl (by decide +kernel) ⟨by decide, by decide⟩) hP hD hS rfl hl.1 rfl (Nat.le_of_ble_eq_true rfl) dX0_put_85 ⟨by decide, by decide⟩ (fun r_14 H locs hw hP hS => ?_)
      have hG : xG D cA aE ad A s (yA σ 4 t1.toNatClampNeg t0) H locs := ⟨hP, hD, hS⟩
      exact kB_X0_put_88 C vM x1 r_14 x1 (yA σ 4 t1.toNatClampNeg t0) _ _ _ hG (lv_sub hl [0, 1] rfl) hw
    · have hw := hw.2 q_
      exact kB_X0_put_78 C vM x1 x1 (yA σ 4 t1.toNatClampNeg t0) _ _ _ hG (lv_sub hl [0, 1] rfl) hw
set_option maxHeartbeats 4000000 in
set_option maxRecDepth 100000 in
theorem k_X0_put {p : Program} {l : Launch} {e : Env} {s : State} {m : MethodId} {args : Array Value} {below : List Frame} {meth : Method} {c : Code} {A : Nat → Prop} {E : EnvT} {aK aV : Nat → Nat} {aO : Nat} {D : va_G} {cA : Nat → ClassId} {aE ad : Nat → Nat} (C : xCx p s m args meth c cX0_put 5 none wgX0_put RX0 E D cA A) (vM : eXs aK aV aE aO E) {post : XS → Prop} :
    ∀ (x1 : Int32) (x2 : Int64) (σ : XS) (H : Heap) (locs : List Loc) (ls : Array Slot), xG D cA aE ad A s σ H locs → lv_has ls 5 [(0, .ref (ad 17)), (1, .int x1), (2, .long x2)] → wp_X0_put post x1 x2 σ → W p l e rm_X0_put s m args below meth c H locs 0 0 (MQ below (va_Qv post (xAt D cA aE ad A) A) args s 0 0 A) (F0 m 0 ls []) := by
  obtain ⟨hx, hb, hml, hr, hown, hts, hK, hA, hlk, hE, vE⟩ := id C
  intro x1 x2 σ H locs ls hG hl hw
  obtain ⟨hP, hD, hS⟩ := id hG
  refine lv_iload_n hx hb dX0_put_0 rfl (lv_at hl 1 rfl) ?_
  refine lv_if_lt (tgt := 18) hx hb dX0_put_1 (by decide) (fun q_ => ?_) (fun q_ => ?_)
  · have hw := hw.1 q_
    exact kB_X0_put_18 C vM  σ _ _ _ hG (lv_sub hl [] rfl) hw
  · have hw := hw.2 q_
    refine lv_iload_n hx hb dX0_put_4 rfl (lv_at hl 1 rfl) ?_
    refine lv_aload_n hx hb dX0_put_5 rfl (lv_at hl 0 rfl) ?_
    refine va_get (D := D) (ci := 2) (v := .int (xI σ 8)) (C := RX0) (T := TX0) (N := 5) hx hb hts (in_tb inX0) hown hK hP 17 rfl rfl 4 (by decide) (hts _ (List.mem_cons_of_mem _ tw_1_157)) (fun _ h9 => h9) rfl dX0_put_6 ?_
    refine lv_icmp_gt (tgt := 18) hx hb dX0_put_9 (by decide) (fun q_ => ?_) (fun q_ => ?_)
    · have hw := hw.1 q_
      exact kB_X0_put_18 C vM  σ _ _ _ hG (lv_sub hl [] rfl) hw
    · have hw := hw.2 q_
      refine lv_iload_n hx hb dX0_put_12 rfl (lv_at hl 1 rfl) ?_
      refine lv_bipush (v := 64) hx hb dX0_put_13 (by decide) ?_
      refine lv_icmp_lt (tgt := 19) hx hb dX0_put_15 (by decide) (fun q_ => ?_) (fun q_ => ?_)
      · have hw := hw.1 q_
        refine lv_lload_n hx hb dX0_put_19 rfl (lv_at hl 2 rfl) ?_
        refine xS_e (As := [.long x2]) (rest := []) C (met_X2_of vE vM hw) (va_cwS 1 hts (TB_G (TB_3 tw_2_27 tw_2_28 tw_1_19) tw_2_29) rfl rfl rfl (by decide +kernel) ⟨by decide, by decide⟩) hP hD hS rfl hl.1 rfl (Nat.le_of_ble_eq_true rfl) dX0_put_20 ⟨by decide, by decide⟩ (fun r_1 H locs hw hP hS => ?_)
        have hG : xG D cA aE ad A s σ H locs := ⟨hP, hD, hS⟩
        rcases r_1 with _ | e_3
        · have hw := hw.1 rfl
          show W p l e rm_X0_put s m args below meth c _ _ 0 0 (MQ below (va_Qv post (xAt D cA aE ad A) A) args s 0 0 A) (F0 m 23 ls [.null])
          refine lv_astoreN (lv' := [(4, .null), (0, .ref (ad 17)), (1, .int x1), (2, .long x2)]) hx hb dX0_put_23 hl (by decide) rfl (fun ls hl => ?_)
          refine lv_aload_n hx hb dX0_put_25 rfl (lv_at hl 1 rfl) ?_
          refine va_get (D := D) (ci := 2) (v := .ref (ad 18)) (C := RX0) (T := TX0) (N := 5) hx hb hts (in_tb inX0) hown hK hP 17 rfl rfl 0 (by decide) (hts _ (List.mem_cons_of_mem _ tw_1_149)) (fun _ h9 => h9) rfl dX0_put_26 ?_
          refine lv_iload_n hx hb dX0_put_29 rfl (lv_at hl 2 rfl) ?_
          refine lv_lload_n hx hb dX0_put_30 rfl (lv_at hl 3 rfl) ?_
          obtain ⟨h_4, hw⟩ := hw
          refine va_last hx hb hK hP hD hS 18 1 rfl rfl h_4 dX0_put_31 (fun H locs hP hD hS => ?_)
          have hG : xG D cA aE ad A s (yL σ 6 x1.toNatClampNeg x2) H locs := ⟨hP, hD, hS⟩
          obtain ⟨hP, hD, hS⟩ := id hG
          refine lv_aload_n hx hb dX0_put_32 rfl (lv_at hl 1 rfl) ?_
          refine va_get (D := D) (ci := 2) (v := .ref (ad 19)) (C := RX0) (T := TX0) (N := 5) hx hb hts (in_tb inX0) hown hK hP 17 rfl rfl 1 (by decide) (hts _ (List.mem_cons_of_mem _ tw_1_152)) (fun _ h9 => h9) rfl dX0_put_33 ?_
          refine lv_iload_n hx hb dX0_put_36 rfl (lv_at hl 2 rfl) ?_
          refine lv_aloadN hx hb dX0_put_37 (lv_at hl 0 rfl) ?_
          obtain ⟨h_5, hw⟩ := hw
          refine va_astqN hx hb hK hP hD hS 19 3 rfl rfl h_5 dX0_put_39 (fun H locs hP hD hS => ?_)
          rw [qu_none] at hP hD
          have hG : xG D cA aE ad A s (yQ (yL σ 6 x1.toNatClampNeg x2) 1 x1.toNatClampNeg none) H locs := ⟨hP, hD, hS⟩
          obtain ⟨hP, hD, hS⟩ := id hG
          refine lv_aload_n hx hb dX0_put_40 rfl (lv_at hl 1 rfl) ?_
          refine va_get (D := D) (ci := 2) (v := .ref (ad 20)) (C := RX0) (T := TX0) (N := 5) hx hb hts (in_tb inX0) hown hK hP 17 rfl rfl 2 (by decide) (hts _ (List.mem_cons_of_mem _ tw_1_155)) (fun _ h9 => h9) rfl dX0_put_41 ?_
          refine lv_iload_n hx hb dX0_put_44 rfl (lv_at hl 2 rfl) ?_
          refine lv_aloadN hx hb dX0_put_45 (lv_at hl 0 rfl) ?_
          refine lv_ifnonnullN hx hb dX0_put_47 ?_
          refine lv_iconst (v := 0) hx hb dX0_put_50 (by decide) ?_
          refine lv_goto (tgt := 60) hx hb dX0_put_51 (by decide) ?_
          exact kB_X0_put_60 C vM x1 x2 none 0 x1 (yQ (yL σ 6 x1.toNatClampNeg x2) 1 x1.toNatClampNeg none) _ _ _ hG (lv_sub hl [1, 2, 3, 0] rfl) hw
        · have hw := hw.2 e_3 rfl
          show W p l e rm_X0_put s m args below meth c _ _ 0 0 (MQ below (va_Qv post (xAt D cA aE ad A) A) args s 0 0 A) (F0 m 23 ls [.ref (aE e_3)])
          refine lv_astore (lv' := [(4, .ref (aE e_3)), (0, .ref (ad 17)), (1, .int x1), (2, .long x2)]) hx hb dX0_put_23 hl (by decide) rfl (fun ls hl => ?_)
          refine lv_aload_n hx hb dX0_put_25 rfl (lv_at hl 1 rfl) ?_
          refine va_get (D := D) (ci := 2) (v := .ref (ad 18)) (C := RX0) (T := TX0) (N := 5) hx hb hts (in_tb inX0) hown hK hP 17 rfl rfl 0 (by decide) (hts _ (List.mem_cons_of_mem _ tw_1_149)) (fun _ h9 => h9) rfl dX0_put_26 ?_
          refine lv_iload_n hx hb dX0_put_29 rfl (lv_at hl 2 rfl) ?_
          refine lv_lload_n hx hb dX0_put_30 rfl (lv_at hl 3 rfl) ?_
          obtain ⟨h_17, hw⟩ := hw
          refine va_last hx hb hK hP hD hS 18 1 rfl rfl h_17 dX0_put_31 (fun H locs hP hD hS => ?_)
          have hG : xG D cA aE ad A s (yL σ 6 x1.toNatClampNeg x2) H locs := ⟨hP, hD, hS⟩
          obtain ⟨hP, hD, hS⟩ := id hG
          refine lv_aload_n hx hb dX0_put_32 rfl (lv_at hl 1 rfl) ?_
          refine va_get (D := D) (ci := 2) (v := .ref (ad 19)) (C := RX0) (T := TX0) (N := 5) hx hb hts (in_tb inX0) hown hK hP 17 rfl rfl 1 (by decide) (hts _ (List.mem_cons_of_mem _ tw_1_152)) (fun _ h9 => h9) rfl dX0_put_33 ?_
          refine lv_iload_n hx hb dX0_put_36 rfl (lv_at hl 2 rfl) ?_
          refine lv_aload hx hb dX0_put_37 (lv_at hl 0 rfl) ?_
          obtain ⟨h_22, h_18, hw⟩ := hw
          refine vb_astq (C := "KernelText$Op") hx hb hK hP hD hS 19 3 rfl rfl (va_Orecv (eX.o_obj (vM _ _ _ hE) h_22) hS) (fun _ _ h1 h2 => by rw [h1] at h2; cases h2; exact va_asg _ _) h_18 dX0_put_39 (fun H locs hP hD hS => ?_)
          rw [qu_some] at hP hD
          have hG : xG D cA aE ad A s (yQ (yL σ 6 x1.toNatClampNeg x2) 1 x1.toNatClampNeg (some e_3)) H locs := ⟨hP, hD, hS⟩
          obtain ⟨hP, hD, hS⟩ := id hG
          refine lv_aload_n hx hb dX0_put_40 rfl (lv_at hl 1 rfl) ?_
          refine va_get (D := D) (ci := 2) (v := .ref (ad 20)) (C := RX0) (T := TX0) (N := 5) hx hb hts (in_tb inX0) hown hK hP 17 rfl rfl 2 (by decide) (hts _ (List.mem_cons_of_mem _ tw_1_155)) (fun _ h9 => h9) rfl dX0_put_41 ?_
          refine lv_iload_n hx hb dX0_put_44 rfl (lv_at hl 2 rfl) ?_
          refine lv_aload hx hb dX0_put_45 (lv_at hl 0 rfl) ?_
          refine lv_ifnonnull (tgt := 54) hx hb dX0_put_47 (by decide) ?_
          refine lv_aload hx hb dX0_put_54 (lv_at hl 0 rfl) ?_
          refine lv_lload_n hx hb dX0_put_56 rfl (lv_at hl 3 rfl) ?_
          obtain ⟨h_21, hw⟩ := hw
          refine xO_i (As := [.long x2]) (rest := [.int x1, .ref (ad 20)]) C (met_X2_readsOf vE vM hw) (va_Orecv (eX.o_obj (vM _ _ _ hE) h_21) hS) (cwV 1 hts (TB_G (TB_4 tw_2_116 tw_2_117 tw_2_118 tw_1_19) tw_2_119) rfl rfl rfl (by decide +kernel) ⟨by decide, by decide⟩) hP hD hS rfl hl.1 rfl (Nat.le_of_ble_eq_true rfl) dX0_put_57 ⟨by decide, by decide⟩ (fun r_19 H locs hw hP hS => ?_)
          have hG : xG D cA aE ad A s (yQ (yL σ 6 x1.toNatClampNeg x2) 1 x1.toNatClampNeg (some e_3)) H locs := ⟨hP, hD, hS⟩
          exact kB_X0_put_60 C vM x1 x2 (some e_3) r_19 x1 (yQ (yL σ 6 x1.toNatClampNeg x2) 1 x1.toNatClampNeg (some e_3)) _ _ _ hG (lv_sub hl [1, 2, 3, 0] rfl) hw
      · have hw := hw.2 q_
        exact kB_X0_put_18 C vM  σ _ _ _ hG (lv_sub hl [] rfl) hw
set_option maxHeartbeats 4000000 in
set_option maxRecDepth 100000 in
theorem met_X0_put {l : Launch} {E : EnvT} (vE : EnvOk E) {D : va_G} {cA : Nat → ClassId} {aE ad : Nat → Nat} {σ : XS} {aK aV : Nat → Nat} {aO : Nat} (vM : eXs aK aV aE aO E) {sz : Nat} {x1 : Int32} {x2 : Int64} {post : XS → Prop} (hw : wp_X0_put post x1 x2 σ) : Met l yX0_put wgX0_put rm_X0_put (va_Pc [.ref (ad 17), .int x1, .long x2] (xPre E D cA aE ad sz σ)) (va_Qv post (xAt D cA aE ad (va_A (xW cA aE ad σ) sz)) (va_A (xW cA aE ad σ) sz)) 0 0 (va_A (xW cA aE ad σ) sz) := by
  refine Met.ofW (cc := cX0_put) (maxL := 5) (ret := none) (by decide +kernel) rfl ?_
  intro p e s m args below meth c s₁ B hml hv
  obtain ⟨rfl, hsz, hP, hK, hD0, hE⟩ := hv
  subst hsz
  have hD := hD0.self (sz := s.heap.size)
  generalize hAe : va_A (xW cA aE ad σ) s.heap.size = A at hD hE ⊢
  have hA : ∀ q : Nat, s.heap.size ≤ q → A q := fun q h => by rw [← hAe]; exact Or.inr h
  have hS : va_S A s.heap s.heap [] := va_S.rf
  have C : xCx p s m _ meth c cX0_put 5 none wgX0_put RX0 E D cA A := ⟨B.exec, B.bytes, hml, B.returns, findClass_of_methodNamed B.named, atoms_spec (ws := wgX0_put) B.pre, hK, hA, B.notSynchronized, hE, vE⟩
  have hG : xG D cA aE ad A s σ s.heap [] := ⟨hP, hD, hS⟩
  have hl := lv_entry ([.ref (ad 17), .int x1, .long x2]) (n := 5) (Nat.le_of_ble_eq_true rfl)
  rw [lg_entry_eq]
  generalize (lg_sl ([.ref (ad 17), .int x1, .long x2]) ++ List.replicate (5 - (lg_sl ([.ref (ad 17), .int x1, .long x2])).length) Slot.unset).toArray = ls at hl ⊢
  have hl : lv_has ls 5 [(0, .ref (ad 17)), (1, .int x1), (2, .long x2)] := hl
  exact k_X0_put C vM x1 x2 σ _ _ _ hG hl hw
/-! ===== X0_become kernel ===== -/
def rm_X0_become : Room := { frames := 7, cells := 0, slots := 0, locals := 160 }
abbrev wgX0_become : List Cond := .code yX0_become cX0_become 4 none :: TB
def wB_X0_become_32 (post : XS → Prop) (σ : XS) : Prop :=
  post σ
def wB_X0_become_7 (post : XS → Prop) (k7 : Int32 → Int32 → XS → Prop) (x2 : Int32) (x3 : Int32) (σ : XS) : Prop :=
  (x2 ≤ x3 → (wB_X0_become_32 post σ)) ∧ (¬ x2 ≤ x3 → ((64 ≤ x3 → (wB_X0_become_32 post σ)) ∧ (¬ 64 ≤ x3 → (vp_in x3 64 ∧ (wp_X0_put (fun σ_3 => ∀ x3_4 : Int32, x3_4 = x3 + 1 → k7 x2 x3_4 σ_3) x3 (xL σ 3 x3.toNatClampNeg) σ)))))
def wL_X0_become_7 (post : XS → Prop) : Nat → Int32 → Int32 → XS → Prop
  | 0 => fun _ _ _ => False
  | n + 1 => wB_X0_become_7 post (wL_X0_become_7 post n)
def wp_X0_become (post : XS → Prop) (x2 : Int32) (σ : XS) : Prop :=
  ∃ n, wL_X0_become_7 post n x2 0 (yI σ 8 0)
set_option maxHeartbeats 4000000 in
set_option maxRecDepth 100000 in
theorem kB_X0_become_32 {p : Program} {l : Launch} {e : Env} {s : State} {m : MethodId} {args : Array Value} {below : List Frame} {meth : Method} {c : Code} {A : Nat → Prop} {E : EnvT} {aK aV : Nat → Nat} {aO : Nat} {D : va_G} {cA : Nat → ClassId} {aE ad : Nat → Nat} (C : xCx p s m args meth c cX0_become 4 none wgX0_become RX0 E D cA A) (vM : eXs aK aV aE aO E) {post : XS → Prop} :
    ∀ (σ : XS) (H : Heap) (locs : List Loc) (ls : Array Slot), xG D cA aE ad A s σ H locs → lv_has ls 4 [] → wB_X0_become_32 post σ → W p l e rm_X0_become s m args below meth c H locs 0 0 (MQ below (va_Qv post (xAt D cA aE ad A) A) args s 0 0 A) (F0 m 32 ls []) := by
  obtain ⟨hx, hb, hml, hr, hown, hts, hK, hA, hlk, hE, vE⟩ := id C
  intro σ H locs ls hG hl hw
  obtain ⟨hP, hD, hS⟩ := id hG
  exact W.vret hx hb hr (fun t ht hW => ⟨⟨σ, rfl, hw, by rw [ht]; exact hP, va_K.moved hW.alike hK, hD⟩, hS.F ht⟩) hS.2.2 dX0_become_32 hlk
set_option maxHeartbeats 4000000 in
set_option maxRecDepth 100000 in
theorem kB_X0_become_7 {p : Program} {l : Launch} {e : Env} {s : State} {m : MethodId} {args : Array Value} {below : List Frame} {meth : Method} {c : Code} {A : Nat → Prop} {E : EnvT} {aK aV : Nat → Nat} {aO : Nat} {D : va_G} {cA : Nat → ClassId} {aE ad : Nat → Nat} (C : xCx p s m args meth c cX0_become 4 none wgX0_become RX0 E D cA A) (vM : eXs aK aV aE aO E) {post : XS → Prop}
    {k7 : Int32 → Int32 → XS → Prop} (hk7 : ∀ (x2 : Int32) (x3 : Int32) (σ : XS) (H : Heap) (locs : List Loc) (ls : Array Slot), xG D cA aE ad A s σ H locs → lv_has ls 4 [(0, .ref (ad 17)), (1, .ref (ad 13)), (2, .int x2), (3, .int x3)] → k7 x2 x3 σ → W p l e rm_X0_become s m args below meth c H locs 0 0 (MQ below (va_Qv post (xAt D cA aE ad A) A) args s 0 0 A) (F0 m 7 ls [])) :
    ∀ (x2 : Int32) (x3 : Int32) (σ : XS) (H : Heap) (locs : List Loc) (ls : Array Slot), xG D cA aE ad A s σ H locs → lv_has ls 4 [(0, .ref (ad 17)), (1, .ref (ad 13)), (2, .int x2), (3, .int x3)] → wB_X0_become_7 post k7 x2 x3 σ → W p l e rm_X0_become s m args below meth c H locs 0 0 (MQ below (va_Qv post (xAt D cA aE ad A) A) args s 0 0 A) (F0 m 7 ls []) := by
  obtain ⟨hx, hb, hml, hr, hown, hts, hK, hA, hlk, hE, vE⟩ := id C
  intro x2 x3 σ H locs ls hG hl hw
  obtain ⟨hP, hD, hS⟩ := id hG
  refine lv_iload_n hx hb dX0_become_7 rfl (lv_at hl 3 rfl) ?_
  refine lv_iload_n hx hb dX0_become_8 rfl (lv_at hl 2 rfl) ?_
  refine lv_icmp_ge (tgt := 32) hx hb dX0_become_9 (by decide) (fun q_ => ?_) (fun q_ => ?_)
  · have hw := hw.1 q_
    exact kB_X0_become_32 C vM  σ _ _ _ hG (lv_sub hl [] rfl) hw
  · have hw := hw.2 q_
    refine lv_iload_n hx hb dX0_become_12 rfl (lv_at hl 3 rfl) ?_
    refine lv_aload_n hx hb dX0_become_13 rfl (lv_at hl 1 rfl) ?_
    refine va_alen (v := 64) hx hb hK hP 13 1 rfl rfl rfl dX0_become_14 ?_
    refine lv_icmp_ge (tgt := 32) hx hb dX0_become_15 (by decide) (fun q_ => ?_) (fun q_ => ?_)
    · have hw := hw.1 q_
      exact kB_X0_become_32 C vM  σ _ _ _ hG (lv_sub hl [] rfl) hw
    · have hw := hw.2 q_
      refine lv_aload_n hx hb dX0_become_18 rfl (lv_at hl 0 rfl) ?_
      refine lv_iload_n hx hb dX0_become_19 rfl (lv_at hl 3 rfl) ?_
      refine lv_aload_n hx hb dX0_become_20 rfl (lv_at hl 1 rfl) ?_
      refine lv_iload_n hx hb dX0_become_21 rfl (lv_at hl 3 rfl) ?_
      obtain ⟨h_1, hw⟩ := hw
      refine va_lald hx hb hK hP 13 1 rfl rfl h_1 dX0_become_22 ?_
      refine xV_v (As := [.int x3, .long (xL σ 3 x3.toNatClampNeg)]) (rest := []) C (met_X0_put vE vM hw) (va_recv hK hP (ci := 2) (q0 := 17) rfl rfl) (cwV 2 hts (TB_G (TB_4 tw_5_65 tw_2_24 tw_2_25 tw_1_6) tw_2_26) rfl rfl rfl (by decide +kernel) ⟨by decide, by decide⟩) hP hD hS rfl hl.1 rfl (Nat.le_of_ble_eq_true rfl) dX0_become_23 ⟨by decide, by decide⟩ (fun σ_3 H locs hw hP hD hS => ?_)
      have hG : xG D cA aE ad A s σ_3 H locs := ⟨hP, hD, hS⟩
      obtain ⟨x3_4, ex3_4⟩ : ∃ y : Int32, y = x3 + 1 := ⟨_, rfl⟩
      have hw := hw x3_4 ex3_4
      refine lv_iinc (v := x3_4) (lv' := [(3, .int x3_4), (0, .ref (ad 17)), (1, .ref (ad 13)), (2, .int x2)]) hx hb dX0_become_26 hl (k := 3) rfl (by rw [ex3_4]; rfl) (by decide) rfl (fun ls hl => ?_)
      refine lv_goto (tgt := 7) hx hb dX0_become_29 (by decide) ?_
      exact hk7 x2 x3_4 σ_3 _ _ _ hG (lv_sub hl [1, 2, 3, 0] rfl) hw
theorem kL_X0_become_7 {p : Program} {l : Launch} {e : Env} {s : State} {m : MethodId} {args : Array Value} {below : List Frame} {meth : Method} {c : Code} {A : Nat → Prop} {E : EnvT} {aK aV : Nat → Nat} {aO : Nat} {D : va_G} {cA : Nat → ClassId} {aE ad : Nat → Nat} (C : xCx p s m args meth c cX0_become 4 none wgX0_become RX0 E D cA A) (vM : eXs aK aV aE aO E) {post : XS → Prop} :
    ∀ (n : Nat) (x2 : Int32) (x3 : Int32) (σ : XS) (H : Heap) (locs : List Loc) (ls : Array Slot), xG D cA aE ad A s σ H locs → lv_has ls 4 [(0, .ref (ad 17)), (1, .ref (ad 13)), (2, .int x2), (3, .int x3)] → wL_X0_become_7 post n x2 x3 σ → W p l e rm_X0_become s m args below meth c H locs 0 0 (MQ below (va_Qv post (xAt D cA aE ad A) A) args s 0 0 A) (F0 m 7 ls []) := by
  intro n
  induction n with
  | zero => intro x2 x3 σ H locs ls hG hl hw; exact hw.elim
  | succ n ih => exact kB_X0_become_7 C vM ih
set_option maxHeartbeats 4000000 in
set_option maxRecDepth 100000 in
theorem k_X0_become {p : Program} {l : Launch} {e : Env} {s : State} {m : MethodId} {args : Array Value} {below : List Frame} {meth : Method} {c : Code} {A : Nat → Prop} {E : EnvT} {aK aV : Nat → Nat} {aO : Nat} {D : va_G} {cA : Nat → ClassId} {aE ad : Nat → Nat} (C : xCx p s m args meth c cX0_become 4 none wgX0_become RX0 E D cA A) (vM : eXs aK aV aE aO E) {post : XS → Prop} :
    ∀ (x2 : Int32) (σ : XS) (H : Heap) (locs : List Loc) (ls : Array Slot), xG D cA aE ad A s σ H locs → lv_has ls 4 [(0, .ref (ad 17)), (1, .ref (ad 13)), (2, .int x2)] → wp_X0_become post x2 σ → W p l e rm_X0_become s m args below meth c H locs 0 0 (MQ below (va_Qv post (xAt D cA aE ad A) A) args s 0 0 A) (F0 m 0 ls []) := by
  obtain ⟨hx, hb, hml, hr, hown, hts, hK, hA, hlk, hE, vE⟩ := id C
  intro x2 σ H locs ls hG hl hw
  obtain ⟨hP, hD, hS⟩ := id hG
  refine lv_aload_n hx hb dX0_become_0 rfl (lv_at hl 0 rfl) ?_
  refine lv_iconst (v := 0) hx hb dX0_become_1 (by decide) ?_
  refine va_put (D := D) (ci := 2) (v := .int 0) (ty := .int) (C := RX0) (T := TX0) (N := 5) hx hb hts (in_tb inX0) tyX0 tyX0_ok nmX0 hown hK hP hD hS 17 rfl rfl 4 (by decide) (hts _ (List.mem_cons_of_mem _ tw_1_157)) (fun _ h9 => h9) rfl (by decide +kernel) rfl rfl (Nat.le_of_ble_eq_true rfl) dX0_become_2 (fun H locs hP hD hS => ?_)
  have hG : xG D cA aE ad A s (yI σ 8 0) H locs := ⟨hP, hD, hS⟩
  obtain ⟨hP, hD, hS⟩ := id hG
  refine lv_iconst (v := 0) hx hb dX0_become_5 (by decide) ?_
  refine lv_istore_n (lv' := [(3, .int 0), (0, .ref (ad 17)), (1, .ref (ad 13)), (2, .int x2)]) hx hb dX0_become_6 rfl hl (by decide) rfl (fun ls hl => ?_)
  obtain ⟨n_, hw⟩ := hw
  exact kL_X0_become_7 C vM n_ x2 0 (yI σ 8 0) _ _ _ hG (lv_sub hl [1, 2, 3, 0] rfl) hw
set_option maxHeartbeats 4000000 in
set_option maxRecDepth 100000 in
theorem met_X0_become {l : Launch} {E : EnvT} (vE : EnvOk E) {D : va_G} {cA : Nat → ClassId} {aE ad : Nat → Nat} {σ : XS} {aK aV : Nat → Nat} {aO : Nat} (vM : eXs aK aV aE aO E) {sz : Nat} {x2 : Int32} {post : XS → Prop} (hw : wp_X0_become post x2 σ) : Met l yX0_become wgX0_become rm_X0_become (va_Pc [.ref (ad 17), .ref (ad 13), .int x2] (xPre E D cA aE ad sz σ)) (va_Qv post (xAt D cA aE ad (va_A (xW cA aE ad σ) sz)) (va_A (xW cA aE ad σ) sz)) 0 0 (va_A (xW cA aE ad σ) sz) := by
  refine Met.ofW (cc := cX0_become) (maxL := 4) (ret := none) (by decide +kernel) rfl ?_
  intro p e s m args below meth c s₁ B hml hv
  obtain ⟨rfl, hsz, hP, hK, hD0, hE⟩ := hv
  subst hsz
  have hD := hD0.self (sz := s.heap.size)
  generalize hAe : va_A (xW cA aE ad σ) s.heap.size = A at hD hE ⊢
  have hA : ∀ q : Nat, s.heap.size ≤ q → A q := fun q h => by rw [← hAe]; exact Or.inr h
  have hS : va_S A s.heap s.heap [] := va_S.rf
  have C : xCx p s m _ meth c cX0_become 4 none wgX0_become RX0 E D cA A := ⟨B.exec, B.bytes, hml, B.returns, findClass_of_methodNamed B.named, atoms_spec (ws := wgX0_become) B.pre, hK, hA, B.notSynchronized, hE, vE⟩
  have hG : xG D cA aE ad A s σ s.heap [] := ⟨hP, hD, hS⟩
  have hl := lv_entry ([.ref (ad 17), .ref (ad 13), .int x2]) (n := 4) (Nat.le_of_ble_eq_true rfl)
  rw [lg_entry_eq]
  generalize (lg_sl ([.ref (ad 17), .ref (ad 13), .int x2]) ++ List.replicate (4 - (lg_sl ([.ref (ad 17), .ref (ad 13), .int x2])).length) Slot.unset).toArray = ls at hl ⊢
  have hl : lv_has ls 4 [(0, .ref (ad 17)), (1, .ref (ad 13)), (2, .int x2)] := hl
  exact k_X0_become C vM x2 σ _ _ _ hG hl hw
