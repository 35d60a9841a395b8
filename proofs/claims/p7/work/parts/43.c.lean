/-! ===== J5_append_3fe6f ===== -/
def rm_J5_append_3fe6f : Room := { frames := 5, cells := 1, slots := 70, locals := 142 }
abbrev wgJ5_append_3fe6f : List Cond := .code yJ5_append_3fe6f cJ5_append_3fe6f 2 (some (.object "java/lang/AbstractStringBuilder")) :: TB
def wB_J5_append_3fe6f_56 (post : BS → Prop) (x1 : Int32) (σ : BS) : Prop :=
  False
def wB_J5_append_3fe6f_45 (post : BS → Prop) (x1 : Int32) (σ : BS) : Prop :=
  wp_J5_isLatin1_aae02 (fun r_5 σ_6 => (r_5 = 0 → (wB_J5_append_3fe6f_56 post x1 σ_6)) ∧ (¬ r_5 = 0 → (False))) σ
def wB_J5_append_3fe6f_75 (post : BS → Prop) (σ : BS) : Prop :=
  post σ
def wp_J5_append_3fe6f (post : BS → Prop) (x1 : Int32) (σ : BS) : Prop :=
  wp_J5_ensureCapacityInternal_d00df (fun σ_2 => wp_J5_isLatin1_aae02 (fun r_3 σ_4 => (r_3 = 0 → (wB_J5_append_3fe6f_45 post x1 σ_4)) ∧ (¬ r_3 = 0 → (wp_J1_canEncode_fc78d (fun r_7  => (r_7 = 0 → (wB_J5_append_3fe6f_45 post x1 σ_4)) ∧ (¬ r_7 = 0 → (vp_in (zI σ_4 1) (zN σ_4 1) ∧ (wB_J5_append_3fe6f_75 post (jA (jI σ_4 1 ((zI σ_4 1) + 1)) 0 (zI σ_4 1).toNatClampNeg (vp_nar .byte (x1.toInt8.toInt32))))))) x1))) σ_2) ((zI σ 1) + 1) σ
set_option maxHeartbeats 4000000 in
set_option maxRecDepth 100000 in
theorem kB_J5_append_3fe6f_56 {p : Program} {l : Launch} {e : Env} {s : State} {m : MethodId} {args : Array Value} {below : List Frame} {meth : Method} {c : Code} {A : Nat → Prop} {E : EnvT} {aK aV aE : Nat → Nat} {aO : Nat} {dO dT : Nat} {D : va_G} {cA : Nat → ClassId} {ab : Nat} (C : zCx p s m args meth c cJ5_append_3fe6f 2 (some (.object "java/lang/AbstractStringBuilder")) wgJ5_append_3fe6f RJ5 E D cA A) (vM : eXs aK aV aE aO E) (vB : eBs dO dT E) {post : BS → Prop} :
    ∀ (x1 : Int32) (σ : BS) (H : Heap) (locs : List Loc) (ls : Array Slot), zG D cA ab A s σ H locs → lv_has ls 2 [(0, .ref ab), (1, .int x1)] → wB_J5_append_3fe6f_56 post x1 σ → W p l e rm_J5_append_3fe6f s m args below meth c H locs 1 70 (MQ below (va_Qr post (fun u a t => a = ab ∧ zAt D cA ab A u t) A) args s 1 70 A) (F0 m 56 ls []) := by
  obtain ⟨hx, hb, hml, hr, hown, hts, hK, hA, hlk, hE, vE⟩ := id C
  intro x1 σ H locs ls hG hl hw
  obtain ⟨hP, hD, hS⟩ := id hG
  refine lv_aload_n hx hb dJ5_append_3fe6f_56 rfl (lv_at hl 0 rfl) ?_
  refine va_get (D := D) (ci := 1) (v := .ref (zN σ 0)) (C := RJ4) (T := TJ4) (N := 4) hx hb hts (in_tb inJ4) hown hK hP 0 rfl rfl 0 (by decide) (hts _ (List.mem_cons_of_mem _ tw_1_205)) (fun _ h9 => h9) rfl dJ5_append_3fe6f_57 ?_
  refine lv_aload_n hx hb dJ5_append_3fe6f_60 rfl (lv_at hl 0 rfl) ?_
  refine lv_dup hx hb dJ5_append_3fe6f_61 rfl ?_
  refine va_get (D := D) (ci := 1) (v := .int (zI σ 1)) (C := RJ4) (T := TJ4) (N := 4) hx hb hts (in_tb inJ4) hown hK hP 0 rfl rfl 3 (by decide) (hts _ (List.mem_cons_of_mem _ tw_1_209)) (fun _ h9 => h9) rfl dJ5_append_3fe6f_62 ?_
  refine lv_dup_x1 hx hb dJ5_append_3fe6f_65 rfl rfl ?_
  refine lv_iconst (v := 1) hx hb dJ5_append_3fe6f_66 (by decide) ?_
  refine lv_iadd hx hb dJ5_append_3fe6f_67 ?_
  refine va_put (D := D) (ci := 1) (v := .int ((zI σ 1) + 1)) (ty := .int) (C := RJ4) (T := TJ4) (N := 4) hx hb hts (in_tb inJ4) tyJ4 tyJ4_ok nmJ4 hown hK hP hD hS 0 rfl rfl 3 (by decide) (hts _ (List.mem_cons_of_mem _ tw_1_209)) (fun _ h9 => h9) rfl (by decide +kernel) rfl rfl (Nat.le_of_ble_eq_true rfl) dJ5_append_3fe6f_68 (fun H locs hP hD hS => ?_)
  have hG : zG D cA ab A s (jI σ 1 ((zI σ 1) + 1)) H locs := ⟨hP, hD, hS⟩
  obtain ⟨hP, hD, hS⟩ := id hG
  refine lv_iload_n hx hb dJ5_append_3fe6f_71 rfl (lv_at hl 1 rfl) ?_
  exact hw.elim
set_option maxHeartbeats 4000000 in
set_option maxRecDepth 100000 in
theorem kB_J5_append_3fe6f_45 {p : Program} {l : Launch} {e : Env} {s : State} {m : MethodId} {args : Array Value} {below : List Frame} {meth : Method} {c : Code} {A : Nat → Prop} {E : EnvT} {aK aV aE : Nat → Nat} {aO : Nat} {dO dT : Nat} {D : va_G} {cA : Nat → ClassId} {ab : Nat} (C : zCx p s m args meth c cJ5_append_3fe6f 2 (some (.object "java/lang/AbstractStringBuilder")) wgJ5_append_3fe6f RJ5 E D cA A) (vM : eXs aK aV aE aO E) (vB : eBs dO dT E) {post : BS → Prop} :
    ∀ (x1 : Int32) (σ : BS) (H : Heap) (locs : List Loc) (ls : Array Slot), zG D cA ab A s σ H locs → lv_has ls 2 [(0, .ref ab), (1, .int x1)] → wB_J5_append_3fe6f_45 post x1 σ → W p l e rm_J5_append_3fe6f s m args below meth c H locs 1 70 (MQ below (va_Qr post (fun u a t => a = ab ∧ zAt D cA ab A u t) A) args s 1 70 A) (F0 m 45 ls []) := by
  obtain ⟨hx, hb, hml, hr, hown, hts, hK, hA, hlk, hE, vE⟩ := id C
  intro x1 σ H locs ls hG hl hw
  obtain ⟨hP, hD, hS⟩ := id hG
  refine lv_aload_n hx hb dJ5_append_3fe6f_45 rfl (lv_at hl 0 rfl) ?_
  refine bU_i (As := []) (rest := []) C (met_J5_isLatin1_aae02 vE vM vB hw) (va_cwU 0 hts (TB_G (TB_5 tw_3_3 tw_3_5 tw_3_6 tw_3_4 tw_1_9) tw_3_7) rfl rfl rfl rfl (by decide +kernel) ⟨by decide, by decide⟩) hP hD hS rfl hl.1 rfl (Nat.le_of_ble_eq_true rfl) dJ5_append_3fe6f_46 ⟨by decide, by decide⟩ (fun r_5 σ_6 H locs hw hP hD hS => ?_)
  have hG : zG D cA ab A s σ_6 H locs := ⟨hP, hD, hS⟩
  refine lv_if_eq (tgt := 56) hx hb dJ5_append_3fe6f_49 (by decide) (fun q_ => ?_) (fun q_ => ?_)
  · have hw := hw.1 q_
    exact kB_J5_append_3fe6f_56 C vM vB x1 σ_6 _ _ _ hG (lv_sub hl [0, 1] rfl) hw
  · have hw := hw.2 q_
    refine lv_aload_n hx hb dJ5_append_3fe6f_52 rfl (lv_at hl 0 rfl) ?_
    exact hw.elim
set_option maxHeartbeats 4000000 in
set_option maxRecDepth 100000 in
theorem kB_J5_append_3fe6f_75 {p : Program} {l : Launch} {e : Env} {s : State} {m : MethodId} {args : Array Value} {below : List Frame} {meth : Method} {c : Code} {A : Nat → Prop} {E : EnvT} {aK aV aE : Nat → Nat} {aO : Nat} {dO dT : Nat} {D : va_G} {cA : Nat → ClassId} {ab : Nat} (C : zCx p s m args meth c cJ5_append_3fe6f 2 (some (.object "java/lang/AbstractStringBuilder")) wgJ5_append_3fe6f RJ5 E D cA A) (vM : eXs aK aV aE aO E) (vB : eBs dO dT E) {post : BS → Prop} :
    ∀ (σ : BS) (H : Heap) (locs : List Loc) (ls : Array Slot), zG D cA ab A s σ H locs → lv_has ls 2 [(0, .ref ab)] → wB_J5_append_3fe6f_75 post σ → W p l e rm_J5_append_3fe6f s m args below meth c H locs 1 70 (MQ below (va_Qr post (fun u a t => a = ab ∧ zAt D cA ab A u t) A) args s 1 70 A) (F0 m 75 ls []) := by
  obtain ⟨hx, hb, hml, hr, hown, hts, hK, hA, hlk, hE, vE⟩ := id C
  intro σ H locs ls hG hl hw
  obtain ⟨hP, hD, hS⟩ := id hG
  refine lv_aload_n hx hb dJ5_append_3fe6f_75 rfl (lv_at hl 0 rfl) ?_
  exact W.aret (v := .ref ab) hx hb hr (Or.inl ⟨_, rfl⟩) (Or.inr ⟨_, rfl⟩) (fun t ht hW => ⟨⟨σ, ab, rfl, hw, rfl, by rw [ht]; exact hP, va_K.moved hW.alike hK, hD⟩, hS.F ht⟩) hS.2.2 dJ5_append_3fe6f_76 hlk
set_option maxHeartbeats 4000000 in
set_option maxRecDepth 100000 in
theorem k_J5_append_3fe6f {p : Program} {l : Launch} {e : Env} {s : State} {m : MethodId} {args : Array Value} {below : List Frame} {meth : Method} {c : Code} {A : Nat → Prop} {E : EnvT} {aK aV aE : Nat → Nat} {aO : Nat} {dO dT : Nat} {D : va_G} {cA : Nat → ClassId} {ab : Nat} (C : zCx p s m args meth c cJ5_append_3fe6f 2 (some (.object "java/lang/AbstractStringBuilder")) wgJ5_append_3fe6f RJ5 E D cA A) (vM : eXs aK aV aE aO E) (vB : eBs dO dT E) {post : BS → Prop} :
    ∀ (x1 : Int32) (σ : BS) (H : Heap) (locs : List Loc) (ls : Array Slot), zG D cA ab A s σ H locs → lv_has ls 2 [(0, .ref ab), (1, .int x1)] → wp_J5_append_3fe6f post x1 σ → W p l e rm_J5_append_3fe6f s m args below meth c H locs 0 0 (MQ below (va_Qr post (fun u a t => a = ab ∧ zAt D cA ab A u t) A) args s 1 70 A) (F0 m 0 ls []) := by
  obtain ⟨hx, hb, hml, hr, hown, hts, hK, hA, hlk, hE, vE⟩ := id C
  intro x1 σ H locs ls hG hl hw
  obtain ⟨hP, hD, hS⟩ := id hG
  refine lv_aload_n hx hb dJ5_append_3fe6f_0 rfl (lv_at hl 0 rfl) ?_
  refine lv_aload_n hx hb dJ5_append_3fe6f_1 rfl (lv_at hl 0 rfl) ?_
  refine va_get (D := D) (ci := 1) (v := .int (zI σ 1)) (C := RJ4) (T := TJ4) (N := 4) hx hb hts (in_tb inJ4) hown hK hP 0 rfl rfl 3 (by decide) (hts _ (List.mem_cons_of_mem _ tw_1_209)) (fun _ h9 => h9) rfl dJ5_append_3fe6f_2 ?_
  refine lv_iconst (v := 1) hx hb dJ5_append_3fe6f_5 (by decide) ?_
  refine lv_iadd hx hb dJ5_append_3fe6f_6 ?_
  refine bU_v (As := [.int ((zI σ 1) + 1)]) (rest := []) C (met_J5_ensureCapacityInternal_d00df vE vM vB hw) (b_cu 1 hts (TB_G (pre := []) (fun _ h => nomatch h) tw_2_215) rfl rfl rfl (hts _ (List.mem_cons_of_mem _ tw_2_212)) (hts _ (List.mem_cons_of_mem _ tw_6_213)) (hts _ (List.mem_cons_of_mem _ tw_2_214)) (hts _ (List.mem_cons_of_mem _ tw_1_9)) (va_Nw.use rfl (vB _ _ _ hE).1) (by decide +kernel) ⟨by decide, by decide⟩) hP hD hS rfl hl.1 rfl (Nat.le_of_ble_eq_true rfl) dJ5_append_3fe6f_7 ⟨by decide, by decide⟩ (fun σ_2 H locs hw hP hD hS => ?_)
  have hG : zG D cA ab A s σ_2 H locs := ⟨hP, hD, hS⟩
  refine lv_aload_n hx hb dJ5_append_3fe6f_10 rfl (lv_at hl 0 rfl) ?_
  refine bU_i (As := []) (rest := []) C (met_J5_isLatin1_aae02 vE vM vB hw) (va_cwU 0 hts (TB_G (TB_5 tw_3_3 tw_3_5 tw_3_6 tw_3_4 tw_1_9) tw_3_7) rfl rfl rfl rfl (by decide +kernel) ⟨by decide, by decide⟩) hP hD hS rfl hl.1 rfl (Nat.le_of_ble_eq_true rfl) dJ5_append_3fe6f_11 ⟨by decide, by decide⟩ (fun r_3 σ_4 H locs hw hP hD hS => ?_)
  have hG : zG D cA ab A s σ_4 H locs := ⟨hP, hD, hS⟩
  refine lv_if_eq (tgt := 45) hx hb dJ5_append_3fe6f_14 (by decide) (fun q_ => ?_) (fun q_ => ?_)
  · have hw := hw.1 q_
    exact kB_J5_append_3fe6f_45 C vM vB x1 σ_4 _ _ _ hG (lv_sub hl [0, 1] rfl) hw
  · have hw := hw.2 q_
    refine lv_iload_n hx hb dJ5_append_3fe6f_17 rfl (lv_at hl 1 rfl) ?_
    refine zS_i (As := [.int x1]) (rest := []) C (met_J1_canEncode_fc78d vE vM hw) (va_cwS 1 hts (TB_G (TB_3 tw_3_233 tw_3_234 tw_1_14) tw_3_235) rfl rfl rfl (by decide +kernel) ⟨by decide, by decide⟩) hP hD hS rfl hl.1 rfl (Nat.le_of_ble_eq_true rfl) dJ5_append_3fe6f_18 ⟨by decide, by decide⟩ (fun r_7 H locs hw hP hS => ?_)
    have hG : zG D cA ab A s σ_4 H locs := ⟨hP, hD, hS⟩
    refine lv_if_eq (tgt := 45) hx hb dJ5_append_3fe6f_21 (by decide) (fun q_ => ?_) (fun q_ => ?_)
    · have hw := hw.1 q_
      exact kB_J5_append_3fe6f_45 C vM vB x1 σ_4 _ _ _ hG (lv_sub hl [0, 1] rfl) hw
    · have hw := hw.2 q_
      refine lv_aload_n hx hb dJ5_append_3fe6f_24 rfl (lv_at hl 0 rfl) ?_
      refine va_get (D := D) (ci := 1) (v := .ref (zN σ_4 0)) (C := RJ4) (T := TJ4) (N := 4) hx hb hts (in_tb inJ4) hown hK hP 0 rfl rfl 0 (by decide) (hts _ (List.mem_cons_of_mem _ tw_1_205)) (fun _ h9 => h9) rfl dJ5_append_3fe6f_25 ?_
      refine lv_aload_n hx hb dJ5_append_3fe6f_28 rfl (lv_at hl 0 rfl) ?_
      refine lv_dup hx hb dJ5_append_3fe6f_29 rfl ?_
      refine va_get (D := D) (ci := 1) (v := .int (zI σ_4 1)) (C := RJ4) (T := TJ4) (N := 4) hx hb hts (in_tb inJ4) hown hK hP 0 rfl rfl 3 (by decide) (hts _ (List.mem_cons_of_mem _ tw_1_209)) (fun _ h9 => h9) rfl dJ5_append_3fe6f_30 ?_
      refine lv_dup_x1 hx hb dJ5_append_3fe6f_33 rfl rfl ?_
      refine lv_iconst (v := 1) hx hb dJ5_append_3fe6f_34 (by decide) ?_
      refine lv_iadd hx hb dJ5_append_3fe6f_35 ?_
      refine va_put (D := D) (ci := 1) (v := .int ((zI σ_4 1) + 1)) (ty := .int) (C := RJ4) (T := TJ4) (N := 4) hx hb hts (in_tb inJ4) tyJ4 tyJ4_ok nmJ4 hown hK hP hD hS 0 rfl rfl 3 (by decide) (hts _ (List.mem_cons_of_mem _ tw_1_209)) (fun _ h9 => h9) rfl (by decide +kernel) rfl rfl (Nat.le_of_ble_eq_true rfl) dJ5_append_3fe6f_36 (fun H locs hP hD hS => ?_)
      have hG : zG D cA ab A s (jI σ_4 1 ((zI σ_4 1) + 1)) H locs := ⟨hP, hD, hS⟩
      obtain ⟨hP, hD, hS⟩ := id hG
      refine lv_iload_n hx hb dJ5_append_3fe6f_39 rfl (lv_at hl 1 rfl) ?_
      refine lv_i2b hx hb dJ5_append_3fe6f_40 rfl ?_
      obtain ⟨h_9, hw⟩ := hw
      have eak_10 : zN σ_4 0 = zN (jI σ_4 1 ((zI σ_4 1) + 1)) 0 := by simp only [zN_jA, zN_jI, zN_jAs]
      have enk_10 : zN σ_4 1 = zN (jI σ_4 1 ((zI σ_4 1) + 1)) 1 := by simp only [zN_jA, zN_jI, zN_jAs]
      refine va_bast hx hb hK hP hD hS 1 4 (zW_at eak_10 enk_10) rfl h_9 dJ5_append_3fe6f_41 (fun H locs hP hD hS => ?_)
      rw [zW_set eak_10 enk_10] at hP hD
      have hG : zG D cA ab A s (jA (jI σ_4 1 ((zI σ_4 1) + 1)) 0 (zI σ_4 1).toNatClampNeg (vp_nar .byte (x1.toInt8.toInt32))) H locs := ⟨hP, hD, hS⟩
      obtain ⟨hP, hD, hS⟩ := id hG
      refine lv_goto (tgt := 75) hx hb dJ5_append_3fe6f_42 (by decide) ?_
      exact kB_J5_append_3fe6f_75 C vM vB  (jA (jI σ_4 1 ((zI σ_4 1) + 1)) 0 (zI σ_4 1).toNatClampNeg (vp_nar .byte (x1.toInt8.toInt32))) _ _ _ hG (lv_sub hl [0] rfl) hw
set_option maxHeartbeats 4000000 in
set_option maxRecDepth 100000 in
theorem met_J5_append_3fe6f {l : Launch} {E : EnvT} (vE : EnvOk E) {D : va_G} {cA : Nat → ClassId} {ab : Nat} {σ : BS} {aK aV aE : Nat → Nat} {aO : Nat} {dO dT : Nat} (vM : eXs aK aV aE aO E) (vB : eBs dO dT E) {sz : Nat} {x1 : Int32} {post : BS → Prop} (hw : wp_J5_append_3fe6f post x1 σ) : Met l yJ5_append_3fe6f wgJ5_append_3fe6f rm_J5_append_3fe6f (va_Pc [.ref ab, .int x1] (zPre E D cA ab sz σ)) (va_Qr post (fun u a t => a = ab ∧ zAt D cA ab (va_A (zW cA ab σ) sz) u t) (va_A (zW cA ab σ) sz)) 1 70 (va_A (zW cA ab σ) sz) := by
  refine Met.ofW (cc := cJ5_append_3fe6f) (maxL := 2) (ret := (some (.object "java/lang/AbstractStringBuilder"))) (by decide +kernel) rfl ?_
  intro p e s m args below meth c s₁ B hml hv
  obtain ⟨rfl, hsz, hP, hK, hD0, hE⟩ := hv
  subst hsz
  have hD := hD0.self (sz := s.heap.size)
  generalize hAe : va_A (zW cA ab σ) s.heap.size = A at hD hE ⊢
  have hA : ∀ q : Nat, s.heap.size ≤ q → A q := fun q h => by rw [← hAe]; exact Or.inr h
  have hS : va_S A s.heap s.heap [] := va_S.rf
  have C : zCx p s m _ meth c cJ5_append_3fe6f 2 (some (.object "java/lang/AbstractStringBuilder")) wgJ5_append_3fe6f RJ5 E D cA A := ⟨B.exec, B.bytes, hml, B.returns, findClass_of_methodNamed B.named, atoms_spec (ws := wgJ5_append_3fe6f) B.pre, hK, hA, B.notSynchronized, hE, vE⟩
  have hG : zG D cA ab A s σ s.heap [] := ⟨hP, hD, hS⟩
  have hl := lv_entry ([.ref ab, .int x1]) (n := 2) (Nat.le_of_ble_eq_true rfl)
  rw [lg_entry_eq]
  generalize (lg_sl ([.ref ab, .int x1]) ++ List.replicate (2 - (lg_sl ([.ref ab, .int x1])).length) Slot.unset).toArray = ls at hl ⊢
  have hl : lv_has ls 2 [(0, .ref ab), (1, .int x1)] := hl
  exact k_J5_append_3fe6f C vM vB x1 σ _ _ _ hG hl hw
/-! ===== J4_append_cf468 ===== -/
def rm_J4_append_cf468 : Room := { frames := 6, cells := 1, slots := 70, locals := 163 }
abbrev wgJ4_append_cf468 : List Cond := .code yJ4_append_cf468 cJ4_append_cf468 2 (some (.object "java/lang/StringBuilder")) :: TB
def wp_J4_append_cf468 (post : BS → Prop) (x1 : Int32) (σ : BS) : Prop :=
  wp_J5_append_3fe6f (fun σ_2 => post σ_2) x1 σ
set_option maxHeartbeats 4000000 in
set_option maxRecDepth 100000 in
theorem k_J4_append_cf468 {p : Program} {l : Launch} {e : Env} {s : State} {m : MethodId} {args : Array Value} {below : List Frame} {meth : Method} {c : Code} {A : Nat → Prop} {E : EnvT} {aK aV aE : Nat → Nat} {aO : Nat} {dO dT : Nat} {D : va_G} {cA : Nat → ClassId} {ab : Nat} (C : zCx p s m args meth c cJ4_append_cf468 2 (some (.object "java/lang/StringBuilder")) wgJ4_append_cf468 RJ4 E D cA A) (vM : eXs aK aV aE aO E) (vB : eBs dO dT E) {post : BS → Prop} :
    ∀ (x1 : Int32) (σ : BS) (H : Heap) (locs : List Loc) (ls : Array Slot), zG D cA ab A s σ H locs → lv_has ls 2 [(0, .ref ab), (1, .int x1)] → wp_J4_append_cf468 post x1 σ → W p l e rm_J4_append_cf468 s m args below meth c H locs 0 0 (MQ below (va_Qr post (fun u a t => a = ab ∧ zAt D cA ab A u t) A) args s 1 70 A) (F0 m 0 ls []) := by
  obtain ⟨hx, hb, hml, hr, hown, hts, hK, hA, hlk, hE, vE⟩ := id C
  intro x1 σ H locs ls hG hl hw
  obtain ⟨hP, hD, hS⟩ := id hG
  refine lv_aload_n hx hb dJ4_append_cf468_0 rfl (lv_at hl 0 rfl) ?_
  refine lv_iload_n hx hb dJ4_append_cf468_1 rfl (lv_at hl 1 rfl) ?_
  refine bSU_r (As := [.int x1]) (rest := []) C (met_J5_append_3fe6f vE vM vB hw) (va_cwSU 1 hts (TB_G (TB_5 tw_3_230 tw_6_222 tw_1_218 tw_3_231 tw_1_9) tw_3_232) rfl rfl rfl (by decide +kernel) ⟨by decide, by decide⟩) hP hD hS rfl hl.1 rfl (Nat.le_of_ble_eq_true rfl) dJ4_append_cf468_2 ⟨by decide, by decide⟩ (fun σ_2 H locs hw hP hD hS => ?_)
  have hG : zG D cA ab A s σ_2 H locs := ⟨hP, hD, hS⟩
  refine lv_pop hx hb dJ4_append_cf468_5 rfl ?_
  refine lv_aload_n hx hb dJ4_append_cf468_6 rfl (lv_at hl 0 rfl) ?_
  exact W.aret (v := .ref ab) hx hb hr (Or.inl ⟨_, rfl⟩) (Or.inr ⟨_, rfl⟩) (fun t ht hW => ⟨⟨σ_2, ab, rfl, hw, rfl, by rw [ht]; exact hP, va_K.moved hW.alike hK, hD⟩, hS.F ht⟩) hS.2.2 dJ4_append_cf468_7 hlk
set_option maxHeartbeats 4000000 in
set_option maxRecDepth 100000 in
theorem met_J4_append_cf468 {l : Launch} {E : EnvT} (vE : EnvOk E) {D : va_G} {cA : Nat → ClassId} {ab : Nat} {σ : BS} {aK aV aE : Nat → Nat} {aO : Nat} {dO dT : Nat} (vM : eXs aK aV aE aO E) (vB : eBs dO dT E) {sz : Nat} {x1 : Int32} {post : BS → Prop} (hw : wp_J4_append_cf468 post x1 σ) : Met l yJ4_append_cf468 wgJ4_append_cf468 rm_J4_append_cf468 (va_Pc [.ref ab, .int x1] (zPre E D cA ab sz σ)) (va_Qr post (fun u a t => a = ab ∧ zAt D cA ab (va_A (zW cA ab σ) sz) u t) (va_A (zW cA ab σ) sz)) 1 70 (va_A (zW cA ab σ) sz) := by
  refine Met.ofW (cc := cJ4_append_cf468) (maxL := 2) (ret := (some (.object "java/lang/StringBuilder"))) (by decide +kernel) rfl ?_
  intro p e s m args below meth c s₁ B hml hv
  obtain ⟨rfl, hsz, hP, hK, hD0, hE⟩ := hv
  subst hsz
  have hD := hD0.self (sz := s.heap.size)
  generalize hAe : va_A (zW cA ab σ) s.heap.size = A at hD hE ⊢
  have hA : ∀ q : Nat, s.heap.size ≤ q → A q := fun q h => by rw [← hAe]; exact Or.inr h
  have hS : va_S A s.heap s.heap [] := va_S.rf
  have C : zCx p s m _ meth c cJ4_append_cf468 2 (some (.object "java/lang/StringBuilder")) wgJ4_append_cf468 RJ4 E D cA A := ⟨B.exec, B.bytes, hml, B.returns, findClass_of_methodNamed B.named, atoms_spec (ws := wgJ4_append_cf468) B.pre, hK, hA, B.notSynchronized, hE, vE⟩
  have hG : zG D cA ab A s σ s.heap [] := ⟨hP, hD, hS⟩
  have hl := lv_entry ([.ref ab, .int x1]) (n := 2) (Nat.le_of_ble_eq_true rfl)
  rw [lg_entry_eq]
  generalize (lg_sl ([.ref ab, .int x1]) ++ List.replicate (2 - (lg_sl ([.ref ab, .int x1])).length) Slot.unset).toArray = ls at hl ⊢
  have hl : lv_has ls 2 [(0, .ref ab), (1, .int x1)] := hl
  exact k_J4_append_cf468 C vM vB x1 σ _ _ _ hG hl hw
/-! ===== J5_inflateIfNeededFor_a7421 ===== -/
def rm_J5_inflateIfNeededFor_a7421 : Room := { frames := 1, cells := 0, slots := 0, locals := 20 }
abbrev wgJ5_inflateIfNeededFor_a7421 : List Cond := .code yJ5_inflateIfNeededFor_a7421 cJ5_inflateIfNeededFor_a7421 2 none :: TB
def wB_J5_inflateIfNeededFor_a7421_21 (post : BS → Prop) (σ : BS) : Prop :=
  post σ
def wp_J5_inflateIfNeededFor_a7421 (post : BS → Prop) (e1 : Nat) (σ : BS) : Prop :=
  ((1 : Int32) = 0 → (wB_J5_inflateIfNeededFor_a7421_21 post σ)) ∧ (¬ (1 : Int32) = 0 → (e1 < nX ∧ wp_J0_coder_7d493 (fun r_1  => (0 = r_1 → (wB_J5_inflateIfNeededFor_a7421_21 post σ)) ∧ (¬ 0 = r_1 → (False))) e1))
set_option maxHeartbeats 4000000 in
set_option maxRecDepth 100000 in
theorem kB_J5_inflateIfNeededFor_a7421_21 {p : Program} {l : Launch} {e : Env} {s : State} {m : MethodId} {args : Array Value} {below : List Frame} {meth : Method} {c : Code} {A : Nat → Prop} {E : EnvT} {aK aV aE : Nat → Nat} {aO : Nat} {dO dT : Nat} {D : va_G} {cA : Nat → ClassId} {ab : Nat} (C : zCx p s m args meth c cJ5_inflateIfNeededFor_a7421 2 none wgJ5_inflateIfNeededFor_a7421 RJ5 E D cA A) (vM : eXs aK aV aE aO E) (vB : eBs dO dT E) {post : BS → Prop} :
    ∀ (σ : BS) (H : Heap) (locs : List Loc) (ls : Array Slot), zG D cA ab A s σ H locs → lv_has ls 2 [] → wB_J5_inflateIfNeededFor_a7421_21 post σ → W p l e rm_J5_inflateIfNeededFor_a7421 s m args below meth c H locs 0 0 (MQ below (va_Qv post (zAt D cA ab A) A) args s 0 0 A) (F0 m 21 ls []) := by
  obtain ⟨hx, hb, hml, hr, hown, hts, hK, hA, hlk, hE, vE⟩ := id C
  intro σ H locs ls hG hl hw
  obtain ⟨hP, hD, hS⟩ := id hG
  exact W.vret hx hb hr (fun t ht hW => ⟨⟨σ, rfl, hw, by rw [ht]; exact hP, va_K.moved hW.alike hK, hD⟩, hS.F ht⟩) hS.2.2 dJ5_inflateIfNeededFor_a7421_21 hlk
set_option maxHeartbeats 4000000 in
set_option maxRecDepth 100000 in
theorem k_J5_inflateIfNeededFor_a7421 {p : Program} {l : Launch} {e : Env} {s : State} {m : MethodId} {args : Array Value} {below : List Frame} {meth : Method} {c : Code} {A : Nat → Prop} {E : EnvT} {aK aV aE : Nat → Nat} {aO : Nat} {dO dT : Nat} {D : va_G} {cA : Nat → ClassId} {ab : Nat} (C : zCx p s m args meth c cJ5_inflateIfNeededFor_a7421 2 none wgJ5_inflateIfNeededFor_a7421 RJ5 E D cA A) (vM : eXs aK aV aE aO E) (vB : eBs dO dT E) {post : BS → Prop} :
    ∀ (e1 : Nat) (σ : BS) (H : Heap) (locs : List Loc) (ls : Array Slot), zG D cA ab A s σ H locs → lv_has ls 2 [(0, .ref ab), (1, .ref (aK e1))] → wp_J5_inflateIfNeededFor_a7421 post e1 σ → W p l e rm_J5_inflateIfNeededFor_a7421 s m args below meth c H locs 0 0 (MQ below (va_Qv post (zAt D cA ab A) A) args s 0 0 A) (F0 m 0 ls []) := by
  obtain ⟨hx, hb, hml, hr, hown, hts, hK, hA, hlk, hE, vE⟩ := id C
  intro e1 σ H locs ls hG hl hw
  obtain ⟨hP, hD, hS⟩ := id hG
  refine va_gets hx hb (eX.compact (vM _ _ _ hE)) hS hown (hts _ (List.mem_cons_of_mem _ tw_1_196)) (fun _ h => h) dJ5_inflateIfNeededFor_a7421_0 ?_
  refine lv_if_eq (tgt := 21) hx hb dJ5_inflateIfNeededFor_a7421_3 (by decide) (fun q_ => ?_) (fun q_ => ?_)
  · have hw := hw.1 q_
    exact kB_J5_inflateIfNeededFor_a7421_21 C vM vB  σ _ _ _ hG (lv_sub hl [] rfl) hw
  · have hw := hw.2 q_
    refine lv_aload_n hx hb dJ5_inflateIfNeededFor_a7421_6 rfl (lv_at hl 0 rfl) ?_
    refine va_get (D := D) (ci := 1) (v := .int 0) (C := RJ4) (T := TJ4) (N := 4) hx hb hts (in_tb inJ4) hown hK hP 0 rfl rfl 1 (by decide) (hts _ (List.mem_cons_of_mem _ tw_1_206)) (fun _ h9 => h9) rfl dJ5_inflateIfNeededFor_a7421_7 ?_
    refine lv_aload_n hx hb dJ5_inflateIfNeededFor_a7421_10 rfl (lv_at hl 1 rfl) ?_
    obtain ⟨h_3, hw⟩ := hw
    refine zO_i (As := []) (rest := [.int 0]) C (met_J0_coder_7d493 vE vM hw) (va_Orecv (eX.s_obj (vM _ _ _ hE) h_3) hS) (cwV 0 hts (TB_G (TB_4 tw_3_86 tw_2_52 tw_2_53 tw_1_11) tw_2_54) rfl rfl rfl (by decide +kernel) ⟨by decide, by decide⟩) hP hD hS rfl hl.1 rfl (Nat.le_of_ble_eq_true rfl) dJ5_inflateIfNeededFor_a7421_11 ⟨by decide, by decide⟩ (fun r_1 H locs hw hP hS => ?_)
    have hG : zG D cA ab A s σ H locs := ⟨hP, hD, hS⟩
    refine lv_icmp_eq (tgt := 21) hx hb dJ5_inflateIfNeededFor_a7421_14 (by decide) (fun q_ => ?_) (fun q_ => ?_)
    · have hw := hw.1 q_
      exact kB_J5_inflateIfNeededFor_a7421_21 C vM vB  σ _ _ _ hG (lv_sub hl [] rfl) hw
    · have hw := hw.2 q_
      refine lv_aload_n hx hb dJ5_inflateIfNeededFor_a7421_17 rfl (lv_at hl 0 rfl) ?_
      exact hw.elim
set_option maxHeartbeats 4000000 in
set_option maxRecDepth 100000 in
theorem met_J5_inflateIfNeededFor_a7421 {l : Launch} {E : EnvT} (vE : EnvOk E) {D : va_G} {cA : Nat → ClassId} {ab : Nat} {σ : BS} {aK aV aE : Nat → Nat} {aO : Nat} {dO dT : Nat} (vM : eXs aK aV aE aO E) (vB : eBs dO dT E) {sz : Nat} {e1 : Nat} {post : BS → Prop} (hw : wp_J5_inflateIfNeededFor_a7421 post e1 σ) : Met l yJ5_inflateIfNeededFor_a7421 wgJ5_inflateIfNeededFor_a7421 rm_J5_inflateIfNeededFor_a7421 (va_Pc [.ref ab, .ref (aK e1)] (zPre E D cA ab sz σ)) (va_Qv post (zAt D cA ab (va_A (zW cA ab σ) sz)) (va_A (zW cA ab σ) sz)) 0 0 (va_A (zW cA ab σ) sz) := by
  refine Met.ofW (cc := cJ5_inflateIfNeededFor_a7421) (maxL := 2) (ret := none) (by decide +kernel) rfl ?_
  intro p e s m args below meth c s₁ B hml hv
  obtain ⟨rfl, hsz, hP, hK, hD0, hE⟩ := hv
  subst hsz
  have hD := hD0.self (sz := s.heap.size)
  generalize hAe : va_A (zW cA ab σ) s.heap.size = A at hD hE ⊢
  have hA : ∀ q : Nat, s.heap.size ≤ q → A q := fun q h => by rw [← hAe]; exact Or.inr h
  have hS : va_S A s.heap s.heap [] := va_S.rf
  have C : zCx p s m _ meth c cJ5_inflateIfNeededFor_a7421 2 none wgJ5_inflateIfNeededFor_a7421 RJ5 E D cA A := ⟨B.exec, B.bytes, hml, B.returns, findClass_of_methodNamed B.named, atoms_spec (ws := wgJ5_inflateIfNeededFor_a7421) B.pre, hK, hA, B.notSynchronized, hE, vE⟩
  have hG : zG D cA ab A s σ s.heap [] := ⟨hP, hD, hS⟩
  have hl := lv_entry ([.ref ab, .ref (aK e1)]) (n := 2) (Nat.le_of_ble_eq_true rfl)
  rw [lg_entry_eq]
  generalize (lg_sl ([.ref ab, .ref (aK e1)]) ++ List.replicate (2 - (lg_sl ([.ref ab, .ref (aK e1)])).length) Slot.unset).toArray = ls at hl ⊢
  have hl : lv_has ls 2 [(0, .ref ab), (1, .ref (aK e1))] := hl
  exact k_J5_inflateIfNeededFor_a7421 C vM vB e1 σ _ _ _ hG hl hw
/-! ===== J0_getBytes_840e7 ===== -/
def rm_J0_getBytes_840e7 : Room := { frames := 1, cells := 0, slots := 0, locals := 80 }
abbrev wgJ0_getBytes_840e7 : List Cond := .code yJ0_getBytes_840e7 cJ0_getBytes_840e7 4 none :: TB
def wB_J0_getBytes_840e7_43 (post : BS → Prop) (σ : BS) : Prop :=
  post σ
def wp_J0_getBytes_840e7 (post : BS → Prop) (e0 : Nat) (x2 : Int32) (x3 : Int32) (σ : BS) : Prop :=
  e0 < nX ∧ wp_J0_coder_7d493 (fun r_1  => (r_1 = x3 → (e0 < nX ∧ (e0 < nX ∧ (e0 < nX ∧ (e0 < nX ∧ ¬ (0 : Int32) < 0 ∧ ¬ (x2 <<< (x3 &&& 31)) < 0 ∧ ¬ (Int32.ofNat (lenX.getD e0 0)) < 0 ∧ (0 : Int32).toNatClampNeg + (Int32.ofNat (lenX.getD e0 0)).toNatClampNeg ≤ (lenX.getD e0 0) ∧ (x2 <<< (x3 &&& 31)).toNatClampNeg + (Int32.ofNat (lenX.getD e0 0)).toNatClampNeg ≤ (zN σ 1) ∧ (∀ i : Nat, i < (Int32.ofNat (lenX.getD e0 0)).toNatClampNeg → fits .byte (.int ((fun j => (bytX.getD e0 []).getD j 0) ((0 : Int32).toNatClampNeg + i))) = true) ∧ (wB_J0_getBytes_840e7_43 post (jAs σ 0 (va_cpy (fun j => (bytX.getD e0 []).getD j 0) (zA σ 0) (0 : Int32).toNatClampNeg (x2 <<< (x3 &&& 31)).toNatClampNeg (Int32.ofNat (lenX.getD e0 0)).toNatClampNeg)))))))) ∧ (¬ r_1 = x3 → (e0 < nX ∧ (e0 < nX ∧ (e0 < nX ∧ (False)))))) e0
set_option maxHeartbeats 4000000 in
set_option maxRecDepth 100000 in
theorem kB_J0_getBytes_840e7_43 {p : Program} {l : Launch} {e : Env} {s : State} {m : MethodId} {args : Array Value} {below : List Frame} {meth : Method} {c : Code} {A : Nat → Prop} {E : EnvT} {aK aV aE : Nat → Nat} {aO : Nat} {dO dT : Nat} {D : va_G} {cA : Nat → ClassId} {ab : Nat} (C : zCx p s m args meth c cJ0_getBytes_840e7 4 none wgJ0_getBytes_840e7 RJ0 E D cA A) (vM : eXs aK aV aE aO E) (vB : eBs dO dT E) {post : BS → Prop} :
    ∀ (σ : BS) (H : Heap) (locs : List Loc) (ls : Array Slot), zG D cA ab A s σ H locs → lv_has ls 4 [] → wB_J0_getBytes_840e7_43 post σ → W p l e rm_J0_getBytes_840e7 s m args below meth c H locs 0 0 (MQ below (va_Qv post (zAt D cA ab A) A) args s 0 0 A) (F0 m 43 ls []) := by
  obtain ⟨hx, hb, hml, hr, hown, hts, hK, hA, hlk, hE, vE⟩ := id C
  intro σ H locs ls hG hl hw
  obtain ⟨hP, hD, hS⟩ := id hG
  exact W.vret hx hb hr (fun t ht hW => ⟨⟨σ, rfl, hw, by rw [ht]; exact hP, va_K.moved hW.alike hK, hD⟩, hS.F ht⟩) hS.2.2 dJ0_getBytes_840e7_43 hlk
set_option maxHeartbeats 4000000 in
set_option maxRecDepth 100000 in
theorem k_J0_getBytes_840e7 {p : Program} {l : Launch} {e : Env} {s : State} {m : MethodId} {args : Array Value} {below : List Frame} {meth : Method} {c : Code} {A : Nat → Prop} {E : EnvT} {aK aV aE : Nat → Nat} {aO : Nat} {dO dT : Nat} {D : va_G} {cA : Nat → ClassId} {ab : Nat} (C : zCx p s m args meth c cJ0_getBytes_840e7 4 none wgJ0_getBytes_840e7 RJ0 E D cA A) (vM : eXs aK aV aE aO E) (vB : eBs dO dT E) {post : BS → Prop} :
    ∀ (e0 : Nat) (x2 : Int32) (x3 : Int32) (σ : BS) (H : Heap) (locs : List Loc) (ls : Array Slot), zG D cA ab A s σ H locs → lv_has ls 4 [(0, .ref (aK e0)), (1, .ref (zN σ 0)), (2, .int x2), (3, .int x3)] → wp_J0_getBytes_840e7 post e0 x2 x3 σ → W p l e rm_J0_getBytes_840e7 s m args below meth c H locs 0 0 (MQ below (va_Qv post (zAt D cA ab A) A) args s 0 0 A) (F0 m 0 ls []) := by
  obtain ⟨hx, hb, hml, hr, hown, hts, hK, hA, hlk, hE, vE⟩ := id C
  intro e0 x2 x3 σ H locs ls hG hl hw
  obtain ⟨hP, hD, hS⟩ := id hG
  refine lv_aload_n hx hb dJ0_getBytes_840e7_0 rfl (lv_at hl 0 rfl) ?_
  obtain ⟨h_16, hw⟩ := hw
  refine zO_i (As := []) (rest := []) C (met_J0_coder_7d493 vE vM hw) (va_Orecv (eX.s_obj (vM _ _ _ hE) h_16) hS) (cwV 0 hts (TB_G (TB_4 tw_2_51 tw_2_52 tw_2_53 tw_1_11) tw_2_54) rfl rfl rfl (by decide +kernel) ⟨by decide, by decide⟩) hP hD hS rfl hl.1 rfl (Nat.le_of_ble_eq_true rfl) dJ0_getBytes_840e7_1 ⟨by decide, by decide⟩ (fun r_1 H locs hw hP hS => ?_)
  have hG : zG D cA ab A s σ H locs := ⟨hP, hD, hS⟩
  refine lv_iload_n hx hb dJ0_getBytes_840e7_4 rfl (lv_at hl 3 rfl) ?_
  refine lv_icmp_ne (tgt := 28) hx hb dJ0_getBytes_840e7_5 (by decide) (fun q_ => ?_) (fun q_ => ?_)
  · have hw := hw.2 q_
    refine lv_aload_n hx hb dJ0_getBytes_840e7_28 rfl (lv_at hl 0 rfl) ?_
    obtain ⟨h_3, hw⟩ := hw
    refine vk_getf hx hb (eX.s_value (vM _ _ _ hE) h_3) hS hown (hts _ (List.mem_cons_of_mem _ tw_3_211)) (fun _ h => h) dJ0_getBytes_840e7_29 ?_
    refine lv_iconst (v := 0) hx hb dJ0_getBytes_840e7_32 (by decide) ?_
    refine lv_aload_n hx hb dJ0_getBytes_840e7_33 rfl (lv_at hl 1 rfl) ?_
    refine lv_iload_n hx hb dJ0_getBytes_840e7_34 rfl (lv_at hl 2 rfl) ?_
    refine lv_aload_n hx hb dJ0_getBytes_840e7_35 rfl (lv_at hl 0 rfl) ?_
    obtain ⟨h_4, hw⟩ := hw
    refine vk_getf hx hb (eX.s_value (vM _ _ _ hE) h_4) hS hown (hts _ (List.mem_cons_of_mem _ tw_3_211)) (fun _ h => h) dJ0_getBytes_840e7_36 ?_
    obtain ⟨h_5, hw⟩ := hw
    refine va_tlen hx hb (eX.s_row (vM _ _ _ hE) h_5) hS rfl dJ0_getBytes_840e7_39 ?_
    exact hw.elim
  · have hw := hw.1 q_
    refine lv_aload_n hx hb dJ0_getBytes_840e7_8 rfl (lv_at hl 0 rfl) ?_
    obtain ⟨h_6, hw⟩ := hw
    refine vk_getf hx hb (eX.s_value (vM _ _ _ hE) h_6) hS hown (hts _ (List.mem_cons_of_mem _ tw_3_211)) (fun _ h => h) dJ0_getBytes_840e7_9 ?_
    refine lv_iconst (v := 0) hx hb dJ0_getBytes_840e7_12 (by decide) ?_
    refine lv_aload_n hx hb dJ0_getBytes_840e7_13 rfl (lv_at hl 1 rfl) ?_
    refine lv_iload_n hx hb dJ0_getBytes_840e7_14 rfl (lv_at hl 2 rfl) ?_
    refine lv_iload_n hx hb dJ0_getBytes_840e7_15 rfl (lv_at hl 3 rfl) ?_
    refine lv_ishl hx hb dJ0_getBytes_840e7_16 ?_
    refine lv_aload_n hx hb dJ0_getBytes_840e7_17 rfl (lv_at hl 0 rfl) ?_
    obtain ⟨h_7, hw⟩ := hw
    refine vk_getf hx hb (eX.s_value (vM _ _ _ hE) h_7) hS hown (hts _ (List.mem_cons_of_mem _ tw_3_211)) (fun _ h => h) dJ0_getBytes_840e7_18 ?_
    obtain ⟨h_8, hw⟩ := hw
    refine va_tlen hx hb (eX.s_row (vM _ _ _ hE) h_8) hS rfl dJ0_getBytes_840e7_21 ?_
    obtain ⟨h_9, h_10, h_11, h_12, h_13, h_14, h_15, hw⟩ := hw
    refine vk_copyt (f := (fun j => (bytX.getD e0 []).getD j 0)) hx hb (hml.trans hl.1.symm) hown (hts _ (List.mem_cons_of_mem _ tw_3_110)) (hts _ (List.mem_cons_of_mem _ tw_3_2)) (hts _ (List.mem_cons_of_mem _ tw_3_1)) (hts _ (List.mem_cons_of_mem _ tw_1_24)) hK hP hD hS (eX.s_row (vM _ _ _ hE) h_9) 1 4 (zW_at rfl rfl) rfl h_10 h_11 h_12 h_13 h_14 h_15 (by decide) (by decide +kernel) dJ0_getBytes_840e7_22 (fun H locs hP hD hS => ?_)
    have hG : zG D cA ab A s (jAs σ 0 (va_cpy (fun j => (bytX.getD e0 []).getD j 0) (zA σ 0) (0 : Int32).toNatClampNeg (x2 <<< (x3 &&& 31)).toNatClampNeg (Int32.ofNat (lenX.getD e0 0)).toNatClampNeg)) H locs := ⟨hP, hD, hS⟩
    obtain ⟨hP, hD, hS⟩ := id hG
    refine lv_goto (tgt := 43) hx hb dJ0_getBytes_840e7_25 (by decide) ?_
    exact kB_J0_getBytes_840e7_43 C vM vB  (jAs σ 0 (va_cpy (fun j => (bytX.getD e0 []).getD j 0) (zA σ 0) (0 : Int32).toNatClampNeg (x2 <<< (x3 &&& 31)).toNatClampNeg (Int32.ofNat (lenX.getD e0 0)).toNatClampNeg)) _ _ _ hG (lv_sub hl [] rfl) hw
set_option maxHeartbeats 4000000 in
set_option maxRecDepth 100000 in
theorem met_J0_getBytes_840e7 {l : Launch} {E : EnvT} (vE : EnvOk E) {D : va_G} {cA : Nat → ClassId} {ab : Nat} {σ : BS} {aK aV aE : Nat → Nat} {aO : Nat} {dO dT : Nat} (vM : eXs aK aV aE aO E) (vB : eBs dO dT E) {sz : Nat} {e0 : Nat} {x2 : Int32} {x3 : Int32} {post : BS → Prop} (hw : wp_J0_getBytes_840e7 post e0 x2 x3 σ) : Met l yJ0_getBytes_840e7 wgJ0_getBytes_840e7 rm_J0_getBytes_840e7 (va_Pc [.ref (aK e0), .ref (zN σ 0), .int x2, .int x3] (zPre E D cA ab sz σ)) (va_Qv post (zAt D cA ab (va_A (zW cA ab σ) sz)) (va_A (zW cA ab σ) sz)) 0 0 (va_A (zW cA ab σ) sz) := by
  refine Met.ofW (cc := cJ0_getBytes_840e7) (maxL := 4) (ret := none) (by decide +kernel) rfl ?_
  intro p e s m args below meth c s₁ B hml hv
  obtain ⟨rfl, hsz, hP, hK, hD0, hE⟩ := hv
  subst hsz
  have hD := hD0.self (sz := s.heap.size)
  generalize hAe : va_A (zW cA ab σ) s.heap.size = A at hD hE ⊢
  have hA : ∀ q : Nat, s.heap.size ≤ q → A q := fun q h => by rw [← hAe]; exact Or.inr h
  have hS : va_S A s.heap s.heap [] := va_S.rf
  have C : zCx p s m _ meth c cJ0_getBytes_840e7 4 none wgJ0_getBytes_840e7 RJ0 E D cA A := ⟨B.exec, B.bytes, hml, B.returns, findClass_of_methodNamed B.named, atoms_spec (ws := wgJ0_getBytes_840e7) B.pre, hK, hA, B.notSynchronized, hE, vE⟩
  have hG : zG D cA ab A s σ s.heap [] := ⟨hP, hD, hS⟩
  have hl := lv_entry ([.ref (aK e0), .ref (zN σ 0), .int x2, .int x3]) (n := 4) (Nat.le_of_ble_eq_true rfl)
  rw [lg_entry_eq]
  generalize (lg_sl ([.ref (aK e0), .ref (zN σ 0), .int x2, .int x3]) ++ List.replicate (4 - (lg_sl ([.ref (aK e0), .ref (zN σ 0), .int x2, .int x3])).length) Slot.unset).toArray = ls at hl ⊢
  have hl : lv_has ls 4 [(0, .ref (aK e0)), (1, .ref (zN σ 0)), (2, .int x2), (3, .int x3)] := hl
  exact k_J0_getBytes_840e7 C vM vB e0 x2 x3 σ _ _ _ hG hl hw
/-! ===== J5_putStringAt_47b60 ===== -/
def rm_J5_putStringAt_47b60 : Room := { frames := 2, cells := 0, slots := 0, locals := 103 }
abbrev wgJ5_putStringAt_47b60 : List Cond := .code yJ5_putStringAt_47b60 cJ5_putStringAt_47b60 3 none :: TB
def wp_J5_putStringAt_47b60 (post : BS → Prop) (x1 : Int32) (e2 : Nat) (σ : BS) : Prop :=
  wp_J5_inflateIfNeededFor_a7421 (fun σ_2 => e2 < nX ∧ wp_J0_getBytes_840e7 (fun σ_4 => post σ_4) e2 x1 0 σ_2) e2 σ
set_option maxHeartbeats 4000000 in
set_option maxRecDepth 100000 in
theorem k_J5_putStringAt_47b60 {p : Program} {l : Launch} {e : Env} {s : State} {m : MethodId} {args : Array Value} {below : List Frame} {meth : Method} {c : Code} {A : Nat → Prop} {E : EnvT} {aK aV aE : Nat → Nat} {aO : Nat} {dO dT : Nat} {D : va_G} {cA : Nat → ClassId} {ab : Nat} (C : zCx p s m args meth c cJ5_putStringAt_47b60 3 none wgJ5_putStringAt_47b60 RJ5 E D cA A) (vM : eXs aK aV aE aO E) (vB : eBs dO dT E) {post : BS → Prop} :
    ∀ (x1 : Int32) (e2 : Nat) (σ : BS) (H : Heap) (locs : List Loc) (ls : Array Slot), zG D cA ab A s σ H locs → lv_has ls 3 [(0, .ref ab), (1, .int x1), (2, .ref (aK e2))] → wp_J5_putStringAt_47b60 post x1 e2 σ → W p l e rm_J5_putStringAt_47b60 s m args below meth c H locs 0 0 (MQ below (va_Qv post (zAt D cA ab A) A) args s 0 0 A) (F0 m 0 ls []) := by
  obtain ⟨hx, hb, hml, hr, hown, hts, hK, hA, hlk, hE, vE⟩ := id C
  intro x1 e2 σ H locs ls hG hl hw
  obtain ⟨hP, hD, hS⟩ := id hG
  refine lv_aload_n hx hb dJ5_putStringAt_47b60_0 rfl (lv_at hl 0 rfl) ?_
  refine lv_aload_n hx hb dJ5_putStringAt_47b60_1 rfl (lv_at hl 2 rfl) ?_
  refine bU_v (As := [.ref (aK e2)]) (rest := []) C (met_J5_inflateIfNeededFor_a7421 vE vM vB hw) (b_cu 1 hts (TB_G (pre := []) (fun _ h => nomatch h) tw_3_85) rfl rfl rfl (hts _ (List.mem_cons_of_mem _ tw_3_82)) (hts _ (List.mem_cons_of_mem _ tw_6_219)) (hts _ (List.mem_cons_of_mem _ tw_3_84)) (hts _ (List.mem_cons_of_mem _ tw_1_9)) (va_Nw.use rfl (vB _ _ _ hE).2.2.2.1) (by decide +kernel) ⟨by decide, by decide⟩) hP hD hS rfl hl.1 rfl (Nat.le_of_ble_eq_true rfl) dJ5_putStringAt_47b60_2 ⟨by decide, by decide⟩ (fun σ_2 H locs hw hP hD hS => ?_)
  have hG : zG D cA ab A s σ_2 H locs := ⟨hP, hD, hS⟩
  refine lv_aload_n hx hb dJ5_putStringAt_47b60_5 rfl (lv_at hl 2 rfl) ?_
  refine lv_aload_n hx hb dJ5_putStringAt_47b60_6 rfl (lv_at hl 0 rfl) ?_
  refine va_get (D := D) (ci := 1) (v := .ref (zN σ_2 0)) (C := RJ4) (T := TJ4) (N := 4) hx hb hts (in_tb inJ4) hown hK hP 0 rfl rfl 0 (by decide) (hts _ (List.mem_cons_of_mem _ tw_1_205)) (fun _ h9 => h9) rfl dJ5_putStringAt_47b60_7 ?_
  refine lv_iload_n hx hb dJ5_putStringAt_47b60_10 rfl (lv_at hl 1 rfl) ?_
  refine lv_aload_n hx hb dJ5_putStringAt_47b60_11 rfl (lv_at hl 0 rfl) ?_
  refine va_get (D := D) (ci := 1) (v := .int 0) (C := RJ4) (T := TJ4) (N := 4) hx hb hts (in_tb inJ4) hown hK hP 0 rfl rfl 1 (by decide) (hts _ (List.mem_cons_of_mem _ tw_1_206)) (fun _ h9 => h9) rfl dJ5_putStringAt_47b60_12 ?_
  obtain ⟨h_5, hw⟩ := hw
  refine bOV_v (As := [.ref (zN σ_2 0), .int x1, .int 0]) (rest := []) C (met_J0_getBytes_840e7 vE vM vB hw) (va_Orecv (eX.s_obj (vM _ _ _ hE) h_5) hS) (cwV 3 hts (TB_G (TB_4 tw_3_106 tw_3_107 tw_3_108 tw_1_11) tw_3_109) rfl rfl rfl (by decide +kernel) ⟨by decide, by decide⟩) hP hD hS rfl hl.1 rfl (Nat.le_of_ble_eq_true rfl) dJ5_putStringAt_47b60_15 ⟨by decide, by decide⟩ (fun σ_4 H locs hw hP hD hS => ?_)
  have hG : zG D cA ab A s σ_4 H locs := ⟨hP, hD, hS⟩
  exact W.vret hx hb hr (fun t ht hW => ⟨⟨σ_4, rfl, hw, by rw [ht]; exact hP, va_K.moved hW.alike hK, hD⟩, hS.F ht⟩) hS.2.2 dJ5_putStringAt_47b60_18 hlk
set_option maxHeartbeats 4000000 in
set_option maxRecDepth 100000 in
theorem met_J5_putStringAt_47b60 {l : Launch} {E : EnvT} (vE : EnvOk E) {D : va_G} {cA : Nat → ClassId} {ab : Nat} {σ : BS} {aK aV aE : Nat → Nat} {aO : Nat} {dO dT : Nat} (vM : eXs aK aV aE aO E) (vB : eBs dO dT E) {sz : Nat} {x1 : Int32} {e2 : Nat} {post : BS → Prop} (hw : wp_J5_putStringAt_47b60 post x1 e2 σ) : Met l yJ5_putStringAt_47b60 wgJ5_putStringAt_47b60 rm_J5_putStringAt_47b60 (va_Pc [.ref ab, .int x1, .ref (aK e2)] (zPre E D cA ab sz σ)) (va_Qv post (zAt D cA ab (va_A (zW cA ab σ) sz)) (va_A (zW cA ab σ) sz)) 0 0 (va_A (zW cA ab σ) sz) := by
  refine Met.ofW (cc := cJ5_putStringAt_47b60) (maxL := 3) (ret := none) (by decide +kernel) rfl ?_
  intro p e s m args below meth c s₁ B hml hv
  obtain ⟨rfl, hsz, hP, hK, hD0, hE⟩ := hv
  subst hsz
  have hD := hD0.self (sz := s.heap.size)
  generalize hAe : va_A (zW cA ab σ) s.heap.size = A at hD hE ⊢
  have hA : ∀ q : Nat, s.heap.size ≤ q → A q := fun q h => by rw [← hAe]; exact Or.inr h
  have hS : va_S A s.heap s.heap [] := va_S.rf
  have C : zCx p s m _ meth c cJ5_putStringAt_47b60 3 none wgJ5_putStringAt_47b60 RJ5 E D cA A := ⟨B.exec, B.bytes, hml, B.returns, findClass_of_methodNamed B.named, atoms_spec (ws := wgJ5_putStringAt_47b60) B.pre, hK, hA, B.notSynchronized, hE, vE⟩
  have hG : zG D cA ab A s σ s.heap [] := ⟨hP, hD, hS⟩
  have hl := lv_entry ([.ref ab, .int x1, .ref (aK e2)]) (n := 3) (Nat.le_of_ble_eq_true rfl)
  rw [lg_entry_eq]
  generalize (lg_sl ([.ref ab, .int x1, .ref (aK e2)]) ++ List.replicate (3 - (lg_sl ([.ref ab, .int x1, .ref (aK e2)])).length) Slot.unset).toArray = ls at hl ⊢
  have hl : lv_has ls 3 [(0, .ref ab), (1, .int x1), (2, .ref (aK e2))] := hl
  exact k_J5_putStringAt_47b60 C vM vB x1 e2 σ _ _ _ hG hl hw
/-! ===== J5_append_cf1ce ===== -/
def rm_J5_append_cf1ce : Room := { frames := 5, cells := 1, slots := 70, locals := 142 }
abbrev wgJ5_append_cf1ce : List Cond := .code yJ5_append_cf1ce cJ5_append_cf1ce 3 (some (.object "java/lang/AbstractStringBuilder")) :: TB
def wp_J5_append_cf1ce (post : BS → Prop) (e1 : Nat) (σ : BS) : Prop :=
  e1 < nX ∧ wp_J0_length_8abf5 (fun r_1  => wp_J5_ensureCapacityInternal_d00df (fun σ_4 => wp_J5_putStringAt_47b60 (fun σ_6 => post (jI σ_6 1 ((zI σ_6 1) + r_1))) (zI σ_4 1) e1 σ_4) ((zI σ 1) + r_1) σ) e1
set_option maxHeartbeats 4000000 in
set_option maxRecDepth 100000 in
theorem k_J5_append_cf1ce {p : Program} {l : Launch} {e : Env} {s : State} {m : MethodId} {args : Array Value} {below : List Frame} {meth : Method} {c : Code} {A : Nat → Prop} {E : EnvT} {aK aV aE : Nat → Nat} {aO : Nat} {dO dT : Nat} {D : va_G} {cA : Nat → ClassId} {ab : Nat} (C : zCx p s m args meth c cJ5_append_cf1ce 3 (some (.object "java/lang/AbstractStringBuilder")) wgJ5_append_cf1ce RJ5 E D cA A) (vM : eXs aK aV aE aO E) (vB : eBs dO dT E) {post : BS → Prop} :
    ∀ (e1 : Nat) (σ : BS) (H : Heap) (locs : List Loc) (ls : Array Slot), zG D cA ab A s σ H locs → lv_has ls 3 [(0, .ref ab), (1, .ref (aK e1))] → wp_J5_append_cf1ce post e1 σ → W p l e rm_J5_append_cf1ce s m args below meth c H locs 0 0 (MQ below (va_Qr post (fun u a t => a = ab ∧ zAt D cA ab A u t) A) args s 1 70 A) (F0 m 0 ls []) := by
  obtain ⟨hx, hb, hml, hr, hown, hts, hK, hA, hlk, hE, vE⟩ := id C
  intro e1 σ H locs ls hG hl hw
  obtain ⟨hP, hD, hS⟩ := id hG
  refine lv_aload_n hx hb dJ5_append_cf1ce_0 rfl (lv_at hl 1 rfl) ?_
  refine lv_ifnonnull (tgt := 9) hx hb dJ5_append_cf1ce_1 (by decide) ?_
  refine lv_aload_n hx hb dJ5_append_cf1ce_9 rfl (lv_at hl 1 rfl) ?_
  obtain ⟨h_7, hw⟩ := hw
  refine zO_i (As := []) (rest := []) C (met_J0_length_8abf5 vE vM hw) (va_Orecv (eX.s_obj (vM _ _ _ hE) h_7) hS) (cwV 0 hts (TB_G (TB_4 tw_3_77 tw_2_48 tw_2_49 tw_1_11) tw_2_50) rfl rfl rfl (by decide +kernel) ⟨by decide, by decide⟩) hP hD hS rfl hl.1 rfl (Nat.le_of_ble_eq_true rfl) dJ5_append_cf1ce_10 ⟨by decide, by decide⟩ (fun r_1 H locs hw hP hS => ?_)
  have hG : zG D cA ab A s σ H locs := ⟨hP, hD, hS⟩
  refine lv_istore_n (lv' := [(2, .int r_1), (0, .ref ab), (1, .ref (aK e1))]) hx hb dJ5_append_cf1ce_13 rfl hl (by decide) rfl (fun ls hl => ?_)
  refine lv_aload_n hx hb dJ5_append_cf1ce_14 rfl (lv_at hl 1 rfl) ?_
  refine lv_aload_n hx hb dJ5_append_cf1ce_15 rfl (lv_at hl 1 rfl) ?_
  refine va_get (D := D) (ci := 1) (v := .int (zI σ 1)) (C := RJ4) (T := TJ4) (N := 4) hx hb hts (in_tb inJ4) hown hK hP 0 rfl rfl 3 (by decide) (hts _ (List.mem_cons_of_mem _ tw_1_209)) (fun _ h9 => h9) rfl dJ5_append_cf1ce_16 ?_
  refine lv_iload_n hx hb dJ5_append_cf1ce_19 rfl (lv_at hl 0 rfl) ?_
  refine lv_iadd hx hb dJ5_append_cf1ce_20 ?_
  refine bU_v (As := [.int ((zI σ 1) + r_1)]) (rest := []) C (met_J5_ensureCapacityInternal_d00df vE vM vB hw) (b_cu 1 hts (TB_G (pre := []) (fun _ h => nomatch h) tw_2_215) rfl rfl rfl (hts _ (List.mem_cons_of_mem _ tw_2_212)) (hts _ (List.mem_cons_of_mem _ tw_6_213)) (hts _ (List.mem_cons_of_mem _ tw_2_214)) (hts _ (List.mem_cons_of_mem _ tw_1_9)) (va_Nw.use rfl (vB _ _ _ hE).1) (by decide +kernel) ⟨by decide, by decide⟩) hP hD hS rfl hl.1 rfl (Nat.le_of_ble_eq_true rfl) dJ5_append_cf1ce_21 ⟨by decide, by decide⟩ (fun σ_4 H locs hw hP hD hS => ?_)
  have hG : zG D cA ab A s σ_4 H locs := ⟨hP, hD, hS⟩
  refine lv_aload_n hx hb dJ5_append_cf1ce_24 rfl (lv_at hl 1 rfl) ?_
  refine lv_aload_n hx hb dJ5_append_cf1ce_25 rfl (lv_at hl 1 rfl) ?_
  refine va_get (D := D) (ci := 1) (v := .int (zI σ_4 1)) (C := RJ4) (T := TJ4) (N := 4) hx hb hts (in_tb inJ4) hown hK hP 0 rfl rfl 3 (by decide) (hts _ (List.mem_cons_of_mem _ tw_1_209)) (fun _ h9 => h9) rfl dJ5_append_cf1ce_26 ?_
  refine lv_aload_n hx hb dJ5_append_cf1ce_29 rfl (lv_at hl 2 rfl) ?_
  refine bU_v (As := [.int (zI σ_4 1), .ref (aK e1)]) (rest := []) C (met_J5_putStringAt_47b60 vE vM vB hw) (b_cu 2 hts (TB_G (pre := []) (fun _ h => nomatch h) tw_3_81) rfl rfl rfl (hts _ (List.mem_cons_of_mem _ tw_3_78)) (hts _ (List.mem_cons_of_mem _ tw_6_218)) (hts _ (List.mem_cons_of_mem _ tw_3_80)) (hts _ (List.mem_cons_of_mem _ tw_1_9)) (va_Nw.use rfl (vB _ _ _ hE).2.2.1) (by decide +kernel) ⟨by decide, by decide⟩) hP hD hS rfl hl.1 rfl (Nat.le_of_ble_eq_true rfl) dJ5_append_cf1ce_30 ⟨by decide, by decide⟩ (fun σ_6 H locs hw hP hD hS => ?_)
  have hG : zG D cA ab A s σ_6 H locs := ⟨hP, hD, hS⟩
  refine lv_aload_n hx hb dJ5_append_cf1ce_33 rfl (lv_at hl 1 rfl) ?_
  refine lv_dup hx hb dJ5_append_cf1ce_34 rfl ?_
  refine va_get (D := D) (ci := 1) (v := .int (zI σ_6 1)) (C := RJ4) (T := TJ4) (N := 4) hx hb hts (in_tb inJ4) hown hK hP 0 rfl rfl 3 (by decide) (hts _ (List.mem_cons_of_mem _ tw_1_209)) (fun _ h9 => h9) rfl dJ5_append_cf1ce_35 ?_
  refine lv_iload_n hx hb dJ5_append_cf1ce_38 rfl (lv_at hl 0 rfl) ?_
  refine lv_iadd hx hb dJ5_append_cf1ce_39 ?_
  refine va_put (D := D) (ci := 1) (v := .int ((zI σ_6 1) + r_1)) (ty := .int) (C := RJ4) (T := TJ4) (N := 4) hx hb hts (in_tb inJ4) tyJ4 tyJ4_ok nmJ4 hown hK hP hD hS 0 rfl rfl 3 (by decide) (hts _ (List.mem_cons_of_mem _ tw_1_209)) (fun _ h9 => h9) rfl (by decide +kernel) rfl rfl (Nat.le_of_ble_eq_true rfl) dJ5_append_cf1ce_40 (fun H locs hP hD hS => ?_)
  have hG : zG D cA ab A s (jI σ_6 1 ((zI σ_6 1) + r_1)) H locs := ⟨hP, hD, hS⟩
  obtain ⟨hP, hD, hS⟩ := id hG
  refine lv_aload_n hx hb dJ5_append_cf1ce_43 rfl (lv_at hl 1 rfl) ?_
  exact W.aret (v := .ref ab) hx hb hr (Or.inl ⟨_, rfl⟩) (Or.inr ⟨_, rfl⟩) (fun t ht hW => ⟨⟨(jI σ_6 1 ((zI σ_6 1) + r_1)), ab, rfl, hw, rfl, by rw [ht]; exact hP, va_K.moved hW.alike hK, hD⟩, hS.F ht⟩) hS.2.2 dJ5_append_cf1ce_44 hlk
set_option maxHeartbeats 4000000 in
set_option maxRecDepth 100000 in
theorem met_J5_append_cf1ce {l : Launch} {E : EnvT} (vE : EnvOk E) {D : va_G} {cA : Nat → ClassId} {ab : Nat} {σ : BS} {aK aV aE : Nat → Nat} {aO : Nat} {dO dT : Nat} (vM : eXs aK aV aE aO E) (vB : eBs dO dT E) {sz : Nat} {e1 : Nat} {post : BS → Prop} (hw : wp_J5_append_cf1ce post e1 σ) : Met l yJ5_append_cf1ce wgJ5_append_cf1ce rm_J5_append_cf1ce (va_Pc [.ref ab, .ref (aK e1)] (zPre E D cA ab sz σ)) (va_Qr post (fun u a t => a = ab ∧ zAt D cA ab (va_A (zW cA ab σ) sz) u t) (va_A (zW cA ab σ) sz)) 1 70 (va_A (zW cA ab σ) sz) := by
  refine Met.ofW (cc := cJ5_append_cf1ce) (maxL := 3) (ret := (some (.object "java/lang/AbstractStringBuilder"))) (by decide +kernel) rfl ?_
  intro p e s m args below meth c s₁ B hml hv
  obtain ⟨rfl, hsz, hP, hK, hD0, hE⟩ := hv
  subst hsz
  have hD := hD0.self (sz := s.heap.size)
  generalize hAe : va_A (zW cA ab σ) s.heap.size = A at hD hE ⊢
  have hA : ∀ q : Nat, s.heap.size ≤ q → A q := fun q h => by rw [← hAe]; exact Or.inr h
  have hS : va_S A s.heap s.heap [] := va_S.rf
  have C : zCx p s m _ meth c cJ5_append_cf1ce 3 (some (.object "java/lang/AbstractStringBuilder")) wgJ5_append_cf1ce RJ5 E D cA A := ⟨B.exec, B.bytes, hml, B.returns, findClass_of_methodNamed B.named, atoms_spec (ws := wgJ5_append_cf1ce) B.pre, hK, hA, B.notSynchronized, hE, vE⟩
  have hG : zG D cA ab A s σ s.heap [] := ⟨hP, hD, hS⟩
  have hl := lv_entry ([.ref ab, .ref (aK e1)]) (n := 3) (Nat.le_of_ble_eq_true rfl)
  rw [lg_entry_eq]
  generalize (lg_sl ([.ref ab, .ref (aK e1)]) ++ List.replicate (3 - (lg_sl ([.ref ab, .ref (aK e1)])).length) Slot.unset).toArray = ls at hl ⊢
  have hl : lv_has ls 3 [(0, .ref ab), (1, .ref (aK e1))] := hl
  exact k_J5_append_cf1ce C vM vB e1 σ _ _ _ hG hl hw
/-! ===== J4_append_15ec4 ===== -/
def rm_J4_append_15ec4 : Room := { frames := 6, cells := 1, slots := 70, locals := 164 }
abbrev wgJ4_append_15ec4 : List Cond := .code yJ4_append_15ec4 cJ4_append_15ec4 2 (some (.object "java/lang/StringBuilder")) :: TB
def wp_J4_append_15ec4 (post : BS → Prop) (e1 : Nat) (σ : BS) : Prop :=
  wp_J5_append_cf1ce (fun σ_2 => post σ_2) e1 σ
set_option maxHeartbeats 4000000 in
set_option maxRecDepth 100000 in
theorem k_J4_append_15ec4 {p : Program} {l : Launch} {e : Env} {s : State} {m : MethodId} {args : Array Value} {below : List Frame} {meth : Method} {c : Code} {A : Nat → Prop} {E : EnvT} {aK aV aE : Nat → Nat} {aO : Nat} {dO dT : Nat} {D : va_G} {cA : Nat → ClassId} {ab : Nat} (C : zCx p s m args meth c cJ4_append_15ec4 2 (some (.object "java/lang/StringBuilder")) wgJ4_append_15ec4 RJ4 E D cA A) (vM : eXs aK aV aE aO E) (vB : eBs dO dT E) {post : BS → Prop} :
    ∀ (e1 : Nat) (σ : BS) (H : Heap) (locs : List Loc) (ls : Array Slot), zG D cA ab A s σ H locs → lv_has ls 2 [(0, .ref ab), (1, .ref (aK e1))] → wp_J4_append_15ec4 post e1 σ → W p l e rm_J4_append_15ec4 s m args below meth c H locs 0 0 (MQ below (va_Qr post (fun u a t => a = ab ∧ zAt D cA ab A u t) A) args s 1 70 A) (F0 m 0 ls []) := by
  obtain ⟨hx, hb, hml, hr, hown, hts, hK, hA, hlk, hE, vE⟩ := id C
  intro e1 σ H locs ls hG hl hw
  obtain ⟨hP, hD, hS⟩ := id hG
  refine lv_aload_n hx hb dJ4_append_15ec4_0 rfl (lv_at hl 0 rfl) ?_
  refine lv_aload_n hx hb dJ4_append_15ec4_1 rfl (lv_at hl 1 rfl) ?_
  refine bSU_r (As := [.ref (aK e1)]) (rest := []) C (met_J5_append_cf1ce vE vM vB hw) (va_cwSU 1 hts (TB_G (TB_5 tw_3_64 tw_6_216 tw_1_218 tw_3_65 tw_1_9) tw_3_66) rfl rfl rfl (by decide +kernel) ⟨by decide, by decide⟩) hP hD hS rfl hl.1 rfl (Nat.le_of_ble_eq_true rfl) dJ4_append_15ec4_2 ⟨by decide, by decide⟩ (fun σ_2 H locs hw hP hD hS => ?_)
  have hG : zG D cA ab A s σ_2 H locs := ⟨hP, hD, hS⟩
  refine lv_pop hx hb dJ4_append_15ec4_5 rfl ?_
  refine lv_aload_n hx hb dJ4_append_15ec4_6 rfl (lv_at hl 0 rfl) ?_
  exact W.aret (v := .ref ab) hx hb hr (Or.inl ⟨_, rfl⟩) (Or.inr ⟨_, rfl⟩) (fun t ht hW => ⟨⟨σ_2, ab, rfl, hw, rfl, by rw [ht]; exact hP, va_K.moved hW.alike hK, hD⟩, hS.F ht⟩) hS.2.2 dJ4_append_15ec4_7 hlk
set_option maxHeartbeats 4000000 in
set_option maxRecDepth 100000 in
theorem met_J4_append_15ec4 {l : Launch} {E : EnvT} (vE : EnvOk E) {D : va_G} {cA : Nat → ClassId} {ab : Nat} {σ : BS} {aK aV aE : Nat → Nat} {aO : Nat} {dO dT : Nat} (vM : eXs aK aV aE aO E) (vB : eBs dO dT E) {sz : Nat} {e1 : Nat} {post : BS → Prop} (hw : wp_J4_append_15ec4 post e1 σ) : Met l yJ4_append_15ec4 wgJ4_append_15ec4 rm_J4_append_15ec4 (va_Pc [.ref ab, .ref (aK e1)] (zPre E D cA ab sz σ)) (va_Qr post (fun u a t => a = ab ∧ zAt D cA ab (va_A (zW cA ab σ) sz) u t) (va_A (zW cA ab σ) sz)) 1 70 (va_A (zW cA ab σ) sz) := by
  refine Met.ofW (cc := cJ4_append_15ec4) (maxL := 2) (ret := (some (.object "java/lang/StringBuilder"))) (by decide +kernel) rfl ?_
  intro p e s m args below meth c s₁ B hml hv
  obtain ⟨rfl, hsz, hP, hK, hD0, hE⟩ := hv
  subst hsz
  have hD := hD0.self (sz := s.heap.size)
  generalize hAe : va_A (zW cA ab σ) s.heap.size = A at hD hE ⊢
  have hA : ∀ q : Nat, s.heap.size ≤ q → A q := fun q h => by rw [← hAe]; exact Or.inr h
  have hS : va_S A s.heap s.heap [] := va_S.rf
  have C : zCx p s m _ meth c cJ4_append_15ec4 2 (some (.object "java/lang/StringBuilder")) wgJ4_append_15ec4 RJ4 E D cA A := ⟨B.exec, B.bytes, hml, B.returns, findClass_of_methodNamed B.named, atoms_spec (ws := wgJ4_append_15ec4) B.pre, hK, hA, B.notSynchronized, hE, vE⟩
  have hG : zG D cA ab A s σ s.heap [] := ⟨hP, hD, hS⟩
  have hl := lv_entry ([.ref ab, .ref (aK e1)]) (n := 2) (Nat.le_of_ble_eq_true rfl)
  rw [lg_entry_eq]
  generalize (lg_sl ([.ref ab, .ref (aK e1)]) ++ List.replicate (2 - (lg_sl ([.ref ab, .ref (aK e1)])).length) Slot.unset).toArray = ls at hl ⊢
  have hl : lv_has ls 2 [(0, .ref ab), (1, .ref (aK e1))] := hl
  exact k_J4_append_15ec4 C vM vB e1 σ _ _ _ hG hl hw
/-! ===== J6_getChars_ba4f3 ===== -/
def rm_J6_getChars_ba4f3 : Room := { frames := 0, cells := 0, slots := 0, locals := 0 }
abbrev wgJ6_getChars_ba4f3 : List Cond := .code yJ6_getChars_ba4f3 cJ6_getChars_ba4f3 7 (some .int) :: TB
def wB_J6_getChars_ba4f3_118 (post : Int32 → BS → Prop) (x5 : Int32) (σ : BS) : Prop :=
  post x5 σ
def wB_J6_getChars_ba4f3_104 (post : Int32 → BS → Prop) (x5 : Int32) (x6 : Int32) (σ : BS) : Prop :=
  (x6 = 0 → (wB_J6_getChars_ba4f3_118 post x5 σ)) ∧ (¬ x6 = 0 → (∀ x5_4 : Int32, x5_4 = x5 + (-1) → vp_in x5_4 (zN σ 1) ∧ (wB_J6_getChars_ba4f3_118 post x5_4 (jA σ 0 x5_4.toNatClampNeg (vp_nar .byte (45 : Int32))))))
def wB_J6_getChars_ba4f3_22 (post : Int32 → BS → Prop) (k22 : Int32 → Int32 → Int32 → BS → Prop) (x0 : Int32) (x5 : Int32) (x6 : Int32) (σ : BS) : Prop :=
  ((-100) < x0 → (∀ x5_1 : Int32, x5_1 = x5 + (-1) → vp_in (-x0) 100 ∧ (vp_in x5_1 (zN σ 1) ∧ (((-9) ≤ x0 → (wB_J6_getChars_ba4f3_104 post x5_1 x6 (jA σ 0 x5_1.toNatClampNeg (vp_nar .byte (digO (-x0).toNatClampNeg))))) ∧ (¬ (-9) ≤ x0 → (∀ x5_7 : Int32, x5_7 = x5_1 + (-1) → vp_in (-x0) 100 ∧ (vp_in x5_7 (zN σ 1) ∧ (wB_J6_getChars_ba4f3_104 post x5_7 x6 (jA (jA σ 0 x5_1.toNatClampNeg (vp_nar .byte (digO (-x0).toNatClampNeg))) 0 x5_7.toNatClampNeg (vp_nar .byte (digT (-x0).toNatClampNeg))))))))))) ∧ (¬ (-100) < x0 → (∀ x3_12 : Int32, x3_12 = x0 / 100 → ∀ x4_13 : Int32, x4_13 = (x3_12 * 100) - x0 → ∀ x5_14 : Int32, x5_14 = x5 + (-1) → vp_in x4_13 100 ∧ (vp_in x5_14 (zN σ 1) ∧ (∀ x5_17 : Int32, x5_17 = x5_14 + (-1) → vp_in x4_13 100 ∧ (vp_in x5_17 (zN σ 1) ∧ (k22 x3_12 x5_17 x6 (jA (jA σ 0 x5_14.toNatClampNeg (vp_nar .byte (digO x4_13.toNatClampNeg))) 0 x5_17.toNatClampNeg (vp_nar .byte (digT x4_13.toNatClampNeg)))))))))
def wL_J6_getChars_ba4f3_22 (post : Int32 → BS → Prop) : Nat → Int32 → Int32 → Int32 → BS → Prop
  | 0 => fun _ _ _ _ => False
  | n + 1 => wB_J6_getChars_ba4f3_22 post (wL_J6_getChars_ba4f3_22 post n)
def wB_J6_getChars_ba4f3_12 (post : Int32 → BS → Prop) (x0 : Int32) (x5 : Int32) (t0 : Int32) (σ : BS) : Prop :=
  (t0 = 0 → (∀ x0_22 : Int32, x0_22 = -x0 → ∃ n, wL_J6_getChars_ba4f3_22 post n x0_22 x5 t0 σ)) ∧ (¬ t0 = 0 → (∃ n, wL_J6_getChars_ba4f3_22 post n x0 x5 t0 σ))
def wp_J6_getChars_ba4f3 (post : Int32 → BS → Prop) (x0 : Int32) (x1 : Int32) (σ : BS) : Prop :=
  (0 ≤ x0 → (wB_J6_getChars_ba4f3_12 post x0 x1 0 σ)) ∧ (¬ 0 ≤ x0 → (wB_J6_getChars_ba4f3_12 post x0 x1 1 σ))
set_option maxHeartbeats 4000000 in
set_option maxRecDepth 100000 in
theorem kB_J6_getChars_ba4f3_118 {p : Program} {l : Launch} {e : Env} {s : State} {m : MethodId} {args : Array Value} {below : List Frame} {meth : Method} {c : Code} {A : Nat → Prop} {E : EnvT} {aK aV aE : Nat → Nat} {aO : Nat} {dO dT : Nat} {D : va_G} {cA : Nat → ClassId} {ab : Nat} (C : zCx p s m args meth c cJ6_getChars_ba4f3 7 (some .int) wgJ6_getChars_ba4f3 RJ6 E D cA A) (vM : eXs aK aV aE aO E) (vB : eBs dO dT E) {post : Int32 → BS → Prop} :
    ∀ (x5 : Int32) (σ : BS) (H : Heap) (locs : List Loc) (ls : Array Slot), zG D cA ab A s σ H locs → lv_has ls 7 [(5, .int x5)] → wB_J6_getChars_ba4f3_118 post x5 σ → W p l e rm_J6_getChars_ba4f3 s m args below meth c H locs 0 0 (MQ below (va_Qi post (zAt D cA ab A) A) args s 0 0 A) (F0 m 118 ls []) := by
  obtain ⟨hx, hb, hml, hr, hown, hts, hK, hA, hlk, hE, vE⟩ := id C
  intro x5 σ H locs ls hG hl hw
  obtain ⟨hP, hD, hS⟩ := id hG
  refine lv_iload hx hb dJ6_getChars_ba4f3_118 (lv_at hl 0 rfl) ?_
  exact W.iret (v := x5) hx hb hr (fun t ht hW => ⟨⟨_, σ, rfl, hw, by rw [ht]; exact hP, va_K.moved hW.alike hK, hD⟩, hS.F ht⟩) hS.2.2 dJ6_getChars_ba4f3_120 hlk
set_option maxHeartbeats 4000000 in
set_option maxRecDepth 100000 in
theorem kB_J6_getChars_ba4f3_104 {p : Program} {l : Launch} {e : Env} {s : State} {m : MethodId} {args : Array Value} {below : List Frame} {meth : Method} {c : Code} {A : Nat → Prop} {E : EnvT} {aK aV aE : Nat → Nat} {aO : Nat} {dO dT : Nat} {D : va_G} {cA : Nat → ClassId} {ab : Nat} (C : zCx p s m args meth c cJ6_getChars_ba4f3 7 (some .int) wgJ6_getChars_ba4f3 RJ6 E D cA A) (vM : eXs aK aV aE aO E) (vB : eBs dO dT E) {post : Int32 → BS → Prop} :
    ∀ (x5 : Int32) (x6 : Int32) (σ : BS) (H : Heap) (locs : List Loc) (ls : Array Slot), zG D cA ab A s σ H locs → lv_has ls 7 [(2, .ref (zN σ 0)), (5, .int x5), (6, .int x6)] → wB_J6_getChars_ba4f3_104 post x5 x6 σ → W p l e rm_J6_getChars_ba4f3 s m args below meth c H locs 0 0 (MQ below (va_Qi post (zAt D cA ab A) A) args s 0 0 A) (F0 m 104 ls []) := by
  obtain ⟨hx, hb, hml, hr, hown, hts, hK, hA, hlk, hE, vE⟩ := id C
  intro x5 x6 σ H locs ls hG hl hw
  obtain ⟨hP, hD, hS⟩ := id hG
  refine lv_iload hx hb dJ6_getChars_ba4f3_104 (lv_at hl 2 rfl) ?_
  refine lv_if_eq (tgt := 118) hx hb dJ6_getChars_ba4f3_106 (by decide) (fun q_ => ?_) (fun q_ => ?_)
  · have hw := hw.1 q_
    exact kB_J6_getChars_ba4f3_118 C vM vB x5 σ _ _ _ hG (lv_sub hl [1] rfl) hw
  · have hw := hw.2 q_
    refine lv_aload_n hx hb dJ6_getChars_ba4f3_109 rfl (lv_at hl 0 rfl) ?_
    obtain ⟨x5_4, ex5_4⟩ : ∃ y : Int32, y = x5 + (-1) := ⟨_, rfl⟩
    have hw := hw x5_4 ex5_4
    refine lv_iinc (v := x5_4) (lv' := [(5, .int x5_4), (2, .ref (zN σ 0)), (6, .int x6)]) hx hb dJ6_getChars_ba4f3_110 hl (k := 1) rfl (by rw [ex5_4]; rfl) (by decide) rfl (fun ls hl => ?_)
    refine lv_iload hx hb dJ6_getChars_ba4f3_113 (lv_at hl 0 rfl) ?_
    refine lv_bipush (v := 45) hx hb dJ6_getChars_ba4f3_115 (by decide) ?_
    obtain ⟨h_5, hw⟩ := hw
    have eak_6 : zN σ 0 = zN σ 0 := rfl
    have enk_6 : zN σ 1 = zN σ 1 := rfl
    refine va_bast hx hb hK hP hD hS 1 4 (zW_at eak_6 enk_6) rfl h_5 dJ6_getChars_ba4f3_117 (fun H locs hP hD hS => ?_)
    rw [zW_set eak_6 enk_6] at hP hD
    have hG : zG D cA ab A s (jA σ 0 x5_4.toNatClampNeg (vp_nar .byte (45 : Int32))) H locs := ⟨hP, hD, hS⟩
    obtain ⟨hP, hD, hS⟩ := id hG
    exact kB_J6_getChars_ba4f3_118 C vM vB x5_4 (jA σ 0 x5_4.toNatClampNeg (vp_nar .byte (45 : Int32))) _ _ _ hG (lv_sub hl [0] rfl) hw
set_option maxHeartbeats 4000000 in
set_option maxRecDepth 100000 in
theorem kB_J6_getChars_ba4f3_22 {p : Program} {l : Launch} {e : Env} {s : State} {m : MethodId} {args : Array Value} {below : List Frame} {meth : Method} {c : Code} {A : Nat → Prop} {E : EnvT} {aK aV aE : Nat → Nat} {aO : Nat} {dO dT : Nat} {D : va_G} {cA : Nat → ClassId} {ab : Nat} (C : zCx p s m args meth c cJ6_getChars_ba4f3 7 (some .int) wgJ6_getChars_ba4f3 RJ6 E D cA A) (vM : eXs aK aV aE aO E) (vB : eBs dO dT E) {post : Int32 → BS → Prop}
    {k22 : Int32 → Int32 → Int32 → BS → Prop} (hk22 : ∀ (x0 : Int32) (x5 : Int32) (x6 : Int32) (σ : BS) (H : Heap) (locs : List Loc) (ls : Array Slot), zG D cA ab A s σ H locs → lv_has ls 7 [(0, .int x0), (2, .ref (zN σ 0)), (5, .int x5), (6, .int x6)] → k22 x0 x5 x6 σ → W p l e rm_J6_getChars_ba4f3 s m args below meth c H locs 0 0 (MQ below (va_Qi post (zAt D cA ab A) A) args s 0 0 A) (F0 m 22 ls [])) :
    ∀ (x0 : Int32) (x5 : Int32) (x6 : Int32) (σ : BS) (H : Heap) (locs : List Loc) (ls : Array Slot), zG D cA ab A s σ H locs → lv_has ls 7 [(0, .int x0), (2, .ref (zN σ 0)), (5, .int x5), (6, .int x6)] → wB_J6_getChars_ba4f3_22 post k22 x0 x5 x6 σ → W p l e rm_J6_getChars_ba4f3 s m args below meth c H locs 0 0 (MQ below (va_Qi post (zAt D cA ab A) A) args s 0 0 A) (F0 m 22 ls []) := by
  obtain ⟨hx, hb, hml, hr, hown, hts, hK, hA, hlk, hE, vE⟩ := id C
  intro x0 x5 x6 σ H locs ls hG hl hw
  obtain ⟨hP, hD, hS⟩ := id hG
  refine lv_iload_n hx hb dJ6_getChars_ba4f3_22 rfl (lv_at hl 0 rfl) ?_
  refine lv_bipush (v := (-100)) hx hb dJ6_getChars_ba4f3_23 (by decide) ?_
  refine lv_icmp_gt (tgt := 72) hx hb dJ6_getChars_ba4f3_25 (by decide) (fun q_ => ?_) (fun q_ => ?_)
  · have hw := hw.1 q_
    refine lv_aload_n hx hb dJ6_getChars_ba4f3_72 rfl (lv_at hl 1 rfl) ?_
    obtain ⟨x5_1, ex5_1⟩ : ∃ y : Int32, y = x5 + (-1) := ⟨_, rfl⟩
    have hw := hw x5_1 ex5_1
    refine lv_iinc (v := x5_1) (lv' := [(5, .int x5_1), (0, .int x0), (2, .ref (zN σ 0)), (6, .int x6)]) hx hb dJ6_getChars_ba4f3_73 hl (k := 2) rfl (by rw [ex5_1]; rfl) (by decide) rfl (fun ls hl => ?_)
    refine lv_iload hx hb dJ6_getChars_ba4f3_76 (lv_at hl 0 rfl) ?_
    refine va_gets hx hb (vB _ _ _ hE).2.2.2.2.1 hS hown (hts _ (List.mem_cons_of_mem _ tw_3_125)) (fun _ h => h) dJ6_getChars_ba4f3_78 ?_
    refine lv_iload_n hx hb dJ6_getChars_ba4f3_81 rfl (lv_at hl 1 rfl) ?_
    refine lv_ineg hx hb dJ6_getChars_ba4f3_82 ?_
    obtain ⟨h_2, hw⟩ := hw
    refine va_tb hx hb (vB _ _ _ hE).2.2.2.2.2.2.1 hS h_2 rfl dJ6_getChars_ba4f3_83 ?_
    obtain ⟨h_3, hw⟩ := hw
    have eak_11 : zN σ 0 = zN σ 0 := rfl
    have enk_11 : zN σ 1 = zN σ 1 := rfl
    refine va_bast hx hb hK hP hD hS 1 4 (zW_at eak_11 enk_11) rfl h_3 dJ6_getChars_ba4f3_84 (fun H locs hP hD hS => ?_)
    rw [zW_set eak_11 enk_11] at hP hD
    have hG : zG D cA ab A s (jA σ 0 x5_1.toNatClampNeg (vp_nar .byte (digO (-x0).toNatClampNeg))) H locs := ⟨hP, hD, hS⟩
    obtain ⟨hP, hD, hS⟩ := id hG
    refine lv_iload_n hx hb dJ6_getChars_ba4f3_85 rfl (lv_at hl 1 rfl) ?_
    refine lv_bipush (v := (-9)) hx hb dJ6_getChars_ba4f3_86 (by decide) ?_
    refine lv_icmp_ge (tgt := 104) hx hb dJ6_getChars_ba4f3_88 (by decide) (fun q_ => ?_) (fun q_ => ?_)
    · have hw := hw.1 q_
      exact kB_J6_getChars_ba4f3_104 C vM vB x5_1 x6 (jA σ 0 x5_1.toNatClampNeg (vp_nar .byte (digO (-x0).toNatClampNeg))) _ _ _ hG (by simp only [zN_jA, zN_jI, zN_jAs]; exact lv_sub hl [2, 0, 3] rfl) hw
    · have hw := hw.2 q_
      refine lv_aload_n hx hb dJ6_getChars_ba4f3_91 rfl (lv_at hl 2 rfl) ?_
      obtain ⟨x5_7, ex5_7⟩ : ∃ y : Int32, y = x5_1 + (-1) := ⟨_, rfl⟩
      have hw := hw x5_7 ex5_7
      refine lv_iinc (v := x5_7) (lv' := [(5, .int x5_7), (0, .int x0), (2, .ref (zN σ 0)), (6, .int x6)]) hx hb dJ6_getChars_ba4f3_92 hl (k := 0) rfl (by rw [ex5_7]; rfl) (by decide) rfl (fun ls hl => ?_)
      refine lv_iload hx hb dJ6_getChars_ba4f3_95 (lv_at hl 0 rfl) ?_
      refine va_gets hx hb (vB _ _ _ hE).2.2.2.2.2.1 hS hown (hts _ (List.mem_cons_of_mem _ tw_3_127)) (fun _ h => h) dJ6_getChars_ba4f3_97 ?_
      refine lv_iload_n hx hb dJ6_getChars_ba4f3_100 rfl (lv_at hl 1 rfl) ?_
      refine lv_ineg hx hb dJ6_getChars_ba4f3_101 ?_
      obtain ⟨h_8, hw⟩ := hw
      refine va_tb hx hb (vB _ _ _ hE).2.2.2.2.2.2.2 hS h_8 rfl dJ6_getChars_ba4f3_102 ?_
      obtain ⟨h_9, hw⟩ := hw
      have eak_10 : zN σ 0 = zN (jA σ 0 x5_1.toNatClampNeg (vp_nar .byte (digO (-x0).toNatClampNeg))) 0 := by simp only [zN_jA, zN_jI, zN_jAs]
      have enk_10 : zN σ 1 = zN (jA σ 0 x5_1.toNatClampNeg (vp_nar .byte (digO (-x0).toNatClampNeg))) 1 := by simp only [zN_jA, zN_jI, zN_jAs]
      refine va_bast hx hb hK hP hD hS 1 4 (zW_at eak_10 enk_10) rfl h_9 dJ6_getChars_ba4f3_103 (fun H locs hP hD hS => ?_)
      rw [zW_set eak_10 enk_10] at hP hD
      have hG : zG D cA ab A s (jA (jA σ 0 x5_1.toNatClampNeg (vp_nar .byte (digO (-x0).toNatClampNeg))) 0 x5_7.toNatClampNeg (vp_nar .byte (digT (-x0).toNatClampNeg))) H locs := ⟨hP, hD, hS⟩
      obtain ⟨hP, hD, hS⟩ := id hG
      exact kB_J6_getChars_ba4f3_104 C vM vB x5_7 x6 (jA (jA σ 0 x5_1.toNatClampNeg (vp_nar .byte (digO (-x0).toNatClampNeg))) 0 x5_7.toNatClampNeg (vp_nar .byte (digT (-x0).toNatClampNeg))) _ _ _ hG (by simp only [zN_jA, zN_jI, zN_jAs]; exact lv_sub hl [2, 0, 3] rfl) hw
  · have hw := hw.2 q_
    refine lv_iload_n hx hb dJ6_getChars_ba4f3_28 rfl (lv_at hl 0 rfl) ?_
    refine lv_bipush (v := 100) hx hb dJ6_getChars_ba4f3_29 (by decide) ?_
    refine lv_idiv hx hb dJ6_getChars_ba4f3_31 (by decide) ?_
    refine lv_topi (fun x3_12 ex3_12 => ?_)
    have hw := hw x3_12 ex3_12
    refine lv_istore_n (lv' := [(3, .int x3_12), (0, .int x0), (2, .ref (zN σ 0)), (5, .int x5), (6, .int x6)]) hx hb dJ6_getChars_ba4f3_32 rfl hl (by decide) rfl (fun ls hl => ?_)
    refine lv_iload_n hx hb dJ6_getChars_ba4f3_33 rfl (lv_at hl 0 rfl) ?_
    refine lv_bipush (v := 100) hx hb dJ6_getChars_ba4f3_34 (by decide) ?_
    refine lv_imul hx hb dJ6_getChars_ba4f3_36 ?_
    refine lv_iload_n hx hb dJ6_getChars_ba4f3_37 rfl (lv_at hl 1 rfl) ?_
    refine lv_isub hx hb dJ6_getChars_ba4f3_38 ?_
    refine lv_topi (fun x4_13 ex4_13 => ?_)
    have hw := hw x4_13 ex4_13
    refine lv_istore (lv' := [(4, .int x4_13), (3, .int x3_12), (0, .int x0), (2, .ref (zN σ 0)), (5, .int x5), (6, .int x6)]) hx hb dJ6_getChars_ba4f3_39 hl (by decide) rfl (fun ls hl => ?_)
    refine lv_iload_n hx hb dJ6_getChars_ba4f3_41 rfl (lv_at hl 1 rfl) ?_
    refine lv_istore_n (lv' := [(0, .int x3_12), (4, .int x4_13), (3, .int x3_12), (2, .ref (zN σ 0)), (5, .int x5), (6, .int x6)]) hx hb dJ6_getChars_ba4f3_42 rfl hl (by decide) rfl (fun ls hl => ?_)
    refine lv_aload_n hx hb dJ6_getChars_ba4f3_43 rfl (lv_at hl 3 rfl) ?_
    obtain ⟨x5_14, ex5_14⟩ : ∃ y : Int32, y = x5 + (-1) := ⟨_, rfl⟩
    have hw := hw x5_14 ex5_14
    refine lv_iinc (v := x5_14) (lv' := [(5, .int x5_14), (0, .int x3_12), (4, .int x4_13), (3, .int x3_12), (2, .ref (zN σ 0)), (6, .int x6)]) hx hb dJ6_getChars_ba4f3_44 hl (k := 4) rfl (by rw [ex5_14]; rfl) (by decide) rfl (fun ls hl => ?_)
    refine lv_iload hx hb dJ6_getChars_ba4f3_47 (lv_at hl 0 rfl) ?_
    refine va_gets hx hb (vB _ _ _ hE).2.2.2.2.1 hS hown (hts _ (List.mem_cons_of_mem _ tw_3_125)) (fun _ h => h) dJ6_getChars_ba4f3_49 ?_
    refine lv_iload hx hb dJ6_getChars_ba4f3_52 (lv_at hl 2 rfl) ?_
    obtain ⟨h_15, hw⟩ := hw
    refine va_tb hx hb (vB _ _ _ hE).2.2.2.2.2.2.1 hS h_15 rfl dJ6_getChars_ba4f3_54 ?_
    obtain ⟨h_16, hw⟩ := hw
    have eak_21 : zN σ 0 = zN σ 0 := rfl
    have enk_21 : zN σ 1 = zN σ 1 := rfl
    refine va_bast hx hb hK hP hD hS 1 4 (zW_at eak_21 enk_21) rfl h_16 dJ6_getChars_ba4f3_55 (fun H locs hP hD hS => ?_)
    rw [zW_set eak_21 enk_21] at hP hD
    have hG : zG D cA ab A s (jA σ 0 x5_14.toNatClampNeg (vp_nar .byte (digO x4_13.toNatClampNeg))) H locs := ⟨hP, hD, hS⟩
    obtain ⟨hP, hD, hS⟩ := id hG
    refine lv_aload_n hx hb dJ6_getChars_ba4f3_56 rfl (lv_at hl 4 rfl) ?_
    obtain ⟨x5_17, ex5_17⟩ : ∃ y : Int32, y = x5_14 + (-1) := ⟨_, rfl⟩
    have hw := hw x5_17 ex5_17
    refine lv_iinc (v := x5_17) (lv' := [(5, .int x5_17), (0, .int x3_12), (4, .int x4_13), (3, .int x3_12), (2, .ref (zN σ 0)), (6, .int x6)]) hx hb dJ6_getChars_ba4f3_57 hl (k := 0) rfl (by rw [ex5_17]; rfl) (by decide) rfl (fun ls hl => ?_)
    refine lv_iload hx hb dJ6_getChars_ba4f3_60 (lv_at hl 0 rfl) ?_
    refine va_gets hx hb (vB _ _ _ hE).2.2.2.2.2.1 hS hown (hts _ (List.mem_cons_of_mem _ tw_3_127)) (fun _ h => h) dJ6_getChars_ba4f3_62 ?_
    refine lv_iload hx hb dJ6_getChars_ba4f3_65 (lv_at hl 2 rfl) ?_
    obtain ⟨h_18, hw⟩ := hw
    refine va_tb hx hb (vB _ _ _ hE).2.2.2.2.2.2.2 hS h_18 rfl dJ6_getChars_ba4f3_67 ?_
    obtain ⟨h_19, hw⟩ := hw
    have eak_20 : zN σ 0 = zN (jA σ 0 x5_14.toNatClampNeg (vp_nar .byte (digO x4_13.toNatClampNeg))) 0 := by simp only [zN_jA, zN_jI, zN_jAs]
    have enk_20 : zN σ 1 = zN (jA σ 0 x5_14.toNatClampNeg (vp_nar .byte (digO x4_13.toNatClampNeg))) 1 := by simp only [zN_jA, zN_jI, zN_jAs]
    refine va_bast hx hb hK hP hD hS 1 4 (zW_at eak_20 enk_20) rfl h_19 dJ6_getChars_ba4f3_68 (fun H locs hP hD hS => ?_)
    rw [zW_set eak_20 enk_20] at hP hD
    have hG : zG D cA ab A s (jA (jA σ 0 x5_14.toNatClampNeg (vp_nar .byte (digO x4_13.toNatClampNeg))) 0 x5_17.toNatClampNeg (vp_nar .byte (digT x4_13.toNatClampNeg))) H locs := ⟨hP, hD, hS⟩
    obtain ⟨hP, hD, hS⟩ := id hG
    refine lv_goto (tgt := 22) hx hb dJ6_getChars_ba4f3_69 (by decide) ?_
    exact hk22 x3_12 x5_17 x6 (jA (jA σ 0 x5_14.toNatClampNeg (vp_nar .byte (digO x4_13.toNatClampNeg))) 0 x5_17.toNatClampNeg (vp_nar .byte (digT x4_13.toNatClampNeg))) _ _ _ hG (by simp only [zN_jA, zN_jI, zN_jAs]; exact lv_sub hl [1, 4, 0, 5] rfl) hw
theorem kL_J6_getChars_ba4f3_22 {p : Program} {l : Launch} {e : Env} {s : State} {m : MethodId} {args : Array Value} {below : List Frame} {meth : Method} {c : Code} {A : Nat → Prop} {E : EnvT} {aK aV aE : Nat → Nat} {aO : Nat} {dO dT : Nat} {D : va_G} {cA : Nat → ClassId} {ab : Nat} (C : zCx p s m args meth c cJ6_getChars_ba4f3 7 (some .int) wgJ6_getChars_ba4f3 RJ6 E D cA A) (vM : eXs aK aV aE aO E) (vB : eBs dO dT E) {post : Int32 → BS → Prop} :
    ∀ (n : Nat) (x0 : Int32) (x5 : Int32) (x6 : Int32) (σ : BS) (H : Heap) (locs : List Loc) (ls : Array Slot), zG D cA ab A s σ H locs → lv_has ls 7 [(0, .int x0), (2, .ref (zN σ 0)), (5, .int x5), (6, .int x6)] → wL_J6_getChars_ba4f3_22 post n x0 x5 x6 σ → W p l e rm_J6_getChars_ba4f3 s m args below meth c H locs 0 0 (MQ below (va_Qi post (zAt D cA ab A) A) args s 0 0 A) (F0 m 22 ls []) := by
  intro n
  induction n with
  | zero => intro x0 x5 x6 σ H locs ls hG hl hw; exact hw.elim
  | succ n ih => exact kB_J6_getChars_ba4f3_22 C vM vB ih
set_option maxHeartbeats 4000000 in
set_option maxRecDepth 100000 in
theorem kB_J6_getChars_ba4f3_12 {p : Program} {l : Launch} {e : Env} {s : State} {m : MethodId} {args : Array Value} {below : List Frame} {meth : Method} {c : Code} {A : Nat → Prop} {E : EnvT} {aK aV aE : Nat → Nat} {aO : Nat} {dO dT : Nat} {D : va_G} {cA : Nat → ClassId} {ab : Nat} (C : zCx p s m args meth c cJ6_getChars_ba4f3 7 (some .int) wgJ6_getChars_ba4f3 RJ6 E D cA A) (vM : eXs aK aV aE aO E) (vB : eBs dO dT E) {post : Int32 → BS → Prop} :
    ∀ (x0 : Int32) (x5 : Int32) (t0 : Int32) (σ : BS) (H : Heap) (locs : List Loc) (ls : Array Slot), zG D cA ab A s σ H locs → lv_has ls 7 [(0, .int x0), (2, .ref (zN σ 0)), (5, .int x5)] → wB_J6_getChars_ba4f3_12 post x0 x5 t0 σ → W p l e rm_J6_getChars_ba4f3 s m args below meth c H locs 0 0 (MQ below (va_Qi post (zAt D cA ab A) A) args s 0 0 A) (F0 m 12 ls [.int t0]) := by
  obtain ⟨hx, hb, hml, hr, hown, hts, hK, hA, hlk, hE, vE⟩ := id C
  intro x0 x5 t0 σ H locs ls hG hl hw
  obtain ⟨hP, hD, hS⟩ := id hG
  refine lv_istore (lv' := [(6, .int t0), (0, .int x0), (2, .ref (zN σ 0)), (5, .int x5)]) hx hb dJ6_getChars_ba4f3_12 hl (by decide) rfl (fun ls hl => ?_)
  refine lv_iload hx hb dJ6_getChars_ba4f3_14 (lv_at hl 0 rfl) ?_
  refine lv_if_ne (tgt := 22) hx hb dJ6_getChars_ba4f3_16 (by decide) (fun q_ => ?_) (fun q_ => ?_)
  · have hw := hw.2 q_
    obtain ⟨n_, hw⟩ := hw
    exact kL_J6_getChars_ba4f3_22 C vM vB n_ x0 x5 t0 σ _ _ _ hG (lv_sub hl [1, 2, 3, 0] rfl) hw
  · have hw := hw.1 q_
    refine lv_iload_n hx hb dJ6_getChars_ba4f3_19 rfl (lv_at hl 1 rfl) ?_
    refine lv_ineg hx hb dJ6_getChars_ba4f3_20 ?_
    refine lv_topi (fun x0_22 ex0_22 => ?_)
    have hw := hw x0_22 ex0_22
    refine lv_istore_n (lv' := [(0, .int x0_22), (6, .int t0), (2, .ref (zN σ 0)), (5, .int x5)]) hx hb dJ6_getChars_ba4f3_21 rfl hl (by decide) rfl (fun ls hl => ?_)
    obtain ⟨n_, hw⟩ := hw
    exact kL_J6_getChars_ba4f3_22 C vM vB n_ x0_22 x5 t0 σ _ _ _ hG (lv_sub hl [0, 2, 3, 1] rfl) hw
set_option maxHeartbeats 4000000 in
set_option maxRecDepth 100000 in
theorem k_J6_getChars_ba4f3 {p : Program} {l : Launch} {e : Env} {s : State} {m : MethodId} {args : Array Value} {below : List Frame} {meth : Method} {c : Code} {A : Nat → Prop} {E : EnvT} {aK aV aE : Nat → Nat} {aO : Nat} {dO dT : Nat} {D : va_G} {cA : Nat → ClassId} {ab : Nat} (C : zCx p s m args meth c cJ6_getChars_ba4f3 7 (some .int) wgJ6_getChars_ba4f3 RJ6 E D cA A) (vM : eXs aK aV aE aO E) (vB : eBs dO dT E) {post : Int32 → BS → Prop} :
    ∀ (x0 : Int32) (x1 : Int32) (σ : BS) (H : Heap) (locs : List Loc) (ls : Array Slot), zG D cA ab A s σ H locs → lv_has ls 7 [(0, .int x0), (1, .int x1), (2, .ref (zN σ 0))] → wp_J6_getChars_ba4f3 post x0 x1 σ → W p l e rm_J6_getChars_ba4f3 s m args below meth c H locs 0 0 (MQ below (va_Qi post (zAt D cA ab A) A) args s 0 0 A) (F0 m 0 ls []) := by
  obtain ⟨hx, hb, hml, hr, hown, hts, hK, hA, hlk, hE, vE⟩ := id C
  intro x0 x1 σ H locs ls hG hl hw
  obtain ⟨hP, hD, hS⟩ := id hG
  refine lv_iload_n hx hb dJ6_getChars_ba4f3_0 rfl (lv_at hl 1 rfl) ?_
  refine lv_istore (lv' := [(5, .int x1), (0, .int x0), (1, .int x1), (2, .ref (zN σ 0))]) hx hb dJ6_getChars_ba4f3_1 hl (by decide) rfl (fun ls hl => ?_)
  refine lv_iload_n hx hb dJ6_getChars_ba4f3_3 rfl (lv_at hl 1 rfl) ?_
  refine lv_if_ge (tgt := 11) hx hb dJ6_getChars_ba4f3_4 (by decide) (fun q_ => ?_) (fun q_ => ?_)
  · have hw := hw.1 q_
    refine lv_iconst (v := 0) hx hb dJ6_getChars_ba4f3_11 (by decide) ?_
    exact kB_J6_getChars_ba4f3_12 C vM vB x0 x1 0 σ _ _ _ hG (lv_sub hl [1, 3, 0] rfl) hw
  · have hw := hw.2 q_
    refine lv_iconst (v := 1) hx hb dJ6_getChars_ba4f3_7 (by decide) ?_
    refine lv_goto (tgt := 12) hx hb dJ6_getChars_ba4f3_8 (by decide) ?_
    exact kB_J6_getChars_ba4f3_12 C vM vB x0 x1 1 σ _ _ _ hG (lv_sub hl [1, 3, 0] rfl) hw
set_option maxHeartbeats 4000000 in
set_option maxRecDepth 100000 in
theorem met_J6_getChars_ba4f3 {l : Launch} {E : EnvT} (vE : EnvOk E) {D : va_G} {cA : Nat → ClassId} {ab : Nat} {σ : BS} {aK aV aE : Nat → Nat} {aO : Nat} {dO dT : Nat} (vM : eXs aK aV aE aO E) (vB : eBs dO dT E) {sz : Nat} {x0 : Int32} {x1 : Int32} {post : Int32 → BS → Prop} (hw : wp_J6_getChars_ba4f3 post x0 x1 σ) : Met l yJ6_getChars_ba4f3 wgJ6_getChars_ba4f3 rm_J6_getChars_ba4f3 (va_Pc [.int x0, .int x1, .ref (zN σ 0)] (zPre E D cA ab sz σ)) (va_Qi post (zAt D cA ab (va_A (zW cA ab σ) sz)) (va_A (zW cA ab σ) sz)) 0 0 (va_A (zW cA ab σ) sz) := by
  refine Met.ofW (cc := cJ6_getChars_ba4f3) (maxL := 7) (ret := (some .int)) (by decide +kernel) rfl ?_
  intro p e s m args below meth c s₁ B hml hv
  obtain ⟨rfl, hsz, hP, hK, hD0, hE⟩ := hv
  subst hsz
  have hD := hD0.self (sz := s.heap.size)
  generalize hAe : va_A (zW cA ab σ) s.heap.size = A at hD hE ⊢
  have hA : ∀ q : Nat, s.heap.size ≤ q → A q := fun q h => by rw [← hAe]; exact Or.inr h
  have hS : va_S A s.heap s.heap [] := va_S.rf
  have C : zCx p s m _ meth c cJ6_getChars_ba4f3 7 (some .int) wgJ6_getChars_ba4f3 RJ6 E D cA A := ⟨B.exec, B.bytes, hml, B.returns, findClass_of_methodNamed B.named, atoms_spec (ws := wgJ6_getChars_ba4f3) B.pre, hK, hA, B.notSynchronized, hE, vE⟩
  have hG : zG D cA ab A s σ s.heap [] := ⟨hP, hD, hS⟩
  have hl := lv_entry ([.int x0, .int x1, .ref (zN σ 0)]) (n := 7) (Nat.le_of_ble_eq_true rfl)
  rw [lg_entry_eq]
  generalize (lg_sl ([.int x0, .int x1, .ref (zN σ 0)]) ++ List.replicate (7 - (lg_sl ([.int x0, .int x1, .ref (zN σ 0)])).length) Slot.unset).toArray = ls at hl ⊢
  have hl : lv_has ls 7 [(0, .int x0), (1, .int x1), (2, .ref (zN σ 0))] := hl
  exact k_J6_getChars_ba4f3 C vM vB x0 x1 σ _ _ _ hG hl hw
/-! ===== J5_append_c97b9 ===== -/
def rm_J5_append_c97b9 : Room := { frames := 5, cells := 1, slots := 70, locals := 142 }
abbrev wgJ5_append_c97b9 : List Cond := .code yJ5_append_c97b9 cJ5_append_c97b9 4 (some (.object "java/lang/AbstractStringBuilder")) :: TB
def wB_J5_append_c97b9_48 (post : BS → Prop) (x3 : Int32) (σ : BS) : Prop :=
  post (jI σ 1 x3)
def wp_J5_append_c97b9 (post : BS → Prop) (x1 : Int32) (σ : BS) : Prop :=
  ∀ x2_1 : Int32, x2_1 = zI σ 1 → wp_J6_stringSize_0f7a4 (fun r_2  => ∀ x3_4 : Int32, x3_4 = x2_1 + r_2 → wp_J5_ensureCapacityInternal_d00df (fun σ_6 => wp_J5_isLatin1_aae02 (fun r_7 σ_8 => (r_7 = 0 → (False)) ∧ (¬ r_7 = 0 → (wp_J6_getChars_ba4f3 (fun r_9 σ_10 => wB_J5_append_c97b9_48 post x3_4 σ_10) x1 x3_4 σ_8))) σ_6) x3_4 σ) x1
set_option maxHeartbeats 4000000 in
set_option maxRecDepth 100000 in
theorem kB_J5_append_c97b9_48 {p : Program} {l : Launch} {e : Env} {s : State} {m : MethodId} {args : Array Value} {below : List Frame} {meth : Method} {c : Code} {A : Nat → Prop} {E : EnvT} {aK aV aE : Nat → Nat} {aO : Nat} {dO dT : Nat} {D : va_G} {cA : Nat → ClassId} {ab : Nat} (C : zCx p s m args meth c cJ5_append_c97b9 4 (some (.object "java/lang/AbstractStringBuilder")) wgJ5_append_c97b9 RJ5 E D cA A) (vM : eXs aK aV aE aO E) (vB : eBs dO dT E) {post : BS → Prop} :
    ∀ (x3 : Int32) (σ : BS) (H : Heap) (locs : List Loc) (ls : Array Slot), zG D cA ab A s σ H locs → lv_has ls 4 [(0, .ref ab), (3, .int x3)] → wB_J5_append_c97b9_48 post x3 σ → W p l e rm_J5_append_c97b9 s m args below meth c H locs 1 70 (MQ below (va_Qr post (fun u a t => a = ab ∧ zAt D cA ab A u t) A) args s 1 70 A) (F0 m 48 ls []) := by
  obtain ⟨hx, hb, hml, hr, hown, hts, hK, hA, hlk, hE, vE⟩ := id C
  intro x3 σ H locs ls hG hl hw
  obtain ⟨hP, hD, hS⟩ := id hG
  refine lv_aload_n hx hb dJ5_append_c97b9_48 rfl (lv_at hl 0 rfl) ?_
  refine lv_iload_n hx hb dJ5_append_c97b9_49 rfl (lv_at hl 1 rfl) ?_
  refine va_put (D := D) (ci := 1) (v := .int x3) (ty := .int) (C := RJ4) (T := TJ4) (N := 4) hx hb hts (in_tb inJ4) tyJ4 tyJ4_ok nmJ4 hown hK hP hD hS 0 rfl rfl 3 (by decide) (hts _ (List.mem_cons_of_mem _ tw_1_209)) (fun _ h9 => h9) rfl (by decide +kernel) rfl rfl (Nat.le_of_ble_eq_true rfl) dJ5_append_c97b9_50 (fun H locs hP hD hS => ?_)
  have hG : zG D cA ab A s (jI σ 1 x3) H locs := ⟨hP, hD, hS⟩
  obtain ⟨hP, hD, hS⟩ := id hG
  refine lv_aload_n hx hb dJ5_append_c97b9_53 rfl (lv_at hl 0 rfl) ?_
  exact W.aret (v := .ref ab) hx hb hr (Or.inl ⟨_, rfl⟩) (Or.inr ⟨_, rfl⟩) (fun t ht hW => ⟨⟨(jI σ 1 x3), ab, rfl, hw, rfl, by rw [ht]; exact hP, va_K.moved hW.alike hK, hD⟩, hS.F ht⟩) hS.2.2 dJ5_append_c97b9_54 hlk
set_option maxHeartbeats 4000000 in
set_option maxRecDepth 100000 in
theorem k_J5_append_c97b9 {p : Program} {l : Launch} {e : Env} {s : State} {m : MethodId} {args : Array Value} {below : List Frame} {meth : Method} {c : Code} {A : Nat → Prop} {E : EnvT} {aK aV aE : Nat → Nat} {aO : Nat} {dO dT : Nat} {D : va_G} {cA : Nat → ClassId} {ab : Nat} (C : zCx p s m args meth c cJ5_append_c97b9 4 (some (.object "java/lang/AbstractStringBuilder")) wgJ5_append_c97b9 RJ5 E D cA A) (vM : eXs aK aV aE aO E) (vB : eBs dO dT E) {post : BS → Prop} :
    ∀ (x1 : Int32) (σ : BS) (H : Heap) (locs : List Loc) (ls : Array Slot), zG D cA ab A s σ H locs → lv_has ls 4 [(0, .ref ab), (1, .int x1)] → wp_J5_append_c97b9 post x1 σ → W p l e rm_J5_append_c97b9 s m args below meth c H locs 0 0 (MQ below (va_Qr post (fun u a t => a = ab ∧ zAt D cA ab A u t) A) args s 1 70 A) (F0 m 0 ls []) := by
  obtain ⟨hx, hb, hml, hr, hown, hts, hK, hA, hlk, hE, vE⟩ := id C
  intro x1 σ H locs ls hG hl hw
  obtain ⟨hP, hD, hS⟩ := id hG
  refine lv_aload_n hx hb dJ5_append_c97b9_0 rfl (lv_at hl 0 rfl) ?_
  refine va_get (D := D) (ci := 1) (v := .int (zI σ 1)) (C := RJ4) (T := TJ4) (N := 4) hx hb hts (in_tb inJ4) hown hK hP 0 rfl rfl 3 (by decide) (hts _ (List.mem_cons_of_mem _ tw_1_209)) (fun _ h9 => h9) rfl dJ5_append_c97b9_1 ?_
  refine lv_topi (fun x2_1 ex2_1 => ?_)
  have hw := hw x2_1 ex2_1
  refine lv_istore_n (lv' := [(2, .int x2_1), (0, .ref ab), (1, .int x1)]) hx hb dJ5_append_c97b9_4 rfl hl (by decide) rfl (fun ls hl => ?_)
  refine lv_iload_n hx hb dJ5_append_c97b9_5 rfl (lv_at hl 0 rfl) ?_
  refine lv_iload_n hx hb dJ5_append_c97b9_6 rfl (lv_at hl 2 rfl) ?_
  refine zS_i (As := [.int x1]) (rest := [.int x2_1]) C (met_J6_stringSize_0f7a4 vE vM hw) (va_cwS 1 hts (TB_G (TB_3 tw_3_119 tw_3_120 tw_1_28) tw_3_121) rfl rfl rfl (by decide +kernel) ⟨by decide, by decide⟩) hP hD hS rfl hl.1 rfl (Nat.le_of_ble_eq_true rfl) dJ5_append_c97b9_7 ⟨by decide, by decide⟩ (fun r_2 H locs hw hP hS => ?_)
  have hG : zG D cA ab A s σ H locs := ⟨hP, hD, hS⟩
  refine lv_iadd hx hb dJ5_append_c97b9_10 ?_
  refine lv_topi (fun x3_4 ex3_4 => ?_)
  have hw := hw x3_4 ex3_4
  refine lv_istore_n (lv' := [(3, .int x3_4), (2, .int x2_1), (0, .ref ab), (1, .int x1)]) hx hb dJ5_append_c97b9_11 rfl hl (by decide) rfl (fun ls hl => ?_)
  refine lv_aload_n hx hb dJ5_append_c97b9_12 rfl (lv_at hl 2 rfl) ?_
  refine lv_iload_n hx hb dJ5_append_c97b9_13 rfl (lv_at hl 0 rfl) ?_
  refine bU_v (As := [.int x3_4]) (rest := []) C (met_J5_ensureCapacityInternal_d00df vE vM vB hw) (b_cu 1 hts (TB_G (pre := []) (fun _ h => nomatch h) tw_2_215) rfl rfl rfl (hts _ (List.mem_cons_of_mem _ tw_2_212)) (hts _ (List.mem_cons_of_mem _ tw_6_213)) (hts _ (List.mem_cons_of_mem _ tw_2_214)) (hts _ (List.mem_cons_of_mem _ tw_1_9)) (va_Nw.use rfl (vB _ _ _ hE).1) (by decide +kernel) ⟨by decide, by decide⟩) hP hD hS rfl hl.1 rfl (Nat.le_of_ble_eq_true rfl) dJ5_append_c97b9_14 ⟨by decide, by decide⟩ (fun σ_6 H locs hw hP hD hS => ?_)
  have hG : zG D cA ab A s σ_6 H locs := ⟨hP, hD, hS⟩
  refine lv_aload_n hx hb dJ5_append_c97b9_17 rfl (lv_at hl 2 rfl) ?_
  refine bU_i (As := []) (rest := []) C (met_J5_isLatin1_aae02 vE vM vB hw) (va_cwU 0 hts (TB_G (TB_5 tw_3_3 tw_3_5 tw_3_6 tw_3_4 tw_1_9) tw_3_7) rfl rfl rfl rfl (by decide +kernel) ⟨by decide, by decide⟩) hP hD hS rfl hl.1 rfl (Nat.le_of_ble_eq_true rfl) dJ5_append_c97b9_18 ⟨by decide, by decide⟩ (fun r_7 σ_8 H locs hw hP hD hS => ?_)
  have hG : zG D cA ab A s σ_8 H locs := ⟨hP, hD, hS⟩
  refine lv_if_eq (tgt := 37) hx hb dJ5_append_c97b9_21 (by decide) (fun q_ => ?_) (fun q_ => ?_)
  · have hw := hw.1 q_
    refine lv_iload_n hx hb dJ5_append_c97b9_37 rfl (lv_at hl 3 rfl) ?_
    refine lv_iload_n hx hb dJ5_append_c97b9_38 rfl (lv_at hl 1 rfl) ?_
    refine lv_iload_n hx hb dJ5_append_c97b9_39 rfl (lv_at hl 0 rfl) ?_
    refine lv_aload_n hx hb dJ5_append_c97b9_40 rfl (lv_at hl 2 rfl) ?_
    refine va_get (D := D) (ci := 1) (v := .ref (zN σ_8 0)) (C := RJ4) (T := TJ4) (N := 4) hx hb hts (in_tb inJ4) hown hK hP 0 rfl rfl 0 (by decide) (hts _ (List.mem_cons_of_mem _ tw_1_205)) (fun _ h9 => h9) rfl dJ5_append_c97b9_41 ?_
    exact hw.elim
  · have hw := hw.2 q_
    refine lv_iload_n hx hb dJ5_append_c97b9_24 rfl (lv_at hl 3 rfl) ?_
    refine lv_iload_n hx hb dJ5_append_c97b9_25 rfl (lv_at hl 0 rfl) ?_
    refine lv_aload_n hx hb dJ5_append_c97b9_26 rfl (lv_at hl 2 rfl) ?_
    refine va_get (D := D) (ci := 1) (v := .ref (zN σ_8 0)) (C := RJ4) (T := TJ4) (N := 4) hx hb hts (in_tb inJ4) hown hK hP 0 rfl rfl 0 (by decide) (hts _ (List.mem_cons_of_mem _ tw_1_205)) (fun _ h9 => h9) rfl dJ5_append_c97b9_27 ?_
    refine bSW_i (As := [.int x1, .int x3_4, .ref (zN σ_8 0)]) (rest := []) C (met_J6_getChars_ba4f3 vE vM vB hw) (va_cwS 3 hts (TB_G (TB_3 tw_3_122 tw_3_123 tw_1_28) tw_3_124) rfl rfl rfl (by decide +kernel) ⟨by decide, by decide⟩) hP hD hS rfl hl.1 rfl (Nat.le_of_ble_eq_true rfl) dJ5_append_c97b9_30 ⟨by decide, by decide⟩ (fun r_9 σ_10 H locs hw hP hD hS => ?_)
    have hG : zG D cA ab A s σ_10 H locs := ⟨hP, hD, hS⟩
    refine lv_pop hx hb dJ5_append_c97b9_33 rfl ?_
    refine lv_goto (tgt := 48) hx hb dJ5_append_c97b9_34 (by decide) ?_
    exact kB_J5_append_c97b9_48 C vM vB x3_4 σ_10 _ _ _ hG (lv_sub hl [2, 0] rfl) hw
set_option maxHeartbeats 4000000 in
set_option maxRecDepth 100000 in
theorem met_J5_append_c97b9 {l : Launch} {E : EnvT} (vE : EnvOk E) {D : va_G} {cA : Nat → ClassId} {ab : Nat} {σ : BS} {aK aV aE : Nat → Nat} {aO : Nat} {dO dT : Nat} (vM : eXs aK aV aE aO E) (vB : eBs dO dT E) {sz : Nat} {x1 : Int32} {post : BS → Prop} (hw : wp_J5_append_c97b9 post x1 σ) : Met l yJ5_append_c97b9 wgJ5_append_c97b9 rm_J5_append_c97b9 (va_Pc [.ref ab, .int x1] (zPre E D cA ab sz σ)) (va_Qr post (fun u a t => a = ab ∧ zAt D cA ab (va_A (zW cA ab σ) sz) u t) (va_A (zW cA ab σ) sz)) 1 70 (va_A (zW cA ab σ) sz) := by
  refine Met.ofW (cc := cJ5_append_c97b9) (maxL := 4) (ret := (some (.object "java/lang/AbstractStringBuilder"))) (by decide +kernel) rfl ?_
  intro p e s m args below meth c s₁ B hml hv
  obtain ⟨rfl, hsz, hP, hK, hD0, hE⟩ := hv
  subst hsz
  have hD := hD0.self (sz := s.heap.size)
  generalize hAe : va_A (zW cA ab σ) s.heap.size = A at hD hE ⊢
  have hA : ∀ q : Nat, s.heap.size ≤ q → A q := fun q h => by rw [← hAe]; exact Or.inr h
  have hS : va_S A s.heap s.heap [] := va_S.rf
  have C : zCx p s m _ meth c cJ5_append_c97b9 4 (some (.object "java/lang/AbstractStringBuilder")) wgJ5_append_c97b9 RJ5 E D cA A := ⟨B.exec, B.bytes, hml, B.returns, findClass_of_methodNamed B.named, atoms_spec (ws := wgJ5_append_c97b9) B.pre, hK, hA, B.notSynchronized, hE, vE⟩
  have hG : zG D cA ab A s σ s.heap [] := ⟨hP, hD, hS⟩
  have hl := lv_entry ([.ref ab, .int x1]) (n := 4) (Nat.le_of_ble_eq_true rfl)
  rw [lg_entry_eq]
  generalize (lg_sl ([.ref ab, .int x1]) ++ List.replicate (4 - (lg_sl ([.ref ab, .int x1])).length) Slot.unset).toArray = ls at hl ⊢
  have hl : lv_has ls 4 [(0, .ref ab), (1, .int x1)] := hl
  exact k_J5_append_c97b9 C vM vB x1 σ _ _ _ hG hl hw
/-! ===== J4_append_bf812 ===== -/
def rm_J4_append_bf812 : Room := { frames := 6, cells := 1, slots := 70, locals := 165 }
abbrev wgJ4_append_bf812 : List Cond := .code yJ4_append_bf812 cJ4_append_bf812 2 (some (.object "java/lang/StringBuilder")) :: TB
def wp_J4_append_bf812 (post : BS → Prop) (x1 : Int32) (σ : BS) : Prop :=
  wp_J5_append_c97b9 (fun σ_2 => post σ_2) x1 σ
set_option maxHeartbeats 4000000 in
set_option maxRecDepth 100000 in
theorem k_J4_append_bf812 {p : Program} {l : Launch} {e : Env} {s : State} {m : MethodId} {args : Array Value} {below : List Frame} {meth : Method} {c : Code} {A : Nat → Prop} {E : EnvT} {aK aV aE : Nat → Nat} {aO : Nat} {dO dT : Nat} {D : va_G} {cA : Nat → ClassId} {ab : Nat} (C : zCx p s m args meth c cJ4_append_bf812 2 (some (.object "java/lang/StringBuilder")) wgJ4_append_bf812 RJ4 E D cA A) (vM : eXs aK aV aE aO E) (vB : eBs dO dT E) {post : BS → Prop} :
    ∀ (x1 : Int32) (σ : BS) (H : Heap) (locs : List Loc) (ls : Array Slot), zG D cA ab A s σ H locs → lv_has ls 2 [(0, .ref ab), (1, .int x1)] → wp_J4_append_bf812 post x1 σ → W p l e rm_J4_append_bf812 s m args below meth c H locs 0 0 (MQ below (va_Qr post (fun u a t => a = ab ∧ zAt D cA ab A u t) A) args s 1 70 A) (F0 m 0 ls []) := by
  obtain ⟨hx, hb, hml, hr, hown, hts, hK, hA, hlk, hE, vE⟩ := id C
  intro x1 σ H locs ls hG hl hw
  obtain ⟨hP, hD, hS⟩ := id hG
  refine lv_aload_n hx hb dJ4_append_bf812_0 rfl (lv_at hl 0 rfl) ?_
  refine lv_iload_n hx hb dJ4_append_bf812_1 rfl (lv_at hl 1 rfl) ?_
  refine bSU_r (As := [.int x1]) (rest := []) C (met_J5_append_c97b9 vE vM vB hw) (va_cwSU 1 hts (TB_G (TB_5 tw_3_116 tw_6_221 tw_1_218 tw_3_117 tw_1_9) tw_3_118) rfl rfl rfl (by decide +kernel) ⟨by decide, by decide⟩) hP hD hS rfl hl.1 rfl (Nat.le_of_ble_eq_true rfl) dJ4_append_bf812_2 ⟨by decide, by decide⟩ (fun σ_2 H locs hw hP hD hS => ?_)
  have hG : zG D cA ab A s σ_2 H locs := ⟨hP, hD, hS⟩
  refine lv_pop hx hb dJ4_append_bf812_5 rfl ?_
  refine lv_aload_n hx hb dJ4_append_bf812_6 rfl (lv_at hl 0 rfl) ?_
  exact W.aret (v := .ref ab) hx hb hr (Or.inl ⟨_, rfl⟩) (Or.inr ⟨_, rfl⟩) (fun t ht hW => ⟨⟨σ_2, ab, rfl, hw, rfl, by rw [ht]; exact hP, va_K.moved hW.alike hK, hD⟩, hS.F ht⟩) hS.2.2 dJ4_append_bf812_7 hlk
set_option maxHeartbeats 4000000 in
set_option maxRecDepth 100000 in
theorem met_J4_append_bf812 {l : Launch} {E : EnvT} (vE : EnvOk E) {D : va_G} {cA : Nat → ClassId} {ab : Nat} {σ : BS} {aK aV aE : Nat → Nat} {aO : Nat} {dO dT : Nat} (vM : eXs aK aV aE aO E) (vB : eBs dO dT E) {sz : Nat} {x1 : Int32} {post : BS → Prop} (hw : wp_J4_append_bf812 post x1 σ) : Met l yJ4_append_bf812 wgJ4_append_bf812 rm_J4_append_bf812 (va_Pc [.ref ab, .int x1] (zPre E D cA ab sz σ)) (va_Qr post (fun u a t => a = ab ∧ zAt D cA ab (va_A (zW cA ab σ) sz) u t) (va_A (zW cA ab σ) sz)) 1 70 (va_A (zW cA ab σ) sz) := by
  refine Met.ofW (cc := cJ4_append_bf812) (maxL := 2) (ret := (some (.object "java/lang/StringBuilder"))) (by decide +kernel) rfl ?_
  intro p e s m args below meth c s₁ B hml hv
  obtain ⟨rfl, hsz, hP, hK, hD0, hE⟩ := hv
  subst hsz
  have hD := hD0.self (sz := s.heap.size)
  generalize hAe : va_A (zW cA ab σ) s.heap.size = A at hD hE ⊢
  have hA : ∀ q : Nat, s.heap.size ≤ q → A q := fun q h => by rw [← hAe]; exact Or.inr h
  have hS : va_S A s.heap s.heap [] := va_S.rf
  have C : zCx p s m _ meth c cJ4_append_bf812 2 (some (.object "java/lang/StringBuilder")) wgJ4_append_bf812 RJ4 E D cA A := ⟨B.exec, B.bytes, hml, B.returns, findClass_of_methodNamed B.named, atoms_spec (ws := wgJ4_append_bf812) B.pre, hK, hA, B.notSynchronized, hE, vE⟩
  have hG : zG D cA ab A s σ s.heap [] := ⟨hP, hD, hS⟩
  have hl := lv_entry ([.ref ab, .int x1]) (n := 2) (Nat.le_of_ble_eq_true rfl)
  rw [lg_entry_eq]
  generalize (lg_sl ([.ref ab, .int x1]) ++ List.replicate (2 - (lg_sl ([.ref ab, .int x1])).length) Slot.unset).toArray = ls at hl ⊢
  have hl : lv_has ls 2 [(0, .ref ab), (1, .int x1)] := hl
  exact k_J4_append_bf812 C vM vB x1 σ _ _ _ hG hl hw
/-! ===== J5_length_8abf5 ===== -/
def rm_J5_length_8abf5 : Room := { frames := 0, cells := 0, slots := 0, locals := 0 }
abbrev wgJ5_length_8abf5 : List Cond := .code yJ5_length_8abf5 cJ5_length_8abf5 1 (some .int) :: TB
def wp_J5_length_8abf5 (post : Int32 → BS → Prop) (σ : BS) : Prop :=
  post (zI σ 1) σ
set_option maxHeartbeats 4000000 in
set_option maxRecDepth 100000 in
theorem k_J5_length_8abf5 {p : Program} {l : Launch} {e : Env} {s : State} {m : MethodId} {args : Array Value} {below : List Frame} {meth : Method} {c : Code} {A : Nat → Prop} {E : EnvT} {aK aV aE : Nat → Nat} {aO : Nat} {dO dT : Nat} {D : va_G} {cA : Nat → ClassId} {ab : Nat} (C : zCx p s m args meth c cJ5_length_8abf5 1 (some .int) wgJ5_length_8abf5 RJ5 E D cA A) (vM : eXs aK aV aE aO E) (vB : eBs dO dT E) {post : Int32 → BS → Prop} :
    ∀ (σ : BS) (H : Heap) (locs : List Loc) (ls : Array Slot), zG D cA ab A s σ H locs → lv_has ls 1 [(0, .ref ab)] → wp_J5_length_8abf5 post σ → W p l e rm_J5_length_8abf5 s m args below meth c H locs 0 0 (MQ below (va_Qi post (zAt D cA ab A) A) args s 0 0 A) (F0 m 0 ls []) := by
  obtain ⟨hx, hb, hml, hr, hown, hts, hK, hA, hlk, hE, vE⟩ := id C
  intro σ H locs ls hG hl hw
  obtain ⟨hP, hD, hS⟩ := id hG
  refine lv_aload_n hx hb dJ5_length_8abf5_0 rfl (lv_at hl 0 rfl) ?_
  refine va_get (D := D) (ci := 1) (v := .int (zI σ 1)) (C := RJ4) (T := TJ4) (N := 4) hx hb hts (in_tb inJ4) hown hK hP 0 rfl rfl 3 (by decide) (hts _ (List.mem_cons_of_mem _ tw_1_209)) (fun _ h9 => h9) rfl dJ5_length_8abf5_1 ?_
  exact W.iret (v := zI σ 1) hx hb hr (fun t ht hW => ⟨⟨_, σ, rfl, hw, by rw [ht]; exact hP, va_K.moved hW.alike hK, hD⟩, hS.F ht⟩) hS.2.2 dJ5_length_8abf5_4 hlk
set_option maxHeartbeats 4000000 in
set_option maxRecDepth 100000 in
theorem met_J5_length_8abf5 {l : Launch} {E : EnvT} (vE : EnvOk E) {D : va_G} {cA : Nat → ClassId} {ab : Nat} {σ : BS} {aK aV aE : Nat → Nat} {aO : Nat} {dO dT : Nat} (vM : eXs aK aV aE aO E) (vB : eBs dO dT E) {sz : Nat} {post : Int32 → BS → Prop} (hw : wp_J5_length_8abf5 post σ) : Met l yJ5_length_8abf5 wgJ5_length_8abf5 rm_J5_length_8abf5 (va_Pc [.ref ab] (zPre E D cA ab sz σ)) (va_Qi post (zAt D cA ab (va_A (zW cA ab σ) sz)) (va_A (zW cA ab σ) sz)) 0 0 (va_A (zW cA ab σ) sz) := by
  refine Met.ofW (cc := cJ5_length_8abf5) (maxL := 1) (ret := (some .int)) (by decide +kernel) rfl ?_
  intro p e s m args below meth c s₁ B hml hv
  obtain ⟨rfl, hsz, hP, hK, hD0, hE⟩ := hv
  subst hsz
  have hD := hD0.self (sz := s.heap.size)
  generalize hAe : va_A (zW cA ab σ) s.heap.size = A at hD hE ⊢
  have hA : ∀ q : Nat, s.heap.size ≤ q → A q := fun q h => by rw [← hAe]; exact Or.inr h
  have hS : va_S A s.heap s.heap [] := va_S.rf
  have C : zCx p s m _ meth c cJ5_length_8abf5 1 (some .int) wgJ5_length_8abf5 RJ5 E D cA A := ⟨B.exec, B.bytes, hml, B.returns, findClass_of_methodNamed B.named, atoms_spec (ws := wgJ5_length_8abf5) B.pre, hK, hA, B.notSynchronized, hE, vE⟩
  have hG : zG D cA ab A s σ s.heap [] := ⟨hP, hD, hS⟩
  have hl := lv_entry ([.ref ab]) (n := 1) (Nat.le_of_ble_eq_true rfl)
  rw [lg_entry_eq]
  generalize (lg_sl ([.ref ab]) ++ List.replicate (1 - (lg_sl ([.ref ab])).length) Slot.unset).toArray = ls at hl ⊢
  have hl : lv_has ls 1 [(0, .ref ab)] := hl
  exact k_J5_length_8abf5 C vM vB σ _ _ _ hG hl hw
/-! ===== J4_length_8abf5 ===== -/
def rm_J4_length_8abf5 : Room := { frames := 1, cells := 0, slots := 0, locals := 20 }
abbrev wgJ4_length_8abf5 : List Cond := .code yJ4_length_8abf5 cJ4_length_8abf5 1 (some .int) :: TB
def wp_J4_length_8abf5 (post : Int32 → BS → Prop) (σ : BS) : Prop :=
  wp_J5_length_8abf5 (fun r_1 σ_2 => post r_1 σ_2) σ
set_option maxHeartbeats 4000000 in
set_option maxRecDepth 100000 in
theorem k_J4_length_8abf5 {p : Program} {l : Launch} {e : Env} {s : State} {m : MethodId} {args : Array Value} {below : List Frame} {meth : Method} {c : Code} {A : Nat → Prop} {E : EnvT} {aK aV aE : Nat → Nat} {aO : Nat} {dO dT : Nat} {D : va_G} {cA : Nat → ClassId} {ab : Nat} (C : zCx p s m args meth c cJ4_length_8abf5 1 (some .int) wgJ4_length_8abf5 RJ4 E D cA A) (vM : eXs aK aV aE aO E) (vB : eBs dO dT E) {post : Int32 → BS → Prop} :
    ∀ (σ : BS) (H : Heap) (locs : List Loc) (ls : Array Slot), zG D cA ab A s σ H locs → lv_has ls 1 [(0, .ref ab)] → wp_J4_length_8abf5 post σ → W p l e rm_J4_length_8abf5 s m args below meth c H locs 0 0 (MQ below (va_Qi post (zAt D cA ab A) A) args s 0 0 A) (F0 m 0 ls []) := by
  obtain ⟨hx, hb, hml, hr, hown, hts, hK, hA, hlk, hE, vE⟩ := id C
  intro σ H locs ls hG hl hw
  obtain ⟨hP, hD, hS⟩ := id hG
  refine lv_aload_n hx hb dJ4_length_8abf5_0 rfl (lv_at hl 0 rfl) ?_
  refine bSU_i (As := []) (rest := []) C (met_J5_length_8abf5 vE vM vB hw) (va_cwSU 0 hts (TB_G (TB_5 tw_3_163 tw_3_159 tw_1_218 tw_3_158 tw_1_9) tw_3_164) rfl rfl rfl (by decide +kernel) ⟨by decide, by decide⟩) hP hD hS rfl hl.1 rfl (Nat.le_of_ble_eq_true rfl) dJ4_length_8abf5_1 ⟨by decide, by decide⟩ (fun r_1 σ_2 H locs hw hP hD hS => ?_)
  have hG : zG D cA ab A s σ_2 H locs := ⟨hP, hD, hS⟩
  exact W.iret (v := r_1) hx hb hr (fun t ht hW => ⟨⟨_, σ_2, rfl, hw, by rw [ht]; exact hP, va_K.moved hW.alike hK, hD⟩, hS.F ht⟩) hS.2.2 dJ4_length_8abf5_4 hlk
set_option maxHeartbeats 4000000 in
set_option maxRecDepth 100000 in
theorem met_J4_length_8abf5 {l : Launch} {E : EnvT} (vE : EnvOk E) {D : va_G} {cA : Nat → ClassId} {ab : Nat} {σ : BS} {aK aV aE : Nat → Nat} {aO : Nat} {dO dT : Nat} (vM : eXs aK aV aE aO E) (vB : eBs dO dT E) {sz : Nat} {post : Int32 → BS → Prop} (hw : wp_J4_length_8abf5 post σ) : Met l yJ4_length_8abf5 wgJ4_length_8abf5 rm_J4_length_8abf5 (va_Pc [.ref ab] (zPre E D cA ab sz σ)) (va_Qi post (zAt D cA ab (va_A (zW cA ab σ) sz)) (va_A (zW cA ab σ) sz)) 0 0 (va_A (zW cA ab σ) sz) := by
  refine Met.ofW (cc := cJ4_length_8abf5) (maxL := 1) (ret := (some .int)) (by decide +kernel) rfl ?_
  intro p e s m args below meth c s₁ B hml hv
  obtain ⟨rfl, hsz, hP, hK, hD0, hE⟩ := hv
  subst hsz
  have hD := hD0.self (sz := s.heap.size)
  generalize hAe : va_A (zW cA ab σ) s.heap.size = A at hD hE ⊢
  have hA : ∀ q : Nat, s.heap.size ≤ q → A q := fun q h => by rw [← hAe]; exact Or.inr h
  have hS : va_S A s.heap s.heap [] := va_S.rf
  have C : zCx p s m _ meth c cJ4_length_8abf5 1 (some .int) wgJ4_length_8abf5 RJ4 E D cA A := ⟨B.exec, B.bytes, hml, B.returns, findClass_of_methodNamed B.named, atoms_spec (ws := wgJ4_length_8abf5) B.pre, hK, hA, B.notSynchronized, hE, vE⟩
  have hG : zG D cA ab A s σ s.heap [] := ⟨hP, hD, hS⟩
  have hl := lv_entry ([.ref ab]) (n := 1) (Nat.le_of_ble_eq_true rfl)
  rw [lg_entry_eq]
  generalize (lg_sl ([.ref ab]) ++ List.replicate (1 - (lg_sl ([.ref ab])).length) Slot.unset).toArray = ls at hl ⊢
  have hl : lv_has ls 1 [(0, .ref ab)] := hl
  exact k_J4_length_8abf5 C vM vB σ _ _ _ hG hl hw
/-! ===== J5_charAt_5068e ===== -/
def rm_J5_charAt_5068e : Room := { frames := 2, cells := 0, slots := 0, locals := 61 }
abbrev wgJ5_charAt_5068e : List Cond := .code yJ5_charAt_5068e cJ5_charAt_5068e 5 (some .char) :: TB
def wp_J5_charAt_5068e (post : Int32 → BS → Prop) (x1 : Int32) (σ : BS) : Prop :=
  wp_J9_min_7cf53 (fun r_2  => wp_J0_checkIndex_df160 (((0 : Int32) = 0 → (vp_in x1 (zN σ 1) ∧ (isC ((((zA σ 0 x1.toNatClampNeg) &&& 255).toUInt32 % 65536).toInt32) ∧ (post ((((zA σ 0 x1.toNatClampNeg) &&& 255).toUInt32 % 65536).toInt32) σ)))) ∧ (¬ (0 : Int32) = 0 → (False))) x1 r_2) (zI σ 1) ((Int32.ofNat (zN σ 1)) >>> ((0 : Int32) &&& 31))
set_option maxHeartbeats 4000000 in
set_option maxRecDepth 100000 in
theorem k_J5_charAt_5068e {p : Program} {l : Launch} {e : Env} {s : State} {m : MethodId} {args : Array Value} {below : List Frame} {meth : Method} {c : Code} {A : Nat → Prop} {E : EnvT} {aK aV aE : Nat → Nat} {aO : Nat} {dO dT : Nat} {D : va_G} {cA : Nat → ClassId} {ab : Nat} (C : zCx p s m args meth c cJ5_charAt_5068e 5 (some .char) wgJ5_charAt_5068e RJ5 E D cA A) (vM : eXs aK aV aE aO E) (vB : eBs dO dT E) {post : Int32 → BS → Prop} :
    ∀ (x1 : Int32) (σ : BS) (H : Heap) (locs : List Loc) (ls : Array Slot), zG D cA ab A s σ H locs → lv_has ls 5 [(0, .ref ab), (1, .int x1)] → wp_J5_charAt_5068e post x1 σ → W p l e rm_J5_charAt_5068e s m args below meth c H locs 0 0 (MQ below (va_Qi post (zAt D cA ab A) A) args s 0 0 A) (F0 m 0 ls []) := by
  obtain ⟨hx, hb, hml, hr, hown, hts, hK, hA, hlk, hE, vE⟩ := id C
  intro x1 σ H locs ls hG hl hw
  obtain ⟨hP, hD, hS⟩ := id hG
  refine lv_aload_n hx hb dJ5_charAt_5068e_0 rfl (lv_at hl 0 rfl) ?_
  refine va_get (D := D) (ci := 1) (v := .int 0) (C := RJ4) (T := TJ4) (N := 4) hx hb hts (in_tb inJ4) hown hK hP 0 rfl rfl 1 (by decide) (hts _ (List.mem_cons_of_mem _ tw_1_206)) (fun _ h9 => h9) rfl dJ5_charAt_5068e_1 ?_
  refine lv_istore_n (lv' := [(2, .int 0), (0, .ref ab), (1, .int x1)]) hx hb dJ5_charAt_5068e_4 rfl hl (by decide) rfl (fun ls hl => ?_)
  refine lv_aload_n hx hb dJ5_charAt_5068e_5 rfl (lv_at hl 1 rfl) ?_
  refine va_get (D := D) (ci := 1) (v := .ref (zN σ 0)) (C := RJ4) (T := TJ4) (N := 4) hx hb hts (in_tb inJ4) hown hK hP 0 rfl rfl 0 (by decide) (hts _ (List.mem_cons_of_mem _ tw_1_205)) (fun _ h9 => h9) rfl dJ5_charAt_5068e_6 ?_
  refine lv_astore_n (lv' := [(3, .ref (zN σ 0)), (2, .int 0), (0, .ref ab), (1, .int x1)]) hx hb dJ5_charAt_5068e_9 rfl hl (by decide) rfl (fun ls hl => ?_)
  refine lv_aload_n hx hb dJ5_charAt_5068e_10 rfl (lv_at hl 2 rfl) ?_
  refine va_get (D := D) (ci := 1) (v := .int (zI σ 1)) (C := RJ4) (T := TJ4) (N := 4) hx hb hts (in_tb inJ4) hown hK hP 0 rfl rfl 3 (by decide) (hts _ (List.mem_cons_of_mem _ tw_1_209)) (fun _ h9 => h9) rfl dJ5_charAt_5068e_11 ?_
  refine lv_aload_n hx hb dJ5_charAt_5068e_14 rfl (lv_at hl 0 rfl) ?_
  have eak_1 : zN σ 0 = zN σ 0 := rfl
  have enk_1 : zN σ 1 = zN σ 1 := rfl
  refine va_alen (v := Int32.ofNat (zN σ 1)) hx hb hK hP 1 4 (zW_at eak_1 enk_1) rfl rfl dJ5_charAt_5068e_15 ?_
  refine lv_iload_n hx hb dJ5_charAt_5068e_16 rfl (lv_at hl 1 rfl) ?_
  refine lv_ishr hx hb dJ5_charAt_5068e_17 ?_
  refine zS_i (As := [.int (zI σ 1), .int ((Int32.ofNat (zN σ 1)) >>> ((0 : Int32) &&& 31))]) (rest := []) C (met_J9_min_7cf53 vE vM hw) (va_cwS 2 hts (TB_G (TB_3 tw_4_28 tw_2_152 tw_1_15) tw_2_153) rfl rfl rfl (by decide +kernel) ⟨by decide, by decide⟩) hP hD hS rfl hl.1 rfl (Nat.le_of_ble_eq_true rfl) dJ5_charAt_5068e_18 ⟨by decide, by decide⟩ (fun r_2 H locs hw hP hS => ?_)
  have hG : zG D cA ab A s σ H locs := ⟨hP, hD, hS⟩
  refine lv_istore (lv' := [(4, .int r_2), (3, .ref (zN σ 0)), (2, .int 0), (0, .ref ab), (1, .int x1)]) hx hb dJ5_charAt_5068e_21 hl (by decide) rfl (fun ls hl => ?_)
  refine lv_iload_n hx hb dJ5_charAt_5068e_23 rfl (lv_at hl 4 rfl) ?_
  refine lv_iload hx hb dJ5_charAt_5068e_24 (lv_at hl 0 rfl) ?_
  refine zS_v (As := [.int x1, .int r_2]) (rest := []) C (met_J0_checkIndex_df160 vE vM hw) (va_cwS 2 hts (TB_G (TB_3 tw_4_29 tw_2_68 tw_1_11) tw_2_69) rfl rfl rfl (by decide +kernel) ⟨by decide, by decide⟩) hP hD hS rfl hl.1 rfl (Nat.le_of_ble_eq_true rfl) dJ5_charAt_5068e_26 ⟨by decide, by decide⟩ (fun  H locs hw hP hS => ?_)
  have hG : zG D cA ab A s σ H locs := ⟨hP, hD, hS⟩
  refine lv_iload_n hx hb dJ5_charAt_5068e_29 rfl (lv_at hl 2 rfl) ?_
  refine lv_if_ne (tgt := 42) hx hb dJ5_charAt_5068e_30 (by decide) (fun q_ => ?_) (fun q_ => ?_)
  · have hw := hw.2 q_
    refine lv_aload_n hx hb dJ5_charAt_5068e_42 rfl (lv_at hl 1 rfl) ?_
    refine lv_iload_n hx hb dJ5_charAt_5068e_43 rfl (lv_at hl 4 rfl) ?_
    exact hw.elim
  · have hw := hw.1 q_
    refine lv_aload_n hx hb dJ5_charAt_5068e_33 rfl (lv_at hl 1 rfl) ?_
    refine lv_iload_n hx hb dJ5_charAt_5068e_34 rfl (lv_at hl 4 rfl) ?_
    obtain ⟨h_6, hw⟩ := hw
    have eak_8 : zN σ 0 = zN σ 0 := rfl
    have enk_8 : zN σ 1 = zN σ 1 := rfl
    refine va_bald hx hb hK hP 1 4 (zW_at eak_8 enk_8) rfl h_6 dJ5_charAt_5068e_35 ?_
    refine lv_sipush (v := 255) hx hb dJ5_charAt_5068e_36 (by decide) ?_
    refine lv_iand hx hb dJ5_charAt_5068e_39 ?_
    refine lv_i2c hx hb dJ5_charAt_5068e_40 rfl ?_
    obtain ⟨h_7, hw⟩ := hw
    exact W.zret (v := (((zA σ 0 x1.toNatClampNeg) &&& 255).toUInt32 % 65536).toInt32) (ty := .char) hx hb hr h_7 (fun t ht hW => ⟨⟨_, σ, rfl, hw, by rw [ht]; exact hP, va_K.moved hW.alike hK, hD⟩, hS.F ht⟩) hS.2.2 dJ5_charAt_5068e_41 hlk
set_option maxHeartbeats 4000000 in
set_option maxRecDepth 100000 in
theorem met_J5_charAt_5068e {l : Launch} {E : EnvT} (vE : EnvOk E) {D : va_G} {cA : Nat → ClassId} {ab : Nat} {σ : BS} {aK aV aE : Nat → Nat} {aO : Nat} {dO dT : Nat} (vM : eXs aK aV aE aO E) (vB : eBs dO dT E) {sz : Nat} {x1 : Int32} {post : Int32 → BS → Prop} (hw : wp_J5_charAt_5068e post x1 σ) : Met l yJ5_charAt_5068e wgJ5_charAt_5068e rm_J5_charAt_5068e (va_Pc [.ref ab, .int x1] (zPre E D cA ab sz σ)) (va_Qi post (zAt D cA ab (va_A (zW cA ab σ) sz)) (va_A (zW cA ab σ) sz)) 0 0 (va_A (zW cA ab σ) sz) := by
  refine Met.ofW (cc := cJ5_charAt_5068e) (maxL := 5) (ret := (some .char)) (by decide +kernel) rfl ?_
  intro p e s m args below meth c s₁ B hml hv
  obtain ⟨rfl, hsz, hP, hK, hD0, hE⟩ := hv
  subst hsz
  have hD := hD0.self (sz := s.heap.size)
  generalize hAe : va_A (zW cA ab σ) s.heap.size = A at hD hE ⊢
  have hA : ∀ q : Nat, s.heap.size ≤ q → A q := fun q h => by rw [← hAe]; exact Or.inr h
  have hS : va_S A s.heap s.heap [] := va_S.rf
  have C : zCx p s m _ meth c cJ5_charAt_5068e 5 (some .char) wgJ5_charAt_5068e RJ5 E D cA A := ⟨B.exec, B.bytes, hml, B.returns, findClass_of_methodNamed B.named, atoms_spec (ws := wgJ5_charAt_5068e) B.pre, hK, hA, B.notSynchronized, hE, vE⟩
  have hG : zG D cA ab A s σ s.heap [] := ⟨hP, hD, hS⟩
  have hl := lv_entry ([.ref ab, .int x1]) (n := 5) (Nat.le_of_ble_eq_true rfl)
  rw [lg_entry_eq]
  generalize (lg_sl ([.ref ab, .int x1]) ++ List.replicate (5 - (lg_sl ([.ref ab, .int x1])).length) Slot.unset).toArray = ls at hl ⊢
  have hl : lv_has ls 5 [(0, .ref ab), (1, .int x1)] := hl
  exact k_J5_charAt_5068e C vM vB x1 σ _ _ _ hG hl hw
/-! ===== J4_charAt_5068e ===== -/
def rm_J4_charAt_5068e : Room := { frames := 3, cells := 0, slots := 0, locals := 85 }
abbrev wgJ4_charAt_5068e : List Cond := .code yJ4_charAt_5068e cJ4_charAt_5068e 2 (some .char) :: TB
def wp_J4_charAt_5068e (post : Int32 → BS → Prop) (x1 : Int32) (σ : BS) : Prop :=
  wp_J5_charAt_5068e (fun r_1 σ_2 => isC r_1 ∧ (post r_1 σ_2)) x1 σ
set_option maxHeartbeats 4000000 in
set_option maxRecDepth 100000 in
theorem k_J4_charAt_5068e {p : Program} {l : Launch} {e : Env} {s : State} {m : MethodId} {args : Array Value} {below : List Frame} {meth : Method} {c : Code} {A : Nat → Prop} {E : EnvT} {aK aV aE : Nat → Nat} {aO : Nat} {dO dT : Nat} {D : va_G} {cA : Nat → ClassId} {ab : Nat} (C : zCx p s m args meth c cJ4_charAt_5068e 2 (some .char) wgJ4_charAt_5068e RJ4 E D cA A) (vM : eXs aK aV aE aO E) (vB : eBs dO dT E) {post : Int32 → BS → Prop} :
    ∀ (x1 : Int32) (σ : BS) (H : Heap) (locs : List Loc) (ls : Array Slot), zG D cA ab A s σ H locs → lv_has ls 2 [(0, .ref ab), (1, .int x1)] → wp_J4_charAt_5068e post x1 σ → W p l e rm_J4_charAt_5068e s m args below meth c H locs 0 0 (MQ below (va_Qi post (zAt D cA ab A) A) args s 0 0 A) (F0 m 0 ls []) := by
  obtain ⟨hx, hb, hml, hr, hown, hts, hK, hA, hlk, hE, vE⟩ := id C
  intro x1 σ H locs ls hG hl hw
  obtain ⟨hP, hD, hS⟩ := id hG
  refine lv_aload_n hx hb dJ4_charAt_5068e_0 rfl (lv_at hl 0 rfl) ?_
  refine lv_iload_n hx hb dJ4_charAt_5068e_1 rfl (lv_at hl 1 rfl) ?_
  refine bSU_i (As := [.int x1]) (rest := []) C (met_J5_charAt_5068e vE vM vB hw) (va_cwSU 1 hts (TB_G (TB_5 tw_4_25 tw_6_224 tw_1_218 tw_4_26 tw_1_9) tw_4_27) rfl rfl rfl (by decide +kernel) ⟨by decide, by decide⟩) hP hD hS rfl hl.1 rfl (Nat.le_of_ble_eq_true rfl) dJ4_charAt_5068e_2 ⟨by decide, by decide⟩ (fun r_1 σ_2 H locs hw hP hD hS => ?_)
  have hG : zG D cA ab A s σ_2 H locs := ⟨hP, hD, hS⟩
  obtain ⟨h_3, hw⟩ := hw
  exact W.zret (v := r_1) (ty := .char) hx hb hr h_3 (fun t ht hW => ⟨⟨_, σ_2, rfl, hw, by rw [ht]; exact hP, va_K.moved hW.alike hK, hD⟩, hS.F ht⟩) hS.2.2 dJ4_charAt_5068e_5 hlk
set_option maxHeartbeats 4000000 in
set_option maxRecDepth 100000 in
theorem met_J4_charAt_5068e {l : Launch} {E : EnvT} (vE : EnvOk E) {D : va_G} {cA : Nat → ClassId} {ab : Nat} {σ : BS} {aK aV aE : Nat → Nat} {aO : Nat} {dO dT : Nat} (vM : eXs aK aV aE aO E) (vB : eBs dO dT E) {sz : Nat} {x1 : Int32} {post : Int32 → BS → Prop} (hw : wp_J4_charAt_5068e post x1 σ) : Met l yJ4_charAt_5068e wgJ4_charAt_5068e rm_J4_charAt_5068e (va_Pc [.ref ab, .int x1] (zPre E D cA ab sz σ)) (va_Qi post (zAt D cA ab (va_A (zW cA ab σ) sz)) (va_A (zW cA ab σ) sz)) 0 0 (va_A (zW cA ab σ) sz) := by
  refine Met.ofW (cc := cJ4_charAt_5068e) (maxL := 2) (ret := (some .char)) (by decide +kernel) rfl ?_
  intro p e s m args below meth c s₁ B hml hv
  obtain ⟨rfl, hsz, hP, hK, hD0, hE⟩ := hv
  subst hsz
  have hD := hD0.self (sz := s.heap.size)
  generalize hAe : va_A (zW cA ab σ) s.heap.size = A at hD hE ⊢
  have hA : ∀ q : Nat, s.heap.size ≤ q → A q := fun q h => by rw [← hAe]; exact Or.inr h
  have hS : va_S A s.heap s.heap [] := va_S.rf
  have C : zCx p s m _ meth c cJ4_charAt_5068e 2 (some .char) wgJ4_charAt_5068e RJ4 E D cA A := ⟨B.exec, B.bytes, hml, B.returns, findClass_of_methodNamed B.named, atoms_spec (ws := wgJ4_charAt_5068e) B.pre, hK, hA, B.notSynchronized, hE, vE⟩
  have hG : zG D cA ab A s σ s.heap [] := ⟨hP, hD, hS⟩
  have hl := lv_entry ([.ref ab, .int x1]) (n := 2) (Nat.le_of_ble_eq_true rfl)
  rw [lg_entry_eq]
  generalize (lg_sl ([.ref ab, .int x1]) ++ List.replicate (2 - (lg_sl ([.ref ab, .int x1])).length) Slot.unset).toArray = ls at hl ⊢
  have hl : lv_has ls 2 [(0, .ref ab), (1, .int x1)] := hl
  exact k_J4_charAt_5068e C vM vB x1 σ _ _ _ hG hl hw
/-! ===== J5_setLength_d00df ===== -/
def rm_J5_setLength_d00df : Room := { frames := 5, cells := 1, slots := 70, locals := 142 }
abbrev wgJ5_setLength_d00df : List Cond := .code yJ5_setLength_d00df cJ5_setLength_d00df 2 none :: TB
def wB_J5_setLength_d00df_76 (post : BS → Prop) (x1 : Int32) (σ : BS) : Prop :=
  post (jI σ 1 x1)
def wp_J5_setLength_d00df (post : BS → Prop) (x1 : Int32) (σ : BS) : Prop :=
  (0 ≤ x1 → (wp_J5_ensureCapacityInternal_d00df (fun σ_2 => (x1 ≤ (zI σ_2 1) → (((zI σ_2 1) ≤ x1 → (wB_J5_setLength_d00df_76 post x1 σ_2)) ∧ (¬ (zI σ_2 1) ≤ x1 → (wB_J5_setLength_d00df_76 post x1 (jI σ_2 0 1))))) ∧ (¬ x1 ≤ (zI σ_2 1) → (wp_J5_isLatin1_aae02 (fun r_3 σ_4 => (r_3 = 0 → (False)) ∧ (¬ r_3 = 0 → (False))) σ_2))) x1 σ)) ∧ (¬ 0 ≤ x1 → (False))
set_option maxHeartbeats 4000000 in
set_option maxRecDepth 100000 in
theorem kB_J5_setLength_d00df_76 {p : Program} {l : Launch} {e : Env} {s : State} {m : MethodId} {args : Array Value} {below : List Frame} {meth : Method} {c : Code} {A : Nat → Prop} {E : EnvT} {aK aV aE : Nat → Nat} {aO : Nat} {dO dT : Nat} {D : va_G} {cA : Nat → ClassId} {ab : Nat} (C : zCx p s m args meth c cJ5_setLength_d00df 2 none wgJ5_setLength_d00df RJ5 E D cA A) (vM : eXs aK aV aE aO E) (vB : eBs dO dT E) {post : BS → Prop} :
    ∀ (x1 : Int32) (σ : BS) (H : Heap) (locs : List Loc) (ls : Array Slot), zG D cA ab A s σ H locs → lv_has ls 2 [(0, .ref ab), (1, .int x1)] → wB_J5_setLength_d00df_76 post x1 σ → W p l e rm_J5_setLength_d00df s m args below meth c H locs 1 70 (MQ below (va_Qv post (zAt D cA ab A) A) args s 1 70 A) (F0 m 76 ls []) := by
  obtain ⟨hx, hb, hml, hr, hown, hts, hK, hA, hlk, hE, vE⟩ := id C
  intro x1 σ H locs ls hG hl hw
  obtain ⟨hP, hD, hS⟩ := id hG
  refine lv_aload_n hx hb dJ5_setLength_d00df_76 rfl (lv_at hl 0 rfl) ?_
  refine lv_iload_n hx hb dJ5_setLength_d00df_77 rfl (lv_at hl 1 rfl) ?_
  refine va_put (D := D) (ci := 1) (v := .int x1) (ty := .int) (C := RJ4) (T := TJ4) (N := 4) hx hb hts (in_tb inJ4) tyJ4 tyJ4_ok nmJ4 hown hK hP hD hS 0 rfl rfl 3 (by decide) (hts _ (List.mem_cons_of_mem _ tw_1_209)) (fun _ h9 => h9) rfl (by decide +kernel) rfl rfl (Nat.le_of_ble_eq_true rfl) dJ5_setLength_d00df_78 (fun H locs hP hD hS => ?_)
  have hG : zG D cA ab A s (jI σ 1 x1) H locs := ⟨hP, hD, hS⟩
  obtain ⟨hP, hD, hS⟩ := id hG
  exact W.vret hx hb hr (fun t ht hW => ⟨⟨(jI σ 1 x1), rfl, hw, by rw [ht]; exact hP, va_K.moved hW.alike hK, hD⟩, hS.F ht⟩) hS.2.2 dJ5_setLength_d00df_81 hlk
set_option maxHeartbeats 4000000 in
set_option maxRecDepth 100000 in
theorem k_J5_setLength_d00df {p : Program} {l : Launch} {e : Env} {s : State} {m : MethodId} {args : Array Value} {below : List Frame} {meth : Method} {c : Code} {A : Nat → Prop} {E : EnvT} {aK aV aE : Nat → Nat} {aO : Nat} {dO dT : Nat} {D : va_G} {cA : Nat → ClassId} {ab : Nat} (C : zCx p s m args meth c cJ5_setLength_d00df 2 none wgJ5_setLength_d00df RJ5 E D cA A) (vM : eXs aK aV aE aO E) (vB : eBs dO dT E) {post : BS → Prop} :
    ∀ (x1 : Int32) (σ : BS) (H : Heap) (locs : List Loc) (ls : Array Slot), zG D cA ab A s σ H locs → lv_has ls 2 [(0, .ref ab), (1, .int x1)] → wp_J5_setLength_d00df post x1 σ → W p l e rm_J5_setLength_d00df s m args below meth c H locs 0 0 (MQ below (va_Qv post (zAt D cA ab A) A) args s 1 70 A) (F0 m 0 ls []) := by
  obtain ⟨hx, hb, hml, hr, hown, hts, hK, hA, hlk, hE, vE⟩ := id C
  intro x1 σ H locs ls hG hl hw
  obtain ⟨hP, hD, hS⟩ := id hG
  refine lv_iload_n hx hb dJ5_setLength_d00df_0 rfl (lv_at hl 1 rfl) ?_
  refine lv_if_ge (tgt := 13) hx hb dJ5_setLength_d00df_1 (by decide) (fun q_ => ?_) (fun q_ => ?_)
  · have hw := hw.1 q_
    refine lv_aload_n hx hb dJ5_setLength_d00df_13 rfl (lv_at hl 0 rfl) ?_
    refine lv_iload_n hx hb dJ5_setLength_d00df_14 rfl (lv_at hl 1 rfl) ?_
    refine bU_v (As := [.int x1]) (rest := []) C (met_J5_ensureCapacityInternal_d00df vE vM vB hw) (b_cu 1 hts (TB_G (pre := []) (fun _ h => nomatch h) tw_2_215) rfl rfl rfl (hts _ (List.mem_cons_of_mem _ tw_2_212)) (hts _ (List.mem_cons_of_mem _ tw_6_213)) (hts _ (List.mem_cons_of_mem _ tw_2_214)) (hts _ (List.mem_cons_of_mem _ tw_1_9)) (va_Nw.use rfl (vB _ _ _ hE).1) (by decide +kernel) ⟨by decide, by decide⟩) hP hD hS rfl hl.1 rfl (Nat.le_of_ble_eq_true rfl) dJ5_setLength_d00df_15 ⟨by decide, by decide⟩ (fun σ_2 H locs hw hP hD hS => ?_)
    have hG : zG D cA ab A s σ_2 H locs := ⟨hP, hD, hS⟩
    refine lv_aload_n hx hb dJ5_setLength_d00df_18 rfl (lv_at hl 0 rfl) ?_
    refine va_get (D := D) (ci := 1) (v := .int (zI σ_2 1)) (C := RJ4) (T := TJ4) (N := 4) hx hb hts (in_tb inJ4) hown hK hP 0 rfl rfl 3 (by decide) (hts _ (List.mem_cons_of_mem _ tw_1_209)) (fun _ h9 => h9) rfl dJ5_setLength_d00df_19 ?_
    refine lv_iload_n hx hb dJ5_setLength_d00df_22 rfl (lv_at hl 1 rfl) ?_
    refine lv_icmp_ge (tgt := 63) hx hb dJ5_setLength_d00df_23 (by decide) (fun q_ => ?_) (fun q_ => ?_)
    · have hw := hw.1 q_
      refine lv_aload_n hx hb dJ5_setLength_d00df_63 rfl (lv_at hl 0 rfl) ?_
      refine va_get (D := D) (ci := 1) (v := .int (zI σ_2 1)) (C := RJ4) (T := TJ4) (N := 4) hx hb hts (in_tb inJ4) hown hK hP 0 rfl rfl 3 (by decide) (hts _ (List.mem_cons_of_mem _ tw_1_209)) (fun _ h9 => h9) rfl dJ5_setLength_d00df_64 ?_
      refine lv_iload_n hx hb dJ5_setLength_d00df_67 rfl (lv_at hl 1 rfl) ?_
      refine lv_icmp_le (tgt := 76) hx hb dJ5_setLength_d00df_68 (by decide) (fun q_ => ?_) (fun q_ => ?_)
      · have hw := hw.1 q_
        exact kB_J5_setLength_d00df_76 C vM vB x1 σ_2 _ _ _ hG (lv_sub hl [0, 1] rfl) hw
      · have hw := hw.2 q_
        refine lv_aload_n hx hb dJ5_setLength_d00df_71 rfl (lv_at hl 0 rfl) ?_
        refine lv_iconst (v := 1) hx hb dJ5_setLength_d00df_72 (by decide) ?_
        refine va_put (D := D) (ci := 1) (v := .int 1) (ty := .boolean) (C := RJ4) (T := TJ4) (N := 4) hx hb hts (in_tb inJ4) tyJ4 tyJ4_ok nmJ4 hown hK hP hD hS 0 rfl rfl 2 (by decide) (hts _ (List.mem_cons_of_mem _ tw_1_207)) (fun _ h9 => h9) rfl (by decide +kernel) rfl rfl (Nat.le_of_ble_eq_true rfl) dJ5_setLength_d00df_73 (fun H locs hP hD hS => ?_)
        have hG : zG D cA ab A s (jI σ_2 0 1) H locs := ⟨hP, hD, hS⟩
        obtain ⟨hP, hD, hS⟩ := id hG
        exact kB_J5_setLength_d00df_76 C vM vB x1 (jI σ_2 0 1) _ _ _ hG (lv_sub hl [0, 1] rfl) hw
    · have hw := hw.2 q_
      refine lv_aload_n hx hb dJ5_setLength_d00df_26 rfl (lv_at hl 0 rfl) ?_
      refine bU_i (As := []) (rest := []) C (met_J5_isLatin1_aae02 vE vM vB hw) (va_cwU 0 hts (TB_G (TB_5 tw_3_3 tw_3_5 tw_3_6 tw_3_4 tw_1_9) tw_3_7) rfl rfl rfl rfl (by decide +kernel) ⟨by decide, by decide⟩) hP hD hS rfl hl.1 rfl (Nat.le_of_ble_eq_true rfl) dJ5_setLength_d00df_27 ⟨by decide, by decide⟩ (fun r_3 σ_4 H locs hw hP hD hS => ?_)
      have hG : zG D cA ab A s σ_4 H locs := ⟨hP, hD, hS⟩
      refine lv_if_eq (tgt := 48) hx hb dJ5_setLength_d00df_30 (by decide) (fun q_ => ?_) (fun q_ => ?_)
      · have hw := hw.1 q_
        refine lv_aload_n hx hb dJ5_setLength_d00df_48 rfl (lv_at hl 0 rfl) ?_
        refine va_get (D := D) (ci := 1) (v := .ref (zN σ_4 0)) (C := RJ4) (T := TJ4) (N := 4) hx hb hts (in_tb inJ4) hown hK hP 0 rfl rfl 0 (by decide) (hts _ (List.mem_cons_of_mem _ tw_1_205)) (fun _ h9 => h9) rfl dJ5_setLength_d00df_49 ?_
        refine lv_aload_n hx hb dJ5_setLength_d00df_52 rfl (lv_at hl 0 rfl) ?_
        refine va_get (D := D) (ci := 1) (v := .int (zI σ_4 1)) (C := RJ4) (T := TJ4) (N := 4) hx hb hts (in_tb inJ4) hown hK hP 0 rfl rfl 3 (by decide) (hts _ (List.mem_cons_of_mem _ tw_1_209)) (fun _ h9 => h9) rfl dJ5_setLength_d00df_53 ?_
        refine lv_iload_n hx hb dJ5_setLength_d00df_56 rfl (lv_at hl 1 rfl) ?_
        exact hw.elim
      · have hw := hw.2 q_
        refine lv_aload_n hx hb dJ5_setLength_d00df_33 rfl (lv_at hl 0 rfl) ?_
        refine va_get (D := D) (ci := 1) (v := .ref (zN σ_4 0)) (C := RJ4) (T := TJ4) (N := 4) hx hb hts (in_tb inJ4) hown hK hP 0 rfl rfl 0 (by decide) (hts _ (List.mem_cons_of_mem _ tw_1_205)) (fun _ h9 => h9) rfl dJ5_setLength_d00df_34 ?_
        refine lv_aload_n hx hb dJ5_setLength_d00df_37 rfl (lv_at hl 0 rfl) ?_
        refine va_get (D := D) (ci := 1) (v := .int (zI σ_4 1)) (C := RJ4) (T := TJ4) (N := 4) hx hb hts (in_tb inJ4) hown hK hP 0 rfl rfl 3 (by decide) (hts _ (List.mem_cons_of_mem _ tw_1_209)) (fun _ h9 => h9) rfl dJ5_setLength_d00df_38 ?_
        refine lv_iload_n hx hb dJ5_setLength_d00df_41 rfl (lv_at hl 1 rfl) ?_
        exact hw.elim
  · have hw := hw.2 q_
    exact hw.elim
set_option maxHeartbeats 4000000 in
set_option maxRecDepth 100000 in
theorem met_J5_setLength_d00df {l : Launch} {E : EnvT} (vE : EnvOk E) {D : va_G} {cA : Nat → ClassId} {ab : Nat} {σ : BS} {aK aV aE : Nat → Nat} {aO : Nat} {dO dT : Nat} (vM : eXs aK aV aE aO E) (vB : eBs dO dT E) {sz : Nat} {x1 : Int32} {post : BS → Prop} (hw : wp_J5_setLength_d00df post x1 σ) : Met l yJ5_setLength_d00df wgJ5_setLength_d00df rm_J5_setLength_d00df (va_Pc [.ref ab, .int x1] (zPre E D cA ab sz σ)) (va_Qv post (zAt D cA ab (va_A (zW cA ab σ) sz)) (va_A (zW cA ab σ) sz)) 1 70 (va_A (zW cA ab σ) sz) := by
  refine Met.ofW (cc := cJ5_setLength_d00df) (maxL := 2) (ret := none) (by decide +kernel) rfl ?_
  intro p e s m args below meth c s₁ B hml hv
  obtain ⟨rfl, hsz, hP, hK, hD0, hE⟩ := hv
  subst hsz
  have hD := hD0.self (sz := s.heap.size)
  generalize hAe : va_A (zW cA ab σ) s.heap.size = A at hD hE ⊢
  have hA : ∀ q : Nat, s.heap.size ≤ q → A q := fun q h => by rw [← hAe]; exact Or.inr h
  have hS : va_S A s.heap s.heap [] := va_S.rf
  have C : zCx p s m _ meth c cJ5_setLength_d00df 2 none wgJ5_setLength_d00df RJ5 E D cA A := ⟨B.exec, B.bytes, hml, B.returns, findClass_of_methodNamed B.named, atoms_spec (ws := wgJ5_setLength_d00df) B.pre, hK, hA, B.notSynchronized, hE, vE⟩
  have hG : zG D cA ab A s σ s.heap [] := ⟨hP, hD, hS⟩
  have hl := lv_entry ([.ref ab, .int x1]) (n := 2) (Nat.le_of_ble_eq_true rfl)
  rw [lg_entry_eq]
  generalize (lg_sl ([.ref ab, .int x1]) ++ List.replicate (2 - (lg_sl ([.ref ab, .int x1])).length) Slot.unset).toArray = ls at hl ⊢
  have hl : lv_has ls 2 [(0, .ref ab), (1, .int x1)] := hl
  exact k_J5_setLength_d00df C vM vB x1 σ _ _ _ hG hl hw
/-! ===== J4_setLength_d00df ===== -/
def rm_J4_setLength_d00df : Room := { frames := 6, cells := 1, slots := 70, locals := 163 }
abbrev wgJ4_setLength_d00df : List Cond := .code yJ4_setLength_d00df cJ4_setLength_d00df 2 none :: TB
def wp_J4_setLength_d00df (post : BS → Prop) (x1 : Int32) (σ : BS) : Prop :=
  wp_J5_setLength_d00df (fun σ_2 => post σ_2) x1 σ
set_option maxHeartbeats 4000000 in
set_option maxRecDepth 100000 in
theorem k_J4_setLength_d00df {p : Program} {l : Launch} {e : Env} {s : State} {m : MethodId} {args : Array Value} {below : List Frame} {meth : Method} {c : Code} {A : Nat → Prop} {E : EnvT} {aK aV aE : Nat → Nat} {aO : Nat} {dO dT : Nat} {D : va_G} {cA : Nat → ClassId} {ab : Nat} (C : zCx p s m args meth c cJ4_setLength_d00df 2 none wgJ4_setLength_d00df RJ4 E D cA A) (vM : eXs aK aV aE aO E) (vB : eBs dO dT E) {post : BS → Prop} :
    ∀ (x1 : Int32) (σ : BS) (H : Heap) (locs : List Loc) (ls : Array Slot), zG D cA ab A s σ H locs → lv_has ls 2 [(0, .ref ab), (1, .int x1)] → wp_J4_setLength_d00df post x1 σ → W p l e rm_J4_setLength_d00df s m args below meth c H locs 0 0 (MQ below (va_Qv post (zAt D cA ab A) A) args s 1 70 A) (F0 m 0 ls []) := by
  obtain ⟨hx, hb, hml, hr, hown, hts, hK, hA, hlk, hE, vE⟩ := id C
  intro x1 σ H locs ls hG hl hw
  obtain ⟨hP, hD, hS⟩ := id hG
  refine lv_aload_n hx hb dJ4_setLength_d00df_0 rfl (lv_at hl 0 rfl) ?_
  refine lv_iload_n hx hb dJ4_setLength_d00df_1 rfl (lv_at hl 1 rfl) ?_
  refine bSU_v (As := [.int x1]) (rest := []) C (met_J5_setLength_d00df vE vM vB hw) (va_cwSU 1 hts (TB_G (TB_5 tw_2_209 tw_6_212 tw_1_218 tw_2_210 tw_1_9) tw_2_211) rfl rfl rfl (by decide +kernel) ⟨by decide, by decide⟩) hP hD hS rfl hl.1 rfl (Nat.le_of_ble_eq_true rfl) dJ4_setLength_d00df_2 ⟨by decide, by decide⟩ (fun σ_2 H locs hw hP hD hS => ?_)
  have hG : zG D cA ab A s σ_2 H locs := ⟨hP, hD, hS⟩
  exact W.vret hx hb hr (fun t ht hW => ⟨⟨σ_2, rfl, hw, by rw [ht]; exact hP, va_K.moved hW.alike hK, hD⟩, hS.F ht⟩) hS.2.2 dJ4_setLength_d00df_5 hlk
set_option maxHeartbeats 4000000 in
set_option maxRecDepth 100000 in
theorem met_J4_setLength_d00df {l : Launch} {E : EnvT} (vE : EnvOk E) {D : va_G} {cA : Nat → ClassId} {ab : Nat} {σ : BS} {aK aV aE : Nat → Nat} {aO : Nat} {dO dT : Nat} (vM : eXs aK aV aE aO E) (vB : eBs dO dT E) {sz : Nat} {x1 : Int32} {post : BS → Prop} (hw : wp_J4_setLength_d00df post x1 σ) : Met l yJ4_setLength_d00df wgJ4_setLength_d00df rm_J4_setLength_d00df (va_Pc [.ref ab, .int x1] (zPre E D cA ab sz σ)) (va_Qv post (zAt D cA ab (va_A (zW cA ab σ) sz)) (va_A (zW cA ab σ) sz)) 1 70 (va_A (zW cA ab σ) sz) := by
  refine Met.ofW (cc := cJ4_setLength_d00df) (maxL := 2) (ret := none) (by decide +kernel) rfl ?_
  intro p e s m args below meth c s₁ B hml hv
  obtain ⟨rfl, hsz, hP, hK, hD0, hE⟩ := hv
  subst hsz
  have hD := hD0.self (sz := s.heap.size)
  generalize hAe : va_A (zW cA ab σ) s.heap.size = A at hD hE ⊢
  have hA : ∀ q : Nat, s.heap.size ≤ q → A q := fun q h => by rw [← hAe]; exact Or.inr h
  have hS : va_S A s.heap s.heap [] := va_S.rf
  have C : zCx p s m _ meth c cJ4_setLength_d00df 2 none wgJ4_setLength_d00df RJ4 E D cA A := ⟨B.exec, B.bytes, hml, B.returns, findClass_of_methodNamed B.named, atoms_spec (ws := wgJ4_setLength_d00df) B.pre, hK, hA, B.notSynchronized, hE, vE⟩
  have hG : zG D cA ab A s σ s.heap [] := ⟨hP, hD, hS⟩
  have hl := lv_entry ([.ref ab, .int x1]) (n := 2) (Nat.le_of_ble_eq_true rfl)
  rw [lg_entry_eq]
  generalize (lg_sl ([.ref ab, .int x1]) ++ List.replicate (2 - (lg_sl ([.ref ab, .int x1])).length) Slot.unset).toArray = ls at hl ⊢
  have hl : lv_has ls 2 [(0, .ref ab), (1, .int x1)] := hl
  exact k_J4_setLength_d00df C vM vB x1 σ _ _ _ hG hl hw
