/-! ===== X7_second ways ===== -/
def rm_X7_second : Room := { frames := 1, cells := 0, slots := 0, locals := 21 }
abbrev wgX7_second : List Cond := .code yX7_second cX7_second 2 (some .int) :: TB
def wB_X7_second_23 (post : Int32 → XS → Prop) (σ : XS) : Prop :=
  post (-1) σ
def wB_X7_second_62 (post : Int32 → XS → Prop) (t0 : Int32) (σ : XS) : Prop :=
  post t0 σ
def wB_X7_second_61 (post : Int32 → XS → Prop) (σ : XS) : Prop :=
  wB_X7_second_62 post (-1) σ
def wp_X7_second (post : Int32 → XS → Prop) (x1 : Int32) (σ : XS) : Prop :=
  wp_X0_has (fun r_1 σ_2 => (r_1 = 0 → (wB_X7_second_23 post σ_2)) ∧ (¬ r_1 = 0 → (vp_in x1 64 ∧ ((xQ σ_2 1 x1.toNatClampNeg = none → (wB_X7_second_23 post σ_2)) ∧ (∀ e_4 : Nat, xQ σ_2 1 x1.toNatClampNeg = some e_4 → (vp_in x1 64 ∧ ((xQ σ_2 1 x1.toNatClampNeg = none → (False)) ∧ (∀ e_7 : Nat, xQ σ_2 1 x1.toNatClampNeg = some e_7 → (e_7 < 53 ∧ wp_X2_isJump (fun r_9  => (r_9 = 0 → (wB_X7_second_61 post σ_2)) ∧ (¬ r_9 = 0 → (vp_in x1 64 ∧ (wp_X2_isGuarded (fun r_12  => (r_12 = 0 → (wB_X7_second_61 post σ_2)) ∧ (¬ r_12 = 0 → (wB_X7_second_62 post (x1 + 1) σ_2))) (xL σ_2 6 x1.toNatClampNeg))))) e_7))))))))) x1 σ
set_option maxHeartbeats 4000000 in
set_option maxRecDepth 100000 in
theorem kB_X7_second_23 {p : Program} {l : Launch} {e : Env} {s : State} {m : MethodId} {args : Array Value} {below : List Frame} {meth : Method} {c : Code} {A : Nat → Prop} {E : EnvT} {aK aV : Nat → Nat} {aO : Nat} {D : va_G} {cA : Nat → ClassId} {aE ad : Nat → Nat} (C : xCx p s m args meth c cX7_second 2 (some .int) wgX7_second RX7 E D cA A) (vM : eXs aK aV aE aO E) {post : Int32 → XS → Prop} :
    ∀ (σ : XS) (H : Heap) (locs : List Loc) (ls : Array Slot), xG D cA aE ad A s σ H locs → lv_has ls 2 [] → wB_X7_second_23 post σ → W p l e rm_X7_second s m args below meth c H locs 0 0 (MQ below (va_Qi post (xAt D cA aE ad A) A) args s 0 0 A) (F0 m 23 ls []) := by
  obtain ⟨hx, hb, hml, hr, hown, hts, hK, hA, hlk, hE, vE⟩ := id C
  intro σ H locs ls hG hl hw
  obtain ⟨hP, hD, hS⟩ := id hG
  refine lv_iconst (v := (-1)) hx hb dX7_second_23 (by decide) ?_
  exact W.iret (v := (-1)) hx hb hr (fun t ht hW => ⟨⟨_, σ, rfl, hw, by rw [ht]; exact hP, va_K.moved hW.alike hK, hD⟩, hS.F ht⟩) hS.2.2 dX7_second_24 hlk
set_option maxHeartbeats 4000000 in
set_option maxRecDepth 100000 in
theorem kB_X7_second_62 {p : Program} {l : Launch} {e : Env} {s : State} {m : MethodId} {args : Array Value} {below : List Frame} {meth : Method} {c : Code} {A : Nat → Prop} {E : EnvT} {aK aV : Nat → Nat} {aO : Nat} {D : va_G} {cA : Nat → ClassId} {aE ad : Nat → Nat} (C : xCx p s m args meth c cX7_second 2 (some .int) wgX7_second RX7 E D cA A) (vM : eXs aK aV aE aO E) {post : Int32 → XS → Prop} :
    ∀ (t0 : Int32) (σ : XS) (H : Heap) (locs : List Loc) (ls : Array Slot), xG D cA aE ad A s σ H locs → lv_has ls 2 [] → wB_X7_second_62 post t0 σ → W p l e rm_X7_second s m args below meth c H locs 0 0 (MQ below (va_Qi post (xAt D cA aE ad A) A) args s 0 0 A) (F0 m 62 ls [.int t0]) := by
  obtain ⟨hx, hb, hml, hr, hown, hts, hK, hA, hlk, hE, vE⟩ := id C
  intro t0 σ H locs ls hG hl hw
  obtain ⟨hP, hD, hS⟩ := id hG
  exact W.iret (v := t0) hx hb hr (fun t ht hW => ⟨⟨_, σ, rfl, hw, by rw [ht]; exact hP, va_K.moved hW.alike hK, hD⟩, hS.F ht⟩) hS.2.2 dX7_second_62 hlk
set_option maxHeartbeats 4000000 in
set_option maxRecDepth 100000 in
theorem kB_X7_second_61 {p : Program} {l : Launch} {e : Env} {s : State} {m : MethodId} {args : Array Value} {below : List Frame} {meth : Method} {c : Code} {A : Nat → Prop} {E : EnvT} {aK aV : Nat → Nat} {aO : Nat} {D : va_G} {cA : Nat → ClassId} {aE ad : Nat → Nat} (C : xCx p s m args meth c cX7_second 2 (some .int) wgX7_second RX7 E D cA A) (vM : eXs aK aV aE aO E) {post : Int32 → XS → Prop} :
    ∀ (σ : XS) (H : Heap) (locs : List Loc) (ls : Array Slot), xG D cA aE ad A s σ H locs → lv_has ls 2 [] → wB_X7_second_61 post σ → W p l e rm_X7_second s m args below meth c H locs 0 0 (MQ below (va_Qi post (xAt D cA aE ad A) A) args s 0 0 A) (F0 m 61 ls []) := by
  obtain ⟨hx, hb, hml, hr, hown, hts, hK, hA, hlk, hE, vE⟩ := id C
  intro σ H locs ls hG hl hw
  obtain ⟨hP, hD, hS⟩ := id hG
  refine lv_iconst (v := (-1)) hx hb dX7_second_61 (by decide) ?_
  exact kB_X7_second_62 C vM (-1) σ _ _ _ hG (lv_sub hl [] rfl) hw
set_option maxHeartbeats 4000000 in
set_option maxRecDepth 100000 in
theorem k_X7_second {p : Program} {l : Launch} {e : Env} {s : State} {m : MethodId} {args : Array Value} {below : List Frame} {meth : Method} {c : Code} {A : Nat → Prop} {E : EnvT} {aK aV : Nat → Nat} {aO : Nat} {D : va_G} {cA : Nat → ClassId} {aE ad : Nat → Nat} (C : xCx p s m args meth c cX7_second 2 (some .int) wgX7_second RX7 E D cA A) (vM : eXs aK aV aE aO E) {post : Int32 → XS → Prop} :
    ∀ (x1 : Int32) (σ : XS) (H : Heap) (locs : List Loc) (ls : Array Slot), xG D cA aE ad A s σ H locs → lv_has ls 2 [(0, .ref (ad 22)), (1, .int x1)] → wp_X7_second post x1 σ → W p l e rm_X7_second s m args below meth c H locs 0 0 (MQ below (va_Qi post (xAt D cA aE ad A) A) args s 0 0 A) (F0 m 0 ls []) := by
  obtain ⟨hx, hb, hml, hr, hown, hts, hK, hA, hlk, hE, vE⟩ := id C
  intro x1 σ H locs ls hG hl hw
  obtain ⟨hP, hD, hS⟩ := id hG
  refine lv_aload_n hx hb dX7_second_0 rfl (lv_at hl 0 rfl) ?_
  refine va_get (D := D) (ci := 9) (v := .ref (ad 17)) (C := RX7) (T := TX7) (N := 1) hx hb hts (in_tb inX7) hown hK hP 22 rfl rfl 0 (by decide) (hts _ (List.mem_cons_of_mem _ tw_1_177)) (fun _ h9 => h9) rfl dX7_second_1 ?_
  refine lv_iload_n hx hb dX7_second_4 rfl (lv_at hl 1 rfl) ?_
  refine xV_i (As := [.int x1]) (rest := []) C (met_X0_has vE vM hw) (va_recv hK hP (ci := 2) (q0 := 17) rfl rfl) (cwV 1 hts (TB_G (TB_4 tw_4_40 tw_2_199 tw_2_200 tw_1_6) tw_2_201) rfl rfl rfl (by decide +kernel) ⟨by decide, by decide⟩) hP hD hS rfl hl.1 rfl (Nat.le_of_ble_eq_true rfl) dX7_second_5 ⟨by decide, by decide⟩ (fun r_1 σ_2 H locs hw hP hD hS => ?_)
  have hG : xG D cA aE ad A s σ_2 H locs := ⟨hP, hD, hS⟩
  refine lv_if_eq (tgt := 23) hx hb dX7_second_8 (by decide) (fun q_ => ?_) (fun q_ => ?_)
  · have hw := hw.1 q_
    exact kB_X7_second_23 C vM  σ_2 _ _ _ hG (lv_sub hl [] rfl) hw
  · have hw := hw.2 q_
    refine lv_aload_n hx hb dX7_second_11 rfl (lv_at hl 0 rfl) ?_
    refine va_get (D := D) (ci := 9) (v := .ref (ad 17)) (C := RX7) (T := TX7) (N := 1) hx hb hts (in_tb inX7) hown hK hP 22 rfl rfl 0 (by decide) (hts _ (List.mem_cons_of_mem _ tw_1_177)) (fun _ h9 => h9) rfl dX7_second_12 ?_
    refine va_get (D := D) (ci := 2) (v := .ref (ad 19)) (C := RX0) (T := TX0) (N := 5) hx hb hts (in_tb inX0) hown hK hP 17 rfl rfl 1 (by decide) (hts _ (List.mem_cons_of_mem _ tw_1_153)) (fun _ h9 => h9) rfl dX7_second_15 ?_
    refine lv_iload_n hx hb dX7_second_18 rfl (lv_at hl 1 rfl) ?_
    obtain ⟨h_3, hw⟩ := hw
    refine va_aldq hx hb hK hP 19 3 rfl rfl h_3 dX7_second_19 ?_
    rcases q_5 : xQ σ_2 1 x1.toNatClampNeg with _ | e_4
    · have hw := hw.1 q_5
      refine q_none rfl ?_
      refine lv_ifnonnullN hx hb dX7_second_20 ?_
      exact kB_X7_second_23 C vM  σ_2 _ _ _ hG (lv_sub hl [] rfl) hw
    · have hw := hw.2 e_4 q_5
      refine q_some rfl ?_
      refine lv_ifnonnull (tgt := 25) hx hb dX7_second_20 (by decide) ?_
      refine lv_aload_n hx hb dX7_second_25 rfl (lv_at hl 0 rfl) ?_
      refine va_get (D := D) (ci := 9) (v := .ref (ad 17)) (C := RX7) (T := TX7) (N := 1) hx hb hts (in_tb inX7) hown hK hP 22 rfl rfl 0 (by decide) (hts _ (List.mem_cons_of_mem _ tw_1_177)) (fun _ h9 => h9) rfl dX7_second_26 ?_
      refine va_get (D := D) (ci := 2) (v := .ref (ad 19)) (C := RX0) (T := TX0) (N := 5) hx hb hts (in_tb inX0) hown hK hP 17 rfl rfl 1 (by decide) (hts _ (List.mem_cons_of_mem _ tw_1_153)) (fun _ h9 => h9) rfl dX7_second_29 ?_
      refine lv_iload_n hx hb dX7_second_32 rfl (lv_at hl 1 rfl) ?_
      obtain ⟨h_6, hw⟩ := hw
      refine va_aldq hx hb hK hP 19 3 rfl rfl h_6 dX7_second_33 ?_
      rcases q_8 : xQ σ_2 1 x1.toNatClampNeg with _ | e_7
      · have hw := hw.1 q_8
        refine q_none rfl ?_
        exact hw.elim
      · have hw := hw.2 e_7 q_8
        refine q_some rfl ?_
        obtain ⟨h_14, hw⟩ := hw
        refine xO_i (As := []) (rest := []) C (met_X2_isJump vE vM hw) (va_Orecv (eX.o_obj (vM _ _ _ hE) h_14) hS) (cwV 0 hts (TB_G (TB_4 tw_4_41 tw_4_42 tw_4_43 tw_1_19) tw_4_44) rfl rfl rfl (by decide +kernel) ⟨by decide, by decide⟩) hP hD hS rfl hl.1 rfl (Nat.le_of_ble_eq_true rfl) dX7_second_34 ⟨by decide, by decide⟩ (fun r_9 H locs hw hP hS => ?_)
        have hG : xG D cA aE ad A s σ_2 H locs := ⟨hP, hD, hS⟩
        refine lv_if_eq (tgt := 61) hx hb dX7_second_37 (by decide) (fun q_ => ?_) (fun q_ => ?_)
        · have hw := hw.1 q_
          exact kB_X7_second_61 C vM  σ_2 _ _ _ hG (lv_sub hl [] rfl) hw
        · have hw := hw.2 q_
          refine lv_aload_n hx hb dX7_second_40 rfl (lv_at hl 0 rfl) ?_
          refine va_get (D := D) (ci := 9) (v := .ref (ad 17)) (C := RX7) (T := TX7) (N := 1) hx hb hts (in_tb inX7) hown hK hP 22 rfl rfl 0 (by decide) (hts _ (List.mem_cons_of_mem _ tw_1_177)) (fun _ h9 => h9) rfl dX7_second_41 ?_
          refine va_get (D := D) (ci := 2) (v := .ref (ad 18)) (C := RX0) (T := TX0) (N := 5) hx hb hts (in_tb inX0) hown hK hP 17 rfl rfl 0 (by decide) (hts _ (List.mem_cons_of_mem _ tw_1_150)) (fun _ h9 => h9) rfl dX7_second_44 ?_
          refine lv_iload_n hx hb dX7_second_47 rfl (lv_at hl 1 rfl) ?_
          obtain ⟨h_11, hw⟩ := hw
          refine va_lald hx hb hK hP 18 1 rfl rfl h_11 dX7_second_48 ?_
          refine xS_i (As := [.long (xL σ_2 6 x1.toNatClampNeg)]) (rest := []) C (met_X2_isGuarded vE vM hw) (va_cwS 1 hts (TB_G (TB_3 tw_4_60 tw_2_129 tw_1_19) tw_2_130) rfl rfl rfl (by decide +kernel) ⟨by decide, by decide⟩) hP hD hS rfl hl.1 rfl (Nat.le_of_ble_eq_true rfl) dX7_second_49 ⟨by decide, by decide⟩ (fun r_12 H locs hw hP hS => ?_)
          have hG : xG D cA aE ad A s σ_2 H locs := ⟨hP, hD, hS⟩
          refine lv_if_eq (tgt := 61) hx hb dX7_second_52 (by decide) (fun q_ => ?_) (fun q_ => ?_)
          · have hw := hw.1 q_
            exact kB_X7_second_61 C vM  σ_2 _ _ _ hG (lv_sub hl [] rfl) hw
          · have hw := hw.2 q_
            refine lv_iload_n hx hb dX7_second_55 rfl (lv_at hl 1 rfl) ?_
            refine lv_iconst (v := 1) hx hb dX7_second_56 (by decide) ?_
            refine lv_iadd hx hb dX7_second_57 ?_
            refine lv_goto (tgt := 62) hx hb dX7_second_58 (by decide) ?_
            exact kB_X7_second_62 C vM (x1 + 1) σ_2 _ _ _ hG (lv_sub hl [] rfl) hw
set_option maxHeartbeats 4000000 in
set_option maxRecDepth 100000 in
theorem met_X7_second {l : Launch} {E : EnvT} (vE : EnvOk E) {D : va_G} {cA : Nat → ClassId} {aE ad : Nat → Nat} {σ : XS} {aK aV : Nat → Nat} {aO : Nat} (vM : eXs aK aV aE aO E) {sz : Nat} {x1 : Int32} {post : Int32 → XS → Prop} (hw : wp_X7_second post x1 σ) : Met l yX7_second wgX7_second rm_X7_second (va_Pc [.ref (ad 22), .int x1] (xPre E D cA aE ad sz σ)) (va_Qi post (xAt D cA aE ad (va_A (xW cA aE ad σ) sz)) (va_A (xW cA aE ad σ) sz)) 0 0 (va_A (xW cA aE ad σ) sz) := by
  refine Met.ofW (cc := cX7_second) (maxL := 2) (ret := (some .int)) (by decide +kernel) rfl ?_
  intro p e s m args below meth c s₁ B hml hv
  obtain ⟨rfl, hsz, hP, hK, hD0, hE⟩ := hv
  subst hsz
  have hD := hD0.self (sz := s.heap.size)
  generalize hAe : va_A (xW cA aE ad σ) s.heap.size = A at hD hE ⊢
  have hA : ∀ q : Nat, s.heap.size ≤ q → A q := fun q h => by rw [← hAe]; exact Or.inr h
  have hS : va_S A s.heap s.heap [] := va_S.rf
  have C : xCx p s m _ meth c cX7_second 2 (some .int) wgX7_second RX7 E D cA A := ⟨B.exec, B.bytes, hml, B.returns, findClass_of_methodNamed B.named, atoms_spec (ws := wgX7_second) B.pre, hK, hA, B.notSynchronized, hE, vE⟩
  have hG : xG D cA aE ad A s σ s.heap [] := ⟨hP, hD, hS⟩
  have hl := lv_entry ([.ref (ad 22), .int x1]) (n := 2) (Nat.le_of_ble_eq_true rfl)
  rw [lg_entry_eq]
  generalize (lg_sl ([.ref (ad 22), .int x1]) ++ List.replicate (2 - (lg_sl ([.ref (ad 22), .int x1])).length) Slot.unset).toArray = ls at hl ⊢
  have hl : lv_has ls 2 [(0, .ref (ad 22)), (1, .int x1)] := hl
  exact k_X7_second C vM x1 σ _ _ _ hG hl hw
/-! ===== X7_walk ways ===== -/
def rm_X7_walk : Room := { frames := 3, cells := 0, slots := 0, locals := 64 }
abbrev wgX7_walk : List Cond := .code yX7_walk cX7_walk 14 (some .long) :: TB
def wB_X7_walk_119 (post : Int64 → XS → Prop) (x4 : Int64) (σ : XS) : Prop :=
  post x4 σ
def wB_X7_walk_23 (post : Int64 → XS → Prop) (k23 : Int64 → Int64 → Int64 → Int32 → XS → Prop) (x2 : Int64) (x4 : Int64) (x6 : Int64) (x8 : Int32) (σ : XS) : Prop :=
  (64 ≤ x8 → (wB_X7_walk_119 post x4 σ)) ∧ (¬ 64 ≤ x8 → ((x6 = 0 → (wB_X7_walk_119 post x4 σ)) ∧ (¬ x6 = 0 → (∀ x9_4 : Int64, x9_4 = x6 &&& (-x6) → wp_J13_bitCount_95d88 (fun r_5  => wp_X7_first (fun r_7 σ_8 => wp_X0_bitOf (fun r_9 σ_10 => wp_X7_second (fun r_11 σ_12 => wp_X0_bitOf (fun r_13 σ_14 => ∀ x12_15 : Int64, x12_15 = (r_9 ||| r_13) &&& (x4 ^^^ (-1)) → ∀ x4_16 : Int64, x4_16 = x4 ||| x12_15 → ∀ x6_17 : Int64, x6_17 = (x6 ^^^ x9_4) ||| (x12_15 &&& (x2 ^^^ (-1))) → ∀ x8_18 : Int32, x8_18 = x8 + 1 → k23 x2 x4_16 x6_17 x8_18 σ_14) r_11 σ_12) r_5 σ_10) r_7 σ_8) r_5 σ) (x9_4 - 1)))))
def wL_X7_walk_23 (post : Int64 → XS → Prop) : Nat → Int64 → Int64 → Int64 → Int32 → XS → Prop
  | 0 => fun _ _ _ _ _ => False
  | n + 1 => wB_X7_walk_23 post (wL_X7_walk_23 post n)
def wp_X7_walk (post : Int64 → XS → Prop) (x1 : Int32) (x2 : Int64) (σ : XS) : Prop :=
  wp_X0_bitOf (fun r_1 σ_2 => ∀ x6_3 : Int64, x6_3 = r_1 &&& (x2 ^^^ (-1)) → ∃ n, wL_X7_walk_23 post n x2 r_1 x6_3 0 σ_2) x1 σ
set_option maxHeartbeats 4000000 in
set_option maxRecDepth 100000 in
theorem kB_X7_walk_119 {p : Program} {l : Launch} {e : Env} {s : State} {m : MethodId} {args : Array Value} {below : List Frame} {meth : Method} {c : Code} {A : Nat → Prop} {E : EnvT} {aK aV : Nat → Nat} {aO : Nat} {D : va_G} {cA : Nat → ClassId} {aE ad : Nat → Nat} (C : xCx p s m args meth c cX7_walk 14 (some .long) wgX7_walk RX7 E D cA A) (vM : eXs aK aV aE aO E) {post : Int64 → XS → Prop} :
    ∀ (x4 : Int64) (σ : XS) (H : Heap) (locs : List Loc) (ls : Array Slot), xG D cA aE ad A s σ H locs → lv_has ls 14 [(4, .long x4)] → wB_X7_walk_119 post x4 σ → W p l e rm_X7_walk s m args below meth c H locs 0 0 (MQ below (va_Ql post (xAt D cA aE ad A) A) args s 0 0 A) (F0 m 119 ls []) := by
  obtain ⟨hx, hb, hml, hr, hown, hts, hK, hA, hlk, hE, vE⟩ := id C
  intro x4 σ H locs ls hG hl hw
  obtain ⟨hP, hD, hS⟩ := id hG
  refine lv_lload hx hb dX7_walk_119 (lv_at hl 0 rfl) ?_
  exact W.lret (v := x4) hx hb hr (fun t ht hW => ⟨⟨_, σ, rfl, hw, by rw [ht]; exact hP, va_K.moved hW.alike hK, hD⟩, hS.F ht⟩) hS.2.2 dX7_walk_121 hlk
set_option maxHeartbeats 4000000 in
set_option maxRecDepth 100000 in
theorem kB_X7_walk_23 {p : Program} {l : Launch} {e : Env} {s : State} {m : MethodId} {args : Array Value} {below : List Frame} {meth : Method} {c : Code} {A : Nat → Prop} {E : EnvT} {aK aV : Nat → Nat} {aO : Nat} {D : va_G} {cA : Nat → ClassId} {aE ad : Nat → Nat} (C : xCx p s m args meth c cX7_walk 14 (some .long) wgX7_walk RX7 E D cA A) (vM : eXs aK aV aE aO E) {post : Int64 → XS → Prop}
    {k23 : Int64 → Int64 → Int64 → Int32 → XS → Prop} (hk23 : ∀ (x2 : Int64) (x4 : Int64) (x6 : Int64) (x8 : Int32) (σ : XS) (H : Heap) (locs : List Loc) (ls : Array Slot), xG D cA aE ad A s σ H locs → lv_has ls 14 [(0, .ref (ad 22)), (2, .long x2), (4, .long x4), (6, .long x6), (8, .int x8)] → k23 x2 x4 x6 x8 σ → W p l e rm_X7_walk s m args below meth c H locs 0 0 (MQ below (va_Ql post (xAt D cA aE ad A) A) args s 0 0 A) (F0 m 23 ls [])) :
    ∀ (x2 : Int64) (x4 : Int64) (x6 : Int64) (x8 : Int32) (σ : XS) (H : Heap) (locs : List Loc) (ls : Array Slot), xG D cA aE ad A s σ H locs → lv_has ls 14 [(0, .ref (ad 22)), (2, .long x2), (4, .long x4), (6, .long x6), (8, .int x8)] → wB_X7_walk_23 post k23 x2 x4 x6 x8 σ → W p l e rm_X7_walk s m args below meth c H locs 0 0 (MQ below (va_Ql post (xAt D cA aE ad A) A) args s 0 0 A) (F0 m 23 ls []) := by
  obtain ⟨hx, hb, hml, hr, hown, hts, hK, hA, hlk, hE, vE⟩ := id C
  intro x2 x4 x6 x8 σ H locs ls hG hl hw
  obtain ⟨hP, hD, hS⟩ := id hG
  refine lv_iload hx hb dX7_walk_23 (lv_at hl 4 rfl) ?_
  refine lv_bipush (v := 64) hx hb dX7_walk_25 (by decide) ?_
  refine lv_icmp_ge (tgt := 119) hx hb dX7_walk_27 (by decide) (fun q_ => ?_) (fun q_ => ?_)
  · have hw := hw.1 q_
    exact kB_X7_walk_119 C vM x4 σ _ _ _ hG (lv_sub hl [2] rfl) hw
  · have hw := hw.2 q_
    refine lv_lload hx hb dX7_walk_30 (lv_at hl 3 rfl) ?_
    refine lv_lconst (v := 0) hx hb dX7_walk_32 (by decide) ?_
    refine W.lcmp hx hb dX7_walk_33 ?_
    refine lv_if_eq (tgt := 119) hx hb dX7_walk_34 (by decide) (fun q_ => ?_) (fun q_ => ?_)
    · have hw := hw.1 (lc_eq.mp q_)
      exact kB_X7_walk_119 C vM x4 σ _ _ _ hG (lv_sub hl [2] rfl) hw
    · have hw := hw.2 (fun z => q_ (lc_eq.mpr z))
      refine lv_lload hx hb dX7_walk_37 (lv_at hl 3 rfl) ?_
      refine lv_lload hx hb dX7_walk_39 (lv_at hl 3 rfl) ?_
      refine lv_lneg hx hb dX7_walk_41 ?_
      refine lv_land hx hb dX7_walk_42 ?_
      refine lv_topl (fun x9_4 ex9_4 => ?_)
      have hw := hw x9_4 ex9_4
      refine lv_lstore (lv' := [(9, .long x9_4), (0, .ref (ad 22)), (2, .long x2), (4, .long x4), (6, .long x6), (8, .int x8)]) hx hb dX7_walk_43 hl (by decide) rfl (fun ls hl => ?_)
      refine lv_lload hx hb dX7_walk_45 (lv_at hl 0 rfl) ?_
      refine lv_lconst (v := 1) hx hb dX7_walk_47 (by decide) ?_
      refine lv_lsub hx hb dX7_walk_48 ?_
      refine xS_i (As := [.long (x9_4 - 1)]) (rest := []) C (met_J13_bitCount_95d88 vE vM hw) (va_cwS 1 hts (TB_G (TB_3 tw_4_83 tw_4_84 tw_1_29) tw_4_85) rfl rfl rfl (by decide +kernel) ⟨by decide, by decide⟩) hP hD hS rfl hl.1 rfl (Nat.le_of_ble_eq_true rfl) dX7_walk_49 ⟨by decide, by decide⟩ (fun r_5 H locs hw hP hS => ?_)
      have hG : xG D cA aE ad A s σ H locs := ⟨hP, hD, hS⟩
      refine lv_istore (lv' := [(11, .int r_5), (9, .long x9_4), (0, .ref (ad 22)), (2, .long x2), (4, .long x4), (6, .long x6), (8, .int x8)]) hx hb dX7_walk_52 hl (by decide) rfl (fun ls hl => ?_)
      refine lv_aload_n hx hb dX7_walk_54 rfl (lv_at hl 2 rfl) ?_
      refine va_get (D := D) (ci := 9) (v := .ref (ad 17)) (C := RX7) (T := TX7) (N := 1) hx hb hts (in_tb inX7) hown hK hP 22 rfl rfl 0 (by decide) (hts _ (List.mem_cons_of_mem _ tw_1_177)) (fun _ h9 => h9) rfl dX7_walk_55 ?_
      refine lv_aload_n hx hb dX7_walk_58 rfl (lv_at hl 2 rfl) ?_
      refine lv_iload hx hb dX7_walk_59 (lv_at hl 0 rfl) ?_
      refine xV_i (As := [.int r_5]) (rest := [.ref (ad 17)]) C (met_X7_first vE vM hw) (va_recv hK hP (ci := 9) (q0 := 22) rfl rfl) (cwV 1 hts (TB_G (TB_4 tw_4_89 tw_4_37 tw_4_38 tw_1_7) tw_4_39) rfl rfl rfl (by decide +kernel) ⟨by decide, by decide⟩) hP hD hS rfl hl.1 rfl (Nat.le_of_ble_eq_true rfl) dX7_walk_61 ⟨by decide, by decide⟩ (fun r_7 σ_8 H locs hw hP hD hS => ?_)
      have hG : xG D cA aE ad A s σ_8 H locs := ⟨hP, hD, hS⟩
      refine xV_l (As := [.int r_7]) (rest := []) C (met_X0_bitOf vE vM hw) (va_recv hK hP (ci := 2) (q0 := 17) rfl rfl) (cwV 1 hts (TB_G (TB_4 tw_4_77 tw_4_78 tw_4_79 tw_1_6) tw_4_80) rfl rfl rfl (by decide +kernel) ⟨by decide, by decide⟩) hP hD hS rfl hl.1 rfl (Nat.le_of_ble_eq_true rfl) dX7_walk_64 ⟨by decide, by decide⟩ (fun r_9 σ_10 H locs hw hP hD hS => ?_)
      have hG : xG D cA aE ad A s σ_10 H locs := ⟨hP, hD, hS⟩
      refine lv_aload_n hx hb dX7_walk_67 rfl (lv_at hl 2 rfl) ?_
      refine va_get (D := D) (ci := 9) (v := .ref (ad 17)) (C := RX7) (T := TX7) (N := 1) hx hb hts (in_tb inX7) hown hK hP 22 rfl rfl 0 (by decide) (hts _ (List.mem_cons_of_mem _ tw_1_177)) (fun _ h9 => h9) rfl dX7_walk_68 ?_
      refine lv_aload_n hx hb dX7_walk_71 rfl (lv_at hl 2 rfl) ?_
      refine lv_iload hx hb dX7_walk_72 (lv_at hl 0 rfl) ?_
      refine xV_i (As := [.int r_5]) (rest := [.ref (ad 17), .long r_9]) C (met_X7_second vE vM hw) (va_recv hK hP (ci := 9) (q0 := 22) rfl rfl) (cwV 1 hts (TB_G (TB_4 tw_4_90 tw_4_62 tw_4_63 tw_1_7) tw_4_64) rfl rfl rfl (by decide +kernel) ⟨by decide, by decide⟩) hP hD hS rfl hl.1 rfl (Nat.le_of_ble_eq_true rfl) dX7_walk_74 ⟨by decide, by decide⟩ (fun r_11 σ_12 H locs hw hP hD hS => ?_)
      have hG : xG D cA aE ad A s σ_12 H locs := ⟨hP, hD, hS⟩
      refine xV_l (As := [.int r_11]) (rest := [.long r_9]) C (met_X0_bitOf vE vM hw) (va_recv hK hP (ci := 2) (q0 := 17) rfl rfl) (cwV 1 hts (TB_G (TB_4 tw_4_77 tw_4_78 tw_4_79 tw_1_6) tw_4_80) rfl rfl rfl (by decide +kernel) ⟨by decide, by decide⟩) hP hD hS rfl hl.1 rfl (Nat.le_of_ble_eq_true rfl) dX7_walk_77 ⟨by decide, by decide⟩ (fun r_13 σ_14 H locs hw hP hD hS => ?_)
      have hG : xG D cA aE ad A s σ_14 H locs := ⟨hP, hD, hS⟩
      refine lv_lor hx hb dX7_walk_80 ?_
      refine lv_lload hx hb dX7_walk_81 (lv_at hl 4 rfl) ?_
      refine lv_ldc2 (v := (-1)) hx hb hown (hts _ (List.mem_cons_of_mem _ tw_4_82)) dX7_walk_83 ?_
      refine lv_lxor hx hb dX7_walk_86 ?_
      refine lv_land hx hb dX7_walk_87 ?_
      refine lv_topl (fun x12_15 ex12_15 => ?_)
      have hw := hw x12_15 ex12_15
      refine lv_lstore (lv' := [(12, .long x12_15), (11, .int r_5), (9, .long x9_4), (0, .ref (ad 22)), (2, .long x2), (4, .long x4), (6, .long x6), (8, .int x8)]) hx hb dX7_walk_88 hl (by decide) rfl (fun ls hl => ?_)
      refine lv_lload hx hb dX7_walk_90 (lv_at hl 5 rfl) ?_
      refine lv_lload hx hb dX7_walk_92 (lv_at hl 0 rfl) ?_
      refine lv_lor hx hb dX7_walk_94 ?_
      refine lv_topl (fun x4_16 ex4_16 => ?_)
      have hw := hw x4_16 ex4_16
      refine lv_lstore (lv' := [(4, .long x4_16), (12, .long x12_15), (11, .int r_5), (9, .long x9_4), (0, .ref (ad 22)), (2, .long x2), (6, .long x6), (8, .int x8)]) hx hb dX7_walk_95 hl (by decide) rfl (fun ls hl => ?_)
      refine lv_lload hx hb dX7_walk_97 (lv_at hl 6 rfl) ?_
      refine lv_lload hx hb dX7_walk_99 (lv_at hl 3 rfl) ?_
      refine lv_lxor hx hb dX7_walk_101 ?_
      refine lv_lload hx hb dX7_walk_102 (lv_at hl 1 rfl) ?_
      refine lv_lload_n hx hb dX7_walk_104 rfl (lv_at hl 5 rfl) ?_
      refine lv_ldc2 (v := (-1)) hx hb hown (hts _ (List.mem_cons_of_mem _ tw_4_82)) dX7_walk_105 ?_
      refine lv_lxor hx hb dX7_walk_108 ?_
      refine lv_land hx hb dX7_walk_109 ?_
      refine lv_lor hx hb dX7_walk_110 ?_
      refine lv_topl (fun x6_17 ex6_17 => ?_)
      have hw := hw x6_17 ex6_17
      refine lv_lstore (lv' := [(6, .long x6_17), (4, .long x4_16), (12, .long x12_15), (11, .int r_5), (9, .long x9_4), (0, .ref (ad 22)), (2, .long x2), (8, .int x8)]) hx hb dX7_walk_111 hl (by decide) rfl (fun ls hl => ?_)
      obtain ⟨x8_18, ex8_18⟩ : ∃ y : Int32, y = x8 + 1 := ⟨_, rfl⟩
      have hw := hw x8_18 ex8_18
      refine lv_iinc (v := x8_18) (lv' := [(8, .int x8_18), (6, .long x6_17), (4, .long x4_16), (12, .long x12_15), (11, .int r_5), (9, .long x9_4), (0, .ref (ad 22)), (2, .long x2)]) hx hb dX7_walk_113 hl (k := 7) rfl (by rw [ex8_18]; rfl) (by decide) rfl (fun ls hl => ?_)
      refine lv_goto (tgt := 23) hx hb dX7_walk_116 (by decide) ?_
      exact hk23 x2 x4_16 x6_17 x8_18 σ_14 _ _ _ hG (lv_sub hl [6, 7, 2, 1, 0] rfl) hw
theorem kL_X7_walk_23 {p : Program} {l : Launch} {e : Env} {s : State} {m : MethodId} {args : Array Value} {below : List Frame} {meth : Method} {c : Code} {A : Nat → Prop} {E : EnvT} {aK aV : Nat → Nat} {aO : Nat} {D : va_G} {cA : Nat → ClassId} {aE ad : Nat → Nat} (C : xCx p s m args meth c cX7_walk 14 (some .long) wgX7_walk RX7 E D cA A) (vM : eXs aK aV aE aO E) {post : Int64 → XS → Prop} :
    ∀ (n : Nat) (x2 : Int64) (x4 : Int64) (x6 : Int64) (x8 : Int32) (σ : XS) (H : Heap) (locs : List Loc) (ls : Array Slot), xG D cA aE ad A s σ H locs → lv_has ls 14 [(0, .ref (ad 22)), (2, .long x2), (4, .long x4), (6, .long x6), (8, .int x8)] → wL_X7_walk_23 post n x2 x4 x6 x8 σ → W p l e rm_X7_walk s m args below meth c H locs 0 0 (MQ below (va_Ql post (xAt D cA aE ad A) A) args s 0 0 A) (F0 m 23 ls []) := by
  intro n
  induction n with
  | zero => intro x2 x4 x6 x8 σ H locs ls hG hl hw; exact hw.elim
  | succ n ih => exact kB_X7_walk_23 C vM ih
set_option maxHeartbeats 4000000 in
set_option maxRecDepth 100000 in
theorem k_X7_walk {p : Program} {l : Launch} {e : Env} {s : State} {m : MethodId} {args : Array Value} {below : List Frame} {meth : Method} {c : Code} {A : Nat → Prop} {E : EnvT} {aK aV : Nat → Nat} {aO : Nat} {D : va_G} {cA : Nat → ClassId} {aE ad : Nat → Nat} (C : xCx p s m args meth c cX7_walk 14 (some .long) wgX7_walk RX7 E D cA A) (vM : eXs aK aV aE aO E) {post : Int64 → XS → Prop} :
    ∀ (x1 : Int32) (x2 : Int64) (σ : XS) (H : Heap) (locs : List Loc) (ls : Array Slot), xG D cA aE ad A s σ H locs → lv_has ls 14 [(0, .ref (ad 22)), (1, .int x1), (2, .long x2)] → wp_X7_walk post x1 x2 σ → W p l e rm_X7_walk s m args below meth c H locs 0 0 (MQ below (va_Ql post (xAt D cA aE ad A) A) args s 0 0 A) (F0 m 0 ls []) := by
  obtain ⟨hx, hb, hml, hr, hown, hts, hK, hA, hlk, hE, vE⟩ := id C
  intro x1 x2 σ H locs ls hG hl hw
  obtain ⟨hP, hD, hS⟩ := id hG
  refine lv_aload_n hx hb dX7_walk_0 rfl (lv_at hl 0 rfl) ?_
  refine va_get (D := D) (ci := 9) (v := .ref (ad 17)) (C := RX7) (T := TX7) (N := 1) hx hb hts (in_tb inX7) hown hK hP 22 rfl rfl 0 (by decide) (hts _ (List.mem_cons_of_mem _ tw_1_177)) (fun _ h9 => h9) rfl dX7_walk_1 ?_
  refine lv_iload_n hx hb dX7_walk_4 rfl (lv_at hl 1 rfl) ?_
  refine xV_l (As := [.int x1]) (rest := []) C (met_X0_bitOf vE vM hw) (va_recv hK hP (ci := 2) (q0 := 17) rfl rfl) (cwV 1 hts (TB_G (TB_4 tw_4_77 tw_4_78 tw_4_79 tw_1_6) tw_4_80) rfl rfl rfl (by decide +kernel) ⟨by decide, by decide⟩) hP hD hS rfl hl.1 rfl (Nat.le_of_ble_eq_true rfl) dX7_walk_5 ⟨by decide, by decide⟩ (fun r_1 σ_2 H locs hw hP hD hS => ?_)
  have hG : xG D cA aE ad A s σ_2 H locs := ⟨hP, hD, hS⟩
  refine lv_lstore (lv' := [(4, .long r_1), (0, .ref (ad 22)), (1, .int x1), (2, .long x2)]) hx hb dX7_walk_8 hl (by decide) rfl (fun ls hl => ?_)
  refine lv_lload hx hb dX7_walk_10 (lv_at hl 0 rfl) ?_
  refine lv_lload_n hx hb dX7_walk_12 rfl (lv_at hl 3 rfl) ?_
  refine lv_ldc2 (v := (-1)) hx hb hown (hts _ (List.mem_cons_of_mem _ tw_4_82)) dX7_walk_13 ?_
  refine lv_lxor hx hb dX7_walk_16 ?_
  refine lv_land hx hb dX7_walk_17 ?_
  refine lv_topl (fun x6_3 ex6_3 => ?_)
  have hw := hw x6_3 ex6_3
  refine lv_lstore (lv' := [(6, .long x6_3), (4, .long r_1), (0, .ref (ad 22)), (1, .int x1), (2, .long x2)]) hx hb dX7_walk_18 hl (by decide) rfl (fun ls hl => ?_)
  refine lv_iconst (v := 0) hx hb dX7_walk_20 (by decide) ?_
  refine lv_istore (lv' := [(8, .int 0), (6, .long x6_3), (4, .long r_1), (0, .ref (ad 22)), (1, .int x1), (2, .long x2)]) hx hb dX7_walk_21 hl (by decide) rfl (fun ls hl => ?_)
  obtain ⟨n_, hw⟩ := hw
  exact kL_X7_walk_23 C vM n_ x2 r_1 x6_3 0 σ_2 _ _ _ hG (lv_sub hl [3, 5, 2, 1, 0] rfl) hw
set_option maxHeartbeats 4000000 in
set_option maxRecDepth 100000 in
theorem met_X7_walk {l : Launch} {E : EnvT} (vE : EnvOk E) {D : va_G} {cA : Nat → ClassId} {aE ad : Nat → Nat} {σ : XS} {aK aV : Nat → Nat} {aO : Nat} (vM : eXs aK aV aE aO E) {sz : Nat} {x1 : Int32} {x2 : Int64} {post : Int64 → XS → Prop} (hw : wp_X7_walk post x1 x2 σ) : Met l yX7_walk wgX7_walk rm_X7_walk (va_Pc [.ref (ad 22), .int x1, .long x2] (xPre E D cA aE ad sz σ)) (va_Ql post (xAt D cA aE ad (va_A (xW cA aE ad σ) sz)) (va_A (xW cA aE ad σ) sz)) 0 0 (va_A (xW cA aE ad σ) sz) := by
  refine Met.ofW (cc := cX7_walk) (maxL := 14) (ret := (some .long)) (by decide +kernel) rfl ?_
  intro p e s m args below meth c s₁ B hml hv
  obtain ⟨rfl, hsz, hP, hK, hD0, hE⟩ := hv
  subst hsz
  have hD := hD0.self (sz := s.heap.size)
  generalize hAe : va_A (xW cA aE ad σ) s.heap.size = A at hD hE ⊢
  have hA : ∀ q : Nat, s.heap.size ≤ q → A q := fun q h => by rw [← hAe]; exact Or.inr h
  have hS : va_S A s.heap s.heap [] := va_S.rf
  have C : xCx p s m _ meth c cX7_walk 14 (some .long) wgX7_walk RX7 E D cA A := ⟨B.exec, B.bytes, hml, B.returns, findClass_of_methodNamed B.named, atoms_spec (ws := wgX7_walk) B.pre, hK, hA, B.notSynchronized, hE, vE⟩
  have hG : xG D cA aE ad A s σ s.heap [] := ⟨hP, hD, hS⟩
  have hl := lv_entry ([.ref (ad 22), .int x1, .long x2]) (n := 14) (Nat.le_of_ble_eq_true rfl)
  rw [lg_entry_eq]
  generalize (lg_sl ([.ref (ad 22), .int x1, .long x2]) ++ List.replicate (14 - (lg_sl ([.ref (ad 22), .int x1, .long x2])).length) Slot.unset).toArray = ls at hl ⊢
  have hl : lv_has ls 14 [(0, .ref (ad 22)), (1, .int x1), (2, .long x2)] := hl
  exact k_X7_walk C vM x1 x2 σ _ _ _ hG hl hw
/-! ===== X7_fromStart ways ===== -/
def rm_X7_fromStart : Room := { frames := 4, cells := 0, slots := 0, locals := 97 }
abbrev wgX7_fromStart : List Cond := .code yX7_fromStart cX7_fromStart 1 (some .long) :: TB
def wp_X7_fromStart (post : Int64 → XS → Prop) (σ : XS) : Prop :=
  wp_X7_walk (fun r_1 σ_2 => post r_1 σ_2) 0 0 σ
set_option maxHeartbeats 4000000 in
set_option maxRecDepth 100000 in
theorem k_X7_fromStart {p : Program} {l : Launch} {e : Env} {s : State} {m : MethodId} {args : Array Value} {below : List Frame} {meth : Method} {c : Code} {A : Nat → Prop} {E : EnvT} {aK aV : Nat → Nat} {aO : Nat} {D : va_G} {cA : Nat → ClassId} {aE ad : Nat → Nat} (C : xCx p s m args meth c cX7_fromStart 1 (some .long) wgX7_fromStart RX7 E D cA A) (vM : eXs aK aV aE aO E) {post : Int64 → XS → Prop} :
    ∀ (σ : XS) (H : Heap) (locs : List Loc) (ls : Array Slot), xG D cA aE ad A s σ H locs → lv_has ls 1 [(0, .ref (ad 22))] → wp_X7_fromStart post σ → W p l e rm_X7_fromStart s m args below meth c H locs 0 0 (MQ below (va_Ql post (xAt D cA aE ad A) A) args s 0 0 A) (F0 m 0 ls []) := by
  obtain ⟨hx, hb, hml, hr, hown, hts, hK, hA, hlk, hE, vE⟩ := id C
  intro σ H locs ls hG hl hw
  obtain ⟨hP, hD, hS⟩ := id hG
  refine lv_aload_n hx hb dX7_fromStart_0 rfl (lv_at hl 0 rfl) ?_
  refine lv_iconst (v := 0) hx hb dX7_fromStart_1 (by decide) ?_
  refine lv_lconst (v := 0) hx hb dX7_fromStart_2 (by decide) ?_
  refine xV_l (As := [.int 0, .long 0]) (rest := []) C (met_X7_walk vE vM hw) (va_recv hK hP (ci := 9) (q0 := 22) rfl rfl) (cwV 2 hts (TB_G (TB_4 tw_4_73 tw_4_75 ts_5 tw_1_7) tw_4_76) rfl rfl rfl (by decide +kernel) ⟨by decide, by decide⟩) hP hD hS rfl hl.1 rfl (Nat.le_of_ble_eq_true rfl) dX7_fromStart_3 ⟨by decide, by decide⟩ (fun r_1 σ_2 H locs hw hP hD hS => ?_)
  have hG : xG D cA aE ad A s σ_2 H locs := ⟨hP, hD, hS⟩
  exact W.lret (v := r_1) hx hb hr (fun t ht hW => ⟨⟨_, σ_2, rfl, hw, by rw [ht]; exact hP, va_K.moved hW.alike hK, hD⟩, hS.F ht⟩) hS.2.2 dX7_fromStart_6 hlk
set_option maxHeartbeats 4000000 in
set_option maxRecDepth 100000 in
theorem met_X7_fromStart {l : Launch} {E : EnvT} (vE : EnvOk E) {D : va_G} {cA : Nat → ClassId} {aE ad : Nat → Nat} {σ : XS} {aK aV : Nat → Nat} {aO : Nat} (vM : eXs aK aV aE aO E) {sz : Nat} {post : Int64 → XS → Prop} (hw : wp_X7_fromStart post σ) : Met l yX7_fromStart wgX7_fromStart rm_X7_fromStart (va_Pc [.ref (ad 22)] (xPre E D cA aE ad sz σ)) (va_Ql post (xAt D cA aE ad (va_A (xW cA aE ad σ) sz)) (va_A (xW cA aE ad σ) sz)) 0 0 (va_A (xW cA aE ad σ) sz) := by
  refine Met.ofW (cc := cX7_fromStart) (maxL := 1) (ret := (some .long)) (by decide +kernel) rfl ?_
  intro p e s m args below meth c s₁ B hml hv
  obtain ⟨rfl, hsz, hP, hK, hD0, hE⟩ := hv
  subst hsz
  have hD := hD0.self (sz := s.heap.size)
  generalize hAe : va_A (xW cA aE ad σ) s.heap.size = A at hD hE ⊢
  have hA : ∀ q : Nat, s.heap.size ≤ q → A q := fun q h => by rw [← hAe]; exact Or.inr h
  have hS : va_S A s.heap s.heap [] := va_S.rf
  have C : xCx p s m _ meth c cX7_fromStart 1 (some .long) wgX7_fromStart RX7 E D cA A := ⟨B.exec, B.bytes, hml, B.returns, findClass_of_methodNamed B.named, atoms_spec (ws := wgX7_fromStart) B.pre, hK, hA, B.notSynchronized, hE, vE⟩
  have hG : xG D cA aE ad A s σ s.heap [] := ⟨hP, hD, hS⟩
  have hl := lv_entry ([.ref (ad 22)]) (n := 1) (Nat.le_of_ble_eq_true rfl)
  rw [lg_entry_eq]
  generalize (lg_sl ([.ref (ad 22)]) ++ List.replicate (1 - (lg_sl ([.ref (ad 22)])).length) Slot.unset).toArray = ls at hl ⊢
  have hl : lv_has ls 1 [(0, .ref (ad 22))] := hl
  exact k_X7_fromStart C vM σ _ _ _ hG hl hw
/-! ===== X7_comesToRead ways ===== -/
def rm_X7_comesToRead : Room := { frames := 4, cells := 0, slots := 0, locals := 97 }
abbrev wgX7_comesToRead : List Cond := .code yX7_comesToRead cX7_comesToRead 3 (some .boolean) :: TB
def wB_X7_comesToRead_32 (post : Int32 → XS → Prop) (t0 : Int32) (σ : XS) : Prop :=
  isB t0 ∧ (post t0 σ)
def wp_X7_comesToRead (post : Int32 → XS → Prop) (x1 : Int32) (x2 : Int32) (σ : XS) : Prop :=
  wp_X0_overwritersOf (fun r_1 σ_2 => wp_X7_walk (fun r_3 σ_4 => wp_X0_readersOf (fun r_5 σ_6 => ((r_3 &&& r_5) = 0 → (wB_X7_comesToRead_32 post 0 σ_6)) ∧ (¬ (r_3 &&& r_5) = 0 → (wB_X7_comesToRead_32 post 1 σ_6))) x2 σ_4) x1 r_1 σ_2) x2 σ
set_option maxHeartbeats 4000000 in
set_option maxRecDepth 100000 in
theorem kB_X7_comesToRead_32 {p : Program} {l : Launch} {e : Env} {s : State} {m : MethodId} {args : Array Value} {below : List Frame} {meth : Method} {c : Code} {A : Nat → Prop} {E : EnvT} {aK aV : Nat → Nat} {aO : Nat} {D : va_G} {cA : Nat → ClassId} {aE ad : Nat → Nat} (C : xCx p s m args meth c cX7_comesToRead 3 (some .boolean) wgX7_comesToRead RX7 E D cA A) (vM : eXs aK aV aE aO E) {post : Int32 → XS → Prop} :
    ∀ (t0 : Int32) (σ : XS) (H : Heap) (locs : List Loc) (ls : Array Slot), xG D cA aE ad A s σ H locs → lv_has ls 3 [] → wB_X7_comesToRead_32 post t0 σ → W p l e rm_X7_comesToRead s m args below meth c H locs 0 0 (MQ below (va_Qi post (xAt D cA aE ad A) A) args s 0 0 A) (F0 m 32 ls [.int t0]) := by
  obtain ⟨hx, hb, hml, hr, hown, hts, hK, hA, hlk, hE, vE⟩ := id C
  intro t0 σ H locs ls hG hl hw
  obtain ⟨hP, hD, hS⟩ := id hG
  obtain ⟨h_7, hw⟩ := hw
  exact W.zret (v := t0) (ty := .boolean) hx hb hr (isB.n h_7) (fun t ht hW => ⟨⟨_, σ, rfl, hw, by rw [ht]; exact hP, va_K.moved hW.alike hK, hD⟩, hS.F ht⟩) hS.2.2 dX7_comesToRead_32 hlk
set_option maxHeartbeats 4000000 in
set_option maxRecDepth 100000 in
theorem k_X7_comesToRead {p : Program} {l : Launch} {e : Env} {s : State} {m : MethodId} {args : Array Value} {below : List Frame} {meth : Method} {c : Code} {A : Nat → Prop} {E : EnvT} {aK aV : Nat → Nat} {aO : Nat} {D : va_G} {cA : Nat → ClassId} {aE ad : Nat → Nat} (C : xCx p s m args meth c cX7_comesToRead 3 (some .boolean) wgX7_comesToRead RX7 E D cA A) (vM : eXs aK aV aE aO E) {post : Int32 → XS → Prop} :
    ∀ (x1 : Int32) (x2 : Int32) (σ : XS) (H : Heap) (locs : List Loc) (ls : Array Slot), xG D cA aE ad A s σ H locs → lv_has ls 3 [(0, .ref (ad 22)), (1, .int x1), (2, .int x2)] → wp_X7_comesToRead post x1 x2 σ → W p l e rm_X7_comesToRead s m args below meth c H locs 0 0 (MQ below (va_Qi post (xAt D cA aE ad A) A) args s 0 0 A) (F0 m 0 ls []) := by
  obtain ⟨hx, hb, hml, hr, hown, hts, hK, hA, hlk, hE, vE⟩ := id C
  intro x1 x2 σ H locs ls hG hl hw
  obtain ⟨hP, hD, hS⟩ := id hG
  refine lv_aload_n hx hb dX7_comesToRead_0 rfl (lv_at hl 0 rfl) ?_
  refine lv_iload_n hx hb dX7_comesToRead_1 rfl (lv_at hl 1 rfl) ?_
  refine lv_aload_n hx hb dX7_comesToRead_2 rfl (lv_at hl 0 rfl) ?_
  refine va_get (D := D) (ci := 9) (v := .ref (ad 17)) (C := RX7) (T := TX7) (N := 1) hx hb hts (in_tb inX7) hown hK hP 22 rfl rfl 0 (by decide) (hts _ (List.mem_cons_of_mem _ tw_1_177)) (fun _ h9 => h9) rfl dX7_comesToRead_3 ?_
  refine lv_iload_n hx hb dX7_comesToRead_6 rfl (lv_at hl 2 rfl) ?_
  refine xV_l (As := [.int x2]) (rest := [.int x1, .ref (ad 22)]) C (met_X0_overwritersOf vE vM hw) (va_recv hK hP (ci := 2) (q0 := 17) rfl rfl) (cwV 1 hts (TB_G (TB_4 tw_4_100 tw_4_101 tw_4_102 tw_1_6) tw_4_103) rfl rfl rfl (by decide +kernel) ⟨by decide, by decide⟩) hP hD hS rfl hl.1 rfl (Nat.le_of_ble_eq_true rfl) dX7_comesToRead_7 ⟨by decide, by decide⟩ (fun r_1 σ_2 H locs hw hP hD hS => ?_)
  have hG : xG D cA aE ad A s σ_2 H locs := ⟨hP, hD, hS⟩
  refine xV_l (As := [.int x1, .long r_1]) (rest := []) C (met_X7_walk vE vM hw) (va_recv hK hP (ci := 9) (q0 := 22) rfl rfl) (cwV 2 hts (TB_G (TB_4 tw_4_73 tw_4_75 ts_5 tw_1_7) tw_4_76) rfl rfl rfl (by decide +kernel) ⟨by decide, by decide⟩) hP hD hS rfl hl.1 rfl (Nat.le_of_ble_eq_true rfl) dX7_comesToRead_10 ⟨by decide, by decide⟩ (fun r_3 σ_4 H locs hw hP hD hS => ?_)
  have hG : xG D cA aE ad A s σ_4 H locs := ⟨hP, hD, hS⟩
  refine lv_aload_n hx hb dX7_comesToRead_13 rfl (lv_at hl 0 rfl) ?_
  refine va_get (D := D) (ci := 9) (v := .ref (ad 17)) (C := RX7) (T := TX7) (N := 1) hx hb hts (in_tb inX7) hown hK hP 22 rfl rfl 0 (by decide) (hts _ (List.mem_cons_of_mem _ tw_1_177)) (fun _ h9 => h9) rfl dX7_comesToRead_14 ?_
  refine lv_iload_n hx hb dX7_comesToRead_17 rfl (lv_at hl 2 rfl) ?_
  refine xV_l (As := [.int x2]) (rest := [.long r_3]) C (met_X0_readersOf vE vM hw) (va_recv hK hP (ci := 2) (q0 := 17) rfl rfl) (cwV 1 hts (TB_G (TB_4 tw_4_109 tw_4_110 tw_4_111 tw_1_6) tw_4_112) rfl rfl rfl (by decide +kernel) ⟨by decide, by decide⟩) hP hD hS rfl hl.1 rfl (Nat.le_of_ble_eq_true rfl) dX7_comesToRead_18 ⟨by decide, by decide⟩ (fun r_5 σ_6 H locs hw hP hD hS => ?_)
  have hG : xG D cA aE ad A s σ_6 H locs := ⟨hP, hD, hS⟩
  refine lv_land hx hb dX7_comesToRead_21 ?_
  refine lv_lconst (v := 0) hx hb dX7_comesToRead_22 (by decide) ?_
  refine W.lcmp hx hb dX7_comesToRead_23 ?_
  refine lv_if_eq (tgt := 31) hx hb dX7_comesToRead_24 (by decide) (fun q_ => ?_) (fun q_ => ?_)
  · have hw := hw.1 (lc_eq.mp q_)
    refine lv_iconst (v := 0) hx hb dX7_comesToRead_31 (by decide) ?_
    exact kB_X7_comesToRead_32 C vM 0 σ_6 _ _ _ hG (lv_sub hl [] rfl) hw
  · have hw := hw.2 (fun z => q_ (lc_eq.mpr z))
    refine lv_iconst (v := 1) hx hb dX7_comesToRead_27 (by decide) ?_
    refine lv_goto (tgt := 32) hx hb dX7_comesToRead_28 (by decide) ?_
    exact kB_X7_comesToRead_32 C vM 1 σ_6 _ _ _ hG (lv_sub hl [] rfl) hw
set_option maxHeartbeats 4000000 in
set_option maxRecDepth 100000 in
theorem met_X7_comesToRead {l : Launch} {E : EnvT} (vE : EnvOk E) {D : va_G} {cA : Nat → ClassId} {aE ad : Nat → Nat} {σ : XS} {aK aV : Nat → Nat} {aO : Nat} (vM : eXs aK aV aE aO E) {sz : Nat} {x1 : Int32} {x2 : Int32} {post : Int32 → XS → Prop} (hw : wp_X7_comesToRead post x1 x2 σ) : Met l yX7_comesToRead wgX7_comesToRead rm_X7_comesToRead (va_Pc [.ref (ad 22), .int x1, .int x2] (xPre E D cA aE ad sz σ)) (va_Qi post (xAt D cA aE ad (va_A (xW cA aE ad σ) sz)) (va_A (xW cA aE ad σ) sz)) 0 0 (va_A (xW cA aE ad σ) sz) := by
  refine Met.ofW (cc := cX7_comesToRead) (maxL := 3) (ret := (some .boolean)) (by decide +kernel) rfl ?_
  intro p e s m args below meth c s₁ B hml hv
  obtain ⟨rfl, hsz, hP, hK, hD0, hE⟩ := hv
  subst hsz
  have hD := hD0.self (sz := s.heap.size)
  generalize hAe : va_A (xW cA aE ad σ) s.heap.size = A at hD hE ⊢
  have hA : ∀ q : Nat, s.heap.size ≤ q → A q := fun q h => by rw [← hAe]; exact Or.inr h
  have hS : va_S A s.heap s.heap [] := va_S.rf
  have C : xCx p s m _ meth c cX7_comesToRead 3 (some .boolean) wgX7_comesToRead RX7 E D cA A := ⟨B.exec, B.bytes, hml, B.returns, findClass_of_methodNamed B.named, atoms_spec (ws := wgX7_comesToRead) B.pre, hK, hA, B.notSynchronized, hE, vE⟩
  have hG : xG D cA aE ad A s σ s.heap [] := ⟨hP, hD, hS⟩
  have hl := lv_entry ([.ref (ad 22), .int x1, .int x2]) (n := 3) (Nat.le_of_ble_eq_true rfl)
  rw [lg_entry_eq]
  generalize (lg_sl ([.ref (ad 22), .int x1, .int x2]) ++ List.replicate (3 - (lg_sl ([.ref (ad 22), .int x1, .int x2])).length) Slot.unset).toArray = ls at hl ⊢
  have hl : lv_has ls 3 [(0, .ref (ad 22)), (1, .int x1), (2, .int x2)] := hl
  exact k_X7_comesToRead C vM x1 x2 σ _ _ _ hG hl hw
/-! ===== X7_isEnd ways ===== -/
def rm_X7_isEnd : Room := { frames := 3, cells := 0, slots := 0, locals := 64 }
abbrev wgX7_isEnd : List Cond := .code yX7_isEnd cX7_isEnd 3 (some .boolean) :: TB
def wB_X7_isEnd_54 (post : Int32 → XS → Prop) (t0 : Int32) (σ : XS) : Prop :=
  isB t0 ∧ (post t0 σ)
def wB_X7_isEnd_49 (post : Int32 → XS → Prop) (σ : XS) : Prop :=
  wB_X7_isEnd_54 post 1 σ
def wB_X7_isEnd_29 (post : Int32 → XS → Prop) (x1 : Int32) (t0 : Int32) (σ : XS) : Prop :=
  (t0 = 0 → (wp_X7_first (fun r_4 σ_5 => wp_X0_has (fun r_6 σ_7 => (r_6 = 0 → (wB_X7_isEnd_49 post σ_7)) ∧ (¬ r_6 = 0 → (wB_X7_isEnd_54 post 0 σ_7))) r_4 σ_5) x1 σ)) ∧ (¬ t0 = 0 → (wB_X7_isEnd_49 post σ))
def wB_X7_isEnd_28 (post : Int32 → XS → Prop) (x1 : Int32) (σ : XS) : Prop :=
  wB_X7_isEnd_29 post x1 0 σ
def wp_X7_isEnd (post : Int32 → XS → Prop) (x1 : Int32) (σ : XS) : Prop :=
  wp_X7_second (fun r_1 σ_2 => (r_1 = (-1) → (wB_X7_isEnd_28 post x1 σ_2)) ∧ (¬ r_1 = (-1) → (wp_X7_second (fun r_8 σ_9 => wp_X0_has (fun r_10 σ_11 => (r_10 = 0 → (wB_X7_isEnd_29 post x1 1 σ_11)) ∧ (¬ r_10 = 0 → (wB_X7_isEnd_28 post x1 σ_11))) r_8 σ_9) x1 σ_2))) x1 σ
set_option maxHeartbeats 4000000 in
set_option maxRecDepth 100000 in
theorem kB_X7_isEnd_54 {p : Program} {l : Launch} {e : Env} {s : State} {m : MethodId} {args : Array Value} {below : List Frame} {meth : Method} {c : Code} {A : Nat → Prop} {E : EnvT} {aK aV : Nat → Nat} {aO : Nat} {D : va_G} {cA : Nat → ClassId} {aE ad : Nat → Nat} (C : xCx p s m args meth c cX7_isEnd 3 (some .boolean) wgX7_isEnd RX7 E D cA A) (vM : eXs aK aV aE aO E) {post : Int32 → XS → Prop} :
    ∀ (t0 : Int32) (σ : XS) (H : Heap) (locs : List Loc) (ls : Array Slot), xG D cA aE ad A s σ H locs → lv_has ls 3 [] → wB_X7_isEnd_54 post t0 σ → W p l e rm_X7_isEnd s m args below meth c H locs 0 0 (MQ below (va_Qi post (xAt D cA aE ad A) A) args s 0 0 A) (F0 m 54 ls [.int t0]) := by
  obtain ⟨hx, hb, hml, hr, hown, hts, hK, hA, hlk, hE, vE⟩ := id C
  intro t0 σ H locs ls hG hl hw
  obtain ⟨hP, hD, hS⟩ := id hG
  obtain ⟨h_3, hw⟩ := hw
  exact W.zret (v := t0) (ty := .boolean) hx hb hr (isB.n h_3) (fun t ht hW => ⟨⟨_, σ, rfl, hw, by rw [ht]; exact hP, va_K.moved hW.alike hK, hD⟩, hS.F ht⟩) hS.2.2 dX7_isEnd_54 hlk
set_option maxHeartbeats 4000000 in
set_option maxRecDepth 100000 in
theorem kB_X7_isEnd_49 {p : Program} {l : Launch} {e : Env} {s : State} {m : MethodId} {args : Array Value} {below : List Frame} {meth : Method} {c : Code} {A : Nat → Prop} {E : EnvT} {aK aV : Nat → Nat} {aO : Nat} {D : va_G} {cA : Nat → ClassId} {aE ad : Nat → Nat} (C : xCx p s m args meth c cX7_isEnd 3 (some .boolean) wgX7_isEnd RX7 E D cA A) (vM : eXs aK aV aE aO E) {post : Int32 → XS → Prop} :
    ∀ (σ : XS) (H : Heap) (locs : List Loc) (ls : Array Slot), xG D cA aE ad A s σ H locs → lv_has ls 3 [] → wB_X7_isEnd_49 post σ → W p l e rm_X7_isEnd s m args below meth c H locs 0 0 (MQ below (va_Qi post (xAt D cA aE ad A) A) args s 0 0 A) (F0 m 49 ls []) := by
  obtain ⟨hx, hb, hml, hr, hown, hts, hK, hA, hlk, hE, vE⟩ := id C
  intro σ H locs ls hG hl hw
  obtain ⟨hP, hD, hS⟩ := id hG
  refine lv_iconst (v := 1) hx hb dX7_isEnd_49 (by decide) ?_
  refine lv_goto (tgt := 54) hx hb dX7_isEnd_50 (by decide) ?_
  exact kB_X7_isEnd_54 C vM 1 σ _ _ _ hG (lv_sub hl [] rfl) hw
set_option maxHeartbeats 4000000 in
set_option maxRecDepth 100000 in
theorem kB_X7_isEnd_29 {p : Program} {l : Launch} {e : Env} {s : State} {m : MethodId} {args : Array Value} {below : List Frame} {meth : Method} {c : Code} {A : Nat → Prop} {E : EnvT} {aK aV : Nat → Nat} {aO : Nat} {D : va_G} {cA : Nat → ClassId} {aE ad : Nat → Nat} (C : xCx p s m args meth c cX7_isEnd 3 (some .boolean) wgX7_isEnd RX7 E D cA A) (vM : eXs aK aV aE aO E) {post : Int32 → XS → Prop} :
    ∀ (x1 : Int32) (t0 : Int32) (σ : XS) (H : Heap) (locs : List Loc) (ls : Array Slot), xG D cA aE ad A s σ H locs → lv_has ls 3 [(0, .ref (ad 22)), (1, .int x1)] → wB_X7_isEnd_29 post x1 t0 σ → W p l e rm_X7_isEnd s m args below meth c H locs 0 0 (MQ below (va_Qi post (xAt D cA aE ad A) A) args s 0 0 A) (F0 m 29 ls [.int t0]) := by
  obtain ⟨hx, hb, hml, hr, hown, hts, hK, hA, hlk, hE, vE⟩ := id C
  intro x1 t0 σ H locs ls hG hl hw
  obtain ⟨hP, hD, hS⟩ := id hG
  refine lv_istore_n (lv' := [(2, .int t0), (0, .ref (ad 22)), (1, .int x1)]) hx hb dX7_isEnd_29 rfl hl (by decide) rfl (fun ls hl => ?_)
  refine lv_iload_n hx hb dX7_isEnd_30 rfl (lv_at hl 0 rfl) ?_
  refine lv_if_ne (tgt := 49) hx hb dX7_isEnd_31 (by decide) (fun q_ => ?_) (fun q_ => ?_)
  · have hw := hw.2 q_
    exact kB_X7_isEnd_49 C vM  σ _ _ _ hG (lv_sub hl [] rfl) hw
  · have hw := hw.1 q_
    refine lv_aload_n hx hb dX7_isEnd_34 rfl (lv_at hl 1 rfl) ?_
    refine va_get (D := D) (ci := 9) (v := .ref (ad 17)) (C := RX7) (T := TX7) (N := 1) hx hb hts (in_tb inX7) hown hK hP 22 rfl rfl 0 (by decide) (hts _ (List.mem_cons_of_mem _ tw_1_177)) (fun _ h9 => h9) rfl dX7_isEnd_35 ?_
    refine lv_aload_n hx hb dX7_isEnd_38 rfl (lv_at hl 1 rfl) ?_
    refine lv_iload_n hx hb dX7_isEnd_39 rfl (lv_at hl 2 rfl) ?_
    refine xV_i (As := [.int x1]) (rest := [.ref (ad 17)]) C (met_X7_first vE vM hw) (va_recv hK hP (ci := 9) (q0 := 22) rfl rfl) (cwV 1 hts (TB_G (TB_4 tw_4_89 tw_4_37 tw_4_38 tw_1_7) tw_4_39) rfl rfl rfl (by decide +kernel) ⟨by decide, by decide⟩) hP hD hS rfl hl.1 rfl (Nat.le_of_ble_eq_true rfl) dX7_isEnd_40 ⟨by decide, by decide⟩ (fun r_4 σ_5 H locs hw hP hD hS => ?_)
    have hG : xG D cA aE ad A s σ_5 H locs := ⟨hP, hD, hS⟩
    refine xV_i (As := [.int r_4]) (rest := []) C (met_X0_has vE vM hw) (va_recv hK hP (ci := 2) (q0 := 17) rfl rfl) (cwV 1 hts (TB_G (TB_4 tw_4_40 tw_2_199 tw_2_200 tw_1_6) tw_2_201) rfl rfl rfl (by decide +kernel) ⟨by decide, by decide⟩) hP hD hS rfl hl.1 rfl (Nat.le_of_ble_eq_true rfl) dX7_isEnd_43 ⟨by decide, by decide⟩ (fun r_6 σ_7 H locs hw hP hD hS => ?_)
    have hG : xG D cA aE ad A s σ_7 H locs := ⟨hP, hD, hS⟩
    refine lv_if_ne (tgt := 53) hx hb dX7_isEnd_46 (by decide) (fun q_ => ?_) (fun q_ => ?_)
    · have hw := hw.2 q_
      refine lv_iconst (v := 0) hx hb dX7_isEnd_53 (by decide) ?_
      exact kB_X7_isEnd_54 C vM 0 σ_7 _ _ _ hG (lv_sub hl [] rfl) hw
    · have hw := hw.1 q_
      exact kB_X7_isEnd_49 C vM  σ_7 _ _ _ hG (lv_sub hl [] rfl) hw
set_option maxHeartbeats 4000000 in
set_option maxRecDepth 100000 in
theorem kB_X7_isEnd_28 {p : Program} {l : Launch} {e : Env} {s : State} {m : MethodId} {args : Array Value} {below : List Frame} {meth : Method} {c : Code} {A : Nat → Prop} {E : EnvT} {aK aV : Nat → Nat} {aO : Nat} {D : va_G} {cA : Nat → ClassId} {aE ad : Nat → Nat} (C : xCx p s m args meth c cX7_isEnd 3 (some .boolean) wgX7_isEnd RX7 E D cA A) (vM : eXs aK aV aE aO E) {post : Int32 → XS → Prop} :
    ∀ (x1 : Int32) (σ : XS) (H : Heap) (locs : List Loc) (ls : Array Slot), xG D cA aE ad A s σ H locs → lv_has ls 3 [(0, .ref (ad 22)), (1, .int x1)] → wB_X7_isEnd_28 post x1 σ → W p l e rm_X7_isEnd s m args below meth c H locs 0 0 (MQ below (va_Qi post (xAt D cA aE ad A) A) args s 0 0 A) (F0 m 28 ls []) := by
  obtain ⟨hx, hb, hml, hr, hown, hts, hK, hA, hlk, hE, vE⟩ := id C
  intro x1 σ H locs ls hG hl hw
  obtain ⟨hP, hD, hS⟩ := id hG
  refine lv_iconst (v := 0) hx hb dX7_isEnd_28 (by decide) ?_
  exact kB_X7_isEnd_29 C vM x1 0 σ _ _ _ hG (lv_sub hl [0, 1] rfl) hw
set_option maxHeartbeats 4000000 in
set_option maxRecDepth 100000 in
theorem k_X7_isEnd {p : Program} {l : Launch} {e : Env} {s : State} {m : MethodId} {args : Array Value} {below : List Frame} {meth : Method} {c : Code} {A : Nat → Prop} {E : EnvT} {aK aV : Nat → Nat} {aO : Nat} {D : va_G} {cA : Nat → ClassId} {aE ad : Nat → Nat} (C : xCx p s m args meth c cX7_isEnd 3 (some .boolean) wgX7_isEnd RX7 E D cA A) (vM : eXs aK aV aE aO E) {post : Int32 → XS → Prop} :
    ∀ (x1 : Int32) (σ : XS) (H : Heap) (locs : List Loc) (ls : Array Slot), xG D cA aE ad A s σ H locs → lv_has ls 3 [(0, .ref (ad 22)), (1, .int x1)] → wp_X7_isEnd post x1 σ → W p l e rm_X7_isEnd s m args below meth c H locs 0 0 (MQ below (va_Qi post (xAt D cA aE ad A) A) args s 0 0 A) (F0 m 0 ls []) := by
  obtain ⟨hx, hb, hml, hr, hown, hts, hK, hA, hlk, hE, vE⟩ := id C
  intro x1 σ H locs ls hG hl hw
  obtain ⟨hP, hD, hS⟩ := id hG
  refine lv_aload_n hx hb dX7_isEnd_0 rfl (lv_at hl 0 rfl) ?_
  refine lv_iload_n hx hb dX7_isEnd_1 rfl (lv_at hl 1 rfl) ?_
  refine xV_i (As := [.int x1]) (rest := []) C (met_X7_second vE vM hw) (va_recv hK hP (ci := 9) (q0 := 22) rfl rfl) (cwV 1 hts (TB_G (TB_4 tw_4_90 tw_4_62 tw_4_63 tw_1_7) tw_4_64) rfl rfl rfl (by decide +kernel) ⟨by decide, by decide⟩) hP hD hS rfl hl.1 rfl (Nat.le_of_ble_eq_true rfl) dX7_isEnd_2 ⟨by decide, by decide⟩ (fun r_1 σ_2 H locs hw hP hD hS => ?_)
  have hG : xG D cA aE ad A s σ_2 H locs := ⟨hP, hD, hS⟩
  refine lv_iconst (v := (-1)) hx hb dX7_isEnd_5 (by decide) ?_
  refine lv_icmp_eq (tgt := 28) hx hb dX7_isEnd_6 (by decide) (fun q_ => ?_) (fun q_ => ?_)
  · have hw := hw.1 q_
    exact kB_X7_isEnd_28 C vM x1 σ_2 _ _ _ hG (lv_sub hl [0, 1] rfl) hw
  · have hw := hw.2 q_
    refine lv_aload_n hx hb dX7_isEnd_9 rfl (lv_at hl 0 rfl) ?_
    refine va_get (D := D) (ci := 9) (v := .ref (ad 17)) (C := RX7) (T := TX7) (N := 1) hx hb hts (in_tb inX7) hown hK hP 22 rfl rfl 0 (by decide) (hts _ (List.mem_cons_of_mem _ tw_1_177)) (fun _ h9 => h9) rfl dX7_isEnd_10 ?_
    refine lv_aload_n hx hb dX7_isEnd_13 rfl (lv_at hl 0 rfl) ?_
    refine lv_iload_n hx hb dX7_isEnd_14 rfl (lv_at hl 1 rfl) ?_
    refine xV_i (As := [.int x1]) (rest := [.ref (ad 17)]) C (met_X7_second vE vM hw) (va_recv hK hP (ci := 9) (q0 := 22) rfl rfl) (cwV 1 hts (TB_G (TB_4 tw_4_90 tw_4_62 tw_4_63 tw_1_7) tw_4_64) rfl rfl rfl (by decide +kernel) ⟨by decide, by decide⟩) hP hD hS rfl hl.1 rfl (Nat.le_of_ble_eq_true rfl) dX7_isEnd_15 ⟨by decide, by decide⟩ (fun r_8 σ_9 H locs hw hP hD hS => ?_)
    have hG : xG D cA aE ad A s σ_9 H locs := ⟨hP, hD, hS⟩
    refine xV_i (As := [.int r_8]) (rest := []) C (met_X0_has vE vM hw) (va_recv hK hP (ci := 2) (q0 := 17) rfl rfl) (cwV 1 hts (TB_G (TB_4 tw_4_40 tw_2_199 tw_2_200 tw_1_6) tw_2_201) rfl rfl rfl (by decide +kernel) ⟨by decide, by decide⟩) hP hD hS rfl hl.1 rfl (Nat.le_of_ble_eq_true rfl) dX7_isEnd_18 ⟨by decide, by decide⟩ (fun r_10 σ_11 H locs hw hP hD hS => ?_)
    have hG : xG D cA aE ad A s σ_11 H locs := ⟨hP, hD, hS⟩
    refine lv_if_ne (tgt := 28) hx hb dX7_isEnd_21 (by decide) (fun q_ => ?_) (fun q_ => ?_)
    · have hw := hw.2 q_
      exact kB_X7_isEnd_28 C vM x1 σ_11 _ _ _ hG (lv_sub hl [0, 1] rfl) hw
    · have hw := hw.1 q_
      refine lv_iconst (v := 1) hx hb dX7_isEnd_24 (by decide) ?_
      refine lv_goto (tgt := 29) hx hb dX7_isEnd_25 (by decide) ?_
      exact kB_X7_isEnd_29 C vM x1 1 σ_11 _ _ _ hG (lv_sub hl [0, 1] rfl) hw
set_option maxHeartbeats 4000000 in
set_option maxRecDepth 100000 in
theorem met_X7_isEnd {l : Launch} {E : EnvT} (vE : EnvOk E) {D : va_G} {cA : Nat → ClassId} {aE ad : Nat → Nat} {σ : XS} {aK aV : Nat → Nat} {aO : Nat} (vM : eXs aK aV aE aO E) {sz : Nat} {x1 : Int32} {post : Int32 → XS → Prop} (hw : wp_X7_isEnd post x1 σ) : Met l yX7_isEnd wgX7_isEnd rm_X7_isEnd (va_Pc [.ref (ad 22), .int x1] (xPre E D cA aE ad sz σ)) (va_Qi post (xAt D cA aE ad (va_A (xW cA aE ad σ) sz)) (va_A (xW cA aE ad σ) sz)) 0 0 (va_A (xW cA aE ad σ) sz) := by
  refine Met.ofW (cc := cX7_isEnd) (maxL := 3) (ret := (some .boolean)) (by decide +kernel) rfl ?_
  intro p e s m args below meth c s₁ B hml hv
  obtain ⟨rfl, hsz, hP, hK, hD0, hE⟩ := hv
  subst hsz
  have hD := hD0.self (sz := s.heap.size)
  generalize hAe : va_A (xW cA aE ad σ) s.heap.size = A at hD hE ⊢
  have hA : ∀ q : Nat, s.heap.size ≤ q → A q := fun q h => by rw [← hAe]; exact Or.inr h
  have hS : va_S A s.heap s.heap [] := va_S.rf
  have C : xCx p s m _ meth c cX7_isEnd 3 (some .boolean) wgX7_isEnd RX7 E D cA A := ⟨B.exec, B.bytes, hml, B.returns, findClass_of_methodNamed B.named, atoms_spec (ws := wgX7_isEnd) B.pre, hK, hA, B.notSynchronized, hE, vE⟩
  have hG : xG D cA aE ad A s σ s.heap [] := ⟨hP, hD, hS⟩
  have hl := lv_entry ([.ref (ad 22), .int x1]) (n := 3) (Nat.le_of_ble_eq_true rfl)
  rw [lg_entry_eq]
  generalize (lg_sl ([.ref (ad 22), .int x1]) ++ List.replicate (3 - (lg_sl ([.ref (ad 22), .int x1])).length) Slot.unset).toArray = ls at hl ⊢
  have hl : lv_has ls 3 [(0, .ref (ad 22)), (1, .int x1)] := hl
  exact k_X7_isEnd C vM x1 σ _ _ _ hG hl hw
/-! ===== X7_hasEnd ways ===== -/
def rm_X7_hasEnd : Room := { frames := 4, cells := 0, slots := 0, locals := 86 }
abbrev wgX7_hasEnd : List Cond := .code yX7_hasEnd cX7_hasEnd 4 (some .boolean) :: TB
def wB_X7_hasEnd_38 (post : Int32 → XS → Prop) (k2 : Int64 → Int32 → XS → Prop) (x1 : Int64) (x3 : Int32) (σ : XS) : Prop :=
  ∀ x3_3 : Int32, x3_3 = x3 + 1 → k2 x1 x3_3 σ
def wB_X7_hasEnd_2 (post : Int32 → XS → Prop) (k2 : Int64 → Int32 → XS → Prop) (x1 : Int64) (x3 : Int32) (σ : XS) : Prop :=
  ((xI σ 8) ≤ x3 → (post 0 σ)) ∧ (¬ (xI σ 8) ≤ x3 → (wp_X0_bitOf (fun r_1 σ_2 => ((x1 &&& r_1) = 0 → (wB_X7_hasEnd_38 post k2 x1 x3 σ_2)) ∧ (¬ (x1 &&& r_1) = 0 → (wp_X7_isEnd (fun r_4 σ_5 => (r_4 = 0 → (wB_X7_hasEnd_38 post k2 x1 x3 σ_5)) ∧ (¬ r_4 = 0 → (post 1 σ_5))) x3 σ_2))) x3 σ))
def wL_X7_hasEnd_2 (post : Int32 → XS → Prop) : Nat → Int64 → Int32 → XS → Prop
  | 0 => fun _ _ _ => False
  | n + 1 => wB_X7_hasEnd_2 post (wL_X7_hasEnd_2 post n)
def wp_X7_hasEnd (post : Int32 → XS → Prop) (x1 : Int64) (σ : XS) : Prop :=
  ∃ n, wL_X7_hasEnd_2 post n x1 0 σ
set_option maxHeartbeats 4000000 in
set_option maxRecDepth 100000 in
theorem kB_X7_hasEnd_38 {p : Program} {l : Launch} {e : Env} {s : State} {m : MethodId} {args : Array Value} {below : List Frame} {meth : Method} {c : Code} {A : Nat → Prop} {E : EnvT} {aK aV : Nat → Nat} {aO : Nat} {D : va_G} {cA : Nat → ClassId} {aE ad : Nat → Nat} (C : xCx p s m args meth c cX7_hasEnd 4 (some .boolean) wgX7_hasEnd RX7 E D cA A) (vM : eXs aK aV aE aO E) {post : Int32 → XS → Prop}
    {k2 : Int64 → Int32 → XS → Prop} (hk2 : ∀ (x1 : Int64) (x3 : Int32) (σ : XS) (H : Heap) (locs : List Loc) (ls : Array Slot), xG D cA aE ad A s σ H locs → lv_has ls 4 [(0, .ref (ad 22)), (1, .long x1), (3, .int x3)] → k2 x1 x3 σ → W p l e rm_X7_hasEnd s m args below meth c H locs 0 0 (MQ below (va_Qi post (xAt D cA aE ad A) A) args s 0 0 A) (F0 m 2 ls [])) :
    ∀ (x1 : Int64) (x3 : Int32) (σ : XS) (H : Heap) (locs : List Loc) (ls : Array Slot), xG D cA aE ad A s σ H locs → lv_has ls 4 [(0, .ref (ad 22)), (1, .long x1), (3, .int x3)] → wB_X7_hasEnd_38 post k2 x1 x3 σ → W p l e rm_X7_hasEnd s m args below meth c H locs 0 0 (MQ below (va_Qi post (xAt D cA aE ad A) A) args s 0 0 A) (F0 m 38 ls []) := by
  obtain ⟨hx, hb, hml, hr, hown, hts, hK, hA, hlk, hE, vE⟩ := id C
  intro x1 x3 σ H locs ls hG hl hw
  obtain ⟨hP, hD, hS⟩ := id hG
  obtain ⟨x3_3, ex3_3⟩ : ∃ y : Int32, y = x3 + 1 := ⟨_, rfl⟩
  have hw := hw x3_3 ex3_3
  refine lv_iinc (v := x3_3) (lv' := [(3, .int x3_3), (0, .ref (ad 22)), (1, .long x1)]) hx hb dX7_hasEnd_38 hl (k := 2) rfl (by rw [ex3_3]; rfl) (by decide) rfl (fun ls hl => ?_)
  refine lv_goto (tgt := 2) hx hb dX7_hasEnd_41 (by decide) ?_
  exact hk2 x1 x3_3 σ _ _ _ hG (lv_sub hl [1, 2, 0] rfl) hw
set_option maxHeartbeats 4000000 in
set_option maxRecDepth 100000 in
theorem kB_X7_hasEnd_2 {p : Program} {l : Launch} {e : Env} {s : State} {m : MethodId} {args : Array Value} {below : List Frame} {meth : Method} {c : Code} {A : Nat → Prop} {E : EnvT} {aK aV : Nat → Nat} {aO : Nat} {D : va_G} {cA : Nat → ClassId} {aE ad : Nat → Nat} (C : xCx p s m args meth c cX7_hasEnd 4 (some .boolean) wgX7_hasEnd RX7 E D cA A) (vM : eXs aK aV aE aO E) {post : Int32 → XS → Prop}
    {k2 : Int64 → Int32 → XS → Prop} (hk2 : ∀ (x1 : Int64) (x3 : Int32) (σ : XS) (H : Heap) (locs : List Loc) (ls : Array Slot), xG D cA aE ad A s σ H locs → lv_has ls 4 [(0, .ref (ad 22)), (1, .long x1), (3, .int x3)] → k2 x1 x3 σ → W p l e rm_X7_hasEnd s m args below meth c H locs 0 0 (MQ below (va_Qi post (xAt D cA aE ad A) A) args s 0 0 A) (F0 m 2 ls [])) :
    ∀ (x1 : Int64) (x3 : Int32) (σ : XS) (H : Heap) (locs : List Loc) (ls : Array Slot), xG D cA aE ad A s σ H locs → lv_has ls 4 [(0, .ref (ad 22)), (1, .long x1), (3, .int x3)] → wB_X7_hasEnd_2 post k2 x1 x3 σ → W p l e rm_X7_hasEnd s m args below meth c H locs 0 0 (MQ below (va_Qi post (xAt D cA aE ad A) A) args s 0 0 A) (F0 m 2 ls []) := by
  obtain ⟨hx, hb, hml, hr, hown, hts, hK, hA, hlk, hE, vE⟩ := id C
  intro x1 x3 σ H locs ls hG hl hw
  obtain ⟨hP, hD, hS⟩ := id hG
  refine lv_iload_n hx hb dX7_hasEnd_2 rfl (lv_at hl 2 rfl) ?_
  refine lv_aload_n hx hb dX7_hasEnd_3 rfl (lv_at hl 0 rfl) ?_
  refine va_get (D := D) (ci := 9) (v := .ref (ad 17)) (C := RX7) (T := TX7) (N := 1) hx hb hts (in_tb inX7) hown hK hP 22 rfl rfl 0 (by decide) (hts _ (List.mem_cons_of_mem _ tw_1_177)) (fun _ h9 => h9) rfl dX7_hasEnd_4 ?_
  refine va_get (D := D) (ci := 2) (v := .int (xI σ 8)) (C := RX0) (T := TX0) (N := 5) hx hb hts (in_tb inX0) hown hK hP 17 rfl rfl 4 (by decide) (hts _ (List.mem_cons_of_mem _ tw_1_159)) (fun _ h9 => h9) rfl dX7_hasEnd_7 ?_
  refine lv_icmp_ge (tgt := 44) hx hb dX7_hasEnd_10 (by decide) (fun q_ => ?_) (fun q_ => ?_)
  · have hw := hw.1 q_
    refine lv_iconst (v := 0) hx hb dX7_hasEnd_44 (by decide) ?_
    exact W.zret (v := 0) (ty := .boolean) hx hb hr rfl (fun t ht hW => ⟨⟨_, σ, rfl, hw, by rw [ht]; exact hP, va_K.moved hW.alike hK, hD⟩, hS.F ht⟩) hS.2.2 dX7_hasEnd_45 hlk
  · have hw := hw.2 q_
    refine lv_lload_n hx hb dX7_hasEnd_13 rfl (lv_at hl 1 rfl) ?_
    refine lv_aload_n hx hb dX7_hasEnd_14 rfl (lv_at hl 0 rfl) ?_
    refine va_get (D := D) (ci := 9) (v := .ref (ad 17)) (C := RX7) (T := TX7) (N := 1) hx hb hts (in_tb inX7) hown hK hP 22 rfl rfl 0 (by decide) (hts _ (List.mem_cons_of_mem _ tw_1_177)) (fun _ h9 => h9) rfl dX7_hasEnd_15 ?_
    refine lv_iload_n hx hb dX7_hasEnd_18 rfl (lv_at hl 2 rfl) ?_
    refine xV_l (As := [.int x3]) (rest := [.long x1]) C (met_X0_bitOf vE vM hw) (va_recv hK hP (ci := 2) (q0 := 17) rfl rfl) (cwV 1 hts (TB_G (TB_4 tw_4_77 tw_4_78 tw_4_79 tw_1_6) tw_4_80) rfl rfl rfl (by decide +kernel) ⟨by decide, by decide⟩) hP hD hS rfl hl.1 rfl (Nat.le_of_ble_eq_true rfl) dX7_hasEnd_19 ⟨by decide, by decide⟩ (fun r_1 σ_2 H locs hw hP hD hS => ?_)
    have hG : xG D cA aE ad A s σ_2 H locs := ⟨hP, hD, hS⟩
    refine lv_land hx hb dX7_hasEnd_22 ?_
    refine lv_lconst (v := 0) hx hb dX7_hasEnd_23 (by decide) ?_
    refine W.lcmp hx hb dX7_hasEnd_24 ?_
    refine lv_if_eq (tgt := 38) hx hb dX7_hasEnd_25 (by decide) (fun q_ => ?_) (fun q_ => ?_)
    · have hw := hw.1 (lc_eq.mp q_)
      exact kB_X7_hasEnd_38 C vM hk2 x1 x3 σ_2 _ _ _ hG (lv_sub hl [0, 1, 2] rfl) hw
    · have hw := hw.2 (fun z => q_ (lc_eq.mpr z))
      refine lv_aload_n hx hb dX7_hasEnd_28 rfl (lv_at hl 0 rfl) ?_
      refine lv_iload_n hx hb dX7_hasEnd_29 rfl (lv_at hl 2 rfl) ?_
      refine xV_i (As := [.int x3]) (rest := []) C (met_X7_isEnd vE vM hw) (va_recv hK hP (ci := 9) (q0 := 22) rfl rfl) (cwV 1 hts (TB_G (TB_4 tw_4_126 tw_4_128 ts_8 tw_1_7) tw_4_129) rfl rfl rfl (by decide +kernel) ⟨by decide, by decide⟩) hP hD hS rfl hl.1 rfl (Nat.le_of_ble_eq_true rfl) dX7_hasEnd_30 ⟨by decide, by decide⟩ (fun r_4 σ_5 H locs hw hP hD hS => ?_)
      have hG : xG D cA aE ad A s σ_5 H locs := ⟨hP, hD, hS⟩
      refine lv_if_eq (tgt := 38) hx hb dX7_hasEnd_33 (by decide) (fun q_ => ?_) (fun q_ => ?_)
      · have hw := hw.1 q_
        exact kB_X7_hasEnd_38 C vM hk2 x1 x3 σ_5 _ _ _ hG (lv_sub hl [0, 1, 2] rfl) hw
      · have hw := hw.2 q_
        refine lv_iconst (v := 1) hx hb dX7_hasEnd_36 (by decide) ?_
        exact W.zret (v := 1) (ty := .boolean) hx hb hr rfl (fun t ht hW => ⟨⟨_, σ_5, rfl, hw, by rw [ht]; exact hP, va_K.moved hW.alike hK, hD⟩, hS.F ht⟩) hS.2.2 dX7_hasEnd_37 hlk
theorem kL_X7_hasEnd_2 {p : Program} {l : Launch} {e : Env} {s : State} {m : MethodId} {args : Array Value} {below : List Frame} {meth : Method} {c : Code} {A : Nat → Prop} {E : EnvT} {aK aV : Nat → Nat} {aO : Nat} {D : va_G} {cA : Nat → ClassId} {aE ad : Nat → Nat} (C : xCx p s m args meth c cX7_hasEnd 4 (some .boolean) wgX7_hasEnd RX7 E D cA A) (vM : eXs aK aV aE aO E) {post : Int32 → XS → Prop} :
    ∀ (n : Nat) (x1 : Int64) (x3 : Int32) (σ : XS) (H : Heap) (locs : List Loc) (ls : Array Slot), xG D cA aE ad A s σ H locs → lv_has ls 4 [(0, .ref (ad 22)), (1, .long x1), (3, .int x3)] → wL_X7_hasEnd_2 post n x1 x3 σ → W p l e rm_X7_hasEnd s m args below meth c H locs 0 0 (MQ below (va_Qi post (xAt D cA aE ad A) A) args s 0 0 A) (F0 m 2 ls []) := by
  intro n
  induction n with
  | zero => intro x1 x3 σ H locs ls hG hl hw; exact hw.elim
  | succ n ih => exact kB_X7_hasEnd_2 C vM ih
set_option maxHeartbeats 4000000 in
set_option maxRecDepth 100000 in
theorem k_X7_hasEnd {p : Program} {l : Launch} {e : Env} {s : State} {m : MethodId} {args : Array Value} {below : List Frame} {meth : Method} {c : Code} {A : Nat → Prop} {E : EnvT} {aK aV : Nat → Nat} {aO : Nat} {D : va_G} {cA : Nat → ClassId} {aE ad : Nat → Nat} (C : xCx p s m args meth c cX7_hasEnd 4 (some .boolean) wgX7_hasEnd RX7 E D cA A) (vM : eXs aK aV aE aO E) {post : Int32 → XS → Prop} :
    ∀ (x1 : Int64) (σ : XS) (H : Heap) (locs : List Loc) (ls : Array Slot), xG D cA aE ad A s σ H locs → lv_has ls 4 [(0, .ref (ad 22)), (1, .long x1)] → wp_X7_hasEnd post x1 σ → W p l e rm_X7_hasEnd s m args below meth c H locs 0 0 (MQ below (va_Qi post (xAt D cA aE ad A) A) args s 0 0 A) (F0 m 0 ls []) := by
  obtain ⟨hx, hb, hml, hr, hown, hts, hK, hA, hlk, hE, vE⟩ := id C
  intro x1 σ H locs ls hG hl hw
  obtain ⟨hP, hD, hS⟩ := id hG
  refine lv_iconst (v := 0) hx hb dX7_hasEnd_0 (by decide) ?_
  refine lv_istore_n (lv' := [(3, .int 0), (0, .ref (ad 22)), (1, .long x1)]) hx hb dX7_hasEnd_1 rfl hl (by decide) rfl (fun ls hl => ?_)
  obtain ⟨n_, hw⟩ := hw
  exact kL_X7_hasEnd_2 C vM n_ x1 0 σ _ _ _ hG (lv_sub hl [1, 2, 0] rfl) hw
set_option maxHeartbeats 4000000 in
set_option maxRecDepth 100000 in
theorem met_X7_hasEnd {l : Launch} {E : EnvT} (vE : EnvOk E) {D : va_G} {cA : Nat → ClassId} {aE ad : Nat → Nat} {σ : XS} {aK aV : Nat → Nat} {aO : Nat} (vM : eXs aK aV aE aO E) {sz : Nat} {x1 : Int64} {post : Int32 → XS → Prop} (hw : wp_X7_hasEnd post x1 σ) : Met l yX7_hasEnd wgX7_hasEnd rm_X7_hasEnd (va_Pc [.ref (ad 22), .long x1] (xPre E D cA aE ad sz σ)) (va_Qi post (xAt D cA aE ad (va_A (xW cA aE ad σ) sz)) (va_A (xW cA aE ad σ) sz)) 0 0 (va_A (xW cA aE ad σ) sz) := by
  refine Met.ofW (cc := cX7_hasEnd) (maxL := 4) (ret := (some .boolean)) (by decide +kernel) rfl ?_
  intro p e s m args below meth c s₁ B hml hv
  obtain ⟨rfl, hsz, hP, hK, hD0, hE⟩ := hv
  subst hsz
  have hD := hD0.self (sz := s.heap.size)
  generalize hAe : va_A (xW cA aE ad σ) s.heap.size = A at hD hE ⊢
  have hA : ∀ q : Nat, s.heap.size ≤ q → A q := fun q h => by rw [← hAe]; exact Or.inr h
  have hS : va_S A s.heap s.heap [] := va_S.rf
  have C : xCx p s m _ meth c cX7_hasEnd 4 (some .boolean) wgX7_hasEnd RX7 E D cA A := ⟨B.exec, B.bytes, hml, B.returns, findClass_of_methodNamed B.named, atoms_spec (ws := wgX7_hasEnd) B.pre, hK, hA, B.notSynchronized, hE, vE⟩
  have hG : xG D cA aE ad A s σ s.heap [] := ⟨hP, hD, hS⟩
  have hl := lv_entry ([.ref (ad 22), .long x1]) (n := 4) (Nat.le_of_ble_eq_true rfl)
  rw [lg_entry_eq]
  generalize (lg_sl ([.ref (ad 22), .long x1]) ++ List.replicate (4 - (lg_sl ([.ref (ad 22), .long x1])).length) Slot.unset).toArray = ls at hl ⊢
  have hl : lv_has ls 4 [(0, .ref (ad 22)), (1, .long x1)] := hl
  exact k_X7_hasEnd C vM x1 σ _ _ _ hG hl hw
