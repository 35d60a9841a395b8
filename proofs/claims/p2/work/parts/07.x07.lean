/-! ===== X0_reads kernel ===== -/
def rm_X0_reads : Room := { frames := 5, cells := 0, slots := 0, locals := 111 }
abbrev wgX0_reads : List Cond := .code yX0_reads cX0_reads 2 (some .int) :: TB
def wB_X0_reads_36 (post : Int32 → XS → Prop) (t0 : Int32) (σ : XS) : Prop :=
  post t0 σ
def wB_X0_reads_35 (post : Int32 → XS → Prop) (σ : XS) : Prop :=
  wB_X0_reads_36 post 0 σ
def wp_X0_reads (post : Int32 → XS → Prop) (x1 : Int32) (σ : XS) : Prop :=
  wp_X0_has (fun r_1 σ_2 => (r_1 = 0 → (wB_X0_reads_35 post σ_2)) ∧ (¬ r_1 = 0 → (vp_in x1 64 ∧ ((xQ σ_2 1 x1.toNatClampNeg = none → (wB_X0_reads_35 post σ_2)) ∧ (∀ e_4 : Nat, xQ σ_2 1 x1.toNatClampNeg = some e_4 → (vp_in x1 64 ∧ ((xQ σ_2 1 x1.toNatClampNeg = none → (vp_in x1 64 ∧ (False))) ∧ (∀ e_7 : Nat, xQ σ_2 1 x1.toNatClampNeg = some e_7 → (vp_in x1 64 ∧ (e_7 < 53 ∧ wp_X2_reads (fun r_11  => wB_X0_reads_36 post r_11 σ_2) e_7 (xL σ_2 6 x1.toNatClampNeg))))))))))) x1 σ
set_option maxHeartbeats 4000000 in
set_option maxRecDepth 100000 in
theorem kB_X0_reads_36 {p : Program} {l : Launch} {e : Env} {s : State} {m : MethodId} {args : Array Value} {below : List Frame} {meth : Method} {c : Code} {A : Nat → Prop} {E : EnvT} {aK aV : Nat → Nat} {aO : Nat} {D : va_G} {cA : Nat → ClassId} {aE ad : Nat → Nat} (C : xCx p s m args meth c cX0_reads 2 (some .int) wgX0_reads RX0 E D cA A) (vM : eXs aK aV aE aO E) {post : Int32 → XS → Prop} :
    ∀ (t0 : Int32) (σ : XS) (H : Heap) (locs : List Loc) (ls : Array Slot), xG D cA aE ad A s σ H locs → lv_has ls 2 [] → wB_X0_reads_36 post t0 σ → W p l e rm_X0_reads s m args below meth c H locs 0 0 (MQ below (va_Qi post (xAt D cA aE ad A) A) args s 0 0 A) (F0 m 36 ls [.int t0]) := by
  obtain ⟨hx, hb, hml, hr, hown, hts, hK, hA, hlk, hE, vE⟩ := id C
  intro t0 σ H locs ls hG hl hw
  obtain ⟨hP, hD, hS⟩ := id hG
  exact W.iret (v := t0) hx hb hr (fun t ht hW => ⟨⟨_, σ, rfl, hw, by rw [ht]; exact hP, va_K.moved hW.alike hK, hD⟩, hS.F ht⟩) hS.2.2 dX0_reads_36 hlk
set_option maxHeartbeats 4000000 in
set_option maxRecDepth 100000 in
theorem kB_X0_reads_35 {p : Program} {l : Launch} {e : Env} {s : State} {m : MethodId} {args : Array Value} {below : List Frame} {meth : Method} {c : Code} {A : Nat → Prop} {E : EnvT} {aK aV : Nat → Nat} {aO : Nat} {D : va_G} {cA : Nat → ClassId} {aE ad : Nat → Nat} (C : xCx p s m args meth c cX0_reads 2 (some .int) wgX0_reads RX0 E D cA A) (vM : eXs aK aV aE aO E) {post : Int32 → XS → Prop} :
    ∀ (σ : XS) (H : Heap) (locs : List Loc) (ls : Array Slot), xG D cA aE ad A s σ H locs → lv_has ls 2 [] → wB_X0_reads_35 post σ → W p l e rm_X0_reads s m args below meth c H locs 0 0 (MQ below (va_Qi post (xAt D cA aE ad A) A) args s 0 0 A) (F0 m 35 ls []) := by
  obtain ⟨hx, hb, hml, hr, hown, hts, hK, hA, hlk, hE, vE⟩ := id C
  intro σ H locs ls hG hl hw
  obtain ⟨hP, hD, hS⟩ := id hG
  refine lv_iconst (v := 0) hx hb dX0_reads_35 (by decide) ?_
  exact kB_X0_reads_36 C vM 0 σ _ _ _ hG (lv_sub hl [] rfl) hw
set_option maxHeartbeats 4000000 in
set_option maxRecDepth 100000 in
theorem k_X0_reads {p : Program} {l : Launch} {e : Env} {s : State} {m : MethodId} {args : Array Value} {below : List Frame} {meth : Method} {c : Code} {A : Nat → Prop} {E : EnvT} {aK aV : Nat → Nat} {aO : Nat} {D : va_G} {cA : Nat → ClassId} {aE ad : Nat → Nat} (C : xCx p s m args meth c cX0_reads 2 (some .int) wgX0_reads RX0 E D cA A) (vM : eXs aK aV aE aO E) {post : Int32 → XS → Prop} :
    ∀ (x1 : Int32) (σ : XS) (H : Heap) (locs : List Loc) (ls : Array Slot), xG D cA aE ad A s σ H locs → lv_has ls 2 [(0, .ref (ad 17)), (1, .int x1)] → wp_X0_reads post x1 σ → W p l e rm_X0_reads s m args below meth c H locs 0 0 (MQ below (va_Qi post (xAt D cA aE ad A) A) args s 0 0 A) (F0 m 0 ls []) := by
  obtain ⟨hx, hb, hml, hr, hown, hts, hK, hA, hlk, hE, vE⟩ := id C
  intro x1 σ H locs ls hG hl hw
  obtain ⟨hP, hD, hS⟩ := id hG
  refine lv_aload_n hx hb dX0_reads_0 rfl (lv_at hl 0 rfl) ?_
  refine lv_iload_n hx hb dX0_reads_1 rfl (lv_at hl 1 rfl) ?_
  refine xV_i (As := [.int x1]) (rest := []) C (met_X0_has vE vM hw) (va_recv hK hP (ci := 2) (q0 := 17) rfl rfl) (cwV 1 hts (TB_G (TB_4 tw_4_8 tw_2_113 tw_2_114 tw_1_6) tw_2_115) rfl rfl rfl (by decide +kernel) ⟨by decide, by decide⟩) hP hD hS rfl hl.1 rfl (Nat.le_of_ble_eq_true rfl) dX0_reads_2 ⟨by decide, by decide⟩ (fun r_1 σ_2 H locs hw hP hD hS => ?_)
  have hG : xG D cA aE ad A s σ_2 H locs := ⟨hP, hD, hS⟩
  refine lv_if_eq (tgt := 35) hx hb dX0_reads_5 (by decide) (fun q_ => ?_) (fun q_ => ?_)
  · have hw := hw.1 q_
    exact kB_X0_reads_35 C vM  σ_2 _ _ _ hG (lv_sub hl [] rfl) hw
  · have hw := hw.2 q_
    refine lv_aload_n hx hb dX0_reads_8 rfl (lv_at hl 0 rfl) ?_
    refine va_get (D := D) (ci := 2) (v := .ref (ad 19)) (C := RX0) (T := TX0) (N := 3) hx hb hts (in_tb inX0) hown hK hP 17 rfl rfl 1 (by decide) (hts _ (List.mem_cons_of_mem _ tw_1_152)) (fun _ h9 => h9) rfl dX0_reads_9 ?_
    refine lv_iload_n hx hb dX0_reads_12 rfl (lv_at hl 1 rfl) ?_
    obtain ⟨h_3, hw⟩ := hw
    refine va_aldq hx hb hK hP 19 3 rfl rfl h_3 dX0_reads_13 ?_
    rcases q_5 : xQ σ_2 1 x1.toNatClampNeg with _ | e_4
    · have hw := hw.1 q_5
      refine q_none rfl ?_
      refine lv_ifnullN (tgt := 35) hx hb dX0_reads_14 (by decide) ?_
      exact kB_X0_reads_35 C vM  σ_2 _ _ _ hG (lv_sub hl [] rfl) hw
    · have hw := hw.2 e_4 q_5
      refine q_some rfl ?_
      refine lv_ifnull hx hb dX0_reads_14 ?_
      refine lv_aload_n hx hb dX0_reads_17 rfl (lv_at hl 0 rfl) ?_
      refine va_get (D := D) (ci := 2) (v := .ref (ad 19)) (C := RX0) (T := TX0) (N := 3) hx hb hts (in_tb inX0) hown hK hP 17 rfl rfl 1 (by decide) (hts _ (List.mem_cons_of_mem _ tw_1_152)) (fun _ h9 => h9) rfl dX0_reads_18 ?_
      refine lv_iload_n hx hb dX0_reads_21 rfl (lv_at hl 1 rfl) ?_
      obtain ⟨h_6, hw⟩ := hw
      refine va_aldq hx hb hK hP 19 3 rfl rfl h_6 dX0_reads_22 ?_
      rcases q_8 : xQ σ_2 1 x1.toNatClampNeg with _ | e_7
      · have hw := hw.1 q_8
        refine q_none rfl ?_
        refine lv_aload_n hx hb dX0_reads_23 rfl (lv_at hl 0 rfl) ?_
        refine va_get (D := D) (ci := 2) (v := .ref (ad 18)) (C := RX0) (T := TX0) (N := 3) hx hb hts (in_tb inX0) hown hK hP 17 rfl rfl 0 (by decide) (hts _ (List.mem_cons_of_mem _ tw_1_149)) (fun _ h9 => h9) rfl dX0_reads_24 ?_
        refine lv_iload_n hx hb dX0_reads_27 rfl (lv_at hl 1 rfl) ?_
        obtain ⟨h_9, hw⟩ := hw
        refine va_lald hx hb hK hP 18 1 rfl rfl h_9 dX0_reads_28 ?_
        exact hw.elim
      · have hw := hw.2 e_7 q_8
        refine q_some rfl ?_
        refine lv_aload_n hx hb dX0_reads_23 rfl (lv_at hl 0 rfl) ?_
        refine va_get (D := D) (ci := 2) (v := .ref (ad 18)) (C := RX0) (T := TX0) (N := 3) hx hb hts (in_tb inX0) hown hK hP 17 rfl rfl 0 (by decide) (hts _ (List.mem_cons_of_mem _ tw_1_149)) (fun _ h9 => h9) rfl dX0_reads_24 ?_
        refine lv_iload_n hx hb dX0_reads_27 rfl (lv_at hl 1 rfl) ?_
        obtain ⟨h_10, hw⟩ := hw
        refine va_lald hx hb hK hP 18 1 rfl rfl h_10 dX0_reads_28 ?_
        obtain ⟨h_13, hw⟩ := hw
        refine xO_i (As := [.long (xL σ_2 6 x1.toNatClampNeg)]) (rest := []) C (met_X2_reads vE vM hw) (va_Orecv (eX.o_obj (vM _ _ _ hE) h_13) hS) (cwV 1 hts (TB_G (TB_4 tw_4_31 tw_4_32 tw_4_33 tw_1_19) tw_4_34) rfl rfl rfl (by decide +kernel) ⟨by decide, by decide⟩) hP hD hS rfl hl.1 rfl (Nat.le_of_ble_eq_true rfl) dX0_reads_29 ⟨by decide, by decide⟩ (fun r_11 H locs hw hP hS => ?_)
        have hG : xG D cA aE ad A s σ_2 H locs := ⟨hP, hD, hS⟩
        refine lv_goto (tgt := 36) hx hb dX0_reads_32 (by decide) ?_
        exact kB_X0_reads_36 C vM r_11 σ_2 _ _ _ hG (lv_sub hl [] rfl) hw
set_option maxHeartbeats 4000000 in
set_option maxRecDepth 100000 in
theorem met_X0_reads {l : Launch} {E : EnvT} (vE : EnvOk E) {D : va_G} {cA : Nat → ClassId} {aE ad : Nat → Nat} {σ : XS} {aK aV : Nat → Nat} {aO : Nat} (vM : eXs aK aV aE aO E) {sz : Nat} {x1 : Int32} {post : Int32 → XS → Prop} (hw : wp_X0_reads post x1 σ) : Met l yX0_reads wgX0_reads rm_X0_reads (va_Pc [.ref (ad 17), .int x1] (xPre E D cA aE ad sz σ)) (va_Qi post (xAt D cA aE ad (va_A (xW cA aE ad σ) sz)) (va_A (xW cA aE ad σ) sz)) 0 0 (va_A (xW cA aE ad σ) sz) := by
  refine Met.ofW (cc := cX0_reads) (maxL := 2) (ret := (some .int)) (by decide +kernel) rfl ?_
  intro p e s m args below meth c s₁ B hml hv
  obtain ⟨rfl, hsz, hP, hK, hD0, hE⟩ := hv
  subst hsz
  have hD := hD0.self (sz := s.heap.size)
  generalize hAe : va_A (xW cA aE ad σ) s.heap.size = A at hD hE ⊢
  have hA : ∀ q : Nat, s.heap.size ≤ q → A q := fun q h => by rw [← hAe]; exact Or.inr h
  have hS : va_S A s.heap s.heap [] := va_S.rf
  have C : xCx p s m _ meth c cX0_reads 2 (some .int) wgX0_reads RX0 E D cA A := ⟨B.exec, B.bytes, hml, B.returns, findClass_of_methodNamed B.named, atoms_spec (ws := wgX0_reads) B.pre, hK, hA, B.notSynchronized, hE, vE⟩
  have hG : xG D cA aE ad A s σ s.heap [] := ⟨hP, hD, hS⟩
  have hl := lv_entry ([.ref (ad 17), .int x1]) (n := 2) (Nat.le_of_ble_eq_true rfl)
  rw [lg_entry_eq]
  generalize (lg_sl ([.ref (ad 17), .int x1]) ++ List.replicate (2 - (lg_sl ([.ref (ad 17), .int x1])).length) Slot.unset).toArray = ls at hl ⊢
  have hl : lv_has ls 2 [(0, .ref (ad 17)), (1, .int x1)] := hl
  exact k_X0_reads C vM x1 σ _ _ _ hG hl hw
/-! ===== X0_overwrites kernel ===== -/
def rm_X0_overwrites : Room := { frames := 5, cells := 0, slots := 0, locals := 113 }
abbrev wgX0_overwrites : List Cond := .code yX0_overwrites cX0_overwrites 2 (some .int) :: TB
def wB_X0_overwrites_48 (post : Int32 → XS → Prop) (t0 : Int32) (σ : XS) : Prop :=
  post t0 σ
def wB_X0_overwrites_47 (post : Int32 → XS → Prop) (σ : XS) : Prop :=
  wB_X0_overwrites_48 post 0 σ
def wp_X0_overwrites (post : Int32 → XS → Prop) (x1 : Int32) (σ : XS) : Prop :=
  wp_X0_has (fun r_1 σ_2 => (r_1 = 0 → (wB_X0_overwrites_47 post σ_2)) ∧ (¬ r_1 = 0 → (vp_in x1 64 ∧ ((xQ σ_2 1 x1.toNatClampNeg = none → (wB_X0_overwrites_47 post σ_2)) ∧ (∀ e_4 : Nat, xQ σ_2 1 x1.toNatClampNeg = some e_4 → (vp_in x1 64 ∧ (wp_X2_isGuarded (fun r_7  => (r_7 = 0 → (vp_in x1 64 ∧ ((xQ σ_2 1 x1.toNatClampNeg = none → (vp_in x1 64 ∧ (False))) ∧ (∀ e_10 : Nat, xQ σ_2 1 x1.toNatClampNeg = some e_10 → (vp_in x1 64 ∧ (e_10 < 53 ∧ wp_X2_writes (fun r_14  => wB_X0_overwrites_48 post r_14 σ_2) e_10 (xL σ_2 6 x1.toNatClampNeg))))))) ∧ (¬ r_7 = 0 → (wB_X0_overwrites_47 post σ_2))) (xL σ_2 6 x1.toNatClampNeg)))))))) x1 σ
set_option maxHeartbeats 4000000 in
set_option maxRecDepth 100000 in
theorem kB_X0_overwrites_48 {p : Program} {l : Launch} {e : Env} {s : State} {m : MethodId} {args : Array Value} {below : List Frame} {meth : Method} {c : Code} {A : Nat → Prop} {E : EnvT} {aK aV : Nat → Nat} {aO : Nat} {D : va_G} {cA : Nat → ClassId} {aE ad : Nat → Nat} (C : xCx p s m args meth c cX0_overwrites 2 (some .int) wgX0_overwrites RX0 E D cA A) (vM : eXs aK aV aE aO E) {post : Int32 → XS → Prop} :
    ∀ (t0 : Int32) (σ : XS) (H : Heap) (locs : List Loc) (ls : Array Slot), xG D cA aE ad A s σ H locs → lv_has ls 2 [] → wB_X0_overwrites_48 post t0 σ → W p l e rm_X0_overwrites s m args below meth c H locs 0 0 (MQ below (va_Qi post (xAt D cA aE ad A) A) args s 0 0 A) (F0 m 48 ls [.int t0]) := by
  obtain ⟨hx, hb, hml, hr, hown, hts, hK, hA, hlk, hE, vE⟩ := id C
  intro t0 σ H locs ls hG hl hw
  obtain ⟨hP, hD, hS⟩ := id hG
  exact W.iret (v := t0) hx hb hr (fun t ht hW => ⟨⟨_, σ, rfl, hw, by rw [ht]; exact hP, va_K.moved hW.alike hK, hD⟩, hS.F ht⟩) hS.2.2 dX0_overwrites_48 hlk
set_option maxHeartbeats 4000000 in
set_option maxRecDepth 100000 in
theorem kB_X0_overwrites_47 {p : Program} {l : Launch} {e : Env} {s : State} {m : MethodId} {args : Array Value} {below : List Frame} {meth : Method} {c : Code} {A : Nat → Prop} {E : EnvT} {aK aV : Nat → Nat} {aO : Nat} {D : va_G} {cA : Nat → ClassId} {aE ad : Nat → Nat} (C : xCx p s m args meth c cX0_overwrites 2 (some .int) wgX0_overwrites RX0 E D cA A) (vM : eXs aK aV aE aO E) {post : Int32 → XS → Prop} :
    ∀ (σ : XS) (H : Heap) (locs : List Loc) (ls : Array Slot), xG D cA aE ad A s σ H locs → lv_has ls 2 [] → wB_X0_overwrites_47 post σ → W p l e rm_X0_overwrites s m args below meth c H locs 0 0 (MQ below (va_Qi post (xAt D cA aE ad A) A) args s 0 0 A) (F0 m 47 ls []) := by
  obtain ⟨hx, hb, hml, hr, hown, hts, hK, hA, hlk, hE, vE⟩ := id C
  intro σ H locs ls hG hl hw
  obtain ⟨hP, hD, hS⟩ := id hG
  refine lv_iconst (v := 0) hx hb dX0_overwrites_47 (by decide) ?_
  exact kB_X0_overwrites_48 C vM 0 σ _ _ _ hG (lv_sub hl [] rfl) hw
set_option maxHeartbeats 4000000 in
set_option maxRecDepth 100000 in
theorem k_X0_overwrites {p : Program} {l : Launch} {e : Env} {s : State} {m : MethodId} {args : Array Value} {below : List Frame} {meth : Method} {c : Code} {A : Nat → Prop} {E : EnvT} {aK aV : Nat → Nat} {aO : Nat} {D : va_G} {cA : Nat → ClassId} {aE ad : Nat → Nat} (C : xCx p s m args meth c cX0_overwrites 2 (some .int) wgX0_overwrites RX0 E D cA A) (vM : eXs aK aV aE aO E) {post : Int32 → XS → Prop} :
    ∀ (x1 : Int32) (σ : XS) (H : Heap) (locs : List Loc) (ls : Array Slot), xG D cA aE ad A s σ H locs → lv_has ls 2 [(0, .ref (ad 17)), (1, .int x1)] → wp_X0_overwrites post x1 σ → W p l e rm_X0_overwrites s m args below meth c H locs 0 0 (MQ below (va_Qi post (xAt D cA aE ad A) A) args s 0 0 A) (F0 m 0 ls []) := by
  obtain ⟨hx, hb, hml, hr, hown, hts, hK, hA, hlk, hE, vE⟩ := id C
  intro x1 σ H locs ls hG hl hw
  obtain ⟨hP, hD, hS⟩ := id hG
  refine lv_aload_n hx hb dX0_overwrites_0 rfl (lv_at hl 0 rfl) ?_
  refine lv_iload_n hx hb dX0_overwrites_1 rfl (lv_at hl 1 rfl) ?_
  refine xV_i (As := [.int x1]) (rest := []) C (met_X0_has vE vM hw) (va_recv hK hP (ci := 2) (q0 := 17) rfl rfl) (cwV 1 hts (TB_G (TB_4 tw_4_8 tw_2_113 tw_2_114 tw_1_6) tw_2_115) rfl rfl rfl (by decide +kernel) ⟨by decide, by decide⟩) hP hD hS rfl hl.1 rfl (Nat.le_of_ble_eq_true rfl) dX0_overwrites_2 ⟨by decide, by decide⟩ (fun r_1 σ_2 H locs hw hP hD hS => ?_)
  have hG : xG D cA aE ad A s σ_2 H locs := ⟨hP, hD, hS⟩
  refine lv_if_eq (tgt := 47) hx hb dX0_overwrites_5 (by decide) (fun q_ => ?_) (fun q_ => ?_)
  · have hw := hw.1 q_
    exact kB_X0_overwrites_47 C vM  σ_2 _ _ _ hG (lv_sub hl [] rfl) hw
  · have hw := hw.2 q_
    refine lv_aload_n hx hb dX0_overwrites_8 rfl (lv_at hl 0 rfl) ?_
    refine va_get (D := D) (ci := 2) (v := .ref (ad 19)) (C := RX0) (T := TX0) (N := 3) hx hb hts (in_tb inX0) hown hK hP 17 rfl rfl 1 (by decide) (hts _ (List.mem_cons_of_mem _ tw_1_152)) (fun _ h9 => h9) rfl dX0_overwrites_9 ?_
    refine lv_iload_n hx hb dX0_overwrites_12 rfl (lv_at hl 1 rfl) ?_
    obtain ⟨h_3, hw⟩ := hw
    refine va_aldq hx hb hK hP 19 3 rfl rfl h_3 dX0_overwrites_13 ?_
    rcases q_5 : xQ σ_2 1 x1.toNatClampNeg with _ | e_4
    · have hw := hw.1 q_5
      refine q_none rfl ?_
      refine lv_ifnullN (tgt := 47) hx hb dX0_overwrites_14 (by decide) ?_
      exact kB_X0_overwrites_47 C vM  σ_2 _ _ _ hG (lv_sub hl [] rfl) hw
    · have hw := hw.2 e_4 q_5
      refine q_some rfl ?_
      refine lv_ifnull hx hb dX0_overwrites_14 ?_
      refine lv_aload_n hx hb dX0_overwrites_17 rfl (lv_at hl 0 rfl) ?_
      refine va_get (D := D) (ci := 2) (v := .ref (ad 18)) (C := RX0) (T := TX0) (N := 3) hx hb hts (in_tb inX0) hown hK hP 17 rfl rfl 0 (by decide) (hts _ (List.mem_cons_of_mem _ tw_1_149)) (fun _ h9 => h9) rfl dX0_overwrites_18 ?_
      refine lv_iload_n hx hb dX0_overwrites_21 rfl (lv_at hl 1 rfl) ?_
      obtain ⟨h_6, hw⟩ := hw
      refine va_lald hx hb hK hP 18 1 rfl rfl h_6 dX0_overwrites_22 ?_
      refine xS_i (As := [.long (xL σ_2 6 x1.toNatClampNeg)]) (rest := []) C (met_X2_isGuarded vE vM hw) (va_cwS 1 hts (TB_G (TB_3 tw_4_44 tw_3_226 tw_1_19) tw_3_227) rfl rfl rfl (by decide +kernel) ⟨by decide, by decide⟩) hP hD hS rfl hl.1 rfl (Nat.le_of_ble_eq_true rfl) dX0_overwrites_23 ⟨by decide, by decide⟩ (fun r_7 H locs hw hP hS => ?_)
      have hG : xG D cA aE ad A s σ_2 H locs := ⟨hP, hD, hS⟩
      refine lv_if_ne (tgt := 47) hx hb dX0_overwrites_26 (by decide) (fun q_ => ?_) (fun q_ => ?_)
      · have hw := hw.2 q_
        exact kB_X0_overwrites_47 C vM  σ_2 _ _ _ hG (lv_sub hl [] rfl) hw
      · have hw := hw.1 q_
        refine lv_aload_n hx hb dX0_overwrites_29 rfl (lv_at hl 0 rfl) ?_
        refine va_get (D := D) (ci := 2) (v := .ref (ad 19)) (C := RX0) (T := TX0) (N := 3) hx hb hts (in_tb inX0) hown hK hP 17 rfl rfl 1 (by decide) (hts _ (List.mem_cons_of_mem _ tw_1_152)) (fun _ h9 => h9) rfl dX0_overwrites_30 ?_
        refine lv_iload_n hx hb dX0_overwrites_33 rfl (lv_at hl 1 rfl) ?_
        obtain ⟨h_9, hw⟩ := hw
        refine va_aldq hx hb hK hP 19 3 rfl rfl h_9 dX0_overwrites_34 ?_
        rcases q_11 : xQ σ_2 1 x1.toNatClampNeg with _ | e_10
        · have hw := hw.1 q_11
          refine q_none rfl ?_
          refine lv_aload_n hx hb dX0_overwrites_35 rfl (lv_at hl 0 rfl) ?_
          refine va_get (D := D) (ci := 2) (v := .ref (ad 18)) (C := RX0) (T := TX0) (N := 3) hx hb hts (in_tb inX0) hown hK hP 17 rfl rfl 0 (by decide) (hts _ (List.mem_cons_of_mem _ tw_1_149)) (fun _ h9 => h9) rfl dX0_overwrites_36 ?_
          refine lv_iload_n hx hb dX0_overwrites_39 rfl (lv_at hl 1 rfl) ?_
          obtain ⟨h_12, hw⟩ := hw
          refine va_lald hx hb hK hP 18 1 rfl rfl h_12 dX0_overwrites_40 ?_
          exact hw.elim
        · have hw := hw.2 e_10 q_11
          refine q_some rfl ?_
          refine lv_aload_n hx hb dX0_overwrites_35 rfl (lv_at hl 0 rfl) ?_
          refine va_get (D := D) (ci := 2) (v := .ref (ad 18)) (C := RX0) (T := TX0) (N := 3) hx hb hts (in_tb inX0) hown hK hP 17 rfl rfl 0 (by decide) (hts _ (List.mem_cons_of_mem _ tw_1_149)) (fun _ h9 => h9) rfl dX0_overwrites_36 ?_
          refine lv_iload_n hx hb dX0_overwrites_39 rfl (lv_at hl 1 rfl) ?_
          obtain ⟨h_13, hw⟩ := hw
          refine va_lald hx hb hK hP 18 1 rfl rfl h_13 dX0_overwrites_40 ?_
          obtain ⟨h_16, hw⟩ := hw
          refine xO_i (As := [.long (xL σ_2 6 x1.toNatClampNeg)]) (rest := []) C (met_X2_writes vE vM hw) (va_Orecv (eX.o_obj (vM _ _ _ hE) h_16) hS) (cwV 1 hts (TB_G (TB_4 tw_4_45 tw_4_46 tw_4_47 tw_1_19) tw_4_48) rfl rfl rfl (by decide +kernel) ⟨by decide, by decide⟩) hP hD hS rfl hl.1 rfl (Nat.le_of_ble_eq_true rfl) dX0_overwrites_41 ⟨by decide, by decide⟩ (fun r_14 H locs hw hP hS => ?_)
          have hG : xG D cA aE ad A s σ_2 H locs := ⟨hP, hD, hS⟩
          refine lv_goto (tgt := 48) hx hb dX0_overwrites_44 (by decide) ?_
          exact kB_X0_overwrites_48 C vM r_14 σ_2 _ _ _ hG (lv_sub hl [] rfl) hw
set_option maxHeartbeats 4000000 in
set_option maxRecDepth 100000 in
theorem met_X0_overwrites {l : Launch} {E : EnvT} (vE : EnvOk E) {D : va_G} {cA : Nat → ClassId} {aE ad : Nat → Nat} {σ : XS} {aK aV : Nat → Nat} {aO : Nat} (vM : eXs aK aV aE aO E) {sz : Nat} {x1 : Int32} {post : Int32 → XS → Prop} (hw : wp_X0_overwrites post x1 σ) : Met l yX0_overwrites wgX0_overwrites rm_X0_overwrites (va_Pc [.ref (ad 17), .int x1] (xPre E D cA aE ad sz σ)) (va_Qi post (xAt D cA aE ad (va_A (xW cA aE ad σ) sz)) (va_A (xW cA aE ad σ) sz)) 0 0 (va_A (xW cA aE ad σ) sz) := by
  refine Met.ofW (cc := cX0_overwrites) (maxL := 2) (ret := (some .int)) (by decide +kernel) rfl ?_
  intro p e s m args below meth c s₁ B hml hv
  obtain ⟨rfl, hsz, hP, hK, hD0, hE⟩ := hv
  subst hsz
  have hD := hD0.self (sz := s.heap.size)
  generalize hAe : va_A (xW cA aE ad σ) s.heap.size = A at hD hE ⊢
  have hA : ∀ q : Nat, s.heap.size ≤ q → A q := fun q h => by rw [← hAe]; exact Or.inr h
  have hS : va_S A s.heap s.heap [] := va_S.rf
  have C : xCx p s m _ meth c cX0_overwrites 2 (some .int) wgX0_overwrites RX0 E D cA A := ⟨B.exec, B.bytes, hml, B.returns, findClass_of_methodNamed B.named, atoms_spec (ws := wgX0_overwrites) B.pre, hK, hA, B.notSynchronized, hE, vE⟩
  have hG : xG D cA aE ad A s σ s.heap [] := ⟨hP, hD, hS⟩
  have hl := lv_entry ([.ref (ad 17), .int x1]) (n := 2) (Nat.le_of_ble_eq_true rfl)
  rw [lg_entry_eq]
  generalize (lg_sl ([.ref (ad 17), .int x1]) ++ List.replicate (2 - (lg_sl ([.ref (ad 17), .int x1])).length) Slot.unset).toArray = ls at hl ⊢
  have hl : lv_has ls 2 [(0, .ref (ad 17)), (1, .int x1)] := hl
  exact k_X0_overwrites C vM x1 σ _ _ _ hG hl hw
/-! ===== X3_noteFault parser ===== -/
def rm_X3_noteFault : Room := { frames := 0, cells := 0, slots := 0, locals := 0 }
abbrev wgX3_noteFault : List Cond := .code yX3_noteFault cX3_noteFault 3 none :: TB
def wB_X3_noteFault_25 (post : XS → Prop) (σ : XS) : Prop :=
  post σ
def wB_X3_noteFault_15 (post : XS → Prop) (x1 : Int32) (x2 : Int32) (σ : XS) : Prop :=
  wB_X3_noteFault_25 post (yI (yI σ 2 x1) 3 x2)
def wp_X3_noteFault (post : XS → Prop) (x1 : Int32) (x2 : Int32) (σ : XS) : Prop :=
  ((xI σ 2) = 0 → (wB_X3_noteFault_15 post x1 x2 σ)) ∧ (¬ (xI σ 2) = 0 → (((xI σ 3) ≤ x2 → (wB_X3_noteFault_25 post σ)) ∧ (¬ (xI σ 3) ≤ x2 → (wB_X3_noteFault_15 post x1 x2 σ))))
set_option maxHeartbeats 4000000 in
set_option maxRecDepth 100000 in
theorem kB_X3_noteFault_25 {p : Program} {l : Launch} {e : Env} {s : State} {m : MethodId} {args : Array Value} {below : List Frame} {meth : Method} {c : Code} {A : Nat → Prop} {E : EnvT} {aK aV : Nat → Nat} {aO : Nat} {D : va_G} {cA : Nat → ClassId} {aE ad : Nat → Nat} (C : xCx p s m args meth c cX3_noteFault 3 none wgX3_noteFault RX3 E D cA A) (vM : eXs aK aV aE aO E) {post : XS → Prop} :
    ∀ (σ : XS) (H : Heap) (locs : List Loc) (ls : Array Slot), xG D cA aE ad A s σ H locs → lv_has ls 3 [] → wB_X3_noteFault_25 post σ → W p l e rm_X3_noteFault s m args below meth c H locs 0 0 (MQ below (va_Qv post (xAt D cA aE ad A) A) args s 0 0 A) (F0 m 25 ls []) := by
  obtain ⟨hx, hb, hml, hr, hown, hts, hK, hA, hlk, hE, vE⟩ := id C
  intro σ H locs ls hG hl hw
  obtain ⟨hP, hD, hS⟩ := id hG
  exact W.vret hx hb hr (fun t ht hW => ⟨⟨σ, rfl, hw, by rw [ht]; exact hP, va_K.moved hW.alike hK, hD⟩, hS.F ht⟩) hS.2.2 dX3_noteFault_25 hlk
set_option maxHeartbeats 4000000 in
set_option maxRecDepth 100000 in
theorem kB_X3_noteFault_15 {p : Program} {l : Launch} {e : Env} {s : State} {m : MethodId} {args : Array Value} {below : List Frame} {meth : Method} {c : Code} {A : Nat → Prop} {E : EnvT} {aK aV : Nat → Nat} {aO : Nat} {D : va_G} {cA : Nat → ClassId} {aE ad : Nat → Nat} (C : xCx p s m args meth c cX3_noteFault 3 none wgX3_noteFault RX3 E D cA A) (vM : eXs aK aV aE aO E) {post : XS → Prop} :
    ∀ (x1 : Int32) (x2 : Int32) (σ : XS) (H : Heap) (locs : List Loc) (ls : Array Slot), xG D cA aE ad A s σ H locs → lv_has ls 3 [(0, .ref (ad 3)), (1, .int x1), (2, .int x2)] → wB_X3_noteFault_15 post x1 x2 σ → W p l e rm_X3_noteFault s m args below meth c H locs 0 0 (MQ below (va_Qv post (xAt D cA aE ad A) A) args s 0 0 A) (F0 m 15 ls []) := by
  obtain ⟨hx, hb, hml, hr, hown, hts, hK, hA, hlk, hE, vE⟩ := id C
  intro x1 x2 σ H locs ls hG hl hw
  obtain ⟨hP, hD, hS⟩ := id hG
  refine lv_aload_n hx hb dX3_noteFault_15 rfl (lv_at hl 0 rfl) ?_
  refine lv_iload_n hx hb dX3_noteFault_16 rfl (lv_at hl 1 rfl) ?_
  refine va_put (D := D) (ci := 5) (v := .int x1) (ty := .int) (C := RX3) (T := TX3) (N := 8) hx hb hts (in_tb inX3) tyX3 tyX3_ok nmX3 hown hK hP hD hS 3 rfl rfl 6 (by decide) (hts _ (List.mem_cons_of_mem _ tw_1_119)) (fun _ h9 => h9) rfl (by decide +kernel) rfl rfl (Nat.le_of_ble_eq_true rfl) dX3_noteFault_17 (fun H locs hP hD hS => ?_)
  have hG : xG D cA aE ad A s (yI σ 2 x1) H locs := ⟨hP, hD, hS⟩
  obtain ⟨hP, hD, hS⟩ := id hG
  refine lv_aload_n hx hb dX3_noteFault_20 rfl (lv_at hl 0 rfl) ?_
  refine lv_iload_n hx hb dX3_noteFault_21 rfl (lv_at hl 2 rfl) ?_
  refine va_put (D := D) (ci := 5) (v := .int x2) (ty := .int) (C := RX3) (T := TX3) (N := 8) hx hb hts (in_tb inX3) tyX3 tyX3_ok nmX3 hown hK hP hD hS 3 rfl rfl 7 (by decide) (hts _ (List.mem_cons_of_mem _ tw_1_121)) (fun _ h9 => h9) rfl (by decide +kernel) rfl rfl (Nat.le_of_ble_eq_true rfl) dX3_noteFault_22 (fun H locs hP hD hS => ?_)
  have hG : xG D cA aE ad A s (yI (yI σ 2 x1) 3 x2) H locs := ⟨hP, hD, hS⟩
  obtain ⟨hP, hD, hS⟩ := id hG
  exact kB_X3_noteFault_25 C vM  (yI (yI σ 2 x1) 3 x2) _ _ _ hG (lv_sub hl [] rfl) hw
set_option maxHeartbeats 4000000 in
set_option maxRecDepth 100000 in
theorem k_X3_noteFault {p : Program} {l : Launch} {e : Env} {s : State} {m : MethodId} {args : Array Value} {below : List Frame} {meth : Method} {c : Code} {A : Nat → Prop} {E : EnvT} {aK aV : Nat → Nat} {aO : Nat} {D : va_G} {cA : Nat → ClassId} {aE ad : Nat → Nat} (C : xCx p s m args meth c cX3_noteFault 3 none wgX3_noteFault RX3 E D cA A) (vM : eXs aK aV aE aO E) {post : XS → Prop} :
    ∀ (x1 : Int32) (x2 : Int32) (σ : XS) (H : Heap) (locs : List Loc) (ls : Array Slot), xG D cA aE ad A s σ H locs → lv_has ls 3 [(0, .ref (ad 3)), (1, .int x1), (2, .int x2)] → wp_X3_noteFault post x1 x2 σ → W p l e rm_X3_noteFault s m args below meth c H locs 0 0 (MQ below (va_Qv post (xAt D cA aE ad A) A) args s 0 0 A) (F0 m 0 ls []) := by
  obtain ⟨hx, hb, hml, hr, hown, hts, hK, hA, hlk, hE, vE⟩ := id C
  intro x1 x2 σ H locs ls hG hl hw
  obtain ⟨hP, hD, hS⟩ := id hG
  refine lv_aload_n hx hb dX3_noteFault_0 rfl (lv_at hl 0 rfl) ?_
  refine va_get (D := D) (ci := 5) (v := .int (xI σ 2)) (C := RX3) (T := TX3) (N := 8) hx hb hts (in_tb inX3) hown hK hP 3 rfl rfl 6 (by decide) (hts _ (List.mem_cons_of_mem _ tw_1_119)) (fun _ h9 => h9) rfl dX3_noteFault_1 ?_
  refine lv_if_eq (tgt := 15) hx hb dX3_noteFault_4 (by decide) (fun q_ => ?_) (fun q_ => ?_)
  · have hw := hw.1 q_
    exact kB_X3_noteFault_15 C vM x1 x2 σ _ _ _ hG (lv_sub hl [0, 1, 2] rfl) hw
  · have hw := hw.2 q_
    refine lv_iload_n hx hb dX3_noteFault_7 rfl (lv_at hl 2 rfl) ?_
    refine lv_aload_n hx hb dX3_noteFault_8 rfl (lv_at hl 0 rfl) ?_
    refine va_get (D := D) (ci := 5) (v := .int (xI σ 3)) (C := RX3) (T := TX3) (N := 8) hx hb hts (in_tb inX3) hown hK hP 3 rfl rfl 7 (by decide) (hts _ (List.mem_cons_of_mem _ tw_1_121)) (fun _ h9 => h9) rfl dX3_noteFault_9 ?_
    refine lv_icmp_ge (tgt := 25) hx hb dX3_noteFault_12 (by decide) (fun q_ => ?_) (fun q_ => ?_)
    · have hw := hw.1 q_
      exact kB_X3_noteFault_25 C vM  σ _ _ _ hG (lv_sub hl [] rfl) hw
    · have hw := hw.2 q_
      exact kB_X3_noteFault_15 C vM x1 x2 σ _ _ _ hG (lv_sub hl [0, 1, 2] rfl) hw
set_option maxHeartbeats 4000000 in
set_option maxRecDepth 100000 in
theorem met_X3_noteFault {l : Launch} {E : EnvT} (vE : EnvOk E) {D : va_G} {cA : Nat → ClassId} {aE ad : Nat → Nat} {σ : XS} {aK aV : Nat → Nat} {aO : Nat} (vM : eXs aK aV aE aO E) {sz : Nat} {x1 : Int32} {x2 : Int32} {post : XS → Prop} (hw : wp_X3_noteFault post x1 x2 σ) : Met l yX3_noteFault wgX3_noteFault rm_X3_noteFault (va_Pc [.ref (ad 3), .int x1, .int x2] (xPre E D cA aE ad sz σ)) (va_Qv post (xAt D cA aE ad (va_A (xW cA aE ad σ) sz)) (va_A (xW cA aE ad σ) sz)) 0 0 (va_A (xW cA aE ad σ) sz) := by
  refine Met.ofW (cc := cX3_noteFault) (maxL := 3) (ret := none) (by decide +kernel) rfl ?_
  intro p e s m args below meth c s₁ B hml hv
  obtain ⟨rfl, hsz, hP, hK, hD0, hE⟩ := hv
  subst hsz
  have hD := hD0.self (sz := s.heap.size)
  generalize hAe : va_A (xW cA aE ad σ) s.heap.size = A at hD hE ⊢
  have hA : ∀ q : Nat, s.heap.size ≤ q → A q := fun q h => by rw [← hAe]; exact Or.inr h
  have hS : va_S A s.heap s.heap [] := va_S.rf
  have C : xCx p s m _ meth c cX3_noteFault 3 none wgX3_noteFault RX3 E D cA A := ⟨B.exec, B.bytes, hml, B.returns, findClass_of_methodNamed B.named, atoms_spec (ws := wgX3_noteFault) B.pre, hK, hA, B.notSynchronized, hE, vE⟩
  have hG : xG D cA aE ad A s σ s.heap [] := ⟨hP, hD, hS⟩
  have hl := lv_entry ([.ref (ad 3), .int x1, .int x2]) (n := 3) (Nat.le_of_ble_eq_true rfl)
  rw [lg_entry_eq]
  generalize (lg_sl ([.ref (ad 3), .int x1, .int x2]) ++ List.replicate (3 - (lg_sl ([.ref (ad 3), .int x1, .int x2])).length) Slot.unset).toArray = ls at hl ⊢
  have hl : lv_has ls 3 [(0, .ref (ad 3)), (1, .int x1), (2, .int x2)] := hl
  exact k_X3_noteFault C vM x1 x2 σ _ _ _ hG hl hw
/-! ===== X3_valueOfName parser ===== -/
def rm_X3_valueOfName : Room := { frames := 1, cells := 0, slots := 0, locals := 23 }
abbrev wgX3_valueOfName : List Cond := .code yX3_valueOfName cX3_valueOfName 2 (some .long) :: TB
def wp_X3_valueOfName (post : Int64 → XS → Prop) (σ : XS) : Prop :=
  wp_X6_value (fun r_1 σ_2 => wp_X1_find_told (fun r_3 σ_4 => (r_3 = (-1) → (wp_X6_place (fun r_6 σ_7 => wp_X3_noteFault (fun σ_9 => post 0 σ_9) 2 r_6 σ_7) σ_4)) ∧ (¬ r_3 = (-1) → (vp_in r_3 350 ∧ (post (xL σ_4 2 r_3.toNatClampNeg) σ_4)))) r_1 σ_2) σ
set_option maxHeartbeats 4000000 in
set_option maxRecDepth 100000 in
theorem k_X3_valueOfName {p : Program} {l : Launch} {e : Env} {s : State} {m : MethodId} {args : Array Value} {below : List Frame} {meth : Method} {c : Code} {A : Nat → Prop} {E : EnvT} {aK aV : Nat → Nat} {aO : Nat} {D : va_G} {cA : Nat → ClassId} {aE ad : Nat → Nat} (C : xCx p s m args meth c cX3_valueOfName 2 (some .long) wgX3_valueOfName RX3 E D cA A) (vM : eXs aK aV aE aO E) {post : Int64 → XS → Prop} :
    ∀ (σ : XS) (H : Heap) (locs : List Loc) (ls : Array Slot), xG D cA aE ad A s σ H locs → lv_has ls 2 [(0, .ref (ad 3))] → wp_X3_valueOfName post σ → W p l e rm_X3_valueOfName s m args below meth c H locs 0 0 (MQ below (va_Ql post (xAt D cA aE ad A) A) args s 0 0 A) (F0 m 0 ls []) := by
  obtain ⟨hx, hb, hml, hr, hown, hts, hK, hA, hlk, hE, vE⟩ := id C
  intro σ H locs ls hG hl hw
  obtain ⟨hP, hD, hS⟩ := id hG
  refine lv_aload_n hx hb dX3_valueOfName_0 rfl (lv_at hl 0 rfl) ?_
  refine va_get (D := D) (ci := 5) (v := .ref (ad 10)) (C := RX3) (T := TX3) (N := 8) hx hb hts (in_tb inX3) hown hK hP 3 rfl rfl 3 (by decide) (hts _ (List.mem_cons_of_mem _ tw_1_113)) (fun _ h9 => h9) rfl dX3_valueOfName_1 ?_
  refine lv_aload_n hx hb dX3_valueOfName_4 rfl (lv_at hl 0 rfl) ?_
  refine va_get (D := D) (ci := 5) (v := .ref (ad 4)) (C := RX3) (T := TX3) (N := 8) hx hb hts (in_tb inX3) hown hK hP 3 rfl rfl 0 (by decide) (hts _ (List.mem_cons_of_mem _ tw_1_110)) (fun _ h9 => h9) rfl dX3_valueOfName_5 ?_
  refine xV_l (As := []) (rest := [.ref (ad 10)]) C (met_X6_value vE vM hw) (va_recv hK hP (ci := 8) (q0 := 4) rfl rfl) (cwV 0 hts (TB_G (TB_4 tw_4_179 tw_4_180 tw_4_181 tw_1_5) tw_4_182) rfl rfl rfl (by decide +kernel) ⟨by decide, by decide⟩) hP hD hS rfl hl.1 rfl (Nat.le_of_ble_eq_true rfl) dX3_valueOfName_8 ⟨by decide, by decide⟩ (fun r_1 σ_2 H locs hw hP hD hS => ?_)
  have hG : xG D cA aE ad A s σ_2 H locs := ⟨hP, hD, hS⟩
  refine xV_i (As := [.long r_1]) (rest := []) C (met_X1_find_told vE vM hw) (va_recv hK hP (ci := 3) (q0 := 10) rfl rfl) (cwV 1 hts (TB_G (TB_4 tw_4_216 tw_4_217 tw_4_218 tw_1_4) tw_4_219) rfl rfl rfl (by decide +kernel) ⟨by decide, by decide⟩) hP hD hS rfl hl.1 rfl (Nat.le_of_ble_eq_true rfl) dX3_valueOfName_11 ⟨by decide, by decide⟩ (fun r_3 σ_4 H locs hw hP hD hS => ?_)
  have hG : xG D cA aE ad A s σ_4 H locs := ⟨hP, hD, hS⟩
  refine lv_istore_n (lv' := [(1, .int r_3), (0, .ref (ad 3))]) hx hb dX3_valueOfName_14 rfl hl (by decide) rfl (fun ls hl => ?_)
  refine lv_iload_n hx hb dX3_valueOfName_15 rfl (lv_at hl 0 rfl) ?_
  refine lv_iconst (v := (-1)) hx hb dX3_valueOfName_16 (by decide) ?_
  refine lv_icmp_ne (tgt := 34) hx hb dX3_valueOfName_17 (by decide) (fun q_ => ?_) (fun q_ => ?_)
  · have hw := hw.2 q_
    refine lv_aload_n hx hb dX3_valueOfName_34 rfl (lv_at hl 1 rfl) ?_
    refine va_get (D := D) (ci := 5) (v := .ref (ad 10)) (C := RX3) (T := TX3) (N := 8) hx hb hts (in_tb inX3) hown hK hP 3 rfl rfl 3 (by decide) (hts _ (List.mem_cons_of_mem _ tw_1_113)) (fun _ h9 => h9) rfl dX3_valueOfName_35 ?_
    refine va_get (D := D) (ci := 3) (v := .ref (ad 12)) (C := RX1) (T := TX1) (N := 3) hx hb hts (in_tb inX1) hown hK hP 10 rfl rfl 1 (by decide) (hts _ (List.mem_cons_of_mem _ tw_1_72)) (fun _ h9 => h9) rfl dX3_valueOfName_38 ?_
    refine lv_iload_n hx hb dX3_valueOfName_41 rfl (lv_at hl 0 rfl) ?_
    obtain ⟨h_5, hw⟩ := hw
    refine va_lald hx hb hK hP 12 1 rfl rfl h_5 dX3_valueOfName_42 ?_
    exact W.lret (v := xL σ_4 2 r_3.toNatClampNeg) hx hb hr (fun t ht hW => ⟨⟨_, σ_4, rfl, hw, by rw [ht]; exact hP, va_K.moved hW.alike hK, hD⟩, hS.F ht⟩) hS.2.2 dX3_valueOfName_43 hlk
  · have hw := hw.1 q_
    refine lv_aload_n hx hb dX3_valueOfName_20 rfl (lv_at hl 1 rfl) ?_
    refine lv_iconst (v := 2) hx hb dX3_valueOfName_21 (by decide) ?_
    refine lv_aload_n hx hb dX3_valueOfName_22 rfl (lv_at hl 1 rfl) ?_
    refine va_get (D := D) (ci := 5) (v := .ref (ad 4)) (C := RX3) (T := TX3) (N := 8) hx hb hts (in_tb inX3) hown hK hP 3 rfl rfl 0 (by decide) (hts _ (List.mem_cons_of_mem _ tw_1_110)) (fun _ h9 => h9) rfl dX3_valueOfName_23 ?_
    refine xV_i (As := []) (rest := [.int 2, .ref (ad 3)]) C (met_X6_place vE vM hw) (va_recv hK hP (ci := 8) (q0 := 4) rfl rfl) (cwV 0 hts (TB_G (TB_4 tw_4_183 tw_4_184 tw_4_185 tw_1_5) tw_4_186) rfl rfl rfl (by decide +kernel) ⟨by decide, by decide⟩) hP hD hS rfl hl.1 rfl (Nat.le_of_ble_eq_true rfl) dX3_valueOfName_26 ⟨by decide, by decide⟩ (fun r_6 σ_7 H locs hw hP hD hS => ?_)
    have hG : xG D cA aE ad A s σ_7 H locs := ⟨hP, hD, hS⟩
    refine xV_v (As := [.int 2, .int r_6]) (rest := []) C (met_X3_noteFault vE vM hw) (va_recv hK hP (ci := 5) (q0 := 3) rfl rfl) (cwV 2 hts (TB_G (TB_4 tw_4_220 tw_4_222 ts_17 tw_1_3) tw_4_223) rfl rfl rfl (by decide +kernel) ⟨by decide, by decide⟩) hP hD hS rfl hl.1 rfl (Nat.le_of_ble_eq_true rfl) dX3_valueOfName_29 ⟨by decide, by decide⟩ (fun σ_9 H locs hw hP hD hS => ?_)
    have hG : xG D cA aE ad A s σ_9 H locs := ⟨hP, hD, hS⟩
    refine lv_lconst (v := 0) hx hb dX3_valueOfName_32 (by decide) ?_
    exact W.lret (v := 0) hx hb hr (fun t ht hW => ⟨⟨_, σ_9, rfl, hw, by rw [ht]; exact hP, va_K.moved hW.alike hK, hD⟩, hS.F ht⟩) hS.2.2 dX3_valueOfName_33 hlk
set_option maxHeartbeats 4000000 in
set_option maxRecDepth 100000 in
theorem met_X3_valueOfName {l : Launch} {E : EnvT} (vE : EnvOk E) {D : va_G} {cA : Nat → ClassId} {aE ad : Nat → Nat} {σ : XS} {aK aV : Nat → Nat} {aO : Nat} (vM : eXs aK aV aE aO E) {sz : Nat} {post : Int64 → XS → Prop} (hw : wp_X3_valueOfName post σ) : Met l yX3_valueOfName wgX3_valueOfName rm_X3_valueOfName (va_Pc [.ref (ad 3)] (xPre E D cA aE ad sz σ)) (va_Ql post (xAt D cA aE ad (va_A (xW cA aE ad σ) sz)) (va_A (xW cA aE ad σ) sz)) 0 0 (va_A (xW cA aE ad σ) sz) := by
  refine Met.ofW (cc := cX3_valueOfName) (maxL := 2) (ret := (some .long)) (by decide +kernel) rfl ?_
  intro p e s m args below meth c s₁ B hml hv
  obtain ⟨rfl, hsz, hP, hK, hD0, hE⟩ := hv
  subst hsz
  have hD := hD0.self (sz := s.heap.size)
  generalize hAe : va_A (xW cA aE ad σ) s.heap.size = A at hD hE ⊢
  have hA : ∀ q : Nat, s.heap.size ≤ q → A q := fun q h => by rw [← hAe]; exact Or.inr h
  have hS : va_S A s.heap s.heap [] := va_S.rf
  have C : xCx p s m _ meth c cX3_valueOfName 2 (some .long) wgX3_valueOfName RX3 E D cA A := ⟨B.exec, B.bytes, hml, B.returns, findClass_of_methodNamed B.named, atoms_spec (ws := wgX3_valueOfName) B.pre, hK, hA, B.notSynchronized, hE, vE⟩
  have hG : xG D cA aE ad A s σ s.heap [] := ⟨hP, hD, hS⟩
  have hl := lv_entry ([.ref (ad 3)]) (n := 2) (Nat.le_of_ble_eq_true rfl)
  rw [lg_entry_eq]
  generalize (lg_sl ([.ref (ad 3)]) ++ List.replicate (2 - (lg_sl ([.ref (ad 3)])).length) Slot.unset).toArray = ls at hl ⊢
  have hl : lv_has ls 2 [(0, .ref (ad 3))] := hl
  exact k_X3_valueOfName C vM σ _ _ _ hG hl hw
/-! ===== X3_amountAt parser ===== -/
def rm_X3_amountAt : Room := { frames := 2, cells := 0, slots := 0, locals := 44 }
abbrev wgX3_amountAt : List Cond := .code yX3_amountAt cX3_amountAt 7 (some .long) :: TB
def wB_X3_amountAt_119 (post : Int64 → XS → Prop) (x5 : Int64) (σ : XS) : Prop :=
  post x5 σ
def wB_X3_amountAt_113 (post : Int64 → XS → Prop) (x3 : Int32) (x5 : Int64) (σ : XS) : Prop :=
  wp_X3_noteFault (fun σ_16 => wB_X3_amountAt_119 post x5 σ_16) 3 x3 σ
def wB_X3_amountAt_91 (post : Int64 → XS → Prop) (x2 : Int32) (x3 : Int32) (x5 : Int64) (σ : XS) : Prop :=
  wp_X2_leastOf (fun r_13  => (x5 < (r_13.toInt64) → (wB_X3_amountAt_113 post x3 x5 σ)) ∧ (¬ x5 < (r_13.toInt64) → (wp_X2_mostOf (fun r_17  => (x5 ≤ (r_17.toInt64) → (wB_X3_amountAt_119 post x5 σ)) ∧ (¬ x5 ≤ (r_17.toInt64) → (wB_X3_amountAt_113 post x3 x5 σ))) x2))) x2
def wB_X3_amountAt_72 (post : Int64 → XS → Prop) (x2 : Int32) (x3 : Int32) (x4 : Int32) (t0 : Int64) (σ : XS) : Prop :=
  wp_X6_advance (fun σ_12 => (x4 = 0 → (wB_X3_amountAt_91 post x2 x3 t0 σ_12)) ∧ (¬ x4 = 0 → (∀ x5_19 : Int64, x5_19 = -t0 → wB_X3_amountAt_91 post x2 x3 x5_19 σ_12))) σ
def wB_X3_amountAt_47 (post : Int64 → XS → Prop) (x2 : Int32) (x3 : Int32) (x4 : Int32) (σ : XS) : Prop :=
  wp_X6_kind (fun r_7 σ_8 => (r_7 = 1 → (wp_X3_valueOfName (fun r_20 σ_21 => wB_X3_amountAt_72 post x2 x3 x4 r_20 σ_21) σ_8)) ∧ (¬ r_7 = 1 → (wp_X6_value (fun r_9 σ_10 => wB_X3_amountAt_72 post x2 x3 x4 r_9 σ_10) σ_8))) σ
def wB_X3_amountAt_33 (post : Int64 → XS → Prop) (x2 : Int32) (x3 : Int32) (t0 : Int32) (σ : XS) : Prop :=
  (t0 = 0 → (wB_X3_amountAt_47 post x2 x3 t0 σ)) ∧ (¬ t0 = 0 → (wp_X6_advance (fun σ_23 => wB_X3_amountAt_47 post x2 x3 t0 σ_23) σ))
def wp_X3_amountAt (post : Int64 → XS → Prop) (x1 : Int32) (x2 : Int32) (σ : XS) : Prop :=
  wp_X6_goTo (fun σ_2 => wp_X6_place (fun r_3 σ_4 => wp_X6_kind (fun r_5 σ_6 => (r_5 = 45 → (wB_X3_amountAt_33 post x2 r_3 1 σ_6)) ∧ (¬ r_5 = 45 → (wB_X3_amountAt_33 post x2 r_3 0 σ_6))) σ_4) σ_2) x1 σ
set_option maxHeartbeats 4000000 in
set_option maxRecDepth 100000 in
theorem kB_X3_amountAt_119 {p : Program} {l : Launch} {e : Env} {s : State} {m : MethodId} {args : Array Value} {below : List Frame} {meth : Method} {c : Code} {A : Nat → Prop} {E : EnvT} {aK aV : Nat → Nat} {aO : Nat} {D : va_G} {cA : Nat → ClassId} {aE ad : Nat → Nat} (C : xCx p s m args meth c cX3_amountAt 7 (some .long) wgX3_amountAt RX3 E D cA A) (vM : eXs aK aV aE aO E) {post : Int64 → XS → Prop} :
    ∀ (x5 : Int64) (σ : XS) (H : Heap) (locs : List Loc) (ls : Array Slot), xG D cA aE ad A s σ H locs → lv_has ls 7 [(5, .long x5)] → wB_X3_amountAt_119 post x5 σ → W p l e rm_X3_amountAt s m args below meth c H locs 0 0 (MQ below (va_Ql post (xAt D cA aE ad A) A) args s 0 0 A) (F0 m 119 ls []) := by
  obtain ⟨hx, hb, hml, hr, hown, hts, hK, hA, hlk, hE, vE⟩ := id C
  intro x5 σ H locs ls hG hl hw
  obtain ⟨hP, hD, hS⟩ := id hG
  refine lv_lload hx hb dX3_amountAt_119 (lv_at hl 0 rfl) ?_
  exact W.lret (v := x5) hx hb hr (fun t ht hW => ⟨⟨_, σ, rfl, hw, by rw [ht]; exact hP, va_K.moved hW.alike hK, hD⟩, hS.F ht⟩) hS.2.2 dX3_amountAt_121 hlk
set_option maxHeartbeats 4000000 in
set_option maxRecDepth 100000 in
theorem kB_X3_amountAt_113 {p : Program} {l : Launch} {e : Env} {s : State} {m : MethodId} {args : Array Value} {below : List Frame} {meth : Method} {c : Code} {A : Nat → Prop} {E : EnvT} {aK aV : Nat → Nat} {aO : Nat} {D : va_G} {cA : Nat → ClassId} {aE ad : Nat → Nat} (C : xCx p s m args meth c cX3_amountAt 7 (some .long) wgX3_amountAt RX3 E D cA A) (vM : eXs aK aV aE aO E) {post : Int64 → XS → Prop} :
    ∀ (x3 : Int32) (x5 : Int64) (σ : XS) (H : Heap) (locs : List Loc) (ls : Array Slot), xG D cA aE ad A s σ H locs → lv_has ls 7 [(0, .ref (ad 3)), (3, .int x3), (5, .long x5)] → wB_X3_amountAt_113 post x3 x5 σ → W p l e rm_X3_amountAt s m args below meth c H locs 0 0 (MQ below (va_Ql post (xAt D cA aE ad A) A) args s 0 0 A) (F0 m 113 ls []) := by
  obtain ⟨hx, hb, hml, hr, hown, hts, hK, hA, hlk, hE, vE⟩ := id C
  intro x3 x5 σ H locs ls hG hl hw
  obtain ⟨hP, hD, hS⟩ := id hG
  refine lv_aload_n hx hb dX3_amountAt_113 rfl (lv_at hl 0 rfl) ?_
  refine lv_iconst (v := 3) hx hb dX3_amountAt_114 (by decide) ?_
  refine lv_iload_n hx hb dX3_amountAt_115 rfl (lv_at hl 1 rfl) ?_
  refine xV_v (As := [.int 3, .int x3]) (rest := []) C (met_X3_noteFault vE vM hw) (va_recv hK hP (ci := 5) (q0 := 3) rfl rfl) (cwV 2 hts (TB_G (TB_4 tw_4_220 tw_4_222 ts_17 tw_1_3) tw_4_223) rfl rfl rfl (by decide +kernel) ⟨by decide, by decide⟩) hP hD hS rfl hl.1 rfl (Nat.le_of_ble_eq_true rfl) dX3_amountAt_116 ⟨by decide, by decide⟩ (fun σ_16 H locs hw hP hD hS => ?_)
  have hG : xG D cA aE ad A s σ_16 H locs := ⟨hP, hD, hS⟩
  exact kB_X3_amountAt_119 C vM x5 σ_16 _ _ _ hG (lv_sub hl [2] rfl) hw
set_option maxHeartbeats 4000000 in
set_option maxRecDepth 100000 in
theorem kB_X3_amountAt_91 {p : Program} {l : Launch} {e : Env} {s : State} {m : MethodId} {args : Array Value} {below : List Frame} {meth : Method} {c : Code} {A : Nat → Prop} {E : EnvT} {aK aV : Nat → Nat} {aO : Nat} {D : va_G} {cA : Nat → ClassId} {aE ad : Nat → Nat} (C : xCx p s m args meth c cX3_amountAt 7 (some .long) wgX3_amountAt RX3 E D cA A) (vM : eXs aK aV aE aO E) {post : Int64 → XS → Prop} :
    ∀ (x2 : Int32) (x3 : Int32) (x5 : Int64) (σ : XS) (H : Heap) (locs : List Loc) (ls : Array Slot), xG D cA aE ad A s σ H locs → lv_has ls 7 [(0, .ref (ad 3)), (2, .int x2), (3, .int x3), (5, .long x5)] → wB_X3_amountAt_91 post x2 x3 x5 σ → W p l e rm_X3_amountAt s m args below meth c H locs 0 0 (MQ below (va_Ql post (xAt D cA aE ad A) A) args s 0 0 A) (F0 m 91 ls []) := by
  obtain ⟨hx, hb, hml, hr, hown, hts, hK, hA, hlk, hE, vE⟩ := id C
  intro x2 x3 x5 σ H locs ls hG hl hw
  obtain ⟨hP, hD, hS⟩ := id hG
  refine lv_lload hx hb dX3_amountAt_91 (lv_at hl 3 rfl) ?_
  refine lv_iload_n hx hb dX3_amountAt_93 rfl (lv_at hl 1 rfl) ?_
  refine xS_i (As := [.int x2]) (rest := [.long x5]) C (met_X2_leastOf vE vM hw) (va_cwS 1 hts (TB_G (TB_3 tw_4_224 tw_2_90 tw_1_19) tw_2_91) rfl rfl rfl (by decide +kernel) ⟨by decide, by decide⟩) hP hD hS rfl hl.1 rfl (Nat.le_of_ble_eq_true rfl) dX3_amountAt_94 ⟨by decide, by decide⟩ (fun r_13 H locs hw hP hS => ?_)
  have hG : xG D cA aE ad A s σ H locs := ⟨hP, hD, hS⟩
  refine lv_i2l hx hb dX3_amountAt_97 rfl ?_
  refine W.lcmp hx hb dX3_amountAt_98 ?_
  refine lv_if_lt (tgt := 113) hx hb dX3_amountAt_99 (by decide) (fun q_ => ?_) (fun q_ => ?_)
  · have hw := hw.1 (lc_lt.mp q_)
    exact kB_X3_amountAt_113 C vM x3 x5 σ _ _ _ hG (lv_sub hl [0, 2, 3] rfl) hw
  · have hw := hw.2 (fun z => q_ (lc_lt.mpr z))
    refine lv_lload hx hb dX3_amountAt_102 (lv_at hl 3 rfl) ?_
    refine lv_iload_n hx hb dX3_amountAt_104 rfl (lv_at hl 1 rfl) ?_
    refine xS_i (As := [.int x2]) (rest := [.long x5]) C (met_X2_mostOf vE vM hw) (va_cwS 1 hts (TB_G (TB_3 tw_4_225 tw_2_94 tw_1_19) tw_2_95) rfl rfl rfl (by decide +kernel) ⟨by decide, by decide⟩) hP hD hS rfl hl.1 rfl (Nat.le_of_ble_eq_true rfl) dX3_amountAt_105 ⟨by decide, by decide⟩ (fun r_17 H locs hw hP hS => ?_)
    have hG : xG D cA aE ad A s σ H locs := ⟨hP, hD, hS⟩
    refine lv_i2l hx hb dX3_amountAt_108 rfl ?_
    refine W.lcmp hx hb dX3_amountAt_109 ?_
    refine lv_if_le (tgt := 119) hx hb dX3_amountAt_110 (by decide) (fun q_ => ?_) (fun q_ => ?_)
    · have hw := hw.1 (lc_le.mp q_)
      exact kB_X3_amountAt_119 C vM x5 σ _ _ _ hG (lv_sub hl [3] rfl) hw
    · have hw := hw.2 (fun z => q_ (lc_le.mpr z))
      exact kB_X3_amountAt_113 C vM x3 x5 σ _ _ _ hG (lv_sub hl [0, 2, 3] rfl) hw
set_option maxHeartbeats 4000000 in
set_option maxRecDepth 100000 in
theorem kB_X3_amountAt_72 {p : Program} {l : Launch} {e : Env} {s : State} {m : MethodId} {args : Array Value} {below : List Frame} {meth : Method} {c : Code} {A : Nat → Prop} {E : EnvT} {aK aV : Nat → Nat} {aO : Nat} {D : va_G} {cA : Nat → ClassId} {aE ad : Nat → Nat} (C : xCx p s m args meth c cX3_amountAt 7 (some .long) wgX3_amountAt RX3 E D cA A) (vM : eXs aK aV aE aO E) {post : Int64 → XS → Prop} :
    ∀ (x2 : Int32) (x3 : Int32) (x4 : Int32) (t0 : Int64) (σ : XS) (H : Heap) (locs : List Loc) (ls : Array Slot), xG D cA aE ad A s σ H locs → lv_has ls 7 [(0, .ref (ad 3)), (2, .int x2), (3, .int x3), (4, .int x4)] → wB_X3_amountAt_72 post x2 x3 x4 t0 σ → W p l e rm_X3_amountAt s m args below meth c H locs 0 0 (MQ below (va_Ql post (xAt D cA aE ad A) A) args s 0 0 A) (F0 m 72 ls [.long t0]) := by
  obtain ⟨hx, hb, hml, hr, hown, hts, hK, hA, hlk, hE, vE⟩ := id C
  intro x2 x3 x4 t0 σ H locs ls hG hl hw
  obtain ⟨hP, hD, hS⟩ := id hG
  refine lv_lstore (lv' := [(5, .long t0), (0, .ref (ad 3)), (2, .int x2), (3, .int x3), (4, .int x4)]) hx hb dX3_amountAt_72 hl (by decide) rfl (fun ls hl => ?_)
  refine lv_aload_n hx hb dX3_amountAt_74 rfl (lv_at hl 1 rfl) ?_
  refine va_get (D := D) (ci := 5) (v := .ref (ad 4)) (C := RX3) (T := TX3) (N := 8) hx hb hts (in_tb inX3) hown hK hP 3 rfl rfl 0 (by decide) (hts _ (List.mem_cons_of_mem _ tw_1_110)) (fun _ h9 => h9) rfl dX3_amountAt_75 ?_
  refine xV_v (As := []) (rest := []) C (met_X6_advance vE vM hw) (va_recv hK hP (ci := 8) (q0 := 4) rfl rfl) (cwV 0 hts (TB_G (TB_4 tw_4_187 tw_4_188 tw_4_189 tw_1_5) tw_4_190) rfl rfl rfl (by decide +kernel) ⟨by decide, by decide⟩) hP hD hS rfl hl.1 rfl (Nat.le_of_ble_eq_true rfl) dX3_amountAt_78 ⟨by decide, by decide⟩ (fun σ_12 H locs hw hP hD hS => ?_)
  have hG : xG D cA aE ad A s σ_12 H locs := ⟨hP, hD, hS⟩
  refine lv_iload hx hb dX3_amountAt_81 (lv_at hl 4 rfl) ?_
  refine lv_if_eq (tgt := 91) hx hb dX3_amountAt_83 (by decide) (fun q_ => ?_) (fun q_ => ?_)
  · have hw := hw.1 q_
    exact kB_X3_amountAt_91 C vM x2 x3 t0 σ_12 _ _ _ hG (lv_sub hl [1, 2, 3, 0] rfl) hw
  · have hw := hw.2 q_
    refine lv_lload hx hb dX3_amountAt_86 (lv_at hl 0 rfl) ?_
    refine lv_lneg hx hb dX3_amountAt_88 ?_
    refine lv_topl (fun x5_19 ex5_19 => ?_)
    have hw := hw x5_19 ex5_19
    refine lv_lstore (lv' := [(5, .long x5_19), (0, .ref (ad 3)), (2, .int x2), (3, .int x3), (4, .int x4)]) hx hb dX3_amountAt_89 hl (by decide) rfl (fun ls hl => ?_)
    exact kB_X3_amountAt_91 C vM x2 x3 x5_19 σ_12 _ _ _ hG (lv_sub hl [1, 2, 3, 0] rfl) hw
set_option maxHeartbeats 4000000 in
set_option maxRecDepth 100000 in
theorem kB_X3_amountAt_47 {p : Program} {l : Launch} {e : Env} {s : State} {m : MethodId} {args : Array Value} {below : List Frame} {meth : Method} {c : Code} {A : Nat → Prop} {E : EnvT} {aK aV : Nat → Nat} {aO : Nat} {D : va_G} {cA : Nat → ClassId} {aE ad : Nat → Nat} (C : xCx p s m args meth c cX3_amountAt 7 (some .long) wgX3_amountAt RX3 E D cA A) (vM : eXs aK aV aE aO E) {post : Int64 → XS → Prop} :
    ∀ (x2 : Int32) (x3 : Int32) (x4 : Int32) (σ : XS) (H : Heap) (locs : List Loc) (ls : Array Slot), xG D cA aE ad A s σ H locs → lv_has ls 7 [(0, .ref (ad 3)), (2, .int x2), (3, .int x3), (4, .int x4)] → wB_X3_amountAt_47 post x2 x3 x4 σ → W p l e rm_X3_amountAt s m args below meth c H locs 0 0 (MQ below (va_Ql post (xAt D cA aE ad A) A) args s 0 0 A) (F0 m 47 ls []) := by
  obtain ⟨hx, hb, hml, hr, hown, hts, hK, hA, hlk, hE, vE⟩ := id C
  intro x2 x3 x4 σ H locs ls hG hl hw
  obtain ⟨hP, hD, hS⟩ := id hG
  refine lv_aload_n hx hb dX3_amountAt_47 rfl (lv_at hl 0 rfl) ?_
  refine va_get (D := D) (ci := 5) (v := .ref (ad 4)) (C := RX3) (T := TX3) (N := 8) hx hb hts (in_tb inX3) hown hK hP 3 rfl rfl 0 (by decide) (hts _ (List.mem_cons_of_mem _ tw_1_110)) (fun _ h9 => h9) rfl dX3_amountAt_48 ?_
  refine xV_i (As := []) (rest := []) C (met_X6_kind vE vM hw) (va_recv hK hP (ci := 8) (q0 := 4) rfl rfl) (cwV 0 hts (TB_G (TB_4 tw_4_163 tw_4_164 tw_4_165 tw_1_5) tw_4_166) rfl rfl rfl (by decide +kernel) ⟨by decide, by decide⟩) hP hD hS rfl hl.1 rfl (Nat.le_of_ble_eq_true rfl) dX3_amountAt_51 ⟨by decide, by decide⟩ (fun r_7 σ_8 H locs hw hP hD hS => ?_)
  have hG : xG D cA aE ad A s σ_8 H locs := ⟨hP, hD, hS⟩
  refine lv_iconst (v := 1) hx hb dX3_amountAt_54 (by decide) ?_
  refine lv_icmp_ne (tgt := 65) hx hb dX3_amountAt_55 (by decide) (fun q_ => ?_) (fun q_ => ?_)
  · have hw := hw.2 q_
    refine lv_aload_n hx hb dX3_amountAt_65 rfl (lv_at hl 0 rfl) ?_
    refine va_get (D := D) (ci := 5) (v := .ref (ad 4)) (C := RX3) (T := TX3) (N := 8) hx hb hts (in_tb inX3) hown hK hP 3 rfl rfl 0 (by decide) (hts _ (List.mem_cons_of_mem _ tw_1_110)) (fun _ h9 => h9) rfl dX3_amountAt_66 ?_
    refine xV_l (As := []) (rest := []) C (met_X6_value vE vM hw) (va_recv hK hP (ci := 8) (q0 := 4) rfl rfl) (cwV 0 hts (TB_G (TB_4 tw_4_179 tw_4_180 tw_4_181 tw_1_5) tw_4_182) rfl rfl rfl (by decide +kernel) ⟨by decide, by decide⟩) hP hD hS rfl hl.1 rfl (Nat.le_of_ble_eq_true rfl) dX3_amountAt_69 ⟨by decide, by decide⟩ (fun r_9 σ_10 H locs hw hP hD hS => ?_)
    have hG : xG D cA aE ad A s σ_10 H locs := ⟨hP, hD, hS⟩
    exact kB_X3_amountAt_72 C vM x2 x3 x4 r_9 σ_10 _ _ _ hG (lv_sub hl [0, 1, 2, 3] rfl) hw
  · have hw := hw.1 q_
    refine lv_aload_n hx hb dX3_amountAt_58 rfl (lv_at hl 0 rfl) ?_
    refine xV_l (As := []) (rest := []) C (met_X3_valueOfName vE vM hw) (va_recv hK hP (ci := 5) (q0 := 3) rfl rfl) (cwV 0 hts (TB_G (TB_4 tw_4_212 tw_4_214 ts_16 tw_1_3) tw_4_215) rfl rfl rfl (by decide +kernel) ⟨by decide, by decide⟩) hP hD hS rfl hl.1 rfl (Nat.le_of_ble_eq_true rfl) dX3_amountAt_59 ⟨by decide, by decide⟩ (fun r_20 σ_21 H locs hw hP hD hS => ?_)
    have hG : xG D cA aE ad A s σ_21 H locs := ⟨hP, hD, hS⟩
    refine lv_goto (tgt := 72) hx hb dX3_amountAt_62 (by decide) ?_
    exact kB_X3_amountAt_72 C vM x2 x3 x4 r_20 σ_21 _ _ _ hG (lv_sub hl [0, 1, 2, 3] rfl) hw
set_option maxHeartbeats 4000000 in
set_option maxRecDepth 100000 in
theorem kB_X3_amountAt_33 {p : Program} {l : Launch} {e : Env} {s : State} {m : MethodId} {args : Array Value} {below : List Frame} {meth : Method} {c : Code} {A : Nat → Prop} {E : EnvT} {aK aV : Nat → Nat} {aO : Nat} {D : va_G} {cA : Nat → ClassId} {aE ad : Nat → Nat} (C : xCx p s m args meth c cX3_amountAt 7 (some .long) wgX3_amountAt RX3 E D cA A) (vM : eXs aK aV aE aO E) {post : Int64 → XS → Prop} :
    ∀ (x2 : Int32) (x3 : Int32) (t0 : Int32) (σ : XS) (H : Heap) (locs : List Loc) (ls : Array Slot), xG D cA aE ad A s σ H locs → lv_has ls 7 [(0, .ref (ad 3)), (2, .int x2), (3, .int x3)] → wB_X3_amountAt_33 post x2 x3 t0 σ → W p l e rm_X3_amountAt s m args below meth c H locs 0 0 (MQ below (va_Ql post (xAt D cA aE ad A) A) args s 0 0 A) (F0 m 33 ls [.int t0]) := by
  obtain ⟨hx, hb, hml, hr, hown, hts, hK, hA, hlk, hE, vE⟩ := id C
  intro x2 x3 t0 σ H locs ls hG hl hw
  obtain ⟨hP, hD, hS⟩ := id hG
  refine lv_istore (lv' := [(4, .int t0), (0, .ref (ad 3)), (2, .int x2), (3, .int x3)]) hx hb dX3_amountAt_33 hl (by decide) rfl (fun ls hl => ?_)
  refine lv_iload hx hb dX3_amountAt_35 (lv_at hl 0 rfl) ?_
  refine lv_if_eq (tgt := 47) hx hb dX3_amountAt_37 (by decide) (fun q_ => ?_) (fun q_ => ?_)
  · have hw := hw.1 q_
    exact kB_X3_amountAt_47 C vM x2 x3 t0 σ _ _ _ hG (lv_sub hl [1, 2, 3, 0] rfl) hw
  · have hw := hw.2 q_
    refine lv_aload_n hx hb dX3_amountAt_40 rfl (lv_at hl 1 rfl) ?_
    refine va_get (D := D) (ci := 5) (v := .ref (ad 4)) (C := RX3) (T := TX3) (N := 8) hx hb hts (in_tb inX3) hown hK hP 3 rfl rfl 0 (by decide) (hts _ (List.mem_cons_of_mem _ tw_1_110)) (fun _ h9 => h9) rfl dX3_amountAt_41 ?_
    refine xV_v (As := []) (rest := []) C (met_X6_advance vE vM hw) (va_recv hK hP (ci := 8) (q0 := 4) rfl rfl) (cwV 0 hts (TB_G (TB_4 tw_4_187 tw_4_188 tw_4_189 tw_1_5) tw_4_190) rfl rfl rfl (by decide +kernel) ⟨by decide, by decide⟩) hP hD hS rfl hl.1 rfl (Nat.le_of_ble_eq_true rfl) dX3_amountAt_44 ⟨by decide, by decide⟩ (fun σ_23 H locs hw hP hD hS => ?_)
    have hG : xG D cA aE ad A s σ_23 H locs := ⟨hP, hD, hS⟩
    exact kB_X3_amountAt_47 C vM x2 x3 t0 σ_23 _ _ _ hG (lv_sub hl [1, 2, 3, 0] rfl) hw
set_option maxHeartbeats 4000000 in
set_option maxRecDepth 100000 in
theorem k_X3_amountAt {p : Program} {l : Launch} {e : Env} {s : State} {m : MethodId} {args : Array Value} {below : List Frame} {meth : Method} {c : Code} {A : Nat → Prop} {E : EnvT} {aK aV : Nat → Nat} {aO : Nat} {D : va_G} {cA : Nat → ClassId} {aE ad : Nat → Nat} (C : xCx p s m args meth c cX3_amountAt 7 (some .long) wgX3_amountAt RX3 E D cA A) (vM : eXs aK aV aE aO E) {post : Int64 → XS → Prop} :
    ∀ (x1 : Int32) (x2 : Int32) (σ : XS) (H : Heap) (locs : List Loc) (ls : Array Slot), xG D cA aE ad A s σ H locs → lv_has ls 7 [(0, .ref (ad 3)), (1, .int x1), (2, .int x2)] → wp_X3_amountAt post x1 x2 σ → W p l e rm_X3_amountAt s m args below meth c H locs 0 0 (MQ below (va_Ql post (xAt D cA aE ad A) A) args s 0 0 A) (F0 m 0 ls []) := by
  obtain ⟨hx, hb, hml, hr, hown, hts, hK, hA, hlk, hE, vE⟩ := id C
  intro x1 x2 σ H locs ls hG hl hw
  obtain ⟨hP, hD, hS⟩ := id hG
  refine lv_aload_n hx hb dX3_amountAt_0 rfl (lv_at hl 0 rfl) ?_
  refine va_get (D := D) (ci := 5) (v := .ref (ad 4)) (C := RX3) (T := TX3) (N := 8) hx hb hts (in_tb inX3) hown hK hP 3 rfl rfl 0 (by decide) (hts _ (List.mem_cons_of_mem _ tw_1_110)) (fun _ h9 => h9) rfl dX3_amountAt_1 ?_
  refine lv_iload_n hx hb dX3_amountAt_4 rfl (lv_at hl 1 rfl) ?_
  refine xV_v (As := [.int x1]) (rest := []) C (met_X6_goTo vE vM hw) (va_recv hK hP (ci := 8) (q0 := 4) rfl rfl) (cwV 1 hts (TB_G (TB_4 tw_4_207 tw_4_208 tw_4_209 tw_1_5) tw_4_210) rfl rfl rfl (by decide +kernel) ⟨by decide, by decide⟩) hP hD hS rfl hl.1 rfl (Nat.le_of_ble_eq_true rfl) dX3_amountAt_5 ⟨by decide, by decide⟩ (fun σ_2 H locs hw hP hD hS => ?_)
  have hG : xG D cA aE ad A s σ_2 H locs := ⟨hP, hD, hS⟩
  refine lv_aload_n hx hb dX3_amountAt_8 rfl (lv_at hl 0 rfl) ?_
  refine va_get (D := D) (ci := 5) (v := .ref (ad 4)) (C := RX3) (T := TX3) (N := 8) hx hb hts (in_tb inX3) hown hK hP 3 rfl rfl 0 (by decide) (hts _ (List.mem_cons_of_mem _ tw_1_110)) (fun _ h9 => h9) rfl dX3_amountAt_9 ?_
  refine xV_i (As := []) (rest := []) C (met_X6_place vE vM hw) (va_recv hK hP (ci := 8) (q0 := 4) rfl rfl) (cwV 0 hts (TB_G (TB_4 tw_4_183 tw_4_184 tw_4_185 tw_1_5) tw_4_186) rfl rfl rfl (by decide +kernel) ⟨by decide, by decide⟩) hP hD hS rfl hl.1 rfl (Nat.le_of_ble_eq_true rfl) dX3_amountAt_12 ⟨by decide, by decide⟩ (fun r_3 σ_4 H locs hw hP hD hS => ?_)
  have hG : xG D cA aE ad A s σ_4 H locs := ⟨hP, hD, hS⟩
  refine lv_istore_n (lv' := [(3, .int r_3), (0, .ref (ad 3)), (1, .int x1), (2, .int x2)]) hx hb dX3_amountAt_15 rfl hl (by decide) rfl (fun ls hl => ?_)
  refine lv_aload_n hx hb dX3_amountAt_16 rfl (lv_at hl 1 rfl) ?_
  refine va_get (D := D) (ci := 5) (v := .ref (ad 4)) (C := RX3) (T := TX3) (N := 8) hx hb hts (in_tb inX3) hown hK hP 3 rfl rfl 0 (by decide) (hts _ (List.mem_cons_of_mem _ tw_1_110)) (fun _ h9 => h9) rfl dX3_amountAt_17 ?_
  refine xV_i (As := []) (rest := []) C (met_X6_kind vE vM hw) (va_recv hK hP (ci := 8) (q0 := 4) rfl rfl) (cwV 0 hts (TB_G (TB_4 tw_4_163 tw_4_164 tw_4_165 tw_1_5) tw_4_166) rfl rfl rfl (by decide +kernel) ⟨by decide, by decide⟩) hP hD hS rfl hl.1 rfl (Nat.le_of_ble_eq_true rfl) dX3_amountAt_20 ⟨by decide, by decide⟩ (fun r_5 σ_6 H locs hw hP hD hS => ?_)
  have hG : xG D cA aE ad A s σ_6 H locs := ⟨hP, hD, hS⟩
  refine lv_bipush (v := 45) hx hb dX3_amountAt_23 (by decide) ?_
  refine lv_icmp_ne (tgt := 32) hx hb dX3_amountAt_25 (by decide) (fun q_ => ?_) (fun q_ => ?_)
  · have hw := hw.2 q_
    refine lv_iconst (v := 0) hx hb dX3_amountAt_32 (by decide) ?_
    exact kB_X3_amountAt_33 C vM x2 r_3 0 σ_6 _ _ _ hG (lv_sub hl [1, 3, 0] rfl) hw
  · have hw := hw.1 q_
    refine lv_iconst (v := 1) hx hb dX3_amountAt_28 (by decide) ?_
    refine lv_goto (tgt := 33) hx hb dX3_amountAt_29 (by decide) ?_
    exact kB_X3_amountAt_33 C vM x2 r_3 1 σ_6 _ _ _ hG (lv_sub hl [1, 3, 0] rfl) hw
set_option maxHeartbeats 4000000 in
set_option maxRecDepth 100000 in
theorem met_X3_amountAt {l : Launch} {E : EnvT} (vE : EnvOk E) {D : va_G} {cA : Nat → ClassId} {aE ad : Nat → Nat} {σ : XS} {aK aV : Nat → Nat} {aO : Nat} (vM : eXs aK aV aE aO E) {sz : Nat} {x1 : Int32} {x2 : Int32} {post : Int64 → XS → Prop} (hw : wp_X3_amountAt post x1 x2 σ) : Met l yX3_amountAt wgX3_amountAt rm_X3_amountAt (va_Pc [.ref (ad 3), .int x1, .int x2] (xPre E D cA aE ad sz σ)) (va_Ql post (xAt D cA aE ad (va_A (xW cA aE ad σ) sz)) (va_A (xW cA aE ad σ) sz)) 0 0 (va_A (xW cA aE ad σ) sz) := by
  refine Met.ofW (cc := cX3_amountAt) (maxL := 7) (ret := (some .long)) (by decide +kernel) rfl ?_
  intro p e s m args below meth c s₁ B hml hv
  obtain ⟨rfl, hsz, hP, hK, hD0, hE⟩ := hv
  subst hsz
  have hD := hD0.self (sz := s.heap.size)
  generalize hAe : va_A (xW cA aE ad σ) s.heap.size = A at hD hE ⊢
  have hA : ∀ q : Nat, s.heap.size ≤ q → A q := fun q h => by rw [← hAe]; exact Or.inr h
  have hS : va_S A s.heap s.heap [] := va_S.rf
  have C : xCx p s m _ meth c cX3_amountAt 7 (some .long) wgX3_amountAt RX3 E D cA A := ⟨B.exec, B.bytes, hml, B.returns, findClass_of_methodNamed B.named, atoms_spec (ws := wgX3_amountAt) B.pre, hK, hA, B.notSynchronized, hE, vE⟩
  have hG : xG D cA aE ad A s σ s.heap [] := ⟨hP, hD, hS⟩
  have hl := lv_entry ([.ref (ad 3), .int x1, .int x2]) (n := 7) (Nat.le_of_ble_eq_true rfl)
  rw [lg_entry_eq]
  generalize (lg_sl ([.ref (ad 3), .int x1, .int x2]) ++ List.replicate (7 - (lg_sl ([.ref (ad 3), .int x1, .int x2])).length) Slot.unset).toArray = ls at hl ⊢
  have hl : lv_has ls 7 [(0, .ref (ad 3)), (1, .int x1), (2, .int x2)] := hl
  exact k_X3_amountAt C vM x1 x2 σ _ _ _ hG hl hw
