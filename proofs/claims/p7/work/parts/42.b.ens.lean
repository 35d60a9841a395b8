/-! the builder's bytes grow -/
theorem gS_i {p : Program} {l : Launch} {e : Env} {R : Room} {s : State} {m : MethodId} {args : Array Value} {below : List Frame} {meth : Method} {c : Code} {H : Heap} {locs : List Loc} {cells slots : Nat} {Q : State → Prop} {E : EnvT} {own : String} {D : va_G} {cA : Nat → ClassId} {A : Nat → Prop} {y : MethodName} {bytes : ByteArray} {maxL nL n index pc : Nat} {ret : Option FieldType} {ws : List Cond} {rm : Room} {Ts : List Cond} {cc : ByteArray} {rt : Option FieldType} {As rest st0 : List Value} {ls : Array Slot} {wP : va_W} {post : Int32 → Prop} (Cx : xCx p s m args meth c cc nL rt Ts own E D cA A)
    (hM : Met l y ws rm (va_Pc As (sPre E H.size)) (va_Qi (S := Unit) (fun r _ => post r) (fun _ _ => True) (va_A [] H.size)) 0 0 (va_A [] H.size))
    (cw : CallB R s args own index y bytes maxL ret ws rm 0 0 n ∧ (Cond.static y).before args s = true) (hP : va_P D vwCl wP H) (hD : va_D A wP) (hS : va_S A s.heap H locs) (hn : As.length = n) (hsize : ls.size = nL) (hst : st0 = As.reverse ++ rest) (hR : (rest.map fun v => v.category).sum ≤ 8) (hdg : decode cc pc = .ok (.invokestatic index, 3)) (hf : cells ≤ R.cells ∧ slots ≤ R.slots)
    (kk : ∀ (r : Int32) (H1 : Heap) (locs1 : List Loc), post r → va_P D vwCl wP H1 → va_S A s.heap H1 locs1 → W p l e R s m args below meth c H1 locs1 cells slots Q (F0 m (pc + 3) ls (.int r :: rest))) :
    W p l e R s m args below meth c H locs cells slots Q (F0 m pc ls st0) := by
  obtain ⟨hx, hb, hml, hr, hown, hts, hK, hA, hlk, hE, vE⟩ := Cx
  have hFc : ∀ q, va_A [] H.size q → A q := va_free (wc := []) hD hS hA [] rfl
  refine va_calli (va_runS (As := As) (rest := rest) ⟨hx, hb, hml, hown, hts⟩ hM cw ⟨sPre.blind vE, fun U hU hW => ⟨rfl, by rw [hU], vE.at hE hS hU hW hFc⟩⟩ rfl hn hsize hst (lv_room hR) hdg hf) hS (fun q _ h => hFc q h) hFc (fun r u t H1 locs ht hvm hw hB hz1 hk1 hS => ?_)
  exact kk r H1 locs hw (hP.kept (fun k q hq => hk1 q.1 (hP k q hq).lt (fun z => z.elim (fun ⟨_, _, z⟩ => by simp at z) (fun z => absurd (hP k q hq).lt (Nat.not_lt.mpr z))))) hS
def rm_copyOf : Room := { frames := 1, cells := 1, slots := 70, locals := 80 }
abbrev wgJ7_copyOf_9075b : List Cond := .code yJ7_copyOf_9075b cJ7_copyOf_9075b 3 (some (.array .byte)) :: TB
set_option maxHeartbeats 4000000 in
set_option maxRecDepth 100000 in
theorem met_copyOf {l : Launch} {E : EnvT} (vE : EnvOk E) {aK aV aE : Nat → Nat} {aO : Nat} (vM : eXs aK aV aE aO E) {D : va_G} {cA : Nat → ClassId} {av sz cap M : Nat} {f : Nat → Int32} (h1 : cap < M) (h2 : M ≤ 70) (hfit : ∀ i : Nat, fits .byte (.int (f i)) = true) :
    Met l yJ7_copyOf_9075b wgJ7_copyOf_9075b rm_copyOf (va_Pc [.ref av, .int (nI M)] (gPre E D cA sz [(av, .inl (cA 4, cap, .inl f))])) (va_Qr (fun _ : Nat => True) (fun q a t => a = q ∧ gAt D cA (va_A [(av, .inl (cA 4, cap, .inl f))] sz) [(av, .inl (cA 4, cap, .inl f)), (q, .inl (cA 4, M, .inl (va_cpy f (fun _ => 0) 0 0 cap)))] t) (va_A [(av, .inl (cA 4, cap, .inl f))] sz)) 1 70 (va_A [(av, .inl (cA 4, cap, .inl f))] sz) := by
  refine Met.ofW (cc := cJ7_copyOf_9075b) (maxL := 3) (ret := some (.array .byte)) (by decide +kernel) rfl ?_
  intro p e s m args below meth c s₁ B hml hv
  obtain ⟨rfl, hsz, hP, hK, hD0, hE⟩ := hv
  have hx := B.exec
  have hb := B.bytes
  have hr := B.returns
  have hts := atoms_spec (ws := wgJ7_copyOf_9075b) B.pre
  have hown : s.vm.findClass RJ7 = some m.cls := findClass_of_methodNamed B.named
  have hlk := B.notSynchronized
  subst hsz
  have hD := hD0.self (sz := s.heap.size)
  generalize hAe : va_A [(av, .inl (cA 4, cap, .inl f))] s.heap.size = A at hD hE ⊢
  have hA : ∀ q : Nat, s.heap.size ≤ q → A q := fun q h => by rw [← hAe]; exact Or.inr h
  have hS : va_S A s.heap s.heap [] := va_S.rf
  have C : xCx p s m _ meth c cJ7_copyOf_9075b 3 (some (.array .byte)) wgJ7_copyOf_9075b RJ7 E D cA A := ⟨hx, hb, hml, hr, hown, hts, hK, hA, hlk, hE, vE⟩
  have hl := lv_entry ([.ref av, .int (nI M)]) (n := 3) (Nat.le_of_ble_eq_true rfl)
  rw [lg_entry_eq]
  generalize (lg_sl ([.ref av, .int (nI M)]) ++ List.replicate (3 - (lg_sl ([.ref av, .int (nI M)])).length) Slot.unset).toArray = ls at hl ⊢
  have hl : lv_has ls 3 [(0, .ref av), (1, .int (nI M))] := hl
  refine lv_iload_n hx hb dJ7_copyOf_9075b_0 rfl (lv_at hl 1 rfl) ?_
  refine lv_aload_n hx hb dJ7_copyOf_9075b_1 rfl (lv_at hl 0 rfl) ?_
  refine va_alen (v := nI cap) hx hb hK hP 0 4 rfl rfl rfl dJ7_copyOf_9075b_2 ?_
  refine lv_icmp_ne (tgt := 14) hx hb dJ7_copyOf_9075b_3 (by decide) (fun _ => ?_) (fun q_ => absurd (congrArg Int32.toNatClampNeg q_) (by rw [nI_clamp (by omega), nI_clamp (by omega)]; omega))
  refine lv_iload_n hx hb dJ7_copyOf_9075b_14 rfl (lv_at hl 1 rfl) ?_
  refine nw_same (atype := .byte) (a0 := (M, .inl (fun _ => 0))) (N' := M) (ty := .byte) hx hb (hts _ (List.mem_cons_of_mem _ tw_1_219)) rfl hK hP hD hS hA (fun _ => rfl) (nI_pos (by omega)) (nI_clamp (by omega)) (by show M * 1 ≤ 536870912; omega) (by decide) (by show 0 + M ≤ 70; omega) 4 rfl (fun _ _ h => h) dJ7_copyOf_9075b_15 (fun q H hP hD hS => ?_)
  refine W.widen (k := 1) (n := 70) (by decide) (by omega) ?_
  refine lv_astore_n (lv' := [(2, .ref q), (0, .ref av), (1, .int (nI M))]) hx hb dJ7_copyOf_9075b_17 rfl hl (by decide) rfl (fun ls hl => ?_)
  refine lv_aload_n hx hb dJ7_copyOf_9075b_18 rfl (lv_at hl 1 rfl) ?_
  refine lv_iconst (v := 0) hx hb dJ7_copyOf_9075b_19 (by decide) ?_
  refine lv_aload_n hx hb dJ7_copyOf_9075b_20 rfl (lv_at hl 0 rfl) ?_
  refine lv_iconst (v := 0) hx hb dJ7_copyOf_9075b_21 (by decide) ?_
  refine lv_aload_n hx hb dJ7_copyOf_9075b_22 rfl (lv_at hl 1 rfl) ?_
  refine va_alen (v := nI cap) hx hb hK hP 0 4 rfl rfl rfl dJ7_copyOf_9075b_23 ?_
  refine lv_iload_n hx hb dJ7_copyOf_9075b_24 rfl (lv_at hl 2 rfl) ?_
  refine gS_i (As := [.int (nI cap), .int (nI M)]) (rest := [.int 0, .ref q, .int 0, .ref av]) (post := fun r => r = nI cap) C (met_J9_min_7cf53 vE vM ⟨fun z => absurd z (Int32.not_lt.mpr (nI_le (by omega) (by omega))), fun _ => rfl⟩) (va_cwS 2 hts (TB_G (TB_3 tw_2_239 tw_2_152 tw_1_15) tw_2_153) rfl rfl rfl (by decide +kernel) ⟨by decide, by decide⟩) hP hD hS rfl hl.1 rfl (Nat.le_of_ble_eq_true rfl) dJ7_copyOf_9075b_25 ⟨by decide, by decide⟩ (fun r H locs hw hP hS => ?_)
  rw [hw]
  have ec : (nI cap).toNatClampNeg = cap := nI_clamp (by omega)
  refine va_copyi (ty := .byte) hx hb (hml.trans hl.1.symm) hown (hts _ (List.mem_cons_of_mem _ tw_3_0)) (hts _ (List.mem_cons_of_mem _ tw_3_2)) (hts _ (List.mem_cons_of_mem _ tw_3_1)) (hts _ (List.mem_cons_of_mem _ tw_1_24)) hK hP hD hS 0 1 4 4 rfl rfl rfl rfl rfl (by decide) (by decide) (nI_pos (by omega)) (by rw [ec]; show 0 + cap ≤ cap; omega) (by rw [ec]; show 0 + cap ≤ M; omega) (fun i _ => hfit _) (by decide) (by decide +kernel) dJ7_copyOf_9075b_28 (fun H locs hP hD hS => ?_)
  rw [ec] at hP hD
  refine lv_aload_n hx hb dJ7_copyOf_9075b_31 rfl (lv_at hl 0 rfl) ?_
  exact W.aret (v := .ref q) hx hb hr (Or.inr ⟨_, rfl⟩) (Or.inr ⟨_, rfl⟩) (fun t ht hW => ⟨⟨q, q, rfl, trivial, rfl, by rw [ht]; exact hP, va_K.moved hW.alike hK, hD⟩, hS.F ht⟩) hS.2.2 dJ7_copyOf_9075b_32 hlk
def zGrow (σ : BS) (q : Nat) : BS := jN (jN (jAs σ 0 (va_cpy (zA σ 0) (fun _ => 0) 0 0 (zN σ 1))) 0 q) 1 (2 * zN σ 1 + 2)
/-- room for N bytes -/
def wp_J5_ensureCapacityInternal_d00df (post : BS → Prop) (x1 : Int32) (σ : BS) : Prop := ∃ N : Nat, x1 = nI N ∧ N ≤ 70 ∧ (zN σ 1 = 16 ∨ zN σ 1 = 34 ∨ zN σ 1 = 70) ∧ N ≤ 2 * zN σ 1 + 2 ∧ (∀ i : Nat, fits .byte (.int (zA σ 0 i)) = true) ∧ (N ≤ zN σ 1 → post σ) ∧ (zN σ 1 < N → ∀ q : Nat, post (zGrow σ q))
theorem z_sub (a : Nat) (ha : a < 71) : ∀ b : Nat, b < 71 → ((nI a - nI b ≤ 0) ↔ a ≤ b) := fun b hb => co_dec (N := 71) (P := fun a => ∀ b, b < 71 → ((nI a - nI b ≤ 0) ↔ a ≤ b)) (by decide +kernel) ha b hb
theorem z_newCap {σ : BS} {N : Nat} (hC : zN σ 1 = 16 ∨ zN σ 1 = 34) (h1 : zN σ 1 < N) (h2 : N ≤ 2 * zN σ 1 + 2) : wp_J5_newCapacity_0f7a4 (fun r u => r = nI (2 * zN σ 1 + 2) ∧ u = σ) (nI N) σ := by
  intro a ha b hb c hc
  rw [shl0] at hb
  rw [shl0]
  have key : ∀ C : Nat, (C = 16 ∨ C = 34) → ∀ N : Nat, N < 71 → C < N → N ≤ 2 * C + 2 → (¬ nI C + 2 < nI N - nI C) ∨ nI N - nI C = nI C + 2 := by
    intro C hC
    rcases hC with rfl | rfl <;> decide +kernel
  have kz : zN σ 1 = 16 ∨ zN σ 1 = 34 := hC
  have hN : N < 71 := by omega
  have e1 : a = nI (zN σ 1) := ha
  rw [hc, hb, e1]
  have big : ∀ C : Nat, (C = 16 ∨ C = 34) → nI C + (nI C + 2) = nI (2 * C + 2) ∧ ¬ nI (2 * C + 2) ≤ 0 ∧ ¬ 2147483639 < nI (2 * C + 2) ∧ ¬ nI (2 * C + 2) = 2147483647 := by
    intro C hC
    rcases hC with rfl | rfl <;> decide
  obtain ⟨b1, b2, b3, b4⟩ := big _ kz
  have fin : ∀ r : Int32, r = nI (zN σ 1) + 2 → ∀ x : Int32, x = nI (zN σ 1) + r → (x ≤ 0 → wB_J8_newLength_cabcc_21 (fun r_4 => (r_4 = 2147483647 → False) ∧ (¬ r_4 = 2147483647 → ((r_4 >>> ((0 : Int32) &&& 31)) = nI (2 * zN σ 1 + 2) ∧ σ = σ))) (nI (zN σ 1)) (nI N - nI (zN σ 1))) ∧ (¬ x ≤ 0 → ((2147483639 < x → wB_J8_newLength_cabcc_21 (fun r_4 => (r_4 = 2147483647 → False) ∧ (¬ r_4 = 2147483647 → ((r_4 >>> ((0 : Int32) &&& 31)) = nI (2 * zN σ 1 + 2) ∧ σ = σ))) (nI (zN σ 1)) (nI N - nI (zN σ 1))) ∧ (¬ 2147483639 < x → (fun r_4 => (r_4 = 2147483647 → False) ∧ (¬ r_4 = 2147483647 → ((r_4 >>> ((0 : Int32) &&& 31)) = nI (2 * zN σ 1 + 2) ∧ σ = σ))) x))) := by
    intro r hr x hx
    rw [hx, hr, b1]
    exact ⟨fun z => absurd z b2, fun _ => ⟨fun z => absurd z b3, fun _ => ⟨fun z => absurd z b4, fun _ => ⟨shr0 _, rfl⟩⟩⟩⟩
  refine ⟨fun _ => fin _ rfl, fun z => ?_⟩
  rcases key _ kz N hN h1 h2 with q | q
  · have : nI N - nI (zN σ 1) = nI (zN σ 1) + 2 := Int32.le_antisymm (Int32.not_lt.mp q) (Int32.not_lt.mp z)
    exact fin _ this
  · exact fin _ q
def rm_J5_ensureCapacityInternal_d00df : Room := { frames := 4, cells := 1, slots := 70, locals := 120 }
abbrev wgJ5_ensureCapacityInternal_d00df : List Cond := .code yJ5_ensureCapacityInternal_d00df cJ5_ensureCapacityInternal_d00df 3 none :: TB
set_option maxHeartbeats 4000000 in
set_option maxRecDepth 100000 in
theorem met_J5_ensureCapacityInternal_d00df {l : Launch} {E : EnvT} (vE : EnvOk E) {aK aV aE : Nat → Nat} {aO dO dT : Nat} (vM : eXs aK aV aE aO E) (vB : eBs dO dT E) {D : va_G} {cA : Nat → ClassId} {ab sz : Nat} {σ : BS} {x1 : Int32} {post : BS → Prop} (hw : wp_J5_ensureCapacityInternal_d00df post x1 σ) :
    Met l yJ5_ensureCapacityInternal_d00df wgJ5_ensureCapacityInternal_d00df rm_J5_ensureCapacityInternal_d00df (va_Pc [.ref ab, .int x1] (zPre E D cA ab sz σ)) (va_Qv post (zAt D cA ab (va_A (zW cA ab σ) sz)) (va_A (zW cA ab σ) sz)) 1 70 (va_A (zW cA ab σ) sz) := by
  obtain ⟨N, rfl, hN, hC, hN2, hfit, hno, hyes⟩ := hw
  refine Met.ofW (cc := cJ5_ensureCapacityInternal_d00df) (maxL := 3) (ret := none) (by decide +kernel) rfl ?_
  intro p e s m args below meth c s₁ B hml hv
  obtain ⟨rfl, hsz, hP, hK, hD0, hE⟩ := hv
  have hx := B.exec
  have hb := B.bytes
  have hr := B.returns
  have hts := atoms_spec (ws := wgJ5_ensureCapacityInternal_d00df) B.pre
  have hown : s.vm.findClass RJ5 = some m.cls := findClass_of_methodNamed B.named
  have hlk := B.notSynchronized
  subst hsz
  have hD := hD0.self (sz := s.heap.size)
  generalize hAe : va_A (zW cA ab σ) s.heap.size = A at hD hE ⊢
  have hA : ∀ q : Nat, s.heap.size ≤ q → A q := fun q h => by rw [← hAe]; exact Or.inr h
  have hS : va_S A s.heap s.heap [] := va_S.rf
  have C : zCx p s m _ meth c cJ5_ensureCapacityInternal_d00df 3 none wgJ5_ensureCapacityInternal_d00df RJ5 E D cA A := ⟨hx, hb, hml, hr, hown, hts, hK, hA, hlk, hE, vE⟩
  have hl := lv_entry ([.ref ab, .int (nI N)]) (n := 3) (Nat.le_of_ble_eq_true rfl)
  rw [lg_entry_eq]
  generalize (lg_sl ([.ref ab, .int (nI N)]) ++ List.replicate (3 - (lg_sl ([.ref ab, .int (nI N)])).length) Slot.unset).toArray = ls at hl ⊢
  have hl : lv_has ls 3 [(0, .ref ab), (1, .int (nI N))] := hl
  have hc70 : zN σ 1 < 71 := by omega
  refine lv_aload_n hx hb dJ5_ensureCapacityInternal_d00df_0 rfl (lv_at hl 0 rfl) ?_
  refine va_get (D := D) (ci := 1) (v := .ref (zN σ 0)) (C := RJ4) (T := TJ4) (N := 4) hx hb hts (in_tb inJ4) hown hK hP 0 rfl rfl 0 (by decide) (hts _ (List.mem_cons_of_mem _ tw_1_205)) (fun _ h9 => h9) rfl dJ5_ensureCapacityInternal_d00df_1 ?_
  refine va_alen (v := nI (zN σ 1)) hx hb hK hP 1 4 rfl rfl rfl dJ5_ensureCapacityInternal_d00df_4 ?_
  refine lv_aload_n hx hb dJ5_ensureCapacityInternal_d00df_5 rfl (lv_at hl 0 rfl) ?_
  refine va_get (D := D) (ci := 1) (v := .int 0) (C := RJ4) (T := TJ4) (N := 4) hx hb hts (in_tb inJ4) hown hK hP 0 rfl rfl 1 (by decide) (hts _ (List.mem_cons_of_mem _ tw_1_206)) (fun _ h9 => h9) rfl dJ5_ensureCapacityInternal_d00df_6 ?_
  refine lv_ishr hx hb dJ5_ensureCapacityInternal_d00df_9 ?_
  rw [shr0]
  refine lv_istore_n (lv' := [(2, .int (nI (zN σ 1))), (0, .ref ab), (1, .int (nI N))]) hx hb dJ5_ensureCapacityInternal_d00df_10 rfl hl (by decide) rfl (fun ls hl => ?_)
  refine lv_iload_n hx hb dJ5_ensureCapacityInternal_d00df_11 rfl (lv_at hl 2 rfl) ?_
  refine lv_iload_n hx hb dJ5_ensureCapacityInternal_d00df_12 rfl (lv_at hl 0 rfl) ?_
  refine lv_isub hx hb dJ5_ensureCapacityInternal_d00df_13 ?_
  refine lv_if_le (tgt := 38) hx hb dJ5_ensureCapacityInternal_d00df_14 (by decide) (fun q_ => ?_) (fun q_ => ?_)
  · have hle := (z_sub N (by omega) _ hc70).mp q_
    refine W.widen (k := 1) (n := 70) (by decide) (by decide) ?_
    exact W.vret hx hb hr (fun t ht hW => ⟨⟨σ, rfl, hno hle, by rw [ht]; exact hP, va_K.moved hW.alike hK, hD⟩, hS.F ht⟩) hS.2.2 dJ5_ensureCapacityInternal_d00df_38 hlk
  · have hlt : zN σ 1 < N := Nat.lt_of_not_le (fun z => q_ ((z_sub N (by omega) _ hc70).mpr z))
    have hC2 : zN σ 1 = 16 ∨ zN σ 1 = 34 := by omega
    refine lv_aload_n hx hb dJ5_ensureCapacityInternal_d00df_17 rfl (lv_at hl 1 rfl) ?_
    refine lv_aload_n hx hb dJ5_ensureCapacityInternal_d00df_18 rfl (lv_at hl 1 rfl) ?_
    refine va_get (D := D) (ci := 1) (v := .ref (zN σ 0)) (C := RJ4) (T := TJ4) (N := 4) hx hb hts (in_tb inJ4) hown hK hP 0 rfl rfl 0 (by decide) (hts _ (List.mem_cons_of_mem _ tw_1_205)) (fun _ h9 => h9) rfl dJ5_ensureCapacityInternal_d00df_19 ?_
    refine lv_aload_n hx hb dJ5_ensureCapacityInternal_d00df_22 rfl (lv_at hl 1 rfl) ?_
    refine lv_iload_n hx hb dJ5_ensureCapacityInternal_d00df_23 rfl (lv_at hl 2 rfl) ?_
    refine bU_i (As := [.int (nI N)]) (rest := [.ref (zN σ 0), .ref ab]) C (met_J5_newCapacity_0f7a4 vE vM vB (z_newCap hC2 hlt hN2)) (b_cu 1 hts (TB_G (pre := []) (fun _ h => nomatch h) tw_2_219) rfl rfl rfl (hts _ (List.mem_cons_of_mem _ tw_2_216)) (hts _ (List.mem_cons_of_mem _ tw_6_214)) (hts _ (List.mem_cons_of_mem _ tw_2_218)) (hts _ (List.mem_cons_of_mem _ tw_1_9)) (va_Nw.use rfl (vB _ _ _ hE).2.1) (by decide +kernel) ⟨by decide, by decide⟩) hP hD hS rfl hl.1 rfl (Nat.le_of_ble_eq_true rfl) dJ5_ensureCapacityInternal_d00df_24 ⟨by decide, by decide⟩ (fun r u H locs hw hP hD hS => ?_)
    rw [hw.2] at hP hD
    rw [hw.1]
    refine lv_aload_n hx hb dJ5_ensureCapacityInternal_d00df_27 rfl (lv_at hl 1 rfl) ?_
    refine va_get (D := D) (ci := 1) (v := .int 0) (C := RJ4) (T := TJ4) (N := 4) hx hb hts (in_tb inJ4) hown hK hP 0 rfl rfl 1 (by decide) (hts _ (List.mem_cons_of_mem _ tw_1_206)) (fun _ h9 => h9) rfl dJ5_ensureCapacityInternal_d00df_28 ?_
    refine lv_ishl hx hb dJ5_ensureCapacityInternal_d00df_31 ?_
    rw [shl0]
    have hPc : va_P D vwCl [(zN σ 0, .inl (cA 4, zN σ 1, .inl (zA σ 0)))] H := hP.sub [1] rfl
    have hDc : va_D A [(zN σ 0, .inl (cA 4, zN σ 1, .inl (zA σ 0)))] := hD.sub [1] (by decide) rfl
    have hFc := va_free (wc := [(zN σ 0, .inl (cA 4, zN σ 1, .inl (zA σ 0)))]) hD hS hA [1] rfl
    refine va_callr (va_runS (As := [.ref (zN σ 0), .int (nI (2 * zN σ 1 + 2))]) (rest := [.ref ab]) ⟨hx, hb, hml, hown, hts⟩ (met_copyOf vE vM (by omega) (by omega) hfit) (va_cwS 2 hts (TB_G (TB_3 tw_2_229 tw_2_230 tw_1_27) tw_2_231) rfl rfl rfl (by decide +kernel) ⟨by decide, by decide⟩) ⟨gPre.blind vE, fun U hU hW => ⟨rfl, by rw [hU], by rw [hU]; exact hPc, va_K.moved hW.alike hK, hDc.weaken (fun _ _ _ _ => trivial), vE.at hE hS hU hW hFc⟩⟩ rfl rfl hl.1 rfl (lv_room (Nat.le_of_ble_eq_true rfl)) dJ5_ensureCapacityInternal_d00df_32 ⟨by decide, by decide⟩) hS (fun q _ h => hFc q h) hFc (fun q ra t H1 locs ht hvm hw hB hz1 hk1 hS => ?_)
    obtain ⟨hra, hP1, hK1, hD1⟩ := hB
    rw [ht] at hP1
    rw [hra]
    obtain ⟨hP, hD⟩ := va_join (wr := [(ab, .inr (1, [.ref (zN σ 0), .int 0, .int (zI σ 0), .int (zI σ 1)]))]) (w1 := [(zN σ 0, .inl (cA 4, zN σ 1, .inl (zA σ 0))), (q, .inl (cA 4, 2 * zN σ 1 + 2, .inl (va_cpy (zA σ 0) (fun _ => 0) 0 0 (zN σ 1))))]) hP hD [1] [0] rfl rfl (by decide) (by decide) hk1 hFc hP1 hD1
    generalize H1 = H at hP hS ⊢
    refine va_put (D := D) (ci := 1) (v := .ref q) (ty := .array .byte) (C := RJ4) (T := TJ4) (N := 4) hx hb hts (in_tb inJ4) tyJ4 tyJ4_ok nmJ4 hown hK hP hD hS 0 rfl rfl 0 (by decide) (hts _ (List.mem_cons_of_mem _ tw_1_205)) (fun _ h9 => h9) rfl (by decide +kernel) rfl rfl (Nat.le_of_ble_eq_true rfl) dJ5_ensureCapacityInternal_d00df_35 (fun H locs hP hD hS => ?_)
    have hP : va_P D vwCl (zW cA ab (zGrow σ q)) H := hP.sub [0, 2] rfl
    have hD : va_D A (zW cA ab (zGrow σ q)) := hD.sub [0, 2] (by decide) rfl
    refine W.widen (k := 1) (n := 70) (by decide) (by decide) ?_
    exact W.vret hx hb hr (fun t ht hW => ⟨⟨zGrow σ q, rfl, hyes hlt q, by rw [ht]; exact hP, va_K.moved hW.alike hK, hD⟩, hS.F ht⟩) hS.2.2 dJ5_ensureCapacityInternal_d00df_38 hlk
