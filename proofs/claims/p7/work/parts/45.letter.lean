/-! letter of the class (printed by wip/tools/mklet.py) -/
def xzW (cA : Nat → ClassId) (aE ad : Nat → Nat) (σ : XS) (β : BS) : va_W := xW cA aE ad σ ++ zW cA (ad 24) β
section XZ
variable {p : Program} {l : Launch} {e : Env} {R : Room} {s : State} {m : MethodId} {args : Array Value} {below : List Frame} {meth : Method} {c : Code} {H : Heap} {locs : List Loc} {cells slots mc ms : Nat} {Q : State → Prop}
variable {E : EnvT} {own C : String} {D : va_G} {cA : Nat → ClassId} {aE ad : Nat → Nat} {a : Nat} {A : Nat → Prop} {σ : XS} {β : BS} {y : MethodName} {bytes : ByteArray} {maxL nL n index pc : Nat} {ret : Option FieldType} {ws : List Cond} {rm : Room} {Ts : List Cond} {cc : ByteArray} {rt : Option FieldType} {As rest st0 : List Value} {ls : Array Slot}
theorem xzX_i {post : Int32 → XS → Prop} (Cx : xCx p s m args meth c cc nL rt Ts own E D cA A)
    (hM : Met l y ws rm (va_Pc (.ref a :: As) (xPre E D cA aE ad H.size σ)) (va_Qi post (xAt D cA aE ad (va_A (xW cA aE ad σ) H.size)) (va_A (xW cA aE ad σ) H.size)) mc ms (va_A (xW cA aE ad σ) H.size)) (hrc : ∃ cell : Cell, H[a]? = some cell ∧ cell.vm.isStatics = false ∧ s.vm.findClass C = some cell.cls) (cw : CallW R s args own C index y bytes maxL ret ws rm mc ms n)
    (hP : va_P D vwCl (xzW cA aE ad σ β) H) (hD : va_D A (xzW cA aE ad σ β)) (hS : va_S A s.heap H locs) (hn : As.length = n) (hsize : ls.size = nL) (hst : st0 = As.reverse ++ .ref a :: rest) (hR : (rest.map fun v => v.category).sum ≤ 8) (hdg : decode cc pc = .ok (.invokevirtual index, 3)) (hf : cells + mc ≤ R.cells ∧ slots + ms ≤ R.slots)
    (kk : ∀ (r : Int32) (u : XS) (H1 : Heap) (locs1 : List Loc), post r u → va_P D vwCl (xzW cA aE ad u β) H1 → va_D A (xzW cA aE ad u β) → va_S A s.heap H1 locs1 → W p l e R s m args below meth c H1 locs1 (cells + mc) (slots + ms) Q (F0 m (pc + 3) ls (.int r :: rest))) :
    W p l e R s m args below meth c H locs cells slots Q (F0 m pc ls st0) := by
  obtain ⟨hx, hb, hml, hr, hown, hts, hK, hA, hlk, hE, vE⟩ := Cx
  have hPc : va_P D vwCl (xW cA aE ad σ) H := hP.sub [0, 1, 2, 3, 4, 5, 6, 7, 8, 9, 10, 11, 12, 13, 14, 15, 16, 17, 18, 19, 20, 21, 22, 23] rfl
  have hDc : va_D A (xW cA aE ad σ) := hD.sub [0, 1, 2, 3, 4, 5, 6, 7, 8, 9, 10, 11, 12, 13, 14, 15, 16, 17, 18, 19, 20, 21, 22, 23] (by decide) rfl
  have hFc : ∀ q, va_A (xW cA aE ad σ) H.size q → A q := va_free (wc := (xW cA aE ad σ)) hD hS hA [0, 1, 2, 3, 4, 5, 6, 7, 8, 9, 10, 11, 12, 13, 14, 15, 16, 17, 18, 19, 20, 21, 22, 23] rfl
  refine va_calli (va_runV (As := As) (rest := rest) ⟨hx, hb, hml, hown, hts⟩ hM cw ⟨xPre.blind vE, hrc, fun U hU hW => ⟨rfl, by rw [hU], by rw [hU]; exact hPc, va_K.moved hW.alike hK, hDc.weaken (fun _ _ _ _ => trivial), vE.at hE hS hU hW hFc⟩⟩ rfl hn hsize hst (lv_room hR) hdg hf) hS (fun q _ h => hFc q h) hFc (fun r u t H1 locs ht hvm hw hB hz1 hk1 hS => ?_)
  obtain ⟨hP1, hK1, hD1⟩ := hB
  rw [ht] at hP1
  obtain ⟨hP, hD⟩ := va_join (wr := (zW cA (ad 24) β)) (w1 := (xW cA aE ad u)) hP hD [0, 1, 2, 3, 4, 5, 6, 7, 8, 9, 10, 11, 12, 13, 14, 15, 16, 17, 18, 19, 20, 21, 22, 23] [24, 25] rfl rfl (by decide) (by decide) hk1 hFc hP1 hD1
  exact kk r u H1 locs hw (hP.sub [2, 3, 4, 5, 6, 7, 8, 9, 10, 11, 12, 13, 14, 15, 16, 17, 18, 19, 20, 21, 22, 23, 24, 25, 0, 1] rfl) (hD.sub [2, 3, 4, 5, 6, 7, 8, 9, 10, 11, 12, 13, 14, 15, 16, 17, 18, 19, 20, 21, 22, 23, 24, 25, 0, 1] (by decide) rfl) hS
theorem xzS_i {post : Int32 → BS → Prop} (Cx : xCx p s m args meth c cc nL rt Ts own E D cA A)
    (hM : Met l y ws rm (va_Pc (.ref a :: As) (spPre E D cA (ad 23) (ad 24) H.size β)) (va_Qi post (spAt D cA (ad 23) (ad 24) (va_A (spW cA (ad 23) (ad 24) β) H.size)) (va_A (spW cA (ad 23) (ad 24) β) H.size)) mc ms (va_A (spW cA (ad 23) (ad 24) β) H.size)) (hrc : ∃ cell : Cell, H[a]? = some cell ∧ cell.vm.isStatics = false ∧ s.vm.findClass C = some cell.cls) (cw : CallW R s args own C index y bytes maxL ret ws rm mc ms n)
    (hP : va_P D vwCl (xzW cA aE ad σ β) H) (hD : va_D A (xzW cA aE ad σ β)) (hS : va_S A s.heap H locs) (hn : As.length = n) (hsize : ls.size = nL) (hst : st0 = As.reverse ++ .ref a :: rest) (hR : (rest.map fun v => v.category).sum ≤ 8) (hdg : decode cc pc = .ok (.invokevirtual index, 3)) (hf : cells + mc ≤ R.cells ∧ slots + ms ≤ R.slots)
    (kk : ∀ (r : Int32) (u : BS) (H1 : Heap) (locs1 : List Loc), post r u → va_P D vwCl (xzW cA aE ad σ u) H1 → va_D A (xzW cA aE ad σ u) → va_S A s.heap H1 locs1 → W p l e R s m args below meth c H1 locs1 (cells + mc) (slots + ms) Q (F0 m (pc + 3) ls (.int r :: rest))) :
    W p l e R s m args below meth c H locs cells slots Q (F0 m pc ls st0) := by
  obtain ⟨hx, hb, hml, hr, hown, hts, hK, hA, hlk, hE, vE⟩ := Cx
  have hPc : va_P D vwCl (spW cA (ad 23) (ad 24) β) H := hP.sub [23, 24, 25] rfl
  have hDc : va_D A (spW cA (ad 23) (ad 24) β) := hD.sub [23, 24, 25] (by decide) rfl
  have hFc : ∀ q, va_A (spW cA (ad 23) (ad 24) β) H.size q → A q := va_free (wc := (spW cA (ad 23) (ad 24) β)) hD hS hA [23, 24, 25] rfl
  refine va_calli (va_runV (As := As) (rest := rest) ⟨hx, hb, hml, hown, hts⟩ hM cw ⟨spPre.blind vE, hrc, fun U hU hW => ⟨rfl, by rw [hU], by rw [hU]; exact hPc, va_K.moved hW.alike hK, hDc.weaken (fun _ _ _ _ => trivial), vE.at hE hS hU hW hFc⟩⟩ rfl hn hsize hst (lv_room hR) hdg hf) hS (fun q _ h => hFc q h) hFc (fun r u t H1 locs ht hvm hw hB hz1 hk1 hS => ?_)
  obtain ⟨hP1, hK1, hD1⟩ := hB
  rw [ht] at hP1
  obtain ⟨hP, hD⟩ := va_join (wr := ((xW cA aE ad σ).take 23)) (w1 := (spW cA (ad 23) (ad 24) u)) hP hD [23, 24, 25] [0, 1, 2, 3, 4, 5, 6, 7, 8, 9, 10, 11, 12, 13, 14, 15, 16, 17, 18, 19, 20, 21, 22] rfl rfl (by decide) (by decide) hk1 hFc hP1 hD1
  exact kk r u H1 locs hw (hP.sub [0, 1, 2, 3, 4, 5, 6, 7, 8, 9, 10, 11, 12, 13, 14, 15, 16, 17, 18, 19, 20, 21, 22, 23, 24, 25] rfl) (hD.sub [0, 1, 2, 3, 4, 5, 6, 7, 8, 9, 10, 11, 12, 13, 14, 15, 16, 17, 18, 19, 20, 21, 22, 23, 24, 25] (by decide) rfl) hS
end XZ
def wp_X8_letter (post : Int32 → XS × BS → Prop) (x1 x2 : Int32) (σ : XS) (β : BS) : Prop :=
  wp_X0_has (fun r_1 σ_2 => (r_1 = 0 → post (-1) (σ_2, β)) ∧ (¬ r_1 = 0 → (vp_in x1 64 ∧ ((xQ σ_2 1 x1.toNatClampNeg = none → (vp_in x1 64 ∧ wp_X4_letterOf_n (fun r β' => post r (σ_2, β')) (xL σ_2 6 x1.toNatClampNeg) x2 β)) ∧ (∀ e_4 : Nat, xQ σ_2 1 x1.toNatClampNeg = some e_4 → (vp_in x1 64 ∧ wp_X4_letterOf_s (fun r β' => post r (σ_2, β')) e_4 (xL σ_2 6 x1.toNatClampNeg) x2 β)))))) x1 σ
def rm_X8_letter : Room := { frames := 9, cells := 34, slots := 2380, locals := 235 }
set_option maxHeartbeats 4000000 in
set_option maxRecDepth 100000 in
theorem met_X8_letter {l : Launch} {E : EnvT} (vE : EnvOk E) {aK aV aE : Nat → Nat} {aO dO dT : Nat} (vM : eXs aK aV aE aO E) (vB : eBs dO dT E) {D : va_G} {cA : Nat → ClassId} {ad : Nat → Nat} {sz : Nat} {σ : XS} {β : BS} {x1 x2 : Int32} {post : Int32 → XS × BS → Prop} (hw : wp_X8_letter post x1 x2 σ β) :
    Met l yX8_letter wgX8_letter rm_X8_letter (va_Pc [.ref (ad 0), .int x1, .int x2] (gPre E D cA sz (xzW cA aE ad σ β))) (va_Qi post (fun u t => gAt D cA (va_A (xzW cA aE ad σ β) sz) (xzW cA aE ad u.1 u.2) t) (va_A (xzW cA aE ad σ β) sz)) 34 2380 (va_A (xzW cA aE ad σ β) sz) := by
  refine Met.ofW (cc := cX8_letter) (maxL := 3) (ret := some .int) (by decide +kernel) rfl ?_
  intro p e s m args below meth c s₁ B hml hv
  obtain ⟨rfl, hsz, hP, hK, hD0, hE⟩ := hv
  have hx := B.exec
  have hb := B.bytes
  have hr := B.returns
  have hts := atoms_spec (ws := wgX8_letter) B.pre
  have hown : s.vm.findClass RX8 = some m.cls := findClass_of_methodNamed B.named
  have hlk := B.notSynchronized
  subst hsz
  have hD := hD0.self (sz := s.heap.size)
  generalize hAe : va_A (xzW cA aE ad σ β) s.heap.size = A at hD hE ⊢
  have hA : ∀ q : Nat, s.heap.size ≤ q → A q := fun q h => by rw [← hAe]; exact Or.inr h
  have hS : va_S A s.heap s.heap [] := va_S.rf
  have C : xCx p s m _ meth c cX8_letter 3 (some .int) wgX8_letter RX8 E D cA A := ⟨hx, hb, hml, hr, hown, hts, hK, hA, hlk, hE, vE⟩
  have hl := lv_entry ([.ref (ad 0), .int x1, .int x2]) (n := 3) (Nat.le_of_ble_eq_true rfl)
  rw [lg_entry_eq]
  generalize (lg_sl ([.ref (ad 0), .int x1, .int x2]) ++ List.replicate (3 - (lg_sl ([.ref (ad 0), .int x1, .int x2])).length) Slot.unset).toArray = ls at hl ⊢
  have hl : lv_has ls 3 [(0, .ref (ad 0)), (1, .int x1), (2, .int x2)] := hl
  unfold wp_X8_letter at hw
  refine lv_aload_n hx hb dX8_letter_0 rfl (lv_at hl 0 rfl) ?_
  refine va_get (D := D) (ci := 10) (v := .ref (ad 17)) (C := RX8) (T := TX8) (N := 6) hx hb hts (in_tb inX8) hown hK hP 0 rfl rfl 3 (by decide) (hts _ (List.mem_cons_of_mem _ tw_1_227)) (fun _ h9 => h9) rfl dX8_letter_1 ?_
  refine lv_iload_n hx hb dX8_letter_4 rfl (lv_at hl 1 rfl) ?_
  refine xzX_i (As := [.int x1]) (rest := []) C (met_X0_has vE vM hw) (va_recv hK hP (ci := 2) (q0 := 17) rfl rfl) (cwV 1 hts (TB_G (TB_4 tw_2_197 tw_2_198 tw_2_199 tw_1_6) tw_2_200) rfl rfl rfl (by decide +kernel) ⟨by decide, by decide⟩) hP hD hS rfl hl.1 rfl (Nat.le_of_ble_eq_true rfl) dX8_letter_5 ⟨by decide, by decide⟩ (fun r_1 σ_2 H locs hw hP hD hS => ?_)
  skip
  refine lv_if_ne (tgt := 13) hx hb dX8_letter_8 (by decide) (fun q_ => ?_) (fun q_ => ?_)
  · have hw := hw.2 q_
    refine lv_aload_n hx hb dX8_letter_13 rfl (lv_at hl 0 rfl) ?_
    refine va_get (D := D) (ci := 10) (v := .ref (ad 23)) (C := RX8) (T := TX8) (N := 6) hx hb hts (in_tb inX8) hown hK hP 0 rfl rfl 5 (by decide) (hts _ (List.mem_cons_of_mem _ tw_1_229)) (fun _ h9 => h9) rfl dX8_letter_14 ?_
    refine lv_aload_n hx hb dX8_letter_17 rfl (lv_at hl 0 rfl) ?_
    refine va_get (D := D) (ci := 10) (v := .ref (ad 17)) (C := RX8) (T := TX8) (N := 6) hx hb hts (in_tb inX8) hown hK hP 0 rfl rfl 3 (by decide) (hts _ (List.mem_cons_of_mem _ tw_1_227)) (fun _ h9 => h9) rfl dX8_letter_18 ?_
    refine va_get (D := D) (ci := 2) (v := .ref (ad 19)) (C := RX0) (T := TX0) (N := 5) hx hb hts (in_tb inX0) hown hK hP 17 rfl rfl 1 (by decide) (hts _ (List.mem_cons_of_mem _ tw_1_154)) (fun _ h9 => h9) rfl dX8_letter_21 ?_
    refine lv_iload_n hx hb dX8_letter_24 rfl (lv_at hl 1 rfl) ?_
    obtain ⟨h_3, hw⟩ := hw
    refine va_aldq hx hb hK hP 19 3 rfl rfl h_3 dX8_letter_25 ?_
    rcases q_5 : xQ σ_2 1 x1.toNatClampNeg with _ | e_4
    · have hw := hw.1 q_5
      refine q_none rfl ?_
      refine lv_aload_n hx hb dX8_letter_26 rfl (lv_at hl 0 rfl) ?_
      refine va_get (D := D) (ci := 10) (v := .ref (ad 17)) (C := RX8) (T := TX8) (N := 6) hx hb hts (in_tb inX8) hown hK hP 0 rfl rfl 3 (by decide) (hts _ (List.mem_cons_of_mem _ tw_1_227)) (fun _ h9 => h9) rfl dX8_letter_27 ?_
      refine va_get (D := D) (ci := 2) (v := .ref (ad 18)) (C := RX0) (T := TX0) (N := 5) hx hb hts (in_tb inX0) hown hK hP 17 rfl rfl 0 (by decide) (hts _ (List.mem_cons_of_mem _ tw_1_151)) (fun _ h9 => h9) rfl dX8_letter_30 ?_
      refine lv_iload_n hx hb dX8_letter_33 rfl (lv_at hl 1 rfl) ?_
      obtain ⟨h_6, hw⟩ := hw
      refine va_lald hx hb hK hP 18 1 rfl rfl h_6 dX8_letter_34 ?_
      refine lv_iload_n hx hb dX8_letter_35 rfl (lv_at hl 2 rfl) ?_
      refine xzS_i (As := [.null, .long (xL σ_2 6 x1.toNatClampNeg), .int x2]) (rest := []) C (met_X4_letterOf_n vE vM vB hw) (va_recv hK hP (ci := 6) (q0 := 23) rfl rfl) (cwV 3 hts (TB_G (TB_4 tw_2_201 tw_2_202 tw_2_203 tw_1_8) tw_2_204) rfl rfl rfl (by decide +kernel) ⟨by decide, by decide⟩) hP hD hS rfl hl.1 rfl (Nat.le_of_ble_eq_true rfl) dX8_letter_36 ⟨by decide, by decide⟩ (fun r u H locs hw hP hD hS => ?_)
      exact W.iret (v := r) hx hb hr (fun t ht hW => ⟨⟨r, (σ_2, u), rfl, hw, by rw [ht]; exact hP, va_K.moved hW.alike hK, hD⟩, hS.F ht⟩) hS.2.2 dX8_letter_39 hlk
    · have hw := hw.2 e_4 q_5
      refine q_some rfl ?_
      refine lv_aload_n hx hb dX8_letter_26 rfl (lv_at hl 0 rfl) ?_
      refine va_get (D := D) (ci := 10) (v := .ref (ad 17)) (C := RX8) (T := TX8) (N := 6) hx hb hts (in_tb inX8) hown hK hP 0 rfl rfl 3 (by decide) (hts _ (List.mem_cons_of_mem _ tw_1_227)) (fun _ h9 => h9) rfl dX8_letter_27 ?_
      refine va_get (D := D) (ci := 2) (v := .ref (ad 18)) (C := RX0) (T := TX0) (N := 5) hx hb hts (in_tb inX0) hown hK hP 17 rfl rfl 0 (by decide) (hts _ (List.mem_cons_of_mem _ tw_1_151)) (fun _ h9 => h9) rfl dX8_letter_30 ?_
      refine lv_iload_n hx hb dX8_letter_33 rfl (lv_at hl 1 rfl) ?_
      obtain ⟨h_7, hw⟩ := hw
      refine va_lald hx hb hK hP 18 1 rfl rfl h_7 dX8_letter_34 ?_
      refine lv_iload_n hx hb dX8_letter_35 rfl (lv_at hl 2 rfl) ?_
      refine xzS_i (As := [.ref (aE e_4), .long (xL σ_2 6 x1.toNatClampNeg), .int x2]) (rest := []) C (met_X4_letterOf_s vE vM vB hw) (va_recv hK hP (ci := 6) (q0 := 23) rfl rfl) (cwV 3 hts (TB_G (TB_4 tw_2_201 tw_2_202 tw_2_203 tw_1_8) tw_2_204) rfl rfl rfl (by decide +kernel) ⟨by decide, by decide⟩) hP hD hS rfl hl.1 rfl (Nat.le_of_ble_eq_true rfl) dX8_letter_36 ⟨by decide, by decide⟩ (fun r u H locs hw hP hD hS => ?_)
      exact W.iret (v := r) hx hb hr (fun t ht hW => ⟨⟨r, (σ_2, u), rfl, hw, by rw [ht]; exact hP, va_K.moved hW.alike hK, hD⟩, hS.F ht⟩) hS.2.2 dX8_letter_39 hlk
  · have hw := hw.1 q_
    refine lv_iconst (v := (-1)) hx hb dX8_letter_11 (by decide) ?_
    refine W.widen (k := 34) (n := 2380) (by decide) (by decide) ?_
    exact W.iret (v := (-1)) hx hb hr (fun t ht hW => ⟨⟨(-1), (σ_2, β), rfl, hw, by rw [ht]; exact hP, va_K.moved hW.alike hK, hD⟩, hS.F ht⟩) hS.2.2 dX8_letter_12 hlk
