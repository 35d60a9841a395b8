/-! the class's constructors (printed by wip/tools/xctor.py) -/
abbrev gPre (E : EnvT) (D : va_G) (cA : Nat → ClassId) (sz : Nat) (ws : va_W) (U : State) : Prop := U.heap.size = sz ∧ va_P D vwCl ws U.heap ∧ va_K D vwCl (xT cA) U ∧ va_D (fun _ => True) ws ∧ E (va_A ws sz) U U.heap
abbrev gAt (D : va_G) (cA : Nat → ClassId) (A : Nat → Prop) (ws : va_W) (t : State) : Prop := va_P D vwCl ws t.heap ∧ va_K D vwCl (xT cA) t ∧ va_D A ws
theorem gPre.blind {E : EnvT} (vE : EnvOk E) {D : va_G} {cA : Nat → ClassId} {sz : Nat} {ws : va_W} {av : List Value} : FrameBlind (va_Pc av (gPre E D cA sz ws)) := fun a U g mk q => by
  obtain ⟨q0, q1, qP, qK, qD, qE⟩ := q
  exact ⟨q0, q1, qP, va_K.moved (u := U) (U := U.calling g mk a) (Vm.Alike.refl U.vm) qK, qD, vE.1 _ U (U.calling g mk a) _ (State.WarmedH.refl U) qE⟩
section GI
variable {p : Program} {l : Launch} {e : Env} {R : Room} {s : State} {m : MethodId} {args : Array Value} {below : List Frame} {meth : Method} {c : Code} {H : Heap} {locs : List Loc} {cells slots : Nat} {Q : State → Prop}
variable {E : EnvT} {own host : String} {D : va_G} {cA : Nat → ClassId} {A : Nat → Prop} {y : MethodName} {bytes : ByteArray} {maxL nL n index pc b mc ms : Nat} {wsC : List Cond} {rm : Room} {Ts : List Cond} {cc : ByteArray} {rt : Option FieldType} {As rest st0 : List Value} {ls : Array Slot} {ws wr : va_W} {w1 : (Nat → Nat) → va_W} {bl : va_E}
theorem gI_v (Cx : xCx p s m args meth c cc nL rt Ts own E D cA A)
    (hM : Met l y wsC rm (va_Pc (.ref b :: As) (gPre E D cA H.size [(b, bl)])) (va_Qv (fun _ : Nat → Nat => True) (fun u t => gAt D cA (va_A [(b, bl)] H.size) (w1 u) t) (va_A [(b, bl)] H.size)) mc ms (va_A [(b, bl)] H.size))
    (cw : CallB R s args own index y bytes maxL none wsC rm mc ms n ∧ y.name = "<init>" ∧ (Cond.instanceMethod y).before args s = true) (hP : va_P D vwCl ws H) (hD : va_D A ws) (hS : va_S A s.heap H locs) (i : Nat) (isR : List Nat) (hC : ws[i]? = some (b, bl)) (hR : isR.map (fun i => ws[i]?) = wr.map some) (hnd : va_nd isR = true) (hdis : ∀ j ∈ isR, j ∉ [i])
    (hn : As.length = n) (hsize : ls.size = nL) (hst : st0 = As.reverse ++ .ref b :: rest) (hRm : (rest.map fun v => v.category).sum ≤ 8) (hdg : decode cc pc = .ok (.invokespecial index, 3)) (hf : cells + mc ≤ R.cells ∧ slots + ms ≤ R.slots)
    (kk : ∀ (u : Nat → Nat) (H1 : Heap) (locs1 : List Loc), va_P D vwCl (wr ++ w1 u) H1 → va_D A (wr ++ w1 u) → va_S A s.heap H1 locs1 → W p l e R s m args below meth c H1 locs1 (cells + mc) (slots + ms) Q (F0 m (pc + 3) ls rest)) :
    W p l e R s m args below meth c H locs cells slots Q (F0 m pc ls st0) := by
  obtain ⟨hx, hb, hml, hr, hown, hts, hK, hA, hlk, hE, vE⟩ := Cx
  have hC' : [i].map (fun i => ws[i]?) = ([(b, bl)] : va_W).map some := by simp [hC]
  have hFc : ∀ q, va_A [(b, bl)] H.size q → A q := va_free (wc := [(b, bl)]) hD hS hA [i] hC'
  have hPc : va_P D vwCl [(b, bl)] H := hP.sub [i] (by simp [hC])
  have hDc : va_D A [(b, bl)] := hD.sub [i] rfl hC'
  refine va_callv (va_runI (As := As) (rest := rest) ⟨hx, hb, hml, hown, hts⟩ hM cw ⟨gPre.blind vE, fun U hU hW => ⟨rfl, by rw [hU], by rw [hU]; exact hPc, va_K.moved hW.alike hK, hDc.weaken (fun _ _ _ _ => trivial), vE.at hE hS hU hW hFc⟩⟩ rfl hn hsize hst (lv_room hRm) hdg hf) hS (fun q _ h => hFc q h) hFc (fun u t H1 locs ht hvm hw hB hz1 hk1 hS => ?_)
  obtain ⟨hP1, hK1, hD1⟩ := hB
  rw [ht] at hP1
  obtain ⟨hP, hD⟩ := va_join (wr := wr) (w1 := w1 u) hP hD [i] isR hC' hR hnd hdis hk1 hFc hP1 hD1
  exact kk u H1 locs hP hD hS
theorem gI_n (Cx : xCx p s m args meth c cc nL rt Ts own E D cA A)
    (hM : Met l y wsC rm (va_Pc (.ref b :: As) (gPre E D cA H.size [(b, bl)])) (va_Qv (fun _ : Nat → Nat => True) (fun u t => gAt D cA (va_A [(b, bl)] H.size) (w1 u) t) (va_A [(b, bl)] H.size)) mc ms (va_A [(b, bl)] H.size))
    (cw : va_CN R s args own index y host bytes maxL none wsC rm mc ms n ∧ y.name = "<init>" ∧ (Cond.instanceMethod y).before args s = true) (hP : va_P D vwCl ws H) (hD : va_D A ws) (hS : va_S A s.heap H locs) (i : Nat) (isR : List Nat) (hC : ws[i]? = some (b, bl)) (hR : isR.map (fun i => ws[i]?) = wr.map some) (hnd : va_nd isR = true) (hdis : ∀ j ∈ isR, j ∉ [i])
    (hn : As.length = n) (hsize : ls.size = nL) (hst : st0 = As.reverse ++ .ref b :: rest) (hRm : (rest.map fun v => v.category).sum ≤ 8) (hdg : decode cc pc = .ok (.invokespecial index, 3)) (hf : cells + mc ≤ R.cells ∧ slots + ms ≤ R.slots)
    (kk : ∀ (u : Nat → Nat) (H1 : Heap) (locs1 : List Loc), va_P D vwCl (wr ++ w1 u) H1 → va_D A (wr ++ w1 u) → va_S A s.heap H1 locs1 → W p l e R s m args below meth c H1 locs1 (cells + mc) (slots + ms) Q (F0 m (pc + 3) ls rest)) :
    W p l e R s m args below meth c H locs cells slots Q (F0 m pc ls st0) := by
  obtain ⟨hx, hb, hml, hr, hown, hts, hK, hA, hlk, hE, vE⟩ := Cx
  have hC' : [i].map (fun i => ws[i]?) = ([(b, bl)] : va_W).map some := by simp [hC]
  have hFc : ∀ q, va_A [(b, bl)] H.size q → A q := va_free (wc := [(b, bl)]) hD hS hA [i] hC'
  have hPc : va_P D vwCl [(b, bl)] H := hP.sub [i] (by simp [hC])
  have hDc : va_D A [(b, bl)] := hD.sub [i] rfl hC'
  refine va_callv (va_runIN (As := As) (rest := rest) ⟨hx, hb, hml, hown, hts⟩ hM cw ⟨gPre.blind vE, fun U hU hW => ⟨rfl, by rw [hU], by rw [hU]; exact hPc, va_K.moved hW.alike hK, hDc.weaken (fun _ _ _ _ => trivial), vE.at hE hS hU hW hFc⟩⟩ rfl hn hsize hst (lv_room hRm) hdg hf) hS (fun q _ h => hFc q h) hFc (fun u t H1 locs ht hvm hw hB hz1 hk1 hS => ?_)
  obtain ⟨hP1, hK1, hD1⟩ := hB
  rw [ht] at hP1
  obtain ⟨hP, hD⟩ := va_join (wr := wr) (w1 := w1 u) hP hD [i] isR hC' hR hnd hdis hk1 hFc hP1 hD1
  exact kk u H1 locs hP hD hS
end GI
theorem nq_same {p : Program} {l : Launch} {e : Env} {R : Room} {s : State} {m : MethodId} {args : Array Value} {below : List Frame} {meth : Method} {c : Code} {H : Heap} {locs : List Loc} {cells slots : Nat} {Q : State → Prop} {D : va_G} {cl : List vw_C} {tys : List (ClassId × FieldType)} {ws : va_W} {A : Nat → Prop} {H0 : Heap} {cc : ByteArray} {pc : Nat} {ls : Array Slot} {rest : List Value} (hexec : p.tables.exec = Jvm.exec) (hb : c.code = cc) {own C : String} {index : Nat} (hown : s.vm.findClass own = some m.cls) (hclink : (Cond.classLink own index C).before args s = true) (hover : va_AO C s) (hK : va_K D cl tys s) (hP : va_P D cl ws H) (hD : va_D A ws) (hS : va_S A H0 H locs) (hA : ∀ q, H0.size ≤ q → A q)
    {n : Int32} {N' : Nat} (hn : ¬ n < 0) (hN : n.toNatClampNeg = N') (hbytes : N' * 4 ≤ 536870912) (hcells : cells + 1 ≤ R.cells) (hslots : slots + N' ≤ R.slots) (t0 : Nat) {c0 : ClassId} (ht : tys[t0]? = some (c0, .object C)) (hdg : decode cc pc = .ok (.anewarray index, 3))
    (kk : ∀ (q : Nat) (H1 : Heap), va_P D cl (ws ++ [(q, .inl (c0, N', .inr (.inr (.inr (.inr (fun _ => none))))))]) H1 → va_D A (ws ++ [(q, .inl (c0, N', .inr (.inr (.inr (.inr (fun _ => none))))))]) → va_S A H0 H1 locs →
      W p l e R s m args below meth c H1 locs (cells + 1) (slots + N') Q (F0 m (pc + 3) ls (.ref q :: rest))) : W p l e R s m args below meth c H locs cells slots Q (F0 m pc ls (.int n :: rest)) := by
  refine va_newq hexec hb hown hclink hover hK hP hD hS hA hn hN hbytes hcells hslots hdg (fun q cA H1 hK2 hP2 hD2 hS2 => ?_)
  obtain ⟨-, -, -, -, -, h1⟩ := (hK2.2 tys.length (cA, .object C) (by simp)).2
  obtain ⟨-, -, -, -, -, h2⟩ := (hK.2 t0 _ ht).2
  have e9 : cA = c0 := Option.some.inj (h1.symm.trans h2)
  subst e9
  exact kk q H1 hP2 hD2 hS2
def x0 : XS := (fun _ => 0, fun _ _ => 0, fun _ _ => 0, fun _ _ => none)
def cw_J5_init_d00df (cA : Nat → ClassId) (h : Nat) (u : Nat → Nat) : va_W := [(h, .inr (1, [.ref (u 0), .int 0, .int 0, .int 0])), (u 0, .inl (cA 4, 16, .inl (fun _ => 0)))]
def rm_J5_init_d00df : Room := { frames := 1, cells := 1, slots := 16, locals := 12 }
abbrev wgJ5_init_d00df : List Cond := .code yJ5_init_d00df cJ5_init_d00df 2 none :: TB
set_option maxHeartbeats 8000000 in
set_option maxRecDepth 100000 in
theorem met_J5_init_d00df {l : Launch} {E : EnvT} (vE : EnvOk E) {aK aV aE : Nat → Nat} {aO : Nat} (vM : eXs aK aV aE aO E) {D : va_G} {cA : Nat → ClassId} {h sz : Nat} : Met l yJ5_init_d00df wgJ5_init_d00df rm_J5_init_d00df (va_Pc [.ref h, .int 16] (gPre E D cA sz [(h, .inr (1, [.null, .int 0, .int 0, .int 0]))])) (va_Qv (fun _ : Nat → Nat => True) (fun u t => gAt D cA (va_A [(h, .inr (1, [.null, .int 0, .int 0, .int 0]))] sz) (cw_J5_init_d00df cA h u) t) (va_A [(h, .inr (1, [.null, .int 0, .int 0, .int 0]))] sz)) 1 16 (va_A [(h, .inr (1, [.null, .int 0, .int 0, .int 0]))] sz) := by
  refine Met.ofW (cc := cJ5_init_d00df) (maxL := 2) (ret := none) (by decide +kernel) rfl ?_
  intro p e s m args below meth c s₁ B hml hv
  obtain ⟨rfl, hsz, hP, hK, hD0, hE⟩ := hv
  have hx := B.exec
  have hb := B.bytes
  have hr := B.returns
  have hts := atoms_spec (ws := wgJ5_init_d00df) B.pre
  have hown : s.vm.findClass RJ5 = some m.cls := findClass_of_methodNamed B.named
  have hlk := B.notSynchronized
  have hin : meth.name = "<init>" := (name_of_methodNamed B.named B.method).1
  subst hsz
  have hD := hD0.self (sz := s.heap.size)
  generalize hAe : va_A [(h, .inr (1, [.null, .int 0, .int 0, .int 0]))] s.heap.size = A at hD hE ⊢
  have hA : ∀ q : Nat, s.heap.size ≤ q → A q := fun q h => by rw [← hAe]; exact Or.inr h
  have hS : va_S A s.heap s.heap [] := va_S.rf
  have C : xCx p s m _ meth c cJ5_init_d00df 2 none wgJ5_init_d00df RJ5 E D cA A := ⟨hx, hb, hml, hr, hown, hts, hK, hA, hlk, hE, vE⟩
  have hl := lv_entry ([.ref h, .int 16]) (n := 2) (Nat.le_of_ble_eq_true rfl)
  rw [lg_entry_eq]
  generalize (lg_sl ([.ref h, .int 16]) ++ List.replicate (2 - (lg_sl ([.ref h, .int 16])).length) Slot.unset).toArray = ls at hl ⊢
  have hl : lv_has ls 2 [(0, .ref h), (1, .int 16)] := hl
  refine lv_aload_n hx hb dJ5_init_d00df_0 rfl (lv_at hl 0 rfl) ?_
  refine W.objInit hx hb hown (hts _ (List.mem_cons_of_mem _ tw_1_195)) (hts _ (List.mem_cons_of_mem _ tw_1_36)) (hts _ (List.mem_cons_of_mem _ tw_1_37)) rfl (by rw [hml]; exact hl.1) rfl dJ5_init_d00df_1 (by decide) (Nat.le_of_ble_eq_true rfl) ?_
  refine W.eq (g2 := F0 m 4 ls []) rfl ?_
  refine va_gets hx hb (eX.compact (vM _ _ _ hE)) hS hown (hts _ (List.mem_cons_of_mem _ tw_1_196)) (fun _ h => h) dJ5_init_d00df_4 ?_
  refine lv_if_eq (tgt := 25) hx hb dJ5_init_d00df_7 (by decide) (fun q_ => absurd q_ (by decide)) (fun _ => ?_)
  refine lv_aload_n hx hb dJ5_init_d00df_10 rfl (lv_at hl 0 rfl) ?_
  refine lv_iload_n hx hb dJ5_init_d00df_11 rfl (lv_at hl 1 rfl) ?_
  refine nw_same (atype := .byte) (a0 := (16, .inl (fun _ => 0))) (N' := 16) (ty := .byte) hx hb (hts _ (List.mem_cons_of_mem _ tw_1_219)) rfl hK hP hD hS hA (fun _ => rfl) (by decide) (by decide) (by decide) (by decide) (by decide) 4 rfl (fun _ _ h => h) dJ5_init_d00df_12 (fun q0 H hP hD hS => ?_)
  have hP : va_P D vwCl [(h, .inr (1, [.null, .int 0, .int 0, .int 0])), (q0, .inl (cA 4, 16, .inl (fun _ => 0)))] H := hP
  have hD : va_D A [(h, .inr (1, [.null, .int 0, .int 0, .int 0])), (q0, .inl (cA 4, 16, .inl (fun _ => 0)))] := hD
  refine W.widen (k := 1) (n := 16) (by decide) (by decide) ?_
  refine va_put (D := D) (ci := 1) (v := .ref q0) (ty := .array .byte) (C := RJ4) (T := TJ4) (N := 4) hx hb hts (in_tb inJ4) tyJ4 tyJ4_ok nmJ4 hown hK hP hD hS 0 rfl rfl 0 (by decide) (hts _ (List.mem_cons_of_mem _ tw_1_205)) (fun _ h9 => h9) rfl (by decide +kernel) rfl rfl (Nat.le_of_ble_eq_true rfl) dJ5_init_d00df_14 (fun H locs hP hD hS => ?_)
  have hP : va_P D vwCl [(h, .inr (1, [.ref q0, .int 0, .int 0, .int 0])), (q0, .inl (cA 4, 16, .inl (fun _ => 0)))] H := hP
  have hD : va_D A [(h, .inr (1, [.ref q0, .int 0, .int 0, .int 0])), (q0, .inl (cA 4, 16, .inl (fun _ => 0)))] := hD
  refine lv_aload_n hx hb dJ5_init_d00df_17 rfl (lv_at hl 0 rfl) ?_
  refine lv_iconst (v := 0) hx hb dJ5_init_d00df_18 (by decide) ?_
  refine va_put (D := D) (ci := 1) (v := .int 0) (ty := .byte) (C := RJ4) (T := TJ4) (N := 4) hx hb hts (in_tb inJ4) tyJ4 tyJ4_ok nmJ4 hown hK hP hD hS 0 rfl rfl 1 (by decide) (hts _ (List.mem_cons_of_mem _ tw_1_206)) (fun _ h9 => h9) rfl (by decide +kernel) rfl rfl (Nat.le_of_ble_eq_true rfl) dJ5_init_d00df_19 (fun H locs hP hD hS => ?_)
  have hP : va_P D vwCl [(h, .inr (1, [.ref q0, .int 0, .int 0, .int 0])), (q0, .inl (cA 4, 16, .inl (fun _ => 0)))] H := hP
  have hD : va_D A [(h, .inr (1, [.ref q0, .int 0, .int 0, .int 0])), (q0, .inl (cA 4, 16, .inl (fun _ => 0)))] := hD
  refine lv_goto (tgt := 38) hx hb dJ5_init_d00df_22 (by decide) ?_
  have hP9 : va_P D vwCl (cw_J5_init_d00df cA h (fun k => if k = 0 then q0 else 0)) H := hP.sub [0, 1] rfl
  have hD9 : va_D A (cw_J5_init_d00df cA h (fun k => if k = 0 then q0 else 0)) := hD.sub [0, 1] (by decide) rfl
  exact W.vret hx hb hr (fun t ht hW => ⟨⟨(fun k => if k = 0 then q0 else 0), rfl, trivial, by rw [ht]; exact hP9, va_K.moved hW.alike hK, hD9⟩, hS.F ht⟩) hS.2.2 dJ5_init_d00df_38 hlk
def cw_J4_init_da8c8 (cA : Nat → ClassId) (h : Nat) (u : Nat → Nat) : va_W := [(h, .inr (1, [.ref (u 0), .int 0, .int 0, .int 0])), (u 0, .inl (cA 4, 16, .inl (fun _ => 0)))]
def rm_J4_init_da8c8 : Room := { frames := 2, cells := 1, slots := 16, locals := 33 }
abbrev wgJ4_init_da8c8 : List Cond := .code yJ4_init_da8c8 cJ4_init_da8c8 1 none :: TB
set_option maxHeartbeats 8000000 in
set_option maxRecDepth 100000 in
theorem met_J4_init_da8c8 {l : Launch} {E : EnvT} (vE : EnvOk E) {aK aV aE : Nat → Nat} {aO : Nat} (vM : eXs aK aV aE aO E) {D : va_G} {cA : Nat → ClassId} {h sz : Nat} : Met l yJ4_init_da8c8 wgJ4_init_da8c8 rm_J4_init_da8c8 (va_Pc [.ref h] (gPre E D cA sz [(h, .inr (1, [.null, .int 0, .int 0, .int 0]))])) (va_Qv (fun _ : Nat → Nat => True) (fun u t => gAt D cA (va_A [(h, .inr (1, [.null, .int 0, .int 0, .int 0]))] sz) (cw_J4_init_da8c8 cA h u) t) (va_A [(h, .inr (1, [.null, .int 0, .int 0, .int 0]))] sz)) 1 16 (va_A [(h, .inr (1, [.null, .int 0, .int 0, .int 0]))] sz) := by
  refine Met.ofW (cc := cJ4_init_da8c8) (maxL := 1) (ret := none) (by decide +kernel) rfl ?_
  intro p e s m args below meth c s₁ B hml hv
  obtain ⟨rfl, hsz, hP, hK, hD0, hE⟩ := hv
  have hx := B.exec
  have hb := B.bytes
  have hr := B.returns
  have hts := atoms_spec (ws := wgJ4_init_da8c8) B.pre
  have hown : s.vm.findClass RJ4 = some m.cls := findClass_of_methodNamed B.named
  have hlk := B.notSynchronized
  have hin : meth.name = "<init>" := (name_of_methodNamed B.named B.method).1
  subst hsz
  have hD := hD0.self (sz := s.heap.size)
  generalize hAe : va_A [(h, .inr (1, [.null, .int 0, .int 0, .int 0]))] s.heap.size = A at hD hE ⊢
  have hA : ∀ q : Nat, s.heap.size ≤ q → A q := fun q h => by rw [← hAe]; exact Or.inr h
  have hS : va_S A s.heap s.heap [] := va_S.rf
  have C : xCx p s m _ meth c cJ4_init_da8c8 1 none wgJ4_init_da8c8 RJ4 E D cA A := ⟨hx, hb, hml, hr, hown, hts, hK, hA, hlk, hE, vE⟩
  have hl := lv_entry ([.ref h]) (n := 1) (Nat.le_of_ble_eq_true rfl)
  rw [lg_entry_eq]
  generalize (lg_sl ([.ref h]) ++ List.replicate (1 - (lg_sl ([.ref h])).length) Slot.unset).toArray = ls at hl ⊢
  have hl : lv_has ls 1 [(0, .ref h)] := hl
  refine lv_aload_n hx hb dJ4_init_da8c8_0 rfl (lv_at hl 0 rfl) ?_
  refine lv_bipush (v := 16) hx hb dJ4_init_da8c8_1 (by decide) ?_
  refine gI_v (wr := []) (As := [.int 16]) (rest := []) C (met_J5_init_d00df vE vM (D := D) (cA := cA) (h := h)) (cwI 1 hts (TB_G (pre := []) (fun _ h => nomatch h) tw_1_194) rfl rfl rfl (hts _ (List.mem_cons_of_mem _ tw_1_9)) (hts _ (List.mem_cons_of_mem _ tw_1_192)) (hts _ (List.mem_cons_of_mem _ tw_1_193)) rfl (by decide +kernel) ⟨by decide, by decide⟩) hP hD hS 0 [] rfl rfl (by decide) (by decide) rfl hl.1 rfl (Nat.le_of_ble_eq_true rfl) dJ4_init_da8c8_3 ⟨by decide, by decide⟩ (fun u0 H locs hP hD hS => ?_)
  have hP : va_P D vwCl [(h, .inr (1, [.ref (u0 0), .int 0, .int 0, .int 0])), (u0 0, .inl (cA 4, 16, .inl (fun _ => 0)))] H := hP
  have hD : va_D A [(h, .inr (1, [.ref (u0 0), .int 0, .int 0, .int 0])), (u0 0, .inl (cA 4, 16, .inl (fun _ => 0)))] := hD
  refine W.widen (k := 1) (n := 16) (by decide) (by decide) ?_
  have hP9 : va_P D vwCl (cw_J4_init_da8c8 cA h (fun k => if k = 0 then u0 0 else 0)) H := hP.sub [0, 1] rfl
  have hD9 : va_D A (cw_J4_init_da8c8 cA h (fun k => if k = 0 then u0 0 else 0)) := hD.sub [0, 1] (by decide) rfl
  exact W.vret hx hb hr (fun t ht hW => ⟨⟨(fun k => if k = 0 then u0 0 else 0), rfl, trivial, by rw [ht]; exact hP9, va_K.moved hW.alike hK, hD9⟩, hS.F ht⟩) hS.2.2 dJ4_init_da8c8_6 hlk
def cw_X4_init (cA : Nat → ClassId) (h : Nat) (u : Nat → Nat) : va_W := [(h, .inr (6, [.ref (u 0)])), (u 0, .inr (1, [.ref (u 1), .int 0, .int 0, .int 0])), (u 1, .inl (cA 4, 16, .inl (fun _ => 0)))]
def rm_X4_init : Room := { frames := 3, cells := 2, slots := 20, locals := 53 }
abbrev wgX4_init : List Cond := .code yX4_init cX4_init 1 none :: TB
set_option maxHeartbeats 8000000 in
set_option maxRecDepth 100000 in
theorem met_X4_init {l : Launch} {E : EnvT} (vE : EnvOk E) {aK aV aE : Nat → Nat} {aO : Nat} (vM : eXs aK aV aE aO E) {D : va_G} {cA : Nat → ClassId} {h sz : Nat} : Met l yX4_init wgX4_init rm_X4_init (va_Pc [.ref h] (gPre E D cA sz [(h, .inr (6, [.null]))])) (va_Qv (fun _ : Nat → Nat => True) (fun u t => gAt D cA (va_A [(h, .inr (6, [.null]))] sz) (cw_X4_init cA h u) t) (va_A [(h, .inr (6, [.null]))] sz)) 2 20 (va_A [(h, .inr (6, [.null]))] sz) := by
  refine Met.ofW (cc := cX4_init) (maxL := 1) (ret := none) (by decide +kernel) rfl ?_
  intro p e s m args below meth c s₁ B hml hv
  obtain ⟨rfl, hsz, hP, hK, hD0, hE⟩ := hv
  have hx := B.exec
  have hb := B.bytes
  have hr := B.returns
  have hts := atoms_spec (ws := wgX4_init) B.pre
  have hown : s.vm.findClass RX4 = some m.cls := findClass_of_methodNamed B.named
  have hlk := B.notSynchronized
  have hin : meth.name = "<init>" := (name_of_methodNamed B.named B.method).1
  subst hsz
  have hD := hD0.self (sz := s.heap.size)
  generalize hAe : va_A [(h, .inr (6, [.null]))] s.heap.size = A at hD hE ⊢
  have hA : ∀ q : Nat, s.heap.size ≤ q → A q := fun q h => by rw [← hAe]; exact Or.inr h
  have hS : va_S A s.heap s.heap [] := va_S.rf
  have C : xCx p s m _ meth c cX4_init 1 none wgX4_init RX4 E D cA A := ⟨hx, hb, hml, hr, hown, hts, hK, hA, hlk, hE, vE⟩
  have hl := lv_entry ([.ref h]) (n := 1) (Nat.le_of_ble_eq_true rfl)
  rw [lg_entry_eq]
  generalize (lg_sl ([.ref h]) ++ List.replicate (1 - (lg_sl ([.ref h])).length) Slot.unset).toArray = ls at hl ⊢
  have hl : lv_has ls 1 [(0, .ref h)] := hl
  refine lv_aload_n hx hb dX4_init_0 rfl (lv_at hl 0 rfl) ?_
  refine W.objInit hx hb hown (hts _ (List.mem_cons_of_mem _ tw_1_186)) (hts _ (List.mem_cons_of_mem _ tw_1_36)) (hts _ (List.mem_cons_of_mem _ tw_1_37)) rfl (by rw [hml]; exact hl.1) rfl dX4_init_1 (by decide) (Nat.le_of_ble_eq_true rfl) ?_
  refine W.eq (g2 := F0 m 4 ls []) rfl ?_
  refine lv_aload_n hx hb dX4_init_4 rfl (lv_at hl 0 rfl) ?_
  refine va_new (ci := 1) (fs := [.null, .int 0, .int 0, .int 0]) (C := RJ4) (T := TJ4) (N := 4) hx hb hts (in_tb inJ4) tyJ4 tyJ4_ok hown (hts _ (List.mem_cons_of_mem _ tw_1_187)) (hts _ (List.mem_cons_of_mem _ tw_1_188)) (hts _ (List.mem_cons_of_mem _ tw_1_10)) hK hP hD hS hA rfl (fun j hj => match j, hj with | 0, _ => rfl | 1, _ => rfl | 2, _ => rfl | 3, _ => rfl | j + 4, h => absurd h (by omega)) (by decide) (by decide) dX4_init_5 (fun q0 H hP hD hS => ?_)
  have hP : va_P D vwCl [(h, .inr (6, [.null])), (q0, .inr (1, [.null, .int 0, .int 0, .int 0]))] H := hP
  have hD : va_D A [(h, .inr (6, [.null])), (q0, .inr (1, [.null, .int 0, .int 0, .int 0]))] := hD
  refine W.widen (k := 1) (n := 4) (by decide) (by decide) ?_
  refine lv_dup hx hb dX4_init_8 rfl ?_
  refine gI_v (wr := [(h, .inr (6, [.null]))]) (As := []) (rest := [.ref q0, .ref h]) C (met_J4_init_da8c8 vE vM (D := D) (cA := cA) (h := q0)) (cwI 0 hts (TB_G (pre := []) (fun _ h => nomatch h) tw_1_191) rfl rfl rfl (hts _ (List.mem_cons_of_mem _ tw_1_10)) (hts _ (List.mem_cons_of_mem _ tw_1_189)) (hts _ (List.mem_cons_of_mem _ tw_1_190)) rfl (by decide +kernel) ⟨by decide, by decide⟩) hP hD hS 1 [0] rfl rfl (by decide) (by decide) rfl hl.1 rfl (Nat.le_of_ble_eq_true rfl) dX4_init_9 ⟨by decide, by decide⟩ (fun u1 H locs hP hD hS => ?_)
  have hP : va_P D vwCl [(h, .inr (6, [.null])), (q0, .inr (1, [.ref (u1 0), .int 0, .int 0, .int 0])), (u1 0, .inl (cA 4, 16, .inl (fun _ => 0)))] H := hP
  have hD : va_D A [(h, .inr (6, [.null])), (q0, .inr (1, [.ref (u1 0), .int 0, .int 0, .int 0])), (u1 0, .inl (cA 4, 16, .inl (fun _ => 0)))] := hD
  refine W.widen (k := 2) (n := 20) (by decide) (by decide) ?_
  refine va_putF (D := D) (ci := 6) (v := .ref q0) (ty := .object "java/lang/StringBuilder") (C := RX4) (T := TX4) (N := 1) hx hb hts (in_tb inX4) tyX4 tyX4_ok nmX4 hown hK hP hD hS 0 rfl rfl 0 (by decide) (hts _ (List.mem_cons_of_mem _ tw_1_220)) (fun _ h9 => h9) rfl hin rfl (by decide +kernel) rfl rfl (Nat.le_of_ble_eq_true rfl) dX4_init_12 (fun H locs hP hD hS => ?_)
  have hP : va_P D vwCl [(h, .inr (6, [.ref q0])), (q0, .inr (1, [.ref (u1 0), .int 0, .int 0, .int 0])), (u1 0, .inl (cA 4, 16, .inl (fun _ => 0)))] H := hP
  have hD : va_D A [(h, .inr (6, [.ref q0])), (q0, .inr (1, [.ref (u1 0), .int 0, .int 0, .int 0])), (u1 0, .inl (cA 4, 16, .inl (fun _ => 0)))] := hD
  have hP9 : va_P D vwCl (cw_X4_init cA h (fun k => if k = 0 then q0 else if k = 1 then u1 0 else 0)) H := hP.sub [0, 1, 2] rfl
  have hD9 : va_D A (cw_X4_init cA h (fun k => if k = 0 then q0 else if k = 1 then u1 0 else 0)) := hD.sub [0, 1, 2] (by decide) rfl
  exact W.vret hx hb hr (fun t ht hW => ⟨⟨(fun k => if k = 0 then q0 else if k = 1 then u1 0 else 0), rfl, trivial, by rw [ht]; exact hP9, va_K.moved hW.alike hK, hD9⟩, hS.F ht⟩) hS.2.2 dX4_init_15 hlk
def cw_X5_init (cA : Nat → ClassId) (h : Nat) (u : Nat → Nat) : va_W := [(h, .inr (7, [.ref (u 0), .int 0])), (u 0, .inl (cA 2, 700, .inl (fun _ => 0)))]
def rm_X5_init : Room := { frames := 1, cells := 1, slots := 700, locals := 12 }
abbrev wgX5_init : List Cond := .code yX5_init cX5_init 1 none :: TB
set_option maxHeartbeats 8000000 in
set_option maxRecDepth 100000 in
theorem met_X5_init {l : Launch} {E : EnvT} (vE : EnvOk E) {aK aV aE : Nat → Nat} {aO : Nat} (vM : eXs aK aV aE aO E) {D : va_G} {cA : Nat → ClassId} {h sz : Nat} : Met l yX5_init wgX5_init rm_X5_init (va_Pc [.ref h] (gPre E D cA sz [(h, .inr (7, [.null, .int 0]))])) (va_Qv (fun _ : Nat → Nat => True) (fun u t => gAt D cA (va_A [(h, .inr (7, [.null, .int 0]))] sz) (cw_X5_init cA h u) t) (va_A [(h, .inr (7, [.null, .int 0]))] sz)) 1 700 (va_A [(h, .inr (7, [.null, .int 0]))] sz) := by
  refine Met.ofW (cc := cX5_init) (maxL := 1) (ret := none) (by decide +kernel) rfl ?_
  intro p e s m args below meth c s₁ B hml hv
  obtain ⟨rfl, hsz, hP, hK, hD0, hE⟩ := hv
  have hx := B.exec
  have hb := B.bytes
  have hr := B.returns
  have hts := atoms_spec (ws := wgX5_init) B.pre
  have hown : s.vm.findClass RX5 = some m.cls := findClass_of_methodNamed B.named
  have hlk := B.notSynchronized
  have hin : meth.name = "<init>" := (name_of_methodNamed B.named B.method).1
  subst hsz
  have hD := hD0.self (sz := s.heap.size)
  generalize hAe : va_A [(h, .inr (7, [.null, .int 0]))] s.heap.size = A at hD hE ⊢
  have hA : ∀ q : Nat, s.heap.size ≤ q → A q := fun q h => by rw [← hAe]; exact Or.inr h
  have hS : va_S A s.heap s.heap [] := va_S.rf
  have C : xCx p s m _ meth c cX5_init 1 none wgX5_init RX5 E D cA A := ⟨hx, hb, hml, hr, hown, hts, hK, hA, hlk, hE, vE⟩
  have hl := lv_entry ([.ref h]) (n := 1) (Nat.le_of_ble_eq_true rfl)
  rw [lg_entry_eq]
  generalize (lg_sl ([.ref h]) ++ List.replicate (1 - (lg_sl ([.ref h])).length) Slot.unset).toArray = ls at hl ⊢
  have hl : lv_has ls 1 [(0, .ref h)] := hl
  refine lv_aload_n hx hb dX5_init_0 rfl (lv_at hl 0 rfl) ?_
  refine W.objInit hx hb hown (hts _ (List.mem_cons_of_mem _ tw_1_43)) (hts _ (List.mem_cons_of_mem _ tw_1_36)) (hts _ (List.mem_cons_of_mem _ tw_1_37)) rfl (by rw [hml]; exact hl.1) rfl dX5_init_1 (by decide) (Nat.le_of_ble_eq_true rfl) ?_
  refine W.eq (g2 := F0 m 4 ls []) rfl ?_
  refine lv_aload_n hx hb dX5_init_4 rfl (lv_at hl 0 rfl) ?_
  refine lv_sipush (v := 700) hx hb dX5_init_5 (by decide) ?_
  refine nw_same (atype := .char) (a0 := (700, .inl (fun _ => 0))) (N' := 700) (ty := .char) hx hb (hts _ (List.mem_cons_of_mem _ tw_1_54)) rfl hK hP hD hS hA (fun _ => rfl) (by decide) (by decide) (by decide) (by decide) (by decide) 2 rfl (fun _ _ h => h) dX5_init_8 (fun q0 H hP hD hS => ?_)
  have hP : va_P D vwCl [(h, .inr (7, [.null, .int 0])), (q0, .inl (cA 2, 700, .inl (fun _ => 0)))] H := hP
  have hD : va_D A [(h, .inr (7, [.null, .int 0])), (q0, .inl (cA 2, 700, .inl (fun _ => 0)))] := hD
  refine W.widen (k := 1) (n := 700) (by decide) (by decide) ?_
  refine va_putF (D := D) (ci := 7) (v := .ref q0) (ty := .array .char) (C := RX5) (T := TX5) (N := 2) hx hb hts (in_tb inX5) tyX5 tyX5_ok nmX5 hown hK hP hD hS 0 rfl rfl 0 (by decide) (hts _ (List.mem_cons_of_mem _ tw_1_44)) (fun _ h9 => h9) rfl hin rfl (by decide +kernel) rfl rfl (Nat.le_of_ble_eq_true rfl) dX5_init_10 (fun H locs hP hD hS => ?_)
  have hP : va_P D vwCl [(h, .inr (7, [.ref q0, .int 0])), (q0, .inl (cA 2, 700, .inl (fun _ => 0)))] H := hP
  have hD : va_D A [(h, .inr (7, [.ref q0, .int 0])), (q0, .inl (cA 2, 700, .inl (fun _ => 0)))] := hD
  refine lv_aload_n hx hb dX5_init_13 rfl (lv_at hl 0 rfl) ?_
  refine lv_iconst (v := 0) hx hb dX5_init_14 (by decide) ?_
  refine va_put (D := D) (ci := 7) (v := .int 0) (ty := .int) (C := RX5) (T := TX5) (N := 2) hx hb hts (in_tb inX5) tyX5 tyX5_ok nmX5 hown hK hP hD hS 0 rfl rfl 1 (by decide) (hts _ (List.mem_cons_of_mem _ tw_1_46)) (fun _ h9 => h9) rfl (by decide +kernel) rfl rfl (Nat.le_of_ble_eq_true rfl) dX5_init_15 (fun H locs hP hD hS => ?_)
  have hP : va_P D vwCl [(h, .inr (7, [.ref q0, .int 0])), (q0, .inl (cA 2, 700, .inl (fun _ => 0)))] H := hP
  have hD : va_D A [(h, .inr (7, [.ref q0, .int 0])), (q0, .inl (cA 2, 700, .inl (fun _ => 0)))] := hD
  have hP9 : va_P D vwCl (cw_X5_init cA h (fun k => if k = 0 then q0 else 0)) H := hP.sub [0, 1] rfl
  have hD9 : va_D A (cw_X5_init cA h (fun k => if k = 0 then q0 else 0)) := hD.sub [0, 1] (by decide) rfl
  exact W.vret hx hb hr (fun t ht hW => ⟨⟨(fun k => if k = 0 then q0 else 0), rfl, trivial, by rw [ht]; exact hP9, va_K.moved hW.alike hK, hD9⟩, hS.F ht⟩) hS.2.2 dX5_init_18 hlk
def cw_X6_init (cA : Nat → ClassId) (h : Nat) (a1 : Nat) (u : Nat → Nat) : va_W := [(h, .inr (8, [.ref a1, .ref (u 0), .ref (u 1), .ref (u 2), .int 0, .int 0])), (u 0, .inl (cA 0, 701, .inl (fun _ => 0))), (u 1, .inl (cA 0, 701, .inl (fun _ => 0))), (u 2, .inl (cA 1, 701, .inr (.inl (fun _ => 0))))]
def rm_X6_init : Room := { frames := 1, cells := 3, slots := 2103, locals := 12 }
abbrev wgX6_init : List Cond := .code yX6_init cX6_init 2 none :: TB
set_option maxHeartbeats 8000000 in
set_option maxRecDepth 100000 in
theorem met_X6_init {l : Launch} {E : EnvT} (vE : EnvOk E) {aK aV aE : Nat → Nat} {aO : Nat} (vM : eXs aK aV aE aO E) {D : va_G} {cA : Nat → ClassId} {h sz : Nat} {a1 : Nat} : Met l yX6_init wgX6_init rm_X6_init (va_Pc [.ref h, .ref a1] (gPre E D cA sz [(h, .inr (8, [.null, .null, .null, .null, .int 0, .int 0]))])) (va_Qv (fun _ : Nat → Nat => True) (fun u t => gAt D cA (va_A [(h, .inr (8, [.null, .null, .null, .null, .int 0, .int 0]))] sz) (cw_X6_init cA h a1 u) t) (va_A [(h, .inr (8, [.null, .null, .null, .null, .int 0, .int 0]))] sz)) 3 2103 (va_A [(h, .inr (8, [.null, .null, .null, .null, .int 0, .int 0]))] sz) := by
  refine Met.ofW (cc := cX6_init) (maxL := 2) (ret := none) (by decide +kernel) rfl ?_
  intro p e s m args below meth c s₁ B hml hv
  obtain ⟨rfl, hsz, hP, hK, hD0, hE⟩ := hv
  have hx := B.exec
  have hb := B.bytes
  have hr := B.returns
  have hts := atoms_spec (ws := wgX6_init) B.pre
  have hown : s.vm.findClass RX6 = some m.cls := findClass_of_methodNamed B.named
  have hlk := B.notSynchronized
  have hin : meth.name = "<init>" := (name_of_methodNamed B.named B.method).1
  subst hsz
  have hD := hD0.self (sz := s.heap.size)
  generalize hAe : va_A [(h, .inr (8, [.null, .null, .null, .null, .int 0, .int 0]))] s.heap.size = A at hD hE ⊢
  have hA : ∀ q : Nat, s.heap.size ≤ q → A q := fun q h => by rw [← hAe]; exact Or.inr h
  have hS : va_S A s.heap s.heap [] := va_S.rf
  have C : xCx p s m _ meth c cX6_init 2 none wgX6_init RX6 E D cA A := ⟨hx, hb, hml, hr, hown, hts, hK, hA, hlk, hE, vE⟩
  have hl := lv_entry ([.ref h, .ref a1]) (n := 2) (Nat.le_of_ble_eq_true rfl)
  rw [lg_entry_eq]
  generalize (lg_sl ([.ref h, .ref a1]) ++ List.replicate (2 - (lg_sl ([.ref h, .ref a1])).length) Slot.unset).toArray = ls at hl ⊢
  have hl : lv_has ls 2 [(0, .ref h), (1, .ref a1)] := hl
  refine lv_aload_n hx hb dX6_init_0 rfl (lv_at hl 0 rfl) ?_
  refine W.objInit hx hb hown (hts _ (List.mem_cons_of_mem _ tw_1_90)) (hts _ (List.mem_cons_of_mem _ tw_1_36)) (hts _ (List.mem_cons_of_mem _ tw_1_37)) rfl (by rw [hml]; exact hl.1) rfl dX6_init_1 (by decide) (Nat.le_of_ble_eq_true rfl) ?_
  refine W.eq (g2 := F0 m 4 ls []) rfl ?_
  refine lv_aload_n hx hb dX6_init_4 rfl (lv_at hl 0 rfl) ?_
  refine lv_sipush (v := 701) hx hb dX6_init_5 (by decide) ?_
  refine nw_same (atype := .int) (a0 := (701, .inl (fun _ => 0))) (N' := 701) (ty := .int) hx hb (hts _ (List.mem_cons_of_mem _ tw_1_83)) rfl hK hP hD hS hA (fun _ => rfl) (by decide) (by decide) (by decide) (by decide) (by decide) 0 rfl (fun _ _ h => h) dX6_init_8 (fun q0 H hP hD hS => ?_)
  have hP : va_P D vwCl [(h, .inr (8, [.null, .null, .null, .null, .int 0, .int 0])), (q0, .inl (cA 0, 701, .inl (fun _ => 0)))] H := hP
  have hD : va_D A [(h, .inr (8, [.null, .null, .null, .null, .int 0, .int 0])), (q0, .inl (cA 0, 701, .inl (fun _ => 0)))] := hD
  refine W.widen (k := 1) (n := 701) (by decide) (by decide) ?_
  refine va_putF (D := D) (ci := 8) (v := .ref q0) (ty := .array .int) (C := RX6) (T := TX6) (N := 6) hx hb hts (in_tb inX6) tyX6 tyX6_ok nmX6 hown hK hP hD hS 0 rfl rfl 1 (by decide) (hts _ (List.mem_cons_of_mem _ tw_1_92)) (fun _ h9 => h9) rfl hin rfl (by decide +kernel) rfl rfl (Nat.le_of_ble_eq_true rfl) dX6_init_10 (fun H locs hP hD hS => ?_)
  have hP : va_P D vwCl [(h, .inr (8, [.null, .ref q0, .null, .null, .int 0, .int 0])), (q0, .inl (cA 0, 701, .inl (fun _ => 0)))] H := hP
  have hD : va_D A [(h, .inr (8, [.null, .ref q0, .null, .null, .int 0, .int 0])), (q0, .inl (cA 0, 701, .inl (fun _ => 0)))] := hD
  refine lv_aload_n hx hb dX6_init_13 rfl (lv_at hl 0 rfl) ?_
  refine lv_sipush (v := 701) hx hb dX6_init_14 (by decide) ?_
  refine nw_same (atype := .int) (a0 := (701, .inl (fun _ => 0))) (N' := 701) (ty := .int) hx hb (hts _ (List.mem_cons_of_mem _ tw_1_83)) rfl hK hP hD hS hA (fun _ => rfl) (by decide) (by decide) (by decide) (by decide) (by decide) 0 rfl (fun _ _ h => h) dX6_init_17 (fun q1 H hP hD hS => ?_)
  have hP : va_P D vwCl [(h, .inr (8, [.null, .ref q0, .null, .null, .int 0, .int 0])), (q0, .inl (cA 0, 701, .inl (fun _ => 0))), (q1, .inl (cA 0, 701, .inl (fun _ => 0)))] H := hP
  have hD : va_D A [(h, .inr (8, [.null, .ref q0, .null, .null, .int 0, .int 0])), (q0, .inl (cA 0, 701, .inl (fun _ => 0))), (q1, .inl (cA 0, 701, .inl (fun _ => 0)))] := hD
  refine W.widen (k := 2) (n := 1402) (by decide) (by decide) ?_
  refine va_putF (D := D) (ci := 8) (v := .ref q1) (ty := .array .int) (C := RX6) (T := TX6) (N := 6) hx hb hts (in_tb inX6) tyX6 tyX6_ok nmX6 hown hK hP hD hS 0 rfl rfl 2 (by decide) (hts _ (List.mem_cons_of_mem _ tw_1_93)) (fun _ h9 => h9) rfl hin rfl (by decide +kernel) rfl rfl (Nat.le_of_ble_eq_true rfl) dX6_init_19 (fun H locs hP hD hS => ?_)
  have hP : va_P D vwCl [(h, .inr (8, [.null, .ref q0, .ref q1, .null, .int 0, .int 0])), (q0, .inl (cA 0, 701, .inl (fun _ => 0))), (q1, .inl (cA 0, 701, .inl (fun _ => 0)))] H := hP
  have hD : va_D A [(h, .inr (8, [.null, .ref q0, .ref q1, .null, .int 0, .int 0])), (q0, .inl (cA 0, 701, .inl (fun _ => 0))), (q1, .inl (cA 0, 701, .inl (fun _ => 0)))] := hD
  refine lv_aload_n hx hb dX6_init_22 rfl (lv_at hl 0 rfl) ?_
  refine lv_sipush (v := 701) hx hb dX6_init_23 (by decide) ?_
  refine nw_same (atype := .long) (a0 := (701, .inr (.inl (fun _ => 0)))) (N' := 701) (ty := .long) hx hb (hts _ (List.mem_cons_of_mem _ tw_1_84)) rfl hK hP hD hS hA (fun _ => rfl) (by decide) (by decide) (by decide) (by decide) (by decide) 1 rfl (fun _ _ h => h) dX6_init_26 (fun q2 H hP hD hS => ?_)
  have hP : va_P D vwCl [(h, .inr (8, [.null, .ref q0, .ref q1, .null, .int 0, .int 0])), (q0, .inl (cA 0, 701, .inl (fun _ => 0))), (q1, .inl (cA 0, 701, .inl (fun _ => 0))), (q2, .inl (cA 1, 701, .inr (.inl (fun _ => 0))))] H := hP
  have hD : va_D A [(h, .inr (8, [.null, .ref q0, .ref q1, .null, .int 0, .int 0])), (q0, .inl (cA 0, 701, .inl (fun _ => 0))), (q1, .inl (cA 0, 701, .inl (fun _ => 0))), (q2, .inl (cA 1, 701, .inr (.inl (fun _ => 0))))] := hD
  refine W.widen (k := 3) (n := 2103) (by decide) (by decide) ?_
  refine va_putF (D := D) (ci := 8) (v := .ref q2) (ty := .array .long) (C := RX6) (T := TX6) (N := 6) hx hb hts (in_tb inX6) tyX6 tyX6_ok nmX6 hown hK hP hD hS 0 rfl rfl 3 (by decide) (hts _ (List.mem_cons_of_mem _ tw_1_94)) (fun _ h9 => h9) rfl hin rfl (by decide +kernel) rfl rfl (Nat.le_of_ble_eq_true rfl) dX6_init_28 (fun H locs hP hD hS => ?_)
  have hP : va_P D vwCl [(h, .inr (8, [.null, .ref q0, .ref q1, .ref q2, .int 0, .int 0])), (q0, .inl (cA 0, 701, .inl (fun _ => 0))), (q1, .inl (cA 0, 701, .inl (fun _ => 0))), (q2, .inl (cA 1, 701, .inr (.inl (fun _ => 0))))] H := hP
  have hD : va_D A [(h, .inr (8, [.null, .ref q0, .ref q1, .ref q2, .int 0, .int 0])), (q0, .inl (cA 0, 701, .inl (fun _ => 0))), (q1, .inl (cA 0, 701, .inl (fun _ => 0))), (q2, .inl (cA 1, 701, .inr (.inl (fun _ => 0))))] := hD
  refine lv_aload_n hx hb dX6_init_31 rfl (lv_at hl 0 rfl) ?_
  refine lv_iconst (v := 0) hx hb dX6_init_32 (by decide) ?_
  refine va_put (D := D) (ci := 8) (v := .int 0) (ty := .int) (C := RX6) (T := TX6) (N := 6) hx hb hts (in_tb inX6) tyX6 tyX6_ok nmX6 hown hK hP hD hS 0 rfl rfl 4 (by decide) (hts _ (List.mem_cons_of_mem _ tw_1_95)) (fun _ h9 => h9) rfl (by decide +kernel) rfl rfl (Nat.le_of_ble_eq_true rfl) dX6_init_33 (fun H locs hP hD hS => ?_)
  have hP : va_P D vwCl [(h, .inr (8, [.null, .ref q0, .ref q1, .ref q2, .int 0, .int 0])), (q0, .inl (cA 0, 701, .inl (fun _ => 0))), (q1, .inl (cA 0, 701, .inl (fun _ => 0))), (q2, .inl (cA 1, 701, .inr (.inl (fun _ => 0))))] H := hP
  have hD : va_D A [(h, .inr (8, [.null, .ref q0, .ref q1, .ref q2, .int 0, .int 0])), (q0, .inl (cA 0, 701, .inl (fun _ => 0))), (q1, .inl (cA 0, 701, .inl (fun _ => 0))), (q2, .inl (cA 1, 701, .inr (.inl (fun _ => 0))))] := hD
  refine lv_aload_n hx hb dX6_init_36 rfl (lv_at hl 0 rfl) ?_
  refine lv_iconst (v := 0) hx hb dX6_init_37 (by decide) ?_
  refine va_put (D := D) (ci := 8) (v := .int 0) (ty := .int) (C := RX6) (T := TX6) (N := 6) hx hb hts (in_tb inX6) tyX6 tyX6_ok nmX6 hown hK hP hD hS 0 rfl rfl 5 (by decide) (hts _ (List.mem_cons_of_mem _ tw_1_96)) (fun _ h9 => h9) rfl (by decide +kernel) rfl rfl (Nat.le_of_ble_eq_true rfl) dX6_init_38 (fun H locs hP hD hS => ?_)
  have hP : va_P D vwCl [(h, .inr (8, [.null, .ref q0, .ref q1, .ref q2, .int 0, .int 0])), (q0, .inl (cA 0, 701, .inl (fun _ => 0))), (q1, .inl (cA 0, 701, .inl (fun _ => 0))), (q2, .inl (cA 1, 701, .inr (.inl (fun _ => 0))))] H := hP
  have hD : va_D A [(h, .inr (8, [.null, .ref q0, .ref q1, .ref q2, .int 0, .int 0])), (q0, .inl (cA 0, 701, .inl (fun _ => 0))), (q1, .inl (cA 0, 701, .inl (fun _ => 0))), (q2, .inl (cA 1, 701, .inr (.inl (fun _ => 0))))] := hD
  refine lv_aload_n hx hb dX6_init_41 rfl (lv_at hl 0 rfl) ?_
  refine lv_aload_n hx hb dX6_init_42 rfl (lv_at hl 1 rfl) ?_
  refine va_putF (D := D) (ci := 8) (v := .ref a1) (ty := .object "KernelText$Tape") (C := RX6) (T := TX6) (N := 6) hx hb hts (in_tb inX6) tyX6 tyX6_ok nmX6 hown hK hP hD hS 0 rfl rfl 0 (by decide) (hts _ (List.mem_cons_of_mem _ tw_1_91)) (fun _ h9 => h9) rfl hin rfl (by decide +kernel) rfl rfl (Nat.le_of_ble_eq_true rfl) dX6_init_43 (fun H locs hP hD hS => ?_)
  have hP : va_P D vwCl [(h, .inr (8, [.ref a1, .ref q0, .ref q1, .ref q2, .int 0, .int 0])), (q0, .inl (cA 0, 701, .inl (fun _ => 0))), (q1, .inl (cA 0, 701, .inl (fun _ => 0))), (q2, .inl (cA 1, 701, .inr (.inl (fun _ => 0))))] H := hP
  have hD : va_D A [(h, .inr (8, [.ref a1, .ref q0, .ref q1, .ref q2, .int 0, .int 0])), (q0, .inl (cA 0, 701, .inl (fun _ => 0))), (q1, .inl (cA 0, 701, .inl (fun _ => 0))), (q2, .inl (cA 1, 701, .inr (.inl (fun _ => 0))))] := hD
  have hP9 : va_P D vwCl (cw_X6_init cA h a1 (fun k => if k = 0 then q0 else if k = 1 then q1 else if k = 2 then q2 else 0)) H := hP.sub [0, 1, 2, 3] rfl
  have hD9 : va_D A (cw_X6_init cA h a1 (fun k => if k = 0 then q0 else if k = 1 then q1 else if k = 2 then q2 else 0)) := hD.sub [0, 1, 2, 3] (by decide) rfl
  exact W.vret hx hb hr (fun t ht hW => ⟨⟨(fun k => if k = 0 then q0 else if k = 1 then q1 else if k = 2 then q2 else 0), rfl, trivial, by rw [ht]; exact hP9, va_K.moved hW.alike hK, hD9⟩, hS.F ht⟩) hS.2.2 dX6_init_46 hlk
def cw_X1_init (cA : Nat → ClassId) (h : Nat) (u : Nat → Nat) : va_W := [(h, .inr (3, [.ref (u 0), .ref (u 1), .int 0])), (u 0, .inl (cA 1, 350, .inr (.inl (fun _ => 0)))), (u 1, .inl (cA 1, 350, .inr (.inl (fun _ => 0))))]
def rm_X1_init : Room := { frames := 1, cells := 2, slots := 700, locals := 12 }
abbrev wgX1_init : List Cond := .code yX1_init cX1_init 1 none :: TB
set_option maxHeartbeats 8000000 in
set_option maxRecDepth 100000 in
theorem met_X1_init {l : Launch} {E : EnvT} (vE : EnvOk E) {aK aV aE : Nat → Nat} {aO : Nat} (vM : eXs aK aV aE aO E) {D : va_G} {cA : Nat → ClassId} {h sz : Nat} : Met l yX1_init wgX1_init rm_X1_init (va_Pc [.ref h] (gPre E D cA sz [(h, .inr (3, [.null, .null, .int 0]))])) (va_Qv (fun _ : Nat → Nat => True) (fun u t => gAt D cA (va_A [(h, .inr (3, [.null, .null, .int 0]))] sz) (cw_X1_init cA h u) t) (va_A [(h, .inr (3, [.null, .null, .int 0]))] sz)) 2 700 (va_A [(h, .inr (3, [.null, .null, .int 0]))] sz) := by
  refine Met.ofW (cc := cX1_init) (maxL := 1) (ret := none) (by decide +kernel) rfl ?_
  intro p e s m args below meth c s₁ B hml hv
  obtain ⟨rfl, hsz, hP, hK, hD0, hE⟩ := hv
  have hx := B.exec
  have hb := B.bytes
  have hr := B.returns
  have hts := atoms_spec (ws := wgX1_init) B.pre
  have hown : s.vm.findClass RX1 = some m.cls := findClass_of_methodNamed B.named
  have hlk := B.notSynchronized
  have hin : meth.name = "<init>" := (name_of_methodNamed B.named B.method).1
  subst hsz
  have hD := hD0.self (sz := s.heap.size)
  generalize hAe : va_A [(h, .inr (3, [.null, .null, .int 0]))] s.heap.size = A at hD hE ⊢
  have hA : ∀ q : Nat, s.heap.size ≤ q → A q := fun q h => by rw [← hAe]; exact Or.inr h
  have hS : va_S A s.heap s.heap [] := va_S.rf
  have C : xCx p s m _ meth c cX1_init 1 none wgX1_init RX1 E D cA A := ⟨hx, hb, hml, hr, hown, hts, hK, hA, hlk, hE, vE⟩
  have hl := lv_entry ([.ref h]) (n := 1) (Nat.le_of_ble_eq_true rfl)
  rw [lg_entry_eq]
  generalize (lg_sl ([.ref h]) ++ List.replicate (1 - (lg_sl ([.ref h])).length) Slot.unset).toArray = ls at hl ⊢
  have hl : lv_has ls 1 [(0, .ref h)] := hl
  refine lv_aload_n hx hb dX1_init_0 rfl (lv_at hl 0 rfl) ?_
  refine W.objInit hx hb hown (hts _ (List.mem_cons_of_mem _ tw_1_68)) (hts _ (List.mem_cons_of_mem _ tw_1_36)) (hts _ (List.mem_cons_of_mem _ tw_1_37)) rfl (by rw [hml]; exact hl.1) rfl dX1_init_1 (by decide) (Nat.le_of_ble_eq_true rfl) ?_
  refine W.eq (g2 := F0 m 4 ls []) rfl ?_
  refine lv_aload_n hx hb dX1_init_4 rfl (lv_at hl 0 rfl) ?_
  refine lv_sipush (v := 350) hx hb dX1_init_5 (by decide) ?_
  refine nw_same (atype := .long) (a0 := (350, .inr (.inl (fun _ => 0)))) (N' := 350) (ty := .long) hx hb (hts _ (List.mem_cons_of_mem _ tw_1_84)) rfl hK hP hD hS hA (fun _ => rfl) (by decide) (by decide) (by decide) (by decide) (by decide) 1 rfl (fun _ _ h => h) dX1_init_8 (fun q0 H hP hD hS => ?_)
  have hP : va_P D vwCl [(h, .inr (3, [.null, .null, .int 0])), (q0, .inl (cA 1, 350, .inr (.inl (fun _ => 0))))] H := hP
  have hD : va_D A [(h, .inr (3, [.null, .null, .int 0])), (q0, .inl (cA 1, 350, .inr (.inl (fun _ => 0))))] := hD
  refine W.widen (k := 1) (n := 350) (by decide) (by decide) ?_
  refine va_putF (D := D) (ci := 3) (v := .ref q0) (ty := .array .long) (C := RX1) (T := TX1) (N := 3) hx hb hts (in_tb inX1) tyX1 tyX1_ok nmX1 hown hK hP hD hS 0 rfl rfl 0 (by decide) (hts _ (List.mem_cons_of_mem _ tw_1_69)) (fun _ h9 => h9) rfl hin rfl (by decide +kernel) rfl rfl (Nat.le_of_ble_eq_true rfl) dX1_init_10 (fun H locs hP hD hS => ?_)
  have hP : va_P D vwCl [(h, .inr (3, [.ref q0, .null, .int 0])), (q0, .inl (cA 1, 350, .inr (.inl (fun _ => 0))))] H := hP
  have hD : va_D A [(h, .inr (3, [.ref q0, .null, .int 0])), (q0, .inl (cA 1, 350, .inr (.inl (fun _ => 0))))] := hD
  refine lv_aload_n hx hb dX1_init_13 rfl (lv_at hl 0 rfl) ?_
  refine lv_sipush (v := 350) hx hb dX1_init_14 (by decide) ?_
  refine nw_same (atype := .long) (a0 := (350, .inr (.inl (fun _ => 0)))) (N' := 350) (ty := .long) hx hb (hts _ (List.mem_cons_of_mem _ tw_1_84)) rfl hK hP hD hS hA (fun _ => rfl) (by decide) (by decide) (by decide) (by decide) (by decide) 1 rfl (fun _ _ h => h) dX1_init_17 (fun q1 H hP hD hS => ?_)
  have hP : va_P D vwCl [(h, .inr (3, [.ref q0, .null, .int 0])), (q0, .inl (cA 1, 350, .inr (.inl (fun _ => 0)))), (q1, .inl (cA 1, 350, .inr (.inl (fun _ => 0))))] H := hP
  have hD : va_D A [(h, .inr (3, [.ref q0, .null, .int 0])), (q0, .inl (cA 1, 350, .inr (.inl (fun _ => 0)))), (q1, .inl (cA 1, 350, .inr (.inl (fun _ => 0))))] := hD
  refine W.widen (k := 2) (n := 700) (by decide) (by decide) ?_
  refine va_putF (D := D) (ci := 3) (v := .ref q1) (ty := .array .long) (C := RX1) (T := TX1) (N := 3) hx hb hts (in_tb inX1) tyX1 tyX1_ok nmX1 hown hK hP hD hS 0 rfl rfl 1 (by decide) (hts _ (List.mem_cons_of_mem _ tw_1_70)) (fun _ h9 => h9) rfl hin rfl (by decide +kernel) rfl rfl (Nat.le_of_ble_eq_true rfl) dX1_init_19 (fun H locs hP hD hS => ?_)
  have hP : va_P D vwCl [(h, .inr (3, [.ref q0, .ref q1, .int 0])), (q0, .inl (cA 1, 350, .inr (.inl (fun _ => 0)))), (q1, .inl (cA 1, 350, .inr (.inl (fun _ => 0))))] H := hP
  have hD : va_D A [(h, .inr (3, [.ref q0, .ref q1, .int 0])), (q0, .inl (cA 1, 350, .inr (.inl (fun _ => 0)))), (q1, .inl (cA 1, 350, .inr (.inl (fun _ => 0))))] := hD
  refine lv_aload_n hx hb dX1_init_22 rfl (lv_at hl 0 rfl) ?_
  refine lv_iconst (v := 0) hx hb dX1_init_23 (by decide) ?_
  refine va_put (D := D) (ci := 3) (v := .int 0) (ty := .int) (C := RX1) (T := TX1) (N := 3) hx hb hts (in_tb inX1) tyX1 tyX1_ok nmX1 hown hK hP hD hS 0 rfl rfl 2 (by decide) (hts _ (List.mem_cons_of_mem _ tw_1_73)) (fun _ h9 => h9) rfl (by decide +kernel) rfl rfl (Nat.le_of_ble_eq_true rfl) dX1_init_24 (fun H locs hP hD hS => ?_)
  have hP : va_P D vwCl [(h, .inr (3, [.ref q0, .ref q1, .int 0])), (q0, .inl (cA 1, 350, .inr (.inl (fun _ => 0)))), (q1, .inl (cA 1, 350, .inr (.inl (fun _ => 0))))] H := hP
  have hD : va_D A [(h, .inr (3, [.ref q0, .ref q1, .int 0])), (q0, .inl (cA 1, 350, .inr (.inl (fun _ => 0)))), (q1, .inl (cA 1, 350, .inr (.inl (fun _ => 0))))] := hD
  have hP9 : va_P D vwCl (cw_X1_init cA h (fun k => if k = 0 then q0 else if k = 1 then q1 else 0)) H := hP.sub [0, 1, 2] rfl
  have hD9 : va_D A (cw_X1_init cA h (fun k => if k = 0 then q0 else if k = 1 then q1 else 0)) := hD.sub [0, 1, 2] (by decide) rfl
  exact W.vret hx hb hr (fun t ht hW => ⟨⟨(fun k => if k = 0 then q0 else if k = 1 then q1 else 0), rfl, trivial, by rw [ht]; exact hP9, va_K.moved hW.alike hK, hD9⟩, hS.F ht⟩) hS.2.2 dX1_init_27 hlk
def cw_X3_init (cA : Nat → ClassId) (h : Nat) (a1 : Nat) (u : Nat → Nat) : va_W := [(h, .inr (5, [.ref (u 6), .ref (u 0), .ref (u 1), .ref (u 2), .ref (u 5), .int 0, .int 0, .int 0])), (u 0, .inl (cA 3, 64, .inr (.inr (.inr (.inr (fun _ => none)))))), (u 1, .inl (cA 0, 64, .inl (fun _ => 0))), (u 2, .inr (3, [.ref (u 3), .ref (u 4), .int 0])), (u 3, .inl (cA 1, 350, .inr (.inl (fun _ => 0)))), (u 4, .inl (cA 1, 350, .inr (.inl (fun _ => 0)))), (u 5, .inl (cA 1, 64, .inr (.inl (fun _ => 0)))), (u 6, .inr (8, [.ref a1, .ref (u 7), .ref (u 8), .ref (u 9), .int 0, .int 0])), (u 7, .inl (cA 0, 701, .inl (fun _ => 0))), (u 8, .inl (cA 0, 701, .inl (fun _ => 0))), (u 9, .inl (cA 1, 701, .inr (.inl (fun _ => 0))))]
def rm_X3_init : Room := { frames := 2, cells := 10, slots := 3004, locals := 33 }
abbrev wgX3_init : List Cond := .code yX3_init cX3_init 2 none :: TB
set_option maxHeartbeats 8000000 in
set_option maxRecDepth 100000 in
theorem met_X3_init {l : Launch} {E : EnvT} (vE : EnvOk E) {aK aV aE : Nat → Nat} {aO : Nat} (vM : eXs aK aV aE aO E) {D : va_G} {cA : Nat → ClassId} {h sz : Nat} {a1 : Nat} : Met l yX3_init wgX3_init rm_X3_init (va_Pc [.ref h, .ref a1] (gPre E D cA sz [(h, .inr (5, [.null, .null, .null, .null, .null, .int 0, .int 0, .int 0]))])) (va_Qv (fun _ : Nat → Nat => True) (fun u t => gAt D cA (va_A [(h, .inr (5, [.null, .null, .null, .null, .null, .int 0, .int 0, .int 0]))] sz) (cw_X3_init cA h a1 u) t) (va_A [(h, .inr (5, [.null, .null, .null, .null, .null, .int 0, .int 0, .int 0]))] sz)) 10 3004 (va_A [(h, .inr (5, [.null, .null, .null, .null, .null, .int 0, .int 0, .int 0]))] sz) := by
  refine Met.ofW (cc := cX3_init) (maxL := 2) (ret := none) (by decide +kernel) rfl ?_
  intro p e s m args below meth c s₁ B hml hv
  obtain ⟨rfl, hsz, hP, hK, hD0, hE⟩ := hv
  have hx := B.exec
  have hb := B.bytes
  have hr := B.returns
  have hts := atoms_spec (ws := wgX3_init) B.pre
  have hown : s.vm.findClass RX3 = some m.cls := findClass_of_methodNamed B.named
  have hlk := B.notSynchronized
  have hin : meth.name = "<init>" := (name_of_methodNamed B.named B.method).1
  subst hsz
  have hD := hD0.self (sz := s.heap.size)
  generalize hAe : va_A [(h, .inr (5, [.null, .null, .null, .null, .null, .int 0, .int 0, .int 0]))] s.heap.size = A at hD hE ⊢
  have hA : ∀ q : Nat, s.heap.size ≤ q → A q := fun q h => by rw [← hAe]; exact Or.inr h
  have hS : va_S A s.heap s.heap [] := va_S.rf
  have C : xCx p s m _ meth c cX3_init 2 none wgX3_init RX3 E D cA A := ⟨hx, hb, hml, hr, hown, hts, hK, hA, hlk, hE, vE⟩
  have hl := lv_entry ([.ref h, .ref a1]) (n := 2) (Nat.le_of_ble_eq_true rfl)
  rw [lg_entry_eq]
  generalize (lg_sl ([.ref h, .ref a1]) ++ List.replicate (2 - (lg_sl ([.ref h, .ref a1])).length) Slot.unset).toArray = ls at hl ⊢
  have hl : lv_has ls 2 [(0, .ref h), (1, .ref a1)] := hl
  refine lv_aload_n hx hb dX3_init_0 rfl (lv_at hl 0 rfl) ?_
  refine W.objInit hx hb hown (hts _ (List.mem_cons_of_mem _ tw_1_60)) (hts _ (List.mem_cons_of_mem _ tw_1_36)) (hts _ (List.mem_cons_of_mem _ tw_1_37)) rfl (by rw [hml]; exact hl.1) rfl dX3_init_1 (by decide) (Nat.le_of_ble_eq_true rfl) ?_
  refine W.eq (g2 := F0 m 4 ls []) rfl ?_
  refine lv_aload_n hx hb dX3_init_4 rfl (lv_at hl 0 rfl) ?_
  refine lv_bipush (v := 64) hx hb dX3_init_5 (by decide) ?_
  refine nq_same (C := "KernelText$Op") (N' := 64) hx hb hown (hts _ (List.mem_cons_of_mem _ tw_1_61)) (eX.ao (vM _ _ _ hE)) hK hP hD hS hA (by decide) (by decide) (by decide) (by decide) (by decide) 3 rfl dX3_init_7 (fun q0 H hP hD hS => ?_)
  have hP : va_P D vwCl [(h, .inr (5, [.null, .null, .null, .null, .null, .int 0, .int 0, .int 0])), (q0, .inl (cA 3, 64, .inr (.inr (.inr (.inr (fun _ => none))))))] H := hP
  have hD : va_D A [(h, .inr (5, [.null, .null, .null, .null, .null, .int 0, .int 0, .int 0])), (q0, .inl (cA 3, 64, .inr (.inr (.inr (.inr (fun _ => none))))))] := hD
  refine W.widen (k := 1) (n := 64) (by decide) (by decide) ?_
  refine va_putF (D := D) (ci := 5) (v := .ref q0) (ty := .array (.object "KernelText$Op")) (C := RX3) (T := TX3) (N := 8) hx hb hts (in_tb inX3) tyX3 tyX3_ok nmX3 hown hK hP hD hS 0 rfl rfl 1 (by decide) (hts _ (List.mem_cons_of_mem _ tw_1_111)) (fun _ h9 => h9) rfl hin rfl (by decide +kernel) rfl rfl (Nat.le_of_ble_eq_true rfl) dX3_init_10 (fun H locs hP hD hS => ?_)
  have hP : va_P D vwCl [(h, .inr (5, [.null, .ref q0, .null, .null, .null, .int 0, .int 0, .int 0])), (q0, .inl (cA 3, 64, .inr (.inr (.inr (.inr (fun _ => none))))))] H := hP
  have hD : va_D A [(h, .inr (5, [.null, .ref q0, .null, .null, .null, .int 0, .int 0, .int 0])), (q0, .inl (cA 3, 64, .inr (.inr (.inr (.inr (fun _ => none))))))] := hD
  refine lv_aload_n hx hb dX3_init_13 rfl (lv_at hl 0 rfl) ?_
  refine lv_bipush (v := 64) hx hb dX3_init_14 (by decide) ?_
  refine nw_same (atype := .int) (a0 := (64, .inl (fun _ => 0))) (N' := 64) (ty := .int) hx hb (hts _ (List.mem_cons_of_mem _ tw_1_83)) rfl hK hP hD hS hA (fun _ => rfl) (by decide) (by decide) (by decide) (by decide) (by decide) 0 rfl (fun _ _ h => h) dX3_init_16 (fun q1 H hP hD hS => ?_)
  have hP : va_P D vwCl [(h, .inr (5, [.null, .ref q0, .null, .null, .null, .int 0, .int 0, .int 0])), (q0, .inl (cA 3, 64, .inr (.inr (.inr (.inr (fun _ => none)))))), (q1, .inl (cA 0, 64, .inl (fun _ => 0)))] H := hP
  have hD : va_D A [(h, .inr (5, [.null, .ref q0, .null, .null, .null, .int 0, .int 0, .int 0])), (q0, .inl (cA 3, 64, .inr (.inr (.inr (.inr (fun _ => none)))))), (q1, .inl (cA 0, 64, .inl (fun _ => 0)))] := hD
  refine W.widen (k := 2) (n := 128) (by decide) (by decide) ?_
  refine va_putF (D := D) (ci := 5) (v := .ref q1) (ty := .array .int) (C := RX3) (T := TX3) (N := 8) hx hb hts (in_tb inX3) tyX3 tyX3_ok nmX3 hown hK hP hD hS 0 rfl rfl 2 (by decide) (hts _ (List.mem_cons_of_mem _ tw_1_112)) (fun _ h9 => h9) rfl hin rfl (by decide +kernel) rfl rfl (Nat.le_of_ble_eq_true rfl) dX3_init_18 (fun H locs hP hD hS => ?_)
  have hP : va_P D vwCl [(h, .inr (5, [.null, .ref q0, .ref q1, .null, .null, .int 0, .int 0, .int 0])), (q0, .inl (cA 3, 64, .inr (.inr (.inr (.inr (fun _ => none)))))), (q1, .inl (cA 0, 64, .inl (fun _ => 0)))] H := hP
  have hD : va_D A [(h, .inr (5, [.null, .ref q0, .ref q1, .null, .null, .int 0, .int 0, .int 0])), (q0, .inl (cA 3, 64, .inr (.inr (.inr (.inr (fun _ => none)))))), (q1, .inl (cA 0, 64, .inl (fun _ => 0)))] := hD
  refine lv_aload_n hx hb dX3_init_21 rfl (lv_at hl 0 rfl) ?_
  refine va_new (ci := 3) (fs := [.null, .null, .int 0]) (C := RX1) (T := TX1) (N := 3) hx hb hts (in_tb inX1) tyX1 tyX1_ok hown (hts _ (List.mem_cons_of_mem _ tw_1_63)) (hts _ (List.mem_cons_of_mem _ tw_1_64)) (hts _ (List.mem_cons_of_mem _ tw_1_4)) hK hP hD hS hA rfl (fun j hj => match j, hj with | 0, _ => rfl | 1, _ => rfl | 2, _ => rfl | j + 3, h => absurd h (by omega)) (by decide) (by decide) dX3_init_22 (fun q2 H hP hD hS => ?_)
  have hP : va_P D vwCl [(h, .inr (5, [.null, .ref q0, .ref q1, .null, .null, .int 0, .int 0, .int 0])), (q0, .inl (cA 3, 64, .inr (.inr (.inr (.inr (fun _ => none)))))), (q1, .inl (cA 0, 64, .inl (fun _ => 0))), (q2, .inr (3, [.null, .null, .int 0]))] H := hP
  have hD : va_D A [(h, .inr (5, [.null, .ref q0, .ref q1, .null, .null, .int 0, .int 0, .int 0])), (q0, .inl (cA 3, 64, .inr (.inr (.inr (.inr (fun _ => none)))))), (q1, .inl (cA 0, 64, .inl (fun _ => 0))), (q2, .inr (3, [.null, .null, .int 0]))] := hD
  refine W.widen (k := 3) (n := 131) (by decide) (by decide) ?_
  refine lv_dup hx hb dX3_init_25 rfl ?_
  refine gI_n (wr := [(h, .inr (5, [.null, .ref q0, .ref q1, .null, .null, .int 0, .int 0, .int 0])), (q0, .inl (cA 3, 64, .inr (.inr (.inr (.inr (fun _ => none)))))), (q1, .inl (cA 0, 64, .inl (fun _ => 0)))]) (As := []) (rest := [.ref q2, .ref h]) C (met_X1_init vE vM (D := D) (cA := cA) (h := q2)) ⟨va_cnB 0 hts (TB_G (pre := []) (fun _ h => nomatch h) tw_1_67) rfl rfl rfl (eX.nm_RX3_23 (vM _ _ _ hE)) (hts _ (List.mem_cons_of_mem _ tw_1_4)) (by decide +kernel) ⟨by decide, by decide⟩, rfl, (hts _ (List.mem_cons_of_mem _ tw_1_66))⟩ hP hD hS 3 [0, 1, 2] rfl rfl (by decide) (by decide) rfl hl.1 rfl (Nat.le_of_ble_eq_true rfl) dX3_init_26 ⟨by decide, by decide⟩ (fun u3 H locs hP hD hS => ?_)
  have hP : va_P D vwCl [(h, .inr (5, [.null, .ref q0, .ref q1, .null, .null, .int 0, .int 0, .int 0])), (q0, .inl (cA 3, 64, .inr (.inr (.inr (.inr (fun _ => none)))))), (q1, .inl (cA 0, 64, .inl (fun _ => 0))), (q2, .inr (3, [.ref (u3 0), .ref (u3 1), .int 0])), (u3 0, .inl (cA 1, 350, .inr (.inl (fun _ => 0)))), (u3 1, .inl (cA 1, 350, .inr (.inl (fun _ => 0))))] H := hP
  have hD : va_D A [(h, .inr (5, [.null, .ref q0, .ref q1, .null, .null, .int 0, .int 0, .int 0])), (q0, .inl (cA 3, 64, .inr (.inr (.inr (.inr (fun _ => none)))))), (q1, .inl (cA 0, 64, .inl (fun _ => 0))), (q2, .inr (3, [.ref (u3 0), .ref (u3 1), .int 0])), (u3 0, .inl (cA 1, 350, .inr (.inl (fun _ => 0)))), (u3 1, .inl (cA 1, 350, .inr (.inl (fun _ => 0))))] := hD
  refine W.widen (k := 5) (n := 831) (by decide) (by decide) ?_
  refine va_putF (D := D) (ci := 5) (v := .ref q2) (ty := .object "KernelText$Names") (C := RX3) (T := TX3) (N := 8) hx hb hts (in_tb inX3) tyX3 tyX3_ok nmX3 hown hK hP hD hS 0 rfl rfl 3 (by decide) (hts _ (List.mem_cons_of_mem _ tw_1_113)) (fun _ h9 => h9) rfl hin rfl (by decide +kernel) rfl rfl (Nat.le_of_ble_eq_true rfl) dX3_init_29 (fun H locs hP hD hS => ?_)
  have hP : va_P D vwCl [(h, .inr (5, [.null, .ref q0, .ref q1, .ref q2, .null, .int 0, .int 0, .int 0])), (q0, .inl (cA 3, 64, .inr (.inr (.inr (.inr (fun _ => none)))))), (q1, .inl (cA 0, 64, .inl (fun _ => 0))), (q2, .inr (3, [.ref (u3 0), .ref (u3 1), .int 0])), (u3 0, .inl (cA 1, 350, .inr (.inl (fun _ => 0)))), (u3 1, .inl (cA 1, 350, .inr (.inl (fun _ => 0))))] H := hP
  have hD : va_D A [(h, .inr (5, [.null, .ref q0, .ref q1, .ref q2, .null, .int 0, .int 0, .int 0])), (q0, .inl (cA 3, 64, .inr (.inr (.inr (.inr (fun _ => none)))))), (q1, .inl (cA 0, 64, .inl (fun _ => 0))), (q2, .inr (3, [.ref (u3 0), .ref (u3 1), .int 0])), (u3 0, .inl (cA 1, 350, .inr (.inl (fun _ => 0)))), (u3 1, .inl (cA 1, 350, .inr (.inl (fun _ => 0))))] := hD
  refine lv_aload_n hx hb dX3_init_32 rfl (lv_at hl 0 rfl) ?_
  refine lv_bipush (v := 64) hx hb dX3_init_33 (by decide) ?_
  refine nw_same (atype := .long) (a0 := (64, .inr (.inl (fun _ => 0)))) (N' := 64) (ty := .long) hx hb (hts _ (List.mem_cons_of_mem _ tw_1_84)) rfl hK hP hD hS hA (fun _ => rfl) (by decide) (by decide) (by decide) (by decide) (by decide) 1 rfl (fun _ _ h => h) dX3_init_35 (fun q4 H hP hD hS => ?_)
  have hP : va_P D vwCl [(h, .inr (5, [.null, .ref q0, .ref q1, .ref q2, .null, .int 0, .int 0, .int 0])), (q0, .inl (cA 3, 64, .inr (.inr (.inr (.inr (fun _ => none)))))), (q1, .inl (cA 0, 64, .inl (fun _ => 0))), (q2, .inr (3, [.ref (u3 0), .ref (u3 1), .int 0])), (u3 0, .inl (cA 1, 350, .inr (.inl (fun _ => 0)))), (u3 1, .inl (cA 1, 350, .inr (.inl (fun _ => 0)))), (q4, .inl (cA 1, 64, .inr (.inl (fun _ => 0))))] H := hP
  have hD : va_D A [(h, .inr (5, [.null, .ref q0, .ref q1, .ref q2, .null, .int 0, .int 0, .int 0])), (q0, .inl (cA 3, 64, .inr (.inr (.inr (.inr (fun _ => none)))))), (q1, .inl (cA 0, 64, .inl (fun _ => 0))), (q2, .inr (3, [.ref (u3 0), .ref (u3 1), .int 0])), (u3 0, .inl (cA 1, 350, .inr (.inl (fun _ => 0)))), (u3 1, .inl (cA 1, 350, .inr (.inl (fun _ => 0)))), (q4, .inl (cA 1, 64, .inr (.inl (fun _ => 0))))] := hD
  refine W.widen (k := 6) (n := 895) (by decide) (by decide) ?_
  refine va_putF (D := D) (ci := 5) (v := .ref q4) (ty := .array .long) (C := RX3) (T := TX3) (N := 8) hx hb hts (in_tb inX3) tyX3 tyX3_ok nmX3 hown hK hP hD hS 0 rfl rfl 4 (by decide) (hts _ (List.mem_cons_of_mem _ tw_1_115)) (fun _ h9 => h9) rfl hin rfl (by decide +kernel) rfl rfl (Nat.le_of_ble_eq_true rfl) dX3_init_37 (fun H locs hP hD hS => ?_)
  have hP : va_P D vwCl [(h, .inr (5, [.null, .ref q0, .ref q1, .ref q2, .ref q4, .int 0, .int 0, .int 0])), (q0, .inl (cA 3, 64, .inr (.inr (.inr (.inr (fun _ => none)))))), (q1, .inl (cA 0, 64, .inl (fun _ => 0))), (q2, .inr (3, [.ref (u3 0), .ref (u3 1), .int 0])), (u3 0, .inl (cA 1, 350, .inr (.inl (fun _ => 0)))), (u3 1, .inl (cA 1, 350, .inr (.inl (fun _ => 0)))), (q4, .inl (cA 1, 64, .inr (.inl (fun _ => 0))))] H := hP
  have hD : va_D A [(h, .inr (5, [.null, .ref q0, .ref q1, .ref q2, .ref q4, .int 0, .int 0, .int 0])), (q0, .inl (cA 3, 64, .inr (.inr (.inr (.inr (fun _ => none)))))), (q1, .inl (cA 0, 64, .inl (fun _ => 0))), (q2, .inr (3, [.ref (u3 0), .ref (u3 1), .int 0])), (u3 0, .inl (cA 1, 350, .inr (.inl (fun _ => 0)))), (u3 1, .inl (cA 1, 350, .inr (.inl (fun _ => 0)))), (q4, .inl (cA 1, 64, .inr (.inl (fun _ => 0))))] := hD
  refine lv_aload_n hx hb dX3_init_40 rfl (lv_at hl 0 rfl) ?_
  refine lv_iconst (v := 0) hx hb dX3_init_41 (by decide) ?_
  refine va_put (D := D) (ci := 5) (v := .int 0) (ty := .int) (C := RX3) (T := TX3) (N := 8) hx hb hts (in_tb inX3) tyX3 tyX3_ok nmX3 hown hK hP hD hS 0 rfl rfl 5 (by decide) (hts _ (List.mem_cons_of_mem _ tw_1_117)) (fun _ h9 => h9) rfl (by decide +kernel) rfl rfl (Nat.le_of_ble_eq_true rfl) dX3_init_42 (fun H locs hP hD hS => ?_)
  have hP : va_P D vwCl [(h, .inr (5, [.null, .ref q0, .ref q1, .ref q2, .ref q4, .int 0, .int 0, .int 0])), (q0, .inl (cA 3, 64, .inr (.inr (.inr (.inr (fun _ => none)))))), (q1, .inl (cA 0, 64, .inl (fun _ => 0))), (q2, .inr (3, [.ref (u3 0), .ref (u3 1), .int 0])), (u3 0, .inl (cA 1, 350, .inr (.inl (fun _ => 0)))), (u3 1, .inl (cA 1, 350, .inr (.inl (fun _ => 0)))), (q4, .inl (cA 1, 64, .inr (.inl (fun _ => 0))))] H := hP
  have hD : va_D A [(h, .inr (5, [.null, .ref q0, .ref q1, .ref q2, .ref q4, .int 0, .int 0, .int 0])), (q0, .inl (cA 3, 64, .inr (.inr (.inr (.inr (fun _ => none)))))), (q1, .inl (cA 0, 64, .inl (fun _ => 0))), (q2, .inr (3, [.ref (u3 0), .ref (u3 1), .int 0])), (u3 0, .inl (cA 1, 350, .inr (.inl (fun _ => 0)))), (u3 1, .inl (cA 1, 350, .inr (.inl (fun _ => 0)))), (q4, .inl (cA 1, 64, .inr (.inl (fun _ => 0))))] := hD
  refine lv_aload_n hx hb dX3_init_45 rfl (lv_at hl 0 rfl) ?_
  refine lv_iconst (v := 0) hx hb dX3_init_46 (by decide) ?_
  refine va_put (D := D) (ci := 5) (v := .int 0) (ty := .int) (C := RX3) (T := TX3) (N := 8) hx hb hts (in_tb inX3) tyX3 tyX3_ok nmX3 hown hK hP hD hS 0 rfl rfl 6 (by decide) (hts _ (List.mem_cons_of_mem _ tw_1_119)) (fun _ h9 => h9) rfl (by decide +kernel) rfl rfl (Nat.le_of_ble_eq_true rfl) dX3_init_47 (fun H locs hP hD hS => ?_)
  have hP : va_P D vwCl [(h, .inr (5, [.null, .ref q0, .ref q1, .ref q2, .ref q4, .int 0, .int 0, .int 0])), (q0, .inl (cA 3, 64, .inr (.inr (.inr (.inr (fun _ => none)))))), (q1, .inl (cA 0, 64, .inl (fun _ => 0))), (q2, .inr (3, [.ref (u3 0), .ref (u3 1), .int 0])), (u3 0, .inl (cA 1, 350, .inr (.inl (fun _ => 0)))), (u3 1, .inl (cA 1, 350, .inr (.inl (fun _ => 0)))), (q4, .inl (cA 1, 64, .inr (.inl (fun _ => 0))))] H := hP
  have hD : va_D A [(h, .inr (5, [.null, .ref q0, .ref q1, .ref q2, .ref q4, .int 0, .int 0, .int 0])), (q0, .inl (cA 3, 64, .inr (.inr (.inr (.inr (fun _ => none)))))), (q1, .inl (cA 0, 64, .inl (fun _ => 0))), (q2, .inr (3, [.ref (u3 0), .ref (u3 1), .int 0])), (u3 0, .inl (cA 1, 350, .inr (.inl (fun _ => 0)))), (u3 1, .inl (cA 1, 350, .inr (.inl (fun _ => 0)))), (q4, .inl (cA 1, 64, .inr (.inl (fun _ => 0))))] := hD
  refine lv_aload_n hx hb dX3_init_50 rfl (lv_at hl 0 rfl) ?_
  refine lv_iconst (v := 0) hx hb dX3_init_51 (by decide) ?_
  refine va_put (D := D) (ci := 5) (v := .int 0) (ty := .int) (C := RX3) (T := TX3) (N := 8) hx hb hts (in_tb inX3) tyX3 tyX3_ok nmX3 hown hK hP hD hS 0 rfl rfl 7 (by decide) (hts _ (List.mem_cons_of_mem _ tw_1_121)) (fun _ h9 => h9) rfl (by decide +kernel) rfl rfl (Nat.le_of_ble_eq_true rfl) dX3_init_52 (fun H locs hP hD hS => ?_)
  have hP : va_P D vwCl [(h, .inr (5, [.null, .ref q0, .ref q1, .ref q2, .ref q4, .int 0, .int 0, .int 0])), (q0, .inl (cA 3, 64, .inr (.inr (.inr (.inr (fun _ => none)))))), (q1, .inl (cA 0, 64, .inl (fun _ => 0))), (q2, .inr (3, [.ref (u3 0), .ref (u3 1), .int 0])), (u3 0, .inl (cA 1, 350, .inr (.inl (fun _ => 0)))), (u3 1, .inl (cA 1, 350, .inr (.inl (fun _ => 0)))), (q4, .inl (cA 1, 64, .inr (.inl (fun _ => 0))))] H := hP
  have hD : va_D A [(h, .inr (5, [.null, .ref q0, .ref q1, .ref q2, .ref q4, .int 0, .int 0, .int 0])), (q0, .inl (cA 3, 64, .inr (.inr (.inr (.inr (fun _ => none)))))), (q1, .inl (cA 0, 64, .inl (fun _ => 0))), (q2, .inr (3, [.ref (u3 0), .ref (u3 1), .int 0])), (u3 0, .inl (cA 1, 350, .inr (.inl (fun _ => 0)))), (u3 1, .inl (cA 1, 350, .inr (.inl (fun _ => 0)))), (q4, .inl (cA 1, 64, .inr (.inl (fun _ => 0))))] := hD
  refine lv_aload_n hx hb dX3_init_55 rfl (lv_at hl 0 rfl) ?_
  refine va_new (ci := 8) (fs := [.null, .null, .null, .null, .int 0, .int 0]) (C := RX6) (T := TX6) (N := 6) hx hb hts (in_tb inX6) tyX6 tyX6_ok hown (hts _ (List.mem_cons_of_mem _ tw_1_85)) (hts _ (List.mem_cons_of_mem _ tw_1_86)) (hts _ (List.mem_cons_of_mem _ tw_1_5)) hK hP hD hS hA rfl (fun j hj => match j, hj with | 0, _ => rfl | 1, _ => rfl | 2, _ => rfl | 3, _ => rfl | 4, _ => rfl | 5, _ => rfl | j + 6, h => absurd h (by omega)) (by decide) (by decide) dX3_init_56 (fun q5 H hP hD hS => ?_)
  have hP : va_P D vwCl [(h, .inr (5, [.null, .ref q0, .ref q1, .ref q2, .ref q4, .int 0, .int 0, .int 0])), (q0, .inl (cA 3, 64, .inr (.inr (.inr (.inr (fun _ => none)))))), (q1, .inl (cA 0, 64, .inl (fun _ => 0))), (q2, .inr (3, [.ref (u3 0), .ref (u3 1), .int 0])), (u3 0, .inl (cA 1, 350, .inr (.inl (fun _ => 0)))), (u3 1, .inl (cA 1, 350, .inr (.inl (fun _ => 0)))), (q4, .inl (cA 1, 64, .inr (.inl (fun _ => 0)))), (q5, .inr (8, [.null, .null, .null, .null, .int 0, .int 0]))] H := hP
  have hD : va_D A [(h, .inr (5, [.null, .ref q0, .ref q1, .ref q2, .ref q4, .int 0, .int 0, .int 0])), (q0, .inl (cA 3, 64, .inr (.inr (.inr (.inr (fun _ => none)))))), (q1, .inl (cA 0, 64, .inl (fun _ => 0))), (q2, .inr (3, [.ref (u3 0), .ref (u3 1), .int 0])), (u3 0, .inl (cA 1, 350, .inr (.inl (fun _ => 0)))), (u3 1, .inl (cA 1, 350, .inr (.inl (fun _ => 0)))), (q4, .inl (cA 1, 64, .inr (.inl (fun _ => 0)))), (q5, .inr (8, [.null, .null, .null, .null, .int 0, .int 0]))] := hD
  refine W.widen (k := 7) (n := 901) (by decide) (by decide) ?_
  refine lv_dup hx hb dX3_init_59 rfl ?_
  refine lv_aload_n hx hb dX3_init_60 rfl (lv_at hl 1 rfl) ?_
  refine gI_v (wr := [(h, .inr (5, [.null, .ref q0, .ref q1, .ref q2, .ref q4, .int 0, .int 0, .int 0])), (q0, .inl (cA 3, 64, .inr (.inr (.inr (.inr (fun _ => none)))))), (q1, .inl (cA 0, 64, .inl (fun _ => 0))), (q2, .inr (3, [.ref (u3 0), .ref (u3 1), .int 0])), (u3 0, .inl (cA 1, 350, .inr (.inl (fun _ => 0)))), (u3 1, .inl (cA 1, 350, .inr (.inl (fun _ => 0)))), (q4, .inl (cA 1, 64, .inr (.inl (fun _ => 0))))]) (As := [.ref a1]) (rest := [.ref q5, .ref h]) C (met_X6_init vE vM (D := D) (cA := cA) (h := q5) (a1 := a1)) (cwI 1 hts (TB_G (pre := []) (fun _ h => nomatch h) tw_1_89) rfl rfl rfl (hts _ (List.mem_cons_of_mem _ tw_1_5)) (hts _ (List.mem_cons_of_mem _ tw_1_87)) (hts _ (List.mem_cons_of_mem _ tw_1_88)) rfl (by decide +kernel) ⟨by decide, by decide⟩) hP hD hS 7 [0, 1, 2, 3, 4, 5, 6] rfl rfl (by decide) (by decide) rfl hl.1 rfl (Nat.le_of_ble_eq_true rfl) dX3_init_61 ⟨by decide, by decide⟩ (fun u6 H locs hP hD hS => ?_)
  have hP : va_P D vwCl [(h, .inr (5, [.null, .ref q0, .ref q1, .ref q2, .ref q4, .int 0, .int 0, .int 0])), (q0, .inl (cA 3, 64, .inr (.inr (.inr (.inr (fun _ => none)))))), (q1, .inl (cA 0, 64, .inl (fun _ => 0))), (q2, .inr (3, [.ref (u3 0), .ref (u3 1), .int 0])), (u3 0, .inl (cA 1, 350, .inr (.inl (fun _ => 0)))), (u3 1, .inl (cA 1, 350, .inr (.inl (fun _ => 0)))), (q4, .inl (cA 1, 64, .inr (.inl (fun _ => 0)))), (q5, .inr (8, [.ref a1, .ref (u6 0), .ref (u6 1), .ref (u6 2), .int 0, .int 0])), (u6 0, .inl (cA 0, 701, .inl (fun _ => 0))), (u6 1, .inl (cA 0, 701, .inl (fun _ => 0))), (u6 2, .inl (cA 1, 701, .inr (.inl (fun _ => 0))))] H := hP
  have hD : va_D A [(h, .inr (5, [.null, .ref q0, .ref q1, .ref q2, .ref q4, .int 0, .int 0, .int 0])), (q0, .inl (cA 3, 64, .inr (.inr (.inr (.inr (fun _ => none)))))), (q1, .inl (cA 0, 64, .inl (fun _ => 0))), (q2, .inr (3, [.ref (u3 0), .ref (u3 1), .int 0])), (u3 0, .inl (cA 1, 350, .inr (.inl (fun _ => 0)))), (u3 1, .inl (cA 1, 350, .inr (.inl (fun _ => 0)))), (q4, .inl (cA 1, 64, .inr (.inl (fun _ => 0)))), (q5, .inr (8, [.ref a1, .ref (u6 0), .ref (u6 1), .ref (u6 2), .int 0, .int 0])), (u6 0, .inl (cA 0, 701, .inl (fun _ => 0))), (u6 1, .inl (cA 0, 701, .inl (fun _ => 0))), (u6 2, .inl (cA 1, 701, .inr (.inl (fun _ => 0))))] := hD
  refine W.widen (k := 10) (n := 3004) (by decide) (by decide) ?_
  refine va_putF (D := D) (ci := 5) (v := .ref q5) (ty := .object "KernelText$Tokens") (C := RX3) (T := TX3) (N := 8) hx hb hts (in_tb inX3) tyX3 tyX3_ok nmX3 hown hK hP hD hS 0 rfl rfl 0 (by decide) (hts _ (List.mem_cons_of_mem _ tw_1_110)) (fun _ h9 => h9) rfl hin rfl (by decide +kernel) rfl rfl (Nat.le_of_ble_eq_true rfl) dX3_init_64 (fun H locs hP hD hS => ?_)
  have hP : va_P D vwCl [(h, .inr (5, [.ref q5, .ref q0, .ref q1, .ref q2, .ref q4, .int 0, .int 0, .int 0])), (q0, .inl (cA 3, 64, .inr (.inr (.inr (.inr (fun _ => none)))))), (q1, .inl (cA 0, 64, .inl (fun _ => 0))), (q2, .inr (3, [.ref (u3 0), .ref (u3 1), .int 0])), (u3 0, .inl (cA 1, 350, .inr (.inl (fun _ => 0)))), (u3 1, .inl (cA 1, 350, .inr (.inl (fun _ => 0)))), (q4, .inl (cA 1, 64, .inr (.inl (fun _ => 0)))), (q5, .inr (8, [.ref a1, .ref (u6 0), .ref (u6 1), .ref (u6 2), .int 0, .int 0])), (u6 0, .inl (cA 0, 701, .inl (fun _ => 0))), (u6 1, .inl (cA 0, 701, .inl (fun _ => 0))), (u6 2, .inl (cA 1, 701, .inr (.inl (fun _ => 0))))] H := hP
  have hD : va_D A [(h, .inr (5, [.ref q5, .ref q0, .ref q1, .ref q2, .ref q4, .int 0, .int 0, .int 0])), (q0, .inl (cA 3, 64, .inr (.inr (.inr (.inr (fun _ => none)))))), (q1, .inl (cA 0, 64, .inl (fun _ => 0))), (q2, .inr (3, [.ref (u3 0), .ref (u3 1), .int 0])), (u3 0, .inl (cA 1, 350, .inr (.inl (fun _ => 0)))), (u3 1, .inl (cA 1, 350, .inr (.inl (fun _ => 0)))), (q4, .inl (cA 1, 64, .inr (.inl (fun _ => 0)))), (q5, .inr (8, [.ref a1, .ref (u6 0), .ref (u6 1), .ref (u6 2), .int 0, .int 0])), (u6 0, .inl (cA 0, 701, .inl (fun _ => 0))), (u6 1, .inl (cA 0, 701, .inl (fun _ => 0))), (u6 2, .inl (cA 1, 701, .inr (.inl (fun _ => 0))))] := hD
  have hP9 : va_P D vwCl (cw_X3_init cA h a1 (fun k => if k = 0 then q0 else if k = 1 then q1 else if k = 2 then q2 else if k = 3 then u3 0 else if k = 4 then u3 1 else if k = 5 then q4 else if k = 6 then q5 else if k = 7 then u6 0 else if k = 8 then u6 1 else if k = 9 then u6 2 else 0)) H := hP.sub [0, 1, 2, 3, 4, 5, 6, 7, 8, 9, 10] rfl
  have hD9 : va_D A (cw_X3_init cA h a1 (fun k => if k = 0 then q0 else if k = 1 then q1 else if k = 2 then q2 else if k = 3 then u3 0 else if k = 4 then u3 1 else if k = 5 then q4 else if k = 6 then q5 else if k = 7 then u6 0 else if k = 8 then u6 1 else if k = 9 then u6 2 else 0)) := hD.sub [0, 1, 2, 3, 4, 5, 6, 7, 8, 9, 10] (by decide) rfl
  exact W.vret hx hb hr (fun t ht hW => ⟨⟨(fun k => if k = 0 then q0 else if k = 1 then q1 else if k = 2 then q2 else if k = 3 then u3 0 else if k = 4 then u3 1 else if k = 5 then q4 else if k = 6 then q5 else if k = 7 then u6 0 else if k = 8 then u6 1 else if k = 9 then u6 2 else 0), rfl, trivial, by rw [ht]; exact hP9, va_K.moved hW.alike hK, hD9⟩, hS.F ht⟩) hS.2.2 dX3_init_67 hlk
def cw_X0_init (cA : Nat → ClassId) (h : Nat) (u : Nat → Nat) : va_W := [(h, .inr (2, [.ref (u 0), .ref (u 1), .ref (u 2), .ref (u 3), .int 0])), (u 0, .inl (cA 1, 64, .inr (.inl (fun _ => 0)))), (u 1, .inl (cA 3, 64, .inr (.inr (.inr (.inr (fun _ => none)))))), (u 2, .inl (cA 0, 64, .inl (fun _ => 0))), (u 3, .inl (cA 0, 64, .inl (fun _ => 0)))]
def rm_X0_init : Room := { frames := 1, cells := 4, slots := 256, locals := 12 }
abbrev wgX0_init : List Cond := .code yX0_init cX0_init 1 none :: TB
set_option maxHeartbeats 8000000 in
set_option maxRecDepth 100000 in
theorem met_X0_init {l : Launch} {E : EnvT} (vE : EnvOk E) {aK aV aE : Nat → Nat} {aO : Nat} (vM : eXs aK aV aE aO E) {D : va_G} {cA : Nat → ClassId} {h sz : Nat} : Met l yX0_init wgX0_init rm_X0_init (va_Pc [.ref h] (gPre E D cA sz [(h, .inr (2, [.null, .null, .null, .null, .int 0]))])) (va_Qv (fun _ : Nat → Nat => True) (fun u t => gAt D cA (va_A [(h, .inr (2, [.null, .null, .null, .null, .int 0]))] sz) (cw_X0_init cA h u) t) (va_A [(h, .inr (2, [.null, .null, .null, .null, .int 0]))] sz)) 4 256 (va_A [(h, .inr (2, [.null, .null, .null, .null, .int 0]))] sz) := by
  refine Met.ofW (cc := cX0_init) (maxL := 1) (ret := none) (by decide +kernel) rfl ?_
  intro p e s m args below meth c s₁ B hml hv
  obtain ⟨rfl, hsz, hP, hK, hD0, hE⟩ := hv
  have hx := B.exec
  have hb := B.bytes
  have hr := B.returns
  have hts := atoms_spec (ws := wgX0_init) B.pre
  have hown : s.vm.findClass RX0 = some m.cls := findClass_of_methodNamed B.named
  have hlk := B.notSynchronized
  have hin : meth.name = "<init>" := (name_of_methodNamed B.named B.method).1
  subst hsz
  have hD := hD0.self (sz := s.heap.size)
  generalize hAe : va_A [(h, .inr (2, [.null, .null, .null, .null, .int 0]))] s.heap.size = A at hD hE ⊢
  have hA : ∀ q : Nat, s.heap.size ≤ q → A q := fun q h => by rw [← hAe]; exact Or.inr h
  have hS : va_S A s.heap s.heap [] := va_S.rf
  have C : xCx p s m _ meth c cX0_init 1 none wgX0_init RX0 E D cA A := ⟨hx, hb, hml, hr, hown, hts, hK, hA, hlk, hE, vE⟩
  have hl := lv_entry ([.ref h]) (n := 1) (Nat.le_of_ble_eq_true rfl)
  rw [lg_entry_eq]
  generalize (lg_sl ([.ref h]) ++ List.replicate (1 - (lg_sl ([.ref h])).length) Slot.unset).toArray = ls at hl ⊢
  have hl : lv_has ls 1 [(0, .ref h)] := hl
  refine lv_aload_n hx hb dX0_init_0 rfl (lv_at hl 0 rfl) ?_
  refine W.objInit hx hb hown (hts _ (List.mem_cons_of_mem _ tw_1_147)) (hts _ (List.mem_cons_of_mem _ tw_1_36)) (hts _ (List.mem_cons_of_mem _ tw_1_37)) rfl (by rw [hml]; exact hl.1) rfl dX0_init_1 (by decide) (Nat.le_of_ble_eq_true rfl) ?_
  refine W.eq (g2 := F0 m 4 ls []) rfl ?_
  refine lv_aload_n hx hb dX0_init_4 rfl (lv_at hl 0 rfl) ?_
  refine lv_bipush (v := 64) hx hb dX0_init_5 (by decide) ?_
  refine nw_same (atype := .long) (a0 := (64, .inr (.inl (fun _ => 0)))) (N' := 64) (ty := .long) hx hb (hts _ (List.mem_cons_of_mem _ tw_1_84)) rfl hK hP hD hS hA (fun _ => rfl) (by decide) (by decide) (by decide) (by decide) (by decide) 1 rfl (fun _ _ h => h) dX0_init_7 (fun q0 H hP hD hS => ?_)
  have hP : va_P D vwCl [(h, .inr (2, [.null, .null, .null, .null, .int 0])), (q0, .inl (cA 1, 64, .inr (.inl (fun _ => 0))))] H := hP
  have hD : va_D A [(h, .inr (2, [.null, .null, .null, .null, .int 0])), (q0, .inl (cA 1, 64, .inr (.inl (fun _ => 0))))] := hD
  refine W.widen (k := 1) (n := 64) (by decide) (by decide) ?_
  refine va_putF (D := D) (ci := 2) (v := .ref q0) (ty := .array .long) (C := RX0) (T := TX0) (N := 5) hx hb hts (in_tb inX0) tyX0 tyX0_ok nmX0 hown hK hP hD hS 0 rfl rfl 0 (by decide) (hts _ (List.mem_cons_of_mem _ tw_1_149)) (fun _ h9 => h9) rfl hin rfl (by decide +kernel) rfl rfl (Nat.le_of_ble_eq_true rfl) dX0_init_9 (fun H locs hP hD hS => ?_)
  have hP : va_P D vwCl [(h, .inr (2, [.ref q0, .null, .null, .null, .int 0])), (q0, .inl (cA 1, 64, .inr (.inl (fun _ => 0))))] H := hP
  have hD : va_D A [(h, .inr (2, [.ref q0, .null, .null, .null, .int 0])), (q0, .inl (cA 1, 64, .inr (.inl (fun _ => 0))))] := hD
  refine lv_aload_n hx hb dX0_init_12 rfl (lv_at hl 0 rfl) ?_
  refine lv_bipush (v := 64) hx hb dX0_init_13 (by decide) ?_
  refine nq_same (C := "KernelText$Op") (N' := 64) hx hb hown (hts _ (List.mem_cons_of_mem _ tw_1_148)) (eX.ao (vM _ _ _ hE)) hK hP hD hS hA (by decide) (by decide) (by decide) (by decide) (by decide) 3 rfl dX0_init_15 (fun q1 H hP hD hS => ?_)
  have hP : va_P D vwCl [(h, .inr (2, [.ref q0, .null, .null, .null, .int 0])), (q0, .inl (cA 1, 64, .inr (.inl (fun _ => 0)))), (q1, .inl (cA 3, 64, .inr (.inr (.inr (.inr (fun _ => none))))))] H := hP
  have hD : va_D A [(h, .inr (2, [.ref q0, .null, .null, .null, .int 0])), (q0, .inl (cA 1, 64, .inr (.inl (fun _ => 0)))), (q1, .inl (cA 3, 64, .inr (.inr (.inr (.inr (fun _ => none))))))] := hD
  refine W.widen (k := 2) (n := 128) (by decide) (by decide) ?_
  refine va_putF (D := D) (ci := 2) (v := .ref q1) (ty := .array (.object "KernelText$Op")) (C := RX0) (T := TX0) (N := 5) hx hb hts (in_tb inX0) tyX0 tyX0_ok nmX0 hown hK hP hD hS 0 rfl rfl 1 (by decide) (hts _ (List.mem_cons_of_mem _ tw_1_152)) (fun _ h9 => h9) rfl hin rfl (by decide +kernel) rfl rfl (Nat.le_of_ble_eq_true rfl) dX0_init_18 (fun H locs hP hD hS => ?_)
  have hP : va_P D vwCl [(h, .inr (2, [.ref q0, .ref q1, .null, .null, .int 0])), (q0, .inl (cA 1, 64, .inr (.inl (fun _ => 0)))), (q1, .inl (cA 3, 64, .inr (.inr (.inr (.inr (fun _ => none))))))] H := hP
  have hD : va_D A [(h, .inr (2, [.ref q0, .ref q1, .null, .null, .int 0])), (q0, .inl (cA 1, 64, .inr (.inl (fun _ => 0)))), (q1, .inl (cA 3, 64, .inr (.inr (.inr (.inr (fun _ => none))))))] := hD
  refine lv_aload_n hx hb dX0_init_21 rfl (lv_at hl 0 rfl) ?_
  refine lv_bipush (v := 64) hx hb dX0_init_22 (by decide) ?_
  refine nw_same (atype := .int) (a0 := (64, .inl (fun _ => 0))) (N' := 64) (ty := .int) hx hb (hts _ (List.mem_cons_of_mem _ tw_1_83)) rfl hK hP hD hS hA (fun _ => rfl) (by decide) (by decide) (by decide) (by decide) (by decide) 0 rfl (fun _ _ h => h) dX0_init_24 (fun q2 H hP hD hS => ?_)
  have hP : va_P D vwCl [(h, .inr (2, [.ref q0, .ref q1, .null, .null, .int 0])), (q0, .inl (cA 1, 64, .inr (.inl (fun _ => 0)))), (q1, .inl (cA 3, 64, .inr (.inr (.inr (.inr (fun _ => none)))))), (q2, .inl (cA 0, 64, .inl (fun _ => 0)))] H := hP
  have hD : va_D A [(h, .inr (2, [.ref q0, .ref q1, .null, .null, .int 0])), (q0, .inl (cA 1, 64, .inr (.inl (fun _ => 0)))), (q1, .inl (cA 3, 64, .inr (.inr (.inr (.inr (fun _ => none)))))), (q2, .inl (cA 0, 64, .inl (fun _ => 0)))] := hD
  refine W.widen (k := 3) (n := 192) (by decide) (by decide) ?_
  refine va_putF (D := D) (ci := 2) (v := .ref q2) (ty := .array .int) (C := RX0) (T := TX0) (N := 5) hx hb hts (in_tb inX0) tyX0 tyX0_ok nmX0 hown hK hP hD hS 0 rfl rfl 2 (by decide) (hts _ (List.mem_cons_of_mem _ tw_1_155)) (fun _ h9 => h9) rfl hin rfl (by decide +kernel) rfl rfl (Nat.le_of_ble_eq_true rfl) dX0_init_26 (fun H locs hP hD hS => ?_)
  have hP : va_P D vwCl [(h, .inr (2, [.ref q0, .ref q1, .ref q2, .null, .int 0])), (q0, .inl (cA 1, 64, .inr (.inl (fun _ => 0)))), (q1, .inl (cA 3, 64, .inr (.inr (.inr (.inr (fun _ => none)))))), (q2, .inl (cA 0, 64, .inl (fun _ => 0)))] H := hP
  have hD : va_D A [(h, .inr (2, [.ref q0, .ref q1, .ref q2, .null, .int 0])), (q0, .inl (cA 1, 64, .inr (.inl (fun _ => 0)))), (q1, .inl (cA 3, 64, .inr (.inr (.inr (.inr (fun _ => none)))))), (q2, .inl (cA 0, 64, .inl (fun _ => 0)))] := hD
  refine lv_aload_n hx hb dX0_init_29 rfl (lv_at hl 0 rfl) ?_
  refine lv_bipush (v := 64) hx hb dX0_init_30 (by decide) ?_
  refine nw_same (atype := .int) (a0 := (64, .inl (fun _ => 0))) (N' := 64) (ty := .int) hx hb (hts _ (List.mem_cons_of_mem _ tw_1_83)) rfl hK hP hD hS hA (fun _ => rfl) (by decide) (by decide) (by decide) (by decide) (by decide) 0 rfl (fun _ _ h => h) dX0_init_32 (fun q3 H hP hD hS => ?_)
  have hP : va_P D vwCl [(h, .inr (2, [.ref q0, .ref q1, .ref q2, .null, .int 0])), (q0, .inl (cA 1, 64, .inr (.inl (fun _ => 0)))), (q1, .inl (cA 3, 64, .inr (.inr (.inr (.inr (fun _ => none)))))), (q2, .inl (cA 0, 64, .inl (fun _ => 0))), (q3, .inl (cA 0, 64, .inl (fun _ => 0)))] H := hP
  have hD : va_D A [(h, .inr (2, [.ref q0, .ref q1, .ref q2, .null, .int 0])), (q0, .inl (cA 1, 64, .inr (.inl (fun _ => 0)))), (q1, .inl (cA 3, 64, .inr (.inr (.inr (.inr (fun _ => none)))))), (q2, .inl (cA 0, 64, .inl (fun _ => 0))), (q3, .inl (cA 0, 64, .inl (fun _ => 0)))] := hD
  refine W.widen (k := 4) (n := 256) (by decide) (by decide) ?_
  refine va_putF (D := D) (ci := 2) (v := .ref q3) (ty := .array .int) (C := RX0) (T := TX0) (N := 5) hx hb hts (in_tb inX0) tyX0 tyX0_ok nmX0 hown hK hP hD hS 0 rfl rfl 3 (by decide) (hts _ (List.mem_cons_of_mem _ tw_1_156)) (fun _ h9 => h9) rfl hin rfl (by decide +kernel) rfl rfl (Nat.le_of_ble_eq_true rfl) dX0_init_34 (fun H locs hP hD hS => ?_)
  have hP : va_P D vwCl [(h, .inr (2, [.ref q0, .ref q1, .ref q2, .ref q3, .int 0])), (q0, .inl (cA 1, 64, .inr (.inl (fun _ => 0)))), (q1, .inl (cA 3, 64, .inr (.inr (.inr (.inr (fun _ => none)))))), (q2, .inl (cA 0, 64, .inl (fun _ => 0))), (q3, .inl (cA 0, 64, .inl (fun _ => 0)))] H := hP
  have hD : va_D A [(h, .inr (2, [.ref q0, .ref q1, .ref q2, .ref q3, .int 0])), (q0, .inl (cA 1, 64, .inr (.inl (fun _ => 0)))), (q1, .inl (cA 3, 64, .inr (.inr (.inr (.inr (fun _ => none)))))), (q2, .inl (cA 0, 64, .inl (fun _ => 0))), (q3, .inl (cA 0, 64, .inl (fun _ => 0)))] := hD
  refine lv_aload_n hx hb dX0_init_37 rfl (lv_at hl 0 rfl) ?_
  refine lv_iconst (v := 0) hx hb dX0_init_38 (by decide) ?_
  refine va_put (D := D) (ci := 2) (v := .int 0) (ty := .int) (C := RX0) (T := TX0) (N := 5) hx hb hts (in_tb inX0) tyX0 tyX0_ok nmX0 hown hK hP hD hS 0 rfl rfl 4 (by decide) (hts _ (List.mem_cons_of_mem _ tw_1_157)) (fun _ h9 => h9) rfl (by decide +kernel) rfl rfl (Nat.le_of_ble_eq_true rfl) dX0_init_39 (fun H locs hP hD hS => ?_)
  have hP : va_P D vwCl [(h, .inr (2, [.ref q0, .ref q1, .ref q2, .ref q3, .int 0])), (q0, .inl (cA 1, 64, .inr (.inl (fun _ => 0)))), (q1, .inl (cA 3, 64, .inr (.inr (.inr (.inr (fun _ => none)))))), (q2, .inl (cA 0, 64, .inl (fun _ => 0))), (q3, .inl (cA 0, 64, .inl (fun _ => 0)))] H := hP
  have hD : va_D A [(h, .inr (2, [.ref q0, .ref q1, .ref q2, .ref q3, .int 0])), (q0, .inl (cA 1, 64, .inr (.inl (fun _ => 0)))), (q1, .inl (cA 3, 64, .inr (.inr (.inr (.inr (fun _ => none)))))), (q2, .inl (cA 0, 64, .inl (fun _ => 0))), (q3, .inl (cA 0, 64, .inl (fun _ => 0)))] := hD
  have hP9 : va_P D vwCl (cw_X0_init cA h (fun k => if k = 0 then q0 else if k = 1 then q1 else if k = 2 then q2 else if k = 3 then q3 else 0)) H := hP.sub [0, 1, 2, 3, 4] rfl
  have hD9 : va_D A (cw_X0_init cA h (fun k => if k = 0 then q0 else if k = 1 then q1 else if k = 2 then q2 else if k = 3 then q3 else 0)) := hD.sub [0, 1, 2, 3, 4] (by decide) rfl
  exact W.vret hx hb hr (fun t ht hW => ⟨⟨(fun k => if k = 0 then q0 else if k = 1 then q1 else if k = 2 then q2 else if k = 3 then q3 else 0), rfl, trivial, by rw [ht]; exact hP9, va_K.moved hW.alike hK, hD9⟩, hS.F ht⟩) hS.2.2 dX0_init_42 hlk
def cw_X7_init (cA : Nat → ClassId) (h : Nat) (a1 : Nat) (u : Nat → Nat) : va_W := [(h, .inr (9, [.ref a1]))]
def rm_X7_init : Room := { frames := 1, cells := 0, slots := 0, locals := 12 }
abbrev wgX7_init : List Cond := .code yX7_init cX7_init 2 none :: TB
set_option maxHeartbeats 8000000 in
set_option maxRecDepth 100000 in
theorem met_X7_init {l : Launch} {E : EnvT} (vE : EnvOk E) {aK aV aE : Nat → Nat} {aO : Nat} (vM : eXs aK aV aE aO E) {D : va_G} {cA : Nat → ClassId} {h sz : Nat} {a1 : Nat} : Met l yX7_init wgX7_init rm_X7_init (va_Pc [.ref h, .ref a1] (gPre E D cA sz [(h, .inr (9, [.null]))])) (va_Qv (fun _ : Nat → Nat => True) (fun u t => gAt D cA (va_A [(h, .inr (9, [.null]))] sz) (cw_X7_init cA h a1 u) t) (va_A [(h, .inr (9, [.null]))] sz)) 0 0 (va_A [(h, .inr (9, [.null]))] sz) := by
  refine Met.ofW (cc := cX7_init) (maxL := 2) (ret := none) (by decide +kernel) rfl ?_
  intro p e s m args below meth c s₁ B hml hv
  obtain ⟨rfl, hsz, hP, hK, hD0, hE⟩ := hv
  have hx := B.exec
  have hb := B.bytes
  have hr := B.returns
  have hts := atoms_spec (ws := wgX7_init) B.pre
  have hown : s.vm.findClass RX7 = some m.cls := findClass_of_methodNamed B.named
  have hlk := B.notSynchronized
  have hin : meth.name = "<init>" := (name_of_methodNamed B.named B.method).1
  subst hsz
  have hD := hD0.self (sz := s.heap.size)
  generalize hAe : va_A [(h, .inr (9, [.null]))] s.heap.size = A at hD hE ⊢
  have hA : ∀ q : Nat, s.heap.size ≤ q → A q := fun q h => by rw [← hAe]; exact Or.inr h
  have hS : va_S A s.heap s.heap [] := va_S.rf
  have C : xCx p s m _ meth c cX7_init 2 none wgX7_init RX7 E D cA A := ⟨hx, hb, hml, hr, hown, hts, hK, hA, hlk, hE, vE⟩
  have hl := lv_entry ([.ref h, .ref a1]) (n := 2) (Nat.le_of_ble_eq_true rfl)
  rw [lg_entry_eq]
  generalize (lg_sl ([.ref h, .ref a1]) ++ List.replicate (2 - (lg_sl ([.ref h, .ref a1])).length) Slot.unset).toArray = ls at hl ⊢
  have hl : lv_has ls 2 [(0, .ref h), (1, .ref a1)] := hl
  refine lv_aload_n hx hb dX7_init_0 rfl (lv_at hl 0 rfl) ?_
  refine W.objInit hx hb hown (hts _ (List.mem_cons_of_mem _ tw_1_176)) (hts _ (List.mem_cons_of_mem _ tw_1_36)) (hts _ (List.mem_cons_of_mem _ tw_1_37)) rfl (by rw [hml]; exact hl.1) rfl dX7_init_1 (by decide) (Nat.le_of_ble_eq_true rfl) ?_
  refine W.eq (g2 := F0 m 4 ls []) rfl ?_
  refine lv_aload_n hx hb dX7_init_4 rfl (lv_at hl 0 rfl) ?_
  refine lv_aload_n hx hb dX7_init_5 rfl (lv_at hl 1 rfl) ?_
  refine va_putF (D := D) (ci := 9) (v := .ref a1) (ty := .object "KernelText$Kernel") (C := RX7) (T := TX7) (N := 1) hx hb hts (in_tb inX7) tyX7 tyX7_ok nmX7 hown hK hP hD hS 0 rfl rfl 0 (by decide) (hts _ (List.mem_cons_of_mem _ tw_1_177)) (fun _ h9 => h9) rfl hin rfl (by decide +kernel) rfl rfl (Nat.le_of_ble_eq_true rfl) dX7_init_6 (fun H locs hP hD hS => ?_)
  have hP : va_P D vwCl [(h, .inr (9, [.ref a1]))] H := hP
  have hD : va_D A [(h, .inr (9, [.ref a1]))] := hD
  have hP9 : va_P D vwCl (cw_X7_init cA h a1 (fun k => 0)) H := hP.sub [0] rfl
  have hD9 : va_D A (cw_X7_init cA h a1 (fun k => 0)) := hD.sub [0] (by decide) rfl
  exact W.vret hx hb hr (fun t ht hW => ⟨⟨(fun k => 0), rfl, trivial, by rw [ht]; exact hP9, va_K.moved hW.alike hK, hD9⟩, hS.F ht⟩) hS.2.2 dX7_init_9 hlk
def cw_X8_init (cA : Nat → ClassId) (h : Nat) (u : Nat → Nat) : va_W := [(h, .inr (10, [.ref (u 0), .ref (u 2), .ref (u 13), .ref (u 16), .ref (u 21), .ref (u 22)])), (u 0, .inr (7, [.ref (u 1), .int 0])), (u 1, .inl (cA 2, 700, .inl (fun _ => 0))), (u 2, .inr (5, [.ref (u 9), .ref (u 3), .ref (u 4), .ref (u 5), .ref (u 8), .int 0, .int 0, .int 0])), (u 3, .inl (cA 3, 64, .inr (.inr (.inr (.inr (fun _ => none)))))), (u 4, .inl (cA 0, 64, .inl (fun _ => 0))), (u 5, .inr (3, [.ref (u 6), .ref (u 7), .int 0])), (u 6, .inl (cA 1, 350, .inr (.inl (fun _ => 0)))), (u 7, .inl (cA 1, 350, .inr (.inl (fun _ => 0)))), (u 8, .inl (cA 1, 64, .inr (.inl (fun _ => 0)))), (u 9, .inr (8, [.ref (u 0), .ref (u 10), .ref (u 11), .ref (u 12), .int 0, .int 0])), (u 10, .inl (cA 0, 701, .inl (fun _ => 0))), (u 11, .inl (cA 0, 701, .inl (fun _ => 0))), (u 12, .inl (cA 1, 701, .inr (.inl (fun _ => 0)))), (u 13, .inr (3, [.ref (u 14), .ref (u 15), .int 0])), (u 14, .inl (cA 1, 350, .inr (.inl (fun _ => 0)))), (u 15, .inl (cA 1, 350, .inr (.inl (fun _ => 0)))), (u 16, .inr (2, [.ref (u 17), .ref (u 18), .ref (u 19), .ref (u 20), .int 0])), (u 17, .inl (cA 1, 64, .inr (.inl (fun _ => 0)))), (u 18, .inl (cA 3, 64, .inr (.inr (.inr (.inr (fun _ => none)))))), (u 19, .inl (cA 0, 64, .inl (fun _ => 0))), (u 20, .inl (cA 0, 64, .inl (fun _ => 0))), (u 21, .inr (9, [.ref (u 16)])), (u 22, .inr (6, [.ref (u 23)])), (u 23, .inr (1, [.ref (u 24), .int 0, .int 0, .int 0])), (u 24, .inl (cA 4, 16, .inl (fun _ => 0)))]
def rm_X8_init : Room := { frames := 4, cells := 25, slots := 4700, locals := 73 }
abbrev wgX8_init : List Cond := .code yX8_init cX8_init 1 none :: TB
set_option maxHeartbeats 8000000 in
set_option maxRecDepth 100000 in
theorem met_X8_init {l : Launch} {E : EnvT} (vE : EnvOk E) {aK aV aE : Nat → Nat} {aO : Nat} (vM : eXs aK aV aE aO E) {D : va_G} {cA : Nat → ClassId} {h sz : Nat} : Met l yX8_init wgX8_init rm_X8_init (va_Pc [.ref h] (gPre E D cA sz [(h, .inr (10, [.null, .null, .null, .null, .null, .null]))])) (va_Qv (fun _ : Nat → Nat => True) (fun u t => gAt D cA (va_A [(h, .inr (10, [.null, .null, .null, .null, .null, .null]))] sz) (cw_X8_init cA h u) t) (va_A [(h, .inr (10, [.null, .null, .null, .null, .null, .null]))] sz)) 25 4700 (va_A [(h, .inr (10, [.null, .null, .null, .null, .null, .null]))] sz) := by
  refine Met.ofW (cc := cX8_init) (maxL := 1) (ret := none) (by decide +kernel) rfl ?_
  intro p e s m args below meth c s₁ B hml hv
  obtain ⟨rfl, hsz, hP, hK, hD0, hE⟩ := hv
  have hx := B.exec
  have hb := B.bytes
  have hr := B.returns
  have hts := atoms_spec (ws := wgX8_init) B.pre
  have hown : s.vm.findClass RX8 = some m.cls := findClass_of_methodNamed B.named
  have hlk := B.notSynchronized
  have hin : meth.name = "<init>" := (name_of_methodNamed B.named B.method).1
  subst hsz
  have hD := hD0.self (sz := s.heap.size)
  generalize hAe : va_A [(h, .inr (10, [.null, .null, .null, .null, .null, .null]))] s.heap.size = A at hD hE ⊢
  have hA : ∀ q : Nat, s.heap.size ≤ q → A q := fun q h => by rw [← hAe]; exact Or.inr h
  have hS : va_S A s.heap s.heap [] := va_S.rf
  have C : xCx p s m _ meth c cX8_init 1 none wgX8_init RX8 E D cA A := ⟨hx, hb, hml, hr, hown, hts, hK, hA, hlk, hE, vE⟩
  have hl := lv_entry ([.ref h]) (n := 1) (Nat.le_of_ble_eq_true rfl)
  rw [lg_entry_eq]
  generalize (lg_sl ([.ref h]) ++ List.replicate (1 - (lg_sl ([.ref h])).length) Slot.unset).toArray = ls at hl ⊢
  have hl : lv_has ls 1 [(0, .ref h)] := hl
  refine lv_aload_n hx hb dX8_init_0 rfl (lv_at hl 0 rfl) ?_
  refine W.objInit hx hb hown (hts _ (List.mem_cons_of_mem _ tw_1_35)) (hts _ (List.mem_cons_of_mem _ tw_1_36)) (hts _ (List.mem_cons_of_mem _ tw_1_37)) rfl (by rw [hml]; exact hl.1) rfl dX8_init_1 (by decide) (Nat.le_of_ble_eq_true rfl) ?_
  refine W.eq (g2 := F0 m 4 ls []) rfl ?_
  refine lv_aload_n hx hb dX8_init_4 rfl (lv_at hl 0 rfl) ?_
  refine va_new (ci := 7) (fs := [.null, .int 0]) (C := RX5) (T := TX5) (N := 2) hx hb hts (in_tb inX5) tyX5 tyX5_ok hown (hts _ (List.mem_cons_of_mem _ tw_1_38)) (hts _ (List.mem_cons_of_mem _ tw_1_39)) (hts _ (List.mem_cons_of_mem _ tw_1_2)) hK hP hD hS hA rfl (fun j hj => match j, hj with | 0, _ => rfl | 1, _ => rfl | j + 2, h => absurd h (by omega)) (by decide) (by decide) dX8_init_5 (fun q0 H hP hD hS => ?_)
  have hP : va_P D vwCl [(h, .inr (10, [.null, .null, .null, .null, .null, .null])), (q0, .inr (7, [.null, .int 0]))] H := hP
  have hD : va_D A [(h, .inr (10, [.null, .null, .null, .null, .null, .null])), (q0, .inr (7, [.null, .int 0]))] := hD
  refine W.widen (k := 1) (n := 2) (by decide) (by decide) ?_
  refine lv_dup hx hb dX8_init_8 rfl ?_
  refine gI_n (wr := [(h, .inr (10, [.null, .null, .null, .null, .null, .null]))]) (As := []) (rest := [.ref q0, .ref h]) C (met_X5_init vE vM (D := D) (cA := cA) (h := q0)) ⟨va_cnB 0 hts (TB_G (pre := []) (fun _ h => nomatch h) tw_1_42) rfl rfl rfl (eX.nm_RX8_9 (vM _ _ _ hE)) (hts _ (List.mem_cons_of_mem _ tw_1_2)) (by decide +kernel) ⟨by decide, by decide⟩, rfl, (hts _ (List.mem_cons_of_mem _ tw_1_41))⟩ hP hD hS 1 [0] rfl rfl (by decide) (by decide) rfl hl.1 rfl (Nat.le_of_ble_eq_true rfl) dX8_init_9 ⟨by decide, by decide⟩ (fun u1 H locs hP hD hS => ?_)
  have hP : va_P D vwCl [(h, .inr (10, [.null, .null, .null, .null, .null, .null])), (q0, .inr (7, [.ref (u1 0), .int 0])), (u1 0, .inl (cA 2, 700, .inl (fun _ => 0)))] H := hP
  have hD : va_D A [(h, .inr (10, [.null, .null, .null, .null, .null, .null])), (q0, .inr (7, [.ref (u1 0), .int 0])), (u1 0, .inl (cA 2, 700, .inl (fun _ => 0)))] := hD
  refine W.widen (k := 2) (n := 702) (by decide) (by decide) ?_
  refine va_putF (D := D) (ci := 10) (v := .ref q0) (ty := .object "KernelText$Tape") (C := RX8) (T := TX8) (N := 6) hx hb hts (in_tb inX8) tyX8 tyX8_ok nmX8 hown hK hP hD hS 0 rfl rfl 0 (by decide) (hts _ (List.mem_cons_of_mem _ tw_1_224)) (fun _ h9 => h9) rfl hin rfl (by decide +kernel) rfl rfl (Nat.le_of_ble_eq_true rfl) dX8_init_12 (fun H locs hP hD hS => ?_)
  have hP : va_P D vwCl [(h, .inr (10, [.ref q0, .null, .null, .null, .null, .null])), (q0, .inr (7, [.ref (u1 0), .int 0])), (u1 0, .inl (cA 2, 700, .inl (fun _ => 0)))] H := hP
  have hD : va_D A [(h, .inr (10, [.ref q0, .null, .null, .null, .null, .null])), (q0, .inr (7, [.ref (u1 0), .int 0])), (u1 0, .inl (cA 2, 700, .inl (fun _ => 0)))] := hD
  refine lv_aload_n hx hb dX8_init_15 rfl (lv_at hl 0 rfl) ?_
  refine va_new (ci := 5) (fs := [.null, .null, .null, .null, .null, .int 0, .int 0, .int 0]) (C := RX3) (T := TX3) (N := 8) hx hb hts (in_tb inX3) tyX3 tyX3_ok hown (hts _ (List.mem_cons_of_mem _ tw_1_55)) (hts _ (List.mem_cons_of_mem _ tw_1_56)) (hts _ (List.mem_cons_of_mem _ tw_1_3)) hK hP hD hS hA rfl (fun j hj => match j, hj with | 0, _ => rfl | 1, _ => rfl | 2, _ => rfl | 3, _ => rfl | 4, _ => rfl | 5, _ => rfl | 6, _ => rfl | 7, _ => rfl | j + 8, h => absurd h (by omega)) (by decide) (by decide) dX8_init_16 (fun q2 H hP hD hS => ?_)
  have hP : va_P D vwCl [(h, .inr (10, [.ref q0, .null, .null, .null, .null, .null])), (q0, .inr (7, [.ref (u1 0), .int 0])), (u1 0, .inl (cA 2, 700, .inl (fun _ => 0))), (q2, .inr (5, [.null, .null, .null, .null, .null, .int 0, .int 0, .int 0]))] H := hP
  have hD : va_D A [(h, .inr (10, [.ref q0, .null, .null, .null, .null, .null])), (q0, .inr (7, [.ref (u1 0), .int 0])), (u1 0, .inl (cA 2, 700, .inl (fun _ => 0))), (q2, .inr (5, [.null, .null, .null, .null, .null, .int 0, .int 0, .int 0]))] := hD
  refine W.widen (k := 3) (n := 710) (by decide) (by decide) ?_
  refine lv_dup hx hb dX8_init_19 rfl ?_
  refine lv_aload_n hx hb dX8_init_20 rfl (lv_at hl 0 rfl) ?_
  refine va_get (D := D) (ci := 10) (v := .ref q0) (C := RX8) (T := TX8) (N := 6) hx hb hts (in_tb inX8) hown hK hP 0 rfl rfl 0 (by decide) (hts _ (List.mem_cons_of_mem _ tw_1_224)) (fun _ h9 => h9) rfl dX8_init_21 ?_
  refine gI_v (wr := [(h, .inr (10, [.ref q0, .null, .null, .null, .null, .null])), (q0, .inr (7, [.ref (u1 0), .int 0])), (u1 0, .inl (cA 2, 700, .inl (fun _ => 0)))]) (As := [.ref q0]) (rest := [.ref q2, .ref h]) C (met_X3_init vE vM (D := D) (cA := cA) (h := q2) (a1 := q0)) (cwI 1 hts (TB_G (pre := []) (fun _ h => nomatch h) tw_1_59) rfl rfl rfl (hts _ (List.mem_cons_of_mem _ tw_1_3)) (hts _ (List.mem_cons_of_mem _ tw_1_57)) (hts _ (List.mem_cons_of_mem _ tw_1_58)) rfl (by decide +kernel) ⟨by decide, by decide⟩) hP hD hS 3 [0, 1, 2] rfl rfl (by decide) (by decide) rfl hl.1 rfl (Nat.le_of_ble_eq_true rfl) dX8_init_24 ⟨by decide, by decide⟩ (fun u3 H locs hP hD hS => ?_)
  have hP : va_P D vwCl [(h, .inr (10, [.ref q0, .null, .null, .null, .null, .null])), (q0, .inr (7, [.ref (u1 0), .int 0])), (u1 0, .inl (cA 2, 700, .inl (fun _ => 0))), (q2, .inr (5, [.ref (u3 6), .ref (u3 0), .ref (u3 1), .ref (u3 2), .ref (u3 5), .int 0, .int 0, .int 0])), (u3 0, .inl (cA 3, 64, .inr (.inr (.inr (.inr (fun _ => none)))))), (u3 1, .inl (cA 0, 64, .inl (fun _ => 0))), (u3 2, .inr (3, [.ref (u3 3), .ref (u3 4), .int 0])), (u3 3, .inl (cA 1, 350, .inr (.inl (fun _ => 0)))), (u3 4, .inl (cA 1, 350, .inr (.inl (fun _ => 0)))), (u3 5, .inl (cA 1, 64, .inr (.inl (fun _ => 0)))), (u3 6, .inr (8, [.ref q0, .ref (u3 7), .ref (u3 8), .ref (u3 9), .int 0, .int 0])), (u3 7, .inl (cA 0, 701, .inl (fun _ => 0))), (u3 8, .inl (cA 0, 701, .inl (fun _ => 0))), (u3 9, .inl (cA 1, 701, .inr (.inl (fun _ => 0))))] H := hP
  have hD : va_D A [(h, .inr (10, [.ref q0, .null, .null, .null, .null, .null])), (q0, .inr (7, [.ref (u1 0), .int 0])), (u1 0, .inl (cA 2, 700, .inl (fun _ => 0))), (q2, .inr (5, [.ref (u3 6), .ref (u3 0), .ref (u3 1), .ref (u3 2), .ref (u3 5), .int 0, .int 0, .int 0])), (u3 0, .inl (cA 3, 64, .inr (.inr (.inr (.inr (fun _ => none)))))), (u3 1, .inl (cA 0, 64, .inl (fun _ => 0))), (u3 2, .inr (3, [.ref (u3 3), .ref (u3 4), .int 0])), (u3 3, .inl (cA 1, 350, .inr (.inl (fun _ => 0)))), (u3 4, .inl (cA 1, 350, .inr (.inl (fun _ => 0)))), (u3 5, .inl (cA 1, 64, .inr (.inl (fun _ => 0)))), (u3 6, .inr (8, [.ref q0, .ref (u3 7), .ref (u3 8), .ref (u3 9), .int 0, .int 0])), (u3 7, .inl (cA 0, 701, .inl (fun _ => 0))), (u3 8, .inl (cA 0, 701, .inl (fun _ => 0))), (u3 9, .inl (cA 1, 701, .inr (.inl (fun _ => 0))))] := hD
  refine W.widen (k := 13) (n := 3714) (by decide) (by decide) ?_
  refine va_putF (D := D) (ci := 10) (v := .ref q2) (ty := .object "KernelText$Parser") (C := RX8) (T := TX8) (N := 6) hx hb hts (in_tb inX8) tyX8 tyX8_ok nmX8 hown hK hP hD hS 0 rfl rfl 1 (by decide) (hts _ (List.mem_cons_of_mem _ tw_1_225)) (fun _ h9 => h9) rfl hin rfl (by decide +kernel) rfl rfl (Nat.le_of_ble_eq_true rfl) dX8_init_27 (fun H locs hP hD hS => ?_)
  have hP : va_P D vwCl [(h, .inr (10, [.ref q0, .ref q2, .null, .null, .null, .null])), (q0, .inr (7, [.ref (u1 0), .int 0])), (u1 0, .inl (cA 2, 700, .inl (fun _ => 0))), (q2, .inr (5, [.ref (u3 6), .ref (u3 0), .ref (u3 1), .ref (u3 2), .ref (u3 5), .int 0, .int 0, .int 0])), (u3 0, .inl (cA 3, 64, .inr (.inr (.inr (.inr (fun _ => none)))))), (u3 1, .inl (cA 0, 64, .inl (fun _ => 0))), (u3 2, .inr (3, [.ref (u3 3), .ref (u3 4), .int 0])), (u3 3, .inl (cA 1, 350, .inr (.inl (fun _ => 0)))), (u3 4, .inl (cA 1, 350, .inr (.inl (fun _ => 0)))), (u3 5, .inl (cA 1, 64, .inr (.inl (fun _ => 0)))), (u3 6, .inr (8, [.ref q0, .ref (u3 7), .ref (u3 8), .ref (u3 9), .int 0, .int 0])), (u3 7, .inl (cA 0, 701, .inl (fun _ => 0))), (u3 8, .inl (cA 0, 701, .inl (fun _ => 0))), (u3 9, .inl (cA 1, 701, .inr (.inl (fun _ => 0))))] H := hP
  have hD : va_D A [(h, .inr (10, [.ref q0, .ref q2, .null, .null, .null, .null])), (q0, .inr (7, [.ref (u1 0), .int 0])), (u1 0, .inl (cA 2, 700, .inl (fun _ => 0))), (q2, .inr (5, [.ref (u3 6), .ref (u3 0), .ref (u3 1), .ref (u3 2), .ref (u3 5), .int 0, .int 0, .int 0])), (u3 0, .inl (cA 3, 64, .inr (.inr (.inr (.inr (fun _ => none)))))), (u3 1, .inl (cA 0, 64, .inl (fun _ => 0))), (u3 2, .inr (3, [.ref (u3 3), .ref (u3 4), .int 0])), (u3 3, .inl (cA 1, 350, .inr (.inl (fun _ => 0)))), (u3 4, .inl (cA 1, 350, .inr (.inl (fun _ => 0)))), (u3 5, .inl (cA 1, 64, .inr (.inl (fun _ => 0)))), (u3 6, .inr (8, [.ref q0, .ref (u3 7), .ref (u3 8), .ref (u3 9), .int 0, .int 0])), (u3 7, .inl (cA 0, 701, .inl (fun _ => 0))), (u3 8, .inl (cA 0, 701, .inl (fun _ => 0))), (u3 9, .inl (cA 1, 701, .inr (.inl (fun _ => 0))))] := hD
  refine lv_aload_n hx hb dX8_init_30 rfl (lv_at hl 0 rfl) ?_
  refine va_new (ci := 3) (fs := [.null, .null, .int 0]) (C := RX1) (T := TX1) (N := 3) hx hb hts (in_tb inX1) tyX1 tyX1_ok hown (hts _ (List.mem_cons_of_mem _ tw_1_140)) (hts _ (List.mem_cons_of_mem _ tw_1_64)) (hts _ (List.mem_cons_of_mem _ tw_1_4)) hK hP hD hS hA rfl (fun j hj => match j, hj with | 0, _ => rfl | 1, _ => rfl | 2, _ => rfl | j + 3, h => absurd h (by omega)) (by decide) (by decide) dX8_init_31 (fun q4 H hP hD hS => ?_)
  have hP : va_P D vwCl [(h, .inr (10, [.ref q0, .ref q2, .null, .null, .null, .null])), (q0, .inr (7, [.ref (u1 0), .int 0])), (u1 0, .inl (cA 2, 700, .inl (fun _ => 0))), (q2, .inr (5, [.ref (u3 6), .ref (u3 0), .ref (u3 1), .ref (u3 2), .ref (u3 5), .int 0, .int 0, .int 0])), (u3 0, .inl (cA 3, 64, .inr (.inr (.inr (.inr (fun _ => none)))))), (u3 1, .inl (cA 0, 64, .inl (fun _ => 0))), (u3 2, .inr (3, [.ref (u3 3), .ref (u3 4), .int 0])), (u3 3, .inl (cA 1, 350, .inr (.inl (fun _ => 0)))), (u3 4, .inl (cA 1, 350, .inr (.inl (fun _ => 0)))), (u3 5, .inl (cA 1, 64, .inr (.inl (fun _ => 0)))), (u3 6, .inr (8, [.ref q0, .ref (u3 7), .ref (u3 8), .ref (u3 9), .int 0, .int 0])), (u3 7, .inl (cA 0, 701, .inl (fun _ => 0))), (u3 8, .inl (cA 0, 701, .inl (fun _ => 0))), (u3 9, .inl (cA 1, 701, .inr (.inl (fun _ => 0)))), (q4, .inr (3, [.null, .null, .int 0]))] H := hP
  have hD : va_D A [(h, .inr (10, [.ref q0, .ref q2, .null, .null, .null, .null])), (q0, .inr (7, [.ref (u1 0), .int 0])), (u1 0, .inl (cA 2, 700, .inl (fun _ => 0))), (q2, .inr (5, [.ref (u3 6), .ref (u3 0), .ref (u3 1), .ref (u3 2), .ref (u3 5), .int 0, .int 0, .int 0])), (u3 0, .inl (cA 3, 64, .inr (.inr (.inr (.inr (fun _ => none)))))), (u3 1, .inl (cA 0, 64, .inl (fun _ => 0))), (u3 2, .inr (3, [.ref (u3 3), .ref (u3 4), .int 0])), (u3 3, .inl (cA 1, 350, .inr (.inl (fun _ => 0)))), (u3 4, .inl (cA 1, 350, .inr (.inl (fun _ => 0)))), (u3 5, .inl (cA 1, 64, .inr (.inl (fun _ => 0)))), (u3 6, .inr (8, [.ref q0, .ref (u3 7), .ref (u3 8), .ref (u3 9), .int 0, .int 0])), (u3 7, .inl (cA 0, 701, .inl (fun _ => 0))), (u3 8, .inl (cA 0, 701, .inl (fun _ => 0))), (u3 9, .inl (cA 1, 701, .inr (.inl (fun _ => 0)))), (q4, .inr (3, [.null, .null, .int 0]))] := hD
  refine W.widen (k := 14) (n := 3717) (by decide) (by decide) ?_
  refine lv_dup hx hb dX8_init_34 rfl ?_
  refine gI_n (wr := [(h, .inr (10, [.ref q0, .ref q2, .null, .null, .null, .null])), (q0, .inr (7, [.ref (u1 0), .int 0])), (u1 0, .inl (cA 2, 700, .inl (fun _ => 0))), (q2, .inr (5, [.ref (u3 6), .ref (u3 0), .ref (u3 1), .ref (u3 2), .ref (u3 5), .int 0, .int 0, .int 0])), (u3 0, .inl (cA 3, 64, .inr (.inr (.inr (.inr (fun _ => none)))))), (u3 1, .inl (cA 0, 64, .inl (fun _ => 0))), (u3 2, .inr (3, [.ref (u3 3), .ref (u3 4), .int 0])), (u3 3, .inl (cA 1, 350, .inr (.inl (fun _ => 0)))), (u3 4, .inl (cA 1, 350, .inr (.inl (fun _ => 0)))), (u3 5, .inl (cA 1, 64, .inr (.inl (fun _ => 0)))), (u3 6, .inr (8, [.ref q0, .ref (u3 7), .ref (u3 8), .ref (u3 9), .int 0, .int 0])), (u3 7, .inl (cA 0, 701, .inl (fun _ => 0))), (u3 8, .inl (cA 0, 701, .inl (fun _ => 0))), (u3 9, .inl (cA 1, 701, .inr (.inl (fun _ => 0))))]) (As := []) (rest := [.ref q4, .ref h]) C (met_X1_init vE vM (D := D) (cA := cA) (h := q4)) ⟨va_cnB 0 hts (TB_G (pre := []) (fun _ h => nomatch h) tw_1_67) rfl rfl rfl (eX.nm_RX8_27 (vM _ _ _ hE)) (hts _ (List.mem_cons_of_mem _ tw_1_4)) (by decide +kernel) ⟨by decide, by decide⟩, rfl, (hts _ (List.mem_cons_of_mem _ tw_1_66))⟩ hP hD hS 14 [0, 1, 2, 3, 4, 5, 6, 7, 8, 9, 10, 11, 12, 13] rfl rfl (by decide) (by decide) rfl hl.1 rfl (Nat.le_of_ble_eq_true rfl) dX8_init_35 ⟨by decide, by decide⟩ (fun u5 H locs hP hD hS => ?_)
  have hP : va_P D vwCl [(h, .inr (10, [.ref q0, .ref q2, .null, .null, .null, .null])), (q0, .inr (7, [.ref (u1 0), .int 0])), (u1 0, .inl (cA 2, 700, .inl (fun _ => 0))), (q2, .inr (5, [.ref (u3 6), .ref (u3 0), .ref (u3 1), .ref (u3 2), .ref (u3 5), .int 0, .int 0, .int 0])), (u3 0, .inl (cA 3, 64, .inr (.inr (.inr (.inr (fun _ => none)))))), (u3 1, .inl (cA 0, 64, .inl (fun _ => 0))), (u3 2, .inr (3, [.ref (u3 3), .ref (u3 4), .int 0])), (u3 3, .inl (cA 1, 350, .inr (.inl (fun _ => 0)))), (u3 4, .inl (cA 1, 350, .inr (.inl (fun _ => 0)))), (u3 5, .inl (cA 1, 64, .inr (.inl (fun _ => 0)))), (u3 6, .inr (8, [.ref q0, .ref (u3 7), .ref (u3 8), .ref (u3 9), .int 0, .int 0])), (u3 7, .inl (cA 0, 701, .inl (fun _ => 0))), (u3 8, .inl (cA 0, 701, .inl (fun _ => 0))), (u3 9, .inl (cA 1, 701, .inr (.inl (fun _ => 0)))), (q4, .inr (3, [.ref (u5 0), .ref (u5 1), .int 0])), (u5 0, .inl (cA 1, 350, .inr (.inl (fun _ => 0)))), (u5 1, .inl (cA 1, 350, .inr (.inl (fun _ => 0))))] H := hP
  have hD : va_D A [(h, .inr (10, [.ref q0, .ref q2, .null, .null, .null, .null])), (q0, .inr (7, [.ref (u1 0), .int 0])), (u1 0, .inl (cA 2, 700, .inl (fun _ => 0))), (q2, .inr (5, [.ref (u3 6), .ref (u3 0), .ref (u3 1), .ref (u3 2), .ref (u3 5), .int 0, .int 0, .int 0])), (u3 0, .inl (cA 3, 64, .inr (.inr (.inr (.inr (fun _ => none)))))), (u3 1, .inl (cA 0, 64, .inl (fun _ => 0))), (u3 2, .inr (3, [.ref (u3 3), .ref (u3 4), .int 0])), (u3 3, .inl (cA 1, 350, .inr (.inl (fun _ => 0)))), (u3 4, .inl (cA 1, 350, .inr (.inl (fun _ => 0)))), (u3 5, .inl (cA 1, 64, .inr (.inl (fun _ => 0)))), (u3 6, .inr (8, [.ref q0, .ref (u3 7), .ref (u3 8), .ref (u3 9), .int 0, .int 0])), (u3 7, .inl (cA 0, 701, .inl (fun _ => 0))), (u3 8, .inl (cA 0, 701, .inl (fun _ => 0))), (u3 9, .inl (cA 1, 701, .inr (.inl (fun _ => 0)))), (q4, .inr (3, [.ref (u5 0), .ref (u5 1), .int 0])), (u5 0, .inl (cA 1, 350, .inr (.inl (fun _ => 0)))), (u5 1, .inl (cA 1, 350, .inr (.inl (fun _ => 0))))] := hD
  refine W.widen (k := 16) (n := 4417) (by decide) (by decide) ?_
  refine va_putF (D := D) (ci := 10) (v := .ref q4) (ty := .object "KernelText$Names") (C := RX8) (T := TX8) (N := 6) hx hb hts (in_tb inX8) tyX8 tyX8_ok nmX8 hown hK hP hD hS 0 rfl rfl 2 (by decide) (hts _ (List.mem_cons_of_mem _ tw_1_226)) (fun _ h9 => h9) rfl hin rfl (by decide +kernel) rfl rfl (Nat.le_of_ble_eq_true rfl) dX8_init_38 (fun H locs hP hD hS => ?_)
  have hP : va_P D vwCl [(h, .inr (10, [.ref q0, .ref q2, .ref q4, .null, .null, .null])), (q0, .inr (7, [.ref (u1 0), .int 0])), (u1 0, .inl (cA 2, 700, .inl (fun _ => 0))), (q2, .inr (5, [.ref (u3 6), .ref (u3 0), .ref (u3 1), .ref (u3 2), .ref (u3 5), .int 0, .int 0, .int 0])), (u3 0, .inl (cA 3, 64, .inr (.inr (.inr (.inr (fun _ => none)))))), (u3 1, .inl (cA 0, 64, .inl (fun _ => 0))), (u3 2, .inr (3, [.ref (u3 3), .ref (u3 4), .int 0])), (u3 3, .inl (cA 1, 350, .inr (.inl (fun _ => 0)))), (u3 4, .inl (cA 1, 350, .inr (.inl (fun _ => 0)))), (u3 5, .inl (cA 1, 64, .inr (.inl (fun _ => 0)))), (u3 6, .inr (8, [.ref q0, .ref (u3 7), .ref (u3 8), .ref (u3 9), .int 0, .int 0])), (u3 7, .inl (cA 0, 701, .inl (fun _ => 0))), (u3 8, .inl (cA 0, 701, .inl (fun _ => 0))), (u3 9, .inl (cA 1, 701, .inr (.inl (fun _ => 0)))), (q4, .inr (3, [.ref (u5 0), .ref (u5 1), .int 0])), (u5 0, .inl (cA 1, 350, .inr (.inl (fun _ => 0)))), (u5 1, .inl (cA 1, 350, .inr (.inl (fun _ => 0))))] H := hP
  have hD : va_D A [(h, .inr (10, [.ref q0, .ref q2, .ref q4, .null, .null, .null])), (q0, .inr (7, [.ref (u1 0), .int 0])), (u1 0, .inl (cA 2, 700, .inl (fun _ => 0))), (q2, .inr (5, [.ref (u3 6), .ref (u3 0), .ref (u3 1), .ref (u3 2), .ref (u3 5), .int 0, .int 0, .int 0])), (u3 0, .inl (cA 3, 64, .inr (.inr (.inr (.inr (fun _ => none)))))), (u3 1, .inl (cA 0, 64, .inl (fun _ => 0))), (u3 2, .inr (3, [.ref (u3 3), .ref (u3 4), .int 0])), (u3 3, .inl (cA 1, 350, .inr (.inl (fun _ => 0)))), (u3 4, .inl (cA 1, 350, .inr (.inl (fun _ => 0)))), (u3 5, .inl (cA 1, 64, .inr (.inl (fun _ => 0)))), (u3 6, .inr (8, [.ref q0, .ref (u3 7), .ref (u3 8), .ref (u3 9), .int 0, .int 0])), (u3 7, .inl (cA 0, 701, .inl (fun _ => 0))), (u3 8, .inl (cA 0, 701, .inl (fun _ => 0))), (u3 9, .inl (cA 1, 701, .inr (.inl (fun _ => 0)))), (q4, .inr (3, [.ref (u5 0), .ref (u5 1), .int 0])), (u5 0, .inl (cA 1, 350, .inr (.inl (fun _ => 0)))), (u5 1, .inl (cA 1, 350, .inr (.inl (fun _ => 0))))] := hD
  refine lv_aload_n hx hb dX8_init_41 rfl (lv_at hl 0 rfl) ?_
  refine va_new (ci := 2) (fs := [.null, .null, .null, .null, .int 0]) (C := RX0) (T := TX0) (N := 5) hx hb hts (in_tb inX0) tyX0 tyX0_ok hown (hts _ (List.mem_cons_of_mem _ tw_1_142)) (hts _ (List.mem_cons_of_mem _ tw_1_143)) (hts _ (List.mem_cons_of_mem _ tw_1_6)) hK hP hD hS hA rfl (fun j hj => match j, hj with | 0, _ => rfl | 1, _ => rfl | 2, _ => rfl | 3, _ => rfl | 4, _ => rfl | j + 5, h => absurd h (by omega)) (by decide) (by decide) dX8_init_42 (fun q6 H hP hD hS => ?_)
  have hP : va_P D vwCl [(h, .inr (10, [.ref q0, .ref q2, .ref q4, .null, .null, .null])), (q0, .inr (7, [.ref (u1 0), .int 0])), (u1 0, .inl (cA 2, 700, .inl (fun _ => 0))), (q2, .inr (5, [.ref (u3 6), .ref (u3 0), .ref (u3 1), .ref (u3 2), .ref (u3 5), .int 0, .int 0, .int 0])), (u3 0, .inl (cA 3, 64, .inr (.inr (.inr (.inr (fun _ => none)))))), (u3 1, .inl (cA 0, 64, .inl (fun _ => 0))), (u3 2, .inr (3, [.ref (u3 3), .ref (u3 4), .int 0])), (u3 3, .inl (cA 1, 350, .inr (.inl (fun _ => 0)))), (u3 4, .inl (cA 1, 350, .inr (.inl (fun _ => 0)))), (u3 5, .inl (cA 1, 64, .inr (.inl (fun _ => 0)))), (u3 6, .inr (8, [.ref q0, .ref (u3 7), .ref (u3 8), .ref (u3 9), .int 0, .int 0])), (u3 7, .inl (cA 0, 701, .inl (fun _ => 0))), (u3 8, .inl (cA 0, 701, .inl (fun _ => 0))), (u3 9, .inl (cA 1, 701, .inr (.inl (fun _ => 0)))), (q4, .inr (3, [.ref (u5 0), .ref (u5 1), .int 0])), (u5 0, .inl (cA 1, 350, .inr (.inl (fun _ => 0)))), (u5 1, .inl (cA 1, 350, .inr (.inl (fun _ => 0)))), (q6, .inr (2, [.null, .null, .null, .null, .int 0]))] H := hP
  have hD : va_D A [(h, .inr (10, [.ref q0, .ref q2, .ref q4, .null, .null, .null])), (q0, .inr (7, [.ref (u1 0), .int 0])), (u1 0, .inl (cA 2, 700, .inl (fun _ => 0))), (q2, .inr (5, [.ref (u3 6), .ref (u3 0), .ref (u3 1), .ref (u3 2), .ref (u3 5), .int 0, .int 0, .int 0])), (u3 0, .inl (cA 3, 64, .inr (.inr (.inr (.inr (fun _ => none)))))), (u3 1, .inl (cA 0, 64, .inl (fun _ => 0))), (u3 2, .inr (3, [.ref (u3 3), .ref (u3 4), .int 0])), (u3 3, .inl (cA 1, 350, .inr (.inl (fun _ => 0)))), (u3 4, .inl (cA 1, 350, .inr (.inl (fun _ => 0)))), (u3 5, .inl (cA 1, 64, .inr (.inl (fun _ => 0)))), (u3 6, .inr (8, [.ref q0, .ref (u3 7), .ref (u3 8), .ref (u3 9), .int 0, .int 0])), (u3 7, .inl (cA 0, 701, .inl (fun _ => 0))), (u3 8, .inl (cA 0, 701, .inl (fun _ => 0))), (u3 9, .inl (cA 1, 701, .inr (.inl (fun _ => 0)))), (q4, .inr (3, [.ref (u5 0), .ref (u5 1), .int 0])), (u5 0, .inl (cA 1, 350, .inr (.inl (fun _ => 0)))), (u5 1, .inl (cA 1, 350, .inr (.inl (fun _ => 0)))), (q6, .inr (2, [.null, .null, .null, .null, .int 0]))] := hD
  refine W.widen (k := 17) (n := 4422) (by decide) (by decide) ?_
  refine lv_dup hx hb dX8_init_45 rfl ?_
  refine gI_n (wr := [(h, .inr (10, [.ref q0, .ref q2, .ref q4, .null, .null, .null])), (q0, .inr (7, [.ref (u1 0), .int 0])), (u1 0, .inl (cA 2, 700, .inl (fun _ => 0))), (q2, .inr (5, [.ref (u3 6), .ref (u3 0), .ref (u3 1), .ref (u3 2), .ref (u3 5), .int 0, .int 0, .int 0])), (u3 0, .inl (cA 3, 64, .inr (.inr (.inr (.inr (fun _ => none)))))), (u3 1, .inl (cA 0, 64, .inl (fun _ => 0))), (u3 2, .inr (3, [.ref (u3 3), .ref (u3 4), .int 0])), (u3 3, .inl (cA 1, 350, .inr (.inl (fun _ => 0)))), (u3 4, .inl (cA 1, 350, .inr (.inl (fun _ => 0)))), (u3 5, .inl (cA 1, 64, .inr (.inl (fun _ => 0)))), (u3 6, .inr (8, [.ref q0, .ref (u3 7), .ref (u3 8), .ref (u3 9), .int 0, .int 0])), (u3 7, .inl (cA 0, 701, .inl (fun _ => 0))), (u3 8, .inl (cA 0, 701, .inl (fun _ => 0))), (u3 9, .inl (cA 1, 701, .inr (.inl (fun _ => 0)))), (q4, .inr (3, [.ref (u5 0), .ref (u5 1), .int 0])), (u5 0, .inl (cA 1, 350, .inr (.inl (fun _ => 0)))), (u5 1, .inl (cA 1, 350, .inr (.inl (fun _ => 0))))]) (As := []) (rest := [.ref q6, .ref h]) C (met_X0_init vE vM (D := D) (cA := cA) (h := q6)) ⟨va_cnB 0 hts (TB_G (pre := []) (fun _ h => nomatch h) tw_1_146) rfl rfl rfl (eX.nm_RX8_34 (vM _ _ _ hE)) (hts _ (List.mem_cons_of_mem _ tw_1_6)) (by decide +kernel) ⟨by decide, by decide⟩, rfl, (hts _ (List.mem_cons_of_mem _ tw_1_145))⟩ hP hD hS 17 [0, 1, 2, 3, 4, 5, 6, 7, 8, 9, 10, 11, 12, 13, 14, 15, 16] rfl rfl (by decide) (by decide) rfl hl.1 rfl (Nat.le_of_ble_eq_true rfl) dX8_init_46 ⟨by decide, by decide⟩ (fun u7 H locs hP hD hS => ?_)
  have hP : va_P D vwCl [(h, .inr (10, [.ref q0, .ref q2, .ref q4, .null, .null, .null])), (q0, .inr (7, [.ref (u1 0), .int 0])), (u1 0, .inl (cA 2, 700, .inl (fun _ => 0))), (q2, .inr (5, [.ref (u3 6), .ref (u3 0), .ref (u3 1), .ref (u3 2), .ref (u3 5), .int 0, .int 0, .int 0])), (u3 0, .inl (cA 3, 64, .inr (.inr (.inr (.inr (fun _ => none)))))), (u3 1, .inl (cA 0, 64, .inl (fun _ => 0))), (u3 2, .inr (3, [.ref (u3 3), .ref (u3 4), .int 0])), (u3 3, .inl (cA 1, 350, .inr (.inl (fun _ => 0)))), (u3 4, .inl (cA 1, 350, .inr (.inl (fun _ => 0)))), (u3 5, .inl (cA 1, 64, .inr (.inl (fun _ => 0)))), (u3 6, .inr (8, [.ref q0, .ref (u3 7), .ref (u3 8), .ref (u3 9), .int 0, .int 0])), (u3 7, .inl (cA 0, 701, .inl (fun _ => 0))), (u3 8, .inl (cA 0, 701, .inl (fun _ => 0))), (u3 9, .inl (cA 1, 701, .inr (.inl (fun _ => 0)))), (q4, .inr (3, [.ref (u5 0), .ref (u5 1), .int 0])), (u5 0, .inl (cA 1, 350, .inr (.inl (fun _ => 0)))), (u5 1, .inl (cA 1, 350, .inr (.inl (fun _ => 0)))), (q6, .inr (2, [.ref (u7 0), .ref (u7 1), .ref (u7 2), .ref (u7 3), .int 0])), (u7 0, .inl (cA 1, 64, .inr (.inl (fun _ => 0)))), (u7 1, .inl (cA 3, 64, .inr (.inr (.inr (.inr (fun _ => none)))))), (u7 2, .inl (cA 0, 64, .inl (fun _ => 0))), (u7 3, .inl (cA 0, 64, .inl (fun _ => 0)))] H := hP
  have hD : va_D A [(h, .inr (10, [.ref q0, .ref q2, .ref q4, .null, .null, .null])), (q0, .inr (7, [.ref (u1 0), .int 0])), (u1 0, .inl (cA 2, 700, .inl (fun _ => 0))), (q2, .inr (5, [.ref (u3 6), .ref (u3 0), .ref (u3 1), .ref (u3 2), .ref (u3 5), .int 0, .int 0, .int 0])), (u3 0, .inl (cA 3, 64, .inr (.inr (.inr (.inr (fun _ => none)))))), (u3 1, .inl (cA 0, 64, .inl (fun _ => 0))), (u3 2, .inr (3, [.ref (u3 3), .ref (u3 4), .int 0])), (u3 3, .inl (cA 1, 350, .inr (.inl (fun _ => 0)))), (u3 4, .inl (cA 1, 350, .inr (.inl (fun _ => 0)))), (u3 5, .inl (cA 1, 64, .inr (.inl (fun _ => 0)))), (u3 6, .inr (8, [.ref q0, .ref (u3 7), .ref (u3 8), .ref (u3 9), .int 0, .int 0])), (u3 7, .inl (cA 0, 701, .inl (fun _ => 0))), (u3 8, .inl (cA 0, 701, .inl (fun _ => 0))), (u3 9, .inl (cA 1, 701, .inr (.inl (fun _ => 0)))), (q4, .inr (3, [.ref (u5 0), .ref (u5 1), .int 0])), (u5 0, .inl (cA 1, 350, .inr (.inl (fun _ => 0)))), (u5 1, .inl (cA 1, 350, .inr (.inl (fun _ => 0)))), (q6, .inr (2, [.ref (u7 0), .ref (u7 1), .ref (u7 2), .ref (u7 3), .int 0])), (u7 0, .inl (cA 1, 64, .inr (.inl (fun _ => 0)))), (u7 1, .inl (cA 3, 64, .inr (.inr (.inr (.inr (fun _ => none)))))), (u7 2, .inl (cA 0, 64, .inl (fun _ => 0))), (u7 3, .inl (cA 0, 64, .inl (fun _ => 0)))] := hD
  refine W.widen (k := 21) (n := 4678) (by decide) (by decide) ?_
  refine va_putF (D := D) (ci := 10) (v := .ref q6) (ty := .object "KernelText$Kernel") (C := RX8) (T := TX8) (N := 6) hx hb hts (in_tb inX8) tyX8 tyX8_ok nmX8 hown hK hP hD hS 0 rfl rfl 3 (by decide) (hts _ (List.mem_cons_of_mem _ tw_1_227)) (fun _ h9 => h9) rfl hin rfl (by decide +kernel) rfl rfl (Nat.le_of_ble_eq_true rfl) dX8_init_49 (fun H locs hP hD hS => ?_)
  have hP : va_P D vwCl [(h, .inr (10, [.ref q0, .ref q2, .ref q4, .ref q6, .null, .null])), (q0, .inr (7, [.ref (u1 0), .int 0])), (u1 0, .inl (cA 2, 700, .inl (fun _ => 0))), (q2, .inr (5, [.ref (u3 6), .ref (u3 0), .ref (u3 1), .ref (u3 2), .ref (u3 5), .int 0, .int 0, .int 0])), (u3 0, .inl (cA 3, 64, .inr (.inr (.inr (.inr (fun _ => none)))))), (u3 1, .inl (cA 0, 64, .inl (fun _ => 0))), (u3 2, .inr (3, [.ref (u3 3), .ref (u3 4), .int 0])), (u3 3, .inl (cA 1, 350, .inr (.inl (fun _ => 0)))), (u3 4, .inl (cA 1, 350, .inr (.inl (fun _ => 0)))), (u3 5, .inl (cA 1, 64, .inr (.inl (fun _ => 0)))), (u3 6, .inr (8, [.ref q0, .ref (u3 7), .ref (u3 8), .ref (u3 9), .int 0, .int 0])), (u3 7, .inl (cA 0, 701, .inl (fun _ => 0))), (u3 8, .inl (cA 0, 701, .inl (fun _ => 0))), (u3 9, .inl (cA 1, 701, .inr (.inl (fun _ => 0)))), (q4, .inr (3, [.ref (u5 0), .ref (u5 1), .int 0])), (u5 0, .inl (cA 1, 350, .inr (.inl (fun _ => 0)))), (u5 1, .inl (cA 1, 350, .inr (.inl (fun _ => 0)))), (q6, .inr (2, [.ref (u7 0), .ref (u7 1), .ref (u7 2), .ref (u7 3), .int 0])), (u7 0, .inl (cA 1, 64, .inr (.inl (fun _ => 0)))), (u7 1, .inl (cA 3, 64, .inr (.inr (.inr (.inr (fun _ => none)))))), (u7 2, .inl (cA 0, 64, .inl (fun _ => 0))), (u7 3, .inl (cA 0, 64, .inl (fun _ => 0)))] H := hP
  have hD : va_D A [(h, .inr (10, [.ref q0, .ref q2, .ref q4, .ref q6, .null, .null])), (q0, .inr (7, [.ref (u1 0), .int 0])), (u1 0, .inl (cA 2, 700, .inl (fun _ => 0))), (q2, .inr (5, [.ref (u3 6), .ref (u3 0), .ref (u3 1), .ref (u3 2), .ref (u3 5), .int 0, .int 0, .int 0])), (u3 0, .inl (cA 3, 64, .inr (.inr (.inr (.inr (fun _ => none)))))), (u3 1, .inl (cA 0, 64, .inl (fun _ => 0))), (u3 2, .inr (3, [.ref (u3 3), .ref (u3 4), .int 0])), (u3 3, .inl (cA 1, 350, .inr (.inl (fun _ => 0)))), (u3 4, .inl (cA 1, 350, .inr (.inl (fun _ => 0)))), (u3 5, .inl (cA 1, 64, .inr (.inl (fun _ => 0)))), (u3 6, .inr (8, [.ref q0, .ref (u3 7), .ref (u3 8), .ref (u3 9), .int 0, .int 0])), (u3 7, .inl (cA 0, 701, .inl (fun _ => 0))), (u3 8, .inl (cA 0, 701, .inl (fun _ => 0))), (u3 9, .inl (cA 1, 701, .inr (.inl (fun _ => 0)))), (q4, .inr (3, [.ref (u5 0), .ref (u5 1), .int 0])), (u5 0, .inl (cA 1, 350, .inr (.inl (fun _ => 0)))), (u5 1, .inl (cA 1, 350, .inr (.inl (fun _ => 0)))), (q6, .inr (2, [.ref (u7 0), .ref (u7 1), .ref (u7 2), .ref (u7 3), .int 0])), (u7 0, .inl (cA 1, 64, .inr (.inl (fun _ => 0)))), (u7 1, .inl (cA 3, 64, .inr (.inr (.inr (.inr (fun _ => none)))))), (u7 2, .inl (cA 0, 64, .inl (fun _ => 0))), (u7 3, .inl (cA 0, 64, .inl (fun _ => 0)))] := hD
  refine lv_aload_n hx hb dX8_init_52 rfl (lv_at hl 0 rfl) ?_
  refine va_new (ci := 9) (fs := [.null]) (C := RX7) (T := TX7) (N := 1) hx hb hts (in_tb inX7) tyX7 tyX7_ok hown (hts _ (List.mem_cons_of_mem _ tw_1_171)) (hts _ (List.mem_cons_of_mem _ tw_1_172)) (hts _ (List.mem_cons_of_mem _ tw_1_7)) hK hP hD hS hA rfl (fun j hj => match j, hj with | 0, _ => rfl | j + 1, h => absurd h (by omega)) (by decide) (by decide) dX8_init_53 (fun q8 H hP hD hS => ?_)
  have hP : va_P D vwCl [(h, .inr (10, [.ref q0, .ref q2, .ref q4, .ref q6, .null, .null])), (q0, .inr (7, [.ref (u1 0), .int 0])), (u1 0, .inl (cA 2, 700, .inl (fun _ => 0))), (q2, .inr (5, [.ref (u3 6), .ref (u3 0), .ref (u3 1), .ref (u3 2), .ref (u3 5), .int 0, .int 0, .int 0])), (u3 0, .inl (cA 3, 64, .inr (.inr (.inr (.inr (fun _ => none)))))), (u3 1, .inl (cA 0, 64, .inl (fun _ => 0))), (u3 2, .inr (3, [.ref (u3 3), .ref (u3 4), .int 0])), (u3 3, .inl (cA 1, 350, .inr (.inl (fun _ => 0)))), (u3 4, .inl (cA 1, 350, .inr (.inl (fun _ => 0)))), (u3 5, .inl (cA 1, 64, .inr (.inl (fun _ => 0)))), (u3 6, .inr (8, [.ref q0, .ref (u3 7), .ref (u3 8), .ref (u3 9), .int 0, .int 0])), (u3 7, .inl (cA 0, 701, .inl (fun _ => 0))), (u3 8, .inl (cA 0, 701, .inl (fun _ => 0))), (u3 9, .inl (cA 1, 701, .inr (.inl (fun _ => 0)))), (q4, .inr (3, [.ref (u5 0), .ref (u5 1), .int 0])), (u5 0, .inl (cA 1, 350, .inr (.inl (fun _ => 0)))), (u5 1, .inl (cA 1, 350, .inr (.inl (fun _ => 0)))), (q6, .inr (2, [.ref (u7 0), .ref (u7 1), .ref (u7 2), .ref (u7 3), .int 0])), (u7 0, .inl (cA 1, 64, .inr (.inl (fun _ => 0)))), (u7 1, .inl (cA 3, 64, .inr (.inr (.inr (.inr (fun _ => none)))))), (u7 2, .inl (cA 0, 64, .inl (fun _ => 0))), (u7 3, .inl (cA 0, 64, .inl (fun _ => 0))), (q8, .inr (9, [.null]))] H := hP
  have hD : va_D A [(h, .inr (10, [.ref q0, .ref q2, .ref q4, .ref q6, .null, .null])), (q0, .inr (7, [.ref (u1 0), .int 0])), (u1 0, .inl (cA 2, 700, .inl (fun _ => 0))), (q2, .inr (5, [.ref (u3 6), .ref (u3 0), .ref (u3 1), .ref (u3 2), .ref (u3 5), .int 0, .int 0, .int 0])), (u3 0, .inl (cA 3, 64, .inr (.inr (.inr (.inr (fun _ => none)))))), (u3 1, .inl (cA 0, 64, .inl (fun _ => 0))), (u3 2, .inr (3, [.ref (u3 3), .ref (u3 4), .int 0])), (u3 3, .inl (cA 1, 350, .inr (.inl (fun _ => 0)))), (u3 4, .inl (cA 1, 350, .inr (.inl (fun _ => 0)))), (u3 5, .inl (cA 1, 64, .inr (.inl (fun _ => 0)))), (u3 6, .inr (8, [.ref q0, .ref (u3 7), .ref (u3 8), .ref (u3 9), .int 0, .int 0])), (u3 7, .inl (cA 0, 701, .inl (fun _ => 0))), (u3 8, .inl (cA 0, 701, .inl (fun _ => 0))), (u3 9, .inl (cA 1, 701, .inr (.inl (fun _ => 0)))), (q4, .inr (3, [.ref (u5 0), .ref (u5 1), .int 0])), (u5 0, .inl (cA 1, 350, .inr (.inl (fun _ => 0)))), (u5 1, .inl (cA 1, 350, .inr (.inl (fun _ => 0)))), (q6, .inr (2, [.ref (u7 0), .ref (u7 1), .ref (u7 2), .ref (u7 3), .int 0])), (u7 0, .inl (cA 1, 64, .inr (.inl (fun _ => 0)))), (u7 1, .inl (cA 3, 64, .inr (.inr (.inr (.inr (fun _ => none)))))), (u7 2, .inl (cA 0, 64, .inl (fun _ => 0))), (u7 3, .inl (cA 0, 64, .inl (fun _ => 0))), (q8, .inr (9, [.null]))] := hD
  refine W.widen (k := 22) (n := 4679) (by decide) (by decide) ?_
  refine lv_dup hx hb dX8_init_56 rfl ?_
  refine lv_aload_n hx hb dX8_init_57 rfl (lv_at hl 0 rfl) ?_
  refine va_get (D := D) (ci := 10) (v := .ref q6) (C := RX8) (T := TX8) (N := 6) hx hb hts (in_tb inX8) hown hK hP 0 rfl rfl 3 (by decide) (hts _ (List.mem_cons_of_mem _ tw_1_227)) (fun _ h9 => h9) rfl dX8_init_58 ?_
  refine gI_v (wr := [(h, .inr (10, [.ref q0, .ref q2, .ref q4, .ref q6, .null, .null])), (q0, .inr (7, [.ref (u1 0), .int 0])), (u1 0, .inl (cA 2, 700, .inl (fun _ => 0))), (q2, .inr (5, [.ref (u3 6), .ref (u3 0), .ref (u3 1), .ref (u3 2), .ref (u3 5), .int 0, .int 0, .int 0])), (u3 0, .inl (cA 3, 64, .inr (.inr (.inr (.inr (fun _ => none)))))), (u3 1, .inl (cA 0, 64, .inl (fun _ => 0))), (u3 2, .inr (3, [.ref (u3 3), .ref (u3 4), .int 0])), (u3 3, .inl (cA 1, 350, .inr (.inl (fun _ => 0)))), (u3 4, .inl (cA 1, 350, .inr (.inl (fun _ => 0)))), (u3 5, .inl (cA 1, 64, .inr (.inl (fun _ => 0)))), (u3 6, .inr (8, [.ref q0, .ref (u3 7), .ref (u3 8), .ref (u3 9), .int 0, .int 0])), (u3 7, .inl (cA 0, 701, .inl (fun _ => 0))), (u3 8, .inl (cA 0, 701, .inl (fun _ => 0))), (u3 9, .inl (cA 1, 701, .inr (.inl (fun _ => 0)))), (q4, .inr (3, [.ref (u5 0), .ref (u5 1), .int 0])), (u5 0, .inl (cA 1, 350, .inr (.inl (fun _ => 0)))), (u5 1, .inl (cA 1, 350, .inr (.inl (fun _ => 0)))), (q6, .inr (2, [.ref (u7 0), .ref (u7 1), .ref (u7 2), .ref (u7 3), .int 0])), (u7 0, .inl (cA 1, 64, .inr (.inl (fun _ => 0)))), (u7 1, .inl (cA 3, 64, .inr (.inr (.inr (.inr (fun _ => none)))))), (u7 2, .inl (cA 0, 64, .inl (fun _ => 0))), (u7 3, .inl (cA 0, 64, .inl (fun _ => 0)))]) (As := [.ref q6]) (rest := [.ref q8, .ref h]) C (met_X7_init vE vM (D := D) (cA := cA) (h := q8) (a1 := q6)) (cwI 1 hts (TB_G (pre := []) (fun _ h => nomatch h) tw_1_175) rfl rfl rfl (hts _ (List.mem_cons_of_mem _ tw_1_7)) (hts _ (List.mem_cons_of_mem _ tw_1_173)) (hts _ (List.mem_cons_of_mem _ tw_1_174)) rfl (by decide +kernel) ⟨by decide, by decide⟩) hP hD hS 22 [0, 1, 2, 3, 4, 5, 6, 7, 8, 9, 10, 11, 12, 13, 14, 15, 16, 17, 18, 19, 20, 21] rfl rfl (by decide) (by decide) rfl hl.1 rfl (Nat.le_of_ble_eq_true rfl) dX8_init_61 ⟨by decide, by decide⟩ (fun u9 H locs hP hD hS => ?_)
  have hP : va_P D vwCl [(h, .inr (10, [.ref q0, .ref q2, .ref q4, .ref q6, .null, .null])), (q0, .inr (7, [.ref (u1 0), .int 0])), (u1 0, .inl (cA 2, 700, .inl (fun _ => 0))), (q2, .inr (5, [.ref (u3 6), .ref (u3 0), .ref (u3 1), .ref (u3 2), .ref (u3 5), .int 0, .int 0, .int 0])), (u3 0, .inl (cA 3, 64, .inr (.inr (.inr (.inr (fun _ => none)))))), (u3 1, .inl (cA 0, 64, .inl (fun _ => 0))), (u3 2, .inr (3, [.ref (u3 3), .ref (u3 4), .int 0])), (u3 3, .inl (cA 1, 350, .inr (.inl (fun _ => 0)))), (u3 4, .inl (cA 1, 350, .inr (.inl (fun _ => 0)))), (u3 5, .inl (cA 1, 64, .inr (.inl (fun _ => 0)))), (u3 6, .inr (8, [.ref q0, .ref (u3 7), .ref (u3 8), .ref (u3 9), .int 0, .int 0])), (u3 7, .inl (cA 0, 701, .inl (fun _ => 0))), (u3 8, .inl (cA 0, 701, .inl (fun _ => 0))), (u3 9, .inl (cA 1, 701, .inr (.inl (fun _ => 0)))), (q4, .inr (3, [.ref (u5 0), .ref (u5 1), .int 0])), (u5 0, .inl (cA 1, 350, .inr (.inl (fun _ => 0)))), (u5 1, .inl (cA 1, 350, .inr (.inl (fun _ => 0)))), (q6, .inr (2, [.ref (u7 0), .ref (u7 1), .ref (u7 2), .ref (u7 3), .int 0])), (u7 0, .inl (cA 1, 64, .inr (.inl (fun _ => 0)))), (u7 1, .inl (cA 3, 64, .inr (.inr (.inr (.inr (fun _ => none)))))), (u7 2, .inl (cA 0, 64, .inl (fun _ => 0))), (u7 3, .inl (cA 0, 64, .inl (fun _ => 0))), (q8, .inr (9, [.ref q6]))] H := hP
  have hD : va_D A [(h, .inr (10, [.ref q0, .ref q2, .ref q4, .ref q6, .null, .null])), (q0, .inr (7, [.ref (u1 0), .int 0])), (u1 0, .inl (cA 2, 700, .inl (fun _ => 0))), (q2, .inr (5, [.ref (u3 6), .ref (u3 0), .ref (u3 1), .ref (u3 2), .ref (u3 5), .int 0, .int 0, .int 0])), (u3 0, .inl (cA 3, 64, .inr (.inr (.inr (.inr (fun _ => none)))))), (u3 1, .inl (cA 0, 64, .inl (fun _ => 0))), (u3 2, .inr (3, [.ref (u3 3), .ref (u3 4), .int 0])), (u3 3, .inl (cA 1, 350, .inr (.inl (fun _ => 0)))), (u3 4, .inl (cA 1, 350, .inr (.inl (fun _ => 0)))), (u3 5, .inl (cA 1, 64, .inr (.inl (fun _ => 0)))), (u3 6, .inr (8, [.ref q0, .ref (u3 7), .ref (u3 8), .ref (u3 9), .int 0, .int 0])), (u3 7, .inl (cA 0, 701, .inl (fun _ => 0))), (u3 8, .inl (cA 0, 701, .inl (fun _ => 0))), (u3 9, .inl (cA 1, 701, .inr (.inl (fun _ => 0)))), (q4, .inr (3, [.ref (u5 0), .ref (u5 1), .int 0])), (u5 0, .inl (cA 1, 350, .inr (.inl (fun _ => 0)))), (u5 1, .inl (cA 1, 350, .inr (.inl (fun _ => 0)))), (q6, .inr (2, [.ref (u7 0), .ref (u7 1), .ref (u7 2), .ref (u7 3), .int 0])), (u7 0, .inl (cA 1, 64, .inr (.inl (fun _ => 0)))), (u7 1, .inl (cA 3, 64, .inr (.inr (.inr (.inr (fun _ => none)))))), (u7 2, .inl (cA 0, 64, .inl (fun _ => 0))), (u7 3, .inl (cA 0, 64, .inl (fun _ => 0))), (q8, .inr (9, [.ref q6]))] := hD
  refine W.widen (k := 22) (n := 4679) (by decide) (by decide) ?_
  refine va_putF (D := D) (ci := 10) (v := .ref q8) (ty := .object "KernelText$Ways") (C := RX8) (T := TX8) (N := 6) hx hb hts (in_tb inX8) tyX8 tyX8_ok nmX8 hown hK hP hD hS 0 rfl rfl 4 (by decide) (hts _ (List.mem_cons_of_mem _ tw_1_228)) (fun _ h9 => h9) rfl hin rfl (by decide +kernel) rfl rfl (Nat.le_of_ble_eq_true rfl) dX8_init_64 (fun H locs hP hD hS => ?_)
  have hP : va_P D vwCl [(h, .inr (10, [.ref q0, .ref q2, .ref q4, .ref q6, .ref q8, .null])), (q0, .inr (7, [.ref (u1 0), .int 0])), (u1 0, .inl (cA 2, 700, .inl (fun _ => 0))), (q2, .inr (5, [.ref (u3 6), .ref (u3 0), .ref (u3 1), .ref (u3 2), .ref (u3 5), .int 0, .int 0, .int 0])), (u3 0, .inl (cA 3, 64, .inr (.inr (.inr (.inr (fun _ => none)))))), (u3 1, .inl (cA 0, 64, .inl (fun _ => 0))), (u3 2, .inr (3, [.ref (u3 3), .ref (u3 4), .int 0])), (u3 3, .inl (cA 1, 350, .inr (.inl (fun _ => 0)))), (u3 4, .inl (cA 1, 350, .inr (.inl (fun _ => 0)))), (u3 5, .inl (cA 1, 64, .inr (.inl (fun _ => 0)))), (u3 6, .inr (8, [.ref q0, .ref (u3 7), .ref (u3 8), .ref (u3 9), .int 0, .int 0])), (u3 7, .inl (cA 0, 701, .inl (fun _ => 0))), (u3 8, .inl (cA 0, 701, .inl (fun _ => 0))), (u3 9, .inl (cA 1, 701, .inr (.inl (fun _ => 0)))), (q4, .inr (3, [.ref (u5 0), .ref (u5 1), .int 0])), (u5 0, .inl (cA 1, 350, .inr (.inl (fun _ => 0)))), (u5 1, .inl (cA 1, 350, .inr (.inl (fun _ => 0)))), (q6, .inr (2, [.ref (u7 0), .ref (u7 1), .ref (u7 2), .ref (u7 3), .int 0])), (u7 0, .inl (cA 1, 64, .inr (.inl (fun _ => 0)))), (u7 1, .inl (cA 3, 64, .inr (.inr (.inr (.inr (fun _ => none)))))), (u7 2, .inl (cA 0, 64, .inl (fun _ => 0))), (u7 3, .inl (cA 0, 64, .inl (fun _ => 0))), (q8, .inr (9, [.ref q6]))] H := hP
  have hD : va_D A [(h, .inr (10, [.ref q0, .ref q2, .ref q4, .ref q6, .ref q8, .null])), (q0, .inr (7, [.ref (u1 0), .int 0])), (u1 0, .inl (cA 2, 700, .inl (fun _ => 0))), (q2, .inr (5, [.ref (u3 6), .ref (u3 0), .ref (u3 1), .ref (u3 2), .ref (u3 5), .int 0, .int 0, .int 0])), (u3 0, .inl (cA 3, 64, .inr (.inr (.inr (.inr (fun _ => none)))))), (u3 1, .inl (cA 0, 64, .inl (fun _ => 0))), (u3 2, .inr (3, [.ref (u3 3), .ref (u3 4), .int 0])), (u3 3, .inl (cA 1, 350, .inr (.inl (fun _ => 0)))), (u3 4, .inl (cA 1, 350, .inr (.inl (fun _ => 0)))), (u3 5, .inl (cA 1, 64, .inr (.inl (fun _ => 0)))), (u3 6, .inr (8, [.ref q0, .ref (u3 7), .ref (u3 8), .ref (u3 9), .int 0, .int 0])), (u3 7, .inl (cA 0, 701, .inl (fun _ => 0))), (u3 8, .inl (cA 0, 701, .inl (fun _ => 0))), (u3 9, .inl (cA 1, 701, .inr (.inl (fun _ => 0)))), (q4, .inr (3, [.ref (u5 0), .ref (u5 1), .int 0])), (u5 0, .inl (cA 1, 350, .inr (.inl (fun _ => 0)))), (u5 1, .inl (cA 1, 350, .inr (.inl (fun _ => 0)))), (q6, .inr (2, [.ref (u7 0), .ref (u7 1), .ref (u7 2), .ref (u7 3), .int 0])), (u7 0, .inl (cA 1, 64, .inr (.inl (fun _ => 0)))), (u7 1, .inl (cA 3, 64, .inr (.inr (.inr (.inr (fun _ => none)))))), (u7 2, .inl (cA 0, 64, .inl (fun _ => 0))), (u7 3, .inl (cA 0, 64, .inl (fun _ => 0))), (q8, .inr (9, [.ref q6]))] := hD
  refine lv_aload_n hx hb dX8_init_67 rfl (lv_at hl 0 rfl) ?_
  refine va_new (ci := 6) (fs := [.null]) (C := RX4) (T := TX4) (N := 1) hx hb hts (in_tb inX4) tyX4 tyX4_ok hown (hts _ (List.mem_cons_of_mem _ tw_1_181)) (hts _ (List.mem_cons_of_mem _ tw_1_182)) (hts _ (List.mem_cons_of_mem _ tw_1_8)) hK hP hD hS hA rfl (fun j hj => match j, hj with | 0, _ => rfl | j + 1, h => absurd h (by omega)) (by decide) (by decide) dX8_init_68 (fun q10 H hP hD hS => ?_)
  have hP : va_P D vwCl [(h, .inr (10, [.ref q0, .ref q2, .ref q4, .ref q6, .ref q8, .null])), (q0, .inr (7, [.ref (u1 0), .int 0])), (u1 0, .inl (cA 2, 700, .inl (fun _ => 0))), (q2, .inr (5, [.ref (u3 6), .ref (u3 0), .ref (u3 1), .ref (u3 2), .ref (u3 5), .int 0, .int 0, .int 0])), (u3 0, .inl (cA 3, 64, .inr (.inr (.inr (.inr (fun _ => none)))))), (u3 1, .inl (cA 0, 64, .inl (fun _ => 0))), (u3 2, .inr (3, [.ref (u3 3), .ref (u3 4), .int 0])), (u3 3, .inl (cA 1, 350, .inr (.inl (fun _ => 0)))), (u3 4, .inl (cA 1, 350, .inr (.inl (fun _ => 0)))), (u3 5, .inl (cA 1, 64, .inr (.inl (fun _ => 0)))), (u3 6, .inr (8, [.ref q0, .ref (u3 7), .ref (u3 8), .ref (u3 9), .int 0, .int 0])), (u3 7, .inl (cA 0, 701, .inl (fun _ => 0))), (u3 8, .inl (cA 0, 701, .inl (fun _ => 0))), (u3 9, .inl (cA 1, 701, .inr (.inl (fun _ => 0)))), (q4, .inr (3, [.ref (u5 0), .ref (u5 1), .int 0])), (u5 0, .inl (cA 1, 350, .inr (.inl (fun _ => 0)))), (u5 1, .inl (cA 1, 350, .inr (.inl (fun _ => 0)))), (q6, .inr (2, [.ref (u7 0), .ref (u7 1), .ref (u7 2), .ref (u7 3), .int 0])), (u7 0, .inl (cA 1, 64, .inr (.inl (fun _ => 0)))), (u7 1, .inl (cA 3, 64, .inr (.inr (.inr (.inr (fun _ => none)))))), (u7 2, .inl (cA 0, 64, .inl (fun _ => 0))), (u7 3, .inl (cA 0, 64, .inl (fun _ => 0))), (q8, .inr (9, [.ref q6])), (q10, .inr (6, [.null]))] H := hP
  have hD : va_D A [(h, .inr (10, [.ref q0, .ref q2, .ref q4, .ref q6, .ref q8, .null])), (q0, .inr (7, [.ref (u1 0), .int 0])), (u1 0, .inl (cA 2, 700, .inl (fun _ => 0))), (q2, .inr (5, [.ref (u3 6), .ref (u3 0), .ref (u3 1), .ref (u3 2), .ref (u3 5), .int 0, .int 0, .int 0])), (u3 0, .inl (cA 3, 64, .inr (.inr (.inr (.inr (fun _ => none)))))), (u3 1, .inl (cA 0, 64, .inl (fun _ => 0))), (u3 2, .inr (3, [.ref (u3 3), .ref (u3 4), .int 0])), (u3 3, .inl (cA 1, 350, .inr (.inl (fun _ => 0)))), (u3 4, .inl (cA 1, 350, .inr (.inl (fun _ => 0)))), (u3 5, .inl (cA 1, 64, .inr (.inl (fun _ => 0)))), (u3 6, .inr (8, [.ref q0, .ref (u3 7), .ref (u3 8), .ref (u3 9), .int 0, .int 0])), (u3 7, .inl (cA 0, 701, .inl (fun _ => 0))), (u3 8, .inl (cA 0, 701, .inl (fun _ => 0))), (u3 9, .inl (cA 1, 701, .inr (.inl (fun _ => 0)))), (q4, .inr (3, [.ref (u5 0), .ref (u5 1), .int 0])), (u5 0, .inl (cA 1, 350, .inr (.inl (fun _ => 0)))), (u5 1, .inl (cA 1, 350, .inr (.inl (fun _ => 0)))), (q6, .inr (2, [.ref (u7 0), .ref (u7 1), .ref (u7 2), .ref (u7 3), .int 0])), (u7 0, .inl (cA 1, 64, .inr (.inl (fun _ => 0)))), (u7 1, .inl (cA 3, 64, .inr (.inr (.inr (.inr (fun _ => none)))))), (u7 2, .inl (cA 0, 64, .inl (fun _ => 0))), (u7 3, .inl (cA 0, 64, .inl (fun _ => 0))), (q8, .inr (9, [.ref q6])), (q10, .inr (6, [.null]))] := hD
  refine W.widen (k := 23) (n := 4680) (by decide) (by decide) ?_
  refine lv_dup hx hb dX8_init_71 rfl ?_
  refine gI_n (wr := [(h, .inr (10, [.ref q0, .ref q2, .ref q4, .ref q6, .ref q8, .null])), (q0, .inr (7, [.ref (u1 0), .int 0])), (u1 0, .inl (cA 2, 700, .inl (fun _ => 0))), (q2, .inr (5, [.ref (u3 6), .ref (u3 0), .ref (u3 1), .ref (u3 2), .ref (u3 5), .int 0, .int 0, .int 0])), (u3 0, .inl (cA 3, 64, .inr (.inr (.inr (.inr (fun _ => none)))))), (u3 1, .inl (cA 0, 64, .inl (fun _ => 0))), (u3 2, .inr (3, [.ref (u3 3), .ref (u3 4), .int 0])), (u3 3, .inl (cA 1, 350, .inr (.inl (fun _ => 0)))), (u3 4, .inl (cA 1, 350, .inr (.inl (fun _ => 0)))), (u3 5, .inl (cA 1, 64, .inr (.inl (fun _ => 0)))), (u3 6, .inr (8, [.ref q0, .ref (u3 7), .ref (u3 8), .ref (u3 9), .int 0, .int 0])), (u3 7, .inl (cA 0, 701, .inl (fun _ => 0))), (u3 8, .inl (cA 0, 701, .inl (fun _ => 0))), (u3 9, .inl (cA 1, 701, .inr (.inl (fun _ => 0)))), (q4, .inr (3, [.ref (u5 0), .ref (u5 1), .int 0])), (u5 0, .inl (cA 1, 350, .inr (.inl (fun _ => 0)))), (u5 1, .inl (cA 1, 350, .inr (.inl (fun _ => 0)))), (q6, .inr (2, [.ref (u7 0), .ref (u7 1), .ref (u7 2), .ref (u7 3), .int 0])), (u7 0, .inl (cA 1, 64, .inr (.inl (fun _ => 0)))), (u7 1, .inl (cA 3, 64, .inr (.inr (.inr (.inr (fun _ => none)))))), (u7 2, .inl (cA 0, 64, .inl (fun _ => 0))), (u7 3, .inl (cA 0, 64, .inl (fun _ => 0))), (q8, .inr (9, [.ref q6]))]) (As := []) (rest := [.ref q10, .ref h]) C (met_X4_init vE vM (D := D) (cA := cA) (h := q10)) ⟨va_cnB 0 hts (TB_G (pre := []) (fun _ h => nomatch h) tw_1_185) rfl rfl rfl (eX.nm_RX8_50 (vM _ _ _ hE)) (hts _ (List.mem_cons_of_mem _ tw_1_8)) (by decide +kernel) ⟨by decide, by decide⟩, rfl, (hts _ (List.mem_cons_of_mem _ tw_1_184))⟩ hP hD hS 23 [0, 1, 2, 3, 4, 5, 6, 7, 8, 9, 10, 11, 12, 13, 14, 15, 16, 17, 18, 19, 20, 21, 22] rfl rfl (by decide) (by decide) rfl hl.1 rfl (Nat.le_of_ble_eq_true rfl) dX8_init_72 ⟨by decide, by decide⟩ (fun u11 H locs hP hD hS => ?_)
  have hP : va_P D vwCl [(h, .inr (10, [.ref q0, .ref q2, .ref q4, .ref q6, .ref q8, .null])), (q0, .inr (7, [.ref (u1 0), .int 0])), (u1 0, .inl (cA 2, 700, .inl (fun _ => 0))), (q2, .inr (5, [.ref (u3 6), .ref (u3 0), .ref (u3 1), .ref (u3 2), .ref (u3 5), .int 0, .int 0, .int 0])), (u3 0, .inl (cA 3, 64, .inr (.inr (.inr (.inr (fun _ => none)))))), (u3 1, .inl (cA 0, 64, .inl (fun _ => 0))), (u3 2, .inr (3, [.ref (u3 3), .ref (u3 4), .int 0])), (u3 3, .inl (cA 1, 350, .inr (.inl (fun _ => 0)))), (u3 4, .inl (cA 1, 350, .inr (.inl (fun _ => 0)))), (u3 5, .inl (cA 1, 64, .inr (.inl (fun _ => 0)))), (u3 6, .inr (8, [.ref q0, .ref (u3 7), .ref (u3 8), .ref (u3 9), .int 0, .int 0])), (u3 7, .inl (cA 0, 701, .inl (fun _ => 0))), (u3 8, .inl (cA 0, 701, .inl (fun _ => 0))), (u3 9, .inl (cA 1, 701, .inr (.inl (fun _ => 0)))), (q4, .inr (3, [.ref (u5 0), .ref (u5 1), .int 0])), (u5 0, .inl (cA 1, 350, .inr (.inl (fun _ => 0)))), (u5 1, .inl (cA 1, 350, .inr (.inl (fun _ => 0)))), (q6, .inr (2, [.ref (u7 0), .ref (u7 1), .ref (u7 2), .ref (u7 3), .int 0])), (u7 0, .inl (cA 1, 64, .inr (.inl (fun _ => 0)))), (u7 1, .inl (cA 3, 64, .inr (.inr (.inr (.inr (fun _ => none)))))), (u7 2, .inl (cA 0, 64, .inl (fun _ => 0))), (u7 3, .inl (cA 0, 64, .inl (fun _ => 0))), (q8, .inr (9, [.ref q6])), (q10, .inr (6, [.ref (u11 0)])), (u11 0, .inr (1, [.ref (u11 1), .int 0, .int 0, .int 0])), (u11 1, .inl (cA 4, 16, .inl (fun _ => 0)))] H := hP
  have hD : va_D A [(h, .inr (10, [.ref q0, .ref q2, .ref q4, .ref q6, .ref q8, .null])), (q0, .inr (7, [.ref (u1 0), .int 0])), (u1 0, .inl (cA 2, 700, .inl (fun _ => 0))), (q2, .inr (5, [.ref (u3 6), .ref (u3 0), .ref (u3 1), .ref (u3 2), .ref (u3 5), .int 0, .int 0, .int 0])), (u3 0, .inl (cA 3, 64, .inr (.inr (.inr (.inr (fun _ => none)))))), (u3 1, .inl (cA 0, 64, .inl (fun _ => 0))), (u3 2, .inr (3, [.ref (u3 3), .ref (u3 4), .int 0])), (u3 3, .inl (cA 1, 350, .inr (.inl (fun _ => 0)))), (u3 4, .inl (cA 1, 350, .inr (.inl (fun _ => 0)))), (u3 5, .inl (cA 1, 64, .inr (.inl (fun _ => 0)))), (u3 6, .inr (8, [.ref q0, .ref (u3 7), .ref (u3 8), .ref (u3 9), .int 0, .int 0])), (u3 7, .inl (cA 0, 701, .inl (fun _ => 0))), (u3 8, .inl (cA 0, 701, .inl (fun _ => 0))), (u3 9, .inl (cA 1, 701, .inr (.inl (fun _ => 0)))), (q4, .inr (3, [.ref (u5 0), .ref (u5 1), .int 0])), (u5 0, .inl (cA 1, 350, .inr (.inl (fun _ => 0)))), (u5 1, .inl (cA 1, 350, .inr (.inl (fun _ => 0)))), (q6, .inr (2, [.ref (u7 0), .ref (u7 1), .ref (u7 2), .ref (u7 3), .int 0])), (u7 0, .inl (cA 1, 64, .inr (.inl (fun _ => 0)))), (u7 1, .inl (cA 3, 64, .inr (.inr (.inr (.inr (fun _ => none)))))), (u7 2, .inl (cA 0, 64, .inl (fun _ => 0))), (u7 3, .inl (cA 0, 64, .inl (fun _ => 0))), (q8, .inr (9, [.ref q6])), (q10, .inr (6, [.ref (u11 0)])), (u11 0, .inr (1, [.ref (u11 1), .int 0, .int 0, .int 0])), (u11 1, .inl (cA 4, 16, .inl (fun _ => 0)))] := hD
  refine W.widen (k := 25) (n := 4700) (by decide) (by decide) ?_
  refine va_putF (D := D) (ci := 10) (v := .ref q10) (ty := .object "KernelText$Speller") (C := RX8) (T := TX8) (N := 6) hx hb hts (in_tb inX8) tyX8 tyX8_ok nmX8 hown hK hP hD hS 0 rfl rfl 5 (by decide) (hts _ (List.mem_cons_of_mem _ tw_1_229)) (fun _ h9 => h9) rfl hin rfl (by decide +kernel) rfl rfl (Nat.le_of_ble_eq_true rfl) dX8_init_75 (fun H locs hP hD hS => ?_)
  have hP : va_P D vwCl [(h, .inr (10, [.ref q0, .ref q2, .ref q4, .ref q6, .ref q8, .ref q10])), (q0, .inr (7, [.ref (u1 0), .int 0])), (u1 0, .inl (cA 2, 700, .inl (fun _ => 0))), (q2, .inr (5, [.ref (u3 6), .ref (u3 0), .ref (u3 1), .ref (u3 2), .ref (u3 5), .int 0, .int 0, .int 0])), (u3 0, .inl (cA 3, 64, .inr (.inr (.inr (.inr (fun _ => none)))))), (u3 1, .inl (cA 0, 64, .inl (fun _ => 0))), (u3 2, .inr (3, [.ref (u3 3), .ref (u3 4), .int 0])), (u3 3, .inl (cA 1, 350, .inr (.inl (fun _ => 0)))), (u3 4, .inl (cA 1, 350, .inr (.inl (fun _ => 0)))), (u3 5, .inl (cA 1, 64, .inr (.inl (fun _ => 0)))), (u3 6, .inr (8, [.ref q0, .ref (u3 7), .ref (u3 8), .ref (u3 9), .int 0, .int 0])), (u3 7, .inl (cA 0, 701, .inl (fun _ => 0))), (u3 8, .inl (cA 0, 701, .inl (fun _ => 0))), (u3 9, .inl (cA 1, 701, .inr (.inl (fun _ => 0)))), (q4, .inr (3, [.ref (u5 0), .ref (u5 1), .int 0])), (u5 0, .inl (cA 1, 350, .inr (.inl (fun _ => 0)))), (u5 1, .inl (cA 1, 350, .inr (.inl (fun _ => 0)))), (q6, .inr (2, [.ref (u7 0), .ref (u7 1), .ref (u7 2), .ref (u7 3), .int 0])), (u7 0, .inl (cA 1, 64, .inr (.inl (fun _ => 0)))), (u7 1, .inl (cA 3, 64, .inr (.inr (.inr (.inr (fun _ => none)))))), (u7 2, .inl (cA 0, 64, .inl (fun _ => 0))), (u7 3, .inl (cA 0, 64, .inl (fun _ => 0))), (q8, .inr (9, [.ref q6])), (q10, .inr (6, [.ref (u11 0)])), (u11 0, .inr (1, [.ref (u11 1), .int 0, .int 0, .int 0])), (u11 1, .inl (cA 4, 16, .inl (fun _ => 0)))] H := hP
  have hD : va_D A [(h, .inr (10, [.ref q0, .ref q2, .ref q4, .ref q6, .ref q8, .ref q10])), (q0, .inr (7, [.ref (u1 0), .int 0])), (u1 0, .inl (cA 2, 700, .inl (fun _ => 0))), (q2, .inr (5, [.ref (u3 6), .ref (u3 0), .ref (u3 1), .ref (u3 2), .ref (u3 5), .int 0, .int 0, .int 0])), (u3 0, .inl (cA 3, 64, .inr (.inr (.inr (.inr (fun _ => none)))))), (u3 1, .inl (cA 0, 64, .inl (fun _ => 0))), (u3 2, .inr (3, [.ref (u3 3), .ref (u3 4), .int 0])), (u3 3, .inl (cA 1, 350, .inr (.inl (fun _ => 0)))), (u3 4, .inl (cA 1, 350, .inr (.inl (fun _ => 0)))), (u3 5, .inl (cA 1, 64, .inr (.inl (fun _ => 0)))), (u3 6, .inr (8, [.ref q0, .ref (u3 7), .ref (u3 8), .ref (u3 9), .int 0, .int 0])), (u3 7, .inl (cA 0, 701, .inl (fun _ => 0))), (u3 8, .inl (cA 0, 701, .inl (fun _ => 0))), (u3 9, .inl (cA 1, 701, .inr (.inl (fun _ => 0)))), (q4, .inr (3, [.ref (u5 0), .ref (u5 1), .int 0])), (u5 0, .inl (cA 1, 350, .inr (.inl (fun _ => 0)))), (u5 1, .inl (cA 1, 350, .inr (.inl (fun _ => 0)))), (q6, .inr (2, [.ref (u7 0), .ref (u7 1), .ref (u7 2), .ref (u7 3), .int 0])), (u7 0, .inl (cA 1, 64, .inr (.inl (fun _ => 0)))), (u7 1, .inl (cA 3, 64, .inr (.inr (.inr (.inr (fun _ => none)))))), (u7 2, .inl (cA 0, 64, .inl (fun _ => 0))), (u7 3, .inl (cA 0, 64, .inl (fun _ => 0))), (q8, .inr (9, [.ref q6])), (q10, .inr (6, [.ref (u11 0)])), (u11 0, .inr (1, [.ref (u11 1), .int 0, .int 0, .int 0])), (u11 1, .inl (cA 4, 16, .inl (fun _ => 0)))] := hD
  have hP9 : va_P D vwCl (cw_X8_init cA h (fun k => if k = 0 then q0 else if k = 1 then u1 0 else if k = 2 then q2 else if k = 3 then u3 0 else if k = 4 then u3 1 else if k = 5 then u3 2 else if k = 6 then u3 3 else if k = 7 then u3 4 else if k = 8 then u3 5 else if k = 9 then u3 6 else if k = 10 then u3 7 else if k = 11 then u3 8 else if k = 12 then u3 9 else if k = 13 then q4 else if k = 14 then u5 0 else if k = 15 then u5 1 else if k = 16 then q6 else if k = 17 then u7 0 else if k = 18 then u7 1 else if k = 19 then u7 2 else if k = 20 then u7 3 else if k = 21 then q8 else if k = 22 then q10 else if k = 23 then u11 0 else if k = 24 then u11 1 else 0)) H := hP.sub [0, 1, 2, 3, 4, 5, 6, 7, 8, 9, 10, 11, 12, 13, 14, 15, 16, 17, 18, 19, 20, 21, 22, 23, 24, 25] rfl
  have hD9 : va_D A (cw_X8_init cA h (fun k => if k = 0 then q0 else if k = 1 then u1 0 else if k = 2 then q2 else if k = 3 then u3 0 else if k = 4 then u3 1 else if k = 5 then u3 2 else if k = 6 then u3 3 else if k = 7 then u3 4 else if k = 8 then u3 5 else if k = 9 then u3 6 else if k = 10 then u3 7 else if k = 11 then u3 8 else if k = 12 then u3 9 else if k = 13 then q4 else if k = 14 then u5 0 else if k = 15 then u5 1 else if k = 16 then q6 else if k = 17 then u7 0 else if k = 18 then u7 1 else if k = 19 then u7 2 else if k = 20 then u7 3 else if k = 21 then q8 else if k = 22 then q10 else if k = 23 then u11 0 else if k = 24 then u11 1 else 0)) := hD.sub [0, 1, 2, 3, 4, 5, 6, 7, 8, 9, 10, 11, 12, 13, 14, 15, 16, 17, 18, 19, 20, 21, 22, 23, 24, 25] (by decide) rfl
  exact W.vret hx hb hr (fun t ht hW => ⟨⟨(fun k => if k = 0 then q0 else if k = 1 then u1 0 else if k = 2 then q2 else if k = 3 then u3 0 else if k = 4 then u3 1 else if k = 5 then u3 2 else if k = 6 then u3 3 else if k = 7 then u3 4 else if k = 8 then u3 5 else if k = 9 then u3 6 else if k = 10 then u3 7 else if k = 11 then u3 8 else if k = 12 then u3 9 else if k = 13 then q4 else if k = 14 then u5 0 else if k = 15 then u5 1 else if k = 16 then q6 else if k = 17 then u7 0 else if k = 18 then u7 1 else if k = 19 then u7 2 else if k = 20 then u7 3 else if k = 21 then q8 else if k = 22 then q10 else if k = 23 then u11 0 else if k = 24 then u11 1 else 0), rfl, trivial, by rw [ht]; exact hP9, va_K.moved hW.alike hK, hD9⟩, hS.F ht⟩) hS.2.2 dX8_init_78 hlk
/-- the builder of the speller as it is made -/
def bW0 (cA : Nat → ClassId) (ad : Nat → Nat) : va_W := [(ad 24, .inr (1, [.ref (ad 25), .int 0, .int 0, .int 0])), (ad 25, .inl (cA 4, 16, .inl (fun _ => 0)))]
theorem xW_new {D : va_G} {cA : Nat → ClassId} {h : Nat} {u : Nat → Nat} {A : Nat → Prop} {H : Heap} (aE : Nat → Nat) (hP : va_P D vwCl (cw_X8_init cA h u) H) (hD : va_D A (cw_X8_init cA h u)) :
    ∃ ad : Nat → Nat, ad 0 = h ∧ va_P D vwCl (xW cA aE ad x0 ++ bW0 cA ad) H ∧ va_D A (xW cA aE ad x0 ++ bW0 cA ad) :=
  ⟨(fun k => if k = 0 then h else if k = 1 then u 0 else if k = 2 then u 1 else if k = 3 then u 2 else if k = 4 then u 9 else if k = 5 then u 10 else if k = 6 then u 11 else if k = 7 then u 12 else if k = 8 then u 3 else if k = 9 then u 4 else if k = 10 then u 5 else if k = 11 then u 6 else if k = 12 then u 7 else if k = 13 then u 8 else if k = 14 then u 13 else if k = 15 then u 14 else if k = 16 then u 15 else if k = 17 then u 16 else if k = 18 then u 17 else if k = 19 then u 18 else if k = 20 then u 19 else if k = 21 then u 20 else if k = 22 then u 21 else if k = 23 then u 22 else if k = 24 then u 23 else if k = 25 then u 24 else 0), rfl, hP.sub [0, 1, 2, 3, 10, 11, 12, 13, 4, 5, 6, 7, 8, 9, 14, 15, 16, 17, 18, 19, 20, 21, 22, 23, 24, 25] rfl, hD.sub [0, 1, 2, 3, 10, 11, 12, 13, 4, 5, 6, 7, 8, 9, 14, 15, 16, 17, 18, 19, 20, 21, 22, 23, 24, 25] (by decide) rfl⟩
