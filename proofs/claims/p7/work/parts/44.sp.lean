/-! the speller: its cell, its builder -/
def spW (cA : Nat → ClassId) (ap ab : Nat) (σ : BS) : va_W := (ap, .inr (6, [.ref ab])) :: zW cA ab σ
def spT (cA : Nat → ClassId) : List (ClassId × FieldType) := [(cA 0, .int), (cA 1, .long), (cA 2, .char), (cA 3, .object "KernelText$Op"), (cA 4, .byte)]
abbrev spPre (E : EnvT) (D : va_G) (cA : Nat → ClassId) (ap ab : Nat) (sz : Nat) (σ : BS) (U : State) : Prop := U.heap.size = sz ∧ va_P D vwCl (spW cA ap ab σ) U.heap ∧ va_K D vwCl (spT cA) U ∧ va_D (fun _ => True) (spW cA ap ab σ) ∧ E (va_A (spW cA ap ab σ) sz) U U.heap
abbrev spAt (D : va_G) (cA : Nat → ClassId) (ap ab : Nat) (A : Nat → Prop) (σ : BS) (t : State) : Prop := va_P D vwCl (spW cA ap ab σ) t.heap ∧ va_K D vwCl (spT cA) t ∧ va_D A (spW cA ap ab σ)
abbrev spG (D : va_G) (cA : Nat → ClassId) (ap ab : Nat) (A : Nat → Prop) (s : State) (σ : BS) (H : Heap) (locs : List Loc) : Prop := va_P D vwCl (spW cA ap ab σ) H ∧ va_D A (spW cA ap ab σ) ∧ va_S A s.heap H locs
theorem spPre.blind {E : EnvT} (vE : EnvOk E) {D : va_G} {cA : Nat → ClassId} {ap ab : Nat} {sz : Nat} {σ : BS} {av : List Value} : FrameBlind (va_Pc av (spPre E D cA ap ab sz σ)) := fun a U g mk q => by
  obtain ⟨q0, q1, qP, qK, qD, qE⟩ := q
  exact ⟨q0, q1, qP, va_K.moved (u := U) (U := U.calling g mk a) (Vm.Alike.refl U.vm) qK, qD, vE.1 _ U (U.calling g mk a) _ (State.WarmedH.refl U) qE⟩
def spCx (p : Program) (s : State) (m : MethodId) (args : Array Value) (meth : Method) (c : Code) (cc : ByteArray) (nL : Nat) (rt : Option FieldType) (Ts : List Cond) (own : String) (E : EnvT) (D : va_G) (cA : Nat → ClassId) (A : Nat → Prop) : Prop :=
  p.tables.exec = Jvm.exec ∧ c.code = cc ∧ c.maxLocals = nL ∧ meth.sig.returnType = rt ∧ s.vm.findClass own = some m.cls ∧ (∀ w ∈ Ts, w.before args s = true) ∧ va_K D vwCl (spT cA) s ∧ (∀ q : Nat, s.heap.size ≤ q → A q) ∧ meth.locks = false ∧ E A s s.heap ∧ EnvOk E
section WCsp
variable {p : Program} {l : Launch} {e : Env} {R : Room} {s : State} {m : MethodId} {args : Array Value} {below : List Frame} {meth : Method} {c : Code} {H : Heap} {locs : List Loc} {cells slots : Nat} {Q : State → Prop}
variable {E : EnvT} {own C : String} {D : va_G} {cA : Nat → ClassId} {ap ab : Nat} {A : Nat → Prop} {σ : BS} {y : MethodName} {bytes : ByteArray} {maxL nL n index pc a : Nat} {ret : Option FieldType} {ws : List Cond} {rm : Room} {Ts : List Cond} {cc : ByteArray} {rt : Option FieldType} {As rest st0 : List Value} {ls : Array Slot}
theorem spW.free (hD : va_D A (spW cA ap ab σ)) (hS : va_S A s.heap H locs) (hA : ∀ q : Nat, s.heap.size ≤ q → A q) : ∀ q, va_A (spW cA ap ab σ) H.size q → A q := va_free (wc := (spW cA ap ab σ)) hD hS hA [0, 1, 2] rfl
theorem spW.join {σ' : BS} {H1 : Heap} (hP : va_P D vwCl (spW cA ap ab σ) H) (hD : va_D A (spW cA ap ab σ)) (hF : ∀ q, va_A (spW cA ap ab σ) H.size q → A q) (hk : ∀ q : Nat, q < H.size → ¬ va_A (spW cA ap ab σ) H.size q → H1[q]? = H[q]?) (hP1 : va_P D vwCl (spW cA ap ab σ') H1) (hD1 : va_D (va_A (spW cA ap ab σ) H.size) (spW cA ap ab σ')) : va_D A (spW cA ap ab σ') :=
  (va_join (wr := []) (wc := (spW cA ap ab σ)) (w1 := (spW cA ap ab σ')) hP hD [0, 1, 2] [] rfl rfl (by decide) (by decide) hk hF hP1 hD1).2
theorem spS_i {post : Int32 → Prop} (Cx : spCx p s m args meth c cc nL rt Ts own E D cA A)
    (hM : Met l y ws rm (va_Pc As (sPre E H.size)) (va_Qi (S := Unit) (fun r _ => post r) (fun _ _ => True) (va_A [] H.size)) 0 0 (va_A [] H.size))
    (cw : CallB R s args own index y bytes maxL ret ws rm 0 0 n ∧ (Cond.static y).before args s = true) (hP : va_P D vwCl (spW cA ap ab σ) H) (hD : va_D A (spW cA ap ab σ)) (hS : va_S A s.heap H locs) (hn : As.length = n) (hsize : ls.size = nL) (hst : st0 = As.reverse ++ rest) (hR : (rest.map fun v => v.category).sum ≤ 8) (hdg : decode cc pc = .ok (.invokestatic index, 3)) (hf : cells ≤ R.cells ∧ slots ≤ R.slots)
    (kk : ∀ (r : Int32) (H1 : Heap) (locs1 : List Loc), post r → va_P D vwCl (spW cA ap ab σ) H1 → va_S A s.heap H1 locs1 → W p l e R s m args below meth c H1 locs1 cells slots Q (F0 m (pc + 3) ls (.int r :: rest))) :
    W p l e R s m args below meth c H locs cells slots Q (F0 m pc ls st0) := by
  obtain ⟨hx, hb, hml, hr, hown, hts, hK, hA, hlk, hE, vE⟩ := Cx
  have hFc : ∀ q, va_A [] H.size q → A q := va_free (wc := []) hD hS hA [] rfl
  refine va_calli (va_runS (As := As) (rest := rest) ⟨hx, hb, hml, hown, hts⟩ hM cw ⟨sPre.blind vE, fun U hU hW => ⟨rfl, by rw [hU], vE.at hE hS hU hW hFc⟩⟩ rfl hn hsize hst (lv_room hR) hdg hf) hS (fun q _ h => hFc q h) hFc (fun r u t H1 locs ht hvm hw hB hz1 hk1 hS => ?_)
  exact kk r H1 locs hw (hP.kept (fun k q hq => hk1 q.1 (hP k q hq).lt (fun z => z.elim (fun ⟨_, _, z⟩ => by simp at z) (fun z => absurd (hP k q hq).lt (Nat.not_lt.mpr z))))) hS
theorem spO_i {post : Int32 → Prop} (Cx : spCx p s m args meth c cc nL rt Ts own E D cA A)
    (hM : Met l y ws rm (va_Pc (.ref a :: As) (sPre E H.size)) (va_Qi (S := Unit) (fun r _ => post r) (fun _ _ => True) (va_A [] H.size)) 0 0 (va_A [] H.size)) (hrc : ∃ cell : Cell, H[a]? = some cell ∧ cell.vm.isStatics = false ∧ s.vm.findClass C = some cell.cls)
    (cw : CallW R s args own C index y bytes maxL ret ws rm 0 0 n) (hP : va_P D vwCl (spW cA ap ab σ) H) (hD : va_D A (spW cA ap ab σ)) (hS : va_S A s.heap H locs) (hn : As.length = n) (hsize : ls.size = nL) (hst : st0 = As.reverse ++ .ref a :: rest) (hR : (rest.map fun v => v.category).sum ≤ 8) (hdg : decode cc pc = .ok (.invokevirtual index, 3)) (hf : cells ≤ R.cells ∧ slots ≤ R.slots)
    (kk : ∀ (r : Int32) (H1 : Heap) (locs1 : List Loc), post r → va_P D vwCl (spW cA ap ab σ) H1 → va_S A s.heap H1 locs1 → W p l e R s m args below meth c H1 locs1 cells slots Q (F0 m (pc + 3) ls (.int r :: rest))) :
    W p l e R s m args below meth c H locs cells slots Q (F0 m pc ls st0) := by
  obtain ⟨hx, hb, hml, hr, hown, hts, hK, hA, hlk, hE, vE⟩ := Cx
  have hFc : ∀ q, va_A [] H.size q → A q := va_free (wc := []) hD hS hA [] rfl
  refine va_calli (va_runV (As := As) (rest := rest) ⟨hx, hb, hml, hown, hts⟩ hM cw ⟨sPre.blind vE, hrc, fun U hU hW => ⟨rfl, by rw [hU], vE.at hE hS hU hW hFc⟩⟩ rfl hn hsize hst (lv_room hR) hdg hf) hS (fun q _ h => hFc q h) hFc (fun r u t H1 locs ht hvm hw hB hz1 hk1 hS => ?_)
  exact kk r H1 locs hw (hP.kept (fun k q hq => hk1 q.1 (hP k q hq).lt (fun z => z.elim (fun ⟨_, _, z⟩ => by simp at z) (fun z => absurd (hP k q hq).lt (Nat.not_lt.mpr z))))) hS
theorem spS_l {post : Int64 → Prop} (Cx : spCx p s m args meth c cc nL rt Ts own E D cA A)
    (hM : Met l y ws rm (va_Pc As (sPre E H.size)) (va_Ql (S := Unit) (fun r _ => post r) (fun _ _ => True) (va_A [] H.size)) 0 0 (va_A [] H.size))
    (cw : CallB R s args own index y bytes maxL ret ws rm 0 0 n ∧ (Cond.static y).before args s = true) (hP : va_P D vwCl (spW cA ap ab σ) H) (hD : va_D A (spW cA ap ab σ)) (hS : va_S A s.heap H locs) (hn : As.length = n) (hsize : ls.size = nL) (hst : st0 = As.reverse ++ rest) (hR : (rest.map fun v => v.category).sum ≤ 8) (hdg : decode cc pc = .ok (.invokestatic index, 3)) (hf : cells ≤ R.cells ∧ slots ≤ R.slots)
    (kk : ∀ (r : Int64) (H1 : Heap) (locs1 : List Loc), post r → va_P D vwCl (spW cA ap ab σ) H1 → va_S A s.heap H1 locs1 → W p l e R s m args below meth c H1 locs1 cells slots Q (F0 m (pc + 3) ls (.long r :: rest))) :
    W p l e R s m args below meth c H locs cells slots Q (F0 m pc ls st0) := by
  obtain ⟨hx, hb, hml, hr, hown, hts, hK, hA, hlk, hE, vE⟩ := Cx
  have hFc : ∀ q, va_A [] H.size q → A q := va_free (wc := []) hD hS hA [] rfl
  refine va_calll (va_runS (As := As) (rest := rest) ⟨hx, hb, hml, hown, hts⟩ hM cw ⟨sPre.blind vE, fun U hU hW => ⟨rfl, by rw [hU], vE.at hE hS hU hW hFc⟩⟩ rfl hn hsize hst (lv_room hR) hdg hf) hS (fun q _ h => hFc q h) hFc (fun r u t H1 locs ht hvm hw hB hz1 hk1 hS => ?_)
  exact kk r H1 locs hw (hP.kept (fun k q hq => hk1 q.1 (hP k q hq).lt (fun z => z.elim (fun ⟨_, _, z⟩ => by simp at z) (fun z => absurd (hP k q hq).lt (Nat.not_lt.mpr z))))) hS
theorem spO_l {post : Int64 → Prop} (Cx : spCx p s m args meth c cc nL rt Ts own E D cA A)
    (hM : Met l y ws rm (va_Pc (.ref a :: As) (sPre E H.size)) (va_Ql (S := Unit) (fun r _ => post r) (fun _ _ => True) (va_A [] H.size)) 0 0 (va_A [] H.size)) (hrc : ∃ cell : Cell, H[a]? = some cell ∧ cell.vm.isStatics = false ∧ s.vm.findClass C = some cell.cls)
    (cw : CallW R s args own C index y bytes maxL ret ws rm 0 0 n) (hP : va_P D vwCl (spW cA ap ab σ) H) (hD : va_D A (spW cA ap ab σ)) (hS : va_S A s.heap H locs) (hn : As.length = n) (hsize : ls.size = nL) (hst : st0 = As.reverse ++ .ref a :: rest) (hR : (rest.map fun v => v.category).sum ≤ 8) (hdg : decode cc pc = .ok (.invokevirtual index, 3)) (hf : cells ≤ R.cells ∧ slots ≤ R.slots)
    (kk : ∀ (r : Int64) (H1 : Heap) (locs1 : List Loc), post r → va_P D vwCl (spW cA ap ab σ) H1 → va_S A s.heap H1 locs1 → W p l e R s m args below meth c H1 locs1 cells slots Q (F0 m (pc + 3) ls (.long r :: rest))) :
    W p l e R s m args below meth c H locs cells slots Q (F0 m pc ls st0) := by
  obtain ⟨hx, hb, hml, hr, hown, hts, hK, hA, hlk, hE, vE⟩ := Cx
  have hFc : ∀ q, va_A [] H.size q → A q := va_free (wc := []) hD hS hA [] rfl
  refine va_calll (va_runV (As := As) (rest := rest) ⟨hx, hb, hml, hown, hts⟩ hM cw ⟨sPre.blind vE, hrc, fun U hU hW => ⟨rfl, by rw [hU], vE.at hE hS hU hW hFc⟩⟩ rfl hn hsize hst (lv_room hR) hdg hf) hS (fun q _ h => hFc q h) hFc (fun r u t H1 locs ht hvm hw hB hz1 hk1 hS => ?_)
  exact kk r H1 locs hw (hP.kept (fun k q hq => hk1 q.1 (hP k q hq).lt (fun z => z.elim (fun ⟨_, _, z⟩ => by simp at z) (fun z => absurd (hP k q hq).lt (Nat.not_lt.mpr z))))) hS
end WCsp
section SPC
variable {p : Program} {l : Launch} {e : Env} {R : Room} {s : State} {m : MethodId} {args : Array Value} {below : List Frame} {meth : Method} {c : Code} {H : Heap} {locs : List Loc} {cells slots mc ms : Nat} {Q : State → Prop}
variable {E : EnvT} {own C : String} {D : va_G} {cA : Nat → ClassId} {ap ab a : Nat} {A : Nat → Prop} {σ : BS} {y : MethodName} {bytes : ByteArray} {maxL nL n index pc : Nat} {ret : Option FieldType} {ws : List Cond} {rm : Room} {Ts : List Cond} {cc : ByteArray} {rt : Option FieldType} {As rest st0 : List Value} {ls : Array Slot}
theorem spV_v {post : BS → Prop} (Cx : spCx p s m args meth c cc nL rt Ts own E D cA A)
    (hM : Met l y ws rm (va_Pc (.ref ap :: As) (spPre E D cA ap ab H.size σ)) (va_Qv post (fun u t => spAt D cA ap ab (va_A (spW cA ap ab σ) H.size) u t) (va_A (spW cA ap ab σ) H.size)) mc ms (va_A (spW cA ap ab σ) H.size)) (hrc : ∃ cell : Cell, H[ap]? = some cell ∧ cell.vm.isStatics = false ∧ s.vm.findClass C = some cell.cls) (cw : CallW R s args own C index y bytes maxL ret ws rm mc ms n)
    (hP : va_P D vwCl (spW cA ap ab σ) H) (hD : va_D A (spW cA ap ab σ)) (hS : va_S A s.heap H locs) (hn : As.length = n) (hsize : ls.size = nL) (hst : st0 = As.reverse ++ .ref ap :: rest) (hR : (rest.map fun v => v.category).sum ≤ 8) (hdg : decode cc pc = .ok (.invokevirtual index, 3)) (hf : cells + mc ≤ R.cells ∧ slots + ms ≤ R.slots)
    (kk : ∀ (u : BS) (H1 : Heap) (locs1 : List Loc), post u → va_P D vwCl (spW cA ap ab u) H1 → va_D A (spW cA ap ab u) → va_S A s.heap H1 locs1 → W p l e R s m args below meth c H1 locs1 (cells + mc) (slots + ms) Q (F0 m (pc + 3) ls (rest))) :
    W p l e R s m args below meth c H locs cells slots Q (F0 m pc ls st0) := by
  obtain ⟨hx, hb, hml, hr, hown, hts, hK, hA, hlk, hE, vE⟩ := Cx
  have hPc : va_P D vwCl (spW cA ap ab σ) H := hP.sub [0, 1, 2] rfl
  have hDc : va_D A (spW cA ap ab σ) := hD.sub [0, 1, 2] (by decide) rfl
  have hFc : ∀ q, va_A (spW cA ap ab σ) H.size q → A q := va_free (wc := (spW cA ap ab σ)) hD hS hA [0, 1, 2] rfl
  refine va_callv (va_runV (As := As) (rest := rest) ⟨hx, hb, hml, hown, hts⟩ hM cw ⟨spPre.blind vE, hrc, fun U hU hW => ⟨rfl, by rw [hU], by rw [hU]; exact hPc, va_K.moved hW.alike hK, hDc.weaken (fun _ _ _ _ => trivial), vE.at hE hS hU hW hFc⟩⟩ rfl hn hsize hst (lv_room hR) hdg hf) hS (fun q _ h => hFc q h) hFc (fun u t H1 locs ht hvm hw hB hz1 hk1 hS => ?_)
  obtain ⟨hP1, hK1, hD1⟩ := hB
  rw [ht] at hP1
  obtain ⟨hP, hD⟩ := va_join (wr := []) (w1 := spW cA ap ab u) hP hD [0, 1, 2] [] rfl rfl (by decide) (by decide) hk1 hFc hP1 hD1
  exact kk u H1 locs hw hP hD hS
theorem spV_i {post : Int32 → BS → Prop} (Cx : spCx p s m args meth c cc nL rt Ts own E D cA A)
    (hM : Met l y ws rm (va_Pc (.ref ap :: As) (spPre E D cA ap ab H.size σ)) (va_Qi post (fun u t => spAt D cA ap ab (va_A (spW cA ap ab σ) H.size) u t) (va_A (spW cA ap ab σ) H.size)) mc ms (va_A (spW cA ap ab σ) H.size)) (hrc : ∃ cell : Cell, H[ap]? = some cell ∧ cell.vm.isStatics = false ∧ s.vm.findClass C = some cell.cls) (cw : CallW R s args own C index y bytes maxL ret ws rm mc ms n)
    (hP : va_P D vwCl (spW cA ap ab σ) H) (hD : va_D A (spW cA ap ab σ)) (hS : va_S A s.heap H locs) (hn : As.length = n) (hsize : ls.size = nL) (hst : st0 = As.reverse ++ .ref ap :: rest) (hR : (rest.map fun v => v.category).sum ≤ 8) (hdg : decode cc pc = .ok (.invokevirtual index, 3)) (hf : cells + mc ≤ R.cells ∧ slots + ms ≤ R.slots)
    (kk : ∀ (r : Int32) (u : BS) (H1 : Heap) (locs1 : List Loc), post r u → va_P D vwCl (spW cA ap ab u) H1 → va_D A (spW cA ap ab u) → va_S A s.heap H1 locs1 → W p l e R s m args below meth c H1 locs1 (cells + mc) (slots + ms) Q (F0 m (pc + 3) ls (.int r :: rest))) :
    W p l e R s m args below meth c H locs cells slots Q (F0 m pc ls st0) := by
  obtain ⟨hx, hb, hml, hr, hown, hts, hK, hA, hlk, hE, vE⟩ := Cx
  have hPc : va_P D vwCl (spW cA ap ab σ) H := hP.sub [0, 1, 2] rfl
  have hDc : va_D A (spW cA ap ab σ) := hD.sub [0, 1, 2] (by decide) rfl
  have hFc : ∀ q, va_A (spW cA ap ab σ) H.size q → A q := va_free (wc := (spW cA ap ab σ)) hD hS hA [0, 1, 2] rfl
  refine va_calli (va_runV (As := As) (rest := rest) ⟨hx, hb, hml, hown, hts⟩ hM cw ⟨spPre.blind vE, hrc, fun U hU hW => ⟨rfl, by rw [hU], by rw [hU]; exact hPc, va_K.moved hW.alike hK, hDc.weaken (fun _ _ _ _ => trivial), vE.at hE hS hU hW hFc⟩⟩ rfl hn hsize hst (lv_room hR) hdg hf) hS (fun q _ h => hFc q h) hFc (fun r u t H1 locs ht hvm hw hB hz1 hk1 hS => ?_)
  obtain ⟨hP1, hK1, hD1⟩ := hB
  rw [ht] at hP1
  obtain ⟨hP, hD⟩ := va_join (wr := []) (w1 := spW cA ap ab u) hP hD [0, 1, 2] [] rfl rfl (by decide) (by decide) hk1 hFc hP1 hD1
  exact kk r u H1 locs hw hP hD hS
theorem spB_v {post : BS → Prop} (Cx : spCx p s m args meth c cc nL rt Ts own E D cA A)
    (hM : Met l y ws rm (va_Pc (.ref ab :: As) (zPre E D cA ab H.size σ)) (va_Qv post (fun u t => zAt D cA ab (va_A (zW cA ab σ) H.size) u t) (va_A (zW cA ab σ) H.size)) mc ms (va_A (zW cA ab σ) H.size)) (cw : CallW R s args own "java/lang/StringBuilder" index y bytes maxL ret ws rm mc ms n)
    (hP : va_P D vwCl (spW cA ap ab σ) H) (hD : va_D A (spW cA ap ab σ)) (hS : va_S A s.heap H locs) (hn : As.length = n) (hsize : ls.size = nL) (hst : st0 = As.reverse ++ .ref ab :: rest) (hR : (rest.map fun v => v.category).sum ≤ 8) (hdg : decode cc pc = .ok (.invokevirtual index, 3)) (hf : cells + mc ≤ R.cells ∧ slots + ms ≤ R.slots)
    (kk : ∀ (u : BS) (H1 : Heap) (locs1 : List Loc), post u → va_P D vwCl (spW cA ap ab u) H1 → va_D A (spW cA ap ab u) → va_S A s.heap H1 locs1 → W p l e R s m args below meth c H1 locs1 (cells + mc) (slots + ms) Q (F0 m (pc + 3) ls (rest))) :
    W p l e R s m args below meth c H locs cells slots Q (F0 m pc ls st0) := by
  obtain ⟨hx, hb, hml, hr, hown, hts, hK, hA, hlk, hE, vE⟩ := Cx
  have hPc : va_P D vwCl (zW cA ab σ) H := hP.sub [1, 2] rfl
  have hDc : va_D A (zW cA ab σ) := hD.sub [1, 2] (by decide) rfl
  have hFc : ∀ q, va_A (zW cA ab σ) H.size q → A q := va_free (wc := (zW cA ab σ)) hD hS hA [1, 2] rfl
  refine va_callv (va_runV (As := As) (rest := rest) ⟨hx, hb, hml, hown, hts⟩ hM cw ⟨zPre.blind vE, va_recv hK hPc (ci := 1) (q0 := 0) rfl rfl, fun U hU hW => ⟨rfl, by rw [hU], by rw [hU]; exact hPc, va_K.moved hW.alike hK, hDc.weaken (fun _ _ _ _ => trivial), vE.at hE hS hU hW hFc⟩⟩ rfl hn hsize hst (lv_room hR) hdg hf) hS (fun q _ h => hFc q h) hFc (fun u t H1 locs ht hvm hw hB hz1 hk1 hS => ?_)
  obtain ⟨hP1, hK1, hD1⟩ := hB
  rw [ht] at hP1
  obtain ⟨hP, hD⟩ := va_join (wr := [(ap, .inr (6, [.ref ab]))]) (w1 := zW cA ab u) hP hD [1, 2] [0] rfl rfl (by decide) (by decide) hk1 hFc hP1 hD1
  exact kk u H1 locs hw hP hD hS
theorem spB_i {post : Int32 → BS → Prop} (Cx : spCx p s m args meth c cc nL rt Ts own E D cA A)
    (hM : Met l y ws rm (va_Pc (.ref ab :: As) (zPre E D cA ab H.size σ)) (va_Qi post (fun u t => zAt D cA ab (va_A (zW cA ab σ) H.size) u t) (va_A (zW cA ab σ) H.size)) mc ms (va_A (zW cA ab σ) H.size)) (cw : CallW R s args own "java/lang/StringBuilder" index y bytes maxL ret ws rm mc ms n)
    (hP : va_P D vwCl (spW cA ap ab σ) H) (hD : va_D A (spW cA ap ab σ)) (hS : va_S A s.heap H locs) (hn : As.length = n) (hsize : ls.size = nL) (hst : st0 = As.reverse ++ .ref ab :: rest) (hR : (rest.map fun v => v.category).sum ≤ 8) (hdg : decode cc pc = .ok (.invokevirtual index, 3)) (hf : cells + mc ≤ R.cells ∧ slots + ms ≤ R.slots)
    (kk : ∀ (r : Int32) (u : BS) (H1 : Heap) (locs1 : List Loc), post r u → va_P D vwCl (spW cA ap ab u) H1 → va_D A (spW cA ap ab u) → va_S A s.heap H1 locs1 → W p l e R s m args below meth c H1 locs1 (cells + mc) (slots + ms) Q (F0 m (pc + 3) ls (.int r :: rest))) :
    W p l e R s m args below meth c H locs cells slots Q (F0 m pc ls st0) := by
  obtain ⟨hx, hb, hml, hr, hown, hts, hK, hA, hlk, hE, vE⟩ := Cx
  have hPc : va_P D vwCl (zW cA ab σ) H := hP.sub [1, 2] rfl
  have hDc : va_D A (zW cA ab σ) := hD.sub [1, 2] (by decide) rfl
  have hFc : ∀ q, va_A (zW cA ab σ) H.size q → A q := va_free (wc := (zW cA ab σ)) hD hS hA [1, 2] rfl
  refine va_calli (va_runV (As := As) (rest := rest) ⟨hx, hb, hml, hown, hts⟩ hM cw ⟨zPre.blind vE, va_recv hK hPc (ci := 1) (q0 := 0) rfl rfl, fun U hU hW => ⟨rfl, by rw [hU], by rw [hU]; exact hPc, va_K.moved hW.alike hK, hDc.weaken (fun _ _ _ _ => trivial), vE.at hE hS hU hW hFc⟩⟩ rfl hn hsize hst (lv_room hR) hdg hf) hS (fun q _ h => hFc q h) hFc (fun r u t H1 locs ht hvm hw hB hz1 hk1 hS => ?_)
  obtain ⟨hP1, hK1, hD1⟩ := hB
  rw [ht] at hP1
  obtain ⟨hP, hD⟩ := va_join (wr := [(ap, .inr (6, [.ref ab]))]) (w1 := zW cA ab u) hP hD [1, 2] [0] rfl rfl (by decide) (by decide) hk1 hFc hP1 hD1
  exact kk r u H1 locs hw hP hD hS
theorem spB_r {post : BS → Prop} (Cx : spCx p s m args meth c cc nL rt Ts own E D cA A)
    (hM : Met l y ws rm (va_Pc (.ref ab :: As) (zPre E D cA ab H.size σ)) (va_Qr post (fun u a t => a = ab ∧ zAt D cA ab (va_A (zW cA ab σ) H.size) u t) (va_A (zW cA ab σ) H.size)) mc ms (va_A (zW cA ab σ) H.size)) (cw : CallW R s args own "java/lang/StringBuilder" index y bytes maxL ret ws rm mc ms n)
    (hP : va_P D vwCl (spW cA ap ab σ) H) (hD : va_D A (spW cA ap ab σ)) (hS : va_S A s.heap H locs) (hn : As.length = n) (hsize : ls.size = nL) (hst : st0 = As.reverse ++ .ref ab :: rest) (hR : (rest.map fun v => v.category).sum ≤ 8) (hdg : decode cc pc = .ok (.invokevirtual index, 3)) (hf : cells + mc ≤ R.cells ∧ slots + ms ≤ R.slots)
    (kk : ∀ (u : BS) (H1 : Heap) (locs1 : List Loc), post u → va_P D vwCl (spW cA ap ab u) H1 → va_D A (spW cA ap ab u) → va_S A s.heap H1 locs1 → W p l e R s m args below meth c H1 locs1 (cells + mc) (slots + ms) Q (F0 m (pc + 3) ls (.ref ab :: rest))) :
    W p l e R s m args below meth c H locs cells slots Q (F0 m pc ls st0) := by
  obtain ⟨hx, hb, hml, hr, hown, hts, hK, hA, hlk, hE, vE⟩ := Cx
  have hPc : va_P D vwCl (zW cA ab σ) H := hP.sub [1, 2] rfl
  have hDc : va_D A (zW cA ab σ) := hD.sub [1, 2] (by decide) rfl
  have hFc : ∀ q, va_A (zW cA ab σ) H.size q → A q := va_free (wc := (zW cA ab σ)) hD hS hA [1, 2] rfl
  refine va_callr (va_runV (As := As) (rest := rest) ⟨hx, hb, hml, hown, hts⟩ hM cw ⟨zPre.blind vE, va_recv hK hPc (ci := 1) (q0 := 0) rfl rfl, fun U hU hW => ⟨rfl, by rw [hU], by rw [hU]; exact hPc, va_K.moved hW.alike hK, hDc.weaken (fun _ _ _ _ => trivial), vE.at hE hS hU hW hFc⟩⟩ rfl hn hsize hst (lv_room hR) hdg hf) hS (fun q _ h => hFc q h) hFc (fun u ra t H1 locs ht hvm hw hB hz1 hk1 hS => ?_)
  obtain ⟨hra, hP1, hK1, hD1⟩ := hB
  rw [ht] at hP1
  obtain ⟨hP, hD⟩ := va_join (wr := [(ap, .inr (6, [.ref ab]))]) (w1 := zW cA ab u) hP hD [1, 2] [0] rfl rfl (by decide) (by decide) hk1 hFc hP1 hD1
  rw [hra]
  exact kk u H1 locs hw hP hD hS
end SPC
/-! ===== X4_spellGuard ===== -/
def rm_X4_spellGuard : Room := { frames := 7, cells := 5, slots := 350, locals := 186 }
abbrev wgX4_spellGuard : List Cond := .code yX4_spellGuard cX4_spellGuard 2 none :: TB
def wp_X4_spellGuard (post : BS → Prop) (x1 : Int32) (σ : BS) : Prop :=
  (x1 = 0 → (post σ)) ∧ (¬ x1 = 0 → (wp_J4_append_cf468 (fun σ_2 => (x1 < 12 → (wp_J4_append_cf468 (fun σ_4 => wp_J4_append_bf812 (fun σ_6 => wp_J4_append_cf468 (fun σ_8 => post σ_8) 32 σ_6) (x1 - x1 / 4 * 4) σ_4) 112 σ_2)) ∧ (¬ x1 < 12 → (wp_J4_append_cf468 (fun σ_10 => wp_J4_append_cf468 (fun σ_12 => wp_J4_append_bf812 (fun σ_14 => wp_J4_append_cf468 (fun σ_16 => post σ_16) 32 σ_14) (x1 - x1 / 4 * 4) σ_12) 112 σ_10) 33 σ_2))) 64 σ))
set_option maxHeartbeats 4000000 in
set_option maxRecDepth 100000 in
theorem k_X4_spellGuard {p : Program} {l : Launch} {e : Env} {s : State} {m : MethodId} {args : Array Value} {below : List Frame} {meth : Method} {c : Code} {A : Nat → Prop} {E : EnvT} {aK aV aE : Nat → Nat} {aO : Nat} {dO dT : Nat} {D : va_G} {cA : Nat → ClassId} {ap ab : Nat} (C : spCx p s m args meth c cX4_spellGuard 2 none wgX4_spellGuard RX4 E D cA A) (vM : eXs aK aV aE aO E) (vB : eBs dO dT E) {post : BS → Prop} :
    ∀ (x1 : Int32) (σ : BS) (H : Heap) (locs : List Loc) (ls : Array Slot), spG D cA ap ab A s σ H locs → lv_has ls 2 [(0, .ref ap), (1, .int x1)] → wp_X4_spellGuard post x1 σ → W p l e rm_X4_spellGuard s m args below meth c H locs 0 0 (MQ below (va_Qv post (spAt D cA ap ab A) A) args s 5 350 A) (F0 m 0 ls []) := by
  obtain ⟨hx, hb, hml, hr, hown, hts, hK, hA, hlk, hE, vE⟩ := id C
  intro x1 σ H locs ls hG hl hw
  obtain ⟨hP, hD, hS⟩ := id hG
  refine lv_iload_n hx hb dX4_spellGuard_0 rfl (lv_at hl 1 rfl) ?_
  refine lv_if_ne (tgt := 5) hx hb dX4_spellGuard_1 (by decide) (fun q_ => ?_) (fun q_ => ?_)
  · have hw := hw.2 q_
    refine lv_aload_n hx hb dX4_spellGuard_5 rfl (lv_at hl 0 rfl) ?_
    refine va_get (D := D) (ci := 6) (v := .ref ab) (C := RX4) (T := TX4) (N := 1) hx hb hts (in_tb inX4) hown hK hP 0 rfl rfl 0 (by decide) (hts _ (List.mem_cons_of_mem _ tw_1_220)) (fun _ h9 => h9) rfl dX4_spellGuard_6 ?_
    refine lv_bipush (v := 64) hx hb dX4_spellGuard_9 (by decide) ?_
    refine spB_r (As := [.int 64]) (rest := []) C (met_J4_append_cf468 vE vM vB hw) (cwV 1 hts (TB_G (TB_4 tw_3_226 tw_3_227 tw_3_228 tw_1_10) tw_3_229) rfl rfl rfl (by decide +kernel) ⟨by decide, by decide⟩) hP hD hS rfl hl.1 rfl (Nat.le_of_ble_eq_true rfl) dX4_spellGuard_11 ⟨by decide, by decide⟩ (fun σ_2 H locs hw hP hD hS => ?_)
    have hG : spG D cA ap ab A s σ_2 H locs := ⟨hP, hD, hS⟩
    refine lv_pop hx hb dX4_spellGuard_14 rfl ?_
    refine lv_iload_n hx hb dX4_spellGuard_15 rfl (lv_at hl 1 rfl) ?_
    refine lv_bipush (v := 12) hx hb dX4_spellGuard_16 (by decide) ?_
    refine lv_icmp_lt (tgt := 31) hx hb dX4_spellGuard_18 (by decide) (fun q_ => ?_) (fun q_ => ?_)
    · have hw := hw.1 q_
      refine lv_aload_n hx hb dX4_spellGuard_31 rfl (lv_at hl 0 rfl) ?_
      refine va_get (D := D) (ci := 6) (v := .ref ab) (C := RX4) (T := TX4) (N := 1) hx hb hts (in_tb inX4) hown hK hP 0 rfl rfl 0 (by decide) (hts _ (List.mem_cons_of_mem _ tw_1_220)) (fun _ h9 => h9) rfl dX4_spellGuard_32 ?_
      refine lv_bipush (v := 112) hx hb dX4_spellGuard_35 (by decide) ?_
      refine spB_r (As := [.int 112]) (rest := []) C (met_J4_append_cf468 vE vM vB hw) (cwV 1 hts (TB_G (TB_4 tw_3_226 tw_3_227 tw_3_228 tw_1_10) tw_3_229) rfl rfl rfl (by decide +kernel) ⟨by decide, by decide⟩) hP hD hS rfl hl.1 rfl (Nat.le_of_ble_eq_true rfl) dX4_spellGuard_37 ⟨by decide, by decide⟩ (fun σ_4 H locs hw hP hD hS => ?_)
      have hG : spG D cA ap ab A s σ_4 H locs := ⟨hP, hD, hS⟩
      refine lv_pop hx hb dX4_spellGuard_40 rfl ?_
      refine lv_aload_n hx hb dX4_spellGuard_41 rfl (lv_at hl 0 rfl) ?_
      refine va_get (D := D) (ci := 6) (v := .ref ab) (C := RX4) (T := TX4) (N := 1) hx hb hts (in_tb inX4) hown hK hP 0 rfl rfl 0 (by decide) (hts _ (List.mem_cons_of_mem _ tw_1_220)) (fun _ h9 => h9) rfl dX4_spellGuard_42 ?_
      refine lv_iload_n hx hb dX4_spellGuard_45 rfl (lv_at hl 1 rfl) ?_
      refine lv_iconst (v := 4) hx hb dX4_spellGuard_46 (by decide) ?_
      refine lv_irem hx hb dX4_spellGuard_47 (by decide) ?_
      refine spB_r (As := [.int (x1 - x1 / 4 * 4)]) (rest := []) C (met_J4_append_bf812 vE vM vB hw) (cwV 1 hts (TB_G (TB_4 tw_4_4 tw_3_113 tw_3_114 tw_1_10) tw_3_115) rfl rfl rfl (by decide +kernel) ⟨by decide, by decide⟩) hP hD hS rfl hl.1 rfl (Nat.le_of_ble_eq_true rfl) dX4_spellGuard_48 ⟨by decide, by decide⟩ (fun σ_6 H locs hw hP hD hS => ?_)
      have hG : spG D cA ap ab A s σ_6 H locs := ⟨hP, hD, hS⟩
      refine lv_pop hx hb dX4_spellGuard_51 rfl ?_
      refine lv_aload_n hx hb dX4_spellGuard_52 rfl (lv_at hl 0 rfl) ?_
      refine va_get (D := D) (ci := 6) (v := .ref ab) (C := RX4) (T := TX4) (N := 1) hx hb hts (in_tb inX4) hown hK hP 0 rfl rfl 0 (by decide) (hts _ (List.mem_cons_of_mem _ tw_1_220)) (fun _ h9 => h9) rfl dX4_spellGuard_53 ?_
      refine lv_bipush (v := 32) hx hb dX4_spellGuard_56 (by decide) ?_
      refine spB_r (As := [.int 32]) (rest := []) C (met_J4_append_cf468 vE vM vB hw) (cwV 1 hts (TB_G (TB_4 tw_3_226 tw_3_227 tw_3_228 tw_1_10) tw_3_229) rfl rfl rfl (by decide +kernel) ⟨by decide, by decide⟩) hP hD hS rfl hl.1 rfl (Nat.le_of_ble_eq_true rfl) dX4_spellGuard_58 ⟨by decide, by decide⟩ (fun σ_8 H locs hw hP hD hS => ?_)
      have hG : spG D cA ap ab A s σ_8 H locs := ⟨hP, hD, hS⟩
      refine lv_pop hx hb dX4_spellGuard_61 rfl ?_
      refine W.widen (k := 5) (n := 350) (by decide) (by decide) ?_
      exact W.vret hx hb hr (fun t ht hW => ⟨⟨σ_8, rfl, hw, by rw [ht]; exact hP, va_K.moved hW.alike hK, hD⟩, hS.F ht⟩) hS.2.2 dX4_spellGuard_62 hlk
    · have hw := hw.2 q_
      refine lv_aload_n hx hb dX4_spellGuard_21 rfl (lv_at hl 0 rfl) ?_
      refine va_get (D := D) (ci := 6) (v := .ref ab) (C := RX4) (T := TX4) (N := 1) hx hb hts (in_tb inX4) hown hK hP 0 rfl rfl 0 (by decide) (hts _ (List.mem_cons_of_mem _ tw_1_220)) (fun _ h9 => h9) rfl dX4_spellGuard_22 ?_
      refine lv_bipush (v := 33) hx hb dX4_spellGuard_25 (by decide) ?_
      refine spB_r (As := [.int 33]) (rest := []) C (met_J4_append_cf468 vE vM vB hw) (cwV 1 hts (TB_G (TB_4 tw_3_226 tw_3_227 tw_3_228 tw_1_10) tw_3_229) rfl rfl rfl (by decide +kernel) ⟨by decide, by decide⟩) hP hD hS rfl hl.1 rfl (Nat.le_of_ble_eq_true rfl) dX4_spellGuard_27 ⟨by decide, by decide⟩ (fun σ_10 H locs hw hP hD hS => ?_)
      have hG : spG D cA ap ab A s σ_10 H locs := ⟨hP, hD, hS⟩
      refine lv_pop hx hb dX4_spellGuard_30 rfl ?_
      refine lv_aload_n hx hb dX4_spellGuard_31 rfl (lv_at hl 0 rfl) ?_
      refine va_get (D := D) (ci := 6) (v := .ref ab) (C := RX4) (T := TX4) (N := 1) hx hb hts (in_tb inX4) hown hK hP 0 rfl rfl 0 (by decide) (hts _ (List.mem_cons_of_mem _ tw_1_220)) (fun _ h9 => h9) rfl dX4_spellGuard_32 ?_
      refine lv_bipush (v := 112) hx hb dX4_spellGuard_35 (by decide) ?_
      refine spB_r (As := [.int 112]) (rest := []) C (met_J4_append_cf468 vE vM vB hw) (cwV 1 hts (TB_G (TB_4 tw_3_226 tw_3_227 tw_3_228 tw_1_10) tw_3_229) rfl rfl rfl (by decide +kernel) ⟨by decide, by decide⟩) hP hD hS rfl hl.1 rfl (Nat.le_of_ble_eq_true rfl) dX4_spellGuard_37 ⟨by decide, by decide⟩ (fun σ_12 H locs hw hP hD hS => ?_)
      have hG : spG D cA ap ab A s σ_12 H locs := ⟨hP, hD, hS⟩
      refine lv_pop hx hb dX4_spellGuard_40 rfl ?_
      refine lv_aload_n hx hb dX4_spellGuard_41 rfl (lv_at hl 0 rfl) ?_
      refine va_get (D := D) (ci := 6) (v := .ref ab) (C := RX4) (T := TX4) (N := 1) hx hb hts (in_tb inX4) hown hK hP 0 rfl rfl 0 (by decide) (hts _ (List.mem_cons_of_mem _ tw_1_220)) (fun _ h9 => h9) rfl dX4_spellGuard_42 ?_
      refine lv_iload_n hx hb dX4_spellGuard_45 rfl (lv_at hl 1 rfl) ?_
      refine lv_iconst (v := 4) hx hb dX4_spellGuard_46 (by decide) ?_
      refine lv_irem hx hb dX4_spellGuard_47 (by decide) ?_
      refine spB_r (As := [.int (x1 - x1 / 4 * 4)]) (rest := []) C (met_J4_append_bf812 vE vM vB hw) (cwV 1 hts (TB_G (TB_4 tw_4_4 tw_3_113 tw_3_114 tw_1_10) tw_3_115) rfl rfl rfl (by decide +kernel) ⟨by decide, by decide⟩) hP hD hS rfl hl.1 rfl (Nat.le_of_ble_eq_true rfl) dX4_spellGuard_48 ⟨by decide, by decide⟩ (fun σ_14 H locs hw hP hD hS => ?_)
      have hG : spG D cA ap ab A s σ_14 H locs := ⟨hP, hD, hS⟩
      refine lv_pop hx hb dX4_spellGuard_51 rfl ?_
      refine lv_aload_n hx hb dX4_spellGuard_52 rfl (lv_at hl 0 rfl) ?_
      refine va_get (D := D) (ci := 6) (v := .ref ab) (C := RX4) (T := TX4) (N := 1) hx hb hts (in_tb inX4) hown hK hP 0 rfl rfl 0 (by decide) (hts _ (List.mem_cons_of_mem _ tw_1_220)) (fun _ h9 => h9) rfl dX4_spellGuard_53 ?_
      refine lv_bipush (v := 32) hx hb dX4_spellGuard_56 (by decide) ?_
      refine spB_r (As := [.int 32]) (rest := []) C (met_J4_append_cf468 vE vM vB hw) (cwV 1 hts (TB_G (TB_4 tw_3_226 tw_3_227 tw_3_228 tw_1_10) tw_3_229) rfl rfl rfl (by decide +kernel) ⟨by decide, by decide⟩) hP hD hS rfl hl.1 rfl (Nat.le_of_ble_eq_true rfl) dX4_spellGuard_58 ⟨by decide, by decide⟩ (fun σ_16 H locs hw hP hD hS => ?_)
      have hG : spG D cA ap ab A s σ_16 H locs := ⟨hP, hD, hS⟩
      refine lv_pop hx hb dX4_spellGuard_61 rfl ?_
      exact W.vret hx hb hr (fun t ht hW => ⟨⟨σ_16, rfl, hw, by rw [ht]; exact hP, va_K.moved hW.alike hK, hD⟩, hS.F ht⟩) hS.2.2 dX4_spellGuard_62 hlk
  · have hw := hw.1 q_
    refine W.widen (k := 5) (n := 350) (by decide) (by decide) ?_
    exact W.vret hx hb hr (fun t ht hW => ⟨⟨σ, rfl, hw, by rw [ht]; exact hP, va_K.moved hW.alike hK, hD⟩, hS.F ht⟩) hS.2.2 dX4_spellGuard_4 hlk
set_option maxHeartbeats 4000000 in
set_option maxRecDepth 100000 in
theorem met_X4_spellGuard {l : Launch} {E : EnvT} (vE : EnvOk E) {D : va_G} {cA : Nat → ClassId} {ap ab : Nat} {σ : BS} {aK aV aE : Nat → Nat} {aO : Nat} {dO dT : Nat} (vM : eXs aK aV aE aO E) (vB : eBs dO dT E) {sz : Nat} {x1 : Int32} {post : BS → Prop} (hw : wp_X4_spellGuard post x1 σ) : Met l yX4_spellGuard wgX4_spellGuard rm_X4_spellGuard (va_Pc [.ref ap, .int x1] (spPre E D cA ap ab sz σ)) (va_Qv post (spAt D cA ap ab (va_A (spW cA ap ab σ) sz)) (va_A (spW cA ap ab σ) sz)) 5 350 (va_A (spW cA ap ab σ) sz) := by
  refine Met.ofW (cc := cX4_spellGuard) (maxL := 2) (ret := none) (by decide +kernel) rfl ?_
  intro p e s m args below meth c s₁ B hml hv
  obtain ⟨rfl, hsz, hP, hK, hD0, hE⟩ := hv
  subst hsz
  have hD := hD0.self (sz := s.heap.size)
  generalize hAe : va_A (spW cA ap ab σ) s.heap.size = A at hD hE ⊢
  have hA : ∀ q : Nat, s.heap.size ≤ q → A q := fun q h => by rw [← hAe]; exact Or.inr h
  have hS : va_S A s.heap s.heap [] := va_S.rf
  have C : spCx p s m _ meth c cX4_spellGuard 2 none wgX4_spellGuard RX4 E D cA A := ⟨B.exec, B.bytes, hml, B.returns, findClass_of_methodNamed B.named, atoms_spec (ws := wgX4_spellGuard) B.pre, hK, hA, B.notSynchronized, hE, vE⟩
  have hG : spG D cA ap ab A s σ s.heap [] := ⟨hP, hD, hS⟩
  have hl := lv_entry ([.ref ap, .int x1]) (n := 2) (Nat.le_of_ble_eq_true rfl)
  rw [lg_entry_eq]
  generalize (lg_sl ([.ref ap, .int x1]) ++ List.replicate (2 - (lg_sl ([.ref ap, .int x1])).length) Slot.unset).toArray = ls at hl ⊢
  have hl : lv_has ls 2 [(0, .ref ap), (1, .int x1)] := hl
  exact k_X4_spellGuard C vM vB x1 σ _ _ _ hG hl hw
/-! ===== X4_spellParts ===== -/
def rm_X4_spellParts : Room := { frames := 7, cells := 24, slots := 1680, locals := 186 }
abbrev wgX4_spellParts : List Cond := .code yX4_spellParts cX4_spellParts 6 none :: TB
def wB_X4_spellParts_23 (post : BS → Prop) (k23 : Nat → Int64 → Int32 → BS → Prop) (e1 : Nat) (x2 : Int64) (x4 : Int32) (σ : BS) : Prop :=
  e1 < 53 ∧ ((pxI e1) < nX ∧ wp_J0_length_8abf5 (fun r_5  => (r_5 ≤ x4 → (post σ)) ∧ (¬ r_5 ≤ x4 → (e1 < 53 ∧ ((pxI e1) < nX ∧ (vp_in x4 (lenX.getD (pxI e1) 0) ∧ (∀ r_10 : Int32, r_10 = sCh bytX (pxI e1) x4.toNatClampNeg → wp_X2_shiftOf (fun r_11  => (r_11 = (-1) → (wp_J4_append_cf468 (fun σ_37 => ∀ x4_38 : Int32, x4_38 = x4 + 1 → k23 e1 x2 x4_38 σ_37) r_10 σ)) ∧ (¬ r_11 = (-1) → (wp_X2_isRegister (fun r_13  => (r_13 = 0 → (wp_X2_isPredicate (fun r_15  => (r_15 = 0 → (wp_X2_fieldOf (fun r_17  => wp_J4_append_bf812 (fun σ_20 => ∀ x4_21 : Int32, x4_21 = x4 + 1 → k23 e1 x2 x4_21 σ_20) r_17 σ) r_10 x2)) ∧ (¬ r_15 = 0 → (wp_J4_append_cf468 (fun σ_23 => wp_X2_fieldOf (fun r_24  => wp_J4_append_bf812 (fun σ_27 => ∀ x4_28 : Int32, x4_28 = x4 + 1 → k23 e1 x2 x4_28 σ_27) r_24 σ_23) r_10 x2) 112 σ))) r_10)) ∧ (¬ r_13 = 0 → (wp_J4_append_cf468 (fun σ_30 => wp_X2_fieldOf (fun r_31  => wp_J4_append_bf812 (fun σ_34 => ∀ x4_35 : Int32, x4_35 = x4 + 1 → k23 e1 x2 x4_35 σ_34) r_31 σ_30) r_10 x2) 114 σ))) r_10))) r_10)))))) (pxI e1))
def wL_X4_spellParts_23 (post : BS → Prop) : Nat → Nat → Int64 → Int32 → BS → Prop
  | 0 => fun _ _ _ _ => False
  | n + 1 => wB_X4_spellParts_23 post (wL_X4_spellParts_23 post n)
def wp_X4_spellParts (post : BS → Prop) (e1 : Nat) (x2 : Int64) (σ : BS) : Prop :=
  e1 < 53 ∧ ((pxI e1) < nX ∧ wp_J0_isEmpty_aae02 (fun r_2  => (r_2 = 0 → (wp_J4_append_cf468 (fun σ_41 => ∃ n, n ≤ 10 ∧ wL_X4_spellParts_23 post n e1 x2 0 σ_41) 32 σ)) ∧ (¬ r_2 = 0 → (∃ n, n ≤ 10 ∧ wL_X4_spellParts_23 post n e1 x2 0 σ))) (pxI e1))
set_option maxHeartbeats 4000000 in
set_option maxRecDepth 100000 in
theorem kB_X4_spellParts_23 {p : Program} {l : Launch} {e : Env} {s : State} {m : MethodId} {args : Array Value} {below : List Frame} {meth : Method} {c : Code} {A : Nat → Prop} {E : EnvT} {aK aV aE : Nat → Nat} {aO : Nat} {dO dT : Nat} {D : va_G} {cA : Nat → ClassId} {ap ab : Nat} (C : spCx p s m args meth c cX4_spellParts 6 none wgX4_spellParts RX4 E D cA A) (vM : eXs aK aV aE aO E) (vB : eBs dO dT E) {post : BS → Prop} {m_ : Nat}
    {k23 : Nat → Int64 → Int32 → BS → Prop} (hk23 : ∀ (e1 : Nat) (x2 : Int64) (x4 : Int32) (σ : BS) (H : Heap) (locs : List Loc) (ls : Array Slot), spG D cA ap ab A s σ H locs → lv_has ls 6 [(0, .ref ap), (1, .ref (aE e1)), (2, .long x2), (4, .int x4)] → k23 e1 x2 x4 σ → W p l e rm_X4_spellParts s m args below meth c H locs m_ (70 * m_) (MQ below (va_Qv post (spAt D cA ap ab A) A) args s 24 1680 A) (F0 m 23 ls [])) :
    ∀ (k_ : Nat), k_ + 2 ≤ m_ → k_ + 2 ≤ 24 → ∀ (e1 : Nat) (x2 : Int64) (x4 : Int32) (σ : BS) (H : Heap) (locs : List Loc) (ls : Array Slot), spG D cA ap ab A s σ H locs → lv_has ls 6 [(0, .ref ap), (1, .ref (aE e1)), (2, .long x2), (4, .int x4)] → wB_X4_spellParts_23 post k23 e1 x2 x4 σ → W p l e rm_X4_spellParts s m args below meth c H locs k_ (70 * k_) (MQ below (va_Qv post (spAt D cA ap ab A) A) args s 24 1680 A) (F0 m 23 ls []) := by
  obtain ⟨hx, hb, hml, hr, hown, hts, hK, hA, hlk, hE, vE⟩ := id C
  intro k_ hm_ hb_ e1 x2 x4 σ H locs ls hG hl hw
  obtain ⟨hP, hD, hS⟩ := id hG
  refine lv_iload hx hb dX4_spellParts_23 (lv_at hl 3 rfl) ?_
  refine lv_aload_n hx hb dX4_spellParts_25 rfl (lv_at hl 1 rfl) ?_
  obtain ⟨h_4, hw⟩ := hw
  refine vk_getf hx hb (eX.o_parts (vM _ _ _ hE) h_4) hS hown (hts _ (List.mem_cons_of_mem _ tw_6_231)) (fun _ h => h) dX4_spellParts_26 ?_
  obtain ⟨h_39, hw⟩ := hw
  refine spO_i (As := []) (rest := [.int x4]) C (met_J0_length_8abf5 vE vM hw) (va_Orecv (eX.s_obj (vM _ _ _ hE) h_39) hS) (cwV 0 hts (TB_G (TB_4 tw_4_14 tw_2_48 tw_2_49 tw_1_11) tw_2_50) rfl rfl rfl (by decide +kernel) ⟨by decide, by decide⟩) hP hD hS rfl hl.1 rfl (Nat.le_of_ble_eq_true rfl) dX4_spellParts_29 ⟨by show k_ ≤ 24; omega, by show 70 * k_ ≤ 1680; omega⟩ (fun r_5 H locs hw hP hS => ?_)
  have hG : spG D cA ap ab A s σ H locs := ⟨hP, hD, hS⟩
  refine lv_icmp_ge (tgt := 127) hx hb dX4_spellParts_32 (by decide) (fun q_ => ?_) (fun q_ => ?_)
  · have hw := hw.1 q_
    refine W.widen (k := 24) (n := 1680) (by omega) (by omega) ?_
    exact W.vret hx hb hr (fun t ht hW => ⟨⟨σ, rfl, hw, by rw [ht]; exact hP, va_K.moved hW.alike hK, hD⟩, hS.F ht⟩) hS.2.2 dX4_spellParts_127 hlk
  · have hw := hw.2 q_
    refine lv_aload_n hx hb dX4_spellParts_35 rfl (lv_at hl 1 rfl) ?_
    obtain ⟨h_7, hw⟩ := hw
    refine vk_getf hx hb (eX.o_parts (vM _ _ _ hE) h_7) hS hown (hts _ (List.mem_cons_of_mem _ tw_6_231)) (fun _ h => h) dX4_spellParts_36 ?_
    refine lv_iload hx hb dX4_spellParts_39 (lv_at hl 3 rfl) ?_
    obtain ⟨h_9, h_8, hw⟩ := hw
    refine spO_i (As := [.int x4]) (rest := []) C (met_J0_charAt vE (fun A U H z => eX.str (vM A U H z)) h_9 (post := fun r => r = sCh bytX (pxI e1) x4.toNatClampNeg) (in_nn h_8) (in_lt h_8 (lenX_lt _)) h_8 rfl) (va_Orecv (eX.s_obj (vM _ _ _ hE) h_9) hS) (cwV 1 hts (TB_G (TB_4 tw_4_15 tw_2_57 tw_2_58 tw_1_11) tw_2_59) rfl rfl rfl (by decide +kernel) ⟨by decide, by decide⟩) hP hD hS rfl hl.1 rfl (Nat.le_of_ble_eq_true rfl) dX4_spellParts_41 ⟨by show k_ ≤ 24; omega, by show 70 * k_ ≤ 1680; omega⟩ (fun r_10 H locs er_10 hP hS => ?_)
    have hw := hw r_10 er_10
    have hG : spG D cA ap ab A s σ H locs := ⟨hP, hD, hS⟩
    refine lv_istore (lv' := [(5, .int r_10), (0, .ref ap), (1, .ref (aE e1)), (2, .long x2), (4, .int x4)]) hx hb dX4_spellParts_44 hl (by decide) rfl (fun ls hl => ?_)
    refine lv_iload hx hb dX4_spellParts_46 (lv_at hl 0 rfl) ?_
    refine spS_i (As := [.int r_10]) (rest := []) C (met_X2_shiftOf vE vM hw) (va_cwS 1 hts (TB_G (TB_3 tw_4_16 tw_2_95 tw_1_19) tw_2_96) rfl rfl rfl (by decide +kernel) ⟨by decide, by decide⟩) hP hD hS rfl hl.1 rfl (Nat.le_of_ble_eq_true rfl) dX4_spellParts_48 ⟨by show k_ ≤ 24; omega, by show 70 * k_ ≤ 1680; omega⟩ (fun r_11 H locs hw hP hS => ?_)
    have hG : spG D cA ap ab A s σ H locs := ⟨hP, hD, hS⟩
    refine lv_iconst (v := (-1)) hx hb dX4_spellParts_51 (by decide) ?_
    refine lv_icmp_ne (tgt := 68) hx hb dX4_spellParts_52 (by decide) (fun q_ => ?_) (fun q_ => ?_)
    · have hw := hw.2 q_
      refine lv_iload hx hb dX4_spellParts_68 (lv_at hl 0 rfl) ?_
      refine spS_i (As := [.int r_10]) (rest := []) C (met_X2_isRegister vE vM hw) (va_cwS 1 hts (TB_G (TB_3 tw_4_17 tw_2_108 tw_1_19) tw_2_109) rfl rfl rfl (by decide +kernel) ⟨by decide, by decide⟩) hP hD hS rfl hl.1 rfl (Nat.le_of_ble_eq_true rfl) dX4_spellParts_70 ⟨by show k_ ≤ 24; omega, by show 70 * k_ ≤ 1680; omega⟩ (fun r_13 H locs hw hP hS => ?_)
      have hG : spG D cA ap ab A s σ H locs := ⟨hP, hD, hS⟩
      refine lv_if_eq (tgt := 89) hx hb dX4_spellParts_73 (by decide) (fun q_ => ?_) (fun q_ => ?_)
      · have hw := hw.1 q_
        refine lv_iload hx hb dX4_spellParts_89 (lv_at hl 0 rfl) ?_
        refine spS_i (As := [.int r_10]) (rest := []) C (met_X2_isPredicate vE vM hw) (va_cwS 1 hts (TB_G (TB_3 tw_4_18 tw_2_111 tw_1_19) tw_2_112) rfl rfl rfl (by decide +kernel) ⟨by decide, by decide⟩) hP hD hS rfl hl.1 rfl (Nat.le_of_ble_eq_true rfl) dX4_spellParts_91 ⟨by show k_ ≤ 24; omega, by show 70 * k_ ≤ 1680; omega⟩ (fun r_15 H locs hw hP hS => ?_)
        have hG : spG D cA ap ab A s σ H locs := ⟨hP, hD, hS⟩
        refine lv_if_eq (tgt := 107) hx hb dX4_spellParts_94 (by decide) (fun q_ => ?_) (fun q_ => ?_)
        · have hw := hw.1 q_
          refine lv_aload_n hx hb dX4_spellParts_107 rfl (lv_at hl 1 rfl) ?_
          refine va_get (D := D) (ci := 6) (v := .ref ab) (C := RX4) (T := TX4) (N := 1) hx hb hts (in_tb inX4) hown hK hP 0 rfl rfl 0 (by decide) (hts _ (List.mem_cons_of_mem _ tw_1_220)) (fun _ h9 => h9) rfl dX4_spellParts_108 ?_
          refine lv_iload hx hb dX4_spellParts_111 (lv_at hl 0 rfl) ?_
          refine lv_lload_n hx hb dX4_spellParts_113 rfl (lv_at hl 3 rfl) ?_
          refine spS_i (As := [.int r_10, .long x2]) (rest := [.ref ab]) C (met_X2_fieldOf vE vM hw) (va_cwS 2 hts (TB_G (TB_3 tw_4_19 tw_2_98 tw_1_19) tw_2_99) rfl rfl rfl (by decide +kernel) ⟨by decide, by decide⟩) hP hD hS rfl hl.1 rfl (Nat.le_of_ble_eq_true rfl) dX4_spellParts_114 ⟨by show k_ ≤ 24; omega, by show 70 * k_ ≤ 1680; omega⟩ (fun r_17 H locs hw hP hS => ?_)
          have hG : spG D cA ap ab A s σ H locs := ⟨hP, hD, hS⟩
          refine spB_r (As := [.int r_17]) (rest := []) C (met_J4_append_bf812 vE vM vB hw) (cwV 1 hts (TB_G (TB_4 tw_4_4 tw_3_113 tw_3_114 tw_1_10) tw_3_115) rfl rfl rfl (by decide +kernel) ⟨by decide, by decide⟩) hP hD hS rfl hl.1 rfl (Nat.le_of_ble_eq_true rfl) dX4_spellParts_117 ⟨by show k_ + 1 ≤ 24; omega, by show 70 * k_ + 70 ≤ 1680; omega⟩ (fun σ_20 H locs hw hP hD hS => ?_)
          have hG : spG D cA ap ab A s σ_20 H locs := ⟨hP, hD, hS⟩
          refine W.widen (k := k_ + 1) (n := 70 * (k_ + 1)) (by omega) (by omega) ?_
          refine lv_pop hx hb dX4_spellParts_120 rfl ?_
          obtain ⟨x4_21, ex4_21⟩ : ∃ y : Int32, y = x4 + 1 := ⟨_, rfl⟩
          have hw := hw x4_21 ex4_21
          refine lv_iinc (v := x4_21) (lv' := [(4, .int x4_21), (5, .int r_10), (0, .ref ap), (1, .ref (aE e1)), (2, .long x2)]) hx hb dX4_spellParts_121 hl (k := 4) rfl (by rw [ex4_21]; rfl) (by decide) rfl (fun ls hl => ?_)
          refine lv_goto (tgt := 23) hx hb dX4_spellParts_124 (by decide) ?_
          refine W.widen (k := m_) (n := 70 * m_) (by omega) (by omega) ?_
          exact hk23 e1 x2 x4_21 σ_20 _ _ _ hG (lv_sub hl [2, 3, 4, 0] rfl) hw
        · have hw := hw.2 q_
          refine lv_aload_n hx hb dX4_spellParts_97 rfl (lv_at hl 1 rfl) ?_
          refine va_get (D := D) (ci := 6) (v := .ref ab) (C := RX4) (T := TX4) (N := 1) hx hb hts (in_tb inX4) hown hK hP 0 rfl rfl 0 (by decide) (hts _ (List.mem_cons_of_mem _ tw_1_220)) (fun _ h9 => h9) rfl dX4_spellParts_98 ?_
          refine lv_bipush (v := 112) hx hb dX4_spellParts_101 (by decide) ?_
          refine spB_r (As := [.int 112]) (rest := []) C (met_J4_append_cf468 vE vM vB hw) (cwV 1 hts (TB_G (TB_4 tw_3_226 tw_3_227 tw_3_228 tw_1_10) tw_3_229) rfl rfl rfl (by decide +kernel) ⟨by decide, by decide⟩) hP hD hS rfl hl.1 rfl (Nat.le_of_ble_eq_true rfl) dX4_spellParts_103 ⟨by show k_ + 1 ≤ 24; omega, by show 70 * k_ + 70 ≤ 1680; omega⟩ (fun σ_23 H locs hw hP hD hS => ?_)
          have hG : spG D cA ap ab A s σ_23 H locs := ⟨hP, hD, hS⟩
          refine W.widen (k := k_ + 1) (n := 70 * (k_ + 1)) (by omega) (by omega) ?_
          refine lv_pop hx hb dX4_spellParts_106 rfl ?_
          refine lv_aload_n hx hb dX4_spellParts_107 rfl (lv_at hl 1 rfl) ?_
          refine va_get (D := D) (ci := 6) (v := .ref ab) (C := RX4) (T := TX4) (N := 1) hx hb hts (in_tb inX4) hown hK hP 0 rfl rfl 0 (by decide) (hts _ (List.mem_cons_of_mem _ tw_1_220)) (fun _ h9 => h9) rfl dX4_spellParts_108 ?_
          refine lv_iload hx hb dX4_spellParts_111 (lv_at hl 0 rfl) ?_
          refine lv_lload_n hx hb dX4_spellParts_113 rfl (lv_at hl 3 rfl) ?_
          refine spS_i (As := [.int r_10, .long x2]) (rest := [.ref ab]) C (met_X2_fieldOf vE vM hw) (va_cwS 2 hts (TB_G (TB_3 tw_4_19 tw_2_98 tw_1_19) tw_2_99) rfl rfl rfl (by decide +kernel) ⟨by decide, by decide⟩) hP hD hS rfl hl.1 rfl (Nat.le_of_ble_eq_true rfl) dX4_spellParts_114 ⟨by show (k_ + 1) ≤ 24; omega, by show 70 * (k_ + 1) ≤ 1680; omega⟩ (fun r_24 H locs hw hP hS => ?_)
          have hG : spG D cA ap ab A s σ_23 H locs := ⟨hP, hD, hS⟩
          refine spB_r (As := [.int r_24]) (rest := []) C (met_J4_append_bf812 vE vM vB hw) (cwV 1 hts (TB_G (TB_4 tw_4_4 tw_3_113 tw_3_114 tw_1_10) tw_3_115) rfl rfl rfl (by decide +kernel) ⟨by decide, by decide⟩) hP hD hS rfl hl.1 rfl (Nat.le_of_ble_eq_true rfl) dX4_spellParts_117 ⟨by show (k_ + 1) + 1 ≤ 24; omega, by show 70 * (k_ + 1) + 70 ≤ 1680; omega⟩ (fun σ_27 H locs hw hP hD hS => ?_)
          have hG : spG D cA ap ab A s σ_27 H locs := ⟨hP, hD, hS⟩
          refine W.widen (k := k_ + 2) (n := 70 * (k_ + 2)) (by omega) (by omega) ?_
          refine lv_pop hx hb dX4_spellParts_120 rfl ?_
          obtain ⟨x4_28, ex4_28⟩ : ∃ y : Int32, y = x4 + 1 := ⟨_, rfl⟩
          have hw := hw x4_28 ex4_28
          refine lv_iinc (v := x4_28) (lv' := [(4, .int x4_28), (5, .int r_10), (0, .ref ap), (1, .ref (aE e1)), (2, .long x2)]) hx hb dX4_spellParts_121 hl (k := 4) rfl (by rw [ex4_28]; rfl) (by decide) rfl (fun ls hl => ?_)
          refine lv_goto (tgt := 23) hx hb dX4_spellParts_124 (by decide) ?_
          refine W.widen (k := m_) (n := 70 * m_) (by omega) (by omega) ?_
          exact hk23 e1 x2 x4_28 σ_27 _ _ _ hG (lv_sub hl [2, 3, 4, 0] rfl) hw
      · have hw := hw.2 q_
        refine lv_aload_n hx hb dX4_spellParts_76 rfl (lv_at hl 1 rfl) ?_
        refine va_get (D := D) (ci := 6) (v := .ref ab) (C := RX4) (T := TX4) (N := 1) hx hb hts (in_tb inX4) hown hK hP 0 rfl rfl 0 (by decide) (hts _ (List.mem_cons_of_mem _ tw_1_220)) (fun _ h9 => h9) rfl dX4_spellParts_77 ?_
        refine lv_bipush (v := 114) hx hb dX4_spellParts_80 (by decide) ?_
        refine spB_r (As := [.int 114]) (rest := []) C (met_J4_append_cf468 vE vM vB hw) (cwV 1 hts (TB_G (TB_4 tw_3_226 tw_3_227 tw_3_228 tw_1_10) tw_3_229) rfl rfl rfl (by decide +kernel) ⟨by decide, by decide⟩) hP hD hS rfl hl.1 rfl (Nat.le_of_ble_eq_true rfl) dX4_spellParts_82 ⟨by show k_ + 1 ≤ 24; omega, by show 70 * k_ + 70 ≤ 1680; omega⟩ (fun σ_30 H locs hw hP hD hS => ?_)
        have hG : spG D cA ap ab A s σ_30 H locs := ⟨hP, hD, hS⟩
        refine W.widen (k := k_ + 1) (n := 70 * (k_ + 1)) (by omega) (by omega) ?_
        refine lv_pop hx hb dX4_spellParts_85 rfl ?_
        refine lv_goto (tgt := 107) hx hb dX4_spellParts_86 (by decide) ?_
        refine lv_aload_n hx hb dX4_spellParts_107 rfl (lv_at hl 1 rfl) ?_
        refine va_get (D := D) (ci := 6) (v := .ref ab) (C := RX4) (T := TX4) (N := 1) hx hb hts (in_tb inX4) hown hK hP 0 rfl rfl 0 (by decide) (hts _ (List.mem_cons_of_mem _ tw_1_220)) (fun _ h9 => h9) rfl dX4_spellParts_108 ?_
        refine lv_iload hx hb dX4_spellParts_111 (lv_at hl 0 rfl) ?_
        refine lv_lload_n hx hb dX4_spellParts_113 rfl (lv_at hl 3 rfl) ?_
        refine spS_i (As := [.int r_10, .long x2]) (rest := [.ref ab]) C (met_X2_fieldOf vE vM hw) (va_cwS 2 hts (TB_G (TB_3 tw_4_19 tw_2_98 tw_1_19) tw_2_99) rfl rfl rfl (by decide +kernel) ⟨by decide, by decide⟩) hP hD hS rfl hl.1 rfl (Nat.le_of_ble_eq_true rfl) dX4_spellParts_114 ⟨by show (k_ + 1) ≤ 24; omega, by show 70 * (k_ + 1) ≤ 1680; omega⟩ (fun r_31 H locs hw hP hS => ?_)
        have hG : spG D cA ap ab A s σ_30 H locs := ⟨hP, hD, hS⟩
        refine spB_r (As := [.int r_31]) (rest := []) C (met_J4_append_bf812 vE vM vB hw) (cwV 1 hts (TB_G (TB_4 tw_4_4 tw_3_113 tw_3_114 tw_1_10) tw_3_115) rfl rfl rfl (by decide +kernel) ⟨by decide, by decide⟩) hP hD hS rfl hl.1 rfl (Nat.le_of_ble_eq_true rfl) dX4_spellParts_117 ⟨by show (k_ + 1) + 1 ≤ 24; omega, by show 70 * (k_ + 1) + 70 ≤ 1680; omega⟩ (fun σ_34 H locs hw hP hD hS => ?_)
        have hG : spG D cA ap ab A s σ_34 H locs := ⟨hP, hD, hS⟩
        refine W.widen (k := k_ + 2) (n := 70 * (k_ + 2)) (by omega) (by omega) ?_
        refine lv_pop hx hb dX4_spellParts_120 rfl ?_
        obtain ⟨x4_35, ex4_35⟩ : ∃ y : Int32, y = x4 + 1 := ⟨_, rfl⟩
        have hw := hw x4_35 ex4_35
        refine lv_iinc (v := x4_35) (lv' := [(4, .int x4_35), (5, .int r_10), (0, .ref ap), (1, .ref (aE e1)), (2, .long x2)]) hx hb dX4_spellParts_121 hl (k := 4) rfl (by rw [ex4_35]; rfl) (by decide) rfl (fun ls hl => ?_)
        refine lv_goto (tgt := 23) hx hb dX4_spellParts_124 (by decide) ?_
        refine W.widen (k := m_) (n := 70 * m_) (by omega) (by omega) ?_
        exact hk23 e1 x2 x4_35 σ_34 _ _ _ hG (lv_sub hl [2, 3, 4, 0] rfl) hw
    · have hw := hw.1 q_
      refine lv_aload_n hx hb dX4_spellParts_55 rfl (lv_at hl 1 rfl) ?_
      refine va_get (D := D) (ci := 6) (v := .ref ab) (C := RX4) (T := TX4) (N := 1) hx hb hts (in_tb inX4) hown hK hP 0 rfl rfl 0 (by decide) (hts _ (List.mem_cons_of_mem _ tw_1_220)) (fun _ h9 => h9) rfl dX4_spellParts_56 ?_
      refine lv_iload hx hb dX4_spellParts_59 (lv_at hl 0 rfl) ?_
      refine spB_r (As := [.int r_10]) (rest := []) C (met_J4_append_cf468 vE vM vB hw) (cwV 1 hts (TB_G (TB_4 tw_3_226 tw_3_227 tw_3_228 tw_1_10) tw_3_229) rfl rfl rfl (by decide +kernel) ⟨by decide, by decide⟩) hP hD hS rfl hl.1 rfl (Nat.le_of_ble_eq_true rfl) dX4_spellParts_61 ⟨by show k_ + 1 ≤ 24; omega, by show 70 * k_ + 70 ≤ 1680; omega⟩ (fun σ_37 H locs hw hP hD hS => ?_)
      have hG : spG D cA ap ab A s σ_37 H locs := ⟨hP, hD, hS⟩
      refine W.widen (k := k_ + 1) (n := 70 * (k_ + 1)) (by omega) (by omega) ?_
      refine lv_pop hx hb dX4_spellParts_64 rfl ?_
      refine lv_goto (tgt := 121) hx hb dX4_spellParts_65 (by decide) ?_
      obtain ⟨x4_38, ex4_38⟩ : ∃ y : Int32, y = x4 + 1 := ⟨_, rfl⟩
      have hw := hw x4_38 ex4_38
      refine lv_iinc (v := x4_38) (lv' := [(4, .int x4_38), (5, .int r_10), (0, .ref ap), (1, .ref (aE e1)), (2, .long x2)]) hx hb dX4_spellParts_121 hl (k := 4) rfl (by rw [ex4_38]; rfl) (by decide) rfl (fun ls hl => ?_)
      refine lv_goto (tgt := 23) hx hb dX4_spellParts_124 (by decide) ?_
      refine W.widen (k := m_) (n := 70 * m_) (by omega) (by omega) ?_
      exact hk23 e1 x2 x4_38 σ_37 _ _ _ hG (lv_sub hl [2, 3, 4, 0] rfl) hw
theorem kL_X4_spellParts_23 {p : Program} {l : Launch} {e : Env} {s : State} {m : MethodId} {args : Array Value} {below : List Frame} {meth : Method} {c : Code} {A : Nat → Prop} {E : EnvT} {aK aV aE : Nat → Nat} {aO : Nat} {dO dT : Nat} {D : va_G} {cA : Nat → ClassId} {ap ab : Nat} (C : spCx p s m args meth c cX4_spellParts 6 none wgX4_spellParts RX4 E D cA A) (vM : eXs aK aV aE aO E) (vB : eBs dO dT E) {post : BS → Prop} :
    ∀ (n : Nat) (k_ : Nat), k_ + n * 2 + 2 ≤ 24 → ∀ (e1 : Nat) (x2 : Int64) (x4 : Int32) (σ : BS) (H : Heap) (locs : List Loc) (ls : Array Slot), spG D cA ap ab A s σ H locs → lv_has ls 6 [(0, .ref ap), (1, .ref (aE e1)), (2, .long x2), (4, .int x4)] → wL_X4_spellParts_23 post n e1 x2 x4 σ → W p l e rm_X4_spellParts s m args below meth c H locs k_ (70 * k_) (MQ below (va_Qv post (spAt D cA ap ab A) A) args s 24 1680 A) (F0 m 23 ls []) := by
  intro n
  induction n with
  | zero => intro k_ hb_ e1 x2 x4 σ H locs ls hG hl hw; exact hw.elim
  | succ n ih =>
    intro k_ hb_
    exact kB_X4_spellParts_23 C vM vB (ih (k_ + 2) (by omega)) k_ (Nat.le_refl _) (by omega)
set_option maxHeartbeats 4000000 in
set_option maxRecDepth 100000 in
theorem k_X4_spellParts {p : Program} {l : Launch} {e : Env} {s : State} {m : MethodId} {args : Array Value} {below : List Frame} {meth : Method} {c : Code} {A : Nat → Prop} {E : EnvT} {aK aV aE : Nat → Nat} {aO : Nat} {dO dT : Nat} {D : va_G} {cA : Nat → ClassId} {ap ab : Nat} (C : spCx p s m args meth c cX4_spellParts 6 none wgX4_spellParts RX4 E D cA A) (vM : eXs aK aV aE aO E) (vB : eBs dO dT E) {post : BS → Prop} :
    ∀ (e1 : Nat) (x2 : Int64) (σ : BS) (H : Heap) (locs : List Loc) (ls : Array Slot), spG D cA ap ab A s σ H locs → lv_has ls 6 [(0, .ref ap), (1, .ref (aE e1)), (2, .long x2)] → wp_X4_spellParts post e1 x2 σ → W p l e rm_X4_spellParts s m args below meth c H locs 0 0 (MQ below (va_Qv post (spAt D cA ap ab A) A) args s 24 1680 A) (F0 m 0 ls []) := by
  obtain ⟨hx, hb, hml, hr, hown, hts, hK, hA, hlk, hE, vE⟩ := id C
  intro e1 x2 σ H locs ls hG hl hw
  obtain ⟨hP, hD, hS⟩ := id hG
  refine lv_aload_n hx hb dX4_spellParts_0 rfl (lv_at hl 1 rfl) ?_
  obtain ⟨h_1, hw⟩ := hw
  refine vk_getf hx hb (eX.o_parts (vM _ _ _ hE) h_1) hS hown (hts _ (List.mem_cons_of_mem _ tw_6_231)) (fun _ h => h) dX4_spellParts_1 ?_
  obtain ⟨h_42, hw⟩ := hw
  refine spO_i (As := []) (rest := []) C (met_J0_isEmpty_aae02 vE vM hw) (va_Orecv (eX.s_obj (vM _ _ _ hE) h_42) hS) (cwV 0 hts (TB_G (TB_4 tw_4_10 tw_4_11 tw_4_12 tw_1_11) tw_4_13) rfl rfl rfl (by decide +kernel) ⟨by decide, by decide⟩) hP hD hS rfl hl.1 rfl (Nat.le_of_ble_eq_true rfl) dX4_spellParts_4 ⟨by decide, by decide⟩ (fun r_2 H locs hw hP hS => ?_)
  have hG : spG D cA ap ab A s σ H locs := ⟨hP, hD, hS⟩
  refine lv_if_ne (tgt := 20) hx hb dX4_spellParts_7 (by decide) (fun q_ => ?_) (fun q_ => ?_)
  · have hw := hw.2 q_
    refine lv_iconst (v := 0) hx hb dX4_spellParts_20 (by decide) ?_
    refine lv_istore (lv' := [(4, .int 0), (0, .ref ap), (1, .ref (aE e1)), (2, .long x2)]) hx hb dX4_spellParts_21 hl (by decide) rfl (fun ls hl => ?_)
    obtain ⟨n_, hn_, hw⟩ := hw
    exact kL_X4_spellParts_23 C vM vB n_ 0 (by omega) e1 x2 0 σ _ _ _ hG (lv_sub hl [1, 2, 3, 0] rfl) hw
  · have hw := hw.1 q_
    refine lv_aload_n hx hb dX4_spellParts_10 rfl (lv_at hl 0 rfl) ?_
    refine va_get (D := D) (ci := 6) (v := .ref ab) (C := RX4) (T := TX4) (N := 1) hx hb hts (in_tb inX4) hown hK hP 0 rfl rfl 0 (by decide) (hts _ (List.mem_cons_of_mem _ tw_1_220)) (fun _ h9 => h9) rfl dX4_spellParts_11 ?_
    refine lv_bipush (v := 32) hx hb dX4_spellParts_14 (by decide) ?_
    refine spB_r (As := [.int 32]) (rest := []) C (met_J4_append_cf468 vE vM vB hw) (cwV 1 hts (TB_G (TB_4 tw_3_226 tw_3_227 tw_3_228 tw_1_10) tw_3_229) rfl rfl rfl (by decide +kernel) ⟨by decide, by decide⟩) hP hD hS rfl hl.1 rfl (Nat.le_of_ble_eq_true rfl) dX4_spellParts_16 ⟨by decide, by decide⟩ (fun σ_41 H locs hw hP hD hS => ?_)
    have hG : spG D cA ap ab A s σ_41 H locs := ⟨hP, hD, hS⟩
    refine lv_pop hx hb dX4_spellParts_19 rfl ?_
    refine lv_iconst (v := 0) hx hb dX4_spellParts_20 (by decide) ?_
    refine lv_istore (lv' := [(4, .int 0), (0, .ref ap), (1, .ref (aE e1)), (2, .long x2)]) hx hb dX4_spellParts_21 hl (by decide) rfl (fun ls hl => ?_)
    obtain ⟨n_, hn_, hw⟩ := hw
    exact kL_X4_spellParts_23 C vM vB n_ 1 (by omega) e1 x2 0 σ_41 _ _ _ hG (lv_sub hl [1, 2, 3, 0] rfl) hw
set_option maxHeartbeats 4000000 in
set_option maxRecDepth 100000 in
theorem met_X4_spellParts {l : Launch} {E : EnvT} (vE : EnvOk E) {D : va_G} {cA : Nat → ClassId} {ap ab : Nat} {σ : BS} {aK aV aE : Nat → Nat} {aO : Nat} {dO dT : Nat} (vM : eXs aK aV aE aO E) (vB : eBs dO dT E) {sz : Nat} {e1 : Nat} {x2 : Int64} {post : BS → Prop} (hw : wp_X4_spellParts post e1 x2 σ) : Met l yX4_spellParts wgX4_spellParts rm_X4_spellParts (va_Pc [.ref ap, .ref (aE e1), .long x2] (spPre E D cA ap ab sz σ)) (va_Qv post (spAt D cA ap ab (va_A (spW cA ap ab σ) sz)) (va_A (spW cA ap ab σ) sz)) 24 1680 (va_A (spW cA ap ab σ) sz) := by
  refine Met.ofW (cc := cX4_spellParts) (maxL := 6) (ret := none) (by decide +kernel) rfl ?_
  intro p e s m args below meth c s₁ B hml hv
  obtain ⟨rfl, hsz, hP, hK, hD0, hE⟩ := hv
  subst hsz
  have hD := hD0.self (sz := s.heap.size)
  generalize hAe : va_A (spW cA ap ab σ) s.heap.size = A at hD hE ⊢
  have hA : ∀ q : Nat, s.heap.size ≤ q → A q := fun q h => by rw [← hAe]; exact Or.inr h
  have hS : va_S A s.heap s.heap [] := va_S.rf
  have C : spCx p s m _ meth c cX4_spellParts 6 none wgX4_spellParts RX4 E D cA A := ⟨B.exec, B.bytes, hml, B.returns, findClass_of_methodNamed B.named, atoms_spec (ws := wgX4_spellParts) B.pre, hK, hA, B.notSynchronized, hE, vE⟩
  have hG : spG D cA ap ab A s σ s.heap [] := ⟨hP, hD, hS⟩
  have hl := lv_entry ([.ref ap, .ref (aE e1), .long x2]) (n := 6) (Nat.le_of_ble_eq_true rfl)
  rw [lg_entry_eq]
  generalize (lg_sl ([.ref ap, .ref (aE e1), .long x2]) ++ List.replicate (6 - (lg_sl ([.ref ap, .ref (aE e1), .long x2])).length) Slot.unset).toArray = ls at hl ⊢
  have hl : lv_has ls 6 [(0, .ref ap), (1, .ref (aE e1)), (2, .long x2)] := hl
  exact k_X4_spellParts C vM vB e1 x2 σ _ _ _ hG hl hw
/-! ===== X4_letterOf ===== -/
def rm_X4_letterOf_n : Room := { frames := 7, cells := 34, slots := 2380, locals := 184 }
abbrev wgX4_letterOf : List Cond := .code yX4_letterOf cX4_letterOf 5 (some .int) :: TB
def wp_X4_letterOf_n (post : Int32 → BS → Prop) (x2 : Int64) (x4 : Int32) (σ : BS) : Prop :=
  wp_J4_setLength_d00df (fun σ_2 => wp_J4_append_cf468 (fun σ_4 => wp_J4_append_cf468 (fun σ_6 => (x4 < 0 → (post (-1) σ_6)) ∧ (¬ x4 < 0 → (wp_J4_length_8abf5 (fun r_7 σ_8 => (r_7 ≤ x4 → (post (-1) σ_8)) ∧ (¬ r_7 ≤ x4 → (wp_J4_charAt_5068e (fun r_9 σ_10 => post r_9 σ_10) x4 σ_8))) σ_6))) 59 σ_4) 63 σ_2) 0 σ
set_option maxHeartbeats 4000000 in
set_option maxRecDepth 100000 in
theorem k_X4_letterOf_n {p : Program} {l : Launch} {e : Env} {s : State} {m : MethodId} {args : Array Value} {below : List Frame} {meth : Method} {c : Code} {A : Nat → Prop} {E : EnvT} {aK aV aE : Nat → Nat} {aO : Nat} {dO dT : Nat} {D : va_G} {cA : Nat → ClassId} {ap ab : Nat} (C : spCx p s m args meth c cX4_letterOf 5 (some .int) wgX4_letterOf RX4 E D cA A) (vM : eXs aK aV aE aO E) (vB : eBs dO dT E) {post : Int32 → BS → Prop} :
    ∀ (x2 : Int64) (x4 : Int32) (σ : BS) (H : Heap) (locs : List Loc) (ls : Array Slot), spG D cA ap ab A s σ H locs → lv_has ls 5 [(0, .ref ap), (1, .null), (2, .long x2), (4, .int x4)] → wp_X4_letterOf_n post x2 x4 σ → W p l e rm_X4_letterOf_n s m args below meth c H locs 0 0 (MQ below (va_Qi post (spAt D cA ap ab A) A) args s 34 2380 A) (F0 m 0 ls []) := by
  obtain ⟨hx, hb, hml, hr, hown, hts, hK, hA, hlk, hE, vE⟩ := id C
  intro x2 x4 σ H locs ls hG hl hw
  obtain ⟨hP, hD, hS⟩ := id hG
  refine lv_aload_n hx hb dX4_letterOf_0 rfl (lv_at hl 0 rfl) ?_
  refine va_get (D := D) (ci := 6) (v := .ref ab) (C := RX4) (T := TX4) (N := 1) hx hb hts (in_tb inX4) hown hK hP 0 rfl rfl 0 (by decide) (hts _ (List.mem_cons_of_mem _ tw_1_220)) (fun _ h9 => h9) rfl dX4_letterOf_1 ?_
  refine lv_iconst (v := 0) hx hb dX4_letterOf_4 (by decide) ?_
  refine spB_v (As := [.int 0]) (rest := []) C (met_J4_setLength_d00df vE vM vB hw) (cwV 1 hts (TB_G (TB_4 tw_2_205 tw_2_206 tw_2_207 tw_1_10) tw_2_208) rfl rfl rfl (by decide +kernel) ⟨by decide, by decide⟩) hP hD hS rfl hl.1 rfl (Nat.le_of_ble_eq_true rfl) dX4_letterOf_5 ⟨by decide, by decide⟩ (fun σ_2 H locs hw hP hD hS => ?_)
  have hG : spG D cA ap ab A s σ_2 H locs := ⟨hP, hD, hS⟩
  refine lv_aload_nN hx hb dX4_letterOf_8 rfl (lv_at hl 1 rfl) ?_
  refine lv_ifnonnullN hx hb dX4_letterOf_9 ?_
  refine lv_aload_n hx hb dX4_letterOf_12 rfl (lv_at hl 0 rfl) ?_
  refine va_get (D := D) (ci := 6) (v := .ref ab) (C := RX4) (T := TX4) (N := 1) hx hb hts (in_tb inX4) hown hK hP 0 rfl rfl 0 (by decide) (hts _ (List.mem_cons_of_mem _ tw_1_220)) (fun _ h9 => h9) rfl dX4_letterOf_13 ?_
  refine lv_bipush (v := 63) hx hb dX4_letterOf_16 (by decide) ?_
  refine spB_r (As := [.int 63]) (rest := []) C (met_J4_append_cf468 vE vM vB hw) (cwV 1 hts (TB_G (TB_4 tw_3_226 tw_3_227 tw_3_228 tw_1_10) tw_3_229) rfl rfl rfl (by decide +kernel) ⟨by decide, by decide⟩) hP hD hS rfl hl.1 rfl (Nat.le_of_ble_eq_true rfl) dX4_letterOf_18 ⟨by decide, by decide⟩ (fun σ_4 H locs hw hP hD hS => ?_)
  have hG : spG D cA ap ab A s σ_4 H locs := ⟨hP, hD, hS⟩
  refine lv_pop hx hb dX4_letterOf_21 rfl ?_
  refine lv_goto (tgt := 51) hx hb dX4_letterOf_22 (by decide) ?_
  refine lv_aload_n hx hb dX4_letterOf_51 rfl (lv_at hl 0 rfl) ?_
  refine va_get (D := D) (ci := 6) (v := .ref ab) (C := RX4) (T := TX4) (N := 1) hx hb hts (in_tb inX4) hown hK hP 0 rfl rfl 0 (by decide) (hts _ (List.mem_cons_of_mem _ tw_1_220)) (fun _ h9 => h9) rfl dX4_letterOf_52 ?_
  refine lv_bipush (v := 59) hx hb dX4_letterOf_55 (by decide) ?_
  refine spB_r (As := [.int 59]) (rest := []) C (met_J4_append_cf468 vE vM vB hw) (cwV 1 hts (TB_G (TB_4 tw_3_226 tw_3_227 tw_3_228 tw_1_10) tw_3_229) rfl rfl rfl (by decide +kernel) ⟨by decide, by decide⟩) hP hD hS rfl hl.1 rfl (Nat.le_of_ble_eq_true rfl) dX4_letterOf_57 ⟨by decide, by decide⟩ (fun σ_6 H locs hw hP hD hS => ?_)
  have hG : spG D cA ap ab A s σ_6 H locs := ⟨hP, hD, hS⟩
  refine lv_pop hx hb dX4_letterOf_60 rfl ?_
  refine lv_iload hx hb dX4_letterOf_61 (lv_at hl 3 rfl) ?_
  refine lv_if_lt (tgt := 90) hx hb dX4_letterOf_63 (by decide) (fun q_ => ?_) (fun q_ => ?_)
  · have hw := hw.1 q_
    refine lv_iconst (v := (-1)) hx hb dX4_letterOf_90 (by decide) ?_
    refine W.widen (k := 34) (n := 2380) (by decide) (by decide) ?_
    exact W.iret (v := (-1)) hx hb hr (fun t ht hW => ⟨⟨_, σ_6, rfl, hw, by rw [ht]; exact hP, va_K.moved hW.alike hK, hD⟩, hS.F ht⟩) hS.2.2 dX4_letterOf_91 hlk
  · have hw := hw.2 q_
    refine lv_iload hx hb dX4_letterOf_66 (lv_at hl 3 rfl) ?_
    refine lv_aload_n hx hb dX4_letterOf_68 rfl (lv_at hl 0 rfl) ?_
    refine va_get (D := D) (ci := 6) (v := .ref ab) (C := RX4) (T := TX4) (N := 1) hx hb hts (in_tb inX4) hown hK hP 0 rfl rfl 0 (by decide) (hts _ (List.mem_cons_of_mem _ tw_1_220)) (fun _ h9 => h9) rfl dX4_letterOf_69 ?_
    refine spB_i (As := []) (rest := [.int x4]) C (met_J4_length_8abf5 vE vM vB hw) (cwV 0 hts (TB_G (TB_4 tw_4_20 tw_3_161 tw_6_223 tw_1_10) tw_3_162) rfl rfl rfl (by decide +kernel) ⟨by decide, by decide⟩) hP hD hS rfl hl.1 rfl (Nat.le_of_ble_eq_true rfl) dX4_letterOf_72 ⟨by decide, by decide⟩ (fun r_7 σ_8 H locs hw hP hD hS => ?_)
    have hG : spG D cA ap ab A s σ_8 H locs := ⟨hP, hD, hS⟩
    refine lv_icmp_ge (tgt := 90) hx hb dX4_letterOf_75 (by decide) (fun q_ => ?_) (fun q_ => ?_)
    · have hw := hw.1 q_
      refine lv_iconst (v := (-1)) hx hb dX4_letterOf_90 (by decide) ?_
      refine W.widen (k := 34) (n := 2380) (by decide) (by decide) ?_
      exact W.iret (v := (-1)) hx hb hr (fun t ht hW => ⟨⟨_, σ_8, rfl, hw, by rw [ht]; exact hP, va_K.moved hW.alike hK, hD⟩, hS.F ht⟩) hS.2.2 dX4_letterOf_91 hlk
    · have hw := hw.2 q_
      refine lv_aload_n hx hb dX4_letterOf_78 rfl (lv_at hl 0 rfl) ?_
      refine va_get (D := D) (ci := 6) (v := .ref ab) (C := RX4) (T := TX4) (N := 1) hx hb hts (in_tb inX4) hown hK hP 0 rfl rfl 0 (by decide) (hts _ (List.mem_cons_of_mem _ tw_1_220)) (fun _ h9 => h9) rfl dX4_letterOf_79 ?_
      refine lv_iload hx hb dX4_letterOf_82 (lv_at hl 3 rfl) ?_
      refine spB_i (As := [.int x4]) (rest := []) C (met_J4_charAt_5068e vE vM vB hw) (cwV 1 hts (TB_G (TB_4 tw_4_21 tw_4_22 tw_4_23 tw_1_10) tw_4_24) rfl rfl rfl (by decide +kernel) ⟨by decide, by decide⟩) hP hD hS rfl hl.1 rfl (Nat.le_of_ble_eq_true rfl) dX4_letterOf_84 ⟨by decide, by decide⟩ (fun r_9 σ_10 H locs hw hP hD hS => ?_)
      have hG : spG D cA ap ab A s σ_10 H locs := ⟨hP, hD, hS⟩
      refine lv_goto (tgt := 91) hx hb dX4_letterOf_87 (by decide) ?_
      refine W.widen (k := 34) (n := 2380) (by decide) (by decide) ?_
      exact W.iret (v := r_9) hx hb hr (fun t ht hW => ⟨⟨_, σ_10, rfl, hw, by rw [ht]; exact hP, va_K.moved hW.alike hK, hD⟩, hS.F ht⟩) hS.2.2 dX4_letterOf_91 hlk
set_option maxHeartbeats 4000000 in
set_option maxRecDepth 100000 in
theorem met_X4_letterOf_n {l : Launch} {E : EnvT} (vE : EnvOk E) {D : va_G} {cA : Nat → ClassId} {ap ab : Nat} {σ : BS} {aK aV aE : Nat → Nat} {aO : Nat} {dO dT : Nat} (vM : eXs aK aV aE aO E) (vB : eBs dO dT E) {sz : Nat} {x2 : Int64} {x4 : Int32} {post : Int32 → BS → Prop} (hw : wp_X4_letterOf_n post x2 x4 σ) : Met l yX4_letterOf wgX4_letterOf rm_X4_letterOf_n (va_Pc [.ref ap, .null, .long x2, .int x4] (spPre E D cA ap ab sz σ)) (va_Qi post (spAt D cA ap ab (va_A (spW cA ap ab σ) sz)) (va_A (spW cA ap ab σ) sz)) 34 2380 (va_A (spW cA ap ab σ) sz) := by
  refine Met.ofW (cc := cX4_letterOf) (maxL := 5) (ret := (some .int)) (by decide +kernel) rfl ?_
  intro p e s m args below meth c s₁ B hml hv
  obtain ⟨rfl, hsz, hP, hK, hD0, hE⟩ := hv
  subst hsz
  have hD := hD0.self (sz := s.heap.size)
  generalize hAe : va_A (spW cA ap ab σ) s.heap.size = A at hD hE ⊢
  have hA : ∀ q : Nat, s.heap.size ≤ q → A q := fun q h => by rw [← hAe]; exact Or.inr h
  have hS : va_S A s.heap s.heap [] := va_S.rf
  have C : spCx p s m _ meth c cX4_letterOf 5 (some .int) wgX4_letterOf RX4 E D cA A := ⟨B.exec, B.bytes, hml, B.returns, findClass_of_methodNamed B.named, atoms_spec (ws := wgX4_letterOf) B.pre, hK, hA, B.notSynchronized, hE, vE⟩
  have hG : spG D cA ap ab A s σ s.heap [] := ⟨hP, hD, hS⟩
  have hl := lv_entry ([.ref ap, .null, .long x2, .int x4]) (n := 5) (Nat.le_of_ble_eq_true rfl)
  rw [lg_entry_eq]
  generalize (lg_sl ([.ref ap, .null, .long x2, .int x4]) ++ List.replicate (5 - (lg_sl ([.ref ap, .null, .long x2, .int x4])).length) Slot.unset).toArray = ls at hl ⊢
  have hl : lv_has ls 5 [(0, .ref ap), (1, .null), (2, .long x2), (4, .int x4)] := hl
  exact k_X4_letterOf_n C vM vB x2 x4 σ _ _ _ hG hl hw
/-! ===== X4_letterOf ===== -/
def rm_X4_letterOf_s : Room := { frames := 8, cells := 34, slots := 2380, locals := 211 }
def wp_X4_letterOf_s (post : Int32 → BS → Prop) (e1 : Nat) (x2 : Int64) (x4 : Int32) (σ : BS) : Prop :=
  wp_J4_setLength_d00df (fun σ_2 => wp_X2_guardOf (fun r_3  => wp_X4_spellGuard (fun σ_6 => e1 < 53 ∧ (wp_J4_append_15ec4 (fun σ_9 => wp_X4_spellParts (fun σ_11 => wp_J4_append_cf468 (fun σ_13 => (x4 < 0 → (post (-1) σ_13)) ∧ (¬ x4 < 0 → (wp_J4_length_8abf5 (fun r_14 σ_15 => (r_14 ≤ x4 → (post (-1) σ_15)) ∧ (¬ r_14 ≤ x4 → (wp_J4_charAt_5068e (fun r_16 σ_17 => post r_16 σ_17) x4 σ_15))) σ_13))) 59 σ_11) e1 x2 σ_9) (txI e1) σ_6)) r_3 σ_2) x2) 0 σ
set_option maxHeartbeats 4000000 in
set_option maxRecDepth 100000 in
theorem k_X4_letterOf_s {p : Program} {l : Launch} {e : Env} {s : State} {m : MethodId} {args : Array Value} {below : List Frame} {meth : Method} {c : Code} {A : Nat → Prop} {E : EnvT} {aK aV aE : Nat → Nat} {aO : Nat} {dO dT : Nat} {D : va_G} {cA : Nat → ClassId} {ap ab : Nat} (C : spCx p s m args meth c cX4_letterOf 5 (some .int) wgX4_letterOf RX4 E D cA A) (vM : eXs aK aV aE aO E) (vB : eBs dO dT E) {post : Int32 → BS → Prop} :
    ∀ (e1 : Nat) (x2 : Int64) (x4 : Int32) (σ : BS) (H : Heap) (locs : List Loc) (ls : Array Slot), spG D cA ap ab A s σ H locs → lv_has ls 5 [(0, .ref ap), (1, .ref (aE e1)), (2, .long x2), (4, .int x4)] → wp_X4_letterOf_s post e1 x2 x4 σ → W p l e rm_X4_letterOf_s s m args below meth c H locs 0 0 (MQ below (va_Qi post (spAt D cA ap ab A) A) args s 34 2380 A) (F0 m 0 ls []) := by
  obtain ⟨hx, hb, hml, hr, hown, hts, hK, hA, hlk, hE, vE⟩ := id C
  intro e1 x2 x4 σ H locs ls hG hl hw
  obtain ⟨hP, hD, hS⟩ := id hG
  refine lv_aload_n hx hb dX4_letterOf_0 rfl (lv_at hl 0 rfl) ?_
  refine va_get (D := D) (ci := 6) (v := .ref ab) (C := RX4) (T := TX4) (N := 1) hx hb hts (in_tb inX4) hown hK hP 0 rfl rfl 0 (by decide) (hts _ (List.mem_cons_of_mem _ tw_1_220)) (fun _ h9 => h9) rfl dX4_letterOf_1 ?_
  refine lv_iconst (v := 0) hx hb dX4_letterOf_4 (by decide) ?_
  refine spB_v (As := [.int 0]) (rest := []) C (met_J4_setLength_d00df vE vM vB hw) (cwV 1 hts (TB_G (TB_4 tw_2_205 tw_2_206 tw_2_207 tw_1_10) tw_2_208) rfl rfl rfl (by decide +kernel) ⟨by decide, by decide⟩) hP hD hS rfl hl.1 rfl (Nat.le_of_ble_eq_true rfl) dX4_letterOf_5 ⟨by decide, by decide⟩ (fun σ_2 H locs hw hP hD hS => ?_)
  have hG : spG D cA ap ab A s σ_2 H locs := ⟨hP, hD, hS⟩
  refine lv_aload_n hx hb dX4_letterOf_8 rfl (lv_at hl 1 rfl) ?_
  refine lv_ifnonnull (tgt := 25) hx hb dX4_letterOf_9 (by decide) ?_
  refine lv_aload_n hx hb dX4_letterOf_25 rfl (lv_at hl 0 rfl) ?_
  refine lv_lload_n hx hb dX4_letterOf_26 rfl (lv_at hl 2 rfl) ?_
  refine spS_i (As := [.long x2]) (rest := [.ref ap]) C (met_X2_guardOf vE vM hw) (va_cwS 1 hts (TB_G (TB_3 tw_3_239 tw_2_43 tw_1_19) tw_2_44) rfl rfl rfl (by decide +kernel) ⟨by decide, by decide⟩) hP hD hS rfl hl.1 rfl (Nat.le_of_ble_eq_true rfl) dX4_letterOf_27 ⟨by decide, by decide⟩ (fun r_3 H locs hw hP hS => ?_)
  have hG : spG D cA ap ab A s σ_2 H locs := ⟨hP, hD, hS⟩
  refine spV_v (As := [.int r_3]) (rest := []) C (met_X4_spellGuard vE vM vB hw) (va_recv hK hP (ci := 6) (q0 := 0) rfl rfl) (cwV 1 hts (TB_G (TB_4 tw_4_0 tw_4_2 ts_3 tw_1_8) tw_4_3) rfl rfl rfl (by decide +kernel) ⟨by decide, by decide⟩) hP hD hS rfl hl.1 rfl (Nat.le_of_ble_eq_true rfl) dX4_letterOf_30 ⟨by decide, by decide⟩ (fun σ_6 H locs hw hP hD hS => ?_)
  have hG : spG D cA ap ab A s σ_6 H locs := ⟨hP, hD, hS⟩
  refine lv_aload_n hx hb dX4_letterOf_33 rfl (lv_at hl 0 rfl) ?_
  refine va_get (D := D) (ci := 6) (v := .ref ab) (C := RX4) (T := TX4) (N := 1) hx hb hts (in_tb inX4) hown hK hP 0 rfl rfl 0 (by decide) (hts _ (List.mem_cons_of_mem _ tw_1_220)) (fun _ h9 => h9) rfl dX4_letterOf_34 ?_
  refine lv_aload_n hx hb dX4_letterOf_37 rfl (lv_at hl 1 rfl) ?_
  obtain ⟨h_7, hw⟩ := hw
  refine vk_getf hx hb (eX.o_text (vM _ _ _ hE) h_7) hS hown (hts _ (List.mem_cons_of_mem _ tw_6_230)) (fun _ h => h) dX4_letterOf_38 ?_
  refine spB_r (As := [.ref (aK (txI e1))]) (rest := []) C (met_J4_append_15ec4 vE vM vB hw) (cwV 1 hts (TB_G (TB_4 tw_4_5 tw_3_61 tw_3_62 tw_1_10) tw_3_63) rfl rfl rfl (by decide +kernel) ⟨by decide, by decide⟩) hP hD hS rfl hl.1 rfl (Nat.le_of_ble_eq_true rfl) dX4_letterOf_41 ⟨by decide, by decide⟩ (fun σ_9 H locs hw hP hD hS => ?_)
  have hG : spG D cA ap ab A s σ_9 H locs := ⟨hP, hD, hS⟩
  refine lv_pop hx hb dX4_letterOf_44 rfl ?_
  refine lv_aload_n hx hb dX4_letterOf_45 rfl (lv_at hl 0 rfl) ?_
  refine lv_aload_n hx hb dX4_letterOf_46 rfl (lv_at hl 1 rfl) ?_
  refine lv_lload_n hx hb dX4_letterOf_47 rfl (lv_at hl 2 rfl) ?_
  refine spV_v (As := [.ref (aE e1), .long x2]) (rest := []) C (met_X4_spellParts vE vM vB hw) (va_recv hK hP (ci := 6) (q0 := 0) rfl rfl) (cwV 2 hts (TB_G (TB_4 tw_4_6 tw_4_8 ts_4 tw_1_8) tw_4_9) rfl rfl rfl (by decide +kernel) ⟨by decide, by decide⟩) hP hD hS rfl hl.1 rfl (Nat.le_of_ble_eq_true rfl) dX4_letterOf_48 ⟨by decide, by decide⟩ (fun σ_11 H locs hw hP hD hS => ?_)
  have hG : spG D cA ap ab A s σ_11 H locs := ⟨hP, hD, hS⟩
  refine lv_aload_n hx hb dX4_letterOf_51 rfl (lv_at hl 0 rfl) ?_
  refine va_get (D := D) (ci := 6) (v := .ref ab) (C := RX4) (T := TX4) (N := 1) hx hb hts (in_tb inX4) hown hK hP 0 rfl rfl 0 (by decide) (hts _ (List.mem_cons_of_mem _ tw_1_220)) (fun _ h9 => h9) rfl dX4_letterOf_52 ?_
  refine lv_bipush (v := 59) hx hb dX4_letterOf_55 (by decide) ?_
  refine spB_r (As := [.int 59]) (rest := []) C (met_J4_append_cf468 vE vM vB hw) (cwV 1 hts (TB_G (TB_4 tw_3_226 tw_3_227 tw_3_228 tw_1_10) tw_3_229) rfl rfl rfl (by decide +kernel) ⟨by decide, by decide⟩) hP hD hS rfl hl.1 rfl (Nat.le_of_ble_eq_true rfl) dX4_letterOf_57 ⟨by decide, by decide⟩ (fun σ_13 H locs hw hP hD hS => ?_)
  have hG : spG D cA ap ab A s σ_13 H locs := ⟨hP, hD, hS⟩
  refine lv_pop hx hb dX4_letterOf_60 rfl ?_
  refine lv_iload hx hb dX4_letterOf_61 (lv_at hl 3 rfl) ?_
  refine lv_if_lt (tgt := 90) hx hb dX4_letterOf_63 (by decide) (fun q_ => ?_) (fun q_ => ?_)
  · have hw := hw.1 q_
    refine lv_iconst (v := (-1)) hx hb dX4_letterOf_90 (by decide) ?_
    refine W.widen (k := 34) (n := 2380) (by decide) (by decide) ?_
    exact W.iret (v := (-1)) hx hb hr (fun t ht hW => ⟨⟨_, σ_13, rfl, hw, by rw [ht]; exact hP, va_K.moved hW.alike hK, hD⟩, hS.F ht⟩) hS.2.2 dX4_letterOf_91 hlk
  · have hw := hw.2 q_
    refine lv_iload hx hb dX4_letterOf_66 (lv_at hl 3 rfl) ?_
    refine lv_aload_n hx hb dX4_letterOf_68 rfl (lv_at hl 0 rfl) ?_
    refine va_get (D := D) (ci := 6) (v := .ref ab) (C := RX4) (T := TX4) (N := 1) hx hb hts (in_tb inX4) hown hK hP 0 rfl rfl 0 (by decide) (hts _ (List.mem_cons_of_mem _ tw_1_220)) (fun _ h9 => h9) rfl dX4_letterOf_69 ?_
    refine spB_i (As := []) (rest := [.int x4]) C (met_J4_length_8abf5 vE vM vB hw) (cwV 0 hts (TB_G (TB_4 tw_4_20 tw_3_161 tw_6_223 tw_1_10) tw_3_162) rfl rfl rfl (by decide +kernel) ⟨by decide, by decide⟩) hP hD hS rfl hl.1 rfl (Nat.le_of_ble_eq_true rfl) dX4_letterOf_72 ⟨by decide, by decide⟩ (fun r_14 σ_15 H locs hw hP hD hS => ?_)
    have hG : spG D cA ap ab A s σ_15 H locs := ⟨hP, hD, hS⟩
    refine lv_icmp_ge (tgt := 90) hx hb dX4_letterOf_75 (by decide) (fun q_ => ?_) (fun q_ => ?_)
    · have hw := hw.1 q_
      refine lv_iconst (v := (-1)) hx hb dX4_letterOf_90 (by decide) ?_
      refine W.widen (k := 34) (n := 2380) (by decide) (by decide) ?_
      exact W.iret (v := (-1)) hx hb hr (fun t ht hW => ⟨⟨_, σ_15, rfl, hw, by rw [ht]; exact hP, va_K.moved hW.alike hK, hD⟩, hS.F ht⟩) hS.2.2 dX4_letterOf_91 hlk
    · have hw := hw.2 q_
      refine lv_aload_n hx hb dX4_letterOf_78 rfl (lv_at hl 0 rfl) ?_
      refine va_get (D := D) (ci := 6) (v := .ref ab) (C := RX4) (T := TX4) (N := 1) hx hb hts (in_tb inX4) hown hK hP 0 rfl rfl 0 (by decide) (hts _ (List.mem_cons_of_mem _ tw_1_220)) (fun _ h9 => h9) rfl dX4_letterOf_79 ?_
      refine lv_iload hx hb dX4_letterOf_82 (lv_at hl 3 rfl) ?_
      refine spB_i (As := [.int x4]) (rest := []) C (met_J4_charAt_5068e vE vM vB hw) (cwV 1 hts (TB_G (TB_4 tw_4_21 tw_4_22 tw_4_23 tw_1_10) tw_4_24) rfl rfl rfl (by decide +kernel) ⟨by decide, by decide⟩) hP hD hS rfl hl.1 rfl (Nat.le_of_ble_eq_true rfl) dX4_letterOf_84 ⟨by decide, by decide⟩ (fun r_16 σ_17 H locs hw hP hD hS => ?_)
      have hG : spG D cA ap ab A s σ_17 H locs := ⟨hP, hD, hS⟩
      refine lv_goto (tgt := 91) hx hb dX4_letterOf_87 (by decide) ?_
      refine W.widen (k := 34) (n := 2380) (by decide) (by decide) ?_
      exact W.iret (v := r_16) hx hb hr (fun t ht hW => ⟨⟨_, σ_17, rfl, hw, by rw [ht]; exact hP, va_K.moved hW.alike hK, hD⟩, hS.F ht⟩) hS.2.2 dX4_letterOf_91 hlk
set_option maxHeartbeats 4000000 in
set_option maxRecDepth 100000 in
theorem met_X4_letterOf_s {l : Launch} {E : EnvT} (vE : EnvOk E) {D : va_G} {cA : Nat → ClassId} {ap ab : Nat} {σ : BS} {aK aV aE : Nat → Nat} {aO : Nat} {dO dT : Nat} (vM : eXs aK aV aE aO E) (vB : eBs dO dT E) {sz : Nat} {e1 : Nat} {x2 : Int64} {x4 : Int32} {post : Int32 → BS → Prop} (hw : wp_X4_letterOf_s post e1 x2 x4 σ) : Met l yX4_letterOf wgX4_letterOf rm_X4_letterOf_s (va_Pc [.ref ap, .ref (aE e1), .long x2, .int x4] (spPre E D cA ap ab sz σ)) (va_Qi post (spAt D cA ap ab (va_A (spW cA ap ab σ) sz)) (va_A (spW cA ap ab σ) sz)) 34 2380 (va_A (spW cA ap ab σ) sz) := by
  refine Met.ofW (cc := cX4_letterOf) (maxL := 5) (ret := (some .int)) (by decide +kernel) rfl ?_
  intro p e s m args below meth c s₁ B hml hv
  obtain ⟨rfl, hsz, hP, hK, hD0, hE⟩ := hv
  subst hsz
  have hD := hD0.self (sz := s.heap.size)
  generalize hAe : va_A (spW cA ap ab σ) s.heap.size = A at hD hE ⊢
  have hA : ∀ q : Nat, s.heap.size ≤ q → A q := fun q h => by rw [← hAe]; exact Or.inr h
  have hS : va_S A s.heap s.heap [] := va_S.rf
  have C : spCx p s m _ meth c cX4_letterOf 5 (some .int) wgX4_letterOf RX4 E D cA A := ⟨B.exec, B.bytes, hml, B.returns, findClass_of_methodNamed B.named, atoms_spec (ws := wgX4_letterOf) B.pre, hK, hA, B.notSynchronized, hE, vE⟩
  have hG : spG D cA ap ab A s σ s.heap [] := ⟨hP, hD, hS⟩
  have hl := lv_entry ([.ref ap, .ref (aE e1), .long x2, .int x4]) (n := 5) (Nat.le_of_ble_eq_true rfl)
  rw [lg_entry_eq]
  generalize (lg_sl ([.ref ap, .ref (aE e1), .long x2, .int x4]) ++ List.replicate (5 - (lg_sl ([.ref ap, .ref (aE e1), .long x2, .int x4])).length) Slot.unset).toArray = ls at hl ⊢
  have hl : lv_has ls 5 [(0, .ref ap), (1, .ref (aE e1)), (2, .long x2), (4, .int x4)] := hl
  exact k_X4_letterOf_s C vM vB e1 x2 x4 σ _ _ _ hG hl hw
