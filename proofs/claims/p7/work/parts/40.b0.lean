/-! the speller's builder: its world (printed by wip/tools/mkb.py) -/
abbrev BS : Type := (Nat → Int32) × (Nat → Nat → Int32) × (Nat → Nat)
def zI (σ : BS) (k : Nat) : Int32 := σ.1 k
def jI (σ : BS) (k : Nat) (v : Int32) : BS := (upd σ.1 k v, σ.2.1, σ.2.2)
def zA (σ : BS) (k : Nat) (i : Nat) : Int32 := σ.2.1 k i
def jA (σ : BS) (k : Nat) (i : Nat) (v : Int32) : BS := (σ.1, (fun j => if j = k then upd (σ.2.1 k) i v else σ.2.1 j), σ.2.2)
def jAs (σ : BS) (k : Nat) (f : Nat → Int32) : BS := (σ.1, (fun j => if j = k then f else σ.2.1 j), σ.2.2)
def zN (σ : BS) (k : Nat) : Nat := σ.2.2 k
def jN (σ : BS) (k : Nat) (v : Nat) : BS := (σ.1, σ.2.1, va_up σ.2.2 k v)
def zW (cA : Nat → ClassId) (ab : Nat) (σ : BS) : va_W := [(ab, .inr (1, [.ref (zN σ 0), .int 0, .int (zI σ 0), .int (zI σ 1)])), (zN σ 0, .inl (cA 4, (zN σ 1), .inl (zA σ 0)))]
def zT (cA : Nat → ClassId) : List (ClassId × FieldType) := [(cA 0, .int), (cA 1, .long), (cA 2, .char), (cA 3, .object "KernelText$Op"), (cA 4, .byte)]
abbrev zPre (E : EnvT) (D : va_G) (cA : Nat → ClassId) (ab : Nat) (sz : Nat) (σ : BS) (U : State) : Prop := U.heap.size = sz ∧ va_P D vwCl (zW cA ab σ) U.heap ∧ va_K D vwCl (zT cA) U ∧ va_D (fun _ => True) (zW cA ab σ) ∧ E (va_A (zW cA ab σ) sz) U U.heap
abbrev zAt (D : va_G) (cA : Nat → ClassId) (ab : Nat) (A : Nat → Prop) (σ : BS) (t : State) : Prop := va_P D vwCl (zW cA ab σ) t.heap ∧ va_K D vwCl (zT cA) t ∧ va_D A (zW cA ab σ)
abbrev zG (D : va_G) (cA : Nat → ClassId) (ab : Nat) (A : Nat → Prop) (s : State) (σ : BS) (H : Heap) (locs : List Loc) : Prop := va_P D vwCl (zW cA ab σ) H ∧ va_D A (zW cA ab σ) ∧ va_S A s.heap H locs
theorem zPre.blind {E : EnvT} (vE : EnvOk E) {D : va_G} {cA : Nat → ClassId} {ab : Nat} {sz : Nat} {σ : BS} {av : List Value} : FrameBlind (va_Pc av (zPre E D cA ab sz σ)) := fun a U g mk q => by
  obtain ⟨q0, q1, qP, qK, qD, qE⟩ := q
  exact ⟨q0, q1, qP, va_K.moved (u := U) (U := U.calling g mk a) (Vm.Alike.refl U.vm) qK, qD, vE.1 _ U (U.calling g mk a) _ (State.WarmedH.refl U) qE⟩
def zCx (p : Program) (s : State) (m : MethodId) (args : Array Value) (meth : Method) (c : Code) (cc : ByteArray) (nL : Nat) (rt : Option FieldType) (Ts : List Cond) (own : String) (E : EnvT) (D : va_G) (cA : Nat → ClassId) (A : Nat → Prop) : Prop :=
  p.tables.exec = Jvm.exec ∧ c.code = cc ∧ c.maxLocals = nL ∧ meth.sig.returnType = rt ∧ s.vm.findClass own = some m.cls ∧ (∀ w ∈ Ts, w.before args s = true) ∧ va_K D vwCl (zT cA) s ∧ (∀ q : Nat, s.heap.size ≤ q → A q) ∧ meth.locks = false ∧ E A s s.heap ∧ EnvOk E
section WCz
variable {p : Program} {l : Launch} {e : Env} {R : Room} {s : State} {m : MethodId} {args : Array Value} {below : List Frame} {meth : Method} {c : Code} {H : Heap} {locs : List Loc} {cells slots : Nat} {Q : State → Prop}
variable {E : EnvT} {own C : String} {D : va_G} {cA : Nat → ClassId} {ab : Nat} {A : Nat → Prop} {σ : BS} {y : MethodName} {bytes : ByteArray} {maxL nL n index pc a : Nat} {ret : Option FieldType} {ws : List Cond} {rm : Room} {Ts : List Cond} {cc : ByteArray} {rt : Option FieldType} {As rest st0 : List Value} {ls : Array Slot}
theorem zW.free (hD : va_D A (zW cA ab σ)) (hS : va_S A s.heap H locs) (hA : ∀ q : Nat, s.heap.size ≤ q → A q) : ∀ q, va_A (zW cA ab σ) H.size q → A q := va_free (wc := (zW cA ab σ)) hD hS hA [0, 1] rfl
theorem zW.join {σ' : BS} {H1 : Heap} (hP : va_P D vwCl (zW cA ab σ) H) (hD : va_D A (zW cA ab σ)) (hF : ∀ q, va_A (zW cA ab σ) H.size q → A q) (hk : ∀ q : Nat, q < H.size → ¬ va_A (zW cA ab σ) H.size q → H1[q]? = H[q]?) (hP1 : va_P D vwCl (zW cA ab σ') H1) (hD1 : va_D (va_A (zW cA ab σ) H.size) (zW cA ab σ')) : va_D A (zW cA ab σ') :=
  (va_join (wr := []) (wc := (zW cA ab σ)) (w1 := (zW cA ab σ')) hP hD [0, 1] [] rfl rfl (by decide) (by decide) hk hF hP1 hD1).2
theorem zV_i {post : Int32 → BS → Prop} (Cx : zCx p s m args meth c cc nL rt Ts own E D cA A)
    (hM : Met l y ws rm (va_Pc (.ref a :: As) (zPre E D cA ab H.size σ)) (va_Qi post (zAt D cA ab (va_A (zW cA ab σ) H.size)) (va_A (zW cA ab σ) H.size)) 0 0 (va_A (zW cA ab σ) H.size))
    (hrc : ∃ cell : Cell, H[a]? = some cell ∧ cell.vm.isStatics = false ∧ s.vm.findClass C = some cell.cls) (cw : CallW R s args own C index y bytes maxL ret ws rm 0 0 n) (hP : va_P D vwCl (zW cA ab σ) H) (hD : va_D A (zW cA ab σ)) (hS : va_S A s.heap H locs) (hn : As.length = n) (hsize : ls.size = nL) (hst : st0 = As.reverse ++ .ref a :: rest) (hR : (rest.map fun v => v.category).sum ≤ 8) (hdg : decode cc pc = .ok (.invokevirtual index, 3)) (hf : cells ≤ R.cells ∧ slots ≤ R.slots)
    (kk : ∀ (r : Int32) (σ' : BS) (H1 : Heap) (locs1 : List Loc), post r σ' → va_P D vwCl (zW cA ab σ') H1 → va_D A (zW cA ab σ') → va_S A s.heap H1 locs1 → W p l e R s m args below meth c H1 locs1 cells slots Q (F0 m (pc + 3) ls (.int r :: rest))) :
    W p l e R s m args below meth c H locs cells slots Q (F0 m pc ls st0) := by
  obtain ⟨hx, hb, hml, hr, hown, hts, hK, hA, hlk, hE, vE⟩ := Cx
  have hFc := zW.free hD hS hA
  refine va_calli (va_runV (As := As) (rest := rest) ⟨hx, hb, hml, hown, hts⟩ hM cw ⟨zPre.blind vE, hrc, fun U hU hW => ⟨rfl, by rw [hU], by rw [hU]; exact hP, va_K.moved hW.alike hK, hD.weaken (fun _ _ _ _ => trivial), vE.at hE hS hU hW hFc⟩⟩ rfl hn hsize hst (lv_room hR) hdg hf) hS (fun q _ h => hFc q h) hFc (fun r u t H1 locs ht hvm hw hB hz1 hk1 hS => ?_)
  obtain ⟨hP1, hK1, hD1⟩ := hB
  rw [ht] at hP1
  exact kk r u H1 locs hw hP1 (zW.join hP hD hFc hk1 hP1 hD1) hS
theorem zV_l {post : Int64 → BS → Prop} (Cx : zCx p s m args meth c cc nL rt Ts own E D cA A)
    (hM : Met l y ws rm (va_Pc (.ref a :: As) (zPre E D cA ab H.size σ)) (va_Ql post (zAt D cA ab (va_A (zW cA ab σ) H.size)) (va_A (zW cA ab σ) H.size)) 0 0 (va_A (zW cA ab σ) H.size))
    (hrc : ∃ cell : Cell, H[a]? = some cell ∧ cell.vm.isStatics = false ∧ s.vm.findClass C = some cell.cls) (cw : CallW R s args own C index y bytes maxL ret ws rm 0 0 n) (hP : va_P D vwCl (zW cA ab σ) H) (hD : va_D A (zW cA ab σ)) (hS : va_S A s.heap H locs) (hn : As.length = n) (hsize : ls.size = nL) (hst : st0 = As.reverse ++ .ref a :: rest) (hR : (rest.map fun v => v.category).sum ≤ 8) (hdg : decode cc pc = .ok (.invokevirtual index, 3)) (hf : cells ≤ R.cells ∧ slots ≤ R.slots)
    (kk : ∀ (r : Int64) (σ' : BS) (H1 : Heap) (locs1 : List Loc), post r σ' → va_P D vwCl (zW cA ab σ') H1 → va_D A (zW cA ab σ') → va_S A s.heap H1 locs1 → W p l e R s m args below meth c H1 locs1 cells slots Q (F0 m (pc + 3) ls (.long r :: rest))) :
    W p l e R s m args below meth c H locs cells slots Q (F0 m pc ls st0) := by
  obtain ⟨hx, hb, hml, hr, hown, hts, hK, hA, hlk, hE, vE⟩ := Cx
  have hFc := zW.free hD hS hA
  refine va_calll (va_runV (As := As) (rest := rest) ⟨hx, hb, hml, hown, hts⟩ hM cw ⟨zPre.blind vE, hrc, fun U hU hW => ⟨rfl, by rw [hU], by rw [hU]; exact hP, va_K.moved hW.alike hK, hD.weaken (fun _ _ _ _ => trivial), vE.at hE hS hU hW hFc⟩⟩ rfl hn hsize hst (lv_room hR) hdg hf) hS (fun q _ h => hFc q h) hFc (fun r u t H1 locs ht hvm hw hB hz1 hk1 hS => ?_)
  obtain ⟨hP1, hK1, hD1⟩ := hB
  rw [ht] at hP1
  exact kk r u H1 locs hw hP1 (zW.join hP hD hFc hk1 hP1 hD1) hS
theorem zV_v {post : BS → Prop} (Cx : zCx p s m args meth c cc nL rt Ts own E D cA A)
    (hM : Met l y ws rm (va_Pc (.ref a :: As) (zPre E D cA ab H.size σ)) (va_Qv post (zAt D cA ab (va_A (zW cA ab σ) H.size)) (va_A (zW cA ab σ) H.size)) 0 0 (va_A (zW cA ab σ) H.size))
    (hrc : ∃ cell : Cell, H[a]? = some cell ∧ cell.vm.isStatics = false ∧ s.vm.findClass C = some cell.cls) (cw : CallW R s args own C index y bytes maxL ret ws rm 0 0 n) (hP : va_P D vwCl (zW cA ab σ) H) (hD : va_D A (zW cA ab σ)) (hS : va_S A s.heap H locs) (hn : As.length = n) (hsize : ls.size = nL) (hst : st0 = As.reverse ++ .ref a :: rest) (hR : (rest.map fun v => v.category).sum ≤ 8) (hdg : decode cc pc = .ok (.invokevirtual index, 3)) (hf : cells ≤ R.cells ∧ slots ≤ R.slots)
    (kk : ∀ (σ' : BS) (H1 : Heap) (locs1 : List Loc), post σ' → va_P D vwCl (zW cA ab σ') H1 → va_D A (zW cA ab σ') → va_S A s.heap H1 locs1 → W p l e R s m args below meth c H1 locs1 cells slots Q (F0 m (pc + 3) ls (rest))) :
    W p l e R s m args below meth c H locs cells slots Q (F0 m pc ls st0) := by
  obtain ⟨hx, hb, hml, hr, hown, hts, hK, hA, hlk, hE, vE⟩ := Cx
  have hFc := zW.free hD hS hA
  refine va_callv (va_runV (As := As) (rest := rest) ⟨hx, hb, hml, hown, hts⟩ hM cw ⟨zPre.blind vE, hrc, fun U hU hW => ⟨rfl, by rw [hU], by rw [hU]; exact hP, va_K.moved hW.alike hK, hD.weaken (fun _ _ _ _ => trivial), vE.at hE hS hU hW hFc⟩⟩ rfl hn hsize hst (lv_room hR) hdg hf) hS (fun q _ h => hFc q h) hFc (fun u t H1 locs ht hvm hw hB hz1 hk1 hS => ?_)
  obtain ⟨hP1, hK1, hD1⟩ := hB
  rw [ht] at hP1
  exact kk u H1 locs hw hP1 (zW.join hP hD hFc hk1 hP1 hD1) hS
theorem zS_i {post : Int32 → Prop} (Cx : zCx p s m args meth c cc nL rt Ts own E D cA A)
    (hM : Met l y ws rm (va_Pc As (sPre E H.size)) (va_Qi (S := Unit) (fun r _ => post r) (fun _ _ => True) (va_A [] H.size)) 0 0 (va_A [] H.size))
    (cw : CallB R s args own index y bytes maxL ret ws rm 0 0 n ∧ (Cond.static y).before args s = true) (hP : va_P D vwCl (zW cA ab σ) H) (hD : va_D A (zW cA ab σ)) (hS : va_S A s.heap H locs) (hn : As.length = n) (hsize : ls.size = nL) (hst : st0 = As.reverse ++ rest) (hR : (rest.map fun v => v.category).sum ≤ 8) (hdg : decode cc pc = .ok (.invokestatic index, 3)) (hf : cells ≤ R.cells ∧ slots ≤ R.slots)
    (kk : ∀ (r : Int32) (H1 : Heap) (locs1 : List Loc), post r → va_P D vwCl (zW cA ab σ) H1 → va_S A s.heap H1 locs1 → W p l e R s m args below meth c H1 locs1 cells slots Q (F0 m (pc + 3) ls (.int r :: rest))) :
    W p l e R s m args below meth c H locs cells slots Q (F0 m pc ls st0) := by
  obtain ⟨hx, hb, hml, hr, hown, hts, hK, hA, hlk, hE, vE⟩ := Cx
  have hFc : ∀ q, va_A [] H.size q → A q := va_free (wc := []) hD hS hA [] rfl
  refine va_calli (va_runS (As := As) (rest := rest) ⟨hx, hb, hml, hown, hts⟩ hM cw ⟨sPre.blind vE, fun U hU hW => ⟨rfl, by rw [hU], vE.at hE hS hU hW hFc⟩⟩ rfl hn hsize hst (lv_room hR) hdg hf) hS (fun q _ h => hFc q h) hFc (fun r u t H1 locs ht hvm hw hB hz1 hk1 hS => ?_)
  exact kk r H1 locs hw (hP.kept (fun k q hq => hk1 q.1 (hP k q hq).lt (fun z => z.elim (fun ⟨_, _, z⟩ => by simp at z) (fun z => absurd (hP k q hq).lt (Nat.not_lt.mpr z))))) hS
theorem zO_i {post : Int32 → Prop} (Cx : zCx p s m args meth c cc nL rt Ts own E D cA A)
    (hM : Met l y ws rm (va_Pc (.ref a :: As) (sPre E H.size)) (va_Qi (S := Unit) (fun r _ => post r) (fun _ _ => True) (va_A [] H.size)) 0 0 (va_A [] H.size)) (hrc : ∃ cell : Cell, H[a]? = some cell ∧ cell.vm.isStatics = false ∧ s.vm.findClass C = some cell.cls)
    (cw : CallW R s args own C index y bytes maxL ret ws rm 0 0 n) (hP : va_P D vwCl (zW cA ab σ) H) (hD : va_D A (zW cA ab σ)) (hS : va_S A s.heap H locs) (hn : As.length = n) (hsize : ls.size = nL) (hst : st0 = As.reverse ++ .ref a :: rest) (hR : (rest.map fun v => v.category).sum ≤ 8) (hdg : decode cc pc = .ok (.invokevirtual index, 3)) (hf : cells ≤ R.cells ∧ slots ≤ R.slots)
    (kk : ∀ (r : Int32) (H1 : Heap) (locs1 : List Loc), post r → va_P D vwCl (zW cA ab σ) H1 → va_S A s.heap H1 locs1 → W p l e R s m args below meth c H1 locs1 cells slots Q (F0 m (pc + 3) ls (.int r :: rest))) :
    W p l e R s m args below meth c H locs cells slots Q (F0 m pc ls st0) := by
  obtain ⟨hx, hb, hml, hr, hown, hts, hK, hA, hlk, hE, vE⟩ := Cx
  have hFc : ∀ q, va_A [] H.size q → A q := va_free (wc := []) hD hS hA [] rfl
  refine va_calli (va_runV (As := As) (rest := rest) ⟨hx, hb, hml, hown, hts⟩ hM cw ⟨sPre.blind vE, hrc, fun U hU hW => ⟨rfl, by rw [hU], vE.at hE hS hU hW hFc⟩⟩ rfl hn hsize hst (lv_room hR) hdg hf) hS (fun q _ h => hFc q h) hFc (fun r u t H1 locs ht hvm hw hB hz1 hk1 hS => ?_)
  exact kk r H1 locs hw (hP.kept (fun k q hq => hk1 q.1 (hP k q hq).lt (fun z => z.elim (fun ⟨_, _, z⟩ => by simp at z) (fun z => absurd (hP k q hq).lt (Nat.not_lt.mpr z))))) hS
theorem zS_l {post : Int64 → Prop} (Cx : zCx p s m args meth c cc nL rt Ts own E D cA A)
    (hM : Met l y ws rm (va_Pc As (sPre E H.size)) (va_Ql (S := Unit) (fun r _ => post r) (fun _ _ => True) (va_A [] H.size)) 0 0 (va_A [] H.size))
    (cw : CallB R s args own index y bytes maxL ret ws rm 0 0 n ∧ (Cond.static y).before args s = true) (hP : va_P D vwCl (zW cA ab σ) H) (hD : va_D A (zW cA ab σ)) (hS : va_S A s.heap H locs) (hn : As.length = n) (hsize : ls.size = nL) (hst : st0 = As.reverse ++ rest) (hR : (rest.map fun v => v.category).sum ≤ 8) (hdg : decode cc pc = .ok (.invokestatic index, 3)) (hf : cells ≤ R.cells ∧ slots ≤ R.slots)
    (kk : ∀ (r : Int64) (H1 : Heap) (locs1 : List Loc), post r → va_P D vwCl (zW cA ab σ) H1 → va_S A s.heap H1 locs1 → W p l e R s m args below meth c H1 locs1 cells slots Q (F0 m (pc + 3) ls (.long r :: rest))) :
    W p l e R s m args below meth c H locs cells slots Q (F0 m pc ls st0) := by
  obtain ⟨hx, hb, hml, hr, hown, hts, hK, hA, hlk, hE, vE⟩ := Cx
  have hFc : ∀ q, va_A [] H.size q → A q := va_free (wc := []) hD hS hA [] rfl
  refine va_calll (va_runS (As := As) (rest := rest) ⟨hx, hb, hml, hown, hts⟩ hM cw ⟨sPre.blind vE, fun U hU hW => ⟨rfl, by rw [hU], vE.at hE hS hU hW hFc⟩⟩ rfl hn hsize hst (lv_room hR) hdg hf) hS (fun q _ h => hFc q h) hFc (fun r u t H1 locs ht hvm hw hB hz1 hk1 hS => ?_)
  exact kk r H1 locs hw (hP.kept (fun k q hq => hk1 q.1 (hP k q hq).lt (fun z => z.elim (fun ⟨_, _, z⟩ => by simp at z) (fun z => absurd (hP k q hq).lt (Nat.not_lt.mpr z))))) hS
theorem zO_l {post : Int64 → Prop} (Cx : zCx p s m args meth c cc nL rt Ts own E D cA A)
    (hM : Met l y ws rm (va_Pc (.ref a :: As) (sPre E H.size)) (va_Ql (S := Unit) (fun r _ => post r) (fun _ _ => True) (va_A [] H.size)) 0 0 (va_A [] H.size)) (hrc : ∃ cell : Cell, H[a]? = some cell ∧ cell.vm.isStatics = false ∧ s.vm.findClass C = some cell.cls)
    (cw : CallW R s args own C index y bytes maxL ret ws rm 0 0 n) (hP : va_P D vwCl (zW cA ab σ) H) (hD : va_D A (zW cA ab σ)) (hS : va_S A s.heap H locs) (hn : As.length = n) (hsize : ls.size = nL) (hst : st0 = As.reverse ++ .ref a :: rest) (hR : (rest.map fun v => v.category).sum ≤ 8) (hdg : decode cc pc = .ok (.invokevirtual index, 3)) (hf : cells ≤ R.cells ∧ slots ≤ R.slots)
    (kk : ∀ (r : Int64) (H1 : Heap) (locs1 : List Loc), post r → va_P D vwCl (zW cA ab σ) H1 → va_S A s.heap H1 locs1 → W p l e R s m args below meth c H1 locs1 cells slots Q (F0 m (pc + 3) ls (.long r :: rest))) :
    W p l e R s m args below meth c H locs cells slots Q (F0 m pc ls st0) := by
  obtain ⟨hx, hb, hml, hr, hown, hts, hK, hA, hlk, hE, vE⟩ := Cx
  have hFc : ∀ q, va_A [] H.size q → A q := va_free (wc := []) hD hS hA [] rfl
  refine va_calll (va_runV (As := As) (rest := rest) ⟨hx, hb, hml, hown, hts⟩ hM cw ⟨sPre.blind vE, hrc, fun U hU hW => ⟨rfl, by rw [hU], vE.at hE hS hU hW hFc⟩⟩ rfl hn hsize hst (lv_room hR) hdg hf) hS (fun q _ h => hFc q h) hFc (fun r u t H1 locs ht hvm hw hB hz1 hk1 hS => ?_)
  exact kk r H1 locs hw (hP.kept (fun k q hq => hk1 q.1 (hP k q hq).lt (fun z => z.elim (fun ⟨_, _, z⟩ => by simp at z) (fun z => absurd (hP k q hq).lt (Nat.not_lt.mpr z))))) hS
end WCz
theorem zN_jA (σ : BS) (k i : Nat) (v : Int32) (j : Nat) : zN (jA σ k i v) j = zN σ j := rfl
theorem zN_jI (σ : BS) (k : Nat) (v : Int32) (j : Nat) : zN (jI σ k v) j = zN σ j := rfl
theorem zN_jAs (σ : BS) (k : Nat) (f : Nat → Int32) (j : Nat) : zN (jAs σ k f) j = zN σ j := rfl
theorem zW_at {cA : Nat → ClassId} {ab : Nat} {σ : BS} {a n : Nat} (ha : a = zN σ 0) (hn : n = zN σ 1) : (zW cA ab σ)[1]? = some (a, .inl (cA 4, n, .inl (zA σ 0))) := by
  rw [ha, hn]; rfl
theorem zW_set {cA : Nat → ClassId} {ab : Nat} {σ : BS} {a n i : Nat} {v : Int32} (ha : a = zN σ 0) (hn : n = zN σ 1) : (zW cA ab σ).set 1 (a, .inl (cA 4, n, .inl (upd (zA σ 0) i v))) = zW cA ab (jA σ 0 i v) := by
  rw [ha, hn]; rfl
theorem TB_5 {a b c d e : Cond} (ha : a ∈ TB) (hb : b ∈ TB) (hc : c ∈ TB) (hd : d ∈ TB) (he : e ∈ TB) : ∀ w ∈ ([a, b, c, d, e] : List Cond), w ∈ TB := List.forall_mem_cons.mpr ⟨ha, TB_4 hb hc hd he⟩
theorem sel_priv {C : String} {y : MethodName} {s : State} {args : Array Value} {n : Nat} (hy : y.cls ≠ "java/lang/invoke/MethodHandle" ∧ y.cls ≠ "java/lang/invoke/VarHandle")
    (hins : (Cond.instantiable C n).before args s = true) (hpriv : (Cond.privateMethod y).before args s = true) (hinst : (Cond.instanceMethod y).before args s = true)
    {y0 : MethodName} (hy0 : y0.cls = y.cls) (hinst0 : (Cond.instanceMethod y0).before args s = true) (h0 : (Cond.selects C y0 y0).before args s = true) : (Cond.selects C y y).before args s = true := by
  obtain ⟨c, k, hc, hk, -, hniab, -, -⟩ := Cond.instantiable_spec hins
  obtain ⟨mk, methM, hnamed, hmethM, -, -⟩ := Cond.instanceMethod_spec hinst
  have hfound : s.methodFound? y.cls y.name y.desc = some mk := State.methodFound?_of_named hnamed hy
  have hsel : selectMethod {} s.vm c mk = .method mk := selectMethod_private hmethM (Cond.privateMethod_at hpriv mk methM hnamed hmethM)
  obtain ⟨mk0, meth0, hn0, hm0, -, -⟩ := Cond.instanceMethod_spec hinst0
  have hf0 : s.methodFound? y0.cls y0.name y0.desc = some mk0 := State.methodFound?_of_named hn0 (by rw [hy0]; exact hy)
  have e0 : mk0.cls = mk.cls := Option.some.inj ((findClass_of_methodNamed hn0).symm.trans (by rw [hy0]; exact findClass_of_methodNamed hnamed))
  simp only [Cond.before, Cond.holds, Cond.value, hc, hf0, hn0] at h0
  simp at h0
  rw [e0] at h0
  simp only [Cond.before, Cond.holds, Cond.value, hc, hfound, hnamed, hsel, hk]
  simp
  split at h0
  · rw [Bool.and_eq_true] at h0
    exact h0.2
  · exact absurd h0 (by decide)
theorem dig_ex (g : Nat → Int32) : ∃ f : Nat → Int32, ∀ i, f i = g i := ⟨g, fun _ => rfl⟩
noncomputable def digO : Nat → Int32 := Classical.choose (dig_ex (fun i => Int32.ofNat (48 + i % 10)))
noncomputable def digT : Nat → Int32 := Classical.choose (dig_ex (fun i => Int32.ofNat (48 + i / 10)))
theorem digO_eq (i : Nat) : digO i = Int32.ofNat (48 + i % 10) := Classical.choose_spec (dig_ex (fun i => Int32.ofNat (48 + i % 10))) i
theorem digT_eq (i : Nat) : digT i = Int32.ofNat (48 + i / 10) := Classical.choose_spec (dig_ex (fun i => Int32.ofNat (48 + i / 10))) i
def eB (dO dT : Nat) (A : Nat → Prop) (U : State) (H : Heap) : Prop := va_Nw (.selects "java/lang/StringBuilder" yJ5_ensureCapacityInternal_d00df yJ5_ensureCapacityInternal_d00df) U ∧ va_Nw (.selects "java/lang/StringBuilder" yJ5_newCapacity_0f7a4 yJ5_newCapacity_0f7a4) U ∧ va_Nw (.selects "java/lang/StringBuilder" yJ5_putStringAt_47b60 yJ5_putStringAt_47b60) U ∧ va_Nw (.selects "java/lang/StringBuilder" yJ5_inflateIfNeededFor_a7421 yJ5_inflateIfNeededFor_a7421) U ∧ va_Z "java/lang/Integer" "DigitOnes" "[B" (.ref dO) A U H ∧ va_Z "java/lang/Integer" "DigitTens" "[B" (.ref dT) A U H ∧ va_T .byte dO 100 (fun j => .int (digO j)) A U H ∧ va_T .byte dT 100 (fun j => .int (digT j)) A U H
def eBs (dO dT : Nat) (E : EnvT) : Prop := ∀ A U H, E A U H → eB dO dT A U H
theorem shl0 (x : Int32) : x <<< ((0 : Int32) &&& 31) = x := by rw [show (0 : Int32) &&& 31 = 0 by decide, Int32.shiftLeft_zero]
theorem shr0 (x : Int32) : x >>> ((0 : Int32) &&& 31) = x := by rw [show (0 : Int32) &&& 31 = 0 by decide, Int32.shiftRight_zero]
/-- a private method's call, what it selects given apart -/
theorem b_cu {R : Room} {s : State} {args : Array Value} {own C : String} {index maxL mc ms : Nat} {y : MethodName} {bytes : ByteArray} {ret : Option FieldType} {Ts ws ws' : List Cond} {rm : Room} (n : Nat) (ht : ∀ w ∈ Ts, w.before args s = true) (hG : GoodIn Ts ws) (hw : ws = Cond.code y bytes maxL ret :: ws') (hrc : rm.cells = mc) (hrs : rm.slots = ms)
    (hl : (Cond.methodLink own index y).before args s = true) (hsm : (Cond.sameMethod y.cls y.cls y.name y.desc).before args s = true) (hi : (Cond.instanceMethod y).before args s = true) (hini : (Cond.initialized y.cls).before args s = true) (hsel : (Cond.selects C y y).before args s = true)
    (hd : y.cls ≠ "java/lang/invoke/MethodHandle" ∧ y.cls ≠ "java/lang/invoke/VarHandle" ∧ (parseMethodDescriptor y.desc).map (fun d => d.parameters.length) = some n) (hR : rm.frames + 1 ≤ R.frames ∧ 8 + (maxL + 11) + rm.locals ≤ R.locals) : va_CU R s args own C y.cls index y y bytes maxL ret ws rm mc ms n := by
  have hc : Cond.code y bytes maxL ret ∈ ws := by rw [hw]; exact List.mem_cons_self
  refine ⟨⟨hrc, hrs, hR.1, hR.2, pay_in ht hG, hc⟩, ht _ (hG _ hc).1, hini, ⟨hd.1, hd.2.1⟩, fun sig h => ?_, hl, hsm, va_Decl.of hi (ht _ (hG _ hc).1), hsel, hi⟩
  have h2 := hd.2.2
  rw [h] at h2
  exact (Option.some.inj h2).symm
section BC
variable {p : Program} {l : Launch} {e : Env} {R : Room} {s : State} {m : MethodId} {args : Array Value} {below : List Frame} {meth : Method} {c : Code} {H : Heap} {locs : List Loc} {cells slots mc ms : Nat} {Q : State → Prop}
variable {E : EnvT} {own owner : String} {D : va_G} {cA : Nat → ClassId} {ab : Nat} {A : Nat → Prop} {β : BS} {y : MethodName} {bytes : ByteArray} {maxL nL n index pc : Nat} {ret : Option FieldType} {ws : List Cond} {rm : Room} {Ts : List Cond} {cc : ByteArray} {rt : Option FieldType} {As rest st0 : List Value} {ls : Array Slot}
theorem bU_v {post : BS → Prop} (Cx : zCx p s m args meth c cc nL rt Ts own E D cA A)
    (hM : Met l y ws rm (va_Pc (.ref ab :: As) (zPre E D cA ab H.size β)) (va_Qv post (fun u t => zAt D cA ab (va_A (zW cA ab β) H.size) u t) (va_A (zW cA ab β) H.size)) mc ms (va_A (zW cA ab β) H.size)) (cw : va_CU R s args own "java/lang/StringBuilder" owner index y y bytes maxL ret ws rm mc ms n)
    (hP : va_P D vwCl (zW cA ab β) H) (hD : va_D A (zW cA ab β)) (hS : va_S A s.heap H locs) (hn : As.length = n) (hsize : ls.size = nL) (hst : st0 = As.reverse ++ .ref ab :: rest) (hR : (rest.map fun v => v.category).sum ≤ 8) (hdg : decode cc pc = .ok (.invokevirtual index, 3)) (hf : cells + mc ≤ R.cells ∧ slots + ms ≤ R.slots)
    (kk : ∀ (u : BS) (H1 : Heap) (locs1 : List Loc), post u → va_P D vwCl (zW cA ab u) H1 → va_D A (zW cA ab u) → va_S A s.heap H1 locs1 → W p l e R s m args below meth c H1 locs1 (cells + mc) (slots + ms) Q (F0 m (pc + 3) ls (rest))) :
    W p l e R s m args below meth c H locs cells slots Q (F0 m pc ls st0) := by
  obtain ⟨hx, hb, hml, hr, hown, hts, hK, hA, hlk, hE, vE⟩ := Cx
  have hFc : ∀ q, va_A (zW cA ab β) H.size q → A q := va_free (wc := zW cA ab β) hD hS hA [0, 1] rfl
  refine va_callv (va_runU (As := As) (rest := rest) ⟨hx, hb, hml, hown, hts⟩ hM cw ⟨zPre.blind vE, va_recv hK hP (ci := 1) (q0 := 0) rfl rfl, fun U hU hW => ⟨rfl, by rw [hU], by rw [hU]; exact hP, va_K.moved hW.alike hK, hD.weaken (fun _ _ _ _ => trivial), vE.at hE hS hU hW hFc⟩⟩ rfl hn hsize hst (lv_room hR) hdg hf) hS (fun q _ h => hFc q h) hFc (fun u t H1 locs ht hvm hw hB hz1 hk1 hS => ?_)
  obtain ⟨hP1, hK1, hD1⟩ := hB
  rw [ht] at hP1
  obtain ⟨hP, hD⟩ := va_join (wr := []) (w1 := zW cA ab u) hP hD [0, 1] [] rfl rfl (by decide) (by decide) hk1 hFc hP1 hD1
  exact kk u H1 locs hw hP hD hS
theorem bU_i {post : Int32 → BS → Prop} (Cx : zCx p s m args meth c cc nL rt Ts own E D cA A)
    (hM : Met l y ws rm (va_Pc (.ref ab :: As) (zPre E D cA ab H.size β)) (va_Qi post (fun u t => zAt D cA ab (va_A (zW cA ab β) H.size) u t) (va_A (zW cA ab β) H.size)) mc ms (va_A (zW cA ab β) H.size)) (cw : va_CU R s args own "java/lang/StringBuilder" owner index y y bytes maxL ret ws rm mc ms n)
    (hP : va_P D vwCl (zW cA ab β) H) (hD : va_D A (zW cA ab β)) (hS : va_S A s.heap H locs) (hn : As.length = n) (hsize : ls.size = nL) (hst : st0 = As.reverse ++ .ref ab :: rest) (hR : (rest.map fun v => v.category).sum ≤ 8) (hdg : decode cc pc = .ok (.invokevirtual index, 3)) (hf : cells + mc ≤ R.cells ∧ slots + ms ≤ R.slots)
    (kk : ∀ (r : Int32) (u : BS) (H1 : Heap) (locs1 : List Loc), post r u → va_P D vwCl (zW cA ab u) H1 → va_D A (zW cA ab u) → va_S A s.heap H1 locs1 → W p l e R s m args below meth c H1 locs1 (cells + mc) (slots + ms) Q (F0 m (pc + 3) ls (.int r :: rest))) :
    W p l e R s m args below meth c H locs cells slots Q (F0 m pc ls st0) := by
  obtain ⟨hx, hb, hml, hr, hown, hts, hK, hA, hlk, hE, vE⟩ := Cx
  have hFc : ∀ q, va_A (zW cA ab β) H.size q → A q := va_free (wc := zW cA ab β) hD hS hA [0, 1] rfl
  refine va_calli (va_runU (As := As) (rest := rest) ⟨hx, hb, hml, hown, hts⟩ hM cw ⟨zPre.blind vE, va_recv hK hP (ci := 1) (q0 := 0) rfl rfl, fun U hU hW => ⟨rfl, by rw [hU], by rw [hU]; exact hP, va_K.moved hW.alike hK, hD.weaken (fun _ _ _ _ => trivial), vE.at hE hS hU hW hFc⟩⟩ rfl hn hsize hst (lv_room hR) hdg hf) hS (fun q _ h => hFc q h) hFc (fun r u t H1 locs ht hvm hw hB hz1 hk1 hS => ?_)
  obtain ⟨hP1, hK1, hD1⟩ := hB
  rw [ht] at hP1
  obtain ⟨hP, hD⟩ := va_join (wr := []) (w1 := zW cA ab u) hP hD [0, 1] [] rfl rfl (by decide) (by decide) hk1 hFc hP1 hD1
  exact kk r u H1 locs hw hP hD hS
theorem bU_r {post : BS → Prop} (Cx : zCx p s m args meth c cc nL rt Ts own E D cA A)
    (hM : Met l y ws rm (va_Pc (.ref ab :: As) (zPre E D cA ab H.size β)) (va_Qr post (fun u a t => a = ab ∧ zAt D cA ab (va_A (zW cA ab β) H.size) u t) (va_A (zW cA ab β) H.size)) mc ms (va_A (zW cA ab β) H.size)) (cw : va_CU R s args own "java/lang/StringBuilder" owner index y y bytes maxL ret ws rm mc ms n)
    (hP : va_P D vwCl (zW cA ab β) H) (hD : va_D A (zW cA ab β)) (hS : va_S A s.heap H locs) (hn : As.length = n) (hsize : ls.size = nL) (hst : st0 = As.reverse ++ .ref ab :: rest) (hR : (rest.map fun v => v.category).sum ≤ 8) (hdg : decode cc pc = .ok (.invokevirtual index, 3)) (hf : cells + mc ≤ R.cells ∧ slots + ms ≤ R.slots)
    (kk : ∀ (u : BS) (H1 : Heap) (locs1 : List Loc), post u → va_P D vwCl (zW cA ab u) H1 → va_D A (zW cA ab u) → va_S A s.heap H1 locs1 → W p l e R s m args below meth c H1 locs1 (cells + mc) (slots + ms) Q (F0 m (pc + 3) ls (.ref ab :: rest))) :
    W p l e R s m args below meth c H locs cells slots Q (F0 m pc ls st0) := by
  obtain ⟨hx, hb, hml, hr, hown, hts, hK, hA, hlk, hE, vE⟩ := Cx
  have hFc : ∀ q, va_A (zW cA ab β) H.size q → A q := va_free (wc := zW cA ab β) hD hS hA [0, 1] rfl
  refine va_callr (va_runU (As := As) (rest := rest) ⟨hx, hb, hml, hown, hts⟩ hM cw ⟨zPre.blind vE, va_recv hK hP (ci := 1) (q0 := 0) rfl rfl, fun U hU hW => ⟨rfl, by rw [hU], by rw [hU]; exact hP, va_K.moved hW.alike hK, hD.weaken (fun _ _ _ _ => trivial), vE.at hE hS hU hW hFc⟩⟩ rfl hn hsize hst (lv_room hR) hdg hf) hS (fun q _ h => hFc q h) hFc (fun u ra t H1 locs ht hvm hw hB hz1 hk1 hS => ?_)
  obtain ⟨hra, hP1, hK1, hD1⟩ := hB
  rw [ht] at hP1
  obtain ⟨hP, hD⟩ := va_join (wr := []) (w1 := zW cA ab u) hP hD [0, 1] [] rfl rfl (by decide) (by decide) hk1 hFc hP1 hD1
  rw [hra]
  exact kk u H1 locs hw hP hD hS
theorem bSU_v {post : BS → Prop} (Cx : zCx p s m args meth c cc nL rt Ts own E D cA A)
    (hM : Met l y ws rm (va_Pc (.ref ab :: As) (zPre E D cA ab H.size β)) (va_Qv post (fun u t => zAt D cA ab (va_A (zW cA ab β) H.size) u t) (va_A (zW cA ab β) H.size)) mc ms (va_A (zW cA ab β) H.size)) (cw : va_CS R s args own index y bytes maxL ret ws rm mc ms n)
    (hP : va_P D vwCl (zW cA ab β) H) (hD : va_D A (zW cA ab β)) (hS : va_S A s.heap H locs) (hn : As.length = n) (hsize : ls.size = nL) (hst : st0 = As.reverse ++ .ref ab :: rest) (hR : (rest.map fun v => v.category).sum ≤ 8) (hdg : decode cc pc = .ok (.invokespecial index, 3)) (hf : cells + mc ≤ R.cells ∧ slots + ms ≤ R.slots)
    (kk : ∀ (u : BS) (H1 : Heap) (locs1 : List Loc), post u → va_P D vwCl (zW cA ab u) H1 → va_D A (zW cA ab u) → va_S A s.heap H1 locs1 → W p l e R s m args below meth c H1 locs1 (cells + mc) (slots + ms) Q (F0 m (pc + 3) ls (rest))) :
    W p l e R s m args below meth c H locs cells slots Q (F0 m pc ls st0) := by
  obtain ⟨hx, hb, hml, hr, hown, hts, hK, hA, hlk, hE, vE⟩ := Cx
  have hFc : ∀ q, va_A (zW cA ab β) H.size q → A q := va_free (wc := zW cA ab β) hD hS hA [0, 1] rfl
  refine va_callv (va_runSU (hK.1 1 _ rfl).2 (As := As) (rest := rest) ⟨hx, hb, hml, hown, hts⟩ hM cw ⟨zPre.blind vE, va_recv hK hP (ci := 1) (q0 := 0) rfl rfl, fun U hU hW => ⟨rfl, by rw [hU], by rw [hU]; exact hP, va_K.moved hW.alike hK, hD.weaken (fun _ _ _ _ => trivial), vE.at hE hS hU hW hFc⟩⟩ rfl hn hsize hst (lv_room hR) hdg hf) hS (fun q _ h => hFc q h) hFc (fun u t H1 locs ht hvm hw hB hz1 hk1 hS => ?_)
  obtain ⟨hP1, hK1, hD1⟩ := hB
  rw [ht] at hP1
  obtain ⟨hP, hD⟩ := va_join (wr := []) (w1 := zW cA ab u) hP hD [0, 1] [] rfl rfl (by decide) (by decide) hk1 hFc hP1 hD1
  exact kk u H1 locs hw hP hD hS
theorem bSU_i {post : Int32 → BS → Prop} (Cx : zCx p s m args meth c cc nL rt Ts own E D cA A)
    (hM : Met l y ws rm (va_Pc (.ref ab :: As) (zPre E D cA ab H.size β)) (va_Qi post (fun u t => zAt D cA ab (va_A (zW cA ab β) H.size) u t) (va_A (zW cA ab β) H.size)) mc ms (va_A (zW cA ab β) H.size)) (cw : va_CS R s args own index y bytes maxL ret ws rm mc ms n)
    (hP : va_P D vwCl (zW cA ab β) H) (hD : va_D A (zW cA ab β)) (hS : va_S A s.heap H locs) (hn : As.length = n) (hsize : ls.size = nL) (hst : st0 = As.reverse ++ .ref ab :: rest) (hR : (rest.map fun v => v.category).sum ≤ 8) (hdg : decode cc pc = .ok (.invokespecial index, 3)) (hf : cells + mc ≤ R.cells ∧ slots + ms ≤ R.slots)
    (kk : ∀ (r : Int32) (u : BS) (H1 : Heap) (locs1 : List Loc), post r u → va_P D vwCl (zW cA ab u) H1 → va_D A (zW cA ab u) → va_S A s.heap H1 locs1 → W p l e R s m args below meth c H1 locs1 (cells + mc) (slots + ms) Q (F0 m (pc + 3) ls (.int r :: rest))) :
    W p l e R s m args below meth c H locs cells slots Q (F0 m pc ls st0) := by
  obtain ⟨hx, hb, hml, hr, hown, hts, hK, hA, hlk, hE, vE⟩ := Cx
  have hFc : ∀ q, va_A (zW cA ab β) H.size q → A q := va_free (wc := zW cA ab β) hD hS hA [0, 1] rfl
  refine va_calli (va_runSU (hK.1 1 _ rfl).2 (As := As) (rest := rest) ⟨hx, hb, hml, hown, hts⟩ hM cw ⟨zPre.blind vE, va_recv hK hP (ci := 1) (q0 := 0) rfl rfl, fun U hU hW => ⟨rfl, by rw [hU], by rw [hU]; exact hP, va_K.moved hW.alike hK, hD.weaken (fun _ _ _ _ => trivial), vE.at hE hS hU hW hFc⟩⟩ rfl hn hsize hst (lv_room hR) hdg hf) hS (fun q _ h => hFc q h) hFc (fun r u t H1 locs ht hvm hw hB hz1 hk1 hS => ?_)
  obtain ⟨hP1, hK1, hD1⟩ := hB
  rw [ht] at hP1
  obtain ⟨hP, hD⟩ := va_join (wr := []) (w1 := zW cA ab u) hP hD [0, 1] [] rfl rfl (by decide) (by decide) hk1 hFc hP1 hD1
  exact kk r u H1 locs hw hP hD hS
theorem bSU_r {post : BS → Prop} (Cx : zCx p s m args meth c cc nL rt Ts own E D cA A)
    (hM : Met l y ws rm (va_Pc (.ref ab :: As) (zPre E D cA ab H.size β)) (va_Qr post (fun u a t => a = ab ∧ zAt D cA ab (va_A (zW cA ab β) H.size) u t) (va_A (zW cA ab β) H.size)) mc ms (va_A (zW cA ab β) H.size)) (cw : va_CS R s args own index y bytes maxL ret ws rm mc ms n)
    (hP : va_P D vwCl (zW cA ab β) H) (hD : va_D A (zW cA ab β)) (hS : va_S A s.heap H locs) (hn : As.length = n) (hsize : ls.size = nL) (hst : st0 = As.reverse ++ .ref ab :: rest) (hR : (rest.map fun v => v.category).sum ≤ 8) (hdg : decode cc pc = .ok (.invokespecial index, 3)) (hf : cells + mc ≤ R.cells ∧ slots + ms ≤ R.slots)
    (kk : ∀ (u : BS) (H1 : Heap) (locs1 : List Loc), post u → va_P D vwCl (zW cA ab u) H1 → va_D A (zW cA ab u) → va_S A s.heap H1 locs1 → W p l e R s m args below meth c H1 locs1 (cells + mc) (slots + ms) Q (F0 m (pc + 3) ls (.ref ab :: rest))) :
    W p l e R s m args below meth c H locs cells slots Q (F0 m pc ls st0) := by
  obtain ⟨hx, hb, hml, hr, hown, hts, hK, hA, hlk, hE, vE⟩ := Cx
  have hFc : ∀ q, va_A (zW cA ab β) H.size q → A q := va_free (wc := zW cA ab β) hD hS hA [0, 1] rfl
  refine va_callr (va_runSU (hK.1 1 _ rfl).2 (As := As) (rest := rest) ⟨hx, hb, hml, hown, hts⟩ hM cw ⟨zPre.blind vE, va_recv hK hP (ci := 1) (q0 := 0) rfl rfl, fun U hU hW => ⟨rfl, by rw [hU], by rw [hU]; exact hP, va_K.moved hW.alike hK, hD.weaken (fun _ _ _ _ => trivial), vE.at hE hS hU hW hFc⟩⟩ rfl hn hsize hst (lv_room hR) hdg hf) hS (fun q _ h => hFc q h) hFc (fun u ra t H1 locs ht hvm hw hB hz1 hk1 hS => ?_)
  obtain ⟨hra, hP1, hK1, hD1⟩ := hB
  rw [ht] at hP1
  obtain ⟨hP, hD⟩ := va_join (wr := []) (w1 := zW cA ab u) hP hD [0, 1] [] rfl rfl (by decide) (by decide) hk1 hFc hP1 hD1
  rw [hra]
  exact kk u H1 locs hw hP hD hS
theorem bOV_v {C : String} {a0 : Nat} {post : BS → Prop} (Cx : zCx p s m args meth c cc nL rt Ts own E D cA A)
    (hM : Met l y ws rm (va_Pc (.ref a0 :: As) (zPre E D cA ab H.size β)) (va_Qv post (fun u t => zAt D cA ab (va_A (zW cA ab β) H.size) u t) (va_A (zW cA ab β) H.size)) mc ms (va_A (zW cA ab β) H.size)) (hrc : ∃ cell : Cell, H[a0]? = some cell ∧ cell.vm.isStatics = false ∧ s.vm.findClass C = some cell.cls) (cw : CallW R s args own C index y bytes maxL ret ws rm mc ms n)
    (hP : va_P D vwCl (zW cA ab β) H) (hD : va_D A (zW cA ab β)) (hS : va_S A s.heap H locs) (hn : As.length = n) (hsize : ls.size = nL) (hst : st0 = As.reverse ++ .ref a0 :: rest) (hR : (rest.map fun v => v.category).sum ≤ 8) (hdg : decode cc pc = .ok (.invokevirtual index, 3)) (hf : cells + mc ≤ R.cells ∧ slots + ms ≤ R.slots)
    (kk : ∀ (u : BS) (H1 : Heap) (locs1 : List Loc), post u → va_P D vwCl (zW cA ab u) H1 → va_D A (zW cA ab u) → va_S A s.heap H1 locs1 → W p l e R s m args below meth c H1 locs1 (cells + mc) (slots + ms) Q (F0 m (pc + 3) ls (rest))) :
    W p l e R s m args below meth c H locs cells slots Q (F0 m pc ls st0) := by
  obtain ⟨hx, hb, hml, hr, hown, hts, hK, hA, hlk, hE, vE⟩ := Cx
  have hFc : ∀ q, va_A (zW cA ab β) H.size q → A q := va_free (wc := zW cA ab β) hD hS hA [0, 1] rfl
  refine va_callv (va_runV (As := As) (rest := rest) ⟨hx, hb, hml, hown, hts⟩ hM cw ⟨zPre.blind vE, hrc, fun U hU hW => ⟨rfl, by rw [hU], by rw [hU]; exact hP, va_K.moved hW.alike hK, hD.weaken (fun _ _ _ _ => trivial), vE.at hE hS hU hW hFc⟩⟩ rfl hn hsize hst (lv_room hR) hdg hf) hS (fun q _ h => hFc q h) hFc (fun u t H1 locs ht hvm hw hB hz1 hk1 hS => ?_)
  obtain ⟨hP1, hK1, hD1⟩ := hB
  rw [ht] at hP1
  obtain ⟨hP, hD⟩ := va_join (wr := []) (w1 := zW cA ab u) hP hD [0, 1] [] rfl rfl (by decide) (by decide) hk1 hFc hP1 hD1
  exact kk u H1 locs hw hP hD hS
theorem bOV_i {C : String} {a0 : Nat} {post : Int32 → BS → Prop} (Cx : zCx p s m args meth c cc nL rt Ts own E D cA A)
    (hM : Met l y ws rm (va_Pc (.ref a0 :: As) (zPre E D cA ab H.size β)) (va_Qi post (fun u t => zAt D cA ab (va_A (zW cA ab β) H.size) u t) (va_A (zW cA ab β) H.size)) mc ms (va_A (zW cA ab β) H.size)) (hrc : ∃ cell : Cell, H[a0]? = some cell ∧ cell.vm.isStatics = false ∧ s.vm.findClass C = some cell.cls) (cw : CallW R s args own C index y bytes maxL ret ws rm mc ms n)
    (hP : va_P D vwCl (zW cA ab β) H) (hD : va_D A (zW cA ab β)) (hS : va_S A s.heap H locs) (hn : As.length = n) (hsize : ls.size = nL) (hst : st0 = As.reverse ++ .ref a0 :: rest) (hR : (rest.map fun v => v.category).sum ≤ 8) (hdg : decode cc pc = .ok (.invokevirtual index, 3)) (hf : cells + mc ≤ R.cells ∧ slots + ms ≤ R.slots)
    (kk : ∀ (r : Int32) (u : BS) (H1 : Heap) (locs1 : List Loc), post r u → va_P D vwCl (zW cA ab u) H1 → va_D A (zW cA ab u) → va_S A s.heap H1 locs1 → W p l e R s m args below meth c H1 locs1 (cells + mc) (slots + ms) Q (F0 m (pc + 3) ls (.int r :: rest))) :
    W p l e R s m args below meth c H locs cells slots Q (F0 m pc ls st0) := by
  obtain ⟨hx, hb, hml, hr, hown, hts, hK, hA, hlk, hE, vE⟩ := Cx
  have hFc : ∀ q, va_A (zW cA ab β) H.size q → A q := va_free (wc := zW cA ab β) hD hS hA [0, 1] rfl
  refine va_calli (va_runV (As := As) (rest := rest) ⟨hx, hb, hml, hown, hts⟩ hM cw ⟨zPre.blind vE, hrc, fun U hU hW => ⟨rfl, by rw [hU], by rw [hU]; exact hP, va_K.moved hW.alike hK, hD.weaken (fun _ _ _ _ => trivial), vE.at hE hS hU hW hFc⟩⟩ rfl hn hsize hst (lv_room hR) hdg hf) hS (fun q _ h => hFc q h) hFc (fun r u t H1 locs ht hvm hw hB hz1 hk1 hS => ?_)
  obtain ⟨hP1, hK1, hD1⟩ := hB
  rw [ht] at hP1
  obtain ⟨hP, hD⟩ := va_join (wr := []) (w1 := zW cA ab u) hP hD [0, 1] [] rfl rfl (by decide) (by decide) hk1 hFc hP1 hD1
  exact kk r u H1 locs hw hP hD hS
theorem bSW_v {post : BS → Prop} (Cx : zCx p s m args meth c cc nL rt Ts own E D cA A)
    (hM : Met l y ws rm (va_Pc As (zPre E D cA ab H.size β)) (va_Qv post (fun u t => zAt D cA ab (va_A (zW cA ab β) H.size) u t) (va_A (zW cA ab β) H.size)) mc ms (va_A (zW cA ab β) H.size)) (cw : CallB R s args own index y bytes maxL ret ws rm mc ms n ∧ (Cond.static y).before args s = true)
    (hP : va_P D vwCl (zW cA ab β) H) (hD : va_D A (zW cA ab β)) (hS : va_S A s.heap H locs) (hn : As.length = n) (hsize : ls.size = nL) (hst : st0 = As.reverse ++ rest) (hR : (rest.map fun v => v.category).sum ≤ 8) (hdg : decode cc pc = .ok (.invokestatic index, 3)) (hf : cells + mc ≤ R.cells ∧ slots + ms ≤ R.slots)
    (kk : ∀ (u : BS) (H1 : Heap) (locs1 : List Loc), post u → va_P D vwCl (zW cA ab u) H1 → va_D A (zW cA ab u) → va_S A s.heap H1 locs1 → W p l e R s m args below meth c H1 locs1 (cells + mc) (slots + ms) Q (F0 m (pc + 3) ls (rest))) :
    W p l e R s m args below meth c H locs cells slots Q (F0 m pc ls st0) := by
  obtain ⟨hx, hb, hml, hr, hown, hts, hK, hA, hlk, hE, vE⟩ := Cx
  have hFc : ∀ q, va_A (zW cA ab β) H.size q → A q := va_free (wc := zW cA ab β) hD hS hA [0, 1] rfl
  refine va_callv (va_runS (As := As) (rest := rest) ⟨hx, hb, hml, hown, hts⟩ hM cw ⟨zPre.blind vE, fun U hU hW => ⟨rfl, by rw [hU], by rw [hU]; exact hP, va_K.moved hW.alike hK, hD.weaken (fun _ _ _ _ => trivial), vE.at hE hS hU hW hFc⟩⟩ rfl hn hsize hst (lv_room hR) hdg hf) hS (fun q _ h => hFc q h) hFc (fun u t H1 locs ht hvm hw hB hz1 hk1 hS => ?_)
  obtain ⟨hP1, hK1, hD1⟩ := hB
  rw [ht] at hP1
  obtain ⟨hP, hD⟩ := va_join (wr := []) (w1 := zW cA ab u) hP hD [0, 1] [] rfl rfl (by decide) (by decide) hk1 hFc hP1 hD1
  exact kk u H1 locs hw hP hD hS
theorem bSW_i {post : Int32 → BS → Prop} (Cx : zCx p s m args meth c cc nL rt Ts own E D cA A)
    (hM : Met l y ws rm (va_Pc As (zPre E D cA ab H.size β)) (va_Qi post (fun u t => zAt D cA ab (va_A (zW cA ab β) H.size) u t) (va_A (zW cA ab β) H.size)) mc ms (va_A (zW cA ab β) H.size)) (cw : CallB R s args own index y bytes maxL ret ws rm mc ms n ∧ (Cond.static y).before args s = true)
    (hP : va_P D vwCl (zW cA ab β) H) (hD : va_D A (zW cA ab β)) (hS : va_S A s.heap H locs) (hn : As.length = n) (hsize : ls.size = nL) (hst : st0 = As.reverse ++ rest) (hR : (rest.map fun v => v.category).sum ≤ 8) (hdg : decode cc pc = .ok (.invokestatic index, 3)) (hf : cells + mc ≤ R.cells ∧ slots + ms ≤ R.slots)
    (kk : ∀ (r : Int32) (u : BS) (H1 : Heap) (locs1 : List Loc), post r u → va_P D vwCl (zW cA ab u) H1 → va_D A (zW cA ab u) → va_S A s.heap H1 locs1 → W p l e R s m args below meth c H1 locs1 (cells + mc) (slots + ms) Q (F0 m (pc + 3) ls (.int r :: rest))) :
    W p l e R s m args below meth c H locs cells slots Q (F0 m pc ls st0) := by
  obtain ⟨hx, hb, hml, hr, hown, hts, hK, hA, hlk, hE, vE⟩ := Cx
  have hFc : ∀ q, va_A (zW cA ab β) H.size q → A q := va_free (wc := zW cA ab β) hD hS hA [0, 1] rfl
  refine va_calli (va_runS (As := As) (rest := rest) ⟨hx, hb, hml, hown, hts⟩ hM cw ⟨zPre.blind vE, fun U hU hW => ⟨rfl, by rw [hU], by rw [hU]; exact hP, va_K.moved hW.alike hK, hD.weaken (fun _ _ _ _ => trivial), vE.at hE hS hU hW hFc⟩⟩ rfl hn hsize hst (lv_room hR) hdg hf) hS (fun q _ h => hFc q h) hFc (fun r u t H1 locs ht hvm hw hB hz1 hk1 hS => ?_)
  obtain ⟨hP1, hK1, hD1⟩ := hB
  rw [ht] at hP1
  obtain ⟨hP, hD⟩ := va_join (wr := []) (w1 := zW cA ab u) hP hD [0, 1] [] rfl rfl (by decide) (by decide) hk1 hFc hP1 hD1
  exact kk r u H1 locs hw hP hD hS
theorem zS_v {post : Prop} (Cx : zCx p s m args meth c cc nL rt Ts own E D cA A)
    (hM : Met l y ws rm (va_Pc As (sPre E H.size)) (va_Qv (S := Unit) (fun _ => post) (fun _ _ => True) (va_A [] H.size)) 0 0 (va_A [] H.size))
    (cw : CallB R s args own index y bytes maxL ret ws rm 0 0 n ∧ (Cond.static y).before args s = true) (hP : va_P D vwCl (zW cA ab β) H) (hD : va_D A (zW cA ab β)) (hS : va_S A s.heap H locs) (hn : As.length = n) (hsize : ls.size = nL) (hst : st0 = As.reverse ++ rest) (hR : (rest.map fun v => v.category).sum ≤ 8) (hdg : decode cc pc = .ok (.invokestatic index, 3)) (hf : cells ≤ R.cells ∧ slots ≤ R.slots)
    (kk : ∀ (H1 : Heap) (locs1 : List Loc), post → va_P D vwCl (zW cA ab β) H1 → va_S A s.heap H1 locs1 → W p l e R s m args below meth c H1 locs1 cells slots Q (F0 m (pc + 3) ls rest)) :
    W p l e R s m args below meth c H locs cells slots Q (F0 m pc ls st0) := by
  obtain ⟨hx, hb, hml, hr, hown, hts, hK, hA, hlk, hE, vE⟩ := Cx
  have hFc : ∀ q, va_A [] H.size q → A q := va_free (wc := []) hD hS hA [] rfl
  refine va_callv (va_runS (As := As) (rest := rest) ⟨hx, hb, hml, hown, hts⟩ hM cw ⟨sPre.blind vE, fun U hU hW => ⟨rfl, by rw [hU], vE.at hE hS hU hW hFc⟩⟩ rfl hn hsize hst (lv_room hR) hdg hf) hS (fun q _ h => hFc q h) hFc (fun u t H1 locs ht hvm hw hB hz1 hk1 hS => ?_)
  exact kk H1 locs hw (hP.kept (fun k q hq => hk1 q.1 (hP k q hq).lt (fun z => z.elim (fun ⟨_, _, z⟩ => by simp at z) (fun z => absurd (hP k q hq).lt (Nat.not_lt.mpr z))))) hS
end BC
