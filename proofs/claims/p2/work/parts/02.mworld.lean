/-! THE REFERENCE: its state as a value, its cells, calls over them (printed by wip/tools/mworld.py) -/
abbrev EnvT : Type := (Nat → Prop) → State → Heap → Prop
abbrev MS : Type := (Nat → Int32) × (Nat → Int64) × (Nat → Nat → Int32) × (Nat → Nat → Int64)
def mI (σ : MS) (k : Nat) : Int32 := σ.1 k
def mJ (σ : MS) (k : Nat) : Int64 := σ.2.1 k
def mA (σ : MS) (k : Nat) (i : Nat) : Int32 := σ.2.2.1 k i
def mL (σ : MS) (k : Nat) (i : Nat) : Int64 := σ.2.2.2 k i
def wI (σ : MS) (k : Nat) (v : Int32) : MS := (upd σ.1 k v, σ.2.1, σ.2.2.1, σ.2.2.2)
def wJ (σ : MS) (k : Nat) (v : Int64) : MS := (σ.1, vp_updL σ.2.1 k v, σ.2.2.1, σ.2.2.2)
def wA (σ : MS) (k : Nat) (i : Nat) (v : Int32) : MS := (σ.1, σ.2.1, (fun j => if j = k then upd (σ.2.2.1 k) i v else σ.2.2.1 j), σ.2.2.2)
def wL (σ : MS) (k : Nat) (i : Nat) (v : Int64) : MS := (σ.1, σ.2.1, σ.2.2.1, (fun j => if j = k then vp_updL (σ.2.2.2 k) i v else σ.2.2.2 j))
def mF (ad : Nat → Nat) (σ : MS) : List Value := [.int (mI σ 0), .ref (ad 1), .int (mI σ 2), .int (mI σ 3), .int (mI σ 4), .int (mI σ 5), .ref (ad 6), .ref (ad 7), .ref (ad 8), .int (mI σ 9), .ref (ad 10), .int (mI σ 11), .ref (ad 12), .int (mI σ 13), .int (mI σ 14), .ref (ad 15), .ref (ad 16), .ref (ad 17), .int (mI σ 18), .ref (ad 19), .ref (ad 20), .ref (ad 21), .ref (ad 22), .ref (ad 23), .ref (ad 24), .int (mI σ 25), .long (mJ σ 26), .int (mI σ 27), .long (mJ σ 28), .ref (ad 29), .int (mI σ 30), .ref (ad 31)]
def mW (cA : Nat → ClassId) (h : Nat) (ad : Nat → Nat) (σ : MS) : va_W := [(h, .inr (11, mF ad σ)), (ad 1, .inl (cA 0, 700, .inl (mA σ 1))), (ad 6, .inl (cA 0, 702, .inl (mA σ 6))), (ad 7, .inl (cA 0, 702, .inl (mA σ 7))), (ad 8, .inl (cA 1, 702, .inr (.inl (mL σ 8)))), (ad 10, .inl (cA 1, 64, .inr (.inl (mL σ 10)))), (ad 12, .inl (cA 1, 65, .inr (.inl (mL σ 12)))), (ad 15, .inl (cA 0, 2, .inl (mA σ 15))), (ad 16, .inl (cA 1, 800, .inr (.inl (mL σ 16)))), (ad 17, .inl (cA 1, 800, .inr (.inl (mL σ 17)))), (ad 19, .inl (cA 0, 64, .inl (mA σ 19))), (ad 20, .inl (cA 1, 64, .inr (.inl (mL σ 20)))), (ad 21, .inl (cA 0, 64, .inl (mA σ 21))), (ad 22, .inl (cA 0, 64, .inl (mA σ 22))), (ad 23, .inl (cA 2, 64, .inl (mA σ 23))), (ad 24, .inl (cA 2, 64, .inl (mA σ 24))), (ad 29, .inl (cA 0, 60, .inl (mA σ 29))), (ad 31, .inl (cA 2, 64, .inl (mA σ 31)))]
def mT (cA : Nat → ClassId) : List (ClassId × FieldType) := [(cA 0, .int), (cA 1, .long), (cA 2, .boolean)]
/-- what stands when a method of the reference is called -/
abbrev mPre (E : (Nat → Prop) → State → Heap → Prop) (D : va_G) (cA : Nat → ClassId) (h : Nat) (ad : Nat → Nat) (sz : Nat) (σ : MS) (U : State) : Prop := U.heap.size = sz ∧ va_P D vwCl (mW cA h ad σ) U.heap ∧ va_K D vwCl (mT cA) U ∧ va_D (fun _ => True) (mW cA h ad σ) ∧ E (va_A (mW cA h ad σ) sz) U U.heap
abbrev sPre (E : (Nat → Prop) → State → Heap → Prop) (sz : Nat) (U : State) : Prop := U.heap.size = sz ∧ E (va_A [] sz) U U.heap
/-- and when it is through -/
abbrev mAt (D : va_G) (cA : Nat → ClassId) (h : Nat) (ad : Nat → Nat) (A : Nat → Prop) (σ : MS) (t : State) : Prop := va_P D vwCl (mW cA h ad σ) t.heap ∧ va_K D vwCl (mT cA) t ∧ va_D A (mW cA h ad σ)
/-- what holds of constants and statics all along: it stays when tables warm up, when cells outside A stay, and for a smaller A -/
def EnvOk (E : (Nat → Prop) → State → Heap → Prop) : Prop :=
  (∀ (A : Nat → Prop) (u U : State) (H : Heap), u.WarmedH U.vm → E A u H → E A U H) ∧ (∀ (A : Nat → Prop) (U : State) (H H1 : Heap), (∀ a : Nat, a < H.size → ¬ A a → H1[a]? = H[a]?) → E A U H → E A U H1) ∧ (∀ (A B : Nat → Prop) (U : State) (H : Heap), (∀ q, B q → A q) → E A U H → E B U H)
theorem EnvOk.at {E : (Nat → Prop) → State → Heap → Prop} (vE : EnvOk E) {A B : Nat → Prop} {s U : State} {H : Heap} {locs : List Loc} (hE : E A s s.heap) (hS : va_S A s.heap H locs) (hU : U.heap = H) (hW : s.WarmedH U.vm) (hB : ∀ q, B q → A q) : E B U U.heap := by
  rw [hU]
  exact vE.2.2 _ _ _ _ hB (vE.1 _ _ _ _ hW (vE.2.1 _ _ _ _ (fun a h1 h2 => hS.2.1 a h1 h2) hE))
theorem mPre.blind {E : (Nat → Prop) → State → Heap → Prop} (vE : EnvOk E) {D : va_G} {cA : Nat → ClassId} {h : Nat} {ad : Nat → Nat} {sz : Nat} {σ : MS} {av : List Value} : FrameBlind (va_Pc av (mPre E D cA h ad sz σ)) := fun a U g mk q => by
  obtain ⟨q0, q1, qP, qK, qD, qE⟩ := q
  exact ⟨q0, q1, qP, va_K.moved (u := U) (U := U.calling g mk a) (Vm.Alike.refl U.vm) qK, qD, vE.1 _ U (U.calling g mk a) _ (State.WarmedH.refl U) qE⟩
theorem sPre.blind {E : (Nat → Prop) → State → Heap → Prop} (vE : EnvOk E) {sz : Nat} {av : List Value} : FrameBlind (va_Pc av (sPre E sz)) := fun a U g mk q => by
  obtain ⟨q0, q1, qE⟩ := q
  exact ⟨q0, q1, vE.1 _ U (U.calling g mk a) _ (State.WarmedH.refl U) qE⟩
/-- what a body of the reference stands on -/
def mCx (p : Program) (s : State) (m : MethodId) (args : Array Value) (meth : Method) (c : Code) (cc : ByteArray) (nL : Nat) (rt : Option FieldType) (Ts : List Cond) (E : (Nat → Prop) → State → Heap → Prop) (D : va_G) (cA : Nat → ClassId) (A : Nat → Prop) : Prop :=
  p.tables.exec = Jvm.exec ∧ c.code = cc ∧ c.maxLocals = nL ∧ meth.sig.returnType = rt ∧ s.vm.findClass RX9 = some m.cls ∧ (∀ w ∈ Ts, w.before args s = true) ∧ va_K D vwCl (mT cA) s ∧ (∀ q : Nat, s.heap.size ≤ q → A q) ∧ meth.locks = false ∧ E A s s.heap ∧ EnvOk E
def sCx (p : Program) (s : State) (m : MethodId) (args : Array Value) (meth : Method) (c : Code) (cc : ByteArray) (nL : Nat) (rt : Option FieldType) (Ts : List Cond) (own : String) (E : (Nat → Prop) → State → Heap → Prop) (A : Nat → Prop) : Prop :=
  p.tables.exec = Jvm.exec ∧ c.code = cc ∧ c.maxLocals = nL ∧ meth.sig.returnType = rt ∧ s.vm.findClass own = some m.cls ∧ (∀ w ∈ Ts, w.before args s = true) ∧ (∀ q : Nat, s.heap.size ≤ q → A q) ∧ meth.locks = false ∧ E A s s.heap ∧ EnvOk E
section MC
variable {p : Program} {l : Launch} {e : Env} {R : Room} {s : State} {m : MethodId} {args : Array Value} {below : List Frame} {meth : Method} {c : Code} {H : Heap} {locs : List Loc} {cells slots : Nat} {Q : State → Prop}
variable {E : (Nat → Prop) → State → Heap → Prop} {own : String} {D : va_G} {cA : Nat → ClassId} {h : Nat} {ad : Nat → Nat} {A : Nat → Prop} {σ : MS} {y : MethodName} {bytes : ByteArray} {maxL nL n index pc : Nat} {ret : Option FieldType} {ws : List Cond} {rm : Room} {Ts : List Cond} {cc : ByteArray} {rt : Option FieldType} {As rest st0 : List Value} {ls : Array Slot}
theorem mW.free (hD : va_D A (mW cA h ad σ)) (hS : va_S A s.heap H locs) (hA : ∀ q : Nat, s.heap.size ≤ q → A q) : ∀ q, va_A (mW cA h ad σ) H.size q → A q := va_free (wc := mW cA h ad σ) hD hS hA [0, 1, 2, 3, 4, 5, 6, 7, 8, 9, 10, 11, 12, 13, 14, 15, 16, 17] rfl
theorem mW.join {σ' : MS} {H1 : Heap} (hP : va_P D vwCl (mW cA h ad σ) H) (hD : va_D A (mW cA h ad σ)) (hF : ∀ q, va_A (mW cA h ad σ) H.size q → A q) (hk : ∀ q : Nat, q < H.size → ¬ va_A (mW cA h ad σ) H.size q → H1[q]? = H[q]?) (hP1 : va_P D vwCl (mW cA h ad σ') H1) (hD1 : va_D (va_A (mW cA h ad σ) H.size) (mW cA h ad σ')) : va_D A (mW cA h ad σ') :=
  (va_join (wr := []) (wc := mW cA h ad σ) (w1 := mW cA h ad σ') hP hD [0, 1, 2, 3, 4, 5, 6, 7, 8, 9, 10, 11, 12, 13, 14, 15, 16, 17] [] rfl rfl (by decide) (by decide) hk hF hP1 hD1).2

/-- a method of the reference is called on itself -/
theorem mV_i {post : Int32 → MS → Prop} (C : mCx p s m args meth c cc nL rt Ts E D cA A)
    (hM : Met l y ws rm (va_Pc (.ref h :: As) (mPre E D cA h ad H.size σ)) (va_Qi post (mAt D cA h ad (va_A (mW cA h ad σ) H.size)) (va_A (mW cA h ad σ) H.size)) 0 0 (va_A (mW cA h ad σ) H.size))
    (cw : CallW R s args RX9 RX9 index y bytes maxL ret ws rm 0 0 n) (hP : va_P D vwCl (mW cA h ad σ) H) (hD : va_D A (mW cA h ad σ)) (hS : va_S A s.heap H locs) (hn : As.length = n) (hsize : ls.size = nL) (hst : st0 = As.reverse ++ .ref h :: rest) (hR : (rest.map fun v => v.category).sum ≤ 8) (hdg : decode cc pc = .ok (.invokevirtual index, 3)) (hf : cells ≤ R.cells ∧ slots ≤ R.slots)
    (kk : ∀ (r : Int32) (σ' : MS) (H1 : Heap) (locs1 : List Loc), post r σ' → va_P D vwCl (mW cA h ad σ') H1 → va_D A (mW cA h ad σ') → va_S A s.heap H1 locs1 → W p l e R s m args below meth c H1 locs1 cells slots Q (F0 m (pc + 3) ls (.int r :: rest))) :
    W p l e R s m args below meth c H locs cells slots Q (F0 m pc ls st0) := by
  obtain ⟨hx, hb, hml, hr, hown, hts, hK, hA, hlk, hE, vE⟩ := C
  have hFc := mW.free hD hS hA
  refine va_calli (va_runV (As := As) (rest := rest) ⟨hx, hb, hml, hown, hts⟩ hM cw ⟨mPre.blind vE, va_recv hK hP (ci := 11) (q0 := 0) rfl rfl, fun U hU hW => ⟨rfl, by rw [hU], by rw [hU]; exact hP, va_K.moved hW.alike hK, hD.weaken (fun _ _ _ _ => trivial), vE.at hE hS hU hW hFc⟩⟩ rfl hn hsize hst (lv_room hR) hdg hf) hS (fun q _ h => hFc q h) hFc (fun r u t H1 locs ht hvm hw hB hz1 hk1 hS => ?_)
  obtain ⟨hP1, hK1, hD1⟩ := hB
  rw [ht] at hP1
  exact kk r u H1 locs hw hP1 (mW.join hP hD hFc hk1 hP1 hD1) hS
/-- a method of the reference is called on itself -/
theorem mV_l {post : Int64 → MS → Prop} (C : mCx p s m args meth c cc nL rt Ts E D cA A)
    (hM : Met l y ws rm (va_Pc (.ref h :: As) (mPre E D cA h ad H.size σ)) (va_Ql post (mAt D cA h ad (va_A (mW cA h ad σ) H.size)) (va_A (mW cA h ad σ) H.size)) 0 0 (va_A (mW cA h ad σ) H.size))
    (cw : CallW R s args RX9 RX9 index y bytes maxL ret ws rm 0 0 n) (hP : va_P D vwCl (mW cA h ad σ) H) (hD : va_D A (mW cA h ad σ)) (hS : va_S A s.heap H locs) (hn : As.length = n) (hsize : ls.size = nL) (hst : st0 = As.reverse ++ .ref h :: rest) (hR : (rest.map fun v => v.category).sum ≤ 8) (hdg : decode cc pc = .ok (.invokevirtual index, 3)) (hf : cells ≤ R.cells ∧ slots ≤ R.slots)
    (kk : ∀ (r : Int64) (σ' : MS) (H1 : Heap) (locs1 : List Loc), post r σ' → va_P D vwCl (mW cA h ad σ') H1 → va_D A (mW cA h ad σ') → va_S A s.heap H1 locs1 → W p l e R s m args below meth c H1 locs1 cells slots Q (F0 m (pc + 3) ls (.long r :: rest))) :
    W p l e R s m args below meth c H locs cells slots Q (F0 m pc ls st0) := by
  obtain ⟨hx, hb, hml, hr, hown, hts, hK, hA, hlk, hE, vE⟩ := C
  have hFc := mW.free hD hS hA
  refine va_calll (va_runV (As := As) (rest := rest) ⟨hx, hb, hml, hown, hts⟩ hM cw ⟨mPre.blind vE, va_recv hK hP (ci := 11) (q0 := 0) rfl rfl, fun U hU hW => ⟨rfl, by rw [hU], by rw [hU]; exact hP, va_K.moved hW.alike hK, hD.weaken (fun _ _ _ _ => trivial), vE.at hE hS hU hW hFc⟩⟩ rfl hn hsize hst (lv_room hR) hdg hf) hS (fun q _ h => hFc q h) hFc (fun r u t H1 locs ht hvm hw hB hz1 hk1 hS => ?_)
  obtain ⟨hP1, hK1, hD1⟩ := hB
  rw [ht] at hP1
  exact kk r u H1 locs hw hP1 (mW.join hP hD hFc hk1 hP1 hD1) hS
/-- a method of the reference is called on itself -/
theorem mV_v {post : MS → Prop} (C : mCx p s m args meth c cc nL rt Ts E D cA A)
    (hM : Met l y ws rm (va_Pc (.ref h :: As) (mPre E D cA h ad H.size σ)) (va_Qv post (mAt D cA h ad (va_A (mW cA h ad σ) H.size)) (va_A (mW cA h ad σ) H.size)) 0 0 (va_A (mW cA h ad σ) H.size))
    (cw : CallW R s args RX9 RX9 index y bytes maxL ret ws rm 0 0 n) (hP : va_P D vwCl (mW cA h ad σ) H) (hD : va_D A (mW cA h ad σ)) (hS : va_S A s.heap H locs) (hn : As.length = n) (hsize : ls.size = nL) (hst : st0 = As.reverse ++ .ref h :: rest) (hR : (rest.map fun v => v.category).sum ≤ 8) (hdg : decode cc pc = .ok (.invokevirtual index, 3)) (hf : cells ≤ R.cells ∧ slots ≤ R.slots)
    (kk : ∀ (σ' : MS) (H1 : Heap) (locs1 : List Loc), post σ' → va_P D vwCl (mW cA h ad σ') H1 → va_D A (mW cA h ad σ') → va_S A s.heap H1 locs1 → W p l e R s m args below meth c H1 locs1 cells slots Q (F0 m (pc + 3) ls (rest))) :
    W p l e R s m args below meth c H locs cells slots Q (F0 m pc ls st0) := by
  obtain ⟨hx, hb, hml, hr, hown, hts, hK, hA, hlk, hE, vE⟩ := C
  have hFc := mW.free hD hS hA
  refine va_callv (va_runV (As := As) (rest := rest) ⟨hx, hb, hml, hown, hts⟩ hM cw ⟨mPre.blind vE, va_recv hK hP (ci := 11) (q0 := 0) rfl rfl, fun U hU hW => ⟨rfl, by rw [hU], by rw [hU]; exact hP, va_K.moved hW.alike hK, hD.weaken (fun _ _ _ _ => trivial), vE.at hE hS hU hW hFc⟩⟩ rfl hn hsize hst (lv_room hR) hdg hf) hS (fun q _ h => hFc q h) hFc (fun u t H1 locs ht hvm hw hB hz1 hk1 hS => ?_)
  obtain ⟨hP1, hK1, hD1⟩ := hB
  rw [ht] at hP1
  exact kk u H1 locs hw hP1 (mW.join hP hD hFc hk1 hP1 hD1) hS
/-- a static method is called that touches nothing -/
theorem mS_i {post : Int32 → Prop} (C : mCx p s m args meth c cc nL rt Ts E D cA A)
    (hM : Met l y ws rm (va_Pc As (sPre E H.size)) (va_Qi (S := Unit) (fun r _ => post r) (fun _ _ => True) (va_A [] H.size)) 0 0 (va_A [] H.size))
    (cw : CallB R s args RX9 index y bytes maxL ret ws rm 0 0 n ∧ (Cond.static y).before args s = true) (hP : va_P D vwCl (mW cA h ad σ) H) (hD : va_D A (mW cA h ad σ)) (hS : va_S A s.heap H locs) (hn : As.length = n) (hsize : ls.size = nL) (hst : st0 = As.reverse ++ rest) (hR : (rest.map fun v => v.category).sum ≤ 8) (hdg : decode cc pc = .ok (.invokestatic index, 3)) (hf : cells ≤ R.cells ∧ slots ≤ R.slots)
    (kk : ∀ (r : Int32) (H1 : Heap) (locs1 : List Loc), post r → va_P D vwCl (mW cA h ad σ) H1 → va_S A s.heap H1 locs1 → W p l e R s m args below meth c H1 locs1 cells slots Q (F0 m (pc + 3) ls (.int r :: rest))) :
    W p l e R s m args below meth c H locs cells slots Q (F0 m pc ls st0) := by
  obtain ⟨hx, hb, hml, hr, hown, hts, hK, hA, hlk, hE, vE⟩ := C
  have hFc : ∀ q, va_A [] H.size q → A q := va_free (wc := []) hD hS hA [] rfl
  refine va_calli (va_runS (As := As) (rest := rest) ⟨hx, hb, hml, hown, hts⟩ hM cw ⟨sPre.blind vE, fun U hU hW => ⟨rfl, by rw [hU], vE.at hE hS hU hW hFc⟩⟩ rfl hn hsize hst (lv_room hR) hdg hf) hS (fun q _ h => hFc q h) hFc (fun r u t H1 locs ht hvm hw hB hz1 hk1 hS => ?_)
  exact kk r H1 locs hw (hP.kept (fun k q hq => hk1 q.1 (hP k q hq).lt (fun z => z.elim (fun ⟨_, _, z⟩ => by simp at z) (fun z => absurd (hP k q hq).lt (Nat.not_lt.mpr z))))) hS
/-- a static method is called that touches nothing -/
theorem mS_l {post : Int64 → Prop} (C : mCx p s m args meth c cc nL rt Ts E D cA A)
    (hM : Met l y ws rm (va_Pc As (sPre E H.size)) (va_Ql (S := Unit) (fun r _ => post r) (fun _ _ => True) (va_A [] H.size)) 0 0 (va_A [] H.size))
    (cw : CallB R s args RX9 index y bytes maxL ret ws rm 0 0 n ∧ (Cond.static y).before args s = true) (hP : va_P D vwCl (mW cA h ad σ) H) (hD : va_D A (mW cA h ad σ)) (hS : va_S A s.heap H locs) (hn : As.length = n) (hsize : ls.size = nL) (hst : st0 = As.reverse ++ rest) (hR : (rest.map fun v => v.category).sum ≤ 8) (hdg : decode cc pc = .ok (.invokestatic index, 3)) (hf : cells ≤ R.cells ∧ slots ≤ R.slots)
    (kk : ∀ (r : Int64) (H1 : Heap) (locs1 : List Loc), post r → va_P D vwCl (mW cA h ad σ) H1 → va_S A s.heap H1 locs1 → W p l e R s m args below meth c H1 locs1 cells slots Q (F0 m (pc + 3) ls (.long r :: rest))) :
    W p l e R s m args below meth c H locs cells slots Q (F0 m pc ls st0) := by
  obtain ⟨hx, hb, hml, hr, hown, hts, hK, hA, hlk, hE, vE⟩ := C
  have hFc : ∀ q, va_A [] H.size q → A q := va_free (wc := []) hD hS hA [] rfl
  refine va_calll (va_runS (As := As) (rest := rest) ⟨hx, hb, hml, hown, hts⟩ hM cw ⟨sPre.blind vE, fun U hU hW => ⟨rfl, by rw [hU], vE.at hE hS hU hW hFc⟩⟩ rfl hn hsize hst (lv_room hR) hdg hf) hS (fun q _ h => hFc q h) hFc (fun r u t H1 locs ht hvm hw hB hz1 hk1 hS => ?_)
  exact kk r H1 locs hw (hP.kept (fun k q hq => hk1 q.1 (hP k q hq).lt (fun z => z.elim (fun ⟨_, _, z⟩ => by simp at z) (fun z => absurd (hP k q hq).lt (Nat.not_lt.mpr z))))) hS
/-- a static method is called by one that holds no cells -/
theorem sS_i {post : Int32 → Prop} (C : sCx p s m args meth c cc nL rt Ts own E A)
    (hM : Met l y ws rm (va_Pc As (sPre E H.size)) (va_Qi (S := Unit) (fun r _ => post r) (fun _ _ => True) (va_A [] H.size)) 0 0 (va_A [] H.size))
    (cw : CallB R s args own index y bytes maxL ret ws rm 0 0 n ∧ (Cond.static y).before args s = true) (hS : va_S A s.heap H locs) (hn : As.length = n) (hsize : ls.size = nL) (hst : st0 = As.reverse ++ rest) (hR : (rest.map fun v => v.category).sum ≤ 8) (hdg : decode cc pc = .ok (.invokestatic index, 3)) (hf : cells ≤ R.cells ∧ slots ≤ R.slots)
    (kk : ∀ (r : Int32) (H1 : Heap) (locs1 : List Loc), post r → va_S A s.heap H1 locs1 → W p l e R s m args below meth c H1 locs1 cells slots Q (F0 m (pc + 3) ls (.int r :: rest))) :
    W p l e R s m args below meth c H locs cells slots Q (F0 m pc ls st0) := by
  obtain ⟨hx, hb, hml, hr, hown, hts, hA, hlk, hE, vE⟩ := C
  have hFc : ∀ q, va_A [] H.size q → A q := fun q z => z.elim (fun ⟨_, _, z⟩ => by simp at z) (fun z => hA q (Nat.le_trans hS.1 z))
  refine va_calli (va_runS (As := As) (rest := rest) ⟨hx, hb, hml, hown, hts⟩ hM cw ⟨sPre.blind vE, fun U hU hW => ⟨rfl, by rw [hU], vE.at hE hS hU hW hFc⟩⟩ rfl hn hsize hst (lv_room hR) hdg hf) hS (fun q _ h => hFc q h) hFc (fun r u t H1 locs ht hvm hw hB hz1 hk1 hS => ?_)
  exact kk r H1 locs hw hS
/-- a static method is called by one that holds no cells -/
theorem sS_l {post : Int64 → Prop} (C : sCx p s m args meth c cc nL rt Ts own E A)
    (hM : Met l y ws rm (va_Pc As (sPre E H.size)) (va_Ql (S := Unit) (fun r _ => post r) (fun _ _ => True) (va_A [] H.size)) 0 0 (va_A [] H.size))
    (cw : CallB R s args own index y bytes maxL ret ws rm 0 0 n ∧ (Cond.static y).before args s = true) (hS : va_S A s.heap H locs) (hn : As.length = n) (hsize : ls.size = nL) (hst : st0 = As.reverse ++ rest) (hR : (rest.map fun v => v.category).sum ≤ 8) (hdg : decode cc pc = .ok (.invokestatic index, 3)) (hf : cells ≤ R.cells ∧ slots ≤ R.slots)
    (kk : ∀ (r : Int64) (H1 : Heap) (locs1 : List Loc), post r → va_S A s.heap H1 locs1 → W p l e R s m args below meth c H1 locs1 cells slots Q (F0 m (pc + 3) ls (.long r :: rest))) :
    W p l e R s m args below meth c H locs cells slots Q (F0 m pc ls st0) := by
  obtain ⟨hx, hb, hml, hr, hown, hts, hA, hlk, hE, vE⟩ := C
  have hFc : ∀ q, va_A [] H.size q → A q := fun q z => z.elim (fun ⟨_, _, z⟩ => by simp at z) (fun z => hA q (Nat.le_trans hS.1 z))
  refine va_calll (va_runS (As := As) (rest := rest) ⟨hx, hb, hml, hown, hts⟩ hM cw ⟨sPre.blind vE, fun U hU hW => ⟨rfl, by rw [hU], vE.at hE hS hU hW hFc⟩⟩ rfl hn hsize hst (lv_room hR) hdg hf) hS (fun q _ h => hFc q h) hFc (fun r u t H1 locs ht hvm hw hB hz1 hk1 hS => ?_)
  exact kk r H1 locs hw hS
end MC
theorem inX9 : ∀ w ∈ u_ws RX9 TX9 32, w ∈ TB := by
  intro w h
  obtain ⟨k, hk, rfl⟩ := List.mem_map.mp h
  have hk := List.mem_range.mp hk
  match k, hk with
  | 0, _ => exact tw_5_125
  | 1, _ => exact tw_5_127
  | 2, _ => exact tw_5_129
  | 3, _ => exact tw_5_131
  | 4, _ => exact tw_5_133
  | 5, _ => exact tw_5_135
  | 6, _ => exact tw_5_137
  | 7, _ => exact tw_5_139
  | 8, _ => exact tw_5_141
  | 9, _ => exact tw_5_143
  | 10, _ => exact tw_5_145
  | 11, _ => exact tw_5_147
  | 12, _ => exact tw_5_149
  | 13, _ => exact tw_5_151
  | 14, _ => exact tw_5_153
  | 15, _ => exact tw_5_155
  | 16, _ => exact tw_5_157
  | 17, _ => exact tw_5_159
  | 18, _ => exact tw_5_161
  | 19, _ => exact tw_5_163
  | 20, _ => exact tw_5_165
  | 21, _ => exact tw_5_167
  | 22, _ => exact tw_5_169
  | 23, _ => exact tw_5_171
  | 24, _ => exact tw_5_173
  | 25, _ => exact tw_5_175
  | 26, _ => exact tw_5_177
  | 27, _ => exact tw_5_179
  | 28, _ => exact tw_5_181
  | 29, _ => exact tw_5_183
  | 30, _ => exact tw_5_185
  | 31, _ => exact tw_5_187
  | n + 32, hk => exact absurd hk (by omega)
