abbrev MS : Type := (Nat → Int32) × (Nat → Int64) × (Nat → Nat → Int32) × (Nat → Nat → Int64)
def mI (σ : MS) (k : Nat) : Int32 := σ.1 k
def wI (σ : MS) (k : Nat) (v : Int32) : MS := (upd σ.1 k v, σ.2.1, σ.2.2.1, σ.2.2.2)
def mJ (σ : MS) (k : Nat) : Int64 := σ.2.1 k
def wJ (σ : MS) (k : Nat) (v : Int64) : MS := (σ.1, vp_updL σ.2.1 k v, σ.2.2.1, σ.2.2.2)
def mA (σ : MS) (k : Nat) (i : Nat) : Int32 := σ.2.2.1 k i
def wA (σ : MS) (k : Nat) (i : Nat) (v : Int32) : MS := (σ.1, σ.2.1, (fun j => if j = k then upd (σ.2.2.1 k) i v else σ.2.2.1 j), σ.2.2.2)
def wAs (σ : MS) (k : Nat) (f : Nat → Int32) : MS := (σ.1, σ.2.1, (fun j => if j = k then f else σ.2.2.1 j), σ.2.2.2)
def mL (σ : MS) (k : Nat) (i : Nat) : Int64 := σ.2.2.2 k i
def wL (σ : MS) (k : Nat) (i : Nat) (v : Int64) : MS := (σ.1, σ.2.1, σ.2.2.1, (fun j => if j = k then vp_updL (σ.2.2.2 k) i v else σ.2.2.2 j))
def wLs (σ : MS) (k : Nat) (f : Nat → Int64) : MS := (σ.1, σ.2.1, σ.2.2.1, (fun j => if j = k then f else σ.2.2.2 j))
def mW (cA : Nat → ClassId) (h : Nat) (ad : Nat → Nat) (σ : MS) : va_W := [(h, .inr (11, [.int (mI σ 0), .ref (ad 1), .int (mI σ 2), .int (mI σ 3), .int (mI σ 4), .int (mI σ 5), .ref (ad 6), .ref (ad 7), .ref (ad 8), .int (mI σ 9), .ref (ad 10), .int (mI σ 11), .ref (ad 12), .int (mI σ 13), .int (mI σ 14), .ref (ad 15), .ref (ad 16), .ref (ad 17), .int (mI σ 18), .ref (ad 19), .ref (ad 20), .ref (ad 21), .ref (ad 22), .ref (ad 23), .ref (ad 24), .int (mI σ 25), .long (mJ σ 26), .int (mI σ 27), .long (mJ σ 28), .ref (ad 29), .int (mI σ 30), .ref (ad 31)])), (ad 1, .inl (cA 0, 700, .inl (mA σ 1))), (ad 6, .inl (cA 0, 702, .inl (mA σ 6))), (ad 7, .inl (cA 0, 702, .inl (mA σ 7))), (ad 8, .inl (cA 1, 702, .inr (.inl (mL σ 8)))), (ad 10, .inl (cA 1, 64, .inr (.inl (mL σ 10)))), (ad 12, .inl (cA 1, 65, .inr (.inl (mL σ 12)))), (ad 15, .inl (cA 0, 2, .inl (mA σ 15))), (ad 16, .inl (cA 1, 800, .inr (.inl (mL σ 16)))), (ad 17, .inl (cA 1, 800, .inr (.inl (mL σ 17)))), (ad 19, .inl (cA 0, 64, .inl (mA σ 19))), (ad 20, .inl (cA 1, 64, .inr (.inl (mL σ 20)))), (ad 21, .inl (cA 0, 64, .inl (mA σ 21))), (ad 22, .inl (cA 0, 64, .inl (mA σ 22))), (ad 23, .inl (cA 2, 64, .inl (mA σ 23))), (ad 24, .inl (cA 2, 64, .inl (mA σ 24))), (ad 29, .inl (cA 0, 60, .inl (mA σ 29))), (ad 31, .inl (cA 2, 64, .inl (mA σ 31)))]
def mT (cA : Nat → ClassId) : List (ClassId × FieldType) := [(cA 0, .int), (cA 1, .long), (cA 2, .boolean)]
abbrev mPre (E : EnvT) (D : va_G) (cA : Nat → ClassId) (h : Nat) (ad : Nat → Nat) (sz : Nat) (σ : MS) (U : State) : Prop := U.heap.size = sz ∧ va_P D vwCl (mW cA h ad σ) U.heap ∧ va_K D vwCl (mT cA) U ∧ va_D (fun _ => True) (mW cA h ad σ) ∧ E (va_A (mW cA h ad σ) sz) U U.heap
abbrev mAt (D : va_G) (cA : Nat → ClassId) (h : Nat) (ad : Nat → Nat) (A : Nat → Prop) (σ : MS) (t : State) : Prop := va_P D vwCl (mW cA h ad σ) t.heap ∧ va_K D vwCl (mT cA) t ∧ va_D A (mW cA h ad σ)
abbrev mG (D : va_G) (cA : Nat → ClassId) (h : Nat) (ad : Nat → Nat) (A : Nat → Prop) (s : State) (σ : MS) (H : Heap) (locs : List Loc) : Prop := va_P D vwCl (mW cA h ad σ) H ∧ va_D A (mW cA h ad σ) ∧ va_S A s.heap H locs
theorem mPre.blind {E : EnvT} (vE : EnvOk E) {D : va_G} {cA : Nat → ClassId} {h : Nat} {ad : Nat → Nat} {sz : Nat} {σ : MS} {av : List Value} : FrameBlind (va_Pc av (mPre E D cA h ad sz σ)) := fun a U g mk q => by
  obtain ⟨q0, q1, qP, qK, qD, qE⟩ := q
  exact ⟨q0, q1, qP, va_K.moved (u := U) (U := U.calling g mk a) (Vm.Alike.refl U.vm) qK, qD, vE.1 _ U (U.calling g mk a) _ (State.WarmedH.refl U) qE⟩
def mCx (p : Program) (s : State) (m : MethodId) (args : Array Value) (meth : Method) (c : Code) (cc : ByteArray) (nL : Nat) (rt : Option FieldType) (Ts : List Cond) (own : String) (E : EnvT) (D : va_G) (cA : Nat → ClassId) (A : Nat → Prop) : Prop :=
  p.tables.exec = Jvm.exec ∧ c.code = cc ∧ c.maxLocals = nL ∧ meth.sig.returnType = rt ∧ s.vm.findClass own = some m.cls ∧ (∀ w ∈ Ts, w.before args s = true) ∧ va_K D vwCl (mT cA) s ∧ (∀ q : Nat, s.heap.size ≤ q → A q) ∧ meth.locks = false ∧ E A s s.heap ∧ EnvOk E
section WCm
variable {p : Program} {l : Launch} {e : Env} {R : Room} {s : State} {m : MethodId} {args : Array Value} {below : List Frame} {meth : Method} {c : Code} {H : Heap} {locs : List Loc} {cells slots : Nat} {Q : State → Prop}
variable {E : EnvT} {own C : String} {D : va_G} {cA : Nat → ClassId} {h : Nat} {ad : Nat → Nat} {A : Nat → Prop} {σ : MS} {y : MethodName} {bytes : ByteArray} {maxL nL n index pc a : Nat} {ret : Option FieldType} {ws : List Cond} {rm : Room} {Ts : List Cond} {cc : ByteArray} {rt : Option FieldType} {As rest st0 : List Value} {ls : Array Slot}
theorem mW.free (hD : va_D A (mW cA h ad σ)) (hS : va_S A s.heap H locs) (hA : ∀ q : Nat, s.heap.size ≤ q → A q) : ∀ q, va_A (mW cA h ad σ) H.size q → A q := va_free (wc := (mW cA h ad σ)) hD hS hA [0, 1, 2, 3, 4, 5, 6, 7, 8, 9, 10, 11, 12, 13, 14, 15, 16, 17] rfl
theorem mW.join {σ' : MS} {H1 : Heap} (hP : va_P D vwCl (mW cA h ad σ) H) (hD : va_D A (mW cA h ad σ)) (hF : ∀ q, va_A (mW cA h ad σ) H.size q → A q) (hk : ∀ q : Nat, q < H.size → ¬ va_A (mW cA h ad σ) H.size q → H1[q]? = H[q]?) (hP1 : va_P D vwCl (mW cA h ad σ') H1) (hD1 : va_D (va_A (mW cA h ad σ) H.size) (mW cA h ad σ')) : va_D A (mW cA h ad σ') :=
  (va_join (wr := []) (wc := (mW cA h ad σ)) (w1 := (mW cA h ad σ')) hP hD [0, 1, 2, 3, 4, 5, 6, 7, 8, 9, 10, 11, 12, 13, 14, 15, 16, 17] [] rfl rfl (by decide) (by decide) hk hF hP1 hD1).2
theorem mV_i {post : Int32 → MS → Prop} (Cx : mCx p s m args meth c cc nL rt Ts own E D cA A)
    (hM : Met l y ws rm (va_Pc (.ref a :: As) (mPre E D cA h ad H.size σ)) (va_Qi post (mAt D cA h ad (va_A (mW cA h ad σ) H.size)) (va_A (mW cA h ad σ) H.size)) 0 0 (va_A (mW cA h ad σ) H.size))
    (hrc : ∃ cell : Cell, H[a]? = some cell ∧ cell.vm.isStatics = false ∧ s.vm.findClass C = some cell.cls) (cw : CallW R s args own C index y bytes maxL ret ws rm 0 0 n) (hP : va_P D vwCl (mW cA h ad σ) H) (hD : va_D A (mW cA h ad σ)) (hS : va_S A s.heap H locs) (hn : As.length = n) (hsize : ls.size = nL) (hst : st0 = As.reverse ++ .ref a :: rest) (hR : (rest.map fun v => v.category).sum ≤ 8) (hdg : decode cc pc = .ok (.invokevirtual index, 3)) (hf : cells ≤ R.cells ∧ slots ≤ R.slots)
    (kk : ∀ (r : Int32) (σ' : MS) (H1 : Heap) (locs1 : List Loc), post r σ' → va_P D vwCl (mW cA h ad σ') H1 → va_D A (mW cA h ad σ') → va_S A s.heap H1 locs1 → W p l e R s m args below meth c H1 locs1 cells slots Q (F0 m (pc + 3) ls (.int r :: rest))) :
    W p l e R s m args below meth c H locs cells slots Q (F0 m pc ls st0) := by
  obtain ⟨hx, hb, hml, hr, hown, hts, hK, hA, hlk, hE, vE⟩ := Cx
  have hFc := mW.free hD hS hA
  refine va_calli (va_runV (As := As) (rest := rest) ⟨hx, hb, hml, hown, hts⟩ hM cw ⟨mPre.blind vE, hrc, fun U hU hW => ⟨rfl, by rw [hU], by rw [hU]; exact hP, va_K.moved hW.alike hK, hD.weaken (fun _ _ _ _ => trivial), vE.at hE hS hU hW hFc⟩⟩ rfl hn hsize hst (lv_room hR) hdg hf) hS (fun q _ h => hFc q h) hFc (fun r u t H1 locs ht hvm hw hB hz1 hk1 hS => ?_)
  obtain ⟨hP1, hK1, hD1⟩ := hB
  rw [ht] at hP1
  exact kk r u H1 locs hw hP1 (mW.join hP hD hFc hk1 hP1 hD1) hS
theorem mV_l {post : Int64 → MS → Prop} (Cx : mCx p s m args meth c cc nL rt Ts own E D cA A)
    (hM : Met l y ws rm (va_Pc (.ref a :: As) (mPre E D cA h ad H.size σ)) (va_Ql post (mAt D cA h ad (va_A (mW cA h ad σ) H.size)) (va_A (mW cA h ad σ) H.size)) 0 0 (va_A (mW cA h ad σ) H.size))
    (hrc : ∃ cell : Cell, H[a]? = some cell ∧ cell.vm.isStatics = false ∧ s.vm.findClass C = some cell.cls) (cw : CallW R s args own C index y bytes maxL ret ws rm 0 0 n) (hP : va_P D vwCl (mW cA h ad σ) H) (hD : va_D A (mW cA h ad σ)) (hS : va_S A s.heap H locs) (hn : As.length = n) (hsize : ls.size = nL) (hst : st0 = As.reverse ++ .ref a :: rest) (hR : (rest.map fun v => v.category).sum ≤ 8) (hdg : decode cc pc = .ok (.invokevirtual index, 3)) (hf : cells ≤ R.cells ∧ slots ≤ R.slots)
    (kk : ∀ (r : Int64) (σ' : MS) (H1 : Heap) (locs1 : List Loc), post r σ' → va_P D vwCl (mW cA h ad σ') H1 → va_D A (mW cA h ad σ') → va_S A s.heap H1 locs1 → W p l e R s m args below meth c H1 locs1 cells slots Q (F0 m (pc + 3) ls (.long r :: rest))) :
    W p l e R s m args below meth c H locs cells slots Q (F0 m pc ls st0) := by
  obtain ⟨hx, hb, hml, hr, hown, hts, hK, hA, hlk, hE, vE⟩ := Cx
  have hFc := mW.free hD hS hA
  refine va_calll (va_runV (As := As) (rest := rest) ⟨hx, hb, hml, hown, hts⟩ hM cw ⟨mPre.blind vE, hrc, fun U hU hW => ⟨rfl, by rw [hU], by rw [hU]; exact hP, va_K.moved hW.alike hK, hD.weaken (fun _ _ _ _ => trivial), vE.at hE hS hU hW hFc⟩⟩ rfl hn hsize hst (lv_room hR) hdg hf) hS (fun q _ h => hFc q h) hFc (fun r u t H1 locs ht hvm hw hB hz1 hk1 hS => ?_)
  obtain ⟨hP1, hK1, hD1⟩ := hB
  rw [ht] at hP1
  exact kk r u H1 locs hw hP1 (mW.join hP hD hFc hk1 hP1 hD1) hS
theorem mV_v {post : MS → Prop} (Cx : mCx p s m args meth c cc nL rt Ts own E D cA A)
    (hM : Met l y ws rm (va_Pc (.ref a :: As) (mPre E D cA h ad H.size σ)) (va_Qv post (mAt D cA h ad (va_A (mW cA h ad σ) H.size)) (va_A (mW cA h ad σ) H.size)) 0 0 (va_A (mW cA h ad σ) H.size))
    (hrc : ∃ cell : Cell, H[a]? = some cell ∧ cell.vm.isStatics = false ∧ s.vm.findClass C = some cell.cls) (cw : CallW R s args own C index y bytes maxL ret ws rm 0 0 n) (hP : va_P D vwCl (mW cA h ad σ) H) (hD : va_D A (mW cA h ad σ)) (hS : va_S A s.heap H locs) (hn : As.length = n) (hsize : ls.size = nL) (hst : st0 = As.reverse ++ .ref a :: rest) (hR : (rest.map fun v => v.category).sum ≤ 8) (hdg : decode cc pc = .ok (.invokevirtual index, 3)) (hf : cells ≤ R.cells ∧ slots ≤ R.slots)
    (kk : ∀ (σ' : MS) (H1 : Heap) (locs1 : List Loc), post σ' → va_P D vwCl (mW cA h ad σ') H1 → va_D A (mW cA h ad σ') → va_S A s.heap H1 locs1 → W p l e R s m args below meth c H1 locs1 cells slots Q (F0 m (pc + 3) ls (rest))) :
    W p l e R s m args below meth c H locs cells slots Q (F0 m pc ls st0) := by
  obtain ⟨hx, hb, hml, hr, hown, hts, hK, hA, hlk, hE, vE⟩ := Cx
  have hFc := mW.free hD hS hA
  refine va_callv (va_runV (As := As) (rest := rest) ⟨hx, hb, hml, hown, hts⟩ hM cw ⟨mPre.blind vE, hrc, fun U hU hW => ⟨rfl, by rw [hU], by rw [hU]; exact hP, va_K.moved hW.alike hK, hD.weaken (fun _ _ _ _ => trivial), vE.at hE hS hU hW hFc⟩⟩ rfl hn hsize hst (lv_room hR) hdg hf) hS (fun q _ h => hFc q h) hFc (fun u t H1 locs ht hvm hw hB hz1 hk1 hS => ?_)
  obtain ⟨hP1, hK1, hD1⟩ := hB
  rw [ht] at hP1
  exact kk u H1 locs hw hP1 (mW.join hP hD hFc hk1 hP1 hD1) hS
theorem mS_i {post : Int32 → Prop} (Cx : mCx p s m args meth c cc nL rt Ts own E D cA A)
    (hM : Met l y ws rm (va_Pc As (sPre E H.size)) (va_Qi (S := Unit) (fun r _ => post r) (fun _ _ => True) (va_A [] H.size)) 0 0 (va_A [] H.size))
    (cw : CallB R s args own index y bytes maxL ret ws rm 0 0 n ∧ (Cond.static y).before args s = true) (hP : va_P D vwCl (mW cA h ad σ) H) (hD : va_D A (mW cA h ad σ)) (hS : va_S A s.heap H locs) (hn : As.length = n) (hsize : ls.size = nL) (hst : st0 = As.reverse ++ rest) (hR : (rest.map fun v => v.category).sum ≤ 8) (hdg : decode cc pc = .ok (.invokestatic index, 3)) (hf : cells ≤ R.cells ∧ slots ≤ R.slots)
    (kk : ∀ (r : Int32) (H1 : Heap) (locs1 : List Loc), post r → va_P D vwCl (mW cA h ad σ) H1 → va_S A s.heap H1 locs1 → W p l e R s m args below meth c H1 locs1 cells slots Q (F0 m (pc + 3) ls (.int r :: rest))) :
    W p l e R s m args below meth c H locs cells slots Q (F0 m pc ls st0) := by
  obtain ⟨hx, hb, hml, hr, hown, hts, hK, hA, hlk, hE, vE⟩ := Cx
  have hFc : ∀ q, va_A [] H.size q → A q := va_free (wc := []) hD hS hA [] rfl
  refine va_calli (va_runS (As := As) (rest := rest) ⟨hx, hb, hml, hown, hts⟩ hM cw ⟨sPre.blind vE, fun U hU hW => ⟨rfl, by rw [hU], vE.at hE hS hU hW hFc⟩⟩ rfl hn hsize hst (lv_room hR) hdg hf) hS (fun q _ h => hFc q h) hFc (fun r u t H1 locs ht hvm hw hB hz1 hk1 hS => ?_)
  exact kk r H1 locs hw (hP.kept (fun k q hq => hk1 q.1 (hP k q hq).lt (fun z => z.elim (fun ⟨_, _, z⟩ => by simp at z) (fun z => absurd (hP k q hq).lt (Nat.not_lt.mpr z))))) hS
theorem mO_i {post : Int32 → Prop} (Cx : mCx p s m args meth c cc nL rt Ts own E D cA A)
    (hM : Met l y ws rm (va_Pc (.ref a :: As) (sPre E H.size)) (va_Qi (S := Unit) (fun r _ => post r) (fun _ _ => True) (va_A [] H.size)) 0 0 (va_A [] H.size)) (hrc : ∃ cell : Cell, H[a]? = some cell ∧ cell.vm.isStatics = false ∧ s.vm.findClass C = some cell.cls)
    (cw : CallW R s args own C index y bytes maxL ret ws rm 0 0 n) (hP : va_P D vwCl (mW cA h ad σ) H) (hD : va_D A (mW cA h ad σ)) (hS : va_S A s.heap H locs) (hn : As.length = n) (hsize : ls.size = nL) (hst : st0 = As.reverse ++ .ref a :: rest) (hR : (rest.map fun v => v.category).sum ≤ 8) (hdg : decode cc pc = .ok (.invokevirtual index, 3)) (hf : cells ≤ R.cells ∧ slots ≤ R.slots)
    (kk : ∀ (r : Int32) (H1 : Heap) (locs1 : List Loc), post r → va_P D vwCl (mW cA h ad σ) H1 → va_S A s.heap H1 locs1 → W p l e R s m args below meth c H1 locs1 cells slots Q (F0 m (pc + 3) ls (.int r :: rest))) :
    W p l e R s m args below meth c H locs cells slots Q (F0 m pc ls st0) := by
  obtain ⟨hx, hb, hml, hr, hown, hts, hK, hA, hlk, hE, vE⟩ := Cx
  have hFc : ∀ q, va_A [] H.size q → A q := va_free (wc := []) hD hS hA [] rfl
  refine va_calli (va_runV (As := As) (rest := rest) ⟨hx, hb, hml, hown, hts⟩ hM cw ⟨sPre.blind vE, hrc, fun U hU hW => ⟨rfl, by rw [hU], vE.at hE hS hU hW hFc⟩⟩ rfl hn hsize hst (lv_room hR) hdg hf) hS (fun q _ h => hFc q h) hFc (fun r u t H1 locs ht hvm hw hB hz1 hk1 hS => ?_)
  exact kk r H1 locs hw (hP.kept (fun k q hq => hk1 q.1 (hP k q hq).lt (fun z => z.elim (fun ⟨_, _, z⟩ => by simp at z) (fun z => absurd (hP k q hq).lt (Nat.not_lt.mpr z))))) hS
theorem mS_l {post : Int64 → Prop} (Cx : mCx p s m args meth c cc nL rt Ts own E D cA A)
    (hM : Met l y ws rm (va_Pc As (sPre E H.size)) (va_Ql (S := Unit) (fun r _ => post r) (fun _ _ => True) (va_A [] H.size)) 0 0 (va_A [] H.size))
    (cw : CallB R s args own index y bytes maxL ret ws rm 0 0 n ∧ (Cond.static y).before args s = true) (hP : va_P D vwCl (mW cA h ad σ) H) (hD : va_D A (mW cA h ad σ)) (hS : va_S A s.heap H locs) (hn : As.length = n) (hsize : ls.size = nL) (hst : st0 = As.reverse ++ rest) (hR : (rest.map fun v => v.category).sum ≤ 8) (hdg : decode cc pc = .ok (.invokestatic index, 3)) (hf : cells ≤ R.cells ∧ slots ≤ R.slots)
    (kk : ∀ (r : Int64) (H1 : Heap) (locs1 : List Loc), post r → va_P D vwCl (mW cA h ad σ) H1 → va_S A s.heap H1 locs1 → W p l e R s m args below meth c H1 locs1 cells slots Q (F0 m (pc + 3) ls (.long r :: rest))) :
    W p l e R s m args below meth c H locs cells slots Q (F0 m pc ls st0) := by
  obtain ⟨hx, hb, hml, hr, hown, hts, hK, hA, hlk, hE, vE⟩ := Cx
  have hFc : ∀ q, va_A [] H.size q → A q := va_free (wc := []) hD hS hA [] rfl
  refine va_calll (va_runS (As := As) (rest := rest) ⟨hx, hb, hml, hown, hts⟩ hM cw ⟨sPre.blind vE, fun U hU hW => ⟨rfl, by rw [hU], vE.at hE hS hU hW hFc⟩⟩ rfl hn hsize hst (lv_room hR) hdg hf) hS (fun q _ h => hFc q h) hFc (fun r u t H1 locs ht hvm hw hB hz1 hk1 hS => ?_)
  exact kk r H1 locs hw (hP.kept (fun k q hq => hk1 q.1 (hP k q hq).lt (fun z => z.elim (fun ⟨_, _, z⟩ => by simp at z) (fun z => absurd (hP k q hq).lt (Nat.not_lt.mpr z))))) hS
theorem mO_l {post : Int64 → Prop} (Cx : mCx p s m args meth c cc nL rt Ts own E D cA A)
    (hM : Met l y ws rm (va_Pc (.ref a :: As) (sPre E H.size)) (va_Ql (S := Unit) (fun r _ => post r) (fun _ _ => True) (va_A [] H.size)) 0 0 (va_A [] H.size)) (hrc : ∃ cell : Cell, H[a]? = some cell ∧ cell.vm.isStatics = false ∧ s.vm.findClass C = some cell.cls)
    (cw : CallW R s args own C index y bytes maxL ret ws rm 0 0 n) (hP : va_P D vwCl (mW cA h ad σ) H) (hD : va_D A (mW cA h ad σ)) (hS : va_S A s.heap H locs) (hn : As.length = n) (hsize : ls.size = nL) (hst : st0 = As.reverse ++ .ref a :: rest) (hR : (rest.map fun v => v.category).sum ≤ 8) (hdg : decode cc pc = .ok (.invokevirtual index, 3)) (hf : cells ≤ R.cells ∧ slots ≤ R.slots)
    (kk : ∀ (r : Int64) (H1 : Heap) (locs1 : List Loc), post r → va_P D vwCl (mW cA h ad σ) H1 → va_S A s.heap H1 locs1 → W p l e R s m args below meth c H1 locs1 cells slots Q (F0 m (pc + 3) ls (.long r :: rest))) :
    W p l e R s m args below meth c H locs cells slots Q (F0 m pc ls st0) := by
  obtain ⟨hx, hb, hml, hr, hown, hts, hK, hA, hlk, hE, vE⟩ := Cx
  have hFc : ∀ q, va_A [] H.size q → A q := va_free (wc := []) hD hS hA [] rfl
  refine va_calll (va_runV (As := As) (rest := rest) ⟨hx, hb, hml, hown, hts⟩ hM cw ⟨sPre.blind vE, hrc, fun U hU hW => ⟨rfl, by rw [hU], vE.at hE hS hU hW hFc⟩⟩ rfl hn hsize hst (lv_room hR) hdg hf) hS (fun q _ h => hFc q h) hFc (fun r u t H1 locs ht hvm hw hB hz1 hk1 hS => ?_)
  exact kk r H1 locs hw (hP.kept (fun k q hq => hk1 q.1 (hP k q hq).lt (fun z => z.elim (fun ⟨_, _, z⟩ => by simp at z) (fun z => absurd (hP k q hq).lt (Nat.not_lt.mpr z))))) hS
end WCm
abbrev XS : Type := (Nat → Int32) × (Nat → Nat → Int32) × (Nat → Nat → Int64) × (Nat → Nat → Option Nat)
def xI (σ : XS) (k : Nat) : Int32 := σ.1 k
def yI (σ : XS) (k : Nat) (v : Int32) : XS := (upd σ.1 k v, σ.2.1, σ.2.2.1, σ.2.2.2)
def xA (σ : XS) (k : Nat) (i : Nat) : Int32 := σ.2.1 k i
def yA (σ : XS) (k : Nat) (i : Nat) (v : Int32) : XS := (σ.1, (fun j => if j = k then upd (σ.2.1 k) i v else σ.2.1 j), σ.2.2.1, σ.2.2.2)
def yAs (σ : XS) (k : Nat) (f : Nat → Int32) : XS := (σ.1, (fun j => if j = k then f else σ.2.1 j), σ.2.2.1, σ.2.2.2)
def xL (σ : XS) (k : Nat) (i : Nat) : Int64 := σ.2.2.1 k i
def yL (σ : XS) (k : Nat) (i : Nat) (v : Int64) : XS := (σ.1, σ.2.1, (fun j => if j = k then vp_updL (σ.2.2.1 k) i v else σ.2.2.1 j), σ.2.2.2)
def yLs (σ : XS) (k : Nat) (f : Nat → Int64) : XS := (σ.1, σ.2.1, (fun j => if j = k then f else σ.2.2.1 j), σ.2.2.2)
def xQ (σ : XS) (k : Nat) (i : Nat) : Option Nat := σ.2.2.2 k i
def yQ (σ : XS) (k : Nat) (i : Nat) (v : Option Nat) : XS := (σ.1, σ.2.1, σ.2.2.1, (fun j => if j = k then va_up (σ.2.2.2 k) i v else σ.2.2.2 j))
def yQs (σ : XS) (k : Nat) (f : Nat → Option Nat) : XS := (σ.1, σ.2.1, σ.2.2.1, (fun j => if j = k then f else σ.2.2.2 j))
def xW (cA : Nat → ClassId) (aE ad : Nat → Nat) (σ : XS) : va_W := [(ad 0, .inr (10, [.ref (ad 1), .ref (ad 3), .ref (ad 14), .ref (ad 17), .ref (ad 22), .ref (ad 23)])), (ad 1, .inr (7, [.ref (ad 2), .int (xI σ 0)])), (ad 2, .inl (cA 2, 700, .inl (xA σ 0))), (ad 3, .inr (5, [.ref (ad 4), .ref (ad 8), .ref (ad 9), .ref (ad 10), .ref (ad 13), .int (xI σ 1), .int (xI σ 2), .int (xI σ 3)])), (ad 4, .inr (8, [.ref (ad 1), .ref (ad 5), .ref (ad 6), .ref (ad 7), .int (xI σ 4), .int (xI σ 5)])), (ad 5, .inl (cA 0, 701, .inl (xA σ 1))), (ad 6, .inl (cA 0, 701, .inl (xA σ 2))), (ad 7, .inl (cA 1, 701, .inr (.inl (xL σ 0)))), (ad 8, .inl (cA 3, 64, .inr (.inr (.inr (.inr (fun j => (xQ σ 0 j).map aE)))))), (ad 9, .inl (cA 0, 64, .inl (xA σ 3))), (ad 10, .inr (3, [.ref (ad 11), .ref (ad 12), .int (xI σ 6)])), (ad 11, .inl (cA 1, 350, .inr (.inl (xL σ 1)))), (ad 12, .inl (cA 1, 350, .inr (.inl (xL σ 2)))), (ad 13, .inl (cA 1, 64, .inr (.inl (xL σ 3)))), (ad 14, .inr (3, [.ref (ad 15), .ref (ad 16), .int (xI σ 7)])), (ad 15, .inl (cA 1, 350, .inr (.inl (xL σ 4)))), (ad 16, .inl (cA 1, 350, .inr (.inl (xL σ 5)))), (ad 17, .inr (2, [.ref (ad 18), .ref (ad 19), .ref (ad 20), .ref (ad 21), .int (xI σ 8)])), (ad 18, .inl (cA 1, 64, .inr (.inl (xL σ 6)))), (ad 19, .inl (cA 3, 64, .inr (.inr (.inr (.inr (fun j => (xQ σ 1 j).map aE)))))), (ad 20, .inl (cA 0, 64, .inl (xA σ 4))), (ad 21, .inl (cA 0, 64, .inl (xA σ 5))), (ad 22, .inr (9, [.ref (ad 17)])), (ad 23, .inr (6, [.ref (ad 24)]))]
def xT (cA : Nat → ClassId) : List (ClassId × FieldType) := [(cA 0, .int), (cA 1, .long), (cA 2, .char), (cA 3, .object "KernelText$Op"), (cA 4, .byte)]
abbrev xPre (E : EnvT) (D : va_G) (cA : Nat → ClassId) (aE ad : Nat → Nat) (sz : Nat) (σ : XS) (U : State) : Prop := U.heap.size = sz ∧ va_P D vwCl (xW cA aE ad σ) U.heap ∧ va_K D vwCl (xT cA) U ∧ va_D (fun _ => True) (xW cA aE ad σ) ∧ E (va_A (xW cA aE ad σ) sz) U U.heap
abbrev xAt (D : va_G) (cA : Nat → ClassId) (aE ad : Nat → Nat) (A : Nat → Prop) (σ : XS) (t : State) : Prop := va_P D vwCl (xW cA aE ad σ) t.heap ∧ va_K D vwCl (xT cA) t ∧ va_D A (xW cA aE ad σ)
abbrev xG (D : va_G) (cA : Nat → ClassId) (aE ad : Nat → Nat) (A : Nat → Prop) (s : State) (σ : XS) (H : Heap) (locs : List Loc) : Prop := va_P D vwCl (xW cA aE ad σ) H ∧ va_D A (xW cA aE ad σ) ∧ va_S A s.heap H locs
theorem xPre.blind {E : EnvT} (vE : EnvOk E) {D : va_G} {cA : Nat → ClassId} {aE ad : Nat → Nat} {sz : Nat} {σ : XS} {av : List Value} : FrameBlind (va_Pc av (xPre E D cA aE ad sz σ)) := fun a U g mk q => by
  obtain ⟨q0, q1, qP, qK, qD, qE⟩ := q
  exact ⟨q0, q1, qP, va_K.moved (u := U) (U := U.calling g mk a) (Vm.Alike.refl U.vm) qK, qD, vE.1 _ U (U.calling g mk a) _ (State.WarmedH.refl U) qE⟩
def xCx (p : Program) (s : State) (m : MethodId) (args : Array Value) (meth : Method) (c : Code) (cc : ByteArray) (nL : Nat) (rt : Option FieldType) (Ts : List Cond) (own : String) (E : EnvT) (D : va_G) (cA : Nat → ClassId) (A : Nat → Prop) : Prop :=
  p.tables.exec = Jvm.exec ∧ c.code = cc ∧ c.maxLocals = nL ∧ meth.sig.returnType = rt ∧ s.vm.findClass own = some m.cls ∧ (∀ w ∈ Ts, w.before args s = true) ∧ va_K D vwCl (xT cA) s ∧ (∀ q : Nat, s.heap.size ≤ q → A q) ∧ meth.locks = false ∧ E A s s.heap ∧ EnvOk E
section WCx
variable {p : Program} {l : Launch} {e : Env} {R : Room} {s : State} {m : MethodId} {args : Array Value} {below : List Frame} {meth : Method} {c : Code} {H : Heap} {locs : List Loc} {cells slots : Nat} {Q : State → Prop}
variable {E : EnvT} {own C : String} {D : va_G} {cA : Nat → ClassId} {aE ad : Nat → Nat} {A : Nat → Prop} {σ : XS} {y : MethodName} {bytes : ByteArray} {maxL nL n index pc a : Nat} {ret : Option FieldType} {ws : List Cond} {rm : Room} {Ts : List Cond} {cc : ByteArray} {rt : Option FieldType} {As rest st0 : List Value} {ls : Array Slot}
theorem xW.free (hD : va_D A (xW cA aE ad σ)) (hS : va_S A s.heap H locs) (hA : ∀ q : Nat, s.heap.size ≤ q → A q) : ∀ q, va_A (xW cA aE ad σ) H.size q → A q := va_free (wc := (xW cA aE ad σ)) hD hS hA [0, 1, 2, 3, 4, 5, 6, 7, 8, 9, 10, 11, 12, 13, 14, 15, 16, 17, 18, 19, 20, 21, 22, 23] rfl
theorem xW.join {σ' : XS} {H1 : Heap} (hP : va_P D vwCl (xW cA aE ad σ) H) (hD : va_D A (xW cA aE ad σ)) (hF : ∀ q, va_A (xW cA aE ad σ) H.size q → A q) (hk : ∀ q : Nat, q < H.size → ¬ va_A (xW cA aE ad σ) H.size q → H1[q]? = H[q]?) (hP1 : va_P D vwCl (xW cA aE ad σ') H1) (hD1 : va_D (va_A (xW cA aE ad σ) H.size) (xW cA aE ad σ')) : va_D A (xW cA aE ad σ') :=
  (va_join (wr := []) (wc := (xW cA aE ad σ)) (w1 := (xW cA aE ad σ')) hP hD [0, 1, 2, 3, 4, 5, 6, 7, 8, 9, 10, 11, 12, 13, 14, 15, 16, 17, 18, 19, 20, 21, 22, 23] [] rfl rfl (by decide) (by decide) hk hF hP1 hD1).2
theorem xV_i {post : Int32 → XS → Prop} (Cx : xCx p s m args meth c cc nL rt Ts own E D cA A)
    (hM : Met l y ws rm (va_Pc (.ref a :: As) (xPre E D cA aE ad H.size σ)) (va_Qi post (xAt D cA aE ad (va_A (xW cA aE ad σ) H.size)) (va_A (xW cA aE ad σ) H.size)) 0 0 (va_A (xW cA aE ad σ) H.size))
    (hrc : ∃ cell : Cell, H[a]? = some cell ∧ cell.vm.isStatics = false ∧ s.vm.findClass C = some cell.cls) (cw : CallW R s args own C index y bytes maxL ret ws rm 0 0 n) (hP : va_P D vwCl (xW cA aE ad σ) H) (hD : va_D A (xW cA aE ad σ)) (hS : va_S A s.heap H locs) (hn : As.length = n) (hsize : ls.size = nL) (hst : st0 = As.reverse ++ .ref a :: rest) (hR : (rest.map fun v => v.category).sum ≤ 8) (hdg : decode cc pc = .ok (.invokevirtual index, 3)) (hf : cells ≤ R.cells ∧ slots ≤ R.slots)
    (kk : ∀ (r : Int32) (σ' : XS) (H1 : Heap) (locs1 : List Loc), post r σ' → va_P D vwCl (xW cA aE ad σ') H1 → va_D A (xW cA aE ad σ') → va_S A s.heap H1 locs1 → W p l e R s m args below meth c H1 locs1 cells slots Q (F0 m (pc + 3) ls (.int r :: rest))) :
    W p l e R s m args below meth c H locs cells slots Q (F0 m pc ls st0) := by
  obtain ⟨hx, hb, hml, hr, hown, hts, hK, hA, hlk, hE, vE⟩ := Cx
  have hFc := xW.free hD hS hA
  refine va_calli (va_runV (As := As) (rest := rest) ⟨hx, hb, hml, hown, hts⟩ hM cw ⟨xPre.blind vE, hrc, fun U hU hW => ⟨rfl, by rw [hU], by rw [hU]; exact hP, va_K.moved hW.alike hK, hD.weaken (fun _ _ _ _ => trivial), vE.at hE hS hU hW hFc⟩⟩ rfl hn hsize hst (lv_room hR) hdg hf) hS (fun q _ h => hFc q h) hFc (fun r u t H1 locs ht hvm hw hB hz1 hk1 hS => ?_)
  obtain ⟨hP1, hK1, hD1⟩ := hB
  rw [ht] at hP1
  exact kk r u H1 locs hw hP1 (xW.join hP hD hFc hk1 hP1 hD1) hS
theorem xV_l {post : Int64 → XS → Prop} (Cx : xCx p s m args meth c cc nL rt Ts own E D cA A)
    (hM : Met l y ws rm (va_Pc (.ref a :: As) (xPre E D cA aE ad H.size σ)) (va_Ql post (xAt D cA aE ad (va_A (xW cA aE ad σ) H.size)) (va_A (xW cA aE ad σ) H.size)) 0 0 (va_A (xW cA aE ad σ) H.size))
    (hrc : ∃ cell : Cell, H[a]? = some cell ∧ cell.vm.isStatics = false ∧ s.vm.findClass C = some cell.cls) (cw : CallW R s args own C index y bytes maxL ret ws rm 0 0 n) (hP : va_P D vwCl (xW cA aE ad σ) H) (hD : va_D A (xW cA aE ad σ)) (hS : va_S A s.heap H locs) (hn : As.length = n) (hsize : ls.size = nL) (hst : st0 = As.reverse ++ .ref a :: rest) (hR : (rest.map fun v => v.category).sum ≤ 8) (hdg : decode cc pc = .ok (.invokevirtual index, 3)) (hf : cells ≤ R.cells ∧ slots ≤ R.slots)
    (kk : ∀ (r : Int64) (σ' : XS) (H1 : Heap) (locs1 : List Loc), post r σ' → va_P D vwCl (xW cA aE ad σ') H1 → va_D A (xW cA aE ad σ') → va_S A s.heap H1 locs1 → W p l e R s m args below meth c H1 locs1 cells slots Q (F0 m (pc + 3) ls (.long r :: rest))) :
    W p l e R s m args below meth c H locs cells slots Q (F0 m pc ls st0) := by
  obtain ⟨hx, hb, hml, hr, hown, hts, hK, hA, hlk, hE, vE⟩ := Cx
  have hFc := xW.free hD hS hA
  refine va_calll (va_runV (As := As) (rest := rest) ⟨hx, hb, hml, hown, hts⟩ hM cw ⟨xPre.blind vE, hrc, fun U hU hW => ⟨rfl, by rw [hU], by rw [hU]; exact hP, va_K.moved hW.alike hK, hD.weaken (fun _ _ _ _ => trivial), vE.at hE hS hU hW hFc⟩⟩ rfl hn hsize hst (lv_room hR) hdg hf) hS (fun q _ h => hFc q h) hFc (fun r u t H1 locs ht hvm hw hB hz1 hk1 hS => ?_)
  obtain ⟨hP1, hK1, hD1⟩ := hB
  rw [ht] at hP1
  exact kk r u H1 locs hw hP1 (xW.join hP hD hFc hk1 hP1 hD1) hS
theorem xV_v {post : XS → Prop} (Cx : xCx p s m args meth c cc nL rt Ts own E D cA A)
    (hM : Met l y ws rm (va_Pc (.ref a :: As) (xPre E D cA aE ad H.size σ)) (va_Qv post (xAt D cA aE ad (va_A (xW cA aE ad σ) H.size)) (va_A (xW cA aE ad σ) H.size)) 0 0 (va_A (xW cA aE ad σ) H.size))
    (hrc : ∃ cell : Cell, H[a]? = some cell ∧ cell.vm.isStatics = false ∧ s.vm.findClass C = some cell.cls) (cw : CallW R s args own C index y bytes maxL ret ws rm 0 0 n) (hP : va_P D vwCl (xW cA aE ad σ) H) (hD : va_D A (xW cA aE ad σ)) (hS : va_S A s.heap H locs) (hn : As.length = n) (hsize : ls.size = nL) (hst : st0 = As.reverse ++ .ref a :: rest) (hR : (rest.map fun v => v.category).sum ≤ 8) (hdg : decode cc pc = .ok (.invokevirtual index, 3)) (hf : cells ≤ R.cells ∧ slots ≤ R.slots)
    (kk : ∀ (σ' : XS) (H1 : Heap) (locs1 : List Loc), post σ' → va_P D vwCl (xW cA aE ad σ') H1 → va_D A (xW cA aE ad σ') → va_S A s.heap H1 locs1 → W p l e R s m args below meth c H1 locs1 cells slots Q (F0 m (pc + 3) ls (rest))) :
    W p l e R s m args below meth c H locs cells slots Q (F0 m pc ls st0) := by
  obtain ⟨hx, hb, hml, hr, hown, hts, hK, hA, hlk, hE, vE⟩ := Cx
  have hFc := xW.free hD hS hA
  refine va_callv (va_runV (As := As) (rest := rest) ⟨hx, hb, hml, hown, hts⟩ hM cw ⟨xPre.blind vE, hrc, fun U hU hW => ⟨rfl, by rw [hU], by rw [hU]; exact hP, va_K.moved hW.alike hK, hD.weaken (fun _ _ _ _ => trivial), vE.at hE hS hU hW hFc⟩⟩ rfl hn hsize hst (lv_room hR) hdg hf) hS (fun q _ h => hFc q h) hFc (fun u t H1 locs ht hvm hw hB hz1 hk1 hS => ?_)
  obtain ⟨hP1, hK1, hD1⟩ := hB
  rw [ht] at hP1
  exact kk u H1 locs hw hP1 (xW.join hP hD hFc hk1 hP1 hD1) hS
theorem xS_i {post : Int32 → Prop} (Cx : xCx p s m args meth c cc nL rt Ts own E D cA A)
    (hM : Met l y ws rm (va_Pc As (sPre E H.size)) (va_Qi (S := Unit) (fun r _ => post r) (fun _ _ => True) (va_A [] H.size)) 0 0 (va_A [] H.size))
    (cw : CallB R s args own index y bytes maxL ret ws rm 0 0 n ∧ (Cond.static y).before args s = true) (hP : va_P D vwCl (xW cA aE ad σ) H) (hD : va_D A (xW cA aE ad σ)) (hS : va_S A s.heap H locs) (hn : As.length = n) (hsize : ls.size = nL) (hst : st0 = As.reverse ++ rest) (hR : (rest.map fun v => v.category).sum ≤ 8) (hdg : decode cc pc = .ok (.invokestatic index, 3)) (hf : cells ≤ R.cells ∧ slots ≤ R.slots)
    (kk : ∀ (r : Int32) (H1 : Heap) (locs1 : List Loc), post r → va_P D vwCl (xW cA aE ad σ) H1 → va_S A s.heap H1 locs1 → W p l e R s m args below meth c H1 locs1 cells slots Q (F0 m (pc + 3) ls (.int r :: rest))) :
    W p l e R s m args below meth c H locs cells slots Q (F0 m pc ls st0) := by
  obtain ⟨hx, hb, hml, hr, hown, hts, hK, hA, hlk, hE, vE⟩ := Cx
  have hFc : ∀ q, va_A [] H.size q → A q := va_free (wc := []) hD hS hA [] rfl
  refine va_calli (va_runS (As := As) (rest := rest) ⟨hx, hb, hml, hown, hts⟩ hM cw ⟨sPre.blind vE, fun U hU hW => ⟨rfl, by rw [hU], vE.at hE hS hU hW hFc⟩⟩ rfl hn hsize hst (lv_room hR) hdg hf) hS (fun q _ h => hFc q h) hFc (fun r u t H1 locs ht hvm hw hB hz1 hk1 hS => ?_)
  exact kk r H1 locs hw (hP.kept (fun k q hq => hk1 q.1 (hP k q hq).lt (fun z => z.elim (fun ⟨_, _, z⟩ => by simp at z) (fun z => absurd (hP k q hq).lt (Nat.not_lt.mpr z))))) hS
theorem xO_i {post : Int32 → Prop} (Cx : xCx p s m args meth c cc nL rt Ts own E D cA A)
    (hM : Met l y ws rm (va_Pc (.ref a :: As) (sPre E H.size)) (va_Qi (S := Unit) (fun r _ => post r) (fun _ _ => True) (va_A [] H.size)) 0 0 (va_A [] H.size)) (hrc : ∃ cell : Cell, H[a]? = some cell ∧ cell.vm.isStatics = false ∧ s.vm.findClass C = some cell.cls)
    (cw : CallW R s args own C index y bytes maxL ret ws rm 0 0 n) (hP : va_P D vwCl (xW cA aE ad σ) H) (hD : va_D A (xW cA aE ad σ)) (hS : va_S A s.heap H locs) (hn : As.length = n) (hsize : ls.size = nL) (hst : st0 = As.reverse ++ .ref a :: rest) (hR : (rest.map fun v => v.category).sum ≤ 8) (hdg : decode cc pc = .ok (.invokevirtual index, 3)) (hf : cells ≤ R.cells ∧ slots ≤ R.slots)
    (kk : ∀ (r : Int32) (H1 : Heap) (locs1 : List Loc), post r → va_P D vwCl (xW cA aE ad σ) H1 → va_S A s.heap H1 locs1 → W p l e R s m args below meth c H1 locs1 cells slots Q (F0 m (pc + 3) ls (.int r :: rest))) :
    W p l e R s m args below meth c H locs cells slots Q (F0 m pc ls st0) := by
  obtain ⟨hx, hb, hml, hr, hown, hts, hK, hA, hlk, hE, vE⟩ := Cx
  have hFc : ∀ q, va_A [] H.size q → A q := va_free (wc := []) hD hS hA [] rfl
  refine va_calli (va_runV (As := As) (rest := rest) ⟨hx, hb, hml, hown, hts⟩ hM cw ⟨sPre.blind vE, hrc, fun U hU hW => ⟨rfl, by rw [hU], vE.at hE hS hU hW hFc⟩⟩ rfl hn hsize hst (lv_room hR) hdg hf) hS (fun q _ h => hFc q h) hFc (fun r u t H1 locs ht hvm hw hB hz1 hk1 hS => ?_)
  exact kk r H1 locs hw (hP.kept (fun k q hq => hk1 q.1 (hP k q hq).lt (fun z => z.elim (fun ⟨_, _, z⟩ => by simp at z) (fun z => absurd (hP k q hq).lt (Nat.not_lt.mpr z))))) hS
theorem xS_l {post : Int64 → Prop} (Cx : xCx p s m args meth c cc nL rt Ts own E D cA A)
    (hM : Met l y ws rm (va_Pc As (sPre E H.size)) (va_Ql (S := Unit) (fun r _ => post r) (fun _ _ => True) (va_A [] H.size)) 0 0 (va_A [] H.size))
    (cw : CallB R s args own index y bytes maxL ret ws rm 0 0 n ∧ (Cond.static y).before args s = true) (hP : va_P D vwCl (xW cA aE ad σ) H) (hD : va_D A (xW cA aE ad σ)) (hS : va_S A s.heap H locs) (hn : As.length = n) (hsize : ls.size = nL) (hst : st0 = As.reverse ++ rest) (hR : (rest.map fun v => v.category).sum ≤ 8) (hdg : decode cc pc = .ok (.invokestatic index, 3)) (hf : cells ≤ R.cells ∧ slots ≤ R.slots)
    (kk : ∀ (r : Int64) (H1 : Heap) (locs1 : List Loc), post r → va_P D vwCl (xW cA aE ad σ) H1 → va_S A s.heap H1 locs1 → W p l e R s m args below meth c H1 locs1 cells slots Q (F0 m (pc + 3) ls (.long r :: rest))) :
    W p l e R s m args below meth c H locs cells slots Q (F0 m pc ls st0) := by
  obtain ⟨hx, hb, hml, hr, hown, hts, hK, hA, hlk, hE, vE⟩ := Cx
  have hFc : ∀ q, va_A [] H.size q → A q := va_free (wc := []) hD hS hA [] rfl
  refine va_calll (va_runS (As := As) (rest := rest) ⟨hx, hb, hml, hown, hts⟩ hM cw ⟨sPre.blind vE, fun U hU hW => ⟨rfl, by rw [hU], vE.at hE hS hU hW hFc⟩⟩ rfl hn hsize hst (lv_room hR) hdg hf) hS (fun q _ h => hFc q h) hFc (fun r u t H1 locs ht hvm hw hB hz1 hk1 hS => ?_)
  exact kk r H1 locs hw (hP.kept (fun k q hq => hk1 q.1 (hP k q hq).lt (fun z => z.elim (fun ⟨_, _, z⟩ => by simp at z) (fun z => absurd (hP k q hq).lt (Nat.not_lt.mpr z))))) hS
theorem xO_l {post : Int64 → Prop} (Cx : xCx p s m args meth c cc nL rt Ts own E D cA A)
    (hM : Met l y ws rm (va_Pc (.ref a :: As) (sPre E H.size)) (va_Ql (S := Unit) (fun r _ => post r) (fun _ _ => True) (va_A [] H.size)) 0 0 (va_A [] H.size)) (hrc : ∃ cell : Cell, H[a]? = some cell ∧ cell.vm.isStatics = false ∧ s.vm.findClass C = some cell.cls)
    (cw : CallW R s args own C index y bytes maxL ret ws rm 0 0 n) (hP : va_P D vwCl (xW cA aE ad σ) H) (hD : va_D A (xW cA aE ad σ)) (hS : va_S A s.heap H locs) (hn : As.length = n) (hsize : ls.size = nL) (hst : st0 = As.reverse ++ .ref a :: rest) (hR : (rest.map fun v => v.category).sum ≤ 8) (hdg : decode cc pc = .ok (.invokevirtual index, 3)) (hf : cells ≤ R.cells ∧ slots ≤ R.slots)
    (kk : ∀ (r : Int64) (H1 : Heap) (locs1 : List Loc), post r → va_P D vwCl (xW cA aE ad σ) H1 → va_S A s.heap H1 locs1 → W p l e R s m args below meth c H1 locs1 cells slots Q (F0 m (pc + 3) ls (.long r :: rest))) :
    W p l e R s m args below meth c H locs cells slots Q (F0 m pc ls st0) := by
  obtain ⟨hx, hb, hml, hr, hown, hts, hK, hA, hlk, hE, vE⟩ := Cx
  have hFc : ∀ q, va_A [] H.size q → A q := va_free (wc := []) hD hS hA [] rfl
  refine va_calll (va_runV (As := As) (rest := rest) ⟨hx, hb, hml, hown, hts⟩ hM cw ⟨sPre.blind vE, hrc, fun U hU hW => ⟨rfl, by rw [hU], vE.at hE hS hU hW hFc⟩⟩ rfl hn hsize hst (lv_room hR) hdg hf) hS (fun q _ h => hFc q h) hFc (fun r u t H1 locs ht hvm hw hB hz1 hk1 hS => ?_)
  exact kk r H1 locs hw (hP.kept (fun k q hq => hk1 q.1 (hP k q hq).lt (fun z => z.elim (fun ⟨_, _, z⟩ => by simp at z) (fun z => absurd (hP k q hq).lt (Nat.not_lt.mpr z))))) hS
theorem xS_e {post : Option Nat → Prop} (Cx : xCx p s m args meth c cc nL rt Ts own E D cA A)
    (hM : Met l y ws rm (va_Pc As (sPre E H.size)) (va_Qe aE (S := Unit) (fun r _ => post r) (fun _ _ => True) (va_A [] H.size)) 0 0 (va_A [] H.size))
    (cw : CallB R s args own index y bytes maxL ret ws rm 0 0 n ∧ (Cond.static y).before args s = true) (hP : va_P D vwCl (xW cA aE ad σ) H) (hD : va_D A (xW cA aE ad σ)) (hS : va_S A s.heap H locs) (hn : As.length = n) (hsize : ls.size = nL) (hst : st0 = As.reverse ++ rest) (hR : (rest.map fun v => v.category).sum ≤ 8) (hdg : decode cc pc = .ok (.invokestatic index, 3)) (hf : cells ≤ R.cells ∧ slots ≤ R.slots)
    (kk : ∀ (r : Option Nat) (H1 : Heap) (locs1 : List Loc), post r → va_P D vwCl (xW cA aE ad σ) H1 → va_S A s.heap H1 locs1 → W p l e R s m args below meth c H1 locs1 cells slots Q (F0 m (pc + 3) ls (va_re aE r :: rest))) :
    W p l e R s m args below meth c H locs cells slots Q (F0 m pc ls st0) := by
  obtain ⟨hx, hb, hml, hr, hown, hts, hK, hA, hlk, hE, vE⟩ := Cx
  have hFc : ∀ q, va_A [] H.size q → A q := va_free (wc := []) hD hS hA [] rfl
  refine va_calle (va_runS (As := As) (rest := rest) ⟨hx, hb, hml, hown, hts⟩ hM cw ⟨sPre.blind vE, fun U hU hW => ⟨rfl, by rw [hU], vE.at hE hS hU hW hFc⟩⟩ rfl hn hsize hst (lv_room hR) hdg hf) hS (fun q _ h => hFc q h) hFc (fun r u t H1 locs ht hvm hw hB hz1 hk1 hS => ?_)
  exact kk r H1 locs hw (hP.kept (fun k q hq => hk1 q.1 (hP k q hq).lt (fun z => z.elim (fun ⟨_, _, z⟩ => by simp at z) (fun z => absurd (hP k q hq).lt (Nat.not_lt.mpr z))))) hS
theorem xO_e {post : Option Nat → Prop} (Cx : xCx p s m args meth c cc nL rt Ts own E D cA A)
    (hM : Met l y ws rm (va_Pc (.ref a :: As) (sPre E H.size)) (va_Qe aE (S := Unit) (fun r _ => post r) (fun _ _ => True) (va_A [] H.size)) 0 0 (va_A [] H.size)) (hrc : ∃ cell : Cell, H[a]? = some cell ∧ cell.vm.isStatics = false ∧ s.vm.findClass C = some cell.cls)
    (cw : CallW R s args own C index y bytes maxL ret ws rm 0 0 n) (hP : va_P D vwCl (xW cA aE ad σ) H) (hD : va_D A (xW cA aE ad σ)) (hS : va_S A s.heap H locs) (hn : As.length = n) (hsize : ls.size = nL) (hst : st0 = As.reverse ++ .ref a :: rest) (hR : (rest.map fun v => v.category).sum ≤ 8) (hdg : decode cc pc = .ok (.invokevirtual index, 3)) (hf : cells ≤ R.cells ∧ slots ≤ R.slots)
    (kk : ∀ (r : Option Nat) (H1 : Heap) (locs1 : List Loc), post r → va_P D vwCl (xW cA aE ad σ) H1 → va_S A s.heap H1 locs1 → W p l e R s m args below meth c H1 locs1 cells slots Q (F0 m (pc + 3) ls (va_re aE r :: rest))) :
    W p l e R s m args below meth c H locs cells slots Q (F0 m pc ls st0) := by
  obtain ⟨hx, hb, hml, hr, hown, hts, hK, hA, hlk, hE, vE⟩ := Cx
  have hFc : ∀ q, va_A [] H.size q → A q := va_free (wc := []) hD hS hA [] rfl
  refine va_calle (va_runV (As := As) (rest := rest) ⟨hx, hb, hml, hown, hts⟩ hM cw ⟨sPre.blind vE, hrc, fun U hU hW => ⟨rfl, by rw [hU], vE.at hE hS hU hW hFc⟩⟩ rfl hn hsize hst (lv_room hR) hdg hf) hS (fun q _ h => hFc q h) hFc (fun r u t H1 locs ht hvm hw hB hz1 hk1 hS => ?_)
  exact kk r H1 locs hw (hP.kept (fun k q hq => hk1 q.1 (hP k q hq).lt (fun z => z.elim (fun ⟨_, _, z⟩ => by simp at z) (fun z => absurd (hP k q hq).lt (Nat.not_lt.mpr z))))) hS
end WCx
theorem inX0 : ∀ w ∈ u_ws RX0 TX0 5, w ∈ TB := by
  intro w h
  obtain ⟨k, hk, rfl⟩ := List.mem_map.mp h
  have hk := List.mem_range.mp hk
  match k, hk with
  | 0, _ => exact tw_1_160
  | 1, _ => exact tw_1_162
  | 2, _ => exact tw_1_164
  | 3, _ => exact tw_1_166
  | 4, _ => exact tw_1_168
  | n + 5, hk => exact absurd hk (by omega)
theorem inX1 : ∀ w ∈ u_ws RX1 TX1 3, w ∈ TB := by
  intro w h
  obtain ⟨k, hk, rfl⟩ := List.mem_map.mp h
  have hk := List.mem_range.mp hk
  match k, hk with
  | 0, _ => exact tw_1_76
  | 1, _ => exact tw_1_78
  | 2, _ => exact tw_1_80
  | n + 3, hk => exact absurd hk (by omega)
theorem inX3 : ∀ w ∈ u_ws RX3 TX3 8, w ∈ TB := by
  intro w h
  obtain ⟨k, hk, rfl⟩ := List.mem_map.mp h
  have hk := List.mem_range.mp hk
  match k, hk with
  | 0, _ => exact tw_1_123
  | 1, _ => exact tw_1_125
  | 2, _ => exact tw_1_127
  | 3, _ => exact tw_1_129
  | 4, _ => exact tw_1_131
  | 5, _ => exact tw_1_133
  | 6, _ => exact tw_1_135
  | 7, _ => exact tw_1_137
  | n + 8, hk => exact absurd hk (by omega)
theorem inX4 : ∀ w ∈ u_ws RX4 TX4 1, w ∈ TB := by
  intro w h
  obtain ⟨k, hk, rfl⟩ := List.mem_map.mp h
  have hk := List.mem_range.mp hk
  match k, hk with
  | 0, _ => exact tw_1_221
  | n + 1, hk => exact absurd hk (by omega)
theorem inX5 : ∀ w ∈ u_ws RX5 TX5 2, w ∈ TB := by
  intro w h
  obtain ⟨k, hk, rfl⟩ := List.mem_map.mp h
  have hk := List.mem_range.mp hk
  match k, hk with
  | 0, _ => exact tw_1_49
  | 1, _ => exact tw_1_51
  | n + 2, hk => exact absurd hk (by omega)
theorem inX6 : ∀ w ∈ u_ws RX6 TX6 6, w ∈ TB := by
  intro w h
  obtain ⟨k, hk, rfl⟩ := List.mem_map.mp h
  have hk := List.mem_range.mp hk
  match k, hk with
  | 0, _ => exact tw_1_97
  | 1, _ => exact tw_1_99
  | 2, _ => exact tw_1_101
  | 3, _ => exact tw_1_103
  | 4, _ => exact tw_1_105
  | 5, _ => exact tw_1_107
  | n + 6, hk => exact absurd hk (by omega)
theorem inX7 : ∀ w ∈ u_ws RX7 TX7 1, w ∈ TB := by
  intro w h
  obtain ⟨k, hk, rfl⟩ := List.mem_map.mp h
  have hk := List.mem_range.mp hk
  match k, hk with
  | 0, _ => exact tw_1_178
  | n + 1, hk => exact absurd hk (by omega)
theorem inX8 : ∀ w ∈ u_ws RX8 TX8 6, w ∈ TB := by
  intro w h
  obtain ⟨k, hk, rfl⟩ := List.mem_map.mp h
  have hk := List.mem_range.mp hk
  match k, hk with
  | 0, _ => exact tw_1_230
  | 1, _ => exact tw_1_232
  | 2, _ => exact tw_1_234
  | 3, _ => exact tw_1_236
  | 4, _ => exact tw_1_238
  | 5, _ => exact tw_2_0
  | n + 6, hk => exact absurd hk (by omega)
theorem inX9 : ∀ w ∈ u_ws RX9 TX9 32, w ∈ TB := by
  intro w h
  obtain ⟨k, hk, rfl⟩ := List.mem_map.mp h
  have hk := List.mem_range.mp hk
  match k, hk with
  | 0, _ => exact tw_5_142
  | 1, _ => exact tw_5_144
  | 2, _ => exact tw_5_146
  | 3, _ => exact tw_5_148
  | 4, _ => exact tw_5_150
  | 5, _ => exact tw_5_152
  | 6, _ => exact tw_5_154
  | 7, _ => exact tw_5_156
  | 8, _ => exact tw_5_158
  | 9, _ => exact tw_5_160
  | 10, _ => exact tw_5_162
  | 11, _ => exact tw_5_164
  | 12, _ => exact tw_5_166
  | 13, _ => exact tw_5_168
  | 14, _ => exact tw_5_170
  | 15, _ => exact tw_5_172
  | 16, _ => exact tw_5_174
  | 17, _ => exact tw_5_176
  | 18, _ => exact tw_5_178
  | 19, _ => exact tw_5_180
  | 20, _ => exact tw_5_182
  | 21, _ => exact tw_5_184
  | 22, _ => exact tw_5_186
  | 23, _ => exact tw_5_188
  | 24, _ => exact tw_5_190
  | 25, _ => exact tw_5_192
  | 26, _ => exact tw_5_194
  | 27, _ => exact tw_5_196
  | 28, _ => exact tw_5_198
  | 29, _ => exact tw_5_200
  | 30, _ => exact tw_5_202
  | 31, _ => exact tw_5_204
  | n + 32, hk => exact absurd hk (by omega)
theorem inJ4 : ∀ w ∈ u_ws RJ4 TJ4 4, w ∈ TB := by
  intro w h
  obtain ⟨k, hk, rfl⟩ := List.mem_map.mp h
  have hk := List.mem_range.mp hk
  match k, hk with
  | 0, _ => exact tw_1_210
  | 1, _ => exact tw_1_212
  | 2, _ => exact tw_1_214
  | 3, _ => exact tw_1_216
  | n + 4, hk => exact absurd hk (by omega)
theorem inJ0 : ∀ w ∈ u_ws RJ0 TJ0 4, w ∈ TB := by
  intro w h
  obtain ⟨k, hk, rfl⟩ := List.mem_map.mp h
  have hk := List.mem_range.mp hk
  match k, hk with
  | 0, _ => exact tw_3_213
  | 1, _ => exact tw_3_215
  | 2, _ => exact tw_3_217
  | 3, _ => exact tw_3_219
  | n + 4, hk => exact absurd hk (by omega)
