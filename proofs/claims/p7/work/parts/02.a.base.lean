abbrev EnvT : Type := (Nat → Prop) → State → Heap → Prop
/-- what holds of constants and statics all along: it stays when tables warm up, when cells outside A stay, and for a smaller A -/
def EnvOk (E : EnvT) : Prop :=
  (∀ (A : Nat → Prop) (u U : State) (H : Heap), u.WarmedH U.vm → E A u H → E A U H) ∧ (∀ (A : Nat → Prop) (U : State) (H H1 : Heap), (∀ a : Nat, a < H.size → ¬ A a → H1[a]? = H[a]?) → E A U H → E A U H1) ∧ (∀ (A B : Nat → Prop) (U : State) (H : Heap), (∀ q, B q → A q) → E A U H → E B U H)
theorem EnvOk.at {E : EnvT} (vE : EnvOk E) {A B : Nat → Prop} {s U : State} {H : Heap} {locs : List Loc} (hE : E A s s.heap) (hS : va_S A s.heap H locs) (hU : U.heap = H) (hW : s.WarmedH U.vm) (hB : ∀ q, B q → A q) : E B U U.heap := by
  rw [hU]
  exact vE.2.2 _ _ _ _ hB (vE.1 _ _ _ _ hW (vE.2.1 _ _ _ _ (fun a h1 h2 => hS.2.1 a h1 h2) hE))
abbrev sPre (E : EnvT) (sz : Nat) (U : State) : Prop := U.heap.size = sz ∧ E (va_A [] sz) U U.heap
theorem sPre.blind {E : EnvT} (vE : EnvOk E) {sz : Nat} {av : List Value} : FrameBlind (va_Pc av (sPre E sz)) := fun a U g mk q => by
  obtain ⟨q0, q1, qE⟩ := q
  exact ⟨q0, q1, vE.1 _ U (U.calling g mk a) _ (State.WarmedH.refl U) qE⟩
def sCx (p : Program) (s : State) (m : MethodId) (args : Array Value) (meth : Method) (c : Code) (cc : ByteArray) (nL : Nat) (rt : Option FieldType) (Ts : List Cond) (own : String) (E : EnvT) (A : Nat → Prop) : Prop :=
  p.tables.exec = Jvm.exec ∧ c.code = cc ∧ c.maxLocals = nL ∧ meth.sig.returnType = rt ∧ s.vm.findClass own = some m.cls ∧ (∀ w ∈ Ts, w.before args s = true) ∧ (∀ q : Nat, s.heap.size ≤ q → A q) ∧ meth.locks = false ∧ E A s s.heap ∧ EnvOk E
section SC
variable {p : Program} {l : Launch} {e : Env} {R : Room} {s : State} {m : MethodId} {args : Array Value} {below : List Frame} {meth : Method} {c : Code} {H : Heap} {locs : List Loc} {cells slots : Nat} {Q : State → Prop}
variable {E : EnvT} {own C : String} {A : Nat → Prop} {y : MethodName} {bytes : ByteArray} {maxL nL n index pc a : Nat} {ret : Option FieldType} {ws : List Cond} {rm : Room} {Ts : List Cond} {cc : ByteArray} {rt : Option FieldType} {As rest st0 : List Value} {ls : Array Slot}

theorem sS_i {post : Int32 → Prop} (Cx : sCx p s m args meth c cc nL rt Ts own E A)
    (hM : Met l y ws rm (va_Pc As (sPre E H.size)) (va_Qi (S := Unit) (fun r _ => post r) (fun _ _ => True) (va_A [] H.size)) 0 0 (va_A [] H.size))
    (cw : CallB R s args own index y bytes maxL ret ws rm 0 0 n ∧ (Cond.static y).before args s = true) (hS : va_S A s.heap H locs) (hn : As.length = n) (hsize : ls.size = nL) (hst : st0 = As.reverse ++ rest) (hR : (rest.map fun v => v.category).sum ≤ 8) (hdg : decode cc pc = .ok (.invokestatic index, 3)) (hf : cells ≤ R.cells ∧ slots ≤ R.slots)
    (kk : ∀ (r : Int32) (H1 : Heap) (locs1 : List Loc), post r → va_S A s.heap H1 locs1 → W p l e R s m args below meth c H1 locs1 cells slots Q (F0 m (pc + 3) ls (.int r :: rest))) :
    W p l e R s m args below meth c H locs cells slots Q (F0 m pc ls st0) := by
  obtain ⟨hx, hb, hml, hr, hown, hts, hA, hlk, hE, vE⟩ := Cx
  have hFc : ∀ q, va_A [] H.size q → A q := fun q z => z.elim (fun ⟨_, _, z⟩ => by simp at z) (fun z => hA q (Nat.le_trans hS.1 z))
  refine va_calli (va_runS (As := As) (rest := rest) ⟨hx, hb, hml, hown, hts⟩ hM cw ⟨sPre.blind vE, fun U hU hW => ⟨rfl, by rw [hU], vE.at hE hS hU hW hFc⟩⟩ rfl hn hsize hst (lv_room hR) hdg hf) hS (fun q _ h => hFc q h) hFc (fun r u t H1 locs ht hvm hw hB hz1 hk1 hS => ?_)
  exact kk r H1 locs hw hS
theorem sO_i {post : Int32 → Prop} (Cx : sCx p s m args meth c cc nL rt Ts own E A)
    (hM : Met l y ws rm (va_Pc (.ref a :: As) (sPre E H.size)) (va_Qi (S := Unit) (fun r _ => post r) (fun _ _ => True) (va_A [] H.size)) 0 0 (va_A [] H.size)) (hrc : ∃ cell : Cell, H[a]? = some cell ∧ cell.vm.isStatics = false ∧ s.vm.findClass C = some cell.cls)
    (cw : CallW R s args own C index y bytes maxL ret ws rm 0 0 n) (hS : va_S A s.heap H locs) (hn : As.length = n) (hsize : ls.size = nL) (hst : st0 = As.reverse ++ .ref a :: rest) (hR : (rest.map fun v => v.category).sum ≤ 8) (hdg : decode cc pc = .ok (.invokevirtual index, 3)) (hf : cells ≤ R.cells ∧ slots ≤ R.slots)
    (kk : ∀ (r : Int32) (H1 : Heap) (locs1 : List Loc), post r → va_S A s.heap H1 locs1 → W p l e R s m args below meth c H1 locs1 cells slots Q (F0 m (pc + 3) ls (.int r :: rest))) :
    W p l e R s m args below meth c H locs cells slots Q (F0 m pc ls st0) := by
  obtain ⟨hx, hb, hml, hr, hown, hts, hA, hlk, hE, vE⟩ := Cx
  have hFc : ∀ q, va_A [] H.size q → A q := fun q z => z.elim (fun ⟨_, _, z⟩ => by simp at z) (fun z => hA q (Nat.le_trans hS.1 z))
  refine va_calli (va_runV (As := As) (rest := rest) ⟨hx, hb, hml, hown, hts⟩ hM cw ⟨sPre.blind vE, hrc, fun U hU hW => ⟨rfl, by rw [hU], vE.at hE hS hU hW hFc⟩⟩ rfl hn hsize hst (lv_room hR) hdg hf) hS (fun q _ h => hFc q h) hFc (fun r u t H1 locs ht hvm hw hB hz1 hk1 hS => ?_)
  exact kk r H1 locs hw hS
theorem sS_l {post : Int64 → Prop} (Cx : sCx p s m args meth c cc nL rt Ts own E A)
    (hM : Met l y ws rm (va_Pc As (sPre E H.size)) (va_Ql (S := Unit) (fun r _ => post r) (fun _ _ => True) (va_A [] H.size)) 0 0 (va_A [] H.size))
    (cw : CallB R s args own index y bytes maxL ret ws rm 0 0 n ∧ (Cond.static y).before args s = true) (hS : va_S A s.heap H locs) (hn : As.length = n) (hsize : ls.size = nL) (hst : st0 = As.reverse ++ rest) (hR : (rest.map fun v => v.category).sum ≤ 8) (hdg : decode cc pc = .ok (.invokestatic index, 3)) (hf : cells ≤ R.cells ∧ slots ≤ R.slots)
    (kk : ∀ (r : Int64) (H1 : Heap) (locs1 : List Loc), post r → va_S A s.heap H1 locs1 → W p l e R s m args below meth c H1 locs1 cells slots Q (F0 m (pc + 3) ls (.long r :: rest))) :
    W p l e R s m args below meth c H locs cells slots Q (F0 m pc ls st0) := by
  obtain ⟨hx, hb, hml, hr, hown, hts, hA, hlk, hE, vE⟩ := Cx
  have hFc : ∀ q, va_A [] H.size q → A q := fun q z => z.elim (fun ⟨_, _, z⟩ => by simp at z) (fun z => hA q (Nat.le_trans hS.1 z))
  refine va_calll (va_runS (As := As) (rest := rest) ⟨hx, hb, hml, hown, hts⟩ hM cw ⟨sPre.blind vE, fun U hU hW => ⟨rfl, by rw [hU], vE.at hE hS hU hW hFc⟩⟩ rfl hn hsize hst (lv_room hR) hdg hf) hS (fun q _ h => hFc q h) hFc (fun r u t H1 locs ht hvm hw hB hz1 hk1 hS => ?_)
  exact kk r H1 locs hw hS
theorem sO_l {post : Int64 → Prop} (Cx : sCx p s m args meth c cc nL rt Ts own E A)
    (hM : Met l y ws rm (va_Pc (.ref a :: As) (sPre E H.size)) (va_Ql (S := Unit) (fun r _ => post r) (fun _ _ => True) (va_A [] H.size)) 0 0 (va_A [] H.size)) (hrc : ∃ cell : Cell, H[a]? = some cell ∧ cell.vm.isStatics = false ∧ s.vm.findClass C = some cell.cls)
    (cw : CallW R s args own C index y bytes maxL ret ws rm 0 0 n) (hS : va_S A s.heap H locs) (hn : As.length = n) (hsize : ls.size = nL) (hst : st0 = As.reverse ++ .ref a :: rest) (hR : (rest.map fun v => v.category).sum ≤ 8) (hdg : decode cc pc = .ok (.invokevirtual index, 3)) (hf : cells ≤ R.cells ∧ slots ≤ R.slots)
    (kk : ∀ (r : Int64) (H1 : Heap) (locs1 : List Loc), post r → va_S A s.heap H1 locs1 → W p l e R s m args below meth c H1 locs1 cells slots Q (F0 m (pc + 3) ls (.long r :: rest))) :
    W p l e R s m args below meth c H locs cells slots Q (F0 m pc ls st0) := by
  obtain ⟨hx, hb, hml, hr, hown, hts, hA, hlk, hE, vE⟩ := Cx
  have hFc : ∀ q, va_A [] H.size q → A q := fun q z => z.elim (fun ⟨_, _, z⟩ => by simp at z) (fun z => hA q (Nat.le_trans hS.1 z))
  refine va_calll (va_runV (As := As) (rest := rest) ⟨hx, hb, hml, hown, hts⟩ hM cw ⟨sPre.blind vE, hrc, fun U hU hW => ⟨rfl, by rw [hU], vE.at hE hS hU hW hFc⟩⟩ rfl hn hsize hst (lv_room hR) hdg hf) hS (fun q _ h => hFc q h) hFc (fun r u t H1 locs ht hvm hw hB hz1 hk1 hS => ?_)
  exact kk r H1 locs hw hS
theorem q_none {r : Option Nat} {a : Nat → Nat} (h : r = none) (k : W p l e R s m args below meth c H locs cells slots Q (F0 m pc ls (.null :: rest))) : W p l e R s m args below meth c H locs cells slots Q (F0 m pc ls (va_rf (r.map a) :: rest)) := by rw [h]; exact k
theorem q_some {r : Option Nat} {a : Nat → Nat} {e9 : Nat} (h : r = some e9) (k : W p l e R s m args below meth c H locs cells slots Q (F0 m pc ls (.ref (a e9) :: rest))) : W p l e R s m args below meth c H locs cells slots Q (F0 m pc ls (va_rf (r.map a) :: rest)) := by rw [h]; exact k
end SC
