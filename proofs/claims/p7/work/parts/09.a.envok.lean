/-! What holds of constants all along: parts of an environment, put together -/
theorem EnvOk.and {E1 E2 : EnvT} (h1 : EnvOk E1) (h2 : EnvOk E2) : EnvOk (fun A U H => E1 A U H ∧ E2 A U H) := ⟨fun A u U H w h => ⟨h1.1 A u U H w h.1, h2.1 A u U H w h.2⟩, fun A U H H1 k h => ⟨h1.2.1 A U H H1 k h.1, h2.2.1 A U H H1 k h.2⟩, fun A B U H q h => ⟨h1.2.2 A B U H q h.1, h2.2.2 A B U H q h.2⟩⟩
theorem EnvOk.all {ι : Type} {E : ι → EnvT} (h : ∀ i, EnvOk (E i)) : EnvOk (fun A U H => ∀ i, E i A U H) := ⟨fun A u U H w q i => (h i).1 A u U H w (q i), fun A U H H1 k q i => (h i).2.1 A U H H1 k (q i), fun A B U H z q i => (h i).2.2 A B U H z (q i)⟩
theorem EnvOk.imp {p : Prop} {E : EnvT} (h : p → EnvOk E) : EnvOk (fun A U H => p → E A U H) := ⟨fun A u U H w q i => (h i).1 A u U H w (q i), fun A U H H1 k q i => (h i).2.1 A U H H1 k (q i), fun A B U H z q i => (h i).2.2 A B U H z (q i)⟩
theorem EnvOk.cst (p : Prop) : EnvOk (fun _ _ _ => p) := ⟨fun _ _ _ _ _ h => h, fun _ _ _ _ _ h => h, fun _ _ _ _ _ h => h⟩
theorem ok_Z {C n d : String} {v : Value} : EnvOk (va_Z C n d v) := ⟨fun _ _ _ _ w h => va_Z.moved w.alike h, fun _ _ _ _ k h => va_Z.kept h k, fun _ _ _ _ q h => va_Z.narrow h q⟩
theorem ok_Zq {C n d : String} : EnvOk (vx_Zq C n d) := ⟨fun _ _ _ _ w h => vx_Zq.moved w.alike h, fun _ _ _ _ k h => vx_Zq.kept h k, fun _ _ _ _ q h => vx_Zq.narrow h q⟩
theorem ok_vZq {C n d : String} : EnvOk (va_Zq C n d) := ⟨fun _ _ _ _ w h => va_Zq.moved w.alike h, fun _ _ _ _ k h => va_Zq.kept h k, fun _ _ _ _ q h => va_Zq.narrow h q⟩
theorem ok_O {C : String} {t : Nat} : EnvOk (va_O C t) := ⟨fun _ _ _ _ w h => va_O.moved w.alike h, fun _ _ _ _ k h => va_O.kept h k, fun _ _ _ _ q h => va_O.narrow h q⟩
theorem ok_OF {o n d : String} {v : Value} {t : Nat} : EnvOk (va_OF o n d v t) := ⟨fun _ _ _ _ w h => va_OF.moved w.alike h, fun _ _ _ _ k h => va_OF.kept h k, fun _ _ _ _ q h => va_OF.narrow h q⟩
theorem ok_T {ty : FieldType} {t N : Nat} {f : Nat → Value} : EnvOk (va_T ty t N f) := ⟨fun _ _ _ _ w h => va_T.moved w.alike h, fun _ _ _ _ k h => va_T.kept h k, fun _ _ _ _ q h => va_T.narrow h q⟩
theorem ok_R {own tx : String} {k a : Nat} : EnvOk (fun _ U _ => vk_R own k tx a U) := ⟨fun _ _ _ _ w h => vk_R.warm w h, fun _ _ _ _ _ h => h, fun _ _ _ _ _ h => h⟩
theorem ok_AO {C : String} : EnvOk (fun _ U _ => va_AO C U) := ⟨fun _ _ _ _ w h => va_AO.moved w.alike h, fun _ _ _ _ _ h => h, fun _ _ _ _ _ h => h⟩
theorem ok_NF {a : String} {i : Nat} {b n d h : String} : EnvOk (fun _ U _ => va_Nw (.fieldLinkNest a i b n d h) U) := ⟨fun _ _ _ _ w q => va_Nw.warmF w q, fun _ _ _ _ _ h => h, fun _ _ _ _ _ h => h⟩
theorem ok_NM {a : String} {i : Nat} {x : MethodName} {h : String} : EnvOk (fun _ U _ => va_Nw (.methodLinkNest a i x h) U) := ⟨fun _ _ _ _ w q => va_Nw.warmM w q, fun _ _ _ _ _ h => h, fun _ _ _ _ _ h => h⟩
theorem ok_Nw {w : Cond} (hw : w.onTables = true) (hb : w.warmB w.codeNames = true) : EnvOk (fun _ U _ => va_Nw w U) := ⟨fun _ u U _ q h => va_tabs (u := u.setVm U.vm) hw rfl (Cond.pre_warmed (args := #[]) q hb h), fun _ _ _ _ _ h => h, fun _ _ _ _ _ h => h⟩
theorem ok_sF {N : Nat} {len : List Nat} {byt : List (List Int32)} {aK aV : Nat → Nat} : EnvOk (sF N len byt aK aV) := by
  unfold sF
  exact EnvOk.and (EnvOk.all fun i => EnvOk.imp fun _ => EnvOk.and ok_O (EnvOk.and ok_OF (EnvOk.and ok_OF ok_T))) (EnvOk.and ok_Z ok_vZq)
