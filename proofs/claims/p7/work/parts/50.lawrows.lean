/-! the law's world: the class, the reference, the row of one long (printed by wip/tools/mklaw.py) -/
/-! THE CLAIM OUT OF ONE WALK OF THE LAW'S BODY. Your part is whole_start (and what it stands on); all else here is the same for every law, but numbers. -/
def R_law : String := "KernelTextLaw"
def lw_P (b : Addr) (xs : List Int32) (args : Array Value) (s : State) : Prop := args = #[.ref b] ∧ s.IntsAt b xs ∧ xs.length ≤ 2048 ∧ (Jvm.Cond.and given_1 narrow_1).before args s = true
def lw_Q (_ : Array Value) (s : State) (o : Outcome) (t : State) : Prop := o = .returned (some (.int 1)) ∧ Framed s o t [] 601024 7293034
def lw_Z (below : List Frame) (a : Array Value) (s : State) : State → Prop := fun t => ∃ o, t.status = .running ∧ Ended t below o ∧ lw_Q a s o t
/-- the law's own end, with 1 on the stack, nothing written that was there before, its room as the claim has it -/
theorem lw_ret {p : Program} {l : Launch} {e : Env} {s : State} {m : MethodId} {below : List Frame} {meth : Method} {c : Code} {b : Nat} (hx : p.tables.exec = Jvm.exec) (hb : c.code = code) (hr : meth.sig.returnType = ret) (hlocks : meth.locks = false) {pc : Nat} {H : Heap} {ls : Array Slot} (hdg : decode code pc = .ok (.ireturn, 1)) : W p l e room_1 s m #[Value.ref b] below meth c H [] 601024 7293034 (lw_Z below #[Value.ref b] s) (F0 m pc ls [.int 1]) := by
  intro T hT X
  obtain ⟨fs, hret, hrun, hended, hW, hframe⟩ := X.leave (v := some (.int 1)) (hlocks := hlocks) (fun h => by rw [hr] at h; cases h)
  have hmeth' : T.vm.method? m = some meth := X.method'
  refine ⟨T.setFrames fs, ?_, .returned (some (.int 1)), hrun, hended, rfl, ⟨_, rfl⟩, hW, hframe⟩
  jvm_step X.here [X.here.top, hx, hb, hdg, hmeth', hr, ret, narrow_b1]
  (try refine ⟨rfl, ?_⟩); (try refine ⟨rfl, ?_⟩)
  first | (intro acts; rw [hret _ acts rfl rfl rfl]) | rw [hret _ _ rfl rfl rfl]
  exact Steps.refl _
/-- what holds at the law's entry: the machine, the code, the tables' words (any of lw_tbl by 'hts w (by decide +kernel)'), the script of L ints xs at the cell b, what the Statement gives of the start (any of its parts by flat_of_before) -/
def lw_At (p : Program) (s : State) (m : MethodId) (meth : Method) (c : Code) (b L : Nat) (xs : Nat → Int32) : Prop :=
  p.tables.exec = Jvm.exec ∧ c.code = code ∧ meth.sig.returnType = ret ∧ c.maxLocals = 8 ∧ s.vm.findClass R_law = some m.cls ∧ (∀ w ∈ lw_tbl, w.before #[Value.ref b] s = true) ∧ va_X b L xs s s.heap ∧ b < s.heap.size ∧ meth.locks = false ∧ (Jvm.Cond.and given_1 narrow_1).before #[Value.ref b] s = true
def oW (cA : Nat → ClassId) (ao : Nat) (f : Nat → Int64) : va_W := [(ao, .inl (cA 1, 1, .inr (.inl f)))]
def lW (cA : Nat → ClassId) (aE ad : Nat → Nat) (cB : Nat → ClassId) (hB : Nat) (bd : Nat → Nat) (ao : Nat) (σ : XS) (β : BS) (τ : MS) (f : Nat → Int64) : va_W := xzW cA aE ad σ β ++ (mW cB hB bd τ ++ oW cA ao f)
def hW (cA : Nat → ClassId) (aE ad : Nat → Nat) (ao : Nat) (σ : XS) (f : Nat → Int64) : va_W := xW cA aE ad σ ++ oW cA ao f
abbrev lG (D : va_G) (cA : Nat → ClassId) (aE ad : Nat → Nat) (cB : Nat → ClassId) (hB : Nat) (bd : Nat → Nat) (ao : Nat) (s : State) (σ : XS) (β : BS) (τ : MS) (f : Nat → Int64) (H : Heap) (locs : List Loc) : Prop := va_P D vwCl (lW cA aE ad cB hB bd ao σ β τ f) H ∧ va_D (fun q : Nat => s.heap.size ≤ q) (lW cA aE ad cB hB bd ao σ β τ f) ∧ va_S (fun q : Nat => s.heap.size ≤ q) s.heap H locs
theorem tc_compile : Cond.codeWith yL_compile cL_compile 3 (some .int) [(0, 8, 11, 13)] ∈ TB := tb_4 (List.mem_of_getElem? (i := 144) rfl) rfl
def rmL_compile : Room := { frames := 9, cells := 1, slots := 6, locals := 204 }
abbrev wgL_compile : List Cond := .codeWith yL_compile cL_compile 3 (some .int) [(0, 8, 11, 13)] :: TB
set_option maxHeartbeats 4000000 in
set_option maxRecDepth 100000 in
theorem met_L_compile {l : Launch} {E : EnvT} (vE : EnvOk E) {aK aV aE : Nat → Nat} {aO : Nat} (vM : eXs aK aV aE aO E) (vC : eCs E) (hst : l.stackTraces = false) {D : va_G} {cA : Nat → ClassId} {ad : Nat → Nat} {ao sz : Nat} {σ : XS} {f : Nat → Int64} {post : Int32 → XS × (Nat → Int64) → Prop}
    (hw : wp_X8_compile (fun r σ' => post 0 (σ', vp_updL f 0 r.toInt64)) (fun σ' => post 1 (σ', f)) σ) :
    Met l yL_compile wgL_compile rmL_compile (va_Pc [.ref (ad 0), .ref ao] (gPre E D cA sz (hW cA aE ad ao σ f))) (va_Qi post (fun u t => gAt D cA (va_A (hW cA aE ad ao σ f) sz) (hW cA aE ad ao u.1 u.2) t) (va_A (hW cA aE ad ao σ f) sz)) 1 6 (va_A (hW cA aE ad ao σ f) sz) := by
  refine va_MetW (cc := cL_compile) (maxL := 3) (ret := some .int) (hh := [(0, 8, 11, 13)]) (by decide) rfl ?_
  intro p e s m args below meth c s₁ B hml hv
  obtain ⟨rfl, hsz, hP, hK, hD0, hE⟩ := hv
  have hx := B.exec
  have hb := B.bytes
  have hr := B.returns
  have hts := atoms_spec (ws := wgL_compile) B.pre
  have hown : s.vm.findClass RL = some m.cls := findClass_of_methodNamed B.named
  have hlk := B.notSynchronized
  have htab : c.exceptionTable.toList = tableOf [(0, 8, 11, 13)] := vx_table (x := yL_compile) B (hts _ List.mem_cons_self)
  subst hsz
  have hD := hD0.self (sz := s.heap.size)
  generalize hAe : va_A (hW cA aE ad ao σ f) s.heap.size = A at hD hE ⊢
  have hA : ∀ q : Nat, s.heap.size ≤ q → A q := fun q h => by rw [← hAe]; exact Or.inr h
  have hS : va_S A s.heap s.heap [] := va_S.rf
  have hl := lv_entry ([.ref (ad 0), .ref ao]) (n := 3) (Nat.le_of_ble_eq_true rfl)
  rw [lg_entry_eq]
  generalize (lg_sl ([.ref (ad 0), .ref ao]) ++ List.replicate (3 - (lg_sl ([.ref (ad 0), .ref ao])).length) Slot.unset).toArray = ls at hl ⊢
  have hl : lv_has ls 3 [(0, .ref (ad 0)), (1, .ref ao)] := hl
  refine lv_aload_n hx hb dL_compile_0 rfl (lv_at hl 1 rfl) ?_
  refine lv_iconst (v := 0) hx hb dL_compile_1 (by decide) ?_
  refine lv_aload_n hx hb dL_compile_2 rfl (lv_at hl 0 rfl) ?_
  have hPc : va_P D vwCl (xW cA aE ad σ) s.heap := hP.sub [0, 1, 2, 3, 4, 5, 6, 7, 8, 9, 10, 11, 12, 13, 14, 15, 16, 17, 18, 19, 20, 21, 22, 23] rfl
  have hDc : va_D A (xW cA aE ad σ) := hD.sub [0, 1, 2, 3, 4, 5, 6, 7, 8, 9, 10, 11, 12, 13, 14, 15, 16, 17, 18, 19, 20, 21, 22, 23] (by decide) rfl
  have hFc : ∀ q, va_A (xW cA aE ad σ) s.heap.size q → A q := va_free (wc := xW cA aE ad σ) hD hS hA [0, 1, 2, 3, 4, 5, 6, 7, 8, 9, 10, 11, 12, 13, 14, 15, 16, 17, 18, 19, 20, 21, 22, 23] rfl
  refine vx_calli (vx_runV (As := []) (rest := [.int 0, .ref ao]) ⟨hx, hb, hml, hown, hts⟩ (met_X8_compile vE vM hst hw) (cwV 0 hts (TB_G (TB_4 tw_4_146 tw_4_147 tw_4_148 tw_1_1) tw_4_149) rfl rfl rfl (by decide +kernel) ⟨by decide, by decide⟩) ⟨xPre.blind vE, va_recv hK hPc (ci := 10) (q0 := 0) rfl rfl, fun U hU hW => ⟨rfl, by rw [hU], by rw [hU]; exact hPc, va_K.moved hW.alike hK, hDc.weaken (fun _ _ _ _ => trivial), vE.at hE hS hU hW hFc⟩⟩ rfl rfl hl.1 rfl (lv_room (Nat.le_of_ble_eq_true rfl)) dL_compile_3 ⟨by decide, by decide⟩) hS (fun q _ h => hFc q h) hFc (fun q _ h => hFc q h) ?_ ?_
  · intro En ce q9 u t H1 locs ht hvm hw hB hz1 hk1 hS hce hcv hcl
    obtain ⟨rfl, hP1, hK1, hD1⟩ := hB
    rw [ht] at hP1
    obtain ⟨hP, hD⟩ := va_join (wr := oW cA ao f) (w1 := xW cA aE ad u) hP hD [0, 1, 2, 3, 4, 5, 6, 7, 8, 9, 10, 11, 12, 13, 14, 15, 16, 17, 18, 19, 20, 21, 22, 23] [24] rfl rfl (by decide) (by decide) hk1 hFc hP1 hD1
    have hP : va_P D vwCl (hW cA aE ad ao u f) H1 := hP.sub [1, 2, 3, 4, 5, 6, 7, 8, 9, 10, 11, 12, 13, 14, 15, 16, 17, 18, 19, 20, 21, 22, 23, 24, 0] rfl
    have hD : va_D A (hW cA aE ad ao u f) := hD.sub [1, 2, 3, 4, 5, 6, 7, 8, 9, 10, 11, 12, 13, 14, 15, 16, 17, 18, 19, 20, 21, 22, 23, 24, 0] (by decide) rfl
    refine vx_catch1 (x := ⟨0, 8, 11, 13⟩) (own := RL) (name := "java/lang/IllegalArgumentException") (E := "java/lang/IllegalArgumentException") hown (htab.trans rfl) (by decide) (by decide) (hts _ (List.mem_cons_of_mem _ tw_4_145)) (va_Nw.use rfl (vC _ _ _ hE).1) hce hcv hcl ?_
    refine lv_astore_n (lv' := (2, .ref q9) :: [(0, .ref (ad 0)), (1, .ref ao)]) hx hb dL_compile_11 rfl hl (by decide) rfl (fun ls hl => ?_)
    refine lv_iconst (v := 1) hx hb dL_compile_12 (by decide) ?_
    refine W.widen (k := 1) (n := 6) (by decide) (by decide) ?_
    exact W.iret (v := 1) hx hb hr (fun t ht hW => ⟨⟨1, (u, f), rfl, hw, by rw [ht]; exact hP, va_K.moved hW.alike hK, hD⟩, hS.F ht⟩) hS.2.2 dL_compile_13 hlk
  · intro r u t H1 locs ht hvm hw hB hz1 hk1 hS
    obtain ⟨hP1, hK1, hD1⟩ := hB
    rw [ht] at hP1
    obtain ⟨hP, hD⟩ := va_join (wr := oW cA ao f) (w1 := xW cA aE ad u) hP hD [0, 1, 2, 3, 4, 5, 6, 7, 8, 9, 10, 11, 12, 13, 14, 15, 16, 17, 18, 19, 20, 21, 22, 23] [24] rfl rfl (by decide) (by decide) hk1 hFc hP1 hD1
    have hP : va_P D vwCl (hW cA aE ad ao u f) H1 := hP.sub [1, 2, 3, 4, 5, 6, 7, 8, 9, 10, 11, 12, 13, 14, 15, 16, 17, 18, 19, 20, 21, 22, 23, 24, 0] rfl
    have hD : va_D A (hW cA aE ad ao u f) := hD.sub [1, 2, 3, 4, 5, 6, 7, 8, 9, 10, 11, 12, 13, 14, 15, 16, 17, 18, 19, 20, 21, 22, 23, 24, 0] (by decide) rfl
    refine lv_i2l hx hb dL_compile_6 rfl ?_
    refine va_last hx hb hK hP hD hS 24 1 rfl rfl (by unfold vp_in; decide) dL_compile_7 (fun H locs hP hD hS => ?_)
    have hP : va_P D vwCl (hW cA aE ad ao u (vp_updL f 0 r.toInt64)) H := hP
    have hD : va_D A (hW cA aE ad ao u (vp_updL f 0 r.toInt64)) := hD
    refine lv_goto (tgt := 14) hx hb dL_compile_8 (by decide) ?_
    refine lv_iconst (v := 0) hx hb dL_compile_14 (by decide) ?_
    refine W.widen (k := 1) (n := 6) (by decide) (by decide) ?_
    exact W.iret (v := 0) hx hb hr (fun t ht hW => ⟨⟨0, (u, vp_updL f 0 r.toInt64), rfl, hw, by rw [ht]; exact hP, va_K.moved hW.alike hK, hD⟩, hS.F ht⟩) hS.2.2 dL_compile_15 hlk
theorem tc_word : Cond.codeWith yL_word cL_word 4 (some .int) [(0, 8, 11, 19)] ∈ TB := tb_5 (List.mem_of_getElem? (i := 73) rfl) rfl
def rmL_word : Room := { frames := 8, cells := 1, slots := 6, locals := 141 }
abbrev wgL_word : List Cond := .codeWith yL_word cL_word 4 (some .int) [(0, 8, 11, 19)] :: TB
set_option maxHeartbeats 4000000 in
set_option maxRecDepth 100000 in
theorem met_L_word {l : Launch} {E : EnvT} (vE : EnvOk E) {aK aV aE : Nat → Nat} {aO : Nat} (vM : eXs aK aV aE aO E) (vC : eCs E) (hst : l.stackTraces = false) {D : va_G} {cA : Nat → ClassId} {ad : Nat → Nat} {ao sz : Nat} {σ : XS} {f : Nat → Int64} {x1 : Int32} {post : Int32 → XS × (Nat → Int64) → Prop}
    (hw : wp_X8_word (fun r σ' => post 0 (σ', vp_updL f 0 r)) (fun σ' => post 1 (σ', f)) x1 σ) :
    Met l yL_word wgL_word rmL_word (va_Pc [.ref (ad 0), .int x1, .ref ao] (gPre E D cA sz (hW cA aE ad ao σ f))) (va_Qi post (fun u t => gAt D cA (va_A (hW cA aE ad ao σ f) sz) (hW cA aE ad ao u.1 u.2) t) (va_A (hW cA aE ad ao σ f) sz)) 1 6 (va_A (hW cA aE ad ao σ f) sz) := by
  refine va_MetW (cc := cL_word) (maxL := 4) (ret := some .int) (hh := [(0, 8, 11, 19)]) (by decide) rfl ?_
  intro p e s m args below meth c s₁ B hml hv
  obtain ⟨rfl, hsz, hP, hK, hD0, hE⟩ := hv
  have hx := B.exec
  have hb := B.bytes
  have hr := B.returns
  have hts := atoms_spec (ws := wgL_word) B.pre
  have hown : s.vm.findClass RL = some m.cls := findClass_of_methodNamed B.named
  have hlk := B.notSynchronized
  have htab : c.exceptionTable.toList = tableOf [(0, 8, 11, 19)] := vx_table (x := yL_word) B (hts _ List.mem_cons_self)
  subst hsz
  have hD := hD0.self (sz := s.heap.size)
  generalize hAe : va_A (hW cA aE ad ao σ f) s.heap.size = A at hD hE ⊢
  have hA : ∀ q : Nat, s.heap.size ≤ q → A q := fun q h => by rw [← hAe]; exact Or.inr h
  have hS : va_S A s.heap s.heap [] := va_S.rf
  have hl := lv_entry ([.ref (ad 0), .int x1, .ref ao]) (n := 4) (Nat.le_of_ble_eq_true rfl)
  rw [lg_entry_eq]
  generalize (lg_sl ([.ref (ad 0), .int x1, .ref ao]) ++ List.replicate (4 - (lg_sl ([.ref (ad 0), .int x1, .ref ao])).length) Slot.unset).toArray = ls at hl ⊢
  have hl : lv_has ls 4 [(0, .ref (ad 0)), (1, .int x1), (2, .ref ao)] := hl
  refine lv_aload_n hx hb dL_word_0 rfl (lv_at hl 2 rfl) ?_
  refine lv_iconst (v := 0) hx hb dL_word_1 (by decide) ?_
  refine lv_aload_n hx hb dL_word_2 rfl (lv_at hl 0 rfl) ?_
  refine lv_iload_n hx hb dL_word_3 rfl (lv_at hl 1 rfl) ?_
  have hPc : va_P D vwCl (xW cA aE ad σ) s.heap := hP.sub [0, 1, 2, 3, 4, 5, 6, 7, 8, 9, 10, 11, 12, 13, 14, 15, 16, 17, 18, 19, 20, 21, 22, 23] rfl
  have hDc : va_D A (xW cA aE ad σ) := hD.sub [0, 1, 2, 3, 4, 5, 6, 7, 8, 9, 10, 11, 12, 13, 14, 15, 16, 17, 18, 19, 20, 21, 22, 23] (by decide) rfl
  have hFc : ∀ q, va_A (xW cA aE ad σ) s.heap.size q → A q := va_free (wc := xW cA aE ad σ) hD hS hA [0, 1, 2, 3, 4, 5, 6, 7, 8, 9, 10, 11, 12, 13, 14, 15, 16, 17, 18, 19, 20, 21, 22, 23] rfl
  refine vx_calll (vx_runV (As := [.int x1]) (rest := [.int 0, .ref ao]) ⟨hx, hb, hml, hown, hts⟩ (met_X8_word vE vM hst hw) (cwV 1 hts (TB_G (TB_4 tw_5_75 tw_5_76 tw_5_77 tw_1_1) tw_5_78) rfl rfl rfl (by decide +kernel) ⟨by decide, by decide⟩) ⟨xPre.blind vE, va_recv hK hPc (ci := 10) (q0 := 0) rfl rfl, fun U hU hW => ⟨rfl, by rw [hU], by rw [hU]; exact hPc, va_K.moved hW.alike hK, hDc.weaken (fun _ _ _ _ => trivial), vE.at hE hS hU hW hFc⟩⟩ rfl rfl hl.1 rfl (lv_room (Nat.le_of_ble_eq_true rfl)) dL_word_4 ⟨by decide, by decide⟩) hS (fun q _ h => hFc q h) hFc (fun q _ h => hFc q h) ?_ ?_
  · intro En ce q9 u t H1 locs ht hvm hw hB hz1 hk1 hS hce hcv hcl
    obtain ⟨rfl, hP1, hK1, hD1⟩ := hB
    rw [ht] at hP1
    obtain ⟨hP, hD⟩ := va_join (wr := oW cA ao f) (w1 := xW cA aE ad u) hP hD [0, 1, 2, 3, 4, 5, 6, 7, 8, 9, 10, 11, 12, 13, 14, 15, 16, 17, 18, 19, 20, 21, 22, 23] [24] rfl rfl (by decide) (by decide) hk1 hFc hP1 hD1
    have hP : va_P D vwCl (hW cA aE ad ao u f) H1 := hP.sub [1, 2, 3, 4, 5, 6, 7, 8, 9, 10, 11, 12, 13, 14, 15, 16, 17, 18, 19, 20, 21, 22, 23, 24, 0] rfl
    have hD : va_D A (hW cA aE ad ao u f) := hD.sub [1, 2, 3, 4, 5, 6, 7, 8, 9, 10, 11, 12, 13, 14, 15, 16, 17, 18, 19, 20, 21, 22, 23, 24, 0] (by decide) rfl
    refine vx_catch1 (x := ⟨0, 8, 11, 19⟩) (own := RL) (name := "java/util/NoSuchElementException") (E := "java/util/NoSuchElementException") hown (htab.trans rfl) (by decide) (by decide) (hts _ (List.mem_cons_of_mem _ tw_5_74)) (va_Nw.use rfl (vC _ _ _ hE).2) hce hcv hcl ?_
    refine lv_astore_n (lv' := (3, .ref q9) :: [(0, .ref (ad 0)), (1, .int x1), (2, .ref ao)]) hx hb dL_word_11 rfl hl (by decide) rfl (fun ls hl => ?_)
    refine lv_iconst (v := 1) hx hb dL_word_12 (by decide) ?_
    refine W.widen (k := 1) (n := 6) (by decide) (by decide) ?_
    exact W.iret (v := 1) hx hb hr (fun t ht hW => ⟨⟨1, (u, f), rfl, hw, by rw [ht]; exact hP, va_K.moved hW.alike hK, hD⟩, hS.F ht⟩) hS.2.2 dL_word_13 hlk
  · intro r u t H1 locs ht hvm hw hB hz1 hk1 hS
    obtain ⟨hP1, hK1, hD1⟩ := hB
    rw [ht] at hP1
    obtain ⟨hP, hD⟩ := va_join (wr := oW cA ao f) (w1 := xW cA aE ad u) hP hD [0, 1, 2, 3, 4, 5, 6, 7, 8, 9, 10, 11, 12, 13, 14, 15, 16, 17, 18, 19, 20, 21, 22, 23] [24] rfl rfl (by decide) (by decide) hk1 hFc hP1 hD1
    have hP : va_P D vwCl (hW cA aE ad ao u f) H1 := hP.sub [1, 2, 3, 4, 5, 6, 7, 8, 9, 10, 11, 12, 13, 14, 15, 16, 17, 18, 19, 20, 21, 22, 23, 24, 0] rfl
    have hD : va_D A (hW cA aE ad ao u f) := hD.sub [1, 2, 3, 4, 5, 6, 7, 8, 9, 10, 11, 12, 13, 14, 15, 16, 17, 18, 19, 20, 21, 22, 23, 24, 0] (by decide) rfl
    refine va_last hx hb hK hP hD hS 24 1 rfl rfl (by unfold vp_in; decide) dL_word_7 (fun H locs hP hD hS => ?_)
    have hP : va_P D vwCl (hW cA aE ad ao u (vp_updL f 0 r)) H := hP
    have hD : va_D A (hW cA aE ad ao u (vp_updL f 0 r)) := hD
    refine lv_goto (tgt := 14) hx hb dL_word_8 (by decide) ?_
    refine lv_iconst (v := 0) hx hb dL_word_14 (by decide) ?_
    refine W.widen (k := 1) (n := 6) (by decide) (by decide) ?_
    exact W.iret (v := 0) hx hb hr (fun t ht hW => ⟨⟨0, (u, vp_updL f 0 r), rfl, hw, by rw [ht]; exact hP, va_K.moved hW.alike hK, hD⟩, hS.F ht⟩) hS.2.2 dL_word_15 hlk
theorem tc_name : Cond.codeWith yL_name cL_name 5 (some .int) [(0, 9, 12, 19)] ∈ TB := tb_5 (List.mem_of_getElem? (i := 97) rfl) rfl
def rmL_name : Room := { frames := 8, cells := 1, slots := 6, locals := 143 }
abbrev wgL_name : List Cond := .codeWith yL_name cL_name 5 (some .int) [(0, 9, 12, 19)] :: TB
set_option maxHeartbeats 4000000 in
set_option maxRecDepth 100000 in
theorem met_L_name {l : Launch} {E : EnvT} (vE : EnvOk E) {aK aV aE : Nat → Nat} {aO : Nat} (vM : eXs aK aV aE aO E) (vC : eCs E) (hst : l.stackTraces = false) {D : va_G} {cA : Nat → ClassId} {ad : Nat → Nat} {ao sz : Nat} {σ : XS} {f : Nat → Int64} {x1 : Int64} {post : Int32 → XS × (Nat → Int64) → Prop}
    (hw : wp_X8_name (fun r σ' => post 0 (σ', vp_updL f 0 r.toInt64)) (fun σ' => post 1 (σ', f)) x1 σ) :
    Met l yL_name wgL_name rmL_name (va_Pc [.ref (ad 0), .long x1, .ref ao] (gPre E D cA sz (hW cA aE ad ao σ f))) (va_Qi post (fun u t => gAt D cA (va_A (hW cA aE ad ao σ f) sz) (hW cA aE ad ao u.1 u.2) t) (va_A (hW cA aE ad ao σ f) sz)) 1 6 (va_A (hW cA aE ad ao σ f) sz) := by
  refine va_MetW (cc := cL_name) (maxL := 5) (ret := some .int) (hh := [(0, 9, 12, 19)]) (by decide) rfl ?_
  intro p e s m args below meth c s₁ B hml hv
  obtain ⟨rfl, hsz, hP, hK, hD0, hE⟩ := hv
  have hx := B.exec
  have hb := B.bytes
  have hr := B.returns
  have hts := atoms_spec (ws := wgL_name) B.pre
  have hown : s.vm.findClass RL = some m.cls := findClass_of_methodNamed B.named
  have hlk := B.notSynchronized
  have htab : c.exceptionTable.toList = tableOf [(0, 9, 12, 19)] := vx_table (x := yL_name) B (hts _ List.mem_cons_self)
  subst hsz
  have hD := hD0.self (sz := s.heap.size)
  generalize hAe : va_A (hW cA aE ad ao σ f) s.heap.size = A at hD hE ⊢
  have hA : ∀ q : Nat, s.heap.size ≤ q → A q := fun q h => by rw [← hAe]; exact Or.inr h
  have hS : va_S A s.heap s.heap [] := va_S.rf
  have hl := lv_entry ([.ref (ad 0), .long x1, .ref ao]) (n := 5) (Nat.le_of_ble_eq_true rfl)
  rw [lg_entry_eq]
  generalize (lg_sl ([.ref (ad 0), .long x1, .ref ao]) ++ List.replicate (5 - (lg_sl ([.ref (ad 0), .long x1, .ref ao])).length) Slot.unset).toArray = ls at hl ⊢
  have hl : lv_has ls 5 [(0, .ref (ad 0)), (1, .long x1), (3, .ref ao)] := hl
  refine lv_aload_n hx hb dL_name_0 rfl (lv_at hl 2 rfl) ?_
  refine lv_iconst (v := 0) hx hb dL_name_1 (by decide) ?_
  refine lv_aload_n hx hb dL_name_2 rfl (lv_at hl 0 rfl) ?_
  refine lv_lload_n hx hb dL_name_3 rfl (lv_at hl 1 rfl) ?_
  have hPc : va_P D vwCl (xW cA aE ad σ) s.heap := hP.sub [0, 1, 2, 3, 4, 5, 6, 7, 8, 9, 10, 11, 12, 13, 14, 15, 16, 17, 18, 19, 20, 21, 22, 23] rfl
  have hDc : va_D A (xW cA aE ad σ) := hD.sub [0, 1, 2, 3, 4, 5, 6, 7, 8, 9, 10, 11, 12, 13, 14, 15, 16, 17, 18, 19, 20, 21, 22, 23] (by decide) rfl
  have hFc : ∀ q, va_A (xW cA aE ad σ) s.heap.size q → A q := va_free (wc := xW cA aE ad σ) hD hS hA [0, 1, 2, 3, 4, 5, 6, 7, 8, 9, 10, 11, 12, 13, 14, 15, 16, 17, 18, 19, 20, 21, 22, 23] rfl
  refine vx_calli (vx_runV (As := [.long x1]) (rest := [.int 0, .ref ao]) ⟨hx, hb, hml, hown, hts⟩ (met_X8_name vE vM hst hw) (cwV 1 hts (TB_G (TB_4 tw_5_98 tw_5_99 tw_5_100 tw_1_1) tw_5_101) rfl rfl rfl (by decide +kernel) ⟨by decide, by decide⟩) ⟨xPre.blind vE, va_recv hK hPc (ci := 10) (q0 := 0) rfl rfl, fun U hU hW => ⟨rfl, by rw [hU], by rw [hU]; exact hPc, va_K.moved hW.alike hK, hDc.weaken (fun _ _ _ _ => trivial), vE.at hE hS hU hW hFc⟩⟩ rfl rfl hl.1 rfl (lv_room (Nat.le_of_ble_eq_true rfl)) dL_name_4 ⟨by decide, by decide⟩) hS (fun q _ h => hFc q h) hFc (fun q _ h => hFc q h) ?_ ?_
  · intro En ce q9 u t H1 locs ht hvm hw hB hz1 hk1 hS hce hcv hcl
    obtain ⟨rfl, hP1, hK1, hD1⟩ := hB
    rw [ht] at hP1
    obtain ⟨hP, hD⟩ := va_join (wr := oW cA ao f) (w1 := xW cA aE ad u) hP hD [0, 1, 2, 3, 4, 5, 6, 7, 8, 9, 10, 11, 12, 13, 14, 15, 16, 17, 18, 19, 20, 21, 22, 23] [24] rfl rfl (by decide) (by decide) hk1 hFc hP1 hD1
    have hP : va_P D vwCl (hW cA aE ad ao u f) H1 := hP.sub [1, 2, 3, 4, 5, 6, 7, 8, 9, 10, 11, 12, 13, 14, 15, 16, 17, 18, 19, 20, 21, 22, 23, 24, 0] rfl
    have hD : va_D A (hW cA aE ad ao u f) := hD.sub [1, 2, 3, 4, 5, 6, 7, 8, 9, 10, 11, 12, 13, 14, 15, 16, 17, 18, 19, 20, 21, 22, 23, 24, 0] (by decide) rfl
    refine vx_catch1 (x := ⟨0, 9, 12, 19⟩) (own := RL) (name := "java/util/NoSuchElementException") (E := "java/util/NoSuchElementException") hown (htab.trans rfl) (by decide) (by decide) (hts _ (List.mem_cons_of_mem _ tw_5_74)) (va_Nw.use rfl (vC _ _ _ hE).2) hce hcv hcl ?_
    refine lv_astore (lv' := (4, .ref q9) :: [(0, .ref (ad 0)), (1, .long x1), (3, .ref ao)]) hx hb dL_name_12 hl (by decide) rfl (fun ls hl => ?_)
    refine lv_iconst (v := 1) hx hb dL_name_14 (by decide) ?_
    refine W.widen (k := 1) (n := 6) (by decide) (by decide) ?_
    exact W.iret (v := 1) hx hb hr (fun t ht hW => ⟨⟨1, (u, f), rfl, hw, by rw [ht]; exact hP, va_K.moved hW.alike hK, hD⟩, hS.F ht⟩) hS.2.2 dL_name_15 hlk
  · intro r u t H1 locs ht hvm hw hB hz1 hk1 hS
    obtain ⟨hP1, hK1, hD1⟩ := hB
    rw [ht] at hP1
    obtain ⟨hP, hD⟩ := va_join (wr := oW cA ao f) (w1 := xW cA aE ad u) hP hD [0, 1, 2, 3, 4, 5, 6, 7, 8, 9, 10, 11, 12, 13, 14, 15, 16, 17, 18, 19, 20, 21, 22, 23] [24] rfl rfl (by decide) (by decide) hk1 hFc hP1 hD1
    have hP : va_P D vwCl (hW cA aE ad ao u f) H1 := hP.sub [1, 2, 3, 4, 5, 6, 7, 8, 9, 10, 11, 12, 13, 14, 15, 16, 17, 18, 19, 20, 21, 22, 23, 24, 0] rfl
    have hD : va_D A (hW cA aE ad ao u f) := hD.sub [1, 2, 3, 4, 5, 6, 7, 8, 9, 10, 11, 12, 13, 14, 15, 16, 17, 18, 19, 20, 21, 22, 23, 24, 0] (by decide) rfl
    refine lv_i2l hx hb dL_name_7 rfl ?_
    refine va_last hx hb hK hP hD hS 24 1 rfl rfl (by unfold vp_in; decide) dL_name_8 (fun H locs hP hD hS => ?_)
    have hP : va_P D vwCl (hW cA aE ad ao u (vp_updL f 0 r.toInt64)) H := hP
    have hD : va_D A (hW cA aE ad ao u (vp_updL f 0 r.toInt64)) := hD
    refine lv_goto (tgt := 16) hx hb dL_name_9 (by decide) ?_
    refine lv_iconst (v := 0) hx hb dL_name_16 (by decide) ?_
    refine W.widen (k := 1) (n := 6) (by decide) (by decide) ?_
    exact W.iret (v := 0) hx hb hr (fun t ht hW => ⟨⟨0, (u, vp_updL f 0 r.toInt64), rfl, hw, by rw [ht]; exact hP, va_K.moved hW.alike hK, hD⟩, hS.F ht⟩) hS.2.2 dL_name_17 hlk
section LC
variable {p : Program} {l : Launch} {e : Env} {s : State} {m : MethodId} {below : List Frame} {meth : Method} {c : Code} {H : Heap} {locs : List Loc} {cells slots : Nat} {Q : State → Prop} {b L : Nat} {xs : Nat → Int32} {E : EnvT} {D : va_G} {cA cB : Nat → ClassId} {aE ad bd : Nat → Nat} {hB ao : Nat} {σ : XS} {β : BS} {τ : MS} {f : Nat → Int64} {y : MethodName} {bytes : ByteArray} {maxL n index pc : Nat} {ret0 : Option FieldType} {wsC : List Cond} {rm : Room} {As rest st0 : List Value} {ls : Array Slot}
theorem lX_i {post : Int32 → XS → Prop} (C0 : lw_At p s m meth c b L xs) (hKx : va_K D vwCl (xT cA) s) (hKm : va_K D vwCl (mT cB) s) (vE : EnvOk E) (hE : E (fun q : Nat => s.heap.size ≤ q) s s.heap)
    (hM : Met l y wsC rm (va_Pc (.ref (ad 0) :: As) (xPre E D cA aE ad H.size σ)) (va_Qi post (xAt D cA aE ad (va_A (xW cA aE ad σ) H.size)) (va_A (xW cA aE ad σ) H.size)) 0 0 (va_A (xW cA aE ad σ) H.size)) (cw : CallW room_1 s #[Value.ref b] R_law RX8 index y bytes maxL ret0 wsC rm 0 0 n)
    (hG : lG D cA aE ad cB hB bd ao s σ β τ f H locs) (hn : As.length = n) (hsize : ls.size = 8) (hst : st0 = As.reverse ++ .ref (ad 0) :: rest) (hR : (rest.map fun v => v.category).sum ≤ 8) (hdg : decode code pc = .ok (.invokevirtual index, 3)) (hf : cells ≤ room_1.cells ∧ slots ≤ room_1.slots)
    (kk : ∀ (r : Int32) (u : XS) (H1 : Heap) (locs1 : List Loc), post r u → lG D cA aE ad cB hB bd ao s u β τ f H1 locs1 → W p l e room_1 s m #[Value.ref b] below meth c H1 locs1 cells slots Q (F0 m (pc + 3) ls (.int r :: rest))) :
    W p l e room_1 s m #[Value.ref b] below meth c H locs cells slots Q (F0 m pc ls st0) := by
  obtain ⟨hx, hb, hr, hml, hown, hts, hX, hbl, hlocks, hgv⟩ := C0
  obtain ⟨hP, hD, hS⟩ := hG
  have hA : ∀ q : Nat, s.heap.size ≤ q → (fun q : Nat => s.heap.size ≤ q) q := fun _ h => h
  have hPc : va_P D vwCl (xW cA aE ad σ) H := hP.sub [0, 1, 2, 3, 4, 5, 6, 7, 8, 9, 10, 11, 12, 13, 14, 15, 16, 17, 18, 19, 20, 21, 22, 23] rfl
  have hDc : va_D (fun q : Nat => s.heap.size ≤ q) (xW cA aE ad σ) := hD.sub [0, 1, 2, 3, 4, 5, 6, 7, 8, 9, 10, 11, 12, 13, 14, 15, 16, 17, 18, 19, 20, 21, 22, 23] (by decide) rfl
  have hFc : ∀ q, va_A (xW cA aE ad σ) H.size q → s.heap.size ≤ q := va_free (wc := (xW cA aE ad σ)) hD hS hA [0, 1, 2, 3, 4, 5, 6, 7, 8, 9, 10, 11, 12, 13, 14, 15, 16, 17, 18, 19, 20, 21, 22, 23] rfl
  refine va_calli (va_runV (As := As) (rest := rest) ⟨hx, hb, hml, hown, hts⟩ hM cw ⟨xPre.blind vE, va_recv hKx hPc (ci := 10) (q0 := 0) rfl rfl, fun U hU hW => ⟨rfl, by rw [hU], by rw [hU]; exact hPc, va_K.moved hW.alike hKx, hDc.weaken (fun _ _ _ _ => trivial), vE.at hE hS hU hW hFc⟩⟩ rfl hn hsize hst (lv_room hR) hdg hf) hS (fun q _ h => hFc q h) hFc (fun r u t H1 locs ht hvm hw hB hz1 hk1 hS => ?_)
  obtain ⟨hP1, hK1, hD1⟩ := hB
  rw [ht] at hP1
  obtain ⟨hP, hD⟩ := va_join (wr := (zW cA (ad 24) β ++ (mW cB hB bd τ ++ oW cA ao f))) (w1 := (xW cA aE ad u)) hP hD [0, 1, 2, 3, 4, 5, 6, 7, 8, 9, 10, 11, 12, 13, 14, 15, 16, 17, 18, 19, 20, 21, 22, 23] [24, 25, 26, 27, 28, 29, 30, 31, 32, 33, 34, 35, 36, 37, 38, 39, 40, 41, 42, 43, 44] rfl rfl (by decide) (by decide) hk1 hFc hP1 hD1
  exact kk r u H1 locs hw ⟨hP.sub [21, 22, 23, 24, 25, 26, 27, 28, 29, 30, 31, 32, 33, 34, 35, 36, 37, 38, 39, 40, 41, 42, 43, 44, 0, 1, 2, 3, 4, 5, 6, 7, 8, 9, 10, 11, 12, 13, 14, 15, 16, 17, 18, 19, 20] rfl, hD.sub [21, 22, 23, 24, 25, 26, 27, 28, 29, 30, 31, 32, 33, 34, 35, 36, 37, 38, 39, 40, 41, 42, 43, 44, 0, 1, 2, 3, 4, 5, 6, 7, 8, 9, 10, 11, 12, 13, 14, 15, 16, 17, 18, 19, 20] (by decide) rfl, hS⟩
theorem lM_i {post : Int32 → MS → Prop} (C0 : lw_At p s m meth c b L xs) (hKx : va_K D vwCl (xT cA) s) (hKm : va_K D vwCl (mT cB) s) (vE : EnvOk E) (hE : E (fun q : Nat => s.heap.size ≤ q) s s.heap)
    (hM : Met l y wsC rm (va_Pc (.ref hB :: As) (mPre E D cB hB bd H.size τ)) (va_Qi post (mAt D cB hB bd (va_A (mW cB hB bd τ) H.size)) (va_A (mW cB hB bd τ) H.size)) 0 0 (va_A (mW cB hB bd τ) H.size)) (cw : CallW room_1 s #[Value.ref b] R_law RX9 index y bytes maxL ret0 wsC rm 0 0 n)
    (hG : lG D cA aE ad cB hB bd ao s σ β τ f H locs) (hn : As.length = n) (hsize : ls.size = 8) (hst : st0 = As.reverse ++ .ref hB :: rest) (hR : (rest.map fun v => v.category).sum ≤ 8) (hdg : decode code pc = .ok (.invokevirtual index, 3)) (hf : cells ≤ room_1.cells ∧ slots ≤ room_1.slots)
    (kk : ∀ (r : Int32) (u : MS) (H1 : Heap) (locs1 : List Loc), post r u → lG D cA aE ad cB hB bd ao s σ β u f H1 locs1 → W p l e room_1 s m #[Value.ref b] below meth c H1 locs1 cells slots Q (F0 m (pc + 3) ls (.int r :: rest))) :
    W p l e room_1 s m #[Value.ref b] below meth c H locs cells slots Q (F0 m pc ls st0) := by
  obtain ⟨hx, hb, hr, hml, hown, hts, hX, hbl, hlocks, hgv⟩ := C0
  obtain ⟨hP, hD, hS⟩ := hG
  have hA : ∀ q : Nat, s.heap.size ≤ q → (fun q : Nat => s.heap.size ≤ q) q := fun _ h => h
  have hPc : va_P D vwCl (mW cB hB bd τ) H := hP.sub [26, 27, 28, 29, 30, 31, 32, 33, 34, 35, 36, 37, 38, 39, 40, 41, 42, 43] rfl
  have hDc : va_D (fun q : Nat => s.heap.size ≤ q) (mW cB hB bd τ) := hD.sub [26, 27, 28, 29, 30, 31, 32, 33, 34, 35, 36, 37, 38, 39, 40, 41, 42, 43] (by decide) rfl
  have hFc : ∀ q, va_A (mW cB hB bd τ) H.size q → s.heap.size ≤ q := va_free (wc := (mW cB hB bd τ)) hD hS hA [26, 27, 28, 29, 30, 31, 32, 33, 34, 35, 36, 37, 38, 39, 40, 41, 42, 43] rfl
  refine va_calli (va_runV (As := As) (rest := rest) ⟨hx, hb, hml, hown, hts⟩ hM cw ⟨mPre.blind vE, va_recv hKm hPc (ci := 11) (q0 := 0) rfl rfl, fun U hU hW => ⟨rfl, by rw [hU], by rw [hU]; exact hPc, va_K.moved hW.alike hKm, hDc.weaken (fun _ _ _ _ => trivial), vE.at hE hS hU hW hFc⟩⟩ rfl hn hsize hst (lv_room hR) hdg hf) hS (fun q _ h => hFc q h) hFc (fun r u t H1 locs ht hvm hw hB hz1 hk1 hS => ?_)
  obtain ⟨hP1, hK1, hD1⟩ := hB
  rw [ht] at hP1
  obtain ⟨hP, hD⟩ := va_join (wr := (xzW cA aE ad σ β ++ oW cA ao f)) (w1 := (mW cB hB bd u)) hP hD [26, 27, 28, 29, 30, 31, 32, 33, 34, 35, 36, 37, 38, 39, 40, 41, 42, 43] [0, 1, 2, 3, 4, 5, 6, 7, 8, 9, 10, 11, 12, 13, 14, 15, 16, 17, 18, 19, 20, 21, 22, 23, 24, 25, 44] rfl rfl (by decide) (by decide) hk1 hFc hP1 hD1
  exact kk r u H1 locs hw ⟨hP.sub [0, 1, 2, 3, 4, 5, 6, 7, 8, 9, 10, 11, 12, 13, 14, 15, 16, 17, 18, 19, 20, 21, 22, 23, 24, 25, 27, 28, 29, 30, 31, 32, 33, 34, 35, 36, 37, 38, 39, 40, 41, 42, 43, 44, 26] rfl, hD.sub [0, 1, 2, 3, 4, 5, 6, 7, 8, 9, 10, 11, 12, 13, 14, 15, 16, 17, 18, 19, 20, 21, 22, 23, 24, 25, 27, 28, 29, 30, 31, 32, 33, 34, 35, 36, 37, 38, 39, 40, 41, 42, 43, 44, 26] (by decide) rfl, hS⟩
theorem lM_l {post : Int64 → MS → Prop} (C0 : lw_At p s m meth c b L xs) (hKx : va_K D vwCl (xT cA) s) (hKm : va_K D vwCl (mT cB) s) (vE : EnvOk E) (hE : E (fun q : Nat => s.heap.size ≤ q) s s.heap)
    (hM : Met l y wsC rm (va_Pc (.ref hB :: As) (mPre E D cB hB bd H.size τ)) (va_Ql post (mAt D cB hB bd (va_A (mW cB hB bd τ) H.size)) (va_A (mW cB hB bd τ) H.size)) 0 0 (va_A (mW cB hB bd τ) H.size)) (cw : CallW room_1 s #[Value.ref b] R_law RX9 index y bytes maxL ret0 wsC rm 0 0 n)
    (hG : lG D cA aE ad cB hB bd ao s σ β τ f H locs) (hn : As.length = n) (hsize : ls.size = 8) (hst : st0 = As.reverse ++ .ref hB :: rest) (hR : (rest.map fun v => v.category).sum ≤ 8) (hdg : decode code pc = .ok (.invokevirtual index, 3)) (hf : cells ≤ room_1.cells ∧ slots ≤ room_1.slots)
    (kk : ∀ (r : Int64) (u : MS) (H1 : Heap) (locs1 : List Loc), post r u → lG D cA aE ad cB hB bd ao s σ β u f H1 locs1 → W p l e room_1 s m #[Value.ref b] below meth c H1 locs1 cells slots Q (F0 m (pc + 3) ls (.long r :: rest))) :
    W p l e room_1 s m #[Value.ref b] below meth c H locs cells slots Q (F0 m pc ls st0) := by
  obtain ⟨hx, hb, hr, hml, hown, hts, hX, hbl, hlocks, hgv⟩ := C0
  obtain ⟨hP, hD, hS⟩ := hG
  have hA : ∀ q : Nat, s.heap.size ≤ q → (fun q : Nat => s.heap.size ≤ q) q := fun _ h => h
  have hPc : va_P D vwCl (mW cB hB bd τ) H := hP.sub [26, 27, 28, 29, 30, 31, 32, 33, 34, 35, 36, 37, 38, 39, 40, 41, 42, 43] rfl
  have hDc : va_D (fun q : Nat => s.heap.size ≤ q) (mW cB hB bd τ) := hD.sub [26, 27, 28, 29, 30, 31, 32, 33, 34, 35, 36, 37, 38, 39, 40, 41, 42, 43] (by decide) rfl
  have hFc : ∀ q, va_A (mW cB hB bd τ) H.size q → s.heap.size ≤ q := va_free (wc := (mW cB hB bd τ)) hD hS hA [26, 27, 28, 29, 30, 31, 32, 33, 34, 35, 36, 37, 38, 39, 40, 41, 42, 43] rfl
  refine va_calll (va_runV (As := As) (rest := rest) ⟨hx, hb, hml, hown, hts⟩ hM cw ⟨mPre.blind vE, va_recv hKm hPc (ci := 11) (q0 := 0) rfl rfl, fun U hU hW => ⟨rfl, by rw [hU], by rw [hU]; exact hPc, va_K.moved hW.alike hKm, hDc.weaken (fun _ _ _ _ => trivial), vE.at hE hS hU hW hFc⟩⟩ rfl hn hsize hst (lv_room hR) hdg hf) hS (fun q _ h => hFc q h) hFc (fun r u t H1 locs ht hvm hw hB hz1 hk1 hS => ?_)
  obtain ⟨hP1, hK1, hD1⟩ := hB
  rw [ht] at hP1
  obtain ⟨hP, hD⟩ := va_join (wr := (xzW cA aE ad σ β ++ oW cA ao f)) (w1 := (mW cB hB bd u)) hP hD [26, 27, 28, 29, 30, 31, 32, 33, 34, 35, 36, 37, 38, 39, 40, 41, 42, 43] [0, 1, 2, 3, 4, 5, 6, 7, 8, 9, 10, 11, 12, 13, 14, 15, 16, 17, 18, 19, 20, 21, 22, 23, 24, 25, 44] rfl rfl (by decide) (by decide) hk1 hFc hP1 hD1
  exact kk r u H1 locs hw ⟨hP.sub [0, 1, 2, 3, 4, 5, 6, 7, 8, 9, 10, 11, 12, 13, 14, 15, 16, 17, 18, 19, 20, 21, 22, 23, 24, 25, 27, 28, 29, 30, 31, 32, 33, 34, 35, 36, 37, 38, 39, 40, 41, 42, 43, 44, 26] rfl, hD.sub [0, 1, 2, 3, 4, 5, 6, 7, 8, 9, 10, 11, 12, 13, 14, 15, 16, 17, 18, 19, 20, 21, 22, 23, 24, 25, 27, 28, 29, 30, 31, 32, 33, 34, 35, 36, 37, 38, 39, 40, 41, 42, 43, 44, 26] (by decide) rfl, hS⟩
theorem lZ_i {post : Int32 → XS × BS → Prop} (C0 : lw_At p s m meth c b L xs) (hKx : va_K D vwCl (xT cA) s) (hKm : va_K D vwCl (mT cB) s) (vE : EnvOk E) (hE : E (fun q : Nat => s.heap.size ≤ q) s s.heap)
    (hM : Met l y wsC rm (va_Pc (.ref (ad 0) :: As) (gPre E D cA H.size (xzW cA aE ad σ β))) (va_Qi post (fun u t => gAt D cA (va_A (xzW cA aE ad σ β) H.size) (xzW cA aE ad u.1 u.2) t) (va_A (xzW cA aE ad σ β) H.size)) 34 2380 (va_A (xzW cA aE ad σ β) H.size)) (cw : CallW room_1 s #[Value.ref b] R_law RX8 index y bytes maxL ret0 wsC rm 34 2380 n)
    (hG : lG D cA aE ad cB hB bd ao s σ β τ f H locs) (hn : As.length = n) (hsize : ls.size = 8) (hst : st0 = As.reverse ++ .ref (ad 0) :: rest) (hR : (rest.map fun v => v.category).sum ≤ 8) (hdg : decode code pc = .ok (.invokevirtual index, 3)) (hf : cells + 34 ≤ room_1.cells ∧ slots + 2380 ≤ room_1.slots)
    (kk : ∀ (r : Int32) (u : XS × BS) (H1 : Heap) (locs1 : List Loc), post r u → lG D cA aE ad cB hB bd ao s u.1 u.2 τ f H1 locs1 → W p l e room_1 s m #[Value.ref b] below meth c H1 locs1 (cells + 34) (slots + 2380) Q (F0 m (pc + 3) ls (.int r :: rest))) :
    W p l e room_1 s m #[Value.ref b] below meth c H locs cells slots Q (F0 m pc ls st0) := by
  obtain ⟨hx, hb, hr, hml, hown, hts, hX, hbl, hlocks, hgv⟩ := C0
  obtain ⟨hP, hD, hS⟩ := hG
  have hA : ∀ q : Nat, s.heap.size ≤ q → (fun q : Nat => s.heap.size ≤ q) q := fun _ h => h
  have hPc : va_P D vwCl (xzW cA aE ad σ β) H := hP.sub [0, 1, 2, 3, 4, 5, 6, 7, 8, 9, 10, 11, 12, 13, 14, 15, 16, 17, 18, 19, 20, 21, 22, 23, 24, 25] rfl
  have hDc : va_D (fun q : Nat => s.heap.size ≤ q) (xzW cA aE ad σ β) := hD.sub [0, 1, 2, 3, 4, 5, 6, 7, 8, 9, 10, 11, 12, 13, 14, 15, 16, 17, 18, 19, 20, 21, 22, 23, 24, 25] (by decide) rfl
  have hFc : ∀ q, va_A (xzW cA aE ad σ β) H.size q → s.heap.size ≤ q := va_free (wc := (xzW cA aE ad σ β)) hD hS hA [0, 1, 2, 3, 4, 5, 6, 7, 8, 9, 10, 11, 12, 13, 14, 15, 16, 17, 18, 19, 20, 21, 22, 23, 24, 25] rfl
  refine va_calli (va_runV (As := As) (rest := rest) ⟨hx, hb, hml, hown, hts⟩ hM cw ⟨gPre.blind vE, va_recv hKx hPc (ci := 10) (q0 := 0) rfl rfl, fun U hU hW => ⟨rfl, by rw [hU], by rw [hU]; exact hPc, va_K.moved hW.alike hKx, hDc.weaken (fun _ _ _ _ => trivial), vE.at hE hS hU hW hFc⟩⟩ rfl hn hsize hst (lv_room hR) hdg hf) hS (fun q _ h => hFc q h) hFc (fun r u t H1 locs ht hvm hw hB hz1 hk1 hS => ?_)
  obtain ⟨hP1, hK1, hD1⟩ := hB
  rw [ht] at hP1
  obtain ⟨hP, hD⟩ := va_join (wr := mW cB hB bd τ ++ oW cA ao f) (w1 := xzW cA aE ad u.1 u.2) hP hD [0, 1, 2, 3, 4, 5, 6, 7, 8, 9, 10, 11, 12, 13, 14, 15, 16, 17, 18, 19, 20, 21, 22, 23, 24, 25] [26, 27, 28, 29, 30, 31, 32, 33, 34, 35, 36, 37, 38, 39, 40, 41, 42, 43, 44] rfl rfl (by decide) (by decide) hk1 hFc hP1 hD1
  exact kk r u H1 locs hw ⟨hP.sub [19, 20, 21, 22, 23, 24, 25, 26, 27, 28, 29, 30, 31, 32, 33, 34, 35, 36, 37, 38, 39, 40, 41, 42, 43, 44, 0, 1, 2, 3, 4, 5, 6, 7, 8, 9, 10, 11, 12, 13, 14, 15, 16, 17, 18] rfl, hD.sub [19, 20, 21, 22, 23, 24, 25, 26, 27, 28, 29, 30, 31, 32, 33, 34, 35, 36, 37, 38, 39, 40, 41, 42, 43, 44, 0, 1, 2, 3, 4, 5, 6, 7, 8, 9, 10, 11, 12, 13, 14, 15, 16, 17, 18] (by decide) rfl, hS⟩
theorem lH_i {hh : List (Nat × Nat × Nat × Nat)} {post : Int32 → XS × (Nat → Int64) → Prop} (C0 : lw_At p s m meth c b L xs) (hKx : va_K D vwCl (xT cA) s) (hKm : va_K D vwCl (mT cB) s) (vE : EnvOk E) (hE : E (fun q : Nat => s.heap.size ≤ q) s s.heap)
    (hM : Met l y wsC rm (va_Pc As (gPre E D cA H.size (hW cA aE ad ao σ f))) (va_Qi post (fun u t => gAt D cA (va_A (hW cA aE ad ao σ f) H.size) (hW cA aE ad ao u.1 u.2) t) (va_A (hW cA aE ad ao σ f) H.size)) 1 6 (va_A (hW cA aE ad ao σ f) H.size)) (cw : vx_CSW room_1 s #[Value.ref b] R_law index y bytes maxL ret0 hh wsC rm 1 6 n)
    (hG : lG D cA aE ad cB hB bd ao s σ β τ f H locs) (hn : As.length = n) (hsize : ls.size = 8) (hst : st0 = As.reverse ++ rest) (hR : (rest.map fun v => v.category).sum ≤ 8) (hdg : decode code pc = .ok (.invokestatic index, 3)) (hf : cells + 1 ≤ room_1.cells ∧ slots + 6 ≤ room_1.slots)
    (kk : ∀ (r : Int32) (u : XS × (Nat → Int64)) (H1 : Heap) (locs1 : List Loc), post r u → lG D cA aE ad cB hB bd ao s u.1 β τ u.2 H1 locs1 → W p l e room_1 s m #[Value.ref b] below meth c H1 locs1 (cells + 1) (slots + 6) Q (F0 m (pc + 3) ls (.int r :: rest))) :
    W p l e room_1 s m #[Value.ref b] below meth c H locs cells slots Q (F0 m pc ls st0) := by
  obtain ⟨hx, hb, hr, hml, hown, hts, hX, hbl, hlocks, hgv⟩ := C0
  obtain ⟨hP, hD, hS⟩ := hG
  have hA : ∀ q : Nat, s.heap.size ≤ q → (fun q : Nat => s.heap.size ≤ q) q := fun _ h => h
  have hPc : va_P D vwCl (hW cA aE ad ao σ f) H := hP.sub [0, 1, 2, 3, 4, 5, 6, 7, 8, 9, 10, 11, 12, 13, 14, 15, 16, 17, 18, 19, 20, 21, 22, 23, 44] rfl
  have hDc : va_D (fun q : Nat => s.heap.size ≤ q) (hW cA aE ad ao σ f) := hD.sub [0, 1, 2, 3, 4, 5, 6, 7, 8, 9, 10, 11, 12, 13, 14, 15, 16, 17, 18, 19, 20, 21, 22, 23, 44] (by decide) rfl
  have hFc : ∀ q, va_A (hW cA aE ad ao σ f) H.size q → s.heap.size ≤ q := va_free (wc := hW cA aE ad ao σ f) hD hS hA [0, 1, 2, 3, 4, 5, 6, 7, 8, 9, 10, 11, 12, 13, 14, 15, 16, 17, 18, 19, 20, 21, 22, 23, 44] rfl
  refine va_calli (vx_runSW (hh := hh) (As := As) (rest := rest) ⟨hx, hb, hml, hown, hts⟩ hM cw ⟨gPre.blind vE, fun U hU hW => ⟨rfl, by rw [hU], by rw [hU]; exact hPc, va_K.moved hW.alike hKx, hDc.weaken (fun _ _ _ _ => trivial), vE.at hE hS hU hW hFc⟩⟩ rfl hn hsize hst (lv_room hR) hdg hf) hS (fun q _ h => hFc q h) hFc (fun r u t H1 locs ht hvm hw hB hz1 hk1 hS => ?_)
  obtain ⟨hP1, hK1, hD1⟩ := hB
  rw [ht] at hP1
  obtain ⟨hP, hD⟩ := va_join (wr := zW cA (ad 24) β ++ mW cB hB bd τ) (w1 := hW cA aE ad ao u.1 u.2) hP hD [0, 1, 2, 3, 4, 5, 6, 7, 8, 9, 10, 11, 12, 13, 14, 15, 16, 17, 18, 19, 20, 21, 22, 23, 44] [24, 25, 26, 27, 28, 29, 30, 31, 32, 33, 34, 35, 36, 37, 38, 39, 40, 41, 42, 43] rfl rfl (by decide) (by decide) hk1 hFc hP1 hD1
  exact kk r u H1 locs hw ⟨hP.sub [20, 21, 22, 23, 24, 25, 26, 27, 28, 29, 30, 31, 32, 33, 34, 35, 36, 37, 38, 39, 40, 41, 42, 43, 0, 1, 2, 3, 4, 5, 6, 7, 8, 9, 10, 11, 12, 13, 14, 15, 16, 17, 18, 19, 44] rfl, hD.sub [20, 21, 22, 23, 24, 25, 26, 27, 28, 29, 30, 31, 32, 33, 34, 35, 36, 37, 38, 39, 40, 41, 42, 43, 0, 1, 2, 3, 4, 5, 6, 7, 8, 9, 10, 11, 12, 13, 14, 15, 16, 17, 18, 19, 44] (by decide) rfl, hS⟩
end LC
