/-! STRING CONSTANTS as the JDK's code reads them: charAt, length over any family of literals (Latin-1) -/
def sF (N : Nat) (len : List Nat) (byt : List (List Int32)) (aK aV : Nat → Nat) (A : Nat → Prop) (U : State) (H : Heap) : Prop :=
  (∀ i : Nat, i < N → va_O "java/lang/String" (aK i) A U H ∧ va_OF "java/lang/String" "coder" "B" (.int 0) (aK i) A U H ∧ va_OF "java/lang/String" "value" "[B" (.ref (aV i)) (aK i) A U H ∧ va_T .byte (aV i) (len.getD i 0) (fun j => .int ((byt.getD i []).getD j 0)) A U H) ∧ va_Z "java/lang/String" "COMPACT_STRINGS" "Z" (.int 1) A U H ∧ va_Zq "jdk/internal/util/Preconditions" "SIOOBE_FORMATTER" "Ljava/util/function/BiFunction;" A U H
def rmZ : Room := { frames := 0, cells := 0, slots := 0, locals := 0 }
abbrev wgJ3_checkIndex_8e157 : List Cond := .code yJ3_checkIndex_8e157 cJ3_checkIndex_8e157 3 (some .int) :: TB
abbrev wgJ0_checkIndex_df160 : List Cond := .code yJ0_checkIndex_df160 cJ0_checkIndex_df160 2 none :: TB
abbrev wgJ1_charAt_3b067 : List Cond := .code yJ1_charAt_3b067 cJ1_charAt_3b067 2 (some .char) :: TB
abbrev wgJ0_isLatin1_aae02 : List Cond := .code yJ0_isLatin1_aae02 cJ0_isLatin1_aae02 1 (some .boolean) :: TB
abbrev wgJ0_charAt_5068e : List Cond := .code yJ0_charAt_5068e cJ0_charAt_5068e 2 (some .char) :: TB
section STR
variable {p : Program} {l : Launch} {e : Env} {R : Room} {s : State} {m : MethodId} {args : Array Value} {below : List Frame} {meth : Method} {c : Code} {H : Heap} {locs : List Loc} {cells slots : Nat} {Q : State → Prop}
variable {E : EnvT} {own : String} {A : Nat → Prop} {y : MethodName} {bytes : ByteArray} {maxL nL n index pc : Nat} {ret : Option FieldType} {ws : List Cond} {rm : Room} {Ts : List Cond} {cc : ByteArray} {rt : Option FieldType} {As rest st0 : List Value} {ls : Array Slot}
variable {N : Nat} {len : List Nat} {byt : List (List Int32)} {aK aV : Nat → Nat}
/-- a static method without an answer is called by one that holds no cells -/
theorem sS_v {post : Prop} (C : sCx p s m args meth c cc nL rt Ts own E A)
    (hM : Met l y ws rm (va_Pc As (sPre E H.size)) (va_Qv (S := Unit) (fun _ => post) (fun _ _ => True) (va_A [] H.size)) 0 0 (va_A [] H.size))
    (cw : CallB R s args own index y bytes maxL ret ws rm 0 0 n ∧ (Cond.static y).before args s = true) (hS : va_S A s.heap H locs) (hn : As.length = n) (hsize : ls.size = nL) (hst : st0 = As.reverse ++ rest) (hR : (rest.map fun v => v.category).sum ≤ 8) (hdg : decode cc pc = .ok (.invokestatic index, 3)) (hf : cells ≤ R.cells ∧ slots ≤ R.slots)
    (kk : ∀ (H1 : Heap) (locs1 : List Loc), post → va_S A s.heap H1 locs1 → W p l e R s m args below meth c H1 locs1 cells slots Q (F0 m (pc + 3) ls rest)) :
    W p l e R s m args below meth c H locs cells slots Q (F0 m pc ls st0) := by
  obtain ⟨hx, hb, hml, hr, hown, hts, hA, hlk, hE, vE⟩ := C
  have hFc : ∀ q, va_A [] H.size q → A q := fun q z => z.elim (fun ⟨_, _, z⟩ => by simp at z) (fun z => hA q (Nat.le_trans hS.1 z))
  refine va_callv (va_runS (As := As) (rest := rest) ⟨hx, hb, hml, hown, hts⟩ hM cw ⟨sPre.blind vE, fun U hU hW => ⟨rfl, by rw [hU], vE.at hE hS hU hW hFc⟩⟩ rfl hn hsize hst (lv_room hR) hdg hf) hS (fun q _ h => hFc q h) hFc (fun u t H1 locs ht hvm hw hB hz1 hk1 hS => ?_)
  exact kk H1 locs hw hS
/-- a method of a String constant is called by one that holds no cells -/
theorem sK_i {post : Int32 → Prop} {i : Nat} (C : sCx p s m args meth c cc nL rt Ts own E A) (hO : va_O "java/lang/String" (aK i) A s s.heap)
    (hM : Met l y ws rm (va_Pc (.ref (aK i) :: As) (sPre E H.size)) (va_Qi (S := Unit) (fun r _ => post r) (fun _ _ => True) (va_A [] H.size)) 0 0 (va_A [] H.size))
    (cw : CallW R s args own RJ0 index y bytes maxL ret ws rm 0 0 n) (hS : va_S A s.heap H locs) (hn : As.length = n) (hsize : ls.size = nL) (hst : st0 = As.reverse ++ .ref (aK i) :: rest) (hR : (rest.map fun v => v.category).sum ≤ 8) (hdg : decode cc pc = .ok (.invokevirtual index, 3)) (hf : cells ≤ R.cells ∧ slots ≤ R.slots)
    (kk : ∀ (r : Int32) (H1 : Heap) (locs1 : List Loc), post r → va_S A s.heap H1 locs1 → W p l e R s m args below meth c H1 locs1 cells slots Q (F0 m (pc + 3) ls (.int r :: rest))) :
    W p l e R s m args below meth c H locs cells slots Q (F0 m pc ls st0) := by
  obtain ⟨hx, hb, hml, hr, hown, hts, hA, hlk, hE, vE⟩ := C
  have hFc : ∀ q, va_A [] H.size q → A q := fun q z => z.elim (fun ⟨_, _, z⟩ => by simp at z) (fun z => hA q (Nat.le_trans hS.1 z))
  refine va_calli (va_runV (As := As) (rest := rest) ⟨hx, hb, hml, hown, hts⟩ hM cw ⟨sPre.blind vE, va_Orecv hO hS, fun U hU hW => ⟨rfl, by rw [hU], vE.at hE hS hU hW hFc⟩⟩ rfl hn hsize hst (lv_room hR) hdg hf) hS (fun q _ h => hFc q h) hFc (fun r u t H1 locs ht hvm hw hB hz1 hk1 hS => ?_)
  exact kk r H1 locs hw hS
end STR
set_option maxHeartbeats 4000000 in
set_option maxRecDepth 100000 in
theorem met_J3_checkIndex {l : Launch} {E : EnvT} (vE : EnvOk E) {sz : Nat} {i n : Int32} {w : Value} (hw : w = .null ∨ ∃ t : Nat, w = .ref t) {post : Int32 → Prop} (h0 : ¬ i < 0) (h1 : i < n) (hp : post i) : Met l yJ3_checkIndex_8e157 wgJ3_checkIndex_8e157 rmZ (va_Pc [.int i, .int n, w] (sPre E sz)) (va_Qi (S := Unit) (fun r _ => post r) (fun _ _ => True) (va_A [] sz)) 0 0 (va_A [] sz) := by
  refine Met.ofW (cc := cJ3_checkIndex_8e157) (maxL := 3) (ret := (some .int)) (by decide) rfl ?_
  intro p e s m args below meth c s₁ B hml hv
  obtain ⟨rfl, hsz, hE⟩ := hv
  subst hsz
  generalize hAe : va_A [] s.heap.size = A at hE ⊢
  have hS : va_S A s.heap s.heap [] := va_S.rf
  have hx := B.exec
  have hb := B.bytes
  have hr := B.returns
  have hlk := B.notSynchronized
  have key : ∀ (args : Array Value) (ls : Array Slot), lv_has ls 3 [(0, .int i), (1, .int n), (2, w)] → W p l e rmZ s m args below meth c s.heap [] 0 0 (MQ below (va_Qi (S := Unit) (fun r _ => post r) (fun _ _ => True) A) args s 0 0 A) (F0 m 0 ls []) := by
    intro args ls hl
    refine lv_iload_n hx hb dJ3_checkIndex_8e157_0 rfl (lv_at hl 0 rfl) ?_
    refine lv_if_lt (tgt := 9) hx hb dJ3_checkIndex_8e157_1 (by decide) (fun q => absurd q h0) (fun _ => ?_)
    refine lv_iload_n hx hb dJ3_checkIndex_8e157_4 rfl (lv_at hl 0 rfl) ?_
    refine lv_iload_n hx hb dJ3_checkIndex_8e157_5 rfl (lv_at hl 1 rfl) ?_
    refine lv_icmp_lt (tgt := 16) hx hb dJ3_checkIndex_8e157_6 (by decide) (fun _ => ?_) (fun q => absurd h1 q)
    refine lv_iload_n hx hb dJ3_checkIndex_8e157_16 rfl (lv_at hl 0 rfl) ?_
    exact W.iret (v := i) hx hb hr (fun t ht hW => ⟨⟨_, (), rfl, hp, trivial⟩, hS.F ht⟩) hS.2.2 dJ3_checkIndex_8e157_17 hlk
  rcases hw with rfl | ⟨t, rfl⟩
  · have hl := lv_entry ([.int i, .int n, .null]) (n := 3) (Nat.le_of_ble_eq_true rfl)
    rw [lg_entry_eq]
    generalize (lg_sl ([.int i, .int n, .null]) ++ List.replicate (3 - (lg_sl ([.int i, .int n, .null])).length) Slot.unset).toArray = ls at hl ⊢
    exact key _ ls hl
  · have hl := lv_entry ([.int i, .int n, .ref t]) (n := 3) (Nat.le_of_ble_eq_true rfl)
    rw [lg_entry_eq]
    generalize (lg_sl ([.int i, .int n, .ref t]) ++ List.replicate (3 - (lg_sl ([.int i, .int n, .ref t])).length) Slot.unset).toArray = ls at hl ⊢
    exact key _ ls hl
def rmCk : Room := { frames := 1, cells := 0, slots := 0, locals := 22 }
set_option maxHeartbeats 4000000 in
set_option maxRecDepth 100000 in
theorem met_J0_checkIndex {l : Launch} {E : EnvT} (vE : EnvOk E) {N : Nat} {len : List Nat} {byt : List (List Int32)} {aK aV : Nat → Nat} (vS : ∀ A U H, E A U H → sF N len byt aK aV A U H) {sz : Nat} {i n : Int32} {post : Prop} (h0 : ¬ i < 0) (h1 : i < n) (hp : post) : Met l yJ0_checkIndex_df160 wgJ0_checkIndex_df160 rmCk (va_Pc [.int i, .int n] (sPre E sz)) (va_Qv (S := Unit) (fun _ => post) (fun _ _ => True) (va_A [] sz)) 0 0 (va_A [] sz) := by
  refine Met.ofW (cc := cJ0_checkIndex_df160) (maxL := 2) (ret := none) (by decide) rfl ?_
  intro p e s m args below meth c s₁ B hml hv
  obtain ⟨rfl, hsz, hE⟩ := hv
  subst hsz
  generalize hAe : va_A [] s.heap.size = A at hE ⊢
  have hA : ∀ q : Nat, s.heap.size ≤ q → A q := fun q h => by rw [← hAe]; exact Or.inr h
  have hS : va_S A s.heap s.heap [] := va_S.rf
  have C : sCx p s m _ meth c cJ0_checkIndex_df160 2 none wgJ0_checkIndex_df160 RJ0 E A := ⟨B.exec, B.bytes, hml, B.returns, findClass_of_methodNamed B.named, atoms_spec (ws := wgJ0_checkIndex_df160) B.pre, hA, B.notSynchronized, hE, vE⟩
  obtain ⟨hx, hb, hml, hr, hown, hts, hA, hlk, hE, vE⟩ := id C
  obtain ⟨hVK, hVC, hVF⟩ := vS _ _ _ hE
  have hl := lv_entry ([.int i, .int n]) (n := 2) (Nat.le_of_ble_eq_true rfl)
  rw [lg_entry_eq]
  generalize (lg_sl ([.int i, .int n]) ++ List.replicate (2 - (lg_sl ([.int i, .int n])).length) Slot.unset).toArray = ls at hl ⊢
  have hl : lv_has ls 2 [(0, .int i), (1, .int n)] := hl
  refine lv_iload_n hx hb dJ0_checkIndex_df160_0 rfl (lv_at hl 0 rfl) ?_
  refine lv_iload_n hx hb dJ0_checkIndex_df160_1 rfl (lv_at hl 1 rfl) ?_
  rcases hVF with hZ | ⟨t, hZ⟩
  · refine va_gets hx hb hZ hS hown (hts _ (List.mem_cons_of_mem _ tw_2_70)) (fun _ h => h) dJ0_checkIndex_df160_2 ?_
    refine sS_i (As := [.int i, .int n, .null]) (rest := []) C (met_J3_checkIndex vE (Or.inl rfl) (post := fun _ => True) h0 h1 trivial) (va_cwS 3 hts (TB_G (TB_3 tw_2_72 tw_2_73 tw_1_16) tw_2_74) rfl rfl rfl (by decide +kernel) ⟨by decide, by decide⟩) hS rfl hl.1 rfl (by decide) dJ0_checkIndex_df160_5 ⟨by decide, by decide⟩ (fun r H locs hw hS => ?_)
    refine lv_pop hx hb dJ0_checkIndex_df160_8 rfl ?_
    exact W.vret hx hb hr (fun t ht hW => ⟨⟨(), rfl, hp, trivial⟩, hS.F ht⟩) hS.2.2 dJ0_checkIndex_df160_9 hlk
  · refine va_gets hx hb hZ hS hown (hts _ (List.mem_cons_of_mem _ tw_2_70)) (fun _ h => h) dJ0_checkIndex_df160_2 ?_
    refine sS_i (As := [.int i, .int n, .ref t]) (rest := []) C (met_J3_checkIndex vE (Or.inr ⟨t, rfl⟩) (post := fun _ => True) h0 h1 trivial) (va_cwS 3 hts (TB_G (TB_3 tw_2_72 tw_2_73 tw_1_16) tw_2_74) rfl rfl rfl (by decide +kernel) ⟨by decide, by decide⟩) hS rfl hl.1 rfl (by decide) dJ0_checkIndex_df160_5 ⟨by decide, by decide⟩ (fun r H locs hw hS => ?_)
    refine lv_pop hx hb dJ0_checkIndex_df160_8 rfl ?_
    exact W.vret hx hb hr (fun t ht hW => ⟨⟨(), rfl, hp, trivial⟩, hS.F ht⟩) hS.2.2 dJ0_checkIndex_df160_9 hlk
def rmLc : Room := { frames := 2, cells := 0, slots := 0, locals := 43 }
/-- the character that charAt answers -/
def sCh (byt : List (List Int32)) (i : Nat) (j : Nat) : Int32 := ((((byt.getD i []).getD j 0) &&& 255).toUInt32 % 65536).toInt32
theorem sCh_n (byt : List (List Int32)) (i j : Nat) : narrow .char (.int (sCh byt i j)) = .int (sCh byt i j) := pk_nc _
set_option maxHeartbeats 4000000 in
set_option maxRecDepth 100000 in
theorem met_J1_charAt {l : Launch} {E : EnvT} (vE : EnvOk E) {N : Nat} {len : List Nat} {byt : List (List Int32)} {aK aV : Nat → Nat} (vS : ∀ A U H, E A U H → sF N len byt aK aV A U H) {sz i : Nat} (hi : i < N) {j : Int32} {post : Int32 → Prop} (h0 : ¬ j < 0) (h1 : j < Int32.ofNat (len.getD i 0)) (hj : vp_in j (len.getD i 0)) (hp : post (sCh byt i j.toNatClampNeg)) : Met l yJ1_charAt_3b067 wgJ1_charAt_3b067 rmLc (va_Pc [.ref (aV i), .int j] (sPre E sz)) (va_Qi (S := Unit) (fun r _ => post r) (fun _ _ => True) (va_A [] sz)) 0 0 (va_A [] sz) := by
  refine Met.ofW (cc := cJ1_charAt_3b067) (maxL := 2) (ret := (some .char)) (by decide) rfl ?_
  intro p e s m args below meth c s₁ B hml hv
  obtain ⟨rfl, hsz, hE⟩ := hv
  subst hsz
  generalize hAe : va_A [] s.heap.size = A at hE ⊢
  have hA : ∀ q : Nat, s.heap.size ≤ q → A q := fun q h => by rw [← hAe]; exact Or.inr h
  have hS : va_S A s.heap s.heap [] := va_S.rf
  have C : sCx p s m _ meth c cJ1_charAt_3b067 2 (some .char) wgJ1_charAt_3b067 RJ1 E A := ⟨B.exec, B.bytes, hml, B.returns, findClass_of_methodNamed B.named, atoms_spec (ws := wgJ1_charAt_3b067) B.pre, hA, B.notSynchronized, hE, vE⟩
  obtain ⟨hx, hb, hml, hr, hown, hts, hA, hlk, hE, vE⟩ := id C
  obtain ⟨hVK, hVC, hVF⟩ := vS _ _ _ hE
  have hT := (hVK i hi).2.2.2
  have hl := lv_entry ([.ref (aV i), .int j]) (n := 2) (Nat.le_of_ble_eq_true rfl)
  rw [lg_entry_eq]
  generalize (lg_sl ([.ref (aV i), .int j]) ++ List.replicate (2 - (lg_sl ([.ref (aV i), .int j])).length) Slot.unset).toArray = ls at hl ⊢
  have hl : lv_has ls 2 [(0, .ref (aV i)), (1, .int j)] := hl
  refine lv_iload_n hx hb dJ1_charAt_3b067_0 rfl (lv_at hl 1 rfl) ?_
  refine lv_aload_n hx hb dJ1_charAt_3b067_1 rfl (lv_at hl 0 rfl) ?_
  refine va_tlen hx hb hT hS rfl dJ1_charAt_3b067_2 ?_
  refine sS_v (As := [.int j, .int (Int32.ofNat (len.getD i 0))]) (rest := []) C (met_J0_checkIndex vE vS (post := True) h0 h1 trivial) (va_cwS 2 hts (TB_G (TB_3 tw_2_67 tw_2_68 tw_1_11) tw_2_69) rfl rfl rfl (by decide +kernel) ⟨by decide, by decide⟩) hS rfl hl.1 rfl (by decide) dJ1_charAt_3b067_3 ⟨by decide, by decide⟩ (fun H locs hw hS => ?_)
  refine lv_aload_n hx hb dJ1_charAt_3b067_6 rfl (lv_at hl 0 rfl) ?_
  refine lv_iload_n hx hb dJ1_charAt_3b067_7 rfl (lv_at hl 1 rfl) ?_
  refine va_tb hx hb hT hS hj (v := .int ((byt.getD i []).getD j.toNatClampNeg 0)) rfl dJ1_charAt_3b067_8 ?_
  refine lv_sipush (v := 255) hx hb dJ1_charAt_3b067_9 (by decide) ?_
  refine lv_iand hx hb dJ1_charAt_3b067_12 ?_
  refine lv_i2c hx hb dJ1_charAt_3b067_13 rfl ?_
  exact W.zret (v := sCh byt i j.toNatClampNeg) (ty := .char) hx hb hr (sCh_n _ _ _) (fun t ht hW => ⟨⟨_, (), rfl, hp, trivial⟩, hS.F ht⟩) hS.2.2 dJ1_charAt_3b067_14 hlk
set_option maxHeartbeats 4000000 in
set_option maxRecDepth 100000 in
theorem met_J0_isLatin1 {l : Launch} {E : EnvT} (vE : EnvOk E) {N : Nat} {len : List Nat} {byt : List (List Int32)} {aK aV : Nat → Nat} (vS : ∀ A U H, E A U H → sF N len byt aK aV A U H) {sz i : Nat} (hi : i < N) {post : Int32 → Prop} (hp : post 1) : Met l yJ0_isLatin1_aae02 wgJ0_isLatin1_aae02 rmZ (va_Pc [.ref (aK i)] (sPre E sz)) (va_Qi (S := Unit) (fun r _ => post r) (fun _ _ => True) (va_A [] sz)) 0 0 (va_A [] sz) := by
  refine Met.ofW (cc := cJ0_isLatin1_aae02) (maxL := 1) (ret := (some .boolean)) (by decide) rfl ?_
  intro p e s m args below meth c s₁ B hml hv
  obtain ⟨rfl, hsz, hE⟩ := hv
  subst hsz
  generalize hAe : va_A [] s.heap.size = A at hE ⊢
  have hS : va_S A s.heap s.heap [] := va_S.rf
  have hx := B.exec
  have hb := B.bytes
  have hr := B.returns
  have hlk := B.notSynchronized
  have hts := atoms_spec (ws := wgJ0_isLatin1_aae02) B.pre
  have hown : s.vm.findClass RJ0 = some m.cls := findClass_of_methodNamed B.named
  obtain ⟨hVK, hVC, hVF⟩ := vS _ _ _ hE
  have hl := lv_entry ([.ref (aK i)]) (n := 1) (Nat.le_of_ble_eq_true rfl)
  rw [lg_entry_eq]
  generalize (lg_sl ([.ref (aK i)]) ++ List.replicate (1 - (lg_sl ([.ref (aK i)])).length) Slot.unset).toArray = ls at hl ⊢
  have hl : lv_has ls 1 [(0, .ref (aK i))] := hl
  refine va_gets hx hb hVC hS hown (hts _ (List.mem_cons_of_mem _ tw_2_55)) (fun _ h => h) dJ0_isLatin1_aae02_0 ?_
  refine lv_if_eq (tgt := 17) hx hb dJ0_isLatin1_aae02_3 (by decide) (fun q => absurd q (by decide)) (fun _ => ?_)
  refine lv_aload_n hx hb dJ0_isLatin1_aae02_6 rfl (lv_at hl 0 rfl) ?_
  refine vk_getf hx hb (hVK i hi).2.1 hS hown (hts _ (List.mem_cons_of_mem _ tw_3_212)) (fun _ h => h) dJ0_isLatin1_aae02_7 ?_
  refine lv_if_ne (tgt := 17) hx hb dJ0_isLatin1_aae02_10 (by decide) (fun q => absurd rfl q) (fun _ => ?_)
  refine lv_iconst (v := 1) hx hb dJ0_isLatin1_aae02_13 (by decide) ?_
  refine lv_goto (tgt := 18) hx hb dJ0_isLatin1_aae02_14 (by decide) ?_
  exact W.zret (v := 1) (ty := .boolean) hx hb hr rfl (fun t ht hW => ⟨⟨_, (), rfl, hp, trivial⟩, hS.F ht⟩) hS.2.2 dJ0_isLatin1_aae02_18 hlk
def rmCA : Room := { frames := 3, cells := 0, slots := 0, locals := 64 }
set_option maxHeartbeats 4000000 in
set_option maxRecDepth 100000 in
/-- String.charAt, of a literal -/
theorem met_J0_charAt {l : Launch} {E : EnvT} (vE : EnvOk E) {N : Nat} {len : List Nat} {byt : List (List Int32)} {aK aV : Nat → Nat} (vS : ∀ A U H, E A U H → sF N len byt aK aV A U H) {sz i : Nat} (hi : i < N) {j : Int32} {post : Int32 → Prop} (h0 : ¬ j < 0) (h1 : j < Int32.ofNat (len.getD i 0)) (hj : vp_in j (len.getD i 0)) (hp : post (sCh byt i j.toNatClampNeg)) : Met l yJ0_charAt_5068e wgJ0_charAt_5068e rmCA (va_Pc [.ref (aK i), .int j] (sPre E sz)) (va_Qi (S := Unit) (fun r _ => post r) (fun _ _ => True) (va_A [] sz)) 0 0 (va_A [] sz) := by
  refine Met.ofW (cc := cJ0_charAt_5068e) (maxL := 2) (ret := (some .char)) (by decide) rfl ?_
  intro p e s m args below meth c s₁ B hml hv
  obtain ⟨rfl, hsz, hE⟩ := hv
  subst hsz
  generalize hAe : va_A [] s.heap.size = A at hE ⊢
  have hA : ∀ q : Nat, s.heap.size ≤ q → A q := fun q h => by rw [← hAe]; exact Or.inr h
  have hS : va_S A s.heap s.heap [] := va_S.rf
  have C : sCx p s m _ meth c cJ0_charAt_5068e 2 (some .char) wgJ0_charAt_5068e RJ0 E A := ⟨B.exec, B.bytes, hml, B.returns, findClass_of_methodNamed B.named, atoms_spec (ws := wgJ0_charAt_5068e) B.pre, hA, B.notSynchronized, hE, vE⟩
  obtain ⟨hx, hb, hml, hr, hown, hts, hA, hlk, hE, vE⟩ := id C
  obtain ⟨hVK, hVC, hVF⟩ := vS _ _ _ hE
  have hl := lv_entry ([.ref (aK i), .int j]) (n := 2) (Nat.le_of_ble_eq_true rfl)
  rw [lg_entry_eq]
  generalize (lg_sl ([.ref (aK i), .int j]) ++ List.replicate (2 - (lg_sl ([.ref (aK i), .int j])).length) Slot.unset).toArray = ls at hl ⊢
  have hl : lv_has ls 2 [(0, .ref (aK i)), (1, .int j)] := hl
  refine lv_aload_n hx hb dJ0_charAt_5068e_0 rfl (lv_at hl 0 rfl) ?_
  refine sK_i (As := []) (rest := []) C (hVK i hi).1 (met_J0_isLatin1 vE vS hi (post := fun r => r = 1) rfl) (cwV 0 hts (TB_G (TB_4 tw_2_60 tw_2_61 tw_2_62 tw_1_11) tw_2_63) rfl rfl rfl (by decide +kernel) ⟨by decide, by decide⟩) hS rfl hl.1 rfl (by decide) dJ0_charAt_5068e_1 ⟨by decide, by decide⟩ (fun r H locs hw hS => ?_)
  refine lv_if_eq (tgt := 16) hx hb dJ0_charAt_5068e_4 (by decide) (fun q => absurd (hw.symm.trans q) (by decide)) (fun _ => ?_)
  refine lv_aload_n hx hb dJ0_charAt_5068e_7 rfl (lv_at hl 0 rfl) ?_
  refine vk_getf hx hb (hVK i hi).2.2.1 hS hown (hts _ (List.mem_cons_of_mem _ tw_3_211)) (fun _ h => h) dJ0_charAt_5068e_8 ?_
  refine lv_iload_n hx hb dJ0_charAt_5068e_11 rfl (lv_at hl 1 rfl) ?_
  refine sS_i (As := [.ref (aV i), .int j]) (rest := []) C (met_J1_charAt vE vS hi (post := fun r => r = sCh byt i j.toNatClampNeg) h0 h1 hj rfl) (va_cwS 2 hts (TB_G (TB_3 tw_2_64 tw_2_65 tw_1_14) tw_2_66) rfl rfl rfl (by decide +kernel) ⟨by decide, by decide⟩) hS rfl hl.1 rfl (by decide) dJ0_charAt_5068e_12 ⟨by decide, by decide⟩ (fun r H locs hw hS => ?_)
  subst hw
  exact W.zret (v := sCh byt i j.toNatClampNeg) (ty := .char) hx hb hr (sCh_n _ _ _) (fun t ht hW => ⟨⟨_, (), rfl, hp, trivial⟩, hS.F ht⟩) hS.2.2 dJ0_charAt_5068e_15 hlk
