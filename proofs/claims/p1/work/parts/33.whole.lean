/-! the law from its entry (printed by wip/tools/mkwhole.py) -/
theorem ka_prim {s : State} {args : Array Value} {ty : FieldType} (h : (Cond.arrayClass ty).before args s = true) (hra : ∀ x : ClassId, s.vm.findClass ("[" ++ ty.toString) = some x → va_RA s x ty) : ∃ c : ClassId, ArrOfT s c ty ∧ va_RA s c ty := by
  obtain ⟨c, k, comp, h1, h2, h3⟩ := Cond.arrayClass_spec (args := args) (first := s) (o := none) (s := s) (idx := []) h
  exact ⟨c, fun n z => ⟨fun k h => (by cases h), k, h2, comp, h3⟩, hra c h1⟩
theorem ka_ref {s : State} {C : String} (h : va_AO C s) : ∃ c : ClassId, ArrOfT s c (.object C) ∧ va_RA s c (.object C) := by
  obtain ⟨comp, c, k, h1, -, h2, h3, h4⟩ := Cond.arrayOver_spec (args := #[]) (first := s) (o := none) (s := s) (idx := []) h
  exact ⟨c, fun n z => ⟨fun k h => (by cases h), k, h2, comp, h3⟩, k, comp, h2, h3, h1, h4⟩
theorem K_start {s : State} {args : Array Value} (hts : ∀ w ∈ lw_tbl, w.before args s = true) (hao : va_AO "KernelText$Op" s) : ∃ (D : va_G) (cA : Nat → ClassId), va_K D vwCl (xT cA) s := by
  obtain ⟨c0, i0, h0⟩ := u_known (C := RJ0) (T := TJ0) (N := 4) (n := 4) hts (fun w h => TB_tbl (inJ0 w h)) (hts _ (TB_tbl tw_3_144))
  obtain ⟨c1, i1, h1⟩ := u_known (C := RJ4) (T := TJ4) (N := 4) (n := 4) hts (fun w h => TB_tbl (inJ4 w h)) (hts _ (TB_tbl tw_1_188))
  obtain ⟨c2, i2, h2⟩ := u_known (C := RX0) (T := TX0) (N := 5) (n := 5) hts (fun w h => TB_tbl (inX0 w h)) (hts _ (TB_tbl tw_1_143))
  obtain ⟨c3, i3, h3⟩ := u_known (C := RX1) (T := TX1) (N := 3) (n := 3) hts (fun w h => TB_tbl (inX1 w h)) (hts _ (TB_tbl tw_1_64))
  obtain ⟨c4, i4, h4⟩ := u_known (C := RX2) (T := TX2) (N := 0) (n := 7) hts (fun w h => by simp [u_ws] at h) (hts _ (TB_tbl tw_2_35))
  obtain ⟨c5, i5, h5⟩ := u_known (C := RX3) (T := TX3) (N := 8) (n := 8) hts (fun w h => TB_tbl (inX3 w h)) (hts _ (TB_tbl tw_1_56))
  obtain ⟨c6, i6, h6⟩ := u_known (C := RX4) (T := TX4) (N := 1) (n := 1) hts (fun w h => TB_tbl (inX4 w h)) (hts _ (TB_tbl tw_1_182))
  obtain ⟨c7, i7, h7⟩ := u_known (C := RX5) (T := TX5) (N := 2) (n := 2) hts (fun w h => TB_tbl (inX5 w h)) (hts _ (TB_tbl tw_1_39))
  obtain ⟨c8, i8, h8⟩ := u_known (C := RX6) (T := TX6) (N := 6) (n := 6) hts (fun w h => TB_tbl (inX6 w h)) (hts _ (TB_tbl tw_1_86))
  obtain ⟨c9, i9, h9⟩ := u_known (C := RX7) (T := TX7) (N := 1) (n := 1) hts (fun w h => TB_tbl (inX7 w h)) (hts _ (TB_tbl tw_1_172))
  obtain ⟨c10, i10, h10⟩ := u_known (C := RX8) (T := TX8) (N := 6) (n := 6) hts (fun w h => TB_tbl (inX8 w h)) (hts _ (TB_tbl tw_1_31))
  obtain ⟨c11, i11, h11⟩ := u_known (C := RX9) (T := TX9) (N := 32) (n := 32) hts (fun w h => TB_tbl (inX9 w h)) (hts _ (TB_tbl tw_5_105))
  obtain ⟨a0, g0⟩ := ka_prim (hts _ (TB_tbl tw_1_83)) (fun _ h => h)
  obtain ⟨a1, g1⟩ := ka_prim (hts _ (TB_tbl tw_1_84)) (fun _ h => h)
  obtain ⟨a2, g2⟩ := ka_prim (hts _ (TB_tbl tw_1_54)) (fun _ h => h)
  obtain ⟨a3, g3⟩ := ka_ref hao
  obtain ⟨a4, g4⟩ := ka_prim (hts _ (TB_tbl tw_1_219)) (fun _ h => h)
  refine ⟨(fun k => if k = 0 then c0 else if k = 1 then c1 else if k = 2 then c2 else if k = 3 then c3 else if k = 4 then c4 else if k = 5 then c5 else if k = 6 then c6 else if k = 7 then c7 else if k = 8 then c8 else if k = 9 then c9 else if k = 10 then c10 else c11, fun k => if k = 0 then i0 else if k = 1 then i1 else if k = 2 then i2 else if k = 3 then i3 else if k = 4 then i4 else if k = 5 then i5 else if k = 6 then i6 else if k = 7 then i7 else if k = 8 then i8 else if k = 9 then i9 else if k = 10 then i10 else i11), fun k => if k = 0 then a0 else if k = 1 then a1 else if k = 2 then a2 else if k = 3 then a3 else a4, ?_, ?_⟩
  · intro k q hq
    match k, hq with
    | 0, hq => cases hq; exact h0
    | 1, hq => cases hq; exact h1
    | 2, hq => cases hq; exact h2
    | 3, hq => cases hq; exact h3
    | 4, hq => cases hq; exact h4
    | 5, hq => cases hq; exact h5
    | 6, hq => cases hq; exact h6
    | 7, hq => cases hq; exact h7
    | 8, hq => cases hq; exact h8
    | 9, hq => cases hq; exact h9
    | 10, hq => cases hq; exact h10
    | 11, hq => cases hq; exact h11
    | k + 12, hq => simp [vwCl] at hq
  · intro k q hq
    match k, hq with
    | 0, hq => cases hq; exact g0
    | 1, hq => cases hq; exact g1
    | 2, hq => cases hq; exact g2
    | 3, hq => cases hq; exact g3
    | 4, hq => cases hq; exact g4
    | k + 5, hq => simp [xT] at hq
set_option maxHeartbeats 4000000 in
set_option maxRecDepth 100000 in
/-- at the loop's head with nothing left to read -/
theorem law_out {p : Program} {l : Launch} {e : Env} {s : State} {m : MethodId} {below : List Frame} {meth : Method} {c : Code} {cells slots : Nat} {b L : Nat} {xs : Nat → Int32} (C0 : lw_At p s m meth c b L xs) (hc1 : cells ≤ 600002) (hc2 : slots ≤ 7302232) {H : Heap} {locs : List Loc} {ls : Array Slot} {lv : List (Nat × Value)} {x4 : Int32} (hS : va_S (fun q : Nat => s.heap.size ≤ q) s.heap H locs) (hl : lv_has ls 8 ((0, .ref b) :: (4, .int x4) :: lv)) (hx4 : Int32.ofNat L - 4 < x4) : W p l e room_1 s m #[Value.ref b] below meth c H locs cells slots (lw_Z below #[Value.ref b] s) (F0 m 23 ls []) := by
  obtain ⟨hx, hb, hr, hml, hown, hts, hX, hbl, hlocks, hgv⟩ := C0
  have hbA : ¬ (fun q : Nat => s.heap.size ≤ q) b := Nat.not_le.mpr hbl
  refine lv_iload hx hb dL_law_23 (lv_at hl 1 rfl) ?_
  refine lv_aload_n hx hb dL_law_25 rfl (lv_at hl 0 rfl) ?_
  refine va_slen hx hb hX hbl hbA hS dL_law_26 ?_
  refine lv_iconst (v := 4) hx hb dL_law_27 (by decide) ?_
  refine lv_isub hx hb dL_law_28 ?_
  refine lv_icmp_gt (tgt := 642) hx hb dL_law_29 (by decide) (fun _ => ?_) (fun q_ => absurd hx4 q_)
  refine lv_iconst (v := 1) hx hb dL_law_642 (by decide) ?_
  refine va_forget (fun q hq => hS.2.2 q hq) ?_
  refine W.widen (k := 600002) (n := 7302232) hc1 hc2 ?_
  exact lw_ret hx hb hr hlocks dL_law_643
set_option maxHeartbeats 8000000 in
set_option maxRecDepth 100000 in
/-- a script of at most four ints: one call at most, on the new objects -/
theorem law_one {p : Program} {l : Launch} {e : Env} {s : State} {m : MethodId} {below : List Frame} {meth : Method} {c : Code} {cells slots : Nat} {b L : Nat} {xs : Nat → Int32} {E : EnvT} {D : va_G} {cA cB : Nat → ClassId} {aE ad bd : Nat → Nat} {hB ao : Nat} (C0 : lw_At p s m meth c b L xs) (hKx : va_K D vwCl (xT cA) s) (hKm : va_K D vwCl (mT cB) s) (vE : EnvOk E) (hE : E (fun q : Nat => s.heap.size ≤ q) s s.heap) {aK aV bK bV : Nat → Nat} {aO : Nat} (vX : eXs bK bV aE aO E) (vM : eMs aK aV E) (vC : eCs E) (hst : l.stackTraces = false) (hL : L ≤ 4) {f : Nat → Int64} {H : Heap} {locs : List Loc} {ls : Array Slot} (hc1 : cells ≤ 600000) (hc2 : slots ≤ 7302222) (hG : lG D cA aE ad cB hB bd ao s x0 m0 f H locs) (hl : lv_has ls 8 [(0, .ref b), (1, .ref (ad 0)), (2, .ref hB), (3, .ref ao), (4, .int 0)]) :
    W p l e room_1 s m #[Value.ref b] below meth c H locs cells slots (lw_Z below #[Value.ref b] s) (F0 m 23 ls []) := by
  by_cases hL4 : L = 4
  · subst hL4
    obtain ⟨hx, hb, hr, hml, hown, hts, hX, hbl, hlocks, hgv⟩ := id C0
    have hbA : ¬ (fun q : Nat => s.heap.size ≤ q) b := Nat.not_le.mpr hbl
    have tail : ∀ (k1 k2 : Nat), k1 ≤ 600002 → k2 ≤ 7302232 → ∀ (H : Heap) (locs : List Loc) (ls : Array Slot), va_S (fun q : Nat => s.heap.size ≤ q) s.heap H locs → lv_has ls 8 [(0, .ref b), (1, .ref (ad 0)), (2, .ref hB), (3, .ref ao), (4, .int 0)] → W p l e room_1 s m #[Value.ref b] below meth c H locs k1 k2 (lw_Z below #[Value.ref b] s) (F0 m 636 ls []) := by
      intro k1 k2 h1 h2 H locs ls hS hl
      refine lv_iinc (v := 4) (lv' := [(4, .int 4), (0, .ref b), (1, .ref (ad 0)), (2, .ref hB), (3, .ref ao)]) hx hb dL_law_636 hl (k := 4) rfl rfl (by decide) rfl (fun ls hl => ?_)
      refine lv_goto (tgt := 23) hx hb dL_law_639 (by decide) ?_
      exact law_out C0 h1 h2 hS (lv_sub hl [1, 0] rfl) (by decide)
    have hS := hG.2.2
    refine lv_iload hx hb dL_law_23 (lv_at hl 4 rfl) ?_
    refine lv_aload_n hx hb dL_law_25 rfl (lv_at hl 0 rfl) ?_
    refine va_slen hx hb hX hbl hbA hS dL_law_26 ?_
    refine lv_iconst (v := 4) hx hb dL_law_27 (by decide) ?_
    refine lv_isub hx hb dL_law_28 ?_
    refine lv_icmp_gt (tgt := 642) hx hb dL_law_29 (by decide) (fun q_ => absurd q_ (by decide)) (fun _ => ?_)
    refine lv_aload_n hx hb dL_law_32 rfl (lv_at hl 0 rfl) ?_
    refine lv_iload hx hb dL_law_33 (lv_at hl 4 rfl) ?_
    refine va_sld hx hb hX hbl hbA hS (i := 0) (by unfold vp_in; decide) dL_law_35 ?_
    refine lv_bipush (v := 15) hx hb dL_law_36 (by decide) ?_
    refine lv_iand hx hb dL_law_38 ?_
    by_cases q_0 : xs (0 : Int32).toNatClampNeg &&& 15 = 0
    · refine lv_tableIn (tgt := 100) hx hb dL_law_39 (by rw [q_0] <;> decide) (by rw [q_0] <;> decide) (by rw [q_0] <;> rfl) (by decide) ?_
      exact kc_0 C0 hKx hKm vE hE vX vM vC hst (I := fun _ _ => True) (by unfold vp_in; decide) (by unfold vp_in; decide) (by unfold vp_in; decide) hc1 hc2 hG hl s0_0 (fun σ1 τ1 f1 H1 locs1 ls1 _ hG1 hl1 => tail _ _ (Nat.le_trans (Nat.add_le_add_right hc1 0) (by decide)) (Nat.le_trans (Nat.add_le_add_right hc2 0) (by decide)) _ _ _ hG1.2.2 hl1)
    by_cases q_1 : xs (0 : Int32).toNatClampNeg &&& 15 = 1
    · refine lv_tableIn (tgt := 169) hx hb dL_law_39 (by rw [q_1] <;> decide) (by rw [q_1] <;> decide) (by rw [q_1] <;> rfl) (by decide) ?_
      exact kc_1 C0 hKx hKm vE hE vX vM vC hst (I := fun _ _ => True) hc1 hc2 hG hl s0_1 (fun σ1 τ1 f1 H1 locs1 ls1 _ hG1 hl1 => tail _ _ (Nat.le_trans (Nat.add_le_add_right hc1 1) (by decide)) (Nat.le_trans (Nat.add_le_add_right hc2 6) (by decide)) _ _ _ hG1.2.2 hl1)
    by_cases q_2 : xs (0 : Int32).toNatClampNeg &&& 15 = 2
    · refine lv_tableIn (tgt := 213) hx hb dL_law_39 (by rw [q_2] <;> decide) (by rw [q_2] <;> decide) (by rw [q_2] <;> rfl) (by decide) ?_
      exact kc_2 C0 hKx hKm vE hE vX vM vC hst (I := fun _ _ => True) (by unfold vp_in; decide) hc1 hc2 hG hl s0_2 (fun σ1 τ1 f1 H1 locs1 ls1 _ hG1 hl1 => tail _ _ (Nat.le_trans (Nat.add_le_add_right hc1 0) (by decide)) (Nat.le_trans (Nat.add_le_add_right hc2 0) (by decide)) _ _ _ hG1.2.2 hl1)
    by_cases q_3 : xs (0 : Int32).toNatClampNeg &&& 15 = 3
    · refine lv_tableIn (tgt := 238) hx hb dL_law_39 (by rw [q_3] <;> decide) (by rw [q_3] <;> decide) (by rw [q_3] <;> rfl) (by decide) ?_
      exact kc_3 C0 hKx hKm vE hE vX vM vC hst (I := fun _ _ => True) (by unfold vp_in; decide) (by unfold vp_in; decide) (by unfold vp_in; decide) hc1 hc2 hG hl s0_3 (fun σ1 τ1 f1 H1 locs1 ls1 _ hG1 hl1 => tail _ _ (Nat.le_trans (Nat.add_le_add_right hc1 0) (by decide)) (Nat.le_trans (Nat.add_le_add_right hc2 0) (by decide)) _ _ _ hG1.2.2 hl1)
    by_cases q_4 : xs (0 : Int32).toNatClampNeg &&& 15 = 4
    · refine lv_tableIn (tgt := 307) hx hb dL_law_39 (by rw [q_4] <;> decide) (by rw [q_4] <;> decide) (by rw [q_4] <;> rfl) (by decide) ?_
      exact kc_4 C0 hKx hKm vE hE vX vM vC hst (I := fun _ _ => True) (by unfold vp_in; decide) hc1 hc2 hG hl s0_4 (fun σ1 τ1 f1 H1 locs1 ls1 _ hG1 hl1 => tail _ _ (Nat.le_trans (Nat.add_le_add_right hc1 1) (by decide)) (Nat.le_trans (Nat.add_le_add_right hc2 6) (by decide)) _ _ _ hG1.2.2 hl1)
    by_cases q_5 : xs (0 : Int32).toNatClampNeg &&& 15 = 5
    · refine lv_tableIn (tgt := 362) hx hb dL_law_39 (by rw [q_5] <;> decide) (by rw [q_5] <;> decide) (by rw [q_5] <;> rfl) (by decide) ?_
      exact kc_5 C0 hKx hKm vE hE vX vM vC hst (I := fun _ _ => True) (by unfold vp_in; decide) (by unfold vp_in; decide) hc1 hc2 hG hl s0_5 (fun σ1 τ1 f1 H1 locs1 ls1 _ hG1 hl1 => tail _ _ (Nat.le_trans (Nat.add_le_add_right hc1 0) (by decide)) (Nat.le_trans (Nat.add_le_add_right hc2 0) (by decide)) _ _ _ hG1.2.2 hl1)
    by_cases q_6 : xs (0 : Int32).toNatClampNeg &&& 15 = 6
    · refine lv_tableIn (tgt := 399) hx hb dL_law_39 (by rw [q_6] <;> decide) (by rw [q_6] <;> decide) (by rw [q_6] <;> rfl) (by decide) ?_
      exact kc_6 C0 hKx hKm vE hE vX vM vC hst (I := fun _ _ => True) (by unfold vp_in; decide) (by unfold vp_in; decide) hc1 hc2 hG hl s0_6 (fun σ1 τ1 f1 H1 locs1 ls1 _ hG1 hl1 => tail _ _ (Nat.le_trans (Nat.add_le_add_right hc1 1) (by decide)) (Nat.le_trans (Nat.add_le_add_right hc2 6) (by decide)) _ _ _ hG1.2.2 hl1)
    by_cases q_7 : xs (0 : Int32).toNatClampNeg &&& 15 = 7
    · refine lv_tableIn (tgt := 487) hx hb dL_law_39 (by rw [q_7] <;> decide) (by rw [q_7] <;> decide) (by rw [q_7] <;> rfl) (by decide) ?_
      exact kc_7 C0 hKx hKm vE hE vX vM vC hst (I := fun _ _ => True) (by unfold vp_in; decide) (by unfold vp_in; decide) hc1 hc2 hG hl s0_7 (fun σ1 τ1 f1 H1 locs1 ls1 _ hG1 hl1 => tail _ _ (Nat.le_trans (Nat.add_le_add_right hc1 0) (by decide)) (Nat.le_trans (Nat.add_le_add_right hc2 0) (by decide)) _ _ _ hG1.2.2 hl1)
    by_cases q_8 : xs (0 : Int32).toNatClampNeg &&& 15 = 8
    · refine lv_tableIn (tgt := 524) hx hb dL_law_39 (by rw [q_8] <;> decide) (by rw [q_8] <;> decide) (by rw [q_8] <;> rfl) (by decide) ?_
      exact kc_8 C0 hKx hKm vE hE vX vM vC hst (I := fun _ _ => True) (by unfold vp_in; decide) hc1 hc2 hG hl s0_8 (fun σ1 τ1 f1 H1 locs1 ls1 _ hG1 hl1 => tail _ _ (Nat.le_trans (Nat.add_le_add_right hc1 0) (by decide)) (Nat.le_trans (Nat.add_le_add_right hc2 0) (by decide)) _ _ _ hG1.2.2 hl1)
    by_cases q_9 : xs (0 : Int32).toNatClampNeg &&& 15 = 9
    · refine lv_tableIn (tgt := 549) hx hb dL_law_39 (by rw [q_9] <;> decide) (by rw [q_9] <;> decide) (by rw [q_9] <;> rfl) (by decide) ?_
      exact kc_9 C0 hKx hKm vE hE vX vM vC hst (I := fun _ _ => True) (by unfold vp_in; decide) (by unfold vp_in; decide) hc1 hc2 hG hl s0_9 (fun σ1 τ1 f1 H1 locs1 ls1 _ hG1 hl1 => tail _ _ (Nat.le_trans (Nat.add_le_add_right hc1 0) (by decide)) (Nat.le_trans (Nat.add_le_add_right hc2 0) (by decide)) _ _ _ hG1.2.2 hl1)
    by_cases q_10 : xs (0 : Int32).toNatClampNeg &&& 15 = 10
    · refine lv_tableIn (tgt := 586) hx hb dL_law_39 (by rw [q_10] <;> decide) (by rw [q_10] <;> decide) (by rw [q_10] <;> rfl) (by decide) ?_
      exact kc_10 C0 hKx hKm vE hE vX vM vC hst (I := fun _ _ => True) (by unfold vp_in; decide) hc1 hc2 hG hl s0_10 (fun σ1 τ1 f1 H1 locs1 ls1 _ hG1 hl1 => tail _ _ (Nat.le_trans (Nat.add_le_add_right hc1 0) (by decide)) (Nat.le_trans (Nat.add_le_add_right hc2 0) (by decide)) _ _ _ hG1.2.2 hl1)
    by_cases q_11 : xs (0 : Int32).toNatClampNeg &&& 15 = 11
    · refine lv_tableIn (tgt := 611) hx hb dL_law_39 (by rw [q_11] <;> decide) (by rw [q_11] <;> decide) (by rw [q_11] <;> rfl) (by decide) ?_
      exact kc_11 C0 hKx hKm vE hE vX vM vC hst (I := fun _ _ => True) (by unfold vp_in; decide) hc1 hc2 hG hl s0_11 (fun σ1 τ1 f1 H1 locs1 ls1 _ hG1 hl1 => tail _ _ (Nat.le_trans (Nat.add_le_add_right hc1 0) (by decide)) (Nat.le_trans (Nat.add_le_add_right hc2 0) (by decide)) _ _ _ hG1.2.2 hl1)
    refine lv_tableOut (tgt := 636) hx hb dL_law_39 (by have z_0 := lv_neT q_0 (a := 0) (by decide); have z_1 := lv_neT q_1 (a := 1) (by decide); have z_2 := lv_neT q_2 (a := 2) (by decide); have z_3 := lv_neT q_3 (a := 3) (by decide); have z_4 := lv_neT q_4 (a := 4) (by decide); have z_5 := lv_neT q_5 (a := 5) (by decide); have z_6 := lv_neT q_6 (a := 6) (by decide); have z_7 := lv_neT q_7 (a := 7) (by decide); have z_8 := lv_neT q_8 (a := 8) (by decide); have z_9 := lv_neT q_9 (a := 9) (by decide); have z_10 := lv_neT q_10 (a := 10) (by decide); have z_11 := lv_neT q_11 (a := 11) (by decide); omega) (by decide) ?_
    exact tail _ _ (Nat.le_trans hc1 (by decide)) (Nat.le_trans hc2 (by decide)) _ _ _ hG.2.2 hl
  · exact law_out C0 (Nat.le_trans hc1 (by decide)) (Nat.le_trans hc2 (by decide)) hG.2.2 (lv_sub hl [0, 4] rfl) (by
      have h : L = 0 ∨ L = 1 ∨ L = 2 ∨ L = 3 := by omega
      rcases h with rfl | rfl | rfl | rfl <;> decide)
set_option maxHeartbeats 8000000 in
set_option maxRecDepth 100000 in
theorem whole_start {p : Program} {e : Env} {s : State} {m : MethodId} {below : List Frame} {meth : Method} {c : Code} (l : Launch) (hst : l.stackTraces = false) {b L : Nat} {xs : Nat → Int32} (hL : L ≤ 4) (C0 : lw_At p s m meth c b L xs) : W p l e room_1 s m #[Value.ref b] below meth c s.heap [] 0 0 (lw_Z below #[Value.ref b] s) (entryFrame m ([Value.ref b] : List Value).toArray 8) := by
  obtain ⟨hx, hb, hr, hml, hown, hts, hX, hbl, hlocks, hgv⟩ := id C0
  have hA : ∀ q : Nat, s.heap.size ≤ q → (fun q : Nat => s.heap.size ≤ q) q := fun _ h => h
  obtain ⟨aK, aV, bK, bV, aE, aO, hE⟩ := EE_start hts hgv
  obtain ⟨D, cA, hK⟩ := K_start hts (eX.ao hE.2.1)
  have vE := ok_EE (aK := aK) (aV := aV) (bK := bK) (bV := bV) (aE := aE) (aO := aO)
  have vX := EE_X (aK := aK) (aV := aV) (bK := bK) (bV := bV) (aE := aE) (aO := aO)
  have vM := EE_M (aK := aK) (aV := aV) (bK := bK) (bV := bV) (aE := aE) (aO := aO)
  have vC := EE_C (aK := aK) (aV := aV) (bK := bK) (bV := bV) (aE := aE) (aO := aO)
  generalize EE aK aV bK bV aE aO = E at hE vE vX vM vC
  have hS : va_S (fun q : Nat => s.heap.size ≤ q) s.heap s.heap [] := va_S.rf
  have hP : va_P D vwCl [] s.heap := fun k q h => by simp at h
  have hD : va_D (fun q : Nat => s.heap.size ≤ q) [] := ⟨fun i j p q h => by simp at h, fun k q h => by simp at h⟩
  have Cx : xCx p s m #[Value.ref b] meth c code 8 ret lw_tbl R_law E D cA (fun q : Nat => s.heap.size ≤ q) := ⟨hx, hb, hml, hr, hown, hts, hK, hA, hlocks, hE, vE⟩
  have hl := lv_entry ([.ref b]) (n := 8) (Nat.le_of_ble_eq_true rfl)
  rw [lg_entry_eq]
  generalize (lg_sl ([.ref b]) ++ List.replicate (8 - (lg_sl ([.ref b])).length) Slot.unset).toArray = ls at hl ⊢
  have hl : lv_has ls 8 [(0, .ref b)] := hl
  refine va_new (ci := 10) (fs := [.null, .null, .null, .null, .null, .null]) (C := RX8) (T := TX8) (N := 6) hx hb hts (fun w h => TB_tbl (inX8 w h)) tyX8 tyX8_ok hown (hts _ (TB_tbl tw_1_30)) (hts _ (TB_tbl tw_1_31)) (hts _ (TB_tbl tw_1_1)) hK hP hD hS hA rfl (fun j hj => match j, hj with | 0, _ => rfl | 1, _ => rfl | 2, _ => rfl | 3, _ => rfl | 4, _ => rfl | 5, _ => rfl | j + 6, h => absurd h (by omega)) (by decide) (by decide) dL_law_0 (fun q0 H hP hD hS => ?_)
  have hP : va_P D vwCl [(q0, .inr (10, [.null, .null, .null, .null, .null, .null]))] H := hP
  have hD : va_D (fun q : Nat => s.heap.size ≤ q) [(q0, .inr (10, [.null, .null, .null, .null, .null, .null]))] := hD
  refine W.widen (k := 1) (n := 6) (by decide) (by decide) ?_
  refine lv_dup hx hb dL_law_3 rfl ?_
  refine gI_v (wr := []) (As := []) (rest := [.ref q0]) Cx (met_X8_init vE vX (D := D) (cA := cA) (h := q0) (sz := H.size)) (cwI 0 hts (TB_GL (pre := []) (fun _ h => nomatch h) tw_1_34) rfl rfl rfl (hts _ (TB_tbl tw_1_1)) (hts _ (TB_tbl tw_1_32)) (hts _ (TB_tbl tw_1_33)) rfl (by decide +kernel) ⟨by decide, by decide⟩) hP hD hS 0 [] rfl rfl (by decide) (by decide) rfl hl.1 rfl (Nat.le_of_ble_eq_true rfl) dL_law_4 ⟨by decide, by decide⟩ (fun u H locs hP hD hS => ?_)
  obtain ⟨ad, rfl, hP, hD⟩ := xW_new aE hP hD
  have hP : va_P D vwCl (xW cA aE ad x0) H := hP.sub [0, 1, 2, 3, 4, 5, 6, 7, 8, 9, 10, 11, 12, 13, 14, 15, 16, 17, 18, 19, 20, 21, 22, 23] rfl
  have hD : va_D (fun q : Nat => s.heap.size ≤ q) (xW cA aE ad x0) := hD.sub [0, 1, 2, 3, 4, 5, 6, 7, 8, 9, 10, 11, 12, 13, 14, 15, 16, 17, 18, 19, 20, 21, 22, 23] (by decide) rfl
  refine W.widen (k := 26) (n := 4706) (by decide) (by decide) ?_
  refine lv_astore_n (lv' := [(1, .ref (ad 0)), (0, .ref b)]) hx hb dL_law_7 rfl hl (by decide) rfl (fun ls hl => ?_)
  refine va_new (ci := 11) (fs := mBlank) (C := RX9) (T := TX9) (N := 32) hx hb hts (fun w h => TB_tbl (inX9 w h)) tyX9 tyX9_ok hown (hts _ (TB_tbl tw_5_104)) (hts _ (TB_tbl tw_5_105)) (hts _ (TB_tbl tw_1_13)) hK hP hD hS hA rfl (fun j hj => match j, hj with | 0, _ => rfl | 1, _ => rfl | 2, _ => rfl | 3, _ => rfl | 4, _ => rfl | 5, _ => rfl | 6, _ => rfl | 7, _ => rfl | 8, _ => rfl | 9, _ => rfl | 10, _ => rfl | 11, _ => rfl | 12, _ => rfl | 13, _ => rfl | 14, _ => rfl | 15, _ => rfl | 16, _ => rfl | 17, _ => rfl | 18, _ => rfl | 19, _ => rfl | 20, _ => rfl | 21, _ => rfl | 22, _ => rfl | 23, _ => rfl | 24, _ => rfl | 25, _ => rfl | 26, _ => rfl | 27, _ => rfl | 28, _ => rfl | 29, _ => rfl | 30, _ => rfl | 31, _ => rfl | j + 32, h => absurd h (by omega)) (by decide) (by decide) dL_law_8 (fun hB H hP hD hS => ?_)
  refine W.widen (k := 27) (n := 4738) (by decide) (by decide) ?_
  refine lv_dup hx hb dL_law_11 rfl ?_
  have hPc : va_P D vwCl [(hB, .inr (11, mBlank))] H := hP.sub [24] rfl
  have hDc : va_D (fun q : Nat => s.heap.size ≤ q) [(hB, .inr (11, mBlank))] := hD.sub [24] (by decide) rfl
  have hKc := hK.sub (tys' := []) [] rfl
  have hFc := va_free (wc := [(hB, .inr (11, mBlank))]) hD hS hA [24] rfl
  refine va_callv (va_runI (As := []) (rest := [.ref hB]) ⟨hx, hb, hml, hown, hts⟩ (met_X9_init (D := D) (h := hB) (sz := H.size)) (cwI 0 hts (TB_GL (pre := []) (fun _ h => nomatch h) tw_5_108) rfl rfl rfl (hts _ (TB_tbl tw_1_13)) (hts _ (TB_tbl tw_5_106)) (hts _ (TB_tbl tw_5_107)) rfl (by decide +kernel) ⟨by decide, by decide⟩) ⟨fun a U g mk q => by obtain ⟨q0, q1, qP, qK, qD⟩ := q; exact ⟨q0, q1, qP, va_K.moved (u := U) (U := U.calling g mk a) (Vm.Alike.refl U.vm) qK, qD⟩, fun U hU hW => ⟨rfl, by rw [hU], by rw [hU]; exact hPc, va_K.moved hW.alike hKc, hDc.weaken (fun _ _ _ _ => trivial)⟩⟩ rfl rfl hl.1 rfl (lv_room (Nat.le_of_ble_eq_true rfl)) dL_law_12 ⟨by decide, by decide⟩) hS (fun q _ h => hFc q h) hFc (fun u t H1 locs ht hvm hw hB1 hz1 hk1 hS => ?_)
  obtain ⟨cB, bd⟩ := u
  obtain ⟨hP1, hK1, hD1⟩ := hB1
  rw [ht] at hP1
  have hKm : va_K D vwCl (mT cB) s := va_K.moved hvm.symm hK1
  obtain ⟨hP, hD⟩ := va_join (wr := xW cA aE ad x0) (w1 := mW cB hB bd m0) hP hD [24] [0, 1, 2, 3, 4, 5, 6, 7, 8, 9, 10, 11, 12, 13, 14, 15, 16, 17, 18, 19, 20, 21, 22, 23] rfl rfl (by decide) (by decide) hk1 hFc hP1 hD1
  generalize H1 = H at hP hS ⊢
  refine W.widen (k := 44) (n := 9783) (by decide) (by decide) ?_
  refine lv_astore_n (lv' := [(2, .ref hB), (1, .ref (ad 0)), (0, .ref b)]) hx hb dL_law_15 rfl hl (by decide) rfl (fun ls hl => ?_)
  refine lv_iconst (v := 1) hx hb dL_law_16 (by decide) ?_
  refine nw_same (atype := .long) (a0 := (1, .inr (.inl (fun _ => 0)))) (N' := 1) (ty := .long) hx hb (hts _ (TB_tbl tw_1_84)) rfl hK hP hD hS hA (fun _ => rfl) (by decide) (by decide) (by decide) (by decide) (by decide) 1 rfl (fun _ _ h => h) dL_law_17 (fun ao H hP hD hS => ?_)
  have hP : va_P D vwCl (lW cA aE ad cB hB bd ao x0 m0 (fun _ => 0)) H := hP.sub [0, 1, 2, 3, 4, 5, 6, 7, 8, 9, 10, 11, 12, 13, 14, 15, 16, 17, 18, 19, 20, 21, 22, 23, 24, 25, 26, 27, 28, 29, 30, 31, 32, 33, 34, 35, 36, 37, 38, 39, 40, 41, 42] rfl
  have hD : va_D (fun q : Nat => s.heap.size ≤ q) (lW cA aE ad cB hB bd ao x0 m0 (fun _ => 0)) := hD.sub [0, 1, 2, 3, 4, 5, 6, 7, 8, 9, 10, 11, 12, 13, 14, 15, 16, 17, 18, 19, 20, 21, 22, 23, 24, 25, 26, 27, 28, 29, 30, 31, 32, 33, 34, 35, 36, 37, 38, 39, 40, 41, 42] (by decide) rfl
  refine W.widen (k := 45) (n := 9784) (by decide) (by decide) ?_
  refine lv_astore_n (lv' := [(3, .ref ao), (2, .ref hB), (1, .ref (ad 0)), (0, .ref b)]) hx hb dL_law_19 rfl hl (by decide) rfl (fun ls hl => ?_)
  refine lv_iconst (v := 0) hx hb dL_law_20 (by decide) ?_
  refine lv_istore (lv' := [(4, .int 0), (3, .ref ao), (2, .ref hB), (1, .ref (ad 0)), (0, .ref b)]) hx hb dL_law_21 hl (by decide) rfl (fun ls hl => ?_)
  exact law_one C0 hK hKm vE hE vX vM vC hst hL (by decide) (by decide) ⟨hP, hD, hS⟩ (lv_sub hl [4, 3, 2, 1, 0] rfl)
set_option maxHeartbeats 4000000 in
theorem lw_walk (l : Launch) (hst : l.stackTraces = false) (b : Addr) (xs : List Int32) : MetFree l x (headSpec (Jvm.Cond.code x code maxLocals ret :: tables_1) room_1) (lw_P b xs) (fun _ _ _ _ _ => True) lw_Q := by
  refine MetFree.of_bodyS (code := code) (maxLocals := maxLocals) (ret := ret) (by decide) ?_ ?_
  · intro args s m h hn
    obtain ⟨meth, c, h1, h2, h3, h4, h5, h6, -, -⟩ := Cond.code_spec hn (atoms_spec (ws := Jvm.Cond.code x code maxLocals ret :: tables_1) h _ List.mem_cons_self)
    exact ⟨meth, c, h1, h2, h3, h4, h5, h6⟩
  · intro p e s m args below meth c s₁ B hml0 hP _
    obtain ⟨rfl, hx, hbd, hgv⟩ := hP
    obtain ⟨scr, harrAt, hlist, hof, hsmall⟩ := hx
    obtain ⟨hcb, hkn, -, -⟩ := State.arrayAt?_spec harrAt
    have hown : s.vm.findClass R_law = some m.cls := findClass_of_methodNamed B.named
    have hts0 : ∀ c ∈ (Jvm.Cond.code x code maxLocals ret :: tables_1), c.before #[Value.ref b] s = true := atoms_spec (ws := Jvm.Cond.code x code maxLocals ret :: tables_1) B.pre
    have hts : ∀ w ∈ lw_tbl, w.before #[Value.ref b] s = true := k2_hts_sels lw_privs (fun w hw => hts0 w (List.mem_cons_of_mem _ hw)) lw_privs_ok
    have hml : c.maxLocals = 8 := B.maxLocals_eq (hts0 _ List.mem_cons_self)
    have X₀ : Stand p l e room_1 s m #[Value.ref b] below meth c s₁ [] 0 0 := Stand.of_body B
    have hh0 : s₁.heap = s.heap := by rw [B.state]; rfl
    have hsz : scr.slots.size = xs.length := by rw [← Array.length_toList, hlist, List.length_map]
    have hval : ∀ j : Nat, j < xs.length → scr.slots[j]? = some (.int (xs.getD j 0)) := fun j hj => by
      rw [← Array.getElem?_toList, hlist]
      simp [hj]
    have hbl : b < s.heap.size := (Array.getElem?_eq_some_iff.mp hcb).1
    have hX : va_X b xs.length (fun j => xs.getD j 0) s s.heap := ⟨scr, hcb, hof, hkn, hsz, hval⟩
    have K : W p l e room_1 s m #[Value.ref b] below meth c s₁.heap [] 0 0 (lw_Z below #[Value.ref b] s) (entryFrame m ([Value.ref b] : List Value).toArray 8) := by
      rw [hh0]
      exact whole_start l hst hbd ⟨B.exec, B.bytes, B.returns, hml, hown, hts, hX, hbl, B.notSynchronized, hgv⟩
    obtain ⟨t, a1, o, b1, b2, b3⟩ := K s₁ rfl X₀
    exact ⟨t, o, a1, b1, b2, b3⟩
theorem lw_pre_spec {args : Array Value} {s : State} (h : (Jvm.Cond.and given_1 narrow_1).before args s = true) (hr : rest_1_c.before args s = true) : ∃ (b : Addr) (xs : List Int32), lw_P b xs args s := by
  have hs := flat_of_before _ h
  have hq := flat_of_before _ hr
  have hc : (Cond.count 1).before args s = true := hs _ (by decide +kernel)
  have harr : (Cond.arrayOf (.arg 0) .int).before args s = true := hs _ (by decide +kernel)
  have hle : (Cond.le (.length (.arg 0)) (.int 4)).before args s = true := hs _ (by decide +kernel)
  have hlen : (Cond.isInt (.length (.arg 0))).before args s = true := hq _ (by decide +kernel)
  have hall : (Cond.all (.arg 0) (.isInt (.elem (.arg 0) (.index 0)))).before args s = true := hq _ (by decide +kernel)
  obtain ⟨b, xs, hb, hx⟩ := State.ints_of_pre rfl harr hlen hall
  have hsm : xs.length < 2 ^ 31 := hx.choose_spec.2.2.2
  have hev : (Term.length (.arg 0)).eval args s none [] s = some (.int xs.length.toInt32) := hx.length_eval hb
  have hv := Cond.le_ints hev (show (Term.int 4).eval args s none [] s = some (.int 4) from rfl)
  have hd : xs.length.toInt32 ≤ 4 := by
    simpa [Cond.before, Cond.holds, hv] using hle
  have hN : xs.length ≤ 4 := (Int32.ofNat_le_ofNat hsm (by decide)).mp (show Int32.ofNat xs.length ≤ Int32.ofNat 4 from hd)
  exact ⟨b, xs, Cond.one_arg hc (show args[0]? = some (.ref b) from hb), hx, hN, h⟩
theorem lw_comes (l : Launch) (hst : l.stackTraces = false) : Comes l x (Jvm.Cond.code x code maxLocals ret :: tables_1) room_1 (fun tb e args s => Calls_1 tb e args s ∧ rest_1 tb e args s ∧ Pre_1 tb e args s)
    (fun _ _ args s o t => lw_Q args s o t) := by
  intro p e ha hc hk s m args below hf hfit hheap happ hpre
  obtain ⟨b, xs, hP⟩ := lw_pre_spec hpre.2.2 hpre.2.1
  obtain ⟨k, o, h1, h2, h3, hQ⟩ := lw_walk l hst b xs p e ha hc hk s m args below hf ((Spec.applies_iff_loose hf).mp happ).1 hP trivial
  exact ⟨k, o, h1, h2, h3, hQ⟩
theorem lw_frame {s t : State} {o : Outcome} {args : Array Value} (h : Framed s o t [] 600002 7302232) :
    Framed s o t (fieldLocs frame_1_writes args s ++ arrayLocs frame_1_arrays args s ++ staticLocs frame_1_statics s) 600002 7302232 := h
theorem lw_limb (L : Cond) (hL : ∀ (args : Array Value) (s t : State), L.after args s (.returned (some (.int 1))) t = true) :
    ArmFor flags0 classFile x code maxLocals ret World_1 tables_1 room_1 Calls_1 rest_1 Pre_1
      (fun tb e a s o t => postC L tb e a s o t ∧ Framed s o t (fieldLocs frame_1_writes a s ++ arrayLocs frame_1_arrays a s ++ staticLocs frame_1_statics s) 600002 7302232) := by
  intro l hf0 _ _ p e ha hc hk s m args below hf hfit hheap happ hpre
  obtain ⟨k, o, h1, h2, h3, rfl, hF⟩ := lw_comes l (by unfold Launch.stackTraces; rw [hf0]; decide) p e ha hc hk s m args below hf hfit hheap happ hpre
  exact ⟨k, _, h1, h2, h3, hL args s _, lw_frame hF⟩
theorem i_vc : Claimed_1_1 ∧ Claimed_1_2 := ⟨lw_limb limb_1_1 (fun args s t => by simp [limb_1_1, Cond.after, Cond.holds, Cond.value]), lw_limb limb_1_2 (fun args s t => Cond.after_iff.mpr (by
  first | (rw [show limb_1_2 = Cond.eq .result (.int 1) from rfl, Cond.eq_ints (x := 1) (y := 1) rfl rfl]; simp; done) | (simp [limb_1_2, Cond.value, Term.eval]; done)))⟩
