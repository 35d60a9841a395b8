/-! the law from its entry (printed by wip/tools/mkloop.py) -/
theorem ka_prim {s : State} {args : Array Value} {ty : FieldType} (h : (Cond.arrayClass ty).before args s = true) (hra : ∀ x : ClassId, s.vm.findClass ("[" ++ ty.toString) = some x → va_RA s x ty) : ∃ c : ClassId, ArrOfT s c ty ∧ va_RA s c ty := by
  obtain ⟨c, k, comp, h1, h2, h3⟩ := Cond.arrayClass_spec (args := args) (first := s) (o := none) (s := s) (idx := []) h
  exact ⟨c, fun n z => ⟨fun k h => (by cases h), k, h2, comp, h3⟩, hra c h1⟩
theorem ka_ref {s : State} {C : String} (h : va_AO C s) : ∃ c : ClassId, ArrOfT s c (.object C) ∧ va_RA s c (.object C) := by
  obtain ⟨comp, c, k, h1, -, h2, h3, h4⟩ := Cond.arrayOver_spec (args := #[]) (first := s) (o := none) (s := s) (idx := []) h
  exact ⟨c, fun n z => ⟨fun k h => (by cases h), k, h2, comp, h3⟩, k, comp, h2, h3, h1, h4⟩
theorem K_start {s : State} {args : Array Value} (hts : ∀ w ∈ lw_tbl, w.before args s = true) (hao : va_AO "KernelText$Op" s) : ∃ (D : va_G) (cA : Nat → ClassId), va_K D vwCl (xT cA) s := by
  obtain ⟨c0, i0, h0⟩ := u_known (C := RJ0) (T := TJ0) (N := 4) (n := 4) hts (fun w h => TB_tbl (inJ0 w h)) (hts _ (TB_tbl tw_3_144))
  obtain ⟨c1, i1, h1⟩ := u_known (C := RJ4) (T := TJ4) (N := 4) (n := 4) hts (fun w h => TB_tbl (inJ4 w h)) (hts _ (TB_tbl tw_1_188))
  obtain ⟨c2, i2, h2⟩ := u_known (C := RX0) (T := TX0) (N := 5) (n := 5) hts (fun w h => TB_tbl (inX0 w h)) (hts _ (TB_tbl tw_1_143))
  obtain ⟨c3, i3, h3⟩ := u_known (C := RX1) (T := TX1) (N := 3) (n := 3) hts (fun w h => TB_tbl (inX1 w h)) (hts _ (TB_tbl tw_1_64))
  obtain ⟨c4, i4, h4⟩ := u_known (C := RX2) (T := TX2) (N := 0) (n := 7) hts (fun w h => by simp [u_ws] at h) (hts _ (TB_tbl tw_2_35))
  obtain ⟨c5, i5, h5⟩ := u_known (C := RX3) (T := TX3) (N := 8) (n := 8) hts (fun w h => TB_tbl (inX3 w h)) (hts _ (TB_tbl tw_1_56))
  obtain ⟨c6, i6, h6⟩ := u_known (C := RX4) (T := TX4) (N := 1) (n := 1) hts (fun w h => TB_tbl (inX4 w h)) (hts _ (TB_tbl tw_1_182))
  obtain ⟨c7, i7, h7⟩ := u_known (C := RX5) (T := TX5) (N := 2) (n := 2) hts (fun w h => TB_tbl (inX5 w h)) (hts _ (TB_tbl tw_1_39))
  obtain ⟨c8, i8, h8⟩ := u_known (C := RX6) (T := TX6) (N := 6) (n := 6) hts (fun w h => TB_tbl (inX6 w h)) (hts _ (TB_tbl tw_1_86))
  obtain ⟨c9, i9, h9⟩ := u_known (C := RX7) (T := TX7) (N := 1) (n := 1) hts (fun w h => TB_tbl (inX7 w h)) (hts _ (TB_tbl tw_1_172))
  obtain ⟨c10, i10, h10⟩ := u_known (C := RX8) (T := TX8) (N := 6) (n := 6) hts (fun w h => TB_tbl (inX8 w h)) (hts _ (TB_tbl tw_1_31))
  obtain ⟨c11, i11, h11⟩ := u_known (C := RX9) (T := TX9) (N := 32) (n := 32) hts (fun w h => TB_tbl (inX9 w h)) (hts _ (TB_tbl tw_5_105))
  obtain ⟨a0, g0⟩ := ka_prim (hts _ (TB_tbl tw_1_83)) (fun _ h => h)
  obtain ⟨a1, g1⟩ := ka_prim (hts _ (TB_tbl tw_1_84)) (fun _ h => h)
  obtain ⟨a2, g2⟩ := ka_prim (hts _ (TB_tbl tw_1_54)) (fun _ h => h)
  obtain ⟨a3, g3⟩ := ka_ref hao
  obtain ⟨a4, g4⟩ := ka_prim (hts _ (TB_tbl tw_1_219)) (fun _ h => h)
  refine ⟨(fun k => if k = 0 then c0 else if k = 1 then c1 else if k = 2 then c2 else if k = 3 then c3 else if k = 4 then c4 else if k = 5 then c5 else if k = 6 then c6 else if k = 7 then c7 else if k = 8 then c8 else if k = 9 then c9 else if k = 10 then c10 else c11, fun k => if k = 0 then i0 else if k = 1 then i1 else if k = 2 then i2 else if k = 3 then i3 else if k = 4 then i4 else if k = 5 then i5 else if k = 6 then i6 else if k = 7 then i7 else if k = 8 then i8 else if k = 9 then i9 else if k = 10 then i10 else i11), fun k => if k = 0 then a0 else if k = 1 then a1 else if k = 2 then a2 else if k = 3 then a3 else a4, ?_, ?_⟩
  · intro k q hq
    match k, hq with
    | 0, hq => cases hq; exact h0
    | 1, hq => cases hq; exact h1
    | 2, hq => cases hq; exact h2
    | 3, hq => cases hq; exact h3
    | 4, hq => cases hq; exact h4
    | 5, hq => cases hq; exact h5
    | 6, hq => cases hq; exact h6
    | 7, hq => cases hq; exact h7
    | 8, hq => cases hq; exact h8
    | 9, hq => cases hq; exact h9
    | 10, hq => cases hq; exact h10
    | 11, hq => cases hq; exact h11
    | k + 12, hq => simp [vwCl] at hq
  · intro k q hq
    match k, hq with
    | 0, hq => cases hq; exact g0
    | 1, hq => cases hq; exact g1
    | 2, hq => cases hq; exact g2
    | 3, hq => cases hq; exact g3
    | 4, hq => cases hq; exact g4
    | k + 5, hq => simp [xT] at hq
theorem law_cmp {L j : Nat} (hL : L ≤ 2048) (hj : j ≤ 1000000) : (Int32.ofNat L - 4 < nI j) ↔ L < j + 4 := by
  by_cases h : 4 ≤ L
  · have e : Int32.ofNat L - 4 = nI (L - 4) := by
      have e1 : Int32.ofNat L = nI (L - 4) + nI 4 := by
        rw [nI_add, show L - 4 + 4 = L by omega]; rfl
      have e2 : (4 : Int32) = nI 4 := rfl
      rw [e1, e2, Int32.add_sub_cancel]
    rw [e]
    constructor
    · intro z
      rcases Nat.lt_or_ge (L - 4) j with q | q
      · omega
      · exact absurd z (Int32.not_lt.mpr (nI_le q (by omega)))
    · intro z
      exact nI_lt (by omega) (by omega)
  · have h1 : Int32.ofNat L - 4 < 0 := by
      have hc : L = 0 ∨ L = 1 ∨ L = 2 ∨ L = 3 := by omega
      rcases hc with rfl | rfl | rfl | rfl <;> decide
    have h2 : (0 : Int32) ≤ nI j := nI_pos' (by omega)
    have h3 : Int32.ofNat L - 4 < nI j := by
      rw [Int32.lt_iff_toInt_lt] at h1 ⊢
      rw [Int32.le_iff_toInt_le] at h2
      omega
    exact ⟨fun _ => by omega, fun _ => h3⟩
def lcAll (I : XS → BS → MS → Prop) (xs : Nat → Int32) (x4 : Int32) (σ : XS) (β : BS) (τ : MS) (f : Nat → Int64) : Prop :=
  lc_0 I xs x4 σ β τ f ∧ lc_1 I xs x4 σ β τ f ∧ lc_2 I xs x4 σ β τ f ∧ lc_3 I xs x4 σ β τ f ∧ lc_4 I xs x4 σ β τ f ∧ lc_5 I xs x4 σ β τ f ∧ lc_6 I xs x4 σ β τ f ∧ lc_7 I xs x4 σ β τ f ∧ lc_8 I xs x4 σ β τ f ∧ lc_9 I xs x4 σ β τ f ∧ lc_10 I xs x4 σ β τ f ∧ lc_11 I xs x4 σ β τ f
set_option maxHeartbeats 4000000 in
set_option maxRecDepth 100000 in
/-- at the loop's head with nothing left to read -/
theorem law_out {p : Program} {l : Launch} {e : Env} {s : State} {m : MethodId} {below : List Frame} {meth : Method} {c : Code} {cells slots : Nat} {b L : Nat} {xs : Nat → Int32} (C0 : lw_At p s m meth c b L xs) (hc1 : cells ≤ 601024) (hc2 : slots ≤ 7293034) {H : Heap} {locs : List Loc} {ls : Array Slot} {lv : List (Nat × Value)} {x4 : Int32} (hS : va_S (fun q : Nat => s.heap.size ≤ q) s.heap H locs) (hl : lv_has ls 8 ((0, .ref b) :: (4, .int x4) :: lv)) (hx4 : Int32.ofNat L - 4 < x4) : W p l e room_1 s m #[Value.ref b] below meth c H locs cells slots (lw_Z below #[Value.ref b] s) (F0 m 23 ls []) := by
  obtain ⟨hx, hb, hr, hml, hown, hts, hX, hbl, hlocks, hgv⟩ := C0
  have hbA : ¬ (fun q : Nat => s.heap.size ≤ q) b := Nat.not_le.mpr hbl
  refine lv_iload hx hb dL_law_23 (lv_at hl 1 rfl) ?_
  refine lv_aload_n hx hb dL_law_25 rfl (lv_at hl 0 rfl) ?_
  refine va_slen hx hb hX hbl hbA hS dL_law_26 ?_
  refine lv_iconst (v := 4) hx hb dL_law_27 (by decide) ?_
  refine lv_isub hx hb dL_law_28 ?_
  refine lv_icmp_gt (tgt := 559) hx hb dL_law_29 (by decide) (fun _ => ?_) (fun q_ => absurd hx4 q_)
  refine lv_iconst (v := 1) hx hb dL_law_559 (by decide) ?_
  refine va_forget (fun q hq => hS.2.2 q hq) ?_
  refine W.widen (k := 601024) (n := 7293034) hc1 hc2 ?_
  exact lw_ret hx hb hr hlocks dL_law_560
set_option maxHeartbeats 8000000 in
set_option maxRecDepth 100000 in
/-- the law's loop: a relation that every call keeps -/
theorem law_loop {p : Program} {l : Launch} {e : Env} {s : State} {m : MethodId} {below : List Frame} {meth : Method} {c : Code} {b L : Nat} {xs : Nat → Int32} {E : EnvT} {D : va_G} {cA cB : Nat → ClassId} {aE ad bd : Nat → Nat} {hB ao : Nat} (C0 : lw_At p s m meth c b L xs) (hKx : va_K D vwCl (xT cA) s) (hKm : va_K D vwCl (mT cB) s) (vE : EnvOk E) (hE : E (fun q : Nat => s.heap.size ≤ q) s s.heap) {aK aV bK bV : Nat → Nat} {aO dO dT : Nat} (vX : eXs bK bV aE aO E) (vM : eMs aK aV E) (vC : eCs E) (vB : eBs dO dT E) (hst : l.stackTraces = false) {I : XS → BS → MS → Prop} (hL : L ≤ 2048) (hstep : ∀ (x4 : Int32) (σ : XS) (β : BS) (τ : MS) (f : Nat → Int64), I σ β τ → lcAll I xs x4 σ β τ f) :
    ∀ (n j cells slots : Nat) (σ : XS) (β : BS) (τ : MS) (f : Nat → Int64) (H : Heap) (locs : List Loc) (ls : Array Slot), L < j + 4 * n + 4 → j ≤ 2048 + 4 → cells + 34 * n ≤ 600990 → slots + 2380 * n ≤ 7290654 → I σ β τ → lG D cA aE ad cB hB bd ao s σ β τ f H locs → lv_has ls 8 [(0, .ref b), (1, .ref (ad 0)), (2, .ref hB), (3, .ref ao), (4, .int (nI j))] → W p l e room_1 s m #[Value.ref b] below meth c H locs cells slots (lw_Z below #[Value.ref b] s) (F0 m 23 ls []) := by
  intro n
  induction n with
  | zero =>
    intro j cells slots σ β τ f H locs ls h1 h2 h3 h4 hI hG hl
    exact law_out C0 (by omega) (by omega) hG.2.2 (lv_sub hl [0, 4] rfl) ((law_cmp hL (by omega)).mpr (by omega))
  | succ n ih =>
    intro j cells slots σ β τ f H locs ls h1 h2 h3 h4 hI hG hl
    by_cases hlt : L < j + 4
    · exact law_out C0 (by omega) (by omega) hG.2.2 (lv_sub hl [0, 4] rfl) ((law_cmp hL (by omega)).mpr hlt)
    obtain ⟨hx, hb, hr, hml, hown, hts, hX, hbl, hlocks, hgv⟩ := id C0
    have hbA : ¬ (fun q : Nat => s.heap.size ≤ q) b := Nat.not_le.mpr hbl
    have h_0 : vp_in (nI j) L := vp_in_nI (by omega) (by omega)
    have h_1 : vp_in (nI j + 1) L := by
      rw [show nI j + 1 = nI (j + 1) from nI_add j 1]; exact vp_in_nI (by omega) (by omega)
    have h_2 : vp_in (nI j + 2) L := by
      rw [show nI j + 2 = nI (j + 2) from nI_add j 2]; exact vp_in_nI (by omega) (by omega)
    have h_3 : vp_in (nI j + 3) L := by
      rw [show nI j + 3 = nI (j + 3) from nI_add j 3]; exact vp_in_nI (by omega) (by omega)
    have hs := hstep (nI j) σ β τ f hI
    have tail : ∀ (k1 k2 : Nat) (σ : XS) (β : BS) (τ : MS) (f : Nat → Int64) (H : Heap) (locs : List Loc) (ls : Array Slot), k1 ≤ cells + 34 → k2 ≤ slots + 2380 → I σ β τ → lG D cA aE ad cB hB bd ao s σ β τ f H locs → lv_has ls 8 [(0, .ref b), (1, .ref (ad 0)), (2, .ref hB), (3, .ref ao), (4, .int (nI j))] → W p l e room_1 s m #[Value.ref b] below meth c H locs k1 k2 (lw_Z below #[Value.ref b] s) (F0 m 553 ls []) := by
      intro k1 k2 σ β τ f H locs ls g1 g2 hI hG hl
      refine lv_iinc (v := nI (j + 4)) (lv' := [(4, .int (nI (j + 4))), (0, .ref b), (1, .ref (ad 0)), (2, .ref hB), (3, .ref ao)]) hx hb dL_law_553 hl (k := 4) rfl (nI_add j 4) (by decide) rfl (fun ls hl => ?_)
      refine lv_goto (tgt := 23) hx hb dL_law_556 (by decide) ?_
      exact ih (j + 4) k1 k2 σ β τ f H locs ls (by omega) (by omega) (by omega) (by omega) hI hG (lv_sub hl [1, 2, 3, 4, 0] rfl)
    have hS := hG.2.2
    refine lv_iload hx hb dL_law_23 (lv_at hl 4 rfl) ?_
    refine lv_aload_n hx hb dL_law_25 rfl (lv_at hl 0 rfl) ?_
    refine va_slen hx hb hX hbl hbA hS dL_law_26 ?_
    refine lv_iconst (v := 4) hx hb dL_law_27 (by decide) ?_
    refine lv_isub hx hb dL_law_28 ?_
    refine lv_icmp_gt (tgt := 559) hx hb dL_law_29 (by decide) (fun q_ => absurd ((law_cmp hL (by omega)).mp q_) hlt) (fun _ => ?_)
    refine lv_aload_n hx hb dL_law_32 rfl (lv_at hl 0 rfl) ?_
    refine lv_iload hx hb dL_law_33 (lv_at hl 4 rfl) ?_
    refine va_sld hx hb hX hbl hbA hS (i := nI j) h_0 dL_law_35 ?_
    refine lv_bipush (v := 15) hx hb dL_law_36 (by decide) ?_
    refine lv_iand hx hb dL_law_38 ?_
    by_cases q_0 : xs (nI j).toNatClampNeg &&& 15 = 0
    · refine lv_tableIn (tgt := 100) hx hb dL_law_39 (by rw [q_0] <;> decide) (by rw [q_0] <;> decide) (by rw [q_0] <;> rfl) (by decide) ?_
      exact kc_0 C0 hKx hKm vE hE vX vM vC vB hst (I := I) h_1 h_2 h_3 (by omega) (by omega) hG hl (hs.1) (fun σ1 β1 τ1 f1 H1 locs1 ls1 hI1 hG1 hl1 => tail _ _ σ1 β1 τ1 f1 H1 locs1 ls1 (by omega) (by omega) hI1 hG1 hl1)
    by_cases q_1 : xs (nI j).toNatClampNeg &&& 15 = 1
    · refine lv_tableIn (tgt := 169) hx hb dL_law_39 (by rw [q_1] <;> decide) (by rw [q_1] <;> decide) (by rw [q_1] <;> rfl) (by decide) ?_
      exact kc_1 C0 hKx hKm vE hE vX vM vC vB hst (I := I) (by omega) (by omega) hG hl (hs.2.1) (fun σ1 β1 τ1 f1 H1 locs1 ls1 hI1 hG1 hl1 => tail _ _ σ1 β1 τ1 f1 H1 locs1 ls1 (by omega) (by omega) hI1 hG1 hl1)
    by_cases q_2 : xs (nI j).toNatClampNeg &&& 15 = 2
    · refine lv_tableIn (tgt := 185) hx hb dL_law_39 (by rw [q_2] <;> decide) (by rw [q_2] <;> decide) (by rw [q_2] <;> rfl) (by decide) ?_
      exact kc_2 C0 hKx hKm vE hE vX vM vC vB hst (I := I) h_1 (by omega) (by omega) hG hl (hs.2.2.1) (fun σ1 β1 τ1 f1 H1 locs1 ls1 hI1 hG1 hl1 => tail _ _ σ1 β1 τ1 f1 H1 locs1 ls1 (by omega) (by omega) hI1 hG1 hl1)
    by_cases q_3 : xs (nI j).toNatClampNeg &&& 15 = 3
    · refine lv_tableIn (tgt := 210) hx hb dL_law_39 (by rw [q_3] <;> decide) (by rw [q_3] <;> decide) (by rw [q_3] <;> rfl) (by decide) ?_
      exact kc_3 C0 hKx hKm vE hE vX vM vC vB hst (I := I) h_1 h_2 h_3 (by omega) (by omega) hG hl (hs.2.2.2.1) (fun σ1 β1 τ1 f1 H1 locs1 ls1 hI1 hG1 hl1 => tail _ _ σ1 β1 τ1 f1 H1 locs1 ls1 (by omega) (by omega) hI1 hG1 hl1)
    by_cases q_4 : xs (nI j).toNatClampNeg &&& 15 = 4
    · refine lv_tableIn (tgt := 279) hx hb dL_law_39 (by rw [q_4] <;> decide) (by rw [q_4] <;> decide) (by rw [q_4] <;> rfl) (by decide) ?_
      exact kc_4 C0 hKx hKm vE hE vX vM vC vB hst (I := I) h_1 (by omega) (by omega) hG hl (hs.2.2.2.2.1) (fun σ1 β1 τ1 f1 H1 locs1 ls1 hI1 hG1 hl1 => tail _ _ σ1 β1 τ1 f1 H1 locs1 ls1 (by omega) (by omega) hI1 hG1 hl1)
    by_cases q_5 : xs (nI j).toNatClampNeg &&& 15 = 5
    · refine lv_tableIn (tgt := 307) hx hb dL_law_39 (by rw [q_5] <;> decide) (by rw [q_5] <;> decide) (by rw [q_5] <;> rfl) (by decide) ?_
      exact kc_5 C0 hKx hKm vE hE vX vM vC vB hst (I := I) h_1 h_2 (by omega) (by omega) hG hl (hs.2.2.2.2.2.1) (fun σ1 β1 τ1 f1 H1 locs1 ls1 hI1 hG1 hl1 => tail _ _ σ1 β1 τ1 f1 H1 locs1 ls1 (by omega) (by omega) hI1 hG1 hl1)
    by_cases q_6 : xs (nI j).toNatClampNeg &&& 15 = 6
    · refine lv_tableIn (tgt := 344) hx hb dL_law_39 (by rw [q_6] <;> decide) (by rw [q_6] <;> decide) (by rw [q_6] <;> rfl) (by decide) ?_
      exact kc_6 C0 hKx hKm vE hE vX vM vC vB hst (I := I) h_1 h_2 (by omega) (by omega) hG hl (hs.2.2.2.2.2.2.1) (fun σ1 β1 τ1 f1 H1 locs1 ls1 hI1 hG1 hl1 => tail _ _ σ1 β1 τ1 f1 H1 locs1 ls1 (by omega) (by omega) hI1 hG1 hl1)
    by_cases q_7 : xs (nI j).toNatClampNeg &&& 15 = 7
    · refine lv_tableIn (tgt := 404) hx hb dL_law_39 (by rw [q_7] <;> decide) (by rw [q_7] <;> decide) (by rw [q_7] <;> rfl) (by decide) ?_
      exact kc_7 C0 hKx hKm vE hE vX vM vC vB hst (I := I) h_1 h_2 (by omega) (by omega) hG hl (hs.2.2.2.2.2.2.2.1) (fun σ1 β1 τ1 f1 H1 locs1 ls1 hI1 hG1 hl1 => tail _ _ σ1 β1 τ1 f1 H1 locs1 ls1 (by omega) (by omega) hI1 hG1 hl1)
    by_cases q_8 : xs (nI j).toNatClampNeg &&& 15 = 8
    · refine lv_tableIn (tgt := 441) hx hb dL_law_39 (by rw [q_8] <;> decide) (by rw [q_8] <;> decide) (by rw [q_8] <;> rfl) (by decide) ?_
      exact kc_8 C0 hKx hKm vE hE vX vM vC vB hst (I := I) h_1 (by omega) (by omega) hG hl (hs.2.2.2.2.2.2.2.2.1) (fun σ1 β1 τ1 f1 H1 locs1 ls1 hI1 hG1 hl1 => tail _ _ σ1 β1 τ1 f1 H1 locs1 ls1 (by omega) (by omega) hI1 hG1 hl1)
    by_cases q_9 : xs (nI j).toNatClampNeg &&& 15 = 9
    · refine lv_tableIn (tgt := 466) hx hb dL_law_39 (by rw [q_9] <;> decide) (by rw [q_9] <;> decide) (by rw [q_9] <;> rfl) (by decide) ?_
      exact kc_9 C0 hKx hKm vE hE vX vM vC vB hst (I := I) h_1 h_2 (by omega) (by omega) hG hl (hs.2.2.2.2.2.2.2.2.2.1) (fun σ1 β1 τ1 f1 H1 locs1 ls1 hI1 hG1 hl1 => tail _ _ σ1 β1 τ1 f1 H1 locs1 ls1 (by omega) (by omega) hI1 hG1 hl1)
    by_cases q_10 : xs (nI j).toNatClampNeg &&& 15 = 10
    · refine lv_tableIn (tgt := 503) hx hb dL_law_39 (by rw [q_10] <;> decide) (by rw [q_10] <;> decide) (by rw [q_10] <;> rfl) (by decide) ?_
      exact kc_10 C0 hKx hKm vE hE vX vM vC vB hst (I := I) h_1 (by omega) (by omega) hG hl (hs.2.2.2.2.2.2.2.2.2.2.1) (fun σ1 β1 τ1 f1 H1 locs1 ls1 hI1 hG1 hl1 => tail _ _ σ1 β1 τ1 f1 H1 locs1 ls1 (by omega) (by omega) hI1 hG1 hl1)
    by_cases q_11 : xs (nI j).toNatClampNeg &&& 15 = 11
    · refine lv_tableIn (tgt := 528) hx hb dL_law_39 (by rw [q_11] <;> decide) (by rw [q_11] <;> decide) (by rw [q_11] <;> rfl) (by decide) ?_
      exact kc_11 C0 hKx hKm vE hE vX vM vC vB hst (I := I) h_1 (by omega) (by omega) hG hl (hs.2.2.2.2.2.2.2.2.2.2.2) (fun σ1 β1 τ1 f1 H1 locs1 ls1 hI1 hG1 hl1 => tail _ _ σ1 β1 τ1 f1 H1 locs1 ls1 (by omega) (by omega) hI1 hG1 hl1)
    refine lv_tableOut (tgt := 553) hx hb dL_law_39 (by have z_0 := lv_neT q_0 (a := 0) (by decide); have z_1 := lv_neT q_1 (a := 1) (by decide); have z_2 := lv_neT q_2 (a := 2) (by decide); have z_3 := lv_neT q_3 (a := 3) (by decide); have z_4 := lv_neT q_4 (a := 4) (by decide); have z_5 := lv_neT q_5 (a := 5) (by decide); have z_6 := lv_neT q_6 (a := 6) (by decide); have z_7 := lv_neT q_7 (a := 7) (by decide); have z_8 := lv_neT q_8 (a := 8) (by decide); have z_9 := lv_neT q_9 (a := 9) (by decide); have z_10 := lv_neT q_10 (a := 10) (by decide); have z_11 := lv_neT q_11 (a := 11) (by decide); omega) (by decide) ?_
    exact tail _ _ σ β τ f _ _ _ (by omega) (by omega) hI hG hl
/-- the builder as it is made -/
def b0 (a : Nat) : BS := (fun _ => 0, fun _ _ => 0, fun k => if k = 0 then a else 16)
set_option maxHeartbeats 8000000 in
set_option maxRecDepth 100000 in
theorem whole_gen {p : Program} {e : Env} {s : State} {m : MethodId} {below : List Frame} {meth : Method} {c : Code} {I : XS → BS → MS → Prop} (hI0 : ∀ a : Nat, I x0 (b0 a) m0) (hstep : ∀ (xs : Nat → Int32) (x4 : Int32) (σ : XS) (β : BS) (τ : MS) (f : Nat → Int64), I σ β τ → lcAll I xs x4 σ β τ f) (l : Launch) (hst : l.stackTraces = false) {b L : Nat} {xs : Nat → Int32} (hL : L ≤ 2048) (C0 : lw_At p s m meth c b L xs) : W p l e room_1 s m #[Value.ref b] below meth c s.heap [] 0 0 (lw_Z below #[Value.ref b] s) (entryFrame m ([Value.ref b] : List Value).toArray 8) := by
  obtain ⟨hx, hb, hr, hml, hown, hts, hX, hbl, hlocks, hgv⟩ := id C0
  have hA : ∀ q : Nat, s.heap.size ≤ q → (fun q : Nat => s.heap.size ≤ q) q := fun _ h => h
  obtain ⟨aK, aV, bK, bV, aE, aO, dO, dT, hE⟩ := EE_start hts hgv
  obtain ⟨D, cA, hK⟩ := K_start hts (eX.ao hE.2.1)
  have vE := ok_EE (aK := aK) (aV := aV) (bK := bK) (bV := bV) (aE := aE) (aO := aO) (dO := dO) (dT := dT)
  have vX := EE_X (aK := aK) (aV := aV) (bK := bK) (bV := bV) (aE := aE) (aO := aO) (dO := dO) (dT := dT)
  have vM := EE_M (aK := aK) (aV := aV) (bK := bK) (bV := bV) (aE := aE) (aO := aO) (dO := dO) (dT := dT)
  have vC := EE_C (aK := aK) (aV := aV) (bK := bK) (bV := bV) (aE := aE) (aO := aO) (dO := dO) (dT := dT)
  have vB := EE_B (aK := aK) (aV := aV) (bK := bK) (bV := bV) (aE := aE) (aO := aO) (dO := dO) (dT := dT)
  generalize EE aK aV bK bV aE aO dO dT = E at hE vE vX vM vC vB
  have hS : va_S (fun q : Nat => s.heap.size ≤ q) s.heap s.heap [] := va_S.rf
  have hP : va_P D vwCl [] s.heap := fun k q h => by simp at h
  have hD : va_D (fun q : Nat => s.heap.size ≤ q) [] := ⟨fun i j p q h => by simp at h, fun k q h => by simp at h⟩
  have Cx : xCx p s m #[Value.ref b] meth c code 8 ret lw_tbl R_law E D cA (fun q : Nat => s.heap.size ≤ q) := ⟨hx, hb, hml, hr, hown, hts, hK, hA, hlocks, hE, vE⟩
  have hl := lv_entry ([.ref b]) (n := 8) (Nat.le_of_ble_eq_true rfl)
  rw [lg_entry_eq]
  generalize (lg_sl ([.ref b]) ++ List.replicate (8 - (lg_sl ([.ref b])).length) Slot.unset).toArray = ls at hl ⊢
  have hl : lv_has ls 8 [(0, .ref b)] := hl
  refine va_new (ci := 10) (fs := [.null, .null, .null, .null, .null, .null]) (C := RX8) (T := TX8) (N := 6) hx hb hts (fun w h => TB_tbl (inX8 w h)) tyX8 tyX8_ok hown (hts _ (TB_tbl tw_1_30)) (hts _ (TB_tbl tw_1_31)) (hts _ (TB_tbl tw_1_1)) hK hP hD hS hA rfl (fun j hj => match j, hj with | 0, _ => rfl | 1, _ => rfl | 2, _ => rfl | 3, _ => rfl | 4, _ => rfl | 5, _ => rfl | j + 6, h => absurd h (by omega)) (by decide) (by decide) dL_law_0 (fun q0 H hP hD hS => ?_)
  have hP : va_P D vwCl [(q0, .inr (10, [.null, .null, .null, .null, .null, .null]))] H := hP
  have hD : va_D (fun q : Nat => s.heap.size ≤ q) [(q0, .inr (10, [.null, .null, .null, .null, .null, .null]))] := hD
  refine W.widen (k := 1) (n := 6) (by decide) (by decide) ?_
  refine lv_dup hx hb dL_law_3 rfl ?_
  refine gI_v (wr := []) (As := []) (rest := [.ref q0]) Cx (met_X8_init vE vX (D := D) (cA := cA) (h := q0) (sz := H.size)) (cwI 0 hts (TB_GL (pre := []) (fun _ h => nomatch h) tw_1_34) rfl rfl rfl (hts _ (TB_tbl tw_1_1)) (hts _ (TB_tbl tw_1_32)) (hts _ (TB_tbl tw_1_33)) rfl (by decide +kernel) ⟨by decide, by decide⟩) hP hD hS 0 [] rfl rfl (by decide) (by decide) rfl hl.1 rfl (Nat.le_of_ble_eq_true rfl) dL_law_4 ⟨by decide, by decide⟩ (fun u H locs hP hD hS => ?_)
  obtain ⟨ad, rfl, hP, hD⟩ := xW_new aE hP hD
  have hP : va_P D vwCl (xzW cA aE ad x0 (b0 (ad 25))) H := hP.sub [0, 1, 2, 3, 4, 5, 6, 7, 8, 9, 10, 11, 12, 13, 14, 15, 16, 17, 18, 19, 20, 21, 22, 23, 24, 25] rfl
  have hD : va_D (fun q : Nat => s.heap.size ≤ q) (xzW cA aE ad x0 (b0 (ad 25))) := hD.sub [0, 1, 2, 3, 4, 5, 6, 7, 8, 9, 10, 11, 12, 13, 14, 15, 16, 17, 18, 19, 20, 21, 22, 23, 24, 25] (by decide) rfl
  refine W.widen (k := 26) (n := 4706) (by decide) (by decide) ?_
  refine lv_astore_n (lv' := [(1, .ref (ad 0)), (0, .ref b)]) hx hb dL_law_7 rfl hl (by decide) rfl (fun ls hl => ?_)
  refine va_new (ci := 11) (fs := mBlank) (C := RX9) (T := TX9) (N := 32) hx hb hts (fun w h => TB_tbl (inX9 w h)) tyX9 tyX9_ok hown (hts _ (TB_tbl tw_5_104)) (hts _ (TB_tbl tw_5_105)) (hts _ (TB_tbl tw_1_13)) hK hP hD hS hA rfl (fun j hj => match j, hj with | 0, _ => rfl | 1, _ => rfl | 2, _ => rfl | 3, _ => rfl | 4, _ => rfl | 5, _ => rfl | 6, _ => rfl | 7, _ => rfl | 8, _ => rfl | 9, _ => rfl | 10, _ => rfl | 11, _ => rfl | 12, _ => rfl | 13, _ => rfl | 14, _ => rfl | 15, _ => rfl | 16, _ => rfl | 17, _ => rfl | 18, _ => rfl | 19, _ => rfl | 20, _ => rfl | 21, _ => rfl | 22, _ => rfl | 23, _ => rfl | 24, _ => rfl | 25, _ => rfl | 26, _ => rfl | 27, _ => rfl | 28, _ => rfl | 29, _ => rfl | 30, _ => rfl | 31, _ => rfl | j + 32, h => absurd h (by omega)) (by decide) (by decide) dL_law_8 (fun hB H hP hD hS => ?_)
  refine W.widen (k := 27) (n := 4738) (by decide) (by decide) ?_
  refine lv_dup hx hb dL_law_11 rfl ?_
  have hPc : va_P D vwCl [(hB, .inr (11, mBlank))] H := hP.sub [26] rfl
  have hDc : va_D (fun q : Nat => s.heap.size ≤ q) [(hB, .inr (11, mBlank))] := hD.sub [26] (by decide) rfl
  have hKc := hK.sub (tys' := []) [] rfl
  have hFc := va_free (wc := [(hB, .inr (11, mBlank))]) hD hS hA [26] rfl
  refine va_callv (va_runI (As := []) (rest := [.ref hB]) ⟨hx, hb, hml, hown, hts⟩ (met_X9_init (D := D) (h := hB) (sz := H.size)) (cwI 0 hts (TB_GL (pre := []) (fun _ h => nomatch h) tw_5_108) rfl rfl rfl (hts _ (TB_tbl tw_1_13)) (hts _ (TB_tbl tw_5_106)) (hts _ (TB_tbl tw_5_107)) rfl (by decide +kernel) ⟨by decide, by decide⟩) ⟨fun a U g mk q => by obtain ⟨q0, q1, qP, qK, qD⟩ := q; exact ⟨q0, q1, qP, va_K.moved (u := U) (U := U.calling g mk a) (Vm.Alike.refl U.vm) qK, qD⟩, fun U hU hW => ⟨rfl, by rw [hU], by rw [hU]; exact hPc, va_K.moved hW.alike hKc, hDc.weaken (fun _ _ _ _ => trivial)⟩⟩ rfl rfl hl.1 rfl (lv_room (Nat.le_of_ble_eq_true rfl)) dL_law_12 ⟨by decide, by decide⟩) hS (fun q _ h => hFc q h) hFc (fun u t H1 locs ht hvm hw hB1 hz1 hk1 hS => ?_)
  obtain ⟨cB, bd⟩ := u
  obtain ⟨hP1, hK1, hD1⟩ := hB1
  rw [ht] at hP1
  have hKm : va_K D vwCl (mT cB) s := va_K.moved hvm.symm hK1
  obtain ⟨hP, hD⟩ := va_join (wr := xzW cA aE ad x0 (b0 (ad 25))) (w1 := mW cB hB bd m0) hP hD [26] [0, 1, 2, 3, 4, 5, 6, 7, 8, 9, 10, 11, 12, 13, 14, 15, 16, 17, 18, 19, 20, 21, 22, 23, 24, 25] rfl rfl (by decide) (by decide) hk1 hFc hP1 hD1
  generalize H1 = H at hP hS ⊢
  refine W.widen (k := 44) (n := 9783) (by decide) (by decide) ?_
  refine lv_astore_n (lv' := [(2, .ref hB), (1, .ref (ad 0)), (0, .ref b)]) hx hb dL_law_15 rfl hl (by decide) rfl (fun ls hl => ?_)
  refine lv_iconst (v := 1) hx hb dL_law_16 (by decide) ?_
  refine nw_same (atype := .long) (a0 := (1, .inr (.inl (fun _ => 0)))) (N' := 1) (ty := .long) hx hb (hts _ (TB_tbl tw_1_84)) rfl hK hP hD hS hA (fun _ => rfl) (by decide) (by decide) (by decide) (by decide) (by decide) 1 rfl (fun _ _ h => h) dL_law_17 (fun ao H hP hD hS => ?_)
  have hP : va_P D vwCl (lW cA aE ad cB hB bd ao x0 (b0 (ad 25)) m0 (fun _ => 0)) H := hP.sub [0, 1, 2, 3, 4, 5, 6, 7, 8, 9, 10, 11, 12, 13, 14, 15, 16, 17, 18, 19, 20, 21, 22, 23, 24, 25, 26, 27, 28, 29, 30, 31, 32, 33, 34, 35, 36, 37, 38, 39, 40, 41, 42, 43, 44] rfl
  have hD : va_D (fun q : Nat => s.heap.size ≤ q) (lW cA aE ad cB hB bd ao x0 (b0 (ad 25)) m0 (fun _ => 0)) := hD.sub [0, 1, 2, 3, 4, 5, 6, 7, 8, 9, 10, 11, 12, 13, 14, 15, 16, 17, 18, 19, 20, 21, 22, 23, 24, 25, 26, 27, 28, 29, 30, 31, 32, 33, 34, 35, 36, 37, 38, 39, 40, 41, 42, 43, 44] (by decide) rfl
  refine W.widen (k := 45) (n := 9784) (by decide) (by decide) ?_
  refine lv_astore_n (lv' := [(3, .ref ao), (2, .ref hB), (1, .ref (ad 0)), (0, .ref b)]) hx hb dL_law_19 rfl hl (by decide) rfl (fun ls hl => ?_)
  refine lv_iconst (v := 0) hx hb dL_law_20 (by decide) ?_
  refine lv_istore (lv' := [(4, .int 0), (3, .ref ao), (2, .ref hB), (1, .ref (ad 0)), (0, .ref b)]) hx hb dL_law_21 hl (by decide) rfl (fun ls hl => ?_)
  exact law_loop C0 hK hKm vE hE vX vM vC vB hst hL (hstep xs) 512 0 _ _ _ _ _ _ _ _ _ (by omega) (by omega) (by decide) (by decide) (hI0 _) ⟨hP, hD, hS⟩ (lv_sub hl [4, 3, 2, 1, 0] rfl)
