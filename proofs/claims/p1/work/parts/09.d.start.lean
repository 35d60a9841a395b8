/-! the environment at the law's start -/
theorem sS_of {args : Array Value} {s : State} {N : Nat} {tm : Nat → Term} {len : List Nat} {byt : List (List Int32)} {A : Nat → Prop} (hN : ∀ i : Nat, i < N → len.getD i 0 < 2 ^ 31) (hex : ∀ i : Nat, i < N → (Cond.exactly (tm i) "java/lang/String").before args s = true) (hco : ∀ i : Nat, i < N → (Cond.eq (.field (tm i) "java/lang/String" "coder" "B") (.int 0)).before args s = true)
    (har : ∀ i : Nat, i < N → (Cond.arrayOf (.field (tm i) "java/lang/String" "value" "[B") .byte).before args s = true) (hle : ∀ i : Nat, i < N → (Cond.eq (.length (.field (tm i) "java/lang/String" "value" "[B")) (.int (Int32.ofNat (len.getD i 0)))).before args s = true)
    (hel : ∀ i : Nat, i < N → ∀ j : Nat, j < len.getD i 0 → (Cond.eq (.elem (.field (tm i) "java/lang/String" "value" "[B") (.int (Int32.ofNat j))) (.int ((byt.getD i []).getD j 0))).before args s = true) (hA : ∀ a : Nat, a < s.heap.size → ¬ A a) :
    ∃ aK aV : Nat → Nat, (∀ i : Nat, i < N → va_O "java/lang/String" (aK i) A s s.heap ∧ va_OF "java/lang/String" "coder" "B" (.int 0) (aK i) A s s.heap ∧ va_OF "java/lang/String" "value" "[B" (.ref (aV i)) (aK i) A s s.heap ∧ va_T .byte (aV i) (len.getD i 0) (fun j => .int ((byt.getD i []).getD j 0)) A s s.heap) ∧ ∀ i : Nat, i < N → (tm i).eval args s none [] s = some (.ref (aK i)) := by
  have h0 : ∀ i : Nat, ∃ q : Nat × Nat, i < N → (tm i).eval args s none [] s = some (.ref q.1) ∧ va_O "java/lang/String" q.1 A s s.heap ∧ va_OF "java/lang/String" "coder" "B" (.int 0) q.1 A s s.heap ∧ va_OF "java/lang/String" "value" "[B" (.ref q.2) q.1 A s s.heap ∧ va_T .byte q.2 (len.getD i 0) (fun j => .int ((byt.getD i []).getD j 0)) A s s.heap := by
    intro i
    by_cases hi : i < N
    · obtain ⟨a, c, cA, kA, q1, q2, q3, q4, q5, q6, -⟩ := Cond.exactly_spec (args := args) (first := s) (o := none) (s := s) (idx := []) (t := tm i) (cls := "java/lang/String") (hex i hi)
      obtain ⟨t, ht, hT⟩ := va_Tof (f := fun j => .int ((byt.getD i []).getD j 0)) (A := A) (hN i hi) (har i hi) (va_eqt (hle i hi)) (fun j hj => va_eqt (hel i hi j hj)) hA
      exact ⟨(a, t), fun _ => ⟨q1, ⟨cA, q3, q5, by rw [q6]; exact q2, hA a (Array.getElem?_eq_some_iff.mp q3).1⟩, vk_OFof q1 (va_eqt (hco i hi)) hA, vk_OFof q1 ht hA, hT⟩⟩
    · exact ⟨(0, 0), fun h => absurd h hi⟩
  obtain ⟨ad, had⟩ := Classical.axiomOfChoice h0
  exact ⟨fun i => (ad i).1, fun i => (ad i).2, fun i hi => (had i hi).2, fun i hi => (had i hi).1⟩
/-- one object, one value of a field -/
theorem OF_one {o n d : String} {v w : Value} {t : Nat} {A : Nat → Prop} {U : State} {H : Heap} (h1 : va_OF o n d v t A U H) (h2 : va_OF o n d w t A U H) : v = w := by
  obtain ⟨cf, k, i, f, cell, a1, a2, a3, a4, a5, -⟩ := h1
  obtain ⟨cf', k', i', f', cell', b1, b2, b3, b4, b5, -⟩ := h2
  rw [a1] at b1
  cases b1
  rw [a3] at b3
  cases b3
  rw [a5] at b5
  exact Option.some.inj b5
set_option maxRecDepth 100000 in
theorem ng_in : ∀ w ∈ ngI ++ ngN, w ∈ lw_tbl := by decide +kernel
theorem co_ofN {i j : Nat} (hi : i < 2 ^ 31) (hj : j < 2 ^ 31) (h : Int32.ofNat i = Int32.ofNat j) : i = j := by
  have h1 := congrArg Int32.toNatClampNeg h
  rwa [Int32.toNatClampNeg_ofNat_of_lt hi, Int32.toNatClampNeg_ofNat_of_lt hj] at h1
set_option maxHeartbeats 4000000 in
set_option maxRecDepth 100000 in
theorem EE_start {b : Nat} {s : State} (hts : ∀ w ∈ lw_tbl, w.before #[Value.ref b] s = true) (hgv : (Jvm.Cond.and given_1 narrow_1).before #[Value.ref b] s = true) : ∃ (aK aV bK bV aE : Nat → Nat) (aO : Nat), EE aK aV bK bV aE aO (fun q => s.heap.size ≤ q) s s.heap := by
  have hA : ∀ a : Nat, a < s.heap.size → ¬ (fun q => s.heap.size ≤ q) a := fun a h => Nat.not_le.mpr h
  obtain ⟨aK, aV, hSM, hKM⟩ := sS_of (args := #[Value.ref b]) (s := s) (N := 3) (tm := tmM) (len := lenM) (byt := bytM) (A := fun q => s.heap.size ≤ q) (by decide) (fun i hi => lf_ok hgv (sfM_1 i hi).1) (fun i hi => lf_ok hgv (sfM_1 i hi).2.1) (fun i hi => lf_ok hgv (sfM_1 i hi).2.2.1) (fun i hi => lf_ok hgv (sfM_1 i hi).2.2.2) (fun i hi j hj => lf_ok hgv (sfM_2 i hi j hj)) hA
  obtain ⟨bK, bV, hSX, hKX⟩ := sS_of (args := #[Value.ref b]) (s := s) (N := nX) (tm := tmX) (len := lenX) (byt := bytX) (A := fun q => s.heap.size ≤ q) (fun i _ => lenX_lt i) (fun i hi => lf_ok hgv (sfX_1 i hi).1) (fun i hi => lf_ok hgv (sfX_1 i hi).2.1) (fun i hi => lf_ok hgv (sfX_1 i hi).2.2.1) (fun i hi => lf_ok hgv (sfX_1 i hi).2.2.2) (fun i hi j hj => lf_ok hgv (sfX_2 i hi j hj)) hA
  have h0 : ∀ e : Nat, ∃ a : Nat, e < 53 → (tmE e).eval #[Value.ref b] s none [] s = some (.ref a) := fun e => by
    by_cases he : e < 53
    · obtain ⟨a, c, cA, kA, q1, -⟩ := Cond.exactly_spec (args := #[Value.ref b]) (first := s) (o := none) (s := s) (idx := []) (t := tmE e) (cls := "KernelText$Op") (lf_ok hgv (ef_1 e he).1)
      exact ⟨a, fun _ => q1⟩
    · exact ⟨0, fun h => absurd h he⟩
  obtain ⟨aE, hE⟩ := Classical.axiomOfChoice h0
  obtain ⟨aO, hO, hOT⟩ := va_Tof (args := #[Value.ref b]) (s := s) (tm := tmO) (ty := .object "KernelText$Op") (N := 53) (f := fun j => .ref (aE j)) (A := fun q => s.heap.size ≤ q) (by decide) (lf_ok hgv ef_3.1) (va_eqt (lf_ok hgv ef_3.2.1)) (fun j hj => va_eqv (lf_ok hgv (ef_3.2.2 j hj)) (hE j hj)) hA
  have hco : va_Z "java/lang/String" "COMPACT_STRINGS" "Z" (.int 1) (fun q => s.heap.size ≤ q) s s.heap := va_Zof (hts _ (List.mem_append_right _ (List.mem_append_left _ (List.mem_of_getElem? (i := 197) rfl)))) (hts _ (List.mem_append_right _ (List.mem_append_left _ (List.mem_of_getElem? (i := 11) rfl)))) (va_eqi (lf_ok hgv ef_4.1)) hA
  have hsi : va_Zq "jdk/internal/util/Preconditions" "SIOOBE_FORMATTER" "Ljava/util/function/BiFunction;" (fun q => s.heap.size ≤ q) s s.heap := va_Zqof (hts _ (List.mem_append_right _ (List.mem_append_right _ (List.mem_append_left _ (List.mem_of_getElem? (i := 71) rfl))))) (hts _ (List.mem_append_right _ (List.mem_append_left _ (List.mem_of_getElem? (i := 16) rfl)))) (lf_ok hgv ef_4.2.1) hA
  have hor : ∀ e : Nat, e < 53 → va_OF "java/lang/Enum" "ordinal" "I" (.int (Int32.ofNat e)) (aE e) (fun q => s.heap.size ≤ q) s s.heap := fun e he => vk_OFof (hE e he) (va_eqt (lf_ok hgv (ef_1 e he).2.1)) hA
  refine ⟨aK, aV, bK, bV, aE, aO, ⟨⟨hSM, hco, hsi⟩, vk_R.of (hts _ (List.mem_append_right _ (List.mem_append_right _ (List.mem_append_right _ (List.mem_append_right _ (List.mem_append_right _ (List.mem_append_right _ (List.mem_append_left _ (List.mem_of_getElem? (i := 84) rfl))))))))) (hKM 0 (by decide)), vk_R.of (hts _ (List.mem_append_right _ (List.mem_append_right _ (List.mem_append_right _ (List.mem_append_right _ (List.mem_append_right _ (List.mem_append_right _ (List.mem_append_left _ (List.mem_of_getElem? (i := 73) rfl))))))))) (hKM 1 (by decide)), vk_R.of (hts _ (List.mem_append_right _ (List.mem_append_right _ (List.mem_append_right _ (List.mem_append_right _ (List.mem_append_right _ (List.mem_append_right _ (List.mem_append_left _ (List.mem_of_getElem? (i := 64) rfl))))))))) (hKM 2 (by decide))⟩, ?_, va_Nw.of rfl (hts _ (List.mem_append_right _ (List.mem_append_right _ (List.mem_append_right _ (List.mem_append_left _ (List.mem_of_getElem? (i := 19) rfl)))))), va_Nw.of rfl (hts _ (List.mem_append_right _ (List.mem_append_right _ (List.mem_append_right _ (List.mem_append_right _ (List.mem_append_right _ (List.mem_append_left _ (List.mem_of_getElem? (i := 81) rfl))))))))⟩
  exact ⟨⟨hSX, hco, hsi⟩,
   fun e he => ⟨va_Oof (lf_ok hgv (ef_1 e he).1) (hE e he) hA, vk_OFof (hE e he) (va_eqv (lf_ok hgv (ef_1 e he).2.2.1) (hKX _ (ef_2 e he).1)) hA, vk_OFof (hE e he) (va_eqv (lf_ok hgv (ef_1 e he).2.2.2.1) (hKX _ (ef_2 e he).2)) hA, vk_OFof (hE e he) (va_eqtl (lf_ok hgv (ef_1 e he).2.2.2.2.1)) hA, vk_OFof (hE e he) (va_eqtl (lf_ok hgv (ef_1 e he).2.2.2.2.2)) hA⟩,
   fun i j hi hj h => by
    have h1 := hor i hi
    rw [h] at h1
    have h2 := OF_one h1 (hor j hj)
    exact co_ofN (by omega) (by omega) (Value.int.inj h2),
   va_Zof (hts _ (List.mem_append_right _ (List.mem_append_right _ (List.mem_append_left _ (List.mem_of_getElem? (i := 31) rfl))))) (hts _ (List.mem_append_right _ (List.mem_append_left _ (List.mem_of_getElem? (i := 1) rfl)))) hO hA,
   hOT,
   va_Nw.of rfl (hts _ (List.mem_append_right _ (List.mem_append_right _ (List.mem_append_left _ (List.mem_of_getElem? (i := 30) rfl))))),
   vk_R.of (hts _ (List.mem_append_right _ (List.mem_append_right _ (List.mem_append_right _ (List.mem_append_right _ (List.mem_append_left _ (List.mem_of_getElem? (i := 178) rfl))))))) (hKX 71 (by decide)),
   vk_R.of (hts _ (List.mem_append_right _ (List.mem_append_right _ (List.mem_append_right _ (List.mem_append_right _ (List.mem_append_right _ (List.mem_append_right _ (List.mem_append_right _ ((List.mem_of_getElem? (i := 50) rfl)))))))))) (hKX 1 (by decide)),
   va_AO.of (A := #[Value.ref b]) (hts _ (List.mem_append_right _ (List.mem_append_left _ (List.mem_of_getElem? (i := 62) rfl)))),
   va_Nw.of rfl (hts _ (List.mem_append_right _ (List.mem_append_left _ (List.mem_of_getElem? (i := 40) rfl)))),
   va_Nw.of rfl (hts _ (List.mem_append_right _ (List.mem_append_left _ (List.mem_of_getElem? (i := 65) rfl)))),
   va_Nw.of rfl (hts _ (List.mem_append_right _ (List.mem_append_left _ (List.mem_of_getElem? (i := 141) rfl)))),
   va_Nw.of rfl (hts _ (List.mem_append_right _ (List.mem_append_left _ (List.mem_of_getElem? (i := 144) rfl)))),
   va_Nw.of rfl (hts _ (List.mem_append_right _ (List.mem_append_left _ (List.mem_of_getElem? (i := 183) rfl)))),
   vx_Zqof (hts _ (List.mem_append_right _ (List.mem_append_right _ (List.mem_append_right _ (List.mem_append_left _ (List.mem_of_getElem? (i := 44) rfl)))))) (hts _ (List.mem_append_right _ (List.mem_append_left _ (List.mem_of_getElem? (i := 20) rfl)))) (lf_ok hgv ef_4.2.2.1) hA,
   vx_Zqof (hts _ (List.mem_append_right _ (List.mem_append_right _ (List.mem_append_right _ (List.mem_append_left _ (List.mem_of_getElem? (i := 46) rfl)))))) (hts _ (List.mem_append_right _ (List.mem_append_left _ (List.mem_of_getElem? (i := 20) rfl)))) (lf_ok hgv ef_4.2.2.2) hA,
   fun w h => va_Nw.of (ng_ot w (List.mem_append_left _ h)) (hts w (ng_in w (List.mem_append_left _ h))),
   fun w h => va_Nw.of (ng_ot w (List.mem_append_right _ h)) (hts w (ng_in w (List.mem_append_right _ h))),
   vk_R.of (hts _ (List.mem_append_right _ (List.mem_append_right _ (List.mem_append_right _ (List.mem_append_right _ (List.mem_append_right _ (List.mem_append_left _ (List.mem_of_getElem? (i := 59) rfl)))))))) (hKX 72 (by decide)),
   vk_R.of (hts _ (List.mem_append_right _ (List.mem_append_right _ (List.mem_append_right _ (List.mem_append_right _ (List.mem_append_right _ (List.mem_append_left _ (List.mem_of_getElem? (i := 88) rfl)))))))) (hKX 73 (by decide)),
   vk_R.of (hts _ (List.mem_append_right _ (List.mem_append_right _ (List.mem_append_right _ (List.mem_append_right _ (List.mem_append_right _ (List.mem_append_left _ (List.mem_of_getElem? (i := 103) rfl)))))))) (hKX 74 (by decide)),
   va_Zof (hts _ (List.mem_append_right _ (List.mem_append_right _ (List.mem_append_left _ (List.mem_of_getElem? (i := 127) rfl))))) (hts _ (List.mem_append_right _ (List.mem_append_left _ (List.mem_of_getElem? (i := 19) rfl)))) (hE 46 (by decide)) hA,
   va_Zof (hts _ (List.mem_append_right _ (List.mem_append_right _ (List.mem_append_right _ (List.mem_append_right _ (List.mem_append_left _ (List.mem_of_getElem? (i := 58) rfl))))))) (hts _ (List.mem_append_right _ (List.mem_append_left _ (List.mem_of_getElem? (i := 19) rfl)))) (hE 38 (by decide)) hA,
   va_Zof (hts _ (List.mem_append_right _ (List.mem_append_right _ (List.mem_append_right _ (List.mem_append_right _ (List.mem_append_left _ (List.mem_of_getElem? (i := 47) rfl))))))) (hts _ (List.mem_append_right _ (List.mem_append_left _ (List.mem_of_getElem? (i := 19) rfl)))) (hE 37 (by decide)) hA,
   va_Zof (hts _ (List.mem_append_right _ (List.mem_append_right _ (List.mem_append_right _ (List.mem_append_right _ (List.mem_append_left _ (List.mem_of_getElem? (i := 54) rfl))))))) (hts _ (List.mem_append_right _ (List.mem_append_left _ (List.mem_of_getElem? (i := 19) rfl)))) (hE 0 (by decide)) hA,
   va_Zof (hts _ (List.mem_append_right _ (List.mem_append_right _ (List.mem_append_right _ (List.mem_append_right _ (List.mem_append_left _ (List.mem_of_getElem? (i := 45) rfl))))))) (hts _ (List.mem_append_right _ (List.mem_append_left _ (List.mem_of_getElem? (i := 19) rfl)))) (hE 36 (by decide)) hA,
   va_Zof (hts _ (List.mem_append_right _ (List.mem_append_right _ (List.mem_append_right _ (List.mem_append_right _ (List.mem_append_left _ (List.mem_of_getElem? (i := 56) rfl))))))) (hts _ (List.mem_append_right _ (List.mem_append_left _ (List.mem_of_getElem? (i := 19) rfl)))) (hE 1 (by decide)) hA⟩
