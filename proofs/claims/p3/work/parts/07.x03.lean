/-! ===== X2_readsOf  ===== -/
def rm_X2_readsOf : Room := { frames := 4, cells := 0, slots := 0, locals := 85 }
abbrev wgX2_readsOf : List Cond := .code yX2_readsOf cX2_readsOf 8 (some .int) :: TB
def wB_X2_readsOf_140 (post : Int32 → Prop) (t0 : Int32) : Prop :=
  post t0
def wB_X2_readsOf_113 (post : Int32 → Prop) (k50 : Int64 → Option Nat → Nat → Int32 → Int32 → Prop) (x0 : Int64) (o2 : Option Nat) (e3 : Nat) (x5 : Int32) (x6 : Int32) : Prop :=
  (o2 = none → (∀ x6_19 : Int32, x6_19 = x6 + 1 → k50 x0 none e3 x5 x6_19)) ∧ (∀ e_18 : Nat, o2 = some e_18 → (∀ x6_20 : Int32, x6_20 = x6 + 1 → k50 x0 (some e_18) e3 x5 x6_20))
def wB_X2_readsOf_102 (post : Int32 → Prop) (k50 : Int64 → Option Nat → Nat → Int32 → Int32 → Prop) (x0 : Int64) (o2 : Option Nat) (e3 : Nat) (x5 : Int32) (x6 : Int32) (x7 : Int32) : Prop :=
  (o2 = none → (wp_X2_bitOf (fun r_15  => ∀ x5_17 : Int32, x5_17 = x5 ||| r_15 → wB_X2_readsOf_113 post k50 x0 none e3 x5_17 x6) x7 x0)) ∧ (∀ e_14 : Nat, o2 = some e_14 → (wp_X2_bitOf (fun r_21  => ∀ x5_23 : Int32, x5_23 = x5 ||| r_21 → wB_X2_readsOf_113 post k50 x0 (some e_14) e3 x5_23 x6) x7 x0))
def wB_X2_readsOf_50 (post : Int32 → Prop) (k50 : Int64 → Option Nat → Nat → Int32 → Int32 → Prop) (x0 : Int64) (o2 : Option Nat) (e3 : Nat) (x5 : Int32) (x6 : Int32) : Prop :=
  (o2 = none → (e3 < nX ∧ wp_J0_length_8abf5 (fun r_9  => (r_9 ≤ x6 → (wB_X2_readsOf_140 post x5)) ∧ (¬ r_9 ≤ x6 → (e3 < nX ∧ (vp_in x6 (lenX.getD e3 0) ∧ (∀ r_13 : Int32, r_13 = sCh bytX e3 x6.toNatClampNeg → (r_13 = 97 → (wB_X2_readsOf_102 post k50 x0 none e3 x5 x6 r_13)) ∧ (¬ r_13 = 97 → ((r_13 = 98 → (wB_X2_readsOf_102 post k50 x0 none e3 x5 x6 r_13)) ∧ (¬ r_13 = 98 → ((r_13 = 65 → (wB_X2_readsOf_102 post k50 x0 none e3 x5 x6 r_13)) ∧ (¬ r_13 = 65 → ((r_13 = 66 → (wB_X2_readsOf_102 post k50 x0 none e3 x5 x6 r_13)) ∧ (¬ r_13 = 66 → ((r_13 = 113 → (wB_X2_readsOf_102 post k50 x0 none e3 x5 x6 r_13)) ∧ (¬ r_13 = 113 → (wB_X2_readsOf_113 post k50 x0 none e3 x5 x6))))))))))))))) e3)) ∧ (∀ e_8 : Nat, o2 = some e_8 → (e3 < nX ∧ wp_J0_length_8abf5 (fun r_25  => (r_25 ≤ x6 → (e_8 < 53 ∧ ((e_8 = 46 → (wp_X2_bitOf (fun r_27  => wB_X2_readsOf_140 post (x5 ||| r_27)) 100 x0)) ∧ (¬ e_8 = 46 → (wB_X2_readsOf_140 post x5))))) ∧ (¬ r_25 ≤ x6 → (e3 < nX ∧ (vp_in x6 (lenX.getD e3 0) ∧ (∀ r_32 : Int32, r_32 = sCh bytX e3 x6.toNatClampNeg → (r_32 = 97 → (wB_X2_readsOf_102 post k50 x0 (some e_8) e3 x5 x6 r_32)) ∧ (¬ r_32 = 97 → ((r_32 = 98 → (wB_X2_readsOf_102 post k50 x0 (some e_8) e3 x5 x6 r_32)) ∧ (¬ r_32 = 98 → ((r_32 = 65 → (wB_X2_readsOf_102 post k50 x0 (some e_8) e3 x5 x6 r_32)) ∧ (¬ r_32 = 65 → ((r_32 = 66 → (wB_X2_readsOf_102 post k50 x0 (some e_8) e3 x5 x6 r_32)) ∧ (¬ r_32 = 66 → ((r_32 = 113 → (wB_X2_readsOf_102 post k50 x0 (some e_8) e3 x5 x6 r_32)) ∧ (¬ r_32 = 113 → (wB_X2_readsOf_113 post k50 x0 (some e_8) e3 x5 x6))))))))))))))) e3))
def wL_X2_readsOf_50 (post : Int32 → Prop) : Nat → Int64 → Option Nat → Nat → Int32 → Int32 → Prop
  | 0 => fun _ _ _ _ _ => False
  | n + 1 => wB_X2_readsOf_50 post (wL_X2_readsOf_50 post n)
def wB_X2_readsOf_45 (post : Int32 → Prop) (x0 : Int64) (o2 : Option Nat) (e3 : Nat) (t0 : Int32) : Prop :=
  (o2 = none → (∃ n, wL_X2_readsOf_50 post n x0 none e3 t0 0)) ∧ (∀ e_7 : Nat, o2 = some e_7 → (∃ n, wL_X2_readsOf_50 post n x0 (some e_7) e3 t0 0))
def wB_X2_readsOf_18 (post : Int32 → Prop) (x0 : Int64) (o2 : Option Nat) (s0 : Nat) : Prop :=
  (o2 = none → (wp_X2_guardOf (fun r_5  => (8 ≤ r_5 → (wB_X2_readsOf_45 post x0 none s0 ((1 : Int32) <<< ((16 + (r_5 - r_5 / 4 * 4)) &&& 31)))) ∧ (¬ 8 ≤ r_5 → (wB_X2_readsOf_45 post x0 none s0 0))) x0)) ∧ (∀ e_4 : Nat, o2 = some e_4 → (wp_X2_guardOf (fun r_34  => (8 ≤ r_34 → (wB_X2_readsOf_45 post x0 (some e_4) s0 ((1 : Int32) <<< ((16 + (r_34 - r_34 / 4 * 4)) &&& 31)))) ∧ (¬ 8 ≤ r_34 → (wB_X2_readsOf_45 post x0 (some e_4) s0 0))) x0))
def wp_X2_readsOf (post : Int32 → Prop) (x0 : Int64) : Prop :=
  wp_X2_listed (fun r_1  => (r_1 = none → (wB_X2_readsOf_18 post x0 none 1)) ∧ (∀ e_3 : Nat, r_1 = some e_3 → (e_3 < 53 ∧ (wB_X2_readsOf_18 post x0 (some e_3) (pxI e_3))))) x0
set_option maxHeartbeats 4000000 in
set_option maxRecDepth 100000 in
theorem kB_X2_readsOf_140 {p : Program} {l : Launch} {e : Env} {s : State} {m : MethodId} {args : Array Value} {below : List Frame} {meth : Method} {c : Code} {A : Nat → Prop} {E : EnvT} {aK aV aE : Nat → Nat} {aO : Nat} (C : sCx p s m args meth c cX2_readsOf 8 (some .int) wgX2_readsOf RX2 E A) (vM : eXs aK aV aE aO E) {post : Int32 → Prop} :
    ∀ (t0 : Int32) (H : Heap) (locs : List Loc) (ls : Array Slot), va_S A s.heap H locs → lv_has ls 8 [] → wB_X2_readsOf_140 post t0 → W p l e rm_X2_readsOf s m args below meth c H locs 0 0 (MQ below (va_Qi (S := Unit) (fun r _ => post r) (fun _ _ => True) A) args s 0 0 A) (F0 m 140 ls [.int t0]) := by
  obtain ⟨hx, hb, hml, hr, hown, hts, hA, hlk, hE, vE⟩ := id C
  intro t0 H locs ls hG hl hw
  have hS := hG
  exact W.iret (v := t0) hx hb hr (fun t ht hW => ⟨⟨_, (), rfl, hw, trivial⟩, hS.F ht⟩) hS.2.2 dX2_readsOf_140 hlk
set_option maxHeartbeats 4000000 in
set_option maxRecDepth 100000 in
theorem kB_X2_readsOf_113 {p : Program} {l : Launch} {e : Env} {s : State} {m : MethodId} {args : Array Value} {below : List Frame} {meth : Method} {c : Code} {A : Nat → Prop} {E : EnvT} {aK aV aE : Nat → Nat} {aO : Nat} (C : sCx p s m args meth c cX2_readsOf 8 (some .int) wgX2_readsOf RX2 E A) (vM : eXs aK aV aE aO E) {post : Int32 → Prop}
    {k50 : Int64 → Option Nat → Nat → Int32 → Int32 → Prop} (hk50 : ∀ (x0 : Int64) (o2 : Option Nat) (e3 : Nat) (x5 : Int32) (x6 : Int32) (H : Heap) (locs : List Loc) (ls : Array Slot), va_S A s.heap H locs → lv_has ls 8 [(0, .long x0), (2, va_re aE o2), (3, .ref (aK e3)), (5, .int x5), (6, .int x6)] → k50 x0 o2 e3 x5 x6 → W p l e rm_X2_readsOf s m args below meth c H locs 0 0 (MQ below (va_Qi (S := Unit) (fun r _ => post r) (fun _ _ => True) A) args s 0 0 A) (F0 m 50 ls [])) :
    ∀ (x0 : Int64) (o2 : Option Nat) (e3 : Nat) (x5 : Int32) (x6 : Int32) (H : Heap) (locs : List Loc) (ls : Array Slot), va_S A s.heap H locs → lv_has ls 8 [(0, .long x0), (2, va_re aE o2), (3, .ref (aK e3)), (5, .int x5), (6, .int x6)] → wB_X2_readsOf_113 post k50 x0 o2 e3 x5 x6 → W p l e rm_X2_readsOf s m args below meth c H locs 0 0 (MQ below (va_Qi (S := Unit) (fun r _ => post r) (fun _ _ => True) A) args s 0 0 A) (F0 m 113 ls []) := by
  obtain ⟨hx, hb, hml, hr, hown, hts, hA, hlk, hE, vE⟩ := id C
  intro x0 o2 e3 x5 x6 H locs ls hG hl hw
  have hS := hG
  rcases o2 with _ | e_18
  · have hw := hw.1 rfl
    have hl : lv_has ls 8 [(0, .long x0), (2, .null), (3, .ref (aK e3)), (5, .int x5), (6, .int x6)] := hl
    show W p l e rm_X2_readsOf s m args below meth c _ _ 0 0 (MQ below (va_Qi (S := Unit) (fun r _ => post r) (fun _ _ => True) A) args s 0 0 A) (F0 m 113 ls [])
    obtain ⟨x6_19, ex6_19⟩ : ∃ y : Int32, y = x6 + 1 := ⟨_, rfl⟩
    have hw := hw x6_19 ex6_19
    refine lv_iinc (v := x6_19) (lv' := [(6, .int x6_19), (0, .long x0), (2, .null), (3, .ref (aK e3)), (5, .int x5)]) hx hb dX2_readsOf_113 hl (k := 4) rfl (by rw [ex6_19]; rfl) (by decide) rfl (fun ls hl => ?_)
    refine lv_goto (tgt := 50) hx hb dX2_readsOf_116 (by decide) ?_
    exact hk50 x0 none e3 x5 x6_19 _ _ _ hG (lv_sub hl [1, 2, 3, 4, 0] rfl) hw
  · have hw := hw.2 e_18 rfl
    have hl : lv_has ls 8 [(0, .long x0), (2, .ref (aE e_18)), (3, .ref (aK e3)), (5, .int x5), (6, .int x6)] := hl
    show W p l e rm_X2_readsOf s m args below meth c _ _ 0 0 (MQ below (va_Qi (S := Unit) (fun r _ => post r) (fun _ _ => True) A) args s 0 0 A) (F0 m 113 ls [])
    obtain ⟨x6_20, ex6_20⟩ : ∃ y : Int32, y = x6 + 1 := ⟨_, rfl⟩
    have hw := hw x6_20 ex6_20
    refine lv_iinc (v := x6_20) (lv' := [(6, .int x6_20), (0, .long x0), (2, .ref (aE e_18)), (3, .ref (aK e3)), (5, .int x5)]) hx hb dX2_readsOf_113 hl (k := 4) rfl (by rw [ex6_20]; rfl) (by decide) rfl (fun ls hl => ?_)
    refine lv_goto (tgt := 50) hx hb dX2_readsOf_116 (by decide) ?_
    exact hk50 x0 (some e_18) e3 x5 x6_20 _ _ _ hG (lv_sub hl [1, 2, 3, 4, 0] rfl) hw
set_option maxHeartbeats 4000000 in
set_option maxRecDepth 100000 in
theorem kB_X2_readsOf_102 {p : Program} {l : Launch} {e : Env} {s : State} {m : MethodId} {args : Array Value} {below : List Frame} {meth : Method} {c : Code} {A : Nat → Prop} {E : EnvT} {aK aV aE : Nat → Nat} {aO : Nat} (C : sCx p s m args meth c cX2_readsOf 8 (some .int) wgX2_readsOf RX2 E A) (vM : eXs aK aV aE aO E) {post : Int32 → Prop}
    {k50 : Int64 → Option Nat → Nat → Int32 → Int32 → Prop} (hk50 : ∀ (x0 : Int64) (o2 : Option Nat) (e3 : Nat) (x5 : Int32) (x6 : Int32) (H : Heap) (locs : List Loc) (ls : Array Slot), va_S A s.heap H locs → lv_has ls 8 [(0, .long x0), (2, va_re aE o2), (3, .ref (aK e3)), (5, .int x5), (6, .int x6)] → k50 x0 o2 e3 x5 x6 → W p l e rm_X2_readsOf s m args below meth c H locs 0 0 (MQ below (va_Qi (S := Unit) (fun r _ => post r) (fun _ _ => True) A) args s 0 0 A) (F0 m 50 ls [])) :
    ∀ (x0 : Int64) (o2 : Option Nat) (e3 : Nat) (x5 : Int32) (x6 : Int32) (x7 : Int32) (H : Heap) (locs : List Loc) (ls : Array Slot), va_S A s.heap H locs → lv_has ls 8 [(0, .long x0), (2, va_re aE o2), (3, .ref (aK e3)), (5, .int x5), (6, .int x6), (7, .int x7)] → wB_X2_readsOf_102 post k50 x0 o2 e3 x5 x6 x7 → W p l e rm_X2_readsOf s m args below meth c H locs 0 0 (MQ below (va_Qi (S := Unit) (fun r _ => post r) (fun _ _ => True) A) args s 0 0 A) (F0 m 102 ls []) := by
  obtain ⟨hx, hb, hml, hr, hown, hts, hA, hlk, hE, vE⟩ := id C
  intro x0 o2 e3 x5 x6 x7 H locs ls hG hl hw
  have hS := hG
  rcases o2 with _ | e_14
  · have hw := hw.1 rfl
    have hl : lv_has ls 8 [(0, .long x0), (2, .null), (3, .ref (aK e3)), (5, .int x5), (6, .int x6), (7, .int x7)] := hl
    show W p l e rm_X2_readsOf s m args below meth c _ _ 0 0 (MQ below (va_Qi (S := Unit) (fun r _ => post r) (fun _ _ => True) A) args s 0 0 A) (F0 m 102 ls [])
    refine lv_iload hx hb dX2_readsOf_102 (lv_at hl 3 rfl) ?_
    refine lv_iload hx hb dX2_readsOf_104 (lv_at hl 5 rfl) ?_
    refine lv_lload_n hx hb dX2_readsOf_106 rfl (lv_at hl 0 rfl) ?_
    refine sS_i (As := [.int x7, .long x0]) (rest := [.int x5]) C (met_X2_bitOf vE vM hw) (va_cwS 2 hts (TB_G (TB_3 tw_2_123 tw_2_124 tw_1_19) tw_2_125) rfl rfl rfl (by decide +kernel) ⟨by decide, by decide⟩) hS rfl hl.1 rfl (Nat.le_of_ble_eq_true rfl) dX2_readsOf_107 ⟨by decide, by decide⟩ (fun r_15 H locs hw hS => ?_)
    have hG := hS
    refine lv_ior hx hb dX2_readsOf_110 ?_
    refine lv_topi (fun x5_17 ex5_17 => ?_)
    have hw := hw x5_17 ex5_17
    refine lv_istore (lv' := [(5, .int x5_17), (0, .long x0), (2, .null), (3, .ref (aK e3)), (6, .int x6), (7, .int x7)]) hx hb dX2_readsOf_111 hl (by decide) rfl (fun ls hl => ?_)
    exact kB_X2_readsOf_113 C vM hk50 x0 none e3 x5_17 x6 _ _ _ hG (lv_sub hl [1, 2, 3, 0, 4] rfl) hw
  · have hw := hw.2 e_14 rfl
    have hl : lv_has ls 8 [(0, .long x0), (2, .ref (aE e_14)), (3, .ref (aK e3)), (5, .int x5), (6, .int x6), (7, .int x7)] := hl
    show W p l e rm_X2_readsOf s m args below meth c _ _ 0 0 (MQ below (va_Qi (S := Unit) (fun r _ => post r) (fun _ _ => True) A) args s 0 0 A) (F0 m 102 ls [])
    refine lv_iload hx hb dX2_readsOf_102 (lv_at hl 3 rfl) ?_
    refine lv_iload hx hb dX2_readsOf_104 (lv_at hl 5 rfl) ?_
    refine lv_lload_n hx hb dX2_readsOf_106 rfl (lv_at hl 0 rfl) ?_
    refine sS_i (As := [.int x7, .long x0]) (rest := [.int x5]) C (met_X2_bitOf vE vM hw) (va_cwS 2 hts (TB_G (TB_3 tw_2_123 tw_2_124 tw_1_19) tw_2_125) rfl rfl rfl (by decide +kernel) ⟨by decide, by decide⟩) hS rfl hl.1 rfl (Nat.le_of_ble_eq_true rfl) dX2_readsOf_107 ⟨by decide, by decide⟩ (fun r_21 H locs hw hS => ?_)
    have hG := hS
    refine lv_ior hx hb dX2_readsOf_110 ?_
    refine lv_topi (fun x5_23 ex5_23 => ?_)
    have hw := hw x5_23 ex5_23
    refine lv_istore (lv' := [(5, .int x5_23), (0, .long x0), (2, .ref (aE e_14)), (3, .ref (aK e3)), (6, .int x6), (7, .int x7)]) hx hb dX2_readsOf_111 hl (by decide) rfl (fun ls hl => ?_)
    exact kB_X2_readsOf_113 C vM hk50 x0 (some e_14) e3 x5_23 x6 _ _ _ hG (lv_sub hl [1, 2, 3, 0, 4] rfl) hw
set_option maxHeartbeats 4000000 in
set_option maxRecDepth 100000 in
theorem kB_X2_readsOf_50 {p : Program} {l : Launch} {e : Env} {s : State} {m : MethodId} {args : Array Value} {below : List Frame} {meth : Method} {c : Code} {A : Nat → Prop} {E : EnvT} {aK aV aE : Nat → Nat} {aO : Nat} (C : sCx p s m args meth c cX2_readsOf 8 (some .int) wgX2_readsOf RX2 E A) (vM : eXs aK aV aE aO E) {post : Int32 → Prop}
    {k50 : Int64 → Option Nat → Nat → Int32 → Int32 → Prop} (hk50 : ∀ (x0 : Int64) (o2 : Option Nat) (e3 : Nat) (x5 : Int32) (x6 : Int32) (H : Heap) (locs : List Loc) (ls : Array Slot), va_S A s.heap H locs → lv_has ls 8 [(0, .long x0), (2, va_re aE o2), (3, .ref (aK e3)), (5, .int x5), (6, .int x6)] → k50 x0 o2 e3 x5 x6 → W p l e rm_X2_readsOf s m args below meth c H locs 0 0 (MQ below (va_Qi (S := Unit) (fun r _ => post r) (fun _ _ => True) A) args s 0 0 A) (F0 m 50 ls [])) :
    ∀ (x0 : Int64) (o2 : Option Nat) (e3 : Nat) (x5 : Int32) (x6 : Int32) (H : Heap) (locs : List Loc) (ls : Array Slot), va_S A s.heap H locs → lv_has ls 8 [(0, .long x0), (2, va_re aE o2), (3, .ref (aK e3)), (5, .int x5), (6, .int x6)] → wB_X2_readsOf_50 post k50 x0 o2 e3 x5 x6 → W p l e rm_X2_readsOf s m args below meth c H locs 0 0 (MQ below (va_Qi (S := Unit) (fun r _ => post r) (fun _ _ => True) A) args s 0 0 A) (F0 m 50 ls []) := by
  obtain ⟨hx, hb, hml, hr, hown, hts, hA, hlk, hE, vE⟩ := id C
  intro x0 o2 e3 x5 x6 H locs ls hG hl hw
  have hS := hG
  rcases o2 with _ | e_8
  · have hw := hw.1 rfl
    have hl : lv_has ls 8 [(0, .long x0), (2, .null), (3, .ref (aK e3)), (5, .int x5), (6, .int x6)] := hl
    show W p l e rm_X2_readsOf s m args below meth c _ _ 0 0 (MQ below (va_Qi (S := Unit) (fun r _ => post r) (fun _ _ => True) A) args s 0 0 A) (F0 m 50 ls [])
    refine lv_iload hx hb dX2_readsOf_50 (lv_at hl 4 rfl) ?_
    refine lv_aload_n hx hb dX2_readsOf_52 rfl (lv_at hl 2 rfl) ?_
    obtain ⟨h_24, hw⟩ := hw
    refine sO_i (As := []) (rest := [.int x6]) C (met_J0_length_8abf5 vE vM hw) (va_Orecv (eX.s_obj (vM _ _ _ hE) h_24) hS) (cwV 0 hts (TB_G (TB_4 tw_2_47 tw_2_48 tw_2_49 tw_1_11) tw_2_50) rfl rfl rfl (by decide +kernel) ⟨by decide, by decide⟩) hS rfl hl.1 rfl (Nat.le_of_ble_eq_true rfl) dX2_readsOf_53 ⟨by decide, by decide⟩ (fun r_9 H locs hw hS => ?_)
    have hG := hS
    refine lv_icmp_ge (tgt := 119) hx hb dX2_readsOf_56 (by decide) (fun q_ => ?_) (fun q_ => ?_)
    · have hw := hw.1 q_
      refine lv_aload_nN hx hb dX2_readsOf_119 rfl (lv_at hl 1 rfl) ?_
      refine va_gets hx hb (eX.c_ATCAS (vM _ _ _ hE)) hS hown (hts _ (List.mem_cons_of_mem _ tw_2_126)) (fun _ h => h) dX2_readsOf_120 ?_
      refine lv_acmp_ne (rx := none) (ry := some (aE 46)) (tgt := 138) hx hb dX2_readsOf_123 (by decide) (fun q_ => ?_) (fun q_ => ?_)
      · refine lv_iload hx hb dX2_readsOf_138 (lv_at hl 3 rfl) ?_
        exact kB_X2_readsOf_140 C vM x5 _ _ _ hG (lv_sub hl [] rfl) hw
      · exact absurd q_ (by simp)
    · have hw := hw.2 q_
      refine lv_aload_n hx hb dX2_readsOf_59 rfl (lv_at hl 2 rfl) ?_
      refine lv_iload hx hb dX2_readsOf_60 (lv_at hl 4 rfl) ?_
      obtain ⟨h_12, h_11, hw⟩ := hw
      refine sO_i (As := [.int x6]) (rest := []) C (met_J0_charAt vE (fun A U H z => eX.str (vM A U H z)) h_12 (post := fun r => r = sCh bytX e3 x6.toNatClampNeg) (in_nn h_11) (in_lt h_11 (lenX_lt _)) h_11 rfl) (va_Orecv (eX.s_obj (vM _ _ _ hE) h_12) hS) (cwV 1 hts (TB_G (TB_4 tw_2_56 tw_2_57 tw_2_58 tw_1_11) tw_2_59) rfl rfl rfl (by decide +kernel) ⟨by decide, by decide⟩) hS rfl hl.1 rfl (Nat.le_of_ble_eq_true rfl) dX2_readsOf_62 ⟨by decide, by decide⟩ (fun r_13 H locs er_13 hS => ?_)
      have hw := hw r_13 er_13
      have hG := hS
      refine lv_istore (lv' := [(7, .int r_13), (0, .long x0), (2, .null), (3, .ref (aK e3)), (5, .int x5), (6, .int x6)]) hx hb dX2_readsOf_65 hl (by decide) rfl (fun ls hl => ?_)
      refine lv_iload hx hb dX2_readsOf_67 (lv_at hl 0 rfl) ?_
      refine lv_bipush (v := 97) hx hb dX2_readsOf_69 (by decide) ?_
      refine lv_icmp_eq (tgt := 102) hx hb dX2_readsOf_71 (by decide) (fun q_ => ?_) (fun q_ => ?_)
      · have hw := hw.1 q_
        exact kB_X2_readsOf_102 C vM hk50 x0 none e3 x5 x6 r_13 _ _ _ hG (lv_sub hl [1, 2, 3, 4, 5, 0] rfl) hw
      · have hw := hw.2 q_
        refine lv_iload hx hb dX2_readsOf_74 (lv_at hl 0 rfl) ?_
        refine lv_bipush (v := 98) hx hb dX2_readsOf_76 (by decide) ?_
        refine lv_icmp_eq (tgt := 102) hx hb dX2_readsOf_78 (by decide) (fun q_ => ?_) (fun q_ => ?_)
        · have hw := hw.1 q_
          exact kB_X2_readsOf_102 C vM hk50 x0 none e3 x5 x6 r_13 _ _ _ hG (lv_sub hl [1, 2, 3, 4, 5, 0] rfl) hw
        · have hw := hw.2 q_
          refine lv_iload hx hb dX2_readsOf_81 (lv_at hl 0 rfl) ?_
          refine lv_bipush (v := 65) hx hb dX2_readsOf_83 (by decide) ?_
          refine lv_icmp_eq (tgt := 102) hx hb dX2_readsOf_85 (by decide) (fun q_ => ?_) (fun q_ => ?_)
          · have hw := hw.1 q_
            exact kB_X2_readsOf_102 C vM hk50 x0 none e3 x5 x6 r_13 _ _ _ hG (lv_sub hl [1, 2, 3, 4, 5, 0] rfl) hw
          · have hw := hw.2 q_
            refine lv_iload hx hb dX2_readsOf_88 (lv_at hl 0 rfl) ?_
            refine lv_bipush (v := 66) hx hb dX2_readsOf_90 (by decide) ?_
            refine lv_icmp_eq (tgt := 102) hx hb dX2_readsOf_92 (by decide) (fun q_ => ?_) (fun q_ => ?_)
            · have hw := hw.1 q_
              exact kB_X2_readsOf_102 C vM hk50 x0 none e3 x5 x6 r_13 _ _ _ hG (lv_sub hl [1, 2, 3, 4, 5, 0] rfl) hw
            · have hw := hw.2 q_
              refine lv_iload hx hb dX2_readsOf_95 (lv_at hl 0 rfl) ?_
              refine lv_bipush (v := 113) hx hb dX2_readsOf_97 (by decide) ?_
              refine lv_icmp_ne (tgt := 113) hx hb dX2_readsOf_99 (by decide) (fun q_ => ?_) (fun q_ => ?_)
              · have hw := hw.2 q_
                exact kB_X2_readsOf_113 C vM hk50 x0 none e3 x5 x6 _ _ _ hG (lv_sub hl [1, 2, 3, 4, 5] rfl) hw
              · have hw := hw.1 q_
                exact kB_X2_readsOf_102 C vM hk50 x0 none e3 x5 x6 r_13 _ _ _ hG (lv_sub hl [1, 2, 3, 4, 5, 0] rfl) hw
  · have hw := hw.2 e_8 rfl
    have hl : lv_has ls 8 [(0, .long x0), (2, .ref (aE e_8)), (3, .ref (aK e3)), (5, .int x5), (6, .int x6)] := hl
    show W p l e rm_X2_readsOf s m args below meth c _ _ 0 0 (MQ below (va_Qi (S := Unit) (fun r _ => post r) (fun _ _ => True) A) args s 0 0 A) (F0 m 50 ls [])
    refine lv_iload hx hb dX2_readsOf_50 (lv_at hl 4 rfl) ?_
    refine lv_aload_n hx hb dX2_readsOf_52 rfl (lv_at hl 2 rfl) ?_
    obtain ⟨h_33, hw⟩ := hw
    refine sO_i (As := []) (rest := [.int x6]) C (met_J0_length_8abf5 vE vM hw) (va_Orecv (eX.s_obj (vM _ _ _ hE) h_33) hS) (cwV 0 hts (TB_G (TB_4 tw_2_47 tw_2_48 tw_2_49 tw_1_11) tw_2_50) rfl rfl rfl (by decide +kernel) ⟨by decide, by decide⟩) hS rfl hl.1 rfl (Nat.le_of_ble_eq_true rfl) dX2_readsOf_53 ⟨by decide, by decide⟩ (fun r_25 H locs hw hS => ?_)
    have hG := hS
    refine lv_icmp_ge (tgt := 119) hx hb dX2_readsOf_56 (by decide) (fun q_ => ?_) (fun q_ => ?_)
    · have hw := hw.1 q_
      refine lv_aload_n hx hb dX2_readsOf_119 rfl (lv_at hl 1 rfl) ?_
      refine va_gets hx hb (eX.c_ATCAS (vM _ _ _ hE)) hS hown (hts _ (List.mem_cons_of_mem _ tw_2_126)) (fun _ h => h) dX2_readsOf_120 ?_
      obtain ⟨h_29, hw⟩ := hw
      refine lv_acmp_ne (rx := some (aE e_8)) (ry := some (aE 46)) (tgt := 138) hx hb dX2_readsOf_123 (by decide) (fun q_ => ?_) (fun q_ => ?_)
      · have hw := hw.2 (fun z => q_ (op_eq z))
        refine lv_iload hx hb dX2_readsOf_138 (lv_at hl 3 rfl) ?_
        exact kB_X2_readsOf_140 C vM x5 _ _ _ hG (lv_sub hl [] rfl) hw
      · have hw := hw.1 (op_in vM hE h_29 (by decide) q_)
        refine lv_iload hx hb dX2_readsOf_126 (lv_at hl 3 rfl) ?_
        refine lv_bipush (v := 100) hx hb dX2_readsOf_128 (by decide) ?_
        refine lv_lload_n hx hb dX2_readsOf_130 rfl (lv_at hl 0 rfl) ?_
        refine sS_i (As := [.int 100, .long x0]) (rest := [.int x5]) C (met_X2_bitOf vE vM hw) (va_cwS 2 hts (TB_G (TB_3 tw_2_123 tw_2_124 tw_1_19) tw_2_125) rfl rfl rfl (by decide +kernel) ⟨by decide, by decide⟩) hS rfl hl.1 rfl (Nat.le_of_ble_eq_true rfl) dX2_readsOf_131 ⟨by decide, by decide⟩ (fun r_27 H locs hw hS => ?_)
        have hG := hS
        refine lv_ior hx hb dX2_readsOf_134 ?_
        refine lv_goto (tgt := 140) hx hb dX2_readsOf_135 (by decide) ?_
        exact kB_X2_readsOf_140 C vM (x5 ||| r_27) _ _ _ hG (lv_sub hl [] rfl) hw
    · have hw := hw.2 q_
      refine lv_aload_n hx hb dX2_readsOf_59 rfl (lv_at hl 2 rfl) ?_
      refine lv_iload hx hb dX2_readsOf_60 (lv_at hl 4 rfl) ?_
      obtain ⟨h_31, h_30, hw⟩ := hw
      refine sO_i (As := [.int x6]) (rest := []) C (met_J0_charAt vE (fun A U H z => eX.str (vM A U H z)) h_31 (post := fun r => r = sCh bytX e3 x6.toNatClampNeg) (in_nn h_30) (in_lt h_30 (lenX_lt _)) h_30 rfl) (va_Orecv (eX.s_obj (vM _ _ _ hE) h_31) hS) (cwV 1 hts (TB_G (TB_4 tw_2_56 tw_2_57 tw_2_58 tw_1_11) tw_2_59) rfl rfl rfl (by decide +kernel) ⟨by decide, by decide⟩) hS rfl hl.1 rfl (Nat.le_of_ble_eq_true rfl) dX2_readsOf_62 ⟨by decide, by decide⟩ (fun r_32 H locs er_32 hS => ?_)
      have hw := hw r_32 er_32
      have hG := hS
      refine lv_istore (lv' := [(7, .int r_32), (0, .long x0), (2, .ref (aE e_8)), (3, .ref (aK e3)), (5, .int x5), (6, .int x6)]) hx hb dX2_readsOf_65 hl (by decide) rfl (fun ls hl => ?_)
      refine lv_iload hx hb dX2_readsOf_67 (lv_at hl 0 rfl) ?_
      refine lv_bipush (v := 97) hx hb dX2_readsOf_69 (by decide) ?_
      refine lv_icmp_eq (tgt := 102) hx hb dX2_readsOf_71 (by decide) (fun q_ => ?_) (fun q_ => ?_)
      · have hw := hw.1 q_
        exact kB_X2_readsOf_102 C vM hk50 x0 (some e_8) e3 x5 x6 r_32 _ _ _ hG (lv_sub hl [1, 2, 3, 4, 5, 0] rfl) hw
      · have hw := hw.2 q_
        refine lv_iload hx hb dX2_readsOf_74 (lv_at hl 0 rfl) ?_
        refine lv_bipush (v := 98) hx hb dX2_readsOf_76 (by decide) ?_
        refine lv_icmp_eq (tgt := 102) hx hb dX2_readsOf_78 (by decide) (fun q_ => ?_) (fun q_ => ?_)
        · have hw := hw.1 q_
          exact kB_X2_readsOf_102 C vM hk50 x0 (some e_8) e3 x5 x6 r_32 _ _ _ hG (lv_sub hl [1, 2, 3, 4, 5, 0] rfl) hw
        · have hw := hw.2 q_
          refine lv_iload hx hb dX2_readsOf_81 (lv_at hl 0 rfl) ?_
          refine lv_bipush (v := 65) hx hb dX2_readsOf_83 (by decide) ?_
          refine lv_icmp_eq (tgt := 102) hx hb dX2_readsOf_85 (by decide) (fun q_ => ?_) (fun q_ => ?_)
          · have hw := hw.1 q_
            exact kB_X2_readsOf_102 C vM hk50 x0 (some e_8) e3 x5 x6 r_32 _ _ _ hG (lv_sub hl [1, 2, 3, 4, 5, 0] rfl) hw
          · have hw := hw.2 q_
            refine lv_iload hx hb dX2_readsOf_88 (lv_at hl 0 rfl) ?_
            refine lv_bipush (v := 66) hx hb dX2_readsOf_90 (by decide) ?_
            refine lv_icmp_eq (tgt := 102) hx hb dX2_readsOf_92 (by decide) (fun q_ => ?_) (fun q_ => ?_)
            · have hw := hw.1 q_
              exact kB_X2_readsOf_102 C vM hk50 x0 (some e_8) e3 x5 x6 r_32 _ _ _ hG (lv_sub hl [1, 2, 3, 4, 5, 0] rfl) hw
            · have hw := hw.2 q_
              refine lv_iload hx hb dX2_readsOf_95 (lv_at hl 0 rfl) ?_
              refine lv_bipush (v := 113) hx hb dX2_readsOf_97 (by decide) ?_
              refine lv_icmp_ne (tgt := 113) hx hb dX2_readsOf_99 (by decide) (fun q_ => ?_) (fun q_ => ?_)
              · have hw := hw.2 q_
                exact kB_X2_readsOf_113 C vM hk50 x0 (some e_8) e3 x5 x6 _ _ _ hG (lv_sub hl [1, 2, 3, 4, 5] rfl) hw
              · have hw := hw.1 q_
                exact kB_X2_readsOf_102 C vM hk50 x0 (some e_8) e3 x5 x6 r_32 _ _ _ hG (lv_sub hl [1, 2, 3, 4, 5, 0] rfl) hw
theorem kL_X2_readsOf_50 {p : Program} {l : Launch} {e : Env} {s : State} {m : MethodId} {args : Array Value} {below : List Frame} {meth : Method} {c : Code} {A : Nat → Prop} {E : EnvT} {aK aV aE : Nat → Nat} {aO : Nat} (C : sCx p s m args meth c cX2_readsOf 8 (some .int) wgX2_readsOf RX2 E A) (vM : eXs aK aV aE aO E) {post : Int32 → Prop} :
    ∀ (n : Nat) (x0 : Int64) (o2 : Option Nat) (e3 : Nat) (x5 : Int32) (x6 : Int32) (H : Heap) (locs : List Loc) (ls : Array Slot), va_S A s.heap H locs → lv_has ls 8 [(0, .long x0), (2, va_re aE o2), (3, .ref (aK e3)), (5, .int x5), (6, .int x6)] → wL_X2_readsOf_50 post n x0 o2 e3 x5 x6 → W p l e rm_X2_readsOf s m args below meth c H locs 0 0 (MQ below (va_Qi (S := Unit) (fun r _ => post r) (fun _ _ => True) A) args s 0 0 A) (F0 m 50 ls []) := by
  intro n
  induction n with
  | zero => intro x0 o2 e3 x5 x6 H locs ls hG hl hw; exact hw.elim
  | succ n ih => exact kB_X2_readsOf_50 C vM ih
set_option maxHeartbeats 4000000 in
set_option maxRecDepth 100000 in
theorem kB_X2_readsOf_45 {p : Program} {l : Launch} {e : Env} {s : State} {m : MethodId} {args : Array Value} {below : List Frame} {meth : Method} {c : Code} {A : Nat → Prop} {E : EnvT} {aK aV aE : Nat → Nat} {aO : Nat} (C : sCx p s m args meth c cX2_readsOf 8 (some .int) wgX2_readsOf RX2 E A) (vM : eXs aK aV aE aO E) {post : Int32 → Prop} :
    ∀ (x0 : Int64) (o2 : Option Nat) (e3 : Nat) (t0 : Int32) (H : Heap) (locs : List Loc) (ls : Array Slot), va_S A s.heap H locs → lv_has ls 8 [(0, .long x0), (2, va_re aE o2), (3, .ref (aK e3))] → wB_X2_readsOf_45 post x0 o2 e3 t0 → W p l e rm_X2_readsOf s m args below meth c H locs 0 0 (MQ below (va_Qi (S := Unit) (fun r _ => post r) (fun _ _ => True) A) args s 0 0 A) (F0 m 45 ls [.int t0]) := by
  obtain ⟨hx, hb, hml, hr, hown, hts, hA, hlk, hE, vE⟩ := id C
  intro x0 o2 e3 t0 H locs ls hG hl hw
  have hS := hG
  rcases o2 with _ | e_7
  · have hw := hw.1 rfl
    have hl : lv_has ls 8 [(0, .long x0), (2, .null), (3, .ref (aK e3))] := hl
    show W p l e rm_X2_readsOf s m args below meth c _ _ 0 0 (MQ below (va_Qi (S := Unit) (fun r _ => post r) (fun _ _ => True) A) args s 0 0 A) (F0 m 45 ls [.int t0])
    refine lv_istore (lv' := [(5, .int t0), (0, .long x0), (2, .null), (3, .ref (aK e3))]) hx hb dX2_readsOf_45 hl (by decide) rfl (fun ls hl => ?_)
    refine lv_iconst (v := 0) hx hb dX2_readsOf_47 (by decide) ?_
    refine lv_istore (lv' := [(6, .int 0), (5, .int t0), (0, .long x0), (2, .null), (3, .ref (aK e3))]) hx hb dX2_readsOf_48 hl (by decide) rfl (fun ls hl => ?_)
    obtain ⟨n_, hw⟩ := hw
    exact kL_X2_readsOf_50 C vM n_ x0 none e3 t0 0 _ _ _ hG (lv_sub hl [2, 3, 4, 1, 0] rfl) hw
  · have hw := hw.2 e_7 rfl
    have hl : lv_has ls 8 [(0, .long x0), (2, .ref (aE e_7)), (3, .ref (aK e3))] := hl
    show W p l e rm_X2_readsOf s m args below meth c _ _ 0 0 (MQ below (va_Qi (S := Unit) (fun r _ => post r) (fun _ _ => True) A) args s 0 0 A) (F0 m 45 ls [.int t0])
    refine lv_istore (lv' := [(5, .int t0), (0, .long x0), (2, .ref (aE e_7)), (3, .ref (aK e3))]) hx hb dX2_readsOf_45 hl (by decide) rfl (fun ls hl => ?_)
    refine lv_iconst (v := 0) hx hb dX2_readsOf_47 (by decide) ?_
    refine lv_istore (lv' := [(6, .int 0), (5, .int t0), (0, .long x0), (2, .ref (aE e_7)), (3, .ref (aK e3))]) hx hb dX2_readsOf_48 hl (by decide) rfl (fun ls hl => ?_)
    obtain ⟨n_, hw⟩ := hw
    exact kL_X2_readsOf_50 C vM n_ x0 (some e_7) e3 t0 0 _ _ _ hG (lv_sub hl [2, 3, 4, 1, 0] rfl) hw
set_option maxHeartbeats 4000000 in
set_option maxRecDepth 100000 in
theorem kB_X2_readsOf_18 {p : Program} {l : Launch} {e : Env} {s : State} {m : MethodId} {args : Array Value} {below : List Frame} {meth : Method} {c : Code} {A : Nat → Prop} {E : EnvT} {aK aV aE : Nat → Nat} {aO : Nat} (C : sCx p s m args meth c cX2_readsOf 8 (some .int) wgX2_readsOf RX2 E A) (vM : eXs aK aV aE aO E) {post : Int32 → Prop} :
    ∀ (x0 : Int64) (o2 : Option Nat) (s0 : Nat) (H : Heap) (locs : List Loc) (ls : Array Slot), va_S A s.heap H locs → lv_has ls 8 [(0, .long x0), (2, va_re aE o2)] → wB_X2_readsOf_18 post x0 o2 s0 → W p l e rm_X2_readsOf s m args below meth c H locs 0 0 (MQ below (va_Qi (S := Unit) (fun r _ => post r) (fun _ _ => True) A) args s 0 0 A) (F0 m 18 ls [.ref (aK s0)]) := by
  obtain ⟨hx, hb, hml, hr, hown, hts, hA, hlk, hE, vE⟩ := id C
  intro x0 o2 s0 H locs ls hG hl hw
  have hS := hG
  rcases o2 with _ | e_4
  · have hw := hw.1 rfl
    have hl : lv_has ls 8 [(0, .long x0), (2, .null)] := hl
    show W p l e rm_X2_readsOf s m args below meth c _ _ 0 0 (MQ below (va_Qi (S := Unit) (fun r _ => post r) (fun _ _ => True) A) args s 0 0 A) (F0 m 18 ls [.ref (aK s0)])
    refine lv_astore_n (lv' := [(3, .ref (aK s0)), (0, .long x0), (2, .null)]) hx hb dX2_readsOf_18 rfl hl (by decide) rfl (fun ls hl => ?_)
    refine lv_lload_n hx hb dX2_readsOf_19 rfl (lv_at hl 1 rfl) ?_
    refine sS_i (As := [.long x0]) (rest := []) C (met_X2_guardOf vE vM hw) (va_cwS 1 hts (TB_G (TB_3 tw_2_42 tw_2_43 tw_1_19) tw_2_44) rfl rfl rfl (by decide +kernel) ⟨by decide, by decide⟩) hS rfl hl.1 rfl (Nat.le_of_ble_eq_true rfl) dX2_readsOf_20 ⟨by decide, by decide⟩ (fun r_5 H locs hw hS => ?_)
    have hG := hS
    refine lv_istore (lv' := [(4, .int r_5), (3, .ref (aK s0)), (0, .long x0), (2, .null)]) hx hb dX2_readsOf_23 hl (by decide) rfl (fun ls hl => ?_)
    refine lv_iload hx hb dX2_readsOf_25 (lv_at hl 0 rfl) ?_
    refine lv_bipush (v := 8) hx hb dX2_readsOf_27 (by decide) ?_
    refine lv_icmp_ge (tgt := 36) hx hb dX2_readsOf_29 (by decide) (fun q_ => ?_) (fun q_ => ?_)
    · have hw := hw.1 q_
      refine lv_iconst (v := 1) hx hb dX2_readsOf_36 (by decide) ?_
      refine lv_bipush (v := 16) hx hb dX2_readsOf_37 (by decide) ?_
      refine lv_iload hx hb dX2_readsOf_39 (lv_at hl 0 rfl) ?_
      refine lv_iconst (v := 4) hx hb dX2_readsOf_41 (by decide) ?_
      refine lv_irem hx hb dX2_readsOf_42 (by decide) ?_
      refine lv_iadd hx hb dX2_readsOf_43 ?_
      refine lv_ishl hx hb dX2_readsOf_44 ?_
      exact kB_X2_readsOf_45 C vM x0 none s0 ((1 : Int32) <<< ((16 + (r_5 - r_5 / 4 * 4)) &&& 31)) _ _ _ hG (lv_sub hl [2, 3, 1] rfl) hw
    · have hw := hw.2 q_
      refine lv_iconst (v := 0) hx hb dX2_readsOf_32 (by decide) ?_
      refine lv_goto (tgt := 45) hx hb dX2_readsOf_33 (by decide) ?_
      exact kB_X2_readsOf_45 C vM x0 none s0 0 _ _ _ hG (lv_sub hl [2, 3, 1] rfl) hw
  · have hw := hw.2 e_4 rfl
    have hl : lv_has ls 8 [(0, .long x0), (2, .ref (aE e_4))] := hl
    show W p l e rm_X2_readsOf s m args below meth c _ _ 0 0 (MQ below (va_Qi (S := Unit) (fun r _ => post r) (fun _ _ => True) A) args s 0 0 A) (F0 m 18 ls [.ref (aK s0)])
    refine lv_astore_n (lv' := [(3, .ref (aK s0)), (0, .long x0), (2, .ref (aE e_4))]) hx hb dX2_readsOf_18 rfl hl (by decide) rfl (fun ls hl => ?_)
    refine lv_lload_n hx hb dX2_readsOf_19 rfl (lv_at hl 1 rfl) ?_
    refine sS_i (As := [.long x0]) (rest := []) C (met_X2_guardOf vE vM hw) (va_cwS 1 hts (TB_G (TB_3 tw_2_42 tw_2_43 tw_1_19) tw_2_44) rfl rfl rfl (by decide +kernel) ⟨by decide, by decide⟩) hS rfl hl.1 rfl (Nat.le_of_ble_eq_true rfl) dX2_readsOf_20 ⟨by decide, by decide⟩ (fun r_34 H locs hw hS => ?_)
    have hG := hS
    refine lv_istore (lv' := [(4, .int r_34), (3, .ref (aK s0)), (0, .long x0), (2, .ref (aE e_4))]) hx hb dX2_readsOf_23 hl (by decide) rfl (fun ls hl => ?_)
    refine lv_iload hx hb dX2_readsOf_25 (lv_at hl 0 rfl) ?_
    refine lv_bipush (v := 8) hx hb dX2_readsOf_27 (by decide) ?_
    refine lv_icmp_ge (tgt := 36) hx hb dX2_readsOf_29 (by decide) (fun q_ => ?_) (fun q_ => ?_)
    · have hw := hw.1 q_
      refine lv_iconst (v := 1) hx hb dX2_readsOf_36 (by decide) ?_
      refine lv_bipush (v := 16) hx hb dX2_readsOf_37 (by decide) ?_
      refine lv_iload hx hb dX2_readsOf_39 (lv_at hl 0 rfl) ?_
      refine lv_iconst (v := 4) hx hb dX2_readsOf_41 (by decide) ?_
      refine lv_irem hx hb dX2_readsOf_42 (by decide) ?_
      refine lv_iadd hx hb dX2_readsOf_43 ?_
      refine lv_ishl hx hb dX2_readsOf_44 ?_
      exact kB_X2_readsOf_45 C vM x0 (some e_4) s0 ((1 : Int32) <<< ((16 + (r_34 - r_34 / 4 * 4)) &&& 31)) _ _ _ hG (lv_sub hl [2, 3, 1] rfl) hw
    · have hw := hw.2 q_
      refine lv_iconst (v := 0) hx hb dX2_readsOf_32 (by decide) ?_
      refine lv_goto (tgt := 45) hx hb dX2_readsOf_33 (by decide) ?_
      exact kB_X2_readsOf_45 C vM x0 (some e_4) s0 0 _ _ _ hG (lv_sub hl [2, 3, 1] rfl) hw
set_option maxHeartbeats 4000000 in
set_option maxRecDepth 100000 in
theorem k_X2_readsOf {p : Program} {l : Launch} {e : Env} {s : State} {m : MethodId} {args : Array Value} {below : List Frame} {meth : Method} {c : Code} {A : Nat → Prop} {E : EnvT} {aK aV aE : Nat → Nat} {aO : Nat} (C : sCx p s m args meth c cX2_readsOf 8 (some .int) wgX2_readsOf RX2 E A) (vM : eXs aK aV aE aO E) {post : Int32 → Prop} :
    ∀ (x0 : Int64) (H : Heap) (locs : List Loc) (ls : Array Slot), va_S A s.heap H locs → lv_has ls 8 [(0, .long x0)] → wp_X2_readsOf post x0 → W p l e rm_X2_readsOf s m args below meth c H locs 0 0 (MQ below (va_Qi (S := Unit) (fun r _ => post r) (fun _ _ => True) A) args s 0 0 A) (F0 m 0 ls []) := by
  obtain ⟨hx, hb, hml, hr, hown, hts, hA, hlk, hE, vE⟩ := id C
  intro x0 H locs ls hG hl hw
  have hS := hG
  refine lv_lload_n hx hb dX2_readsOf_0 rfl (lv_at hl 0 rfl) ?_
  refine sS_e (As := [.long x0]) (rest := []) C (met_X2_listed vE vM hw) (va_cwS 1 hts (TB_G (TB_3 tw_2_119 tw_2_120 tw_1_19) tw_2_121) rfl rfl rfl (by decide +kernel) ⟨by decide, by decide⟩) hS rfl hl.1 rfl (Nat.le_of_ble_eq_true rfl) dX2_readsOf_1 ⟨by decide, by decide⟩ (fun r_1 H locs hw hS => ?_)
  have hG := hS
  rcases r_1 with _ | e_3
  · have hw := hw.1 rfl
    show W p l e rm_X2_readsOf s m args below meth c _ _ 0 0 (MQ below (va_Qi (S := Unit) (fun r _ => post r) (fun _ _ => True) A) args s 0 0 A) (F0 m 4 ls [.null])
    refine lv_astore_nN (lv' := [(2, .null), (0, .long x0)]) hx hb dX2_readsOf_4 rfl hl (by decide) rfl (fun ls hl => ?_)
    refine lv_aload_nN hx hb dX2_readsOf_5 rfl (lv_at hl 0 rfl) ?_
    refine lv_ifnonnullN hx hb dX2_readsOf_6 ?_
    refine va_ldcS hx hb hown (eX.sg_2_226 (vM _ _ _ hE)) dX2_readsOf_9 ?_
    refine lv_goto (tgt := 18) hx hb dX2_readsOf_11 (by decide) ?_
    exact kB_X2_readsOf_18 C vM x0 none 1 _ _ _ hG (lv_sub hl [1, 0] rfl) hw
  · have hw := hw.2 e_3 rfl
    show W p l e rm_X2_readsOf s m args below meth c _ _ 0 0 (MQ below (va_Qi (S := Unit) (fun r _ => post r) (fun _ _ => True) A) args s 0 0 A) (F0 m 4 ls [.ref (aE e_3)])
    refine lv_astore_n (lv' := [(2, .ref (aE e_3)), (0, .long x0)]) hx hb dX2_readsOf_4 rfl hl (by decide) rfl (fun ls hl => ?_)
    refine lv_aload_n hx hb dX2_readsOf_5 rfl (lv_at hl 0 rfl) ?_
    refine lv_ifnonnull (tgt := 14) hx hb dX2_readsOf_6 (by decide) ?_
    refine lv_aload_n hx hb dX2_readsOf_14 rfl (lv_at hl 0 rfl) ?_
    obtain ⟨h_36, hw⟩ := hw
    refine vk_getf hx hb (eX.o_parts (vM _ _ _ hE) h_36) hS hown (hts _ (List.mem_cons_of_mem _ tw_6_234)) (fun _ h => h) dX2_readsOf_15 ?_
    exact kB_X2_readsOf_18 C vM x0 (some e_3) (pxI e_3) _ _ _ hG (lv_sub hl [1, 0] rfl) hw
set_option maxHeartbeats 4000000 in
set_option maxRecDepth 100000 in
theorem met_X2_readsOf {l : Launch} {E : EnvT} (vE : EnvOk E) {aK aV aE : Nat → Nat} {aO : Nat} (vM : eXs aK aV aE aO E) {sz : Nat} {x0 : Int64} {post : Int32 → Prop} (hw : wp_X2_readsOf post x0) : Met l yX2_readsOf wgX2_readsOf rm_X2_readsOf (va_Pc [.long x0] (sPre E sz)) (va_Qi (S := Unit) (fun r _ => post r) (fun _ _ => True) (va_A [] sz)) 0 0 (va_A [] sz) := by
  refine Met.ofW (cc := cX2_readsOf) (maxL := 8) (ret := (some .int)) (by decide +kernel) rfl ?_
  intro p e s m args below meth c s₁ B hml hv
  obtain ⟨rfl, hsz, hE⟩ := hv
  subst hsz
  generalize hAe : va_A [] s.heap.size = A at hE ⊢
  have hA : ∀ q : Nat, s.heap.size ≤ q → A q := fun q h => by rw [← hAe]; exact Or.inr h
  have hS : va_S A s.heap s.heap [] := va_S.rf
  have C : sCx p s m _ meth c cX2_readsOf 8 (some .int) wgX2_readsOf RX2 E A := ⟨B.exec, B.bytes, hml, B.returns, findClass_of_methodNamed B.named, atoms_spec (ws := wgX2_readsOf) B.pre, hA, B.notSynchronized, hE, vE⟩
  have hG := hS
  have hl := lv_entry ([.long x0]) (n := 8) (Nat.le_of_ble_eq_true rfl)
  rw [lg_entry_eq]
  generalize (lg_sl ([.long x0]) ++ List.replicate (8 - (lg_sl ([.long x0])).length) Slot.unset).toArray = ls at hl ⊢
  have hl : lv_has ls 8 [(0, .long x0)] := hl
  exact k_X2_readsOf C vM x0 _ _ _ hG hl hw
/-! ===== X2_writesOf  ===== -/
def rm_X2_writesOf : Room := { frames := 4, cells := 0, slots := 0, locals := 91 }
abbrev wgX2_writesOf : List Cond := .code yX2_writesOf cX2_writesOf 4 (some .int) :: TB
def wB_X2_writesOf_54 (post : Int32 → Prop) (t0 : Int32) : Prop :=
  post t0
def wB_X2_writesOf_18 (post : Int32 → Prop) (x0 : Int64) (s0 : Nat) : Prop :=
  s0 < nX ∧ wp_J0_indexOf_0f7a4 (fun r_4  => (r_4 < 0 → (s0 < nX ∧ wp_J0_indexOf_0f7a4 (fun r_6  => (r_6 < 0 → (wB_X2_writesOf_54 post 0)) ∧ (¬ r_6 < 0 → (wp_X2_bitOf (fun r_8  => wB_X2_writesOf_54 post r_8) 68 x0))) s0 68)) ∧ (¬ r_4 < 0 → (wp_X2_bitOf (fun r_11  => post r_11) 100 x0))) s0 100
def wp_X2_writesOf (post : Int32 → Prop) (x0 : Int64) : Prop :=
  wp_X2_listed (fun r_1  => (r_1 = none → (wB_X2_writesOf_18 post x0 1)) ∧ (∀ e_3 : Nat, r_1 = some e_3 → (e_3 < 53 ∧ (wB_X2_writesOf_18 post x0 (pxI e_3))))) x0
set_option maxHeartbeats 4000000 in
set_option maxRecDepth 100000 in
theorem kB_X2_writesOf_54 {p : Program} {l : Launch} {e : Env} {s : State} {m : MethodId} {args : Array Value} {below : List Frame} {meth : Method} {c : Code} {A : Nat → Prop} {E : EnvT} {aK aV aE : Nat → Nat} {aO : Nat} (C : sCx p s m args meth c cX2_writesOf 4 (some .int) wgX2_writesOf RX2 E A) (vM : eXs aK aV aE aO E) {post : Int32 → Prop} :
    ∀ (t0 : Int32) (H : Heap) (locs : List Loc) (ls : Array Slot), va_S A s.heap H locs → lv_has ls 4 [] → wB_X2_writesOf_54 post t0 → W p l e rm_X2_writesOf s m args below meth c H locs 0 0 (MQ below (va_Qi (S := Unit) (fun r _ => post r) (fun _ _ => True) A) args s 0 0 A) (F0 m 54 ls [.int t0]) := by
  obtain ⟨hx, hb, hml, hr, hown, hts, hA, hlk, hE, vE⟩ := id C
  intro t0 H locs ls hG hl hw
  have hS := hG
  exact W.iret (v := t0) hx hb hr (fun t ht hW => ⟨⟨_, (), rfl, hw, trivial⟩, hS.F ht⟩) hS.2.2 dX2_writesOf_54 hlk
set_option maxHeartbeats 4000000 in
set_option maxRecDepth 100000 in
theorem kB_X2_writesOf_18 {p : Program} {l : Launch} {e : Env} {s : State} {m : MethodId} {args : Array Value} {below : List Frame} {meth : Method} {c : Code} {A : Nat → Prop} {E : EnvT} {aK aV aE : Nat → Nat} {aO : Nat} (C : sCx p s m args meth c cX2_writesOf 4 (some .int) wgX2_writesOf RX2 E A) (vM : eXs aK aV aE aO E) {post : Int32 → Prop} :
    ∀ (x0 : Int64) (s0 : Nat) (H : Heap) (locs : List Loc) (ls : Array Slot), va_S A s.heap H locs → lv_has ls 4 [(0, .long x0)] → wB_X2_writesOf_18 post x0 s0 → W p l e rm_X2_writesOf s m args below meth c H locs 0 0 (MQ below (va_Qi (S := Unit) (fun r _ => post r) (fun _ _ => True) A) args s 0 0 A) (F0 m 18 ls [.ref (aK s0)]) := by
  obtain ⟨hx, hb, hml, hr, hown, hts, hA, hlk, hE, vE⟩ := id C
  intro x0 s0 H locs ls hG hl hw
  have hS := hG
  refine lv_astore_n (lv' := [(3, .ref (aK s0)), (0, .long x0)]) hx hb dX2_writesOf_18 rfl hl (by decide) rfl (fun ls hl => ?_)
  refine lv_aload_n hx hb dX2_writesOf_19 rfl (lv_at hl 0 rfl) ?_
  refine lv_bipush (v := 100) hx hb dX2_writesOf_20 (by decide) ?_
  obtain ⟨h_13, hw⟩ := hw
  refine sO_i (As := [.int 100]) (rest := []) C (met_J0_indexOf_0f7a4 vE vM hw) (va_Orecv (eX.s_obj (vM _ _ _ hE) h_13) hS) (cwV 1 hts (TB_G (TB_4 tw_2_134 tw_2_135 tw_2_136 tw_1_11) tw_2_137) rfl rfl rfl (by decide +kernel) ⟨by decide, by decide⟩) hS rfl hl.1 rfl (Nat.le_of_ble_eq_true rfl) dX2_writesOf_22 ⟨by decide, by decide⟩ (fun r_4 H locs hw hS => ?_)
  have hG := hS
  refine lv_if_lt (tgt := 35) hx hb dX2_writesOf_25 (by decide) (fun q_ => ?_) (fun q_ => ?_)
  · have hw := hw.1 q_
    refine lv_aload_n hx hb dX2_writesOf_35 rfl (lv_at hl 0 rfl) ?_
    refine lv_bipush (v := 68) hx hb dX2_writesOf_36 (by decide) ?_
    obtain ⟨h_10, hw⟩ := hw
    refine sO_i (As := [.int 68]) (rest := []) C (met_J0_indexOf_0f7a4 vE vM hw) (va_Orecv (eX.s_obj (vM _ _ _ hE) h_10) hS) (cwV 1 hts (TB_G (TB_4 tw_2_134 tw_2_135 tw_2_136 tw_1_11) tw_2_137) rfl rfl rfl (by decide +kernel) ⟨by decide, by decide⟩) hS rfl hl.1 rfl (Nat.le_of_ble_eq_true rfl) dX2_writesOf_38 ⟨by decide, by decide⟩ (fun r_6 H locs hw hS => ?_)
    have hG := hS
    refine lv_if_lt (tgt := 53) hx hb dX2_writesOf_41 (by decide) (fun q_ => ?_) (fun q_ => ?_)
    · have hw := hw.1 q_
      refine lv_iconst (v := 0) hx hb dX2_writesOf_53 (by decide) ?_
      exact kB_X2_writesOf_54 C vM 0 _ _ _ hG (lv_sub hl [] rfl) hw
    · have hw := hw.2 q_
      refine lv_bipush (v := 68) hx hb dX2_writesOf_44 (by decide) ?_
      refine lv_lload_n hx hb dX2_writesOf_46 rfl (lv_at hl 1 rfl) ?_
      refine sS_i (As := [.int 68, .long x0]) (rest := []) C (met_X2_bitOf vE vM hw) (va_cwS 2 hts (TB_G (TB_3 tw_2_123 tw_2_124 tw_1_19) tw_2_125) rfl rfl rfl (by decide +kernel) ⟨by decide, by decide⟩) hS rfl hl.1 rfl (Nat.le_of_ble_eq_true rfl) dX2_writesOf_47 ⟨by decide, by decide⟩ (fun r_8 H locs hw hS => ?_)
      have hG := hS
      refine lv_goto (tgt := 54) hx hb dX2_writesOf_50 (by decide) ?_
      exact kB_X2_writesOf_54 C vM r_8 _ _ _ hG (lv_sub hl [] rfl) hw
  · have hw := hw.2 q_
    refine lv_bipush (v := 100) hx hb dX2_writesOf_28 (by decide) ?_
    refine lv_lload_n hx hb dX2_writesOf_30 rfl (lv_at hl 1 rfl) ?_
    refine sS_i (As := [.int 100, .long x0]) (rest := []) C (met_X2_bitOf vE vM hw) (va_cwS 2 hts (TB_G (TB_3 tw_2_123 tw_2_124 tw_1_19) tw_2_125) rfl rfl rfl (by decide +kernel) ⟨by decide, by decide⟩) hS rfl hl.1 rfl (Nat.le_of_ble_eq_true rfl) dX2_writesOf_31 ⟨by decide, by decide⟩ (fun r_11 H locs hw hS => ?_)
    have hG := hS
    exact W.iret (v := r_11) hx hb hr (fun t ht hW => ⟨⟨_, (), rfl, hw, trivial⟩, hS.F ht⟩) hS.2.2 dX2_writesOf_34 hlk
set_option maxHeartbeats 4000000 in
set_option maxRecDepth 100000 in
theorem k_X2_writesOf {p : Program} {l : Launch} {e : Env} {s : State} {m : MethodId} {args : Array Value} {below : List Frame} {meth : Method} {c : Code} {A : Nat → Prop} {E : EnvT} {aK aV aE : Nat → Nat} {aO : Nat} (C : sCx p s m args meth c cX2_writesOf 4 (some .int) wgX2_writesOf RX2 E A) (vM : eXs aK aV aE aO E) {post : Int32 → Prop} :
    ∀ (x0 : Int64) (H : Heap) (locs : List Loc) (ls : Array Slot), va_S A s.heap H locs → lv_has ls 4 [(0, .long x0)] → wp_X2_writesOf post x0 → W p l e rm_X2_writesOf s m args below meth c H locs 0 0 (MQ below (va_Qi (S := Unit) (fun r _ => post r) (fun _ _ => True) A) args s 0 0 A) (F0 m 0 ls []) := by
  obtain ⟨hx, hb, hml, hr, hown, hts, hA, hlk, hE, vE⟩ := id C
  intro x0 H locs ls hG hl hw
  have hS := hG
  refine lv_lload_n hx hb dX2_writesOf_0 rfl (lv_at hl 0 rfl) ?_
  refine sS_e (As := [.long x0]) (rest := []) C (met_X2_listed vE vM hw) (va_cwS 1 hts (TB_G (TB_3 tw_2_119 tw_2_120 tw_1_19) tw_2_121) rfl rfl rfl (by decide +kernel) ⟨by decide, by decide⟩) hS rfl hl.1 rfl (Nat.le_of_ble_eq_true rfl) dX2_writesOf_1 ⟨by decide, by decide⟩ (fun r_1 H locs hw hS => ?_)
  have hG := hS
  rcases r_1 with _ | e_3
  · have hw := hw.1 rfl
    show W p l e rm_X2_writesOf s m args below meth c _ _ 0 0 (MQ below (va_Qi (S := Unit) (fun r _ => post r) (fun _ _ => True) A) args s 0 0 A) (F0 m 4 ls [.null])
    refine lv_astore_nN (lv' := [(2, .null), (0, .long x0)]) hx hb dX2_writesOf_4 rfl hl (by decide) rfl (fun ls hl => ?_)
    refine lv_aload_nN hx hb dX2_writesOf_5 rfl (lv_at hl 0 rfl) ?_
    refine lv_ifnonnullN hx hb dX2_writesOf_6 ?_
    refine va_ldcS hx hb hown (eX.sg_2_226 (vM _ _ _ hE)) dX2_writesOf_9 ?_
    refine lv_goto (tgt := 18) hx hb dX2_writesOf_11 (by decide) ?_
    exact kB_X2_writesOf_18 C vM x0 1 _ _ _ hG (lv_sub hl [1] rfl) hw
  · have hw := hw.2 e_3 rfl
    show W p l e rm_X2_writesOf s m args below meth c _ _ 0 0 (MQ below (va_Qi (S := Unit) (fun r _ => post r) (fun _ _ => True) A) args s 0 0 A) (F0 m 4 ls [.ref (aE e_3)])
    refine lv_astore_n (lv' := [(2, .ref (aE e_3)), (0, .long x0)]) hx hb dX2_writesOf_4 rfl hl (by decide) rfl (fun ls hl => ?_)
    refine lv_aload_n hx hb dX2_writesOf_5 rfl (lv_at hl 0 rfl) ?_
    refine lv_ifnonnull (tgt := 14) hx hb dX2_writesOf_6 (by decide) ?_
    refine lv_aload_n hx hb dX2_writesOf_14 rfl (lv_at hl 0 rfl) ?_
    obtain ⟨h_14, hw⟩ := hw
    refine vk_getf hx hb (eX.o_parts (vM _ _ _ hE) h_14) hS hown (hts _ (List.mem_cons_of_mem _ tw_6_234)) (fun _ h => h) dX2_writesOf_15 ?_
    exact kB_X2_writesOf_18 C vM x0 (pxI e_3) _ _ _ hG (lv_sub hl [1] rfl) hw
set_option maxHeartbeats 4000000 in
set_option maxRecDepth 100000 in
theorem met_X2_writesOf {l : Launch} {E : EnvT} (vE : EnvOk E) {aK aV aE : Nat → Nat} {aO : Nat} (vM : eXs aK aV aE aO E) {sz : Nat} {x0 : Int64} {post : Int32 → Prop} (hw : wp_X2_writesOf post x0) : Met l yX2_writesOf wgX2_writesOf rm_X2_writesOf (va_Pc [.long x0] (sPre E sz)) (va_Qi (S := Unit) (fun r _ => post r) (fun _ _ => True) (va_A [] sz)) 0 0 (va_A [] sz) := by
  refine Met.ofW (cc := cX2_writesOf) (maxL := 4) (ret := (some .int)) (by decide +kernel) rfl ?_
  intro p e s m args below meth c s₁ B hml hv
  obtain ⟨rfl, hsz, hE⟩ := hv
  subst hsz
  generalize hAe : va_A [] s.heap.size = A at hE ⊢
  have hA : ∀ q : Nat, s.heap.size ≤ q → A q := fun q h => by rw [← hAe]; exact Or.inr h
  have hS : va_S A s.heap s.heap [] := va_S.rf
  have C : sCx p s m _ meth c cX2_writesOf 4 (some .int) wgX2_writesOf RX2 E A := ⟨B.exec, B.bytes, hml, B.returns, findClass_of_methodNamed B.named, atoms_spec (ws := wgX2_writesOf) B.pre, hA, B.notSynchronized, hE, vE⟩
  have hG := hS
  have hl := lv_entry ([.long x0]) (n := 4) (Nat.le_of_ble_eq_true rfl)
  rw [lg_entry_eq]
  generalize (lg_sl ([.long x0]) ++ List.replicate (4 - (lg_sl ([.long x0])).length) Slot.unset).toArray = ls at hl ⊢
  have hl : lv_has ls 4 [(0, .long x0)] := hl
  exact k_X2_writesOf C vM x0 _ _ _ hG hl hw
/-! ===== X2_isGuarded  ===== -/
def rm_X2_isGuarded : Room := { frames := 0, cells := 0, slots := 0, locals := 0 }
abbrev wgX2_isGuarded : List Cond := .code yX2_isGuarded cX2_isGuarded 2 (some .boolean) :: TB
def wB_X2_isGuarded_18 (post : Int32 → Prop) (t0 : Int32) : Prop :=
  isB t0 ∧ (post t0)
def wp_X2_isGuarded (post : Int32 → Prop) (x0 : Int64) : Prop :=
  (((x0 >>> ((20 : Int32).toInt64 &&& 63)) &&& 15) = 0 → (wB_X2_isGuarded_18 post 0)) ∧ (¬ ((x0 >>> ((20 : Int32).toInt64 &&& 63)) &&& 15) = 0 → (wB_X2_isGuarded_18 post 1))
set_option maxHeartbeats 4000000 in
set_option maxRecDepth 100000 in
theorem kB_X2_isGuarded_18 {p : Program} {l : Launch} {e : Env} {s : State} {m : MethodId} {args : Array Value} {below : List Frame} {meth : Method} {c : Code} {A : Nat → Prop} {E : EnvT} {aK aV aE : Nat → Nat} {aO : Nat} (C : sCx p s m args meth c cX2_isGuarded 2 (some .boolean) wgX2_isGuarded RX2 E A) (vM : eXs aK aV aE aO E) {post : Int32 → Prop} :
    ∀ (t0 : Int32) (H : Heap) (locs : List Loc) (ls : Array Slot), va_S A s.heap H locs → lv_has ls 2 [] → wB_X2_isGuarded_18 post t0 → W p l e rm_X2_isGuarded s m args below meth c H locs 0 0 (MQ below (va_Qi (S := Unit) (fun r _ => post r) (fun _ _ => True) A) args s 0 0 A) (F0 m 18 ls [.int t0]) := by
  obtain ⟨hx, hb, hml, hr, hown, hts, hA, hlk, hE, vE⟩ := id C
  intro t0 H locs ls hG hl hw
  have hS := hG
  obtain ⟨h_1, hw⟩ := hw
  exact W.zret (v := t0) (ty := .boolean) hx hb hr (isB.n h_1) (fun t ht hW => ⟨⟨_, (), rfl, hw, trivial⟩, hS.F ht⟩) hS.2.2 dX2_isGuarded_18 hlk
set_option maxHeartbeats 4000000 in
set_option maxRecDepth 100000 in
theorem k_X2_isGuarded {p : Program} {l : Launch} {e : Env} {s : State} {m : MethodId} {args : Array Value} {below : List Frame} {meth : Method} {c : Code} {A : Nat → Prop} {E : EnvT} {aK aV aE : Nat → Nat} {aO : Nat} (C : sCx p s m args meth c cX2_isGuarded 2 (some .boolean) wgX2_isGuarded RX2 E A) (vM : eXs aK aV aE aO E) {post : Int32 → Prop} :
    ∀ (x0 : Int64) (H : Heap) (locs : List Loc) (ls : Array Slot), va_S A s.heap H locs → lv_has ls 2 [(0, .long x0)] → wp_X2_isGuarded post x0 → W p l e rm_X2_isGuarded s m args below meth c H locs 0 0 (MQ below (va_Qi (S := Unit) (fun r _ => post r) (fun _ _ => True) A) args s 0 0 A) (F0 m 0 ls []) := by
  obtain ⟨hx, hb, hml, hr, hown, hts, hA, hlk, hE, vE⟩ := id C
  intro x0 H locs ls hG hl hw
  have hS := hG
  refine lv_lload_n hx hb dX2_isGuarded_0 rfl (lv_at hl 0 rfl) ?_
  refine lv_bipush (v := 20) hx hb dX2_isGuarded_1 (by decide) ?_
  refine lv_lshr hx hb dX2_isGuarded_3 rfl ?_
  refine lv_ldc2 (v := 15) hx hb hown (hts _ (List.mem_cons_of_mem _ tw_2_45)) dX2_isGuarded_4 ?_
  refine lv_land hx hb dX2_isGuarded_7 ?_
  refine lv_lconst (v := 0) hx hb dX2_isGuarded_8 (by decide) ?_
  refine W.lcmp hx hb dX2_isGuarded_9 ?_
  refine lv_if_eq (tgt := 17) hx hb dX2_isGuarded_10 (by decide) (fun q_ => ?_) (fun q_ => ?_)
  · have hw := hw.1 (lc_eq.mp q_)
    refine lv_iconst (v := 0) hx hb dX2_isGuarded_17 (by decide) ?_
    exact kB_X2_isGuarded_18 C vM 0 _ _ _ hG (lv_sub hl [] rfl) hw
  · have hw := hw.2 (fun z => q_ (lc_eq.mpr z))
    refine lv_iconst (v := 1) hx hb dX2_isGuarded_13 (by decide) ?_
    refine lv_goto (tgt := 18) hx hb dX2_isGuarded_14 (by decide) ?_
    exact kB_X2_isGuarded_18 C vM 1 _ _ _ hG (lv_sub hl [] rfl) hw
set_option maxHeartbeats 4000000 in
set_option maxRecDepth 100000 in
theorem met_X2_isGuarded {l : Launch} {E : EnvT} (vE : EnvOk E) {aK aV aE : Nat → Nat} {aO : Nat} (vM : eXs aK aV aE aO E) {sz : Nat} {x0 : Int64} {post : Int32 → Prop} (hw : wp_X2_isGuarded post x0) : Met l yX2_isGuarded wgX2_isGuarded rm_X2_isGuarded (va_Pc [.long x0] (sPre E sz)) (va_Qi (S := Unit) (fun r _ => post r) (fun _ _ => True) (va_A [] sz)) 0 0 (va_A [] sz) := by
  refine Met.ofW (cc := cX2_isGuarded) (maxL := 2) (ret := (some .boolean)) (by decide +kernel) rfl ?_
  intro p e s m args below meth c s₁ B hml hv
  obtain ⟨rfl, hsz, hE⟩ := hv
  subst hsz
  generalize hAe : va_A [] s.heap.size = A at hE ⊢
  have hA : ∀ q : Nat, s.heap.size ≤ q → A q := fun q h => by rw [← hAe]; exact Or.inr h
  have hS : va_S A s.heap s.heap [] := va_S.rf
  have C : sCx p s m _ meth c cX2_isGuarded 2 (some .boolean) wgX2_isGuarded RX2 E A := ⟨B.exec, B.bytes, hml, B.returns, findClass_of_methodNamed B.named, atoms_spec (ws := wgX2_isGuarded) B.pre, hA, B.notSynchronized, hE, vE⟩
  have hG := hS
  have hl := lv_entry ([.long x0]) (n := 2) (Nat.le_of_ble_eq_true rfl)
  rw [lg_entry_eq]
  generalize (lg_sl ([.long x0]) ++ List.replicate (2 - (lg_sl ([.long x0])).length) Slot.unset).toArray = ls at hl ⊢
  have hl : lv_has ls 2 [(0, .long x0)] := hl
  exact k_X2_isGuarded C vM x0 _ _ _ hG hl hw
/-! ===== X2_isJump op ===== -/
def rm_X2_isJump : Room := { frames := 0, cells := 0, slots := 0, locals := 0 }
abbrev wgX2_isJump : List Cond := .code yX2_isJump cX2_isJump 1 (some .boolean) :: TB
def wB_X2_isJump_19 (post : Int32 → Prop) (t0 : Int32) : Prop :=
  isB t0 ∧ (post t0)
def wB_X2_isJump_14 (post : Int32 → Prop) : Prop :=
  wB_X2_isJump_19 post 1
def wp_X2_isJump (post : Int32 → Prop) (e0 : Nat) : Prop :=
  e0 < 53 ∧ ((e0 = 36 → (wB_X2_isJump_14 post)) ∧ (¬ e0 = 36 → (e0 < 53 ∧ ((e0 = 37 → (wB_X2_isJump_14 post)) ∧ (¬ e0 = 37 → (wB_X2_isJump_19 post 0))))))
set_option maxHeartbeats 4000000 in
set_option maxRecDepth 100000 in
theorem kB_X2_isJump_19 {p : Program} {l : Launch} {e : Env} {s : State} {m : MethodId} {args : Array Value} {below : List Frame} {meth : Method} {c : Code} {A : Nat → Prop} {E : EnvT} {aK aV aE : Nat → Nat} {aO : Nat} (C : sCx p s m args meth c cX2_isJump 1 (some .boolean) wgX2_isJump RX2 E A) (vM : eXs aK aV aE aO E) {post : Int32 → Prop} :
    ∀ (t0 : Int32) (H : Heap) (locs : List Loc) (ls : Array Slot), va_S A s.heap H locs → lv_has ls 1 [] → wB_X2_isJump_19 post t0 → W p l e rm_X2_isJump s m args below meth c H locs 0 0 (MQ below (va_Qi (S := Unit) (fun r _ => post r) (fun _ _ => True) A) args s 0 0 A) (F0 m 19 ls [.int t0]) := by
  obtain ⟨hx, hb, hml, hr, hown, hts, hA, hlk, hE, vE⟩ := id C
  intro t0 H locs ls hG hl hw
  have hS := hG
  obtain ⟨h_1, hw⟩ := hw
  exact W.zret (v := t0) (ty := .boolean) hx hb hr (isB.n h_1) (fun t ht hW => ⟨⟨_, (), rfl, hw, trivial⟩, hS.F ht⟩) hS.2.2 dX2_isJump_19 hlk
set_option maxHeartbeats 4000000 in
set_option maxRecDepth 100000 in
theorem kB_X2_isJump_14 {p : Program} {l : Launch} {e : Env} {s : State} {m : MethodId} {args : Array Value} {below : List Frame} {meth : Method} {c : Code} {A : Nat → Prop} {E : EnvT} {aK aV aE : Nat → Nat} {aO : Nat} (C : sCx p s m args meth c cX2_isJump 1 (some .boolean) wgX2_isJump RX2 E A) (vM : eXs aK aV aE aO E) {post : Int32 → Prop} :
    ∀ (H : Heap) (locs : List Loc) (ls : Array Slot), va_S A s.heap H locs → lv_has ls 1 [] → wB_X2_isJump_14 post → W p l e rm_X2_isJump s m args below meth c H locs 0 0 (MQ below (va_Qi (S := Unit) (fun r _ => post r) (fun _ _ => True) A) args s 0 0 A) (F0 m 14 ls []) := by
  obtain ⟨hx, hb, hml, hr, hown, hts, hA, hlk, hE, vE⟩ := id C
  intro H locs ls hG hl hw
  have hS := hG
  refine lv_iconst (v := 1) hx hb dX2_isJump_14 (by decide) ?_
  refine lv_goto (tgt := 19) hx hb dX2_isJump_15 (by decide) ?_
  exact kB_X2_isJump_19 C vM 1 _ _ _ hG (lv_sub hl [] rfl) hw
set_option maxHeartbeats 4000000 in
set_option maxRecDepth 100000 in
theorem k_X2_isJump {p : Program} {l : Launch} {e : Env} {s : State} {m : MethodId} {args : Array Value} {below : List Frame} {meth : Method} {c : Code} {A : Nat → Prop} {E : EnvT} {aK aV aE : Nat → Nat} {aO : Nat} (C : sCx p s m args meth c cX2_isJump 1 (some .boolean) wgX2_isJump RX2 E A) (vM : eXs aK aV aE aO E) {post : Int32 → Prop} :
    ∀ (e0 : Nat) (H : Heap) (locs : List Loc) (ls : Array Slot), va_S A s.heap H locs → lv_has ls 1 [(0, .ref (aE e0))] → wp_X2_isJump post e0 → W p l e rm_X2_isJump s m args below meth c H locs 0 0 (MQ below (va_Qi (S := Unit) (fun r _ => post r) (fun _ _ => True) A) args s 0 0 A) (F0 m 0 ls []) := by
  obtain ⟨hx, hb, hml, hr, hown, hts, hA, hlk, hE, vE⟩ := id C
  intro e0 H locs ls hG hl hw
  have hS := hG
  refine lv_aload_n hx hb dX2_isJump_0 rfl (lv_at hl 0 rfl) ?_
  refine va_gets hx hb (eX.c_GO (vM _ _ _ hE)) hS hown (hts _ (List.mem_cons_of_mem _ tw_4_45)) (fun _ h => h) dX2_isJump_1 ?_
  obtain ⟨h_3, hw⟩ := hw
  refine lv_acmp_eq (rx := some (aE e0)) (ry := some (aE 36)) (tgt := 14) hx hb dX2_isJump_4 (by decide) (fun q_ => ?_) (fun q_ => ?_)
  · have hw := hw.1 (op_in vM hE h_3 (by decide) q_)
    exact kB_X2_isJump_14 C vM  _ _ _ hG (lv_sub hl [] rfl) hw
  · have hw := hw.2 (fun z => q_ (op_eq z))
    refine lv_aload_n hx hb dX2_isJump_7 rfl (lv_at hl 0 rfl) ?_
    refine va_gets hx hb (eX.c_CALL (vM _ _ _ hE)) hS hown (hts _ (List.mem_cons_of_mem _ tw_4_47)) (fun _ h => h) dX2_isJump_8 ?_
    obtain ⟨h_2, hw⟩ := hw
    refine lv_acmp_ne (rx := some (aE e0)) (ry := some (aE 37)) (tgt := 18) hx hb dX2_isJump_11 (by decide) (fun q_ => ?_) (fun q_ => ?_)
    · have hw := hw.2 (fun z => q_ (op_eq z))
      refine lv_iconst (v := 0) hx hb dX2_isJump_18 (by decide) ?_
      exact kB_X2_isJump_19 C vM 0 _ _ _ hG (lv_sub hl [] rfl) hw
    · have hw := hw.1 (op_in vM hE h_2 (by decide) q_)
      exact kB_X2_isJump_14 C vM  _ _ _ hG (lv_sub hl [] rfl) hw
set_option maxHeartbeats 4000000 in
set_option maxRecDepth 100000 in
theorem met_X2_isJump {l : Launch} {E : EnvT} (vE : EnvOk E) {aK aV aE : Nat → Nat} {aO : Nat} (vM : eXs aK aV aE aO E) {sz : Nat} {e0 : Nat} {post : Int32 → Prop} (hw : wp_X2_isJump post e0) : Met l yX2_isJump wgX2_isJump rm_X2_isJump (va_Pc [.ref (aE e0)] (sPre E sz)) (va_Qi (S := Unit) (fun r _ => post r) (fun _ _ => True) (va_A [] sz)) 0 0 (va_A [] sz) := by
  refine Met.ofW (cc := cX2_isJump) (maxL := 1) (ret := (some .boolean)) (by decide +kernel) rfl ?_
  intro p e s m args below meth c s₁ B hml hv
  obtain ⟨rfl, hsz, hE⟩ := hv
  subst hsz
  generalize hAe : va_A [] s.heap.size = A at hE ⊢
  have hA : ∀ q : Nat, s.heap.size ≤ q → A q := fun q h => by rw [← hAe]; exact Or.inr h
  have hS : va_S A s.heap s.heap [] := va_S.rf
  have C : sCx p s m _ meth c cX2_isJump 1 (some .boolean) wgX2_isJump RX2 E A := ⟨B.exec, B.bytes, hml, B.returns, findClass_of_methodNamed B.named, atoms_spec (ws := wgX2_isJump) B.pre, hA, B.notSynchronized, hE, vE⟩
  have hG := hS
  have hl := lv_entry ([.ref (aE e0)]) (n := 1) (Nat.le_of_ble_eq_true rfl)
  rw [lg_entry_eq]
  generalize (lg_sl ([.ref (aE e0)]) ++ List.replicate (1 - (lg_sl ([.ref (aE e0)])).length) Slot.unset).toArray = ls at hl ⊢
  have hl : lv_has ls 1 [(0, .ref (aE e0))] := hl
  exact k_X2_isJump C vM e0 _ _ _ hG hl hw
/-! ===== X2_amountPart op ===== -/
def rm_X2_amountPart : Room := { frames := 1, cells := 0, slots := 0, locals := 20 }
abbrev wgX2_amountPart : List Cond := .code yX2_amountPart cX2_amountPart 1 (some .char) :: TB
def wB_X2_amountPart_14 (post : Int32 → Prop) (t0 : Int32) : Prop :=
  isC t0 ∧ (post t0)
def wp_X2_amountPart (post : Int32 → Prop) (e0 : Nat) : Prop :=
  e0 < 53 ∧ wp_X2_isJump (fun r_1  => (r_1 = 0 → (wB_X2_amountPart_14 post 110)) ∧ (¬ r_1 = 0 → (wB_X2_amountPart_14 post 116))) e0
set_option maxHeartbeats 4000000 in
set_option maxRecDepth 100000 in
theorem kB_X2_amountPart_14 {p : Program} {l : Launch} {e : Env} {s : State} {m : MethodId} {args : Array Value} {below : List Frame} {meth : Method} {c : Code} {A : Nat → Prop} {E : EnvT} {aK aV aE : Nat → Nat} {aO : Nat} (C : sCx p s m args meth c cX2_amountPart 1 (some .char) wgX2_amountPart RX2 E A) (vM : eXs aK aV aE aO E) {post : Int32 → Prop} :
    ∀ (t0 : Int32) (H : Heap) (locs : List Loc) (ls : Array Slot), va_S A s.heap H locs → lv_has ls 1 [] → wB_X2_amountPart_14 post t0 → W p l e rm_X2_amountPart s m args below meth c H locs 0 0 (MQ below (va_Qi (S := Unit) (fun r _ => post r) (fun _ _ => True) A) args s 0 0 A) (F0 m 14 ls [.int t0]) := by
  obtain ⟨hx, hb, hml, hr, hown, hts, hA, hlk, hE, vE⟩ := id C
  intro t0 H locs ls hG hl hw
  have hS := hG
  obtain ⟨h_3, hw⟩ := hw
  exact W.zret (v := t0) (ty := .char) hx hb hr h_3 (fun t ht hW => ⟨⟨_, (), rfl, hw, trivial⟩, hS.F ht⟩) hS.2.2 dX2_amountPart_14 hlk
set_option maxHeartbeats 4000000 in
set_option maxRecDepth 100000 in
theorem k_X2_amountPart {p : Program} {l : Launch} {e : Env} {s : State} {m : MethodId} {args : Array Value} {below : List Frame} {meth : Method} {c : Code} {A : Nat → Prop} {E : EnvT} {aK aV aE : Nat → Nat} {aO : Nat} (C : sCx p s m args meth c cX2_amountPart 1 (some .char) wgX2_amountPart RX2 E A) (vM : eXs aK aV aE aO E) {post : Int32 → Prop} :
    ∀ (e0 : Nat) (H : Heap) (locs : List Loc) (ls : Array Slot), va_S A s.heap H locs → lv_has ls 1 [(0, .ref (aE e0))] → wp_X2_amountPart post e0 → W p l e rm_X2_amountPart s m args below meth c H locs 0 0 (MQ below (va_Qi (S := Unit) (fun r _ => post r) (fun _ _ => True) A) args s 0 0 A) (F0 m 0 ls []) := by
  obtain ⟨hx, hb, hml, hr, hown, hts, hA, hlk, hE, vE⟩ := id C
  intro e0 H locs ls hG hl hw
  have hS := hG
  refine lv_aload_n hx hb dX2_amountPart_0 rfl (lv_at hl 0 rfl) ?_
  obtain ⟨h_4, hw⟩ := hw
  refine sO_i (As := []) (rest := []) C (met_X2_isJump vE vM hw) (va_Orecv (eX.o_obj (vM _ _ _ hE) h_4) hS) (cwV 0 hts (TB_G (TB_4 tw_5_58 tw_4_42 tw_4_43 tw_1_19) tw_4_44) rfl rfl rfl (by decide +kernel) ⟨by decide, by decide⟩) hS rfl hl.1 rfl (Nat.le_of_ble_eq_true rfl) dX2_amountPart_1 ⟨by decide, by decide⟩ (fun r_1 H locs hw hS => ?_)
  have hG := hS
  refine lv_if_eq (tgt := 12) hx hb dX2_amountPart_4 (by decide) (fun q_ => ?_) (fun q_ => ?_)
  · have hw := hw.1 q_
    refine lv_bipush (v := 110) hx hb dX2_amountPart_12 (by decide) ?_
    exact kB_X2_amountPart_14 C vM 110 _ _ _ hG (lv_sub hl [] rfl) hw
  · have hw := hw.2 q_
    refine lv_bipush (v := 116) hx hb dX2_amountPart_7 (by decide) ?_
    refine lv_goto (tgt := 14) hx hb dX2_amountPart_9 (by decide) ?_
    exact kB_X2_amountPart_14 C vM 116 _ _ _ hG (lv_sub hl [] rfl) hw
set_option maxHeartbeats 4000000 in
set_option maxRecDepth 100000 in
theorem met_X2_amountPart {l : Launch} {E : EnvT} (vE : EnvOk E) {aK aV aE : Nat → Nat} {aO : Nat} (vM : eXs aK aV aE aO E) {sz : Nat} {e0 : Nat} {post : Int32 → Prop} (hw : wp_X2_amountPart post e0) : Met l yX2_amountPart wgX2_amountPart rm_X2_amountPart (va_Pc [.ref (aE e0)] (sPre E sz)) (va_Qi (S := Unit) (fun r _ => post r) (fun _ _ => True) (va_A [] sz)) 0 0 (va_A [] sz) := by
  refine Met.ofW (cc := cX2_amountPart) (maxL := 1) (ret := (some .char)) (by decide +kernel) rfl ?_
  intro p e s m args below meth c s₁ B hml hv
  obtain ⟨rfl, hsz, hE⟩ := hv
  subst hsz
  generalize hAe : va_A [] s.heap.size = A at hE ⊢
  have hA : ∀ q : Nat, s.heap.size ≤ q → A q := fun q h => by rw [← hAe]; exact Or.inr h
  have hS : va_S A s.heap s.heap [] := va_S.rf
  have C : sCx p s m _ meth c cX2_amountPart 1 (some .char) wgX2_amountPart RX2 E A := ⟨B.exec, B.bytes, hml, B.returns, findClass_of_methodNamed B.named, atoms_spec (ws := wgX2_amountPart) B.pre, hA, B.notSynchronized, hE, vE⟩
  have hG := hS
  have hl := lv_entry ([.ref (aE e0)]) (n := 1) (Nat.le_of_ble_eq_true rfl)
  rw [lg_entry_eq]
  generalize (lg_sl ([.ref (aE e0)]) ++ List.replicate (1 - (lg_sl ([.ref (aE e0)])).length) Slot.unset).toArray = ls at hl ⊢
  have hl : lv_has ls 1 [(0, .ref (aE e0))] := hl
  exact k_X2_amountPart C vM e0 _ _ _ hG hl hw
/-! ===== X2_isLast op ===== -/
def rm_X2_isLast : Room := { frames := 0, cells := 0, slots := 0, locals := 0 }
abbrev wgX2_isLast : List Cond := .code yX2_isLast cX2_isLast 1 (some .boolean) :: TB
def wB_X2_isLast_26 (post : Int32 → Prop) (t0 : Int32) : Prop :=
  isB t0 ∧ (post t0)
def wB_X2_isLast_21 (post : Int32 → Prop) : Prop :=
  wB_X2_isLast_26 post 1
def wp_X2_isLast (post : Int32 → Prop) (e0 : Nat) : Prop :=
  e0 < 53 ∧ ((e0 = 0 → (wB_X2_isLast_21 post)) ∧ (¬ e0 = 0 → (e0 < 53 ∧ ((e0 = 1 → (wB_X2_isLast_21 post)) ∧ (¬ e0 = 1 → (e0 < 53 ∧ ((e0 = 38 → (wB_X2_isLast_21 post)) ∧ (¬ e0 = 38 → (wB_X2_isLast_26 post 0)))))))))
set_option maxHeartbeats 4000000 in
set_option maxRecDepth 100000 in
theorem kB_X2_isLast_26 {p : Program} {l : Launch} {e : Env} {s : State} {m : MethodId} {args : Array Value} {below : List Frame} {meth : Method} {c : Code} {A : Nat → Prop} {E : EnvT} {aK aV aE : Nat → Nat} {aO : Nat} (C : sCx p s m args meth c cX2_isLast 1 (some .boolean) wgX2_isLast RX2 E A) (vM : eXs aK aV aE aO E) {post : Int32 → Prop} :
    ∀ (t0 : Int32) (H : Heap) (locs : List Loc) (ls : Array Slot), va_S A s.heap H locs → lv_has ls 1 [] → wB_X2_isLast_26 post t0 → W p l e rm_X2_isLast s m args below meth c H locs 0 0 (MQ below (va_Qi (S := Unit) (fun r _ => post r) (fun _ _ => True) A) args s 0 0 A) (F0 m 26 ls [.int t0]) := by
  obtain ⟨hx, hb, hml, hr, hown, hts, hA, hlk, hE, vE⟩ := id C
  intro t0 H locs ls hG hl hw
  have hS := hG
  obtain ⟨h_1, hw⟩ := hw
  exact W.zret (v := t0) (ty := .boolean) hx hb hr (isB.n h_1) (fun t ht hW => ⟨⟨_, (), rfl, hw, trivial⟩, hS.F ht⟩) hS.2.2 dX2_isLast_26 hlk
set_option maxHeartbeats 4000000 in
set_option maxRecDepth 100000 in
theorem kB_X2_isLast_21 {p : Program} {l : Launch} {e : Env} {s : State} {m : MethodId} {args : Array Value} {below : List Frame} {meth : Method} {c : Code} {A : Nat → Prop} {E : EnvT} {aK aV aE : Nat → Nat} {aO : Nat} (C : sCx p s m args meth c cX2_isLast 1 (some .boolean) wgX2_isLast RX2 E A) (vM : eXs aK aV aE aO E) {post : Int32 → Prop} :
    ∀ (H : Heap) (locs : List Loc) (ls : Array Slot), va_S A s.heap H locs → lv_has ls 1 [] → wB_X2_isLast_21 post → W p l e rm_X2_isLast s m args below meth c H locs 0 0 (MQ below (va_Qi (S := Unit) (fun r _ => post r) (fun _ _ => True) A) args s 0 0 A) (F0 m 21 ls []) := by
  obtain ⟨hx, hb, hml, hr, hown, hts, hA, hlk, hE, vE⟩ := id C
  intro H locs ls hG hl hw
  have hS := hG
  refine lv_iconst (v := 1) hx hb dX2_isLast_21 (by decide) ?_
  refine lv_goto (tgt := 26) hx hb dX2_isLast_22 (by decide) ?_
  exact kB_X2_isLast_26 C vM 1 _ _ _ hG (lv_sub hl [] rfl) hw
set_option maxHeartbeats 4000000 in
set_option maxRecDepth 100000 in
theorem k_X2_isLast {p : Program} {l : Launch} {e : Env} {s : State} {m : MethodId} {args : Array Value} {below : List Frame} {meth : Method} {c : Code} {A : Nat → Prop} {E : EnvT} {aK aV aE : Nat → Nat} {aO : Nat} (C : sCx p s m args meth c cX2_isLast 1 (some .boolean) wgX2_isLast RX2 E A) (vM : eXs aK aV aE aO E) {post : Int32 → Prop} :
    ∀ (e0 : Nat) (H : Heap) (locs : List Loc) (ls : Array Slot), va_S A s.heap H locs → lv_has ls 1 [(0, .ref (aE e0))] → wp_X2_isLast post e0 → W p l e rm_X2_isLast s m args below meth c H locs 0 0 (MQ below (va_Qi (S := Unit) (fun r _ => post r) (fun _ _ => True) A) args s 0 0 A) (F0 m 0 ls []) := by
  obtain ⟨hx, hb, hml, hr, hown, hts, hA, hlk, hE, vE⟩ := id C
  intro e0 H locs ls hG hl hw
  have hS := hG
  refine lv_aload_n hx hb dX2_isLast_0 rfl (lv_at hl 0 rfl) ?_
  refine va_gets hx hb (eX.c_EXIT (vM _ _ _ hE)) hS hown (hts _ (List.mem_cons_of_mem _ tw_4_54)) (fun _ h => h) dX2_isLast_1 ?_
  obtain ⟨h_4, hw⟩ := hw
  refine lv_acmp_eq (rx := some (aE e0)) (ry := some (aE 0)) (tgt := 21) hx hb dX2_isLast_4 (by decide) (fun q_ => ?_) (fun q_ => ?_)
  · have hw := hw.1 (op_in vM hE h_4 (by decide) q_)
    exact kB_X2_isLast_21 C vM  _ _ _ hG (lv_sub hl [] rfl) hw
  · have hw := hw.2 (fun z => q_ (op_eq z))
    refine lv_aload_n hx hb dX2_isLast_7 rfl (lv_at hl 0 rfl) ?_
    refine va_gets hx hb (eX.c_WORD (vM _ _ _ hE)) hS hown (hts _ (List.mem_cons_of_mem _ tw_4_56)) (fun _ h => h) dX2_isLast_8 ?_
    obtain ⟨h_3, hw⟩ := hw
    refine lv_acmp_eq (rx := some (aE e0)) (ry := some (aE 1)) (tgt := 21) hx hb dX2_isLast_11 (by decide) (fun q_ => ?_) (fun q_ => ?_)
    · have hw := hw.1 (op_in vM hE h_3 (by decide) q_)
      exact kB_X2_isLast_21 C vM  _ _ _ hG (lv_sub hl [] rfl) hw
    · have hw := hw.2 (fun z => q_ (op_eq z))
      refine lv_aload_n hx hb dX2_isLast_14 rfl (lv_at hl 0 rfl) ?_
      refine va_gets hx hb (eX.c_BACK (vM _ _ _ hE)) hS hown (hts _ (List.mem_cons_of_mem _ tw_4_58)) (fun _ h => h) dX2_isLast_15 ?_
      obtain ⟨h_2, hw⟩ := hw
      refine lv_acmp_ne (rx := some (aE e0)) (ry := some (aE 38)) (tgt := 25) hx hb dX2_isLast_18 (by decide) (fun q_ => ?_) (fun q_ => ?_)
      · have hw := hw.2 (fun z => q_ (op_eq z))
        refine lv_iconst (v := 0) hx hb dX2_isLast_25 (by decide) ?_
        exact kB_X2_isLast_26 C vM 0 _ _ _ hG (lv_sub hl [] rfl) hw
      · have hw := hw.1 (op_in vM hE h_2 (by decide) q_)
        exact kB_X2_isLast_21 C vM  _ _ _ hG (lv_sub hl [] rfl) hw
set_option maxHeartbeats 4000000 in
set_option maxRecDepth 100000 in
theorem met_X2_isLast {l : Launch} {E : EnvT} (vE : EnvOk E) {aK aV aE : Nat → Nat} {aO : Nat} (vM : eXs aK aV aE aO E) {sz : Nat} {e0 : Nat} {post : Int32 → Prop} (hw : wp_X2_isLast post e0) : Met l yX2_isLast wgX2_isLast rm_X2_isLast (va_Pc [.ref (aE e0)] (sPre E sz)) (va_Qi (S := Unit) (fun r _ => post r) (fun _ _ => True) (va_A [] sz)) 0 0 (va_A [] sz) := by
  refine Met.ofW (cc := cX2_isLast) (maxL := 1) (ret := (some .boolean)) (by decide +kernel) rfl ?_
  intro p e s m args below meth c s₁ B hml hv
  obtain ⟨rfl, hsz, hE⟩ := hv
  subst hsz
  generalize hAe : va_A [] s.heap.size = A at hE ⊢
  have hA : ∀ q : Nat, s.heap.size ≤ q → A q := fun q h => by rw [← hAe]; exact Or.inr h
  have hS : va_S A s.heap s.heap [] := va_S.rf
  have C : sCx p s m _ meth c cX2_isLast 1 (some .boolean) wgX2_isLast RX2 E A := ⟨B.exec, B.bytes, hml, B.returns, findClass_of_methodNamed B.named, atoms_spec (ws := wgX2_isLast) B.pre, hA, B.notSynchronized, hE, vE⟩
  have hG := hS
  have hl := lv_entry ([.ref (aE e0)]) (n := 1) (Nat.le_of_ble_eq_true rfl)
  rw [lg_entry_eq]
  generalize (lg_sl ([.ref (aE e0)]) ++ List.replicate (1 - (lg_sl ([.ref (aE e0)])).length) Slot.unset).toArray = ls at hl ⊢
  have hl : lv_has ls 1 [(0, .ref (aE e0))] := hl
  exact k_X2_isLast C vM e0 _ _ _ hG hl hw
