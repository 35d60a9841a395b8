/-! ===== fits ===== -/
def rm_X9_fits : Room := { frames := 5, cells := 0, slots := 0, locals := 106 }
abbrev wgX9_fits : List Cond := .code yX9_fits cX9_fits 9 (some .boolean) :: TB
def wB_X9_fits_40 (post : Int32 → Prop) : Prop :=
  post 0
def wB_X9_fits_368 (post : Int32 → Prop) (t0 : Int32) : Prop :=
  isB t0 ∧ (post t0)
def wB_X9_fits_363 (post : Int32 → Prop) : Prop :=
  wB_X9_fits_368 post 1
def wB_X9_fits_367 (post : Int32 → Prop) : Prop :=
  wB_X9_fits_368 post 0
def wB_X9_fits_351 (post : Int32 → Prop) (x1 : Int64) (x6 : Int32) : Prop :=
  (x6 = 0 → (wp_X9_n (fun r_12  => (r_12 = 0 → (wB_X9_fits_363 post)) ∧ (¬ r_12 = 0 → (wB_X9_fits_367 post))) x1)) ∧ (¬ x6 = 0 → (wB_X9_fits_363 post))
def wB_X9_fits_339 (post : Int32 → Prop) (x1 : Int64) (x5 : Int32) (x6 : Int32) : Prop :=
  (x5 = 0 → (wp_X9_b (fun r_14  => (r_14 = 0 → (wB_X9_fits_351 post x1 x6)) ∧ (¬ r_14 = 0 → (wB_X9_fits_367 post))) x1)) ∧ (¬ x5 = 0 → (wB_X9_fits_351 post x1 x6))
def wB_X9_fits_327 (post : Int32 → Prop) (x1 : Int64) (x4 : Int32) (x5 : Int32) (x6 : Int32) : Prop :=
  (x4 = 0 → (wp_X9_a (fun r_16  => (r_16 = 0 → (wB_X9_fits_339 post x1 x5 x6)) ∧ (¬ r_16 = 0 → (wB_X9_fits_367 post))) x1)) ∧ (¬ x4 = 0 → (wB_X9_fits_339 post x1 x5 x6))
def wB_X9_fits_310 (post : Int32 → Prop) (k79 : Int32 → Int64 → Int32 → Int32 → Int32 → Int32 → Int32 → Prop) (x0 : Int32) (x1 : Int64) (x3 : Int32) (x4 : Int32) (x5 : Int32) (x6 : Int32) (x7 : Int32) : Prop :=
  ∀ x7_22 : Int32, x7_22 = x7 + 1 → k79 x0 x1 x3 x4 x5 x6 x7_22
def wB_X9_fits_308 (post : Int32 → Prop) : Prop :=
  post 0
def wB_X9_fits_286 (post : Int32 → Prop) (k79 : Int32 → Int64 → Int32 → Int32 → Int32 → Int32 → Int32 → Prop) (x0 : Int32) (x1 : Int64) (x3 : Int32) (x4 : Int32) (x5 : Int32) (x6 : Int32) (x7 : Int32) (x8 : Int32) : Prop :=
  (x8 = 80 → (wp_X9_n (fun r_23  => (r_23 < 0 → (wB_X9_fits_308 post)) ∧ (¬ r_23 < 0 → (wp_X9_n (fun r_25  => (r_25 ≤ 3 → (wB_X9_fits_310 post k79 x0 x1 x3 x4 x5 x6 x7)) ∧ (¬ r_25 ≤ 3 → (wB_X9_fits_308 post))) x1))) x1)) ∧ (¬ x8 = 80 → (wB_X9_fits_310 post k79 x0 x1 x3 x4 x5 x6 x7))
def wB_X9_fits_263 (post : Int32 → Prop) (k79 : Int32 → Int64 → Int32 → Int32 → Int32 → Int32 → Int32 → Prop) (x0 : Int32) (x1 : Int64) (x3 : Int32) (x4 : Int32) (x5 : Int32) (x6 : Int32) (x7 : Int32) (x8 : Int32) : Prop :=
  (x8 = 71 → (wp_X9_n (fun r_27  => (r_27 < 0 → (wB_X9_fits_308 post)) ∧ (¬ r_27 < 0 → (wp_X9_n (fun r_29  => (63 < r_29 → (wB_X9_fits_308 post)) ∧ (¬ 63 < r_29 → (wB_X9_fits_286 post k79 x0 x1 x3 x4 x5 x6 x7 x8))) x1))) x1)) ∧ (¬ x8 = 71 → (wB_X9_fits_286 post k79 x0 x1 x3 x4 x5 x6 x7 x8))
def wB_X9_fits_261 (post : Int32 → Prop) : Prop :=
  post 0
def wB_X9_fits_246 (post : Int32 → Prop) (k79 : Int32 → Int64 → Int32 → Int32 → Int32 → Int32 → Int32 → Prop) (x0 : Int32) (x1 : Int64) (x3 : Int32) (x4 : Int32) (x5 : Int32) (x6 : Int32) (x7 : Int32) (x8 : Int32) : Prop :=
  (x8 = 98 → (wp_X9_b (fun r_31  => (r_31 ≤ 3 → (wB_X9_fits_263 post k79 x0 x1 x3 x4 x5 x6 x7 x8)) ∧ (¬ r_31 ≤ 3 → (wB_X9_fits_261 post))) x1)) ∧ (¬ x8 = 98 → (wB_X9_fits_263 post k79 x0 x1 x3 x4 x5 x6 x7 x8))
def wB_X9_fits_231 (post : Int32 → Prop) (k79 : Int32 → Int64 → Int32 → Int32 → Int32 → Int32 → Int32 → Prop) (x0 : Int32) (x1 : Int64) (x3 : Int32) (x4 : Int32) (x5 : Int32) (x6 : Int32) (x7 : Int32) (x8 : Int32) : Prop :=
  (x8 = 97 → (wp_X9_a (fun r_33  => (3 < r_33 → (wB_X9_fits_261 post)) ∧ (¬ 3 < r_33 → (wB_X9_fits_246 post k79 x0 x1 x3 x4 x5 x6 x7 x8))) x1)) ∧ (¬ x8 = 97 → (wB_X9_fits_246 post k79 x0 x1 x3 x4 x5 x6 x7 x8))
def wB_X9_fits_214 (post : Int32 → Prop) (k79 : Int32 → Int64 → Int32 → Int32 → Int32 → Int32 → Int32 → Prop) (x0 : Int32) (x1 : Int64) (x3 : Int32) (x4 : Int32) (x5 : Int32) (x7 : Int32) (x8 : Int32) (t0 : Int32) : Prop :=
  (x8 = 100 → (wp_X9_d (fun r_35  => (3 < r_35 → (wB_X9_fits_261 post)) ∧ (¬ 3 < r_35 → (wB_X9_fits_231 post k79 x0 x1 x3 x4 x5 t0 x7 x8))) x1)) ∧ (¬ x8 = 100 → (wB_X9_fits_231 post k79 x0 x1 x3 x4 x5 t0 x7 x8))
def wB_X9_fits_209 (post : Int32 → Prop) (k79 : Int32 → Int64 → Int32 → Int32 → Int32 → Int32 → Int32 → Prop) (x0 : Int32) (x1 : Int64) (x3 : Int32) (x4 : Int32) (x5 : Int32) (x7 : Int32) (x8 : Int32) : Prop :=
  wB_X9_fits_214 post k79 x0 x1 x3 x4 x5 x7 x8 1
def wB_X9_fits_174 (post : Int32 → Prop) (k79 : Int32 → Int64 → Int32 → Int32 → Int32 → Int32 → Int32 → Prop) (x0 : Int32) (x1 : Int64) (x3 : Int32) (x4 : Int32) (x6 : Int32) (x7 : Int32) (x8 : Int32) (t0 : Int32) : Prop :=
  (x6 = 0 → ((x8 = 78 → (wB_X9_fits_209 post k79 x0 x1 x3 x4 t0 x7 x8)) ∧ (¬ x8 = 78 → ((x8 = 71 → (wB_X9_fits_209 post k79 x0 x1 x3 x4 t0 x7 x8)) ∧ (¬ x8 = 71 → ((x8 = 77 → (wB_X9_fits_209 post k79 x0 x1 x3 x4 t0 x7 x8)) ∧ (¬ x8 = 77 → ((x8 = 80 → (wB_X9_fits_209 post k79 x0 x1 x3 x4 t0 x7 x8)) ∧ (¬ x8 = 80 → (wB_X9_fits_214 post k79 x0 x1 x3 x4 t0 x7 x8 0)))))))))) ∧ (¬ x6 = 0 → (wB_X9_fits_209 post k79 x0 x1 x3 x4 t0 x7 x8))
def wB_X9_fits_169 (post : Int32 → Prop) (k79 : Int32 → Int64 → Int32 → Int32 → Int32 → Int32 → Int32 → Prop) (x0 : Int32) (x1 : Int64) (x3 : Int32) (x4 : Int32) (x6 : Int32) (x7 : Int32) (x8 : Int32) : Prop :=
  wB_X9_fits_174 post k79 x0 x1 x3 x4 x6 x7 x8 1
def wB_X9_fits_148 (post : Int32 → Prop) (k79 : Int32 → Int64 → Int32 → Int32 → Int32 → Int32 → Int32 → Prop) (x0 : Int32) (x1 : Int64) (x3 : Int32) (x5 : Int32) (x6 : Int32) (x7 : Int32) (x8 : Int32) (t0 : Int32) : Prop :=
  (x5 = 0 → ((x8 = 66 → (wB_X9_fits_169 post k79 x0 x1 x3 t0 x6 x7 x8)) ∧ (¬ x8 = 66 → ((x8 = 98 → (wB_X9_fits_169 post k79 x0 x1 x3 t0 x6 x7 x8)) ∧ (¬ x8 = 98 → (wB_X9_fits_174 post k79 x0 x1 x3 t0 x6 x7 x8 0)))))) ∧ (¬ x5 = 0 → (wB_X9_fits_169 post k79 x0 x1 x3 t0 x6 x7 x8))
def wB_X9_fits_143 (post : Int32 → Prop) (k79 : Int32 → Int64 → Int32 → Int32 → Int32 → Int32 → Int32 → Prop) (x0 : Int32) (x1 : Int64) (x3 : Int32) (x5 : Int32) (x6 : Int32) (x7 : Int32) (x8 : Int32) : Prop :=
  wB_X9_fits_148 post k79 x0 x1 x3 x5 x6 x7 x8 1
def wB_X9_fits_116 (post : Int32 → Prop) (k79 : Int32 → Int64 → Int32 → Int32 → Int32 → Int32 → Int32 → Prop) (x0 : Int32) (x1 : Int64) (x4 : Int32) (x5 : Int32) (x6 : Int32) (x7 : Int32) (x8 : Int32) (t0 : Int32) : Prop :=
  (x4 = 0 → ((x8 = 65 → (wB_X9_fits_143 post k79 x0 x1 t0 x5 x6 x7 x8)) ∧ (¬ x8 = 65 → ((x8 = 97 → (wB_X9_fits_143 post k79 x0 x1 t0 x5 x6 x7 x8)) ∧ (¬ x8 = 97 → ((x8 = 77 → (wB_X9_fits_143 post k79 x0 x1 t0 x5 x6 x7 x8)) ∧ (¬ x8 = 77 → (wB_X9_fits_148 post k79 x0 x1 t0 x5 x6 x7 x8 0)))))))) ∧ (¬ x4 = 0 → (wB_X9_fits_143 post k79 x0 x1 t0 x5 x6 x7 x8))
def wB_X9_fits_111 (post : Int32 → Prop) (k79 : Int32 → Int64 → Int32 → Int32 → Int32 → Int32 → Int32 → Prop) (x0 : Int32) (x1 : Int64) (x4 : Int32) (x5 : Int32) (x6 : Int32) (x7 : Int32) (x8 : Int32) : Prop :=
  wB_X9_fits_116 post k79 x0 x1 x4 x5 x6 x7 x8 1
def wB_X9_fits_79 (post : Int32 → Prop) (k79 : Int32 → Int64 → Int32 → Int32 → Int32 → Int32 → Int32 → Prop) (x0 : Int32) (x1 : Int64) (x3 : Int32) (x4 : Int32) (x5 : Int32) (x6 : Int32) (x7 : Int32) : Prop :=
  (4 ≤ x7 → ((x3 = 0 → (wp_X9_d (fun r_18  => (r_18 = 0 → (wB_X9_fits_327 post x1 x4 x5 x6)) ∧ (¬ r_18 = 0 → (wB_X9_fits_367 post))) x1)) ∧ (¬ x3 = 0 → (wB_X9_fits_327 post x1 x4 x5 x6)))) ∧ (¬ 4 ≤ x7 → (wp_X9_part (fun r_20  => (x3 = 0 → ((r_20 = 68 → (wB_X9_fits_111 post k79 x0 x1 x4 x5 x6 x7 r_20)) ∧ (¬ r_20 = 68 → ((r_20 = 100 → (wB_X9_fits_111 post k79 x0 x1 x4 x5 x6 x7 r_20)) ∧ (¬ r_20 = 100 → (wB_X9_fits_116 post k79 x0 x1 x4 x5 x6 x7 r_20 0)))))) ∧ (¬ x3 = 0 → (wB_X9_fits_111 post k79 x0 x1 x4 x5 x6 x7 r_20))) x0 x7))
def wL_X9_fits_79 (post : Int32 → Prop) : Nat → Int32 → Int64 → Int32 → Int32 → Int32 → Int32 → Int32 → Prop
  | 0 => fun _ _ _ _ _ _ _ => False
  | n + 1 => wB_X9_fits_79 post (wL_X9_fits_79 post n)
def wB_X9_fits_76 (post : Int32 → Prop) (x0 : Int32) (x1 : Int64) (x3 : Int32) (x4 : Int32) (x5 : Int32) (x6 : Int32) : Prop :=
  ∃ n, wL_X9_fits_79 post n x0 x1 x3 x4 x5 x6 0
def wB_X9_fits_42 (post : Int32 → Prop) (x0 : Int32) (x1 : Int64) : Prop :=
  wp_X9_isTold (fun r_7  => wp_X9_isTold (fun r_9  => (r_9 = 0 → (wB_X9_fits_76 post x0 x1 0 0 0 r_7)) ∧ (¬ r_9 = 0 → (wp_X9_n (fun r_37  => (r_37 = (x0 - 22) → (wB_X9_fits_76 post x0 x1 0 0 0 r_7)) ∧ (¬ r_37 = (x0 - 22) → (post 0))) x1))) x0) x0
def wp_X9_fits (post : Int32 → Prop) (x0 : Int32) (x1 : Int64) : Prop :=
  wp_X9_opOf (fun r_1  => wp_X9_op (fun r_3  => (r_1 = r_3 → ((((x1 >>> ((24 : Int32).toInt64 &&& 63)) &&& 255) = 0 → (wp_X9_g (fun r_5  => (r_5 ≤ 0 → (wB_X9_fits_42 post x0 x1)) ∧ (¬ r_5 ≤ 0 → (wp_X9_g (fun r_39  => (8 ≤ r_39 → (wB_X9_fits_42 post x0 x1)) ∧ (¬ 8 ≤ r_39 → (wB_X9_fits_40 post))) x1))) x1)) ∧ (¬ ((x1 >>> ((24 : Int32).toInt64 &&& 63)) &&& 255) = 0 → (wB_X9_fits_40 post)))) ∧ (¬ r_1 = r_3 → (wB_X9_fits_40 post))) x1) x0
set_option maxHeartbeats 4000000 in
set_option maxRecDepth 100000 in
theorem kB_X9_fits_40 {p : Program} {l : Launch} {e : Env} {s : State} {m : MethodId} {args : Array Value} {below : List Frame} {meth : Method} {c : Code} {A : Nat → Prop} {E : EnvT} {aK aV : Nat → Nat} (C : sCx p s m args meth c cX9_fits 9 (some .boolean) wgX9_fits RX9 E A) (vM : eMs aK aV E) {post : Int32 → Prop} :
    ∀ (H : Heap) (locs : List Loc) (ls : Array Slot), va_S A s.heap H locs → lv_has ls 9 [] → wB_X9_fits_40 post → W p l e rm_X9_fits s m args below meth c H locs 0 0 (MQ below (va_Qi (S := Unit) (fun r _ => post r) (fun _ _ => True) A) args s 0 0 A) (F0 m 40 ls []) := by
  obtain ⟨hx, hb, hml, hr, hown, hts, hA, hlk, hE, vE⟩ := id C
  intro H locs ls hG hl hw
  have hS := hG
  refine lv_iconst (v := 0) hx hb dX9_fits_40 (by decide) ?_
  exact W.zret (v := 0) (ty := .boolean) hx hb hr rfl (fun t ht hW => ⟨⟨_, (), rfl, hw, trivial⟩, hS.F ht⟩) hS.2.2 dX9_fits_41 hlk
set_option maxHeartbeats 4000000 in
set_option maxRecDepth 100000 in
theorem kB_X9_fits_368 {p : Program} {l : Launch} {e : Env} {s : State} {m : MethodId} {args : Array Value} {below : List Frame} {meth : Method} {c : Code} {A : Nat → Prop} {E : EnvT} {aK aV : Nat → Nat} (C : sCx p s m args meth c cX9_fits 9 (some .boolean) wgX9_fits RX9 E A) (vM : eMs aK aV E) {post : Int32 → Prop} :
    ∀ (t0 : Int32) (H : Heap) (locs : List Loc) (ls : Array Slot), va_S A s.heap H locs → lv_has ls 9 [] → wB_X9_fits_368 post t0 → W p l e rm_X9_fits s m args below meth c H locs 0 0 (MQ below (va_Qi (S := Unit) (fun r _ => post r) (fun _ _ => True) A) args s 0 0 A) (F0 m 368 ls [.int t0]) := by
  obtain ⟨hx, hb, hml, hr, hown, hts, hA, hlk, hE, vE⟩ := id C
  intro t0 H locs ls hG hl hw
  have hS := hG
  obtain ⟨h_11, hw⟩ := hw
  exact W.zret (v := t0) (ty := .boolean) hx hb hr (isB.n h_11) (fun t ht hW => ⟨⟨_, (), rfl, hw, trivial⟩, hS.F ht⟩) hS.2.2 dX9_fits_368 hlk
set_option maxHeartbeats 4000000 in
set_option maxRecDepth 100000 in
theorem kB_X9_fits_363 {p : Program} {l : Launch} {e : Env} {s : State} {m : MethodId} {args : Array Value} {below : List Frame} {meth : Method} {c : Code} {A : Nat → Prop} {E : EnvT} {aK aV : Nat → Nat} (C : sCx p s m args meth c cX9_fits 9 (some .boolean) wgX9_fits RX9 E A) (vM : eMs aK aV E) {post : Int32 → Prop} :
    ∀ (H : Heap) (locs : List Loc) (ls : Array Slot), va_S A s.heap H locs → lv_has ls 9 [] → wB_X9_fits_363 post → W p l e rm_X9_fits s m args below meth c H locs 0 0 (MQ below (va_Qi (S := Unit) (fun r _ => post r) (fun _ _ => True) A) args s 0 0 A) (F0 m 363 ls []) := by
  obtain ⟨hx, hb, hml, hr, hown, hts, hA, hlk, hE, vE⟩ := id C
  intro H locs ls hG hl hw
  have hS := hG
  refine lv_iconst (v := 1) hx hb dX9_fits_363 (by decide) ?_
  refine lv_goto (tgt := 368) hx hb dX9_fits_364 (by decide) ?_
  exact kB_X9_fits_368 C vM 1 _ _ _ hG (lv_sub hl [] rfl) hw
set_option maxHeartbeats 4000000 in
set_option maxRecDepth 100000 in
theorem kB_X9_fits_367 {p : Program} {l : Launch} {e : Env} {s : State} {m : MethodId} {args : Array Value} {below : List Frame} {meth : Method} {c : Code} {A : Nat → Prop} {E : EnvT} {aK aV : Nat → Nat} (C : sCx p s m args meth c cX9_fits 9 (some .boolean) wgX9_fits RX9 E A) (vM : eMs aK aV E) {post : Int32 → Prop} :
    ∀ (H : Heap) (locs : List Loc) (ls : Array Slot), va_S A s.heap H locs → lv_has ls 9 [] → wB_X9_fits_367 post → W p l e rm_X9_fits s m args below meth c H locs 0 0 (MQ below (va_Qi (S := Unit) (fun r _ => post r) (fun _ _ => True) A) args s 0 0 A) (F0 m 367 ls []) := by
  obtain ⟨hx, hb, hml, hr, hown, hts, hA, hlk, hE, vE⟩ := id C
  intro H locs ls hG hl hw
  have hS := hG
  refine lv_iconst (v := 0) hx hb dX9_fits_367 (by decide) ?_
  exact kB_X9_fits_368 C vM 0 _ _ _ hG (lv_sub hl [] rfl) hw
set_option maxHeartbeats 4000000 in
set_option maxRecDepth 100000 in
theorem kB_X9_fits_351 {p : Program} {l : Launch} {e : Env} {s : State} {m : MethodId} {args : Array Value} {below : List Frame} {meth : Method} {c : Code} {A : Nat → Prop} {E : EnvT} {aK aV : Nat → Nat} (C : sCx p s m args meth c cX9_fits 9 (some .boolean) wgX9_fits RX9 E A) (vM : eMs aK aV E) {post : Int32 → Prop} :
    ∀ (x1 : Int64) (x6 : Int32) (H : Heap) (locs : List Loc) (ls : Array Slot), va_S A s.heap H locs → lv_has ls 9 [(1, .long x1), (6, .int x6)] → wB_X9_fits_351 post x1 x6 → W p l e rm_X9_fits s m args below meth c H locs 0 0 (MQ below (va_Qi (S := Unit) (fun r _ => post r) (fun _ _ => True) A) args s 0 0 A) (F0 m 351 ls []) := by
  obtain ⟨hx, hb, hml, hr, hown, hts, hA, hlk, hE, vE⟩ := id C
  intro x1 x6 H locs ls hG hl hw
  have hS := hG
  refine lv_iload hx hb dX9_fits_351 (lv_at hl 1 rfl) ?_
  refine lv_if_ne (tgt := 363) hx hb dX9_fits_353 (by decide) (fun q_ => ?_) (fun q_ => ?_)
  · have hw := hw.2 q_
    exact kB_X9_fits_363 C vM  _ _ _ hG (lv_sub hl [] rfl) hw
  · have hw := hw.1 q_
    refine lv_lload_n hx hb dX9_fits_356 rfl (lv_at hl 0 rfl) ?_
    refine sS_i (As := [.long x1]) (rest := []) C (met_X9_n vE vM hw) (va_cwS 1 hts (TB_G (TB_3 tw_6_133 tw_6_134 tw_1_13) tw_6_135) rfl rfl rfl (by decide +kernel) ⟨by decide, by decide⟩) hS rfl hl.1 rfl (Nat.le_of_ble_eq_true rfl) dX9_fits_357 ⟨by decide, by decide⟩ (fun r_12 H locs hw hS => ?_)
    have hG := hS
    refine lv_if_ne (tgt := 367) hx hb dX9_fits_360 (by decide) (fun q_ => ?_) (fun q_ => ?_)
    · have hw := hw.2 q_
      exact kB_X9_fits_367 C vM  _ _ _ hG (lv_sub hl [] rfl) hw
    · have hw := hw.1 q_
      exact kB_X9_fits_363 C vM  _ _ _ hG (lv_sub hl [] rfl) hw
set_option maxHeartbeats 4000000 in
set_option maxRecDepth 100000 in
theorem kB_X9_fits_339 {p : Program} {l : Launch} {e : Env} {s : State} {m : MethodId} {args : Array Value} {below : List Frame} {meth : Method} {c : Code} {A : Nat → Prop} {E : EnvT} {aK aV : Nat → Nat} (C : sCx p s m args meth c cX9_fits 9 (some .boolean) wgX9_fits RX9 E A) (vM : eMs aK aV E) {post : Int32 → Prop} :
    ∀ (x1 : Int64) (x5 : Int32) (x6 : Int32) (H : Heap) (locs : List Loc) (ls : Array Slot), va_S A s.heap H locs → lv_has ls 9 [(1, .long x1), (5, .int x5), (6, .int x6)] → wB_X9_fits_339 post x1 x5 x6 → W p l e rm_X9_fits s m args below meth c H locs 0 0 (MQ below (va_Qi (S := Unit) (fun r _ => post r) (fun _ _ => True) A) args s 0 0 A) (F0 m 339 ls []) := by
  obtain ⟨hx, hb, hml, hr, hown, hts, hA, hlk, hE, vE⟩ := id C
  intro x1 x5 x6 H locs ls hG hl hw
  have hS := hG
  refine lv_iload hx hb dX9_fits_339 (lv_at hl 1 rfl) ?_
  refine lv_if_ne (tgt := 351) hx hb dX9_fits_341 (by decide) (fun q_ => ?_) (fun q_ => ?_)
  · have hw := hw.2 q_
    exact kB_X9_fits_351 C vM x1 x6 _ _ _ hG (lv_sub hl [0, 2] rfl) hw
  · have hw := hw.1 q_
    refine lv_lload_n hx hb dX9_fits_344 rfl (lv_at hl 0 rfl) ?_
    refine sS_i (As := [.long x1]) (rest := []) C (met_X9_b vE vM hw) (va_cwS 1 hts (TB_G (TB_3 tw_6_142 tw_6_143 tw_1_13) tw_6_144) rfl rfl rfl (by decide +kernel) ⟨by decide, by decide⟩) hS rfl hl.1 rfl (Nat.le_of_ble_eq_true rfl) dX9_fits_345 ⟨by decide, by decide⟩ (fun r_14 H locs hw hS => ?_)
    have hG := hS
    refine lv_if_ne (tgt := 367) hx hb dX9_fits_348 (by decide) (fun q_ => ?_) (fun q_ => ?_)
    · have hw := hw.2 q_
      exact kB_X9_fits_367 C vM  _ _ _ hG (lv_sub hl [] rfl) hw
    · have hw := hw.1 q_
      exact kB_X9_fits_351 C vM x1 x6 _ _ _ hG (lv_sub hl [0, 2] rfl) hw
set_option maxHeartbeats 4000000 in
set_option maxRecDepth 100000 in
theorem kB_X9_fits_327 {p : Program} {l : Launch} {e : Env} {s : State} {m : MethodId} {args : Array Value} {below : List Frame} {meth : Method} {c : Code} {A : Nat → Prop} {E : EnvT} {aK aV : Nat → Nat} (C : sCx p s m args meth c cX9_fits 9 (some .boolean) wgX9_fits RX9 E A) (vM : eMs aK aV E) {post : Int32 → Prop} :
    ∀ (x1 : Int64) (x4 : Int32) (x5 : Int32) (x6 : Int32) (H : Heap) (locs : List Loc) (ls : Array Slot), va_S A s.heap H locs → lv_has ls 9 [(1, .long x1), (4, .int x4), (5, .int x5), (6, .int x6)] → wB_X9_fits_327 post x1 x4 x5 x6 → W p l e rm_X9_fits s m args below meth c H locs 0 0 (MQ below (va_Qi (S := Unit) (fun r _ => post r) (fun _ _ => True) A) args s 0 0 A) (F0 m 327 ls []) := by
  obtain ⟨hx, hb, hml, hr, hown, hts, hA, hlk, hE, vE⟩ := id C
  intro x1 x4 x5 x6 H locs ls hG hl hw
  have hS := hG
  refine lv_iload hx hb dX9_fits_327 (lv_at hl 1 rfl) ?_
  refine lv_if_ne (tgt := 339) hx hb dX9_fits_329 (by decide) (fun q_ => ?_) (fun q_ => ?_)
  · have hw := hw.2 q_
    exact kB_X9_fits_339 C vM x1 x5 x6 _ _ _ hG (lv_sub hl [0, 2, 3] rfl) hw
  · have hw := hw.1 q_
    refine lv_lload_n hx hb dX9_fits_332 rfl (lv_at hl 0 rfl) ?_
    refine sS_i (As := [.long x1]) (rest := []) C (met_X9_a vE vM hw) (va_cwS 1 hts (TB_G (TB_3 tw_6_139 tw_6_140 tw_1_13) tw_6_141) rfl rfl rfl (by decide +kernel) ⟨by decide, by decide⟩) hS rfl hl.1 rfl (Nat.le_of_ble_eq_true rfl) dX9_fits_333 ⟨by decide, by decide⟩ (fun r_16 H locs hw hS => ?_)
    have hG := hS
    refine lv_if_ne (tgt := 367) hx hb dX9_fits_336 (by decide) (fun q_ => ?_) (fun q_ => ?_)
    · have hw := hw.2 q_
      exact kB_X9_fits_367 C vM  _ _ _ hG (lv_sub hl [] rfl) hw
    · have hw := hw.1 q_
      exact kB_X9_fits_339 C vM x1 x5 x6 _ _ _ hG (lv_sub hl [0, 2, 3] rfl) hw
set_option maxHeartbeats 4000000 in
set_option maxRecDepth 100000 in
theorem kB_X9_fits_310 {p : Program} {l : Launch} {e : Env} {s : State} {m : MethodId} {args : Array Value} {below : List Frame} {meth : Method} {c : Code} {A : Nat → Prop} {E : EnvT} {aK aV : Nat → Nat} (C : sCx p s m args meth c cX9_fits 9 (some .boolean) wgX9_fits RX9 E A) (vM : eMs aK aV E) {post : Int32 → Prop}
    {k79 : Int32 → Int64 → Int32 → Int32 → Int32 → Int32 → Int32 → Prop} (hk79 : ∀ (x0 : Int32) (x1 : Int64) (x3 : Int32) (x4 : Int32) (x5 : Int32) (x6 : Int32) (x7 : Int32) (H : Heap) (locs : List Loc) (ls : Array Slot), va_S A s.heap H locs → lv_has ls 9 [(0, .int x0), (1, .long x1), (3, .int x3), (4, .int x4), (5, .int x5), (6, .int x6), (7, .int x7)] → k79 x0 x1 x3 x4 x5 x6 x7 → W p l e rm_X9_fits s m args below meth c H locs 0 0 (MQ below (va_Qi (S := Unit) (fun r _ => post r) (fun _ _ => True) A) args s 0 0 A) (F0 m 79 ls [])) :
    ∀ (x0 : Int32) (x1 : Int64) (x3 : Int32) (x4 : Int32) (x5 : Int32) (x6 : Int32) (x7 : Int32) (H : Heap) (locs : List Loc) (ls : Array Slot), va_S A s.heap H locs → lv_has ls 9 [(0, .int x0), (1, .long x1), (3, .int x3), (4, .int x4), (5, .int x5), (6, .int x6), (7, .int x7)] → wB_X9_fits_310 post k79 x0 x1 x3 x4 x5 x6 x7 → W p l e rm_X9_fits s m args below meth c H locs 0 0 (MQ below (va_Qi (S := Unit) (fun r _ => post r) (fun _ _ => True) A) args s 0 0 A) (F0 m 310 ls []) := by
  obtain ⟨hx, hb, hml, hr, hown, hts, hA, hlk, hE, vE⟩ := id C
  intro x0 x1 x3 x4 x5 x6 x7 H locs ls hG hl hw
  have hS := hG
  obtain ⟨x7_22, ex7_22⟩ : ∃ y : Int32, y = x7 + 1 := ⟨_, rfl⟩
  have hw := hw x7_22 ex7_22
  refine lv_iinc (v := x7_22) (lv' := [(7, .int x7_22), (0, .int x0), (1, .long x1), (3, .int x3), (4, .int x4), (5, .int x5), (6, .int x6)]) hx hb dX9_fits_310 hl (k := 6) rfl (by rw [ex7_22]; rfl) (by decide) rfl (fun ls hl => ?_)
  refine lv_goto (tgt := 79) hx hb dX9_fits_313 (by decide) ?_
  exact hk79 x0 x1 x3 x4 x5 x6 x7_22 _ _ _ hG (lv_sub hl [1, 2, 3, 4, 5, 6, 0] rfl) hw
set_option maxHeartbeats 4000000 in
set_option maxRecDepth 100000 in
theorem kB_X9_fits_308 {p : Program} {l : Launch} {e : Env} {s : State} {m : MethodId} {args : Array Value} {below : List Frame} {meth : Method} {c : Code} {A : Nat → Prop} {E : EnvT} {aK aV : Nat → Nat} (C : sCx p s m args meth c cX9_fits 9 (some .boolean) wgX9_fits RX9 E A) (vM : eMs aK aV E) {post : Int32 → Prop} :
    ∀ (H : Heap) (locs : List Loc) (ls : Array Slot), va_S A s.heap H locs → lv_has ls 9 [] → wB_X9_fits_308 post → W p l e rm_X9_fits s m args below meth c H locs 0 0 (MQ below (va_Qi (S := Unit) (fun r _ => post r) (fun _ _ => True) A) args s 0 0 A) (F0 m 308 ls []) := by
  obtain ⟨hx, hb, hml, hr, hown, hts, hA, hlk, hE, vE⟩ := id C
  intro H locs ls hG hl hw
  have hS := hG
  refine lv_iconst (v := 0) hx hb dX9_fits_308 (by decide) ?_
  exact W.zret (v := 0) (ty := .boolean) hx hb hr rfl (fun t ht hW => ⟨⟨_, (), rfl, hw, trivial⟩, hS.F ht⟩) hS.2.2 dX9_fits_309 hlk
set_option maxHeartbeats 4000000 in
set_option maxRecDepth 100000 in
theorem kB_X9_fits_286 {p : Program} {l : Launch} {e : Env} {s : State} {m : MethodId} {args : Array Value} {below : List Frame} {meth : Method} {c : Code} {A : Nat → Prop} {E : EnvT} {aK aV : Nat → Nat} (C : sCx p s m args meth c cX9_fits 9 (some .boolean) wgX9_fits RX9 E A) (vM : eMs aK aV E) {post : Int32 → Prop}
    {k79 : Int32 → Int64 → Int32 → Int32 → Int32 → Int32 → Int32 → Prop} (hk79 : ∀ (x0 : Int32) (x1 : Int64) (x3 : Int32) (x4 : Int32) (x5 : Int32) (x6 : Int32) (x7 : Int32) (H : Heap) (locs : List Loc) (ls : Array Slot), va_S A s.heap H locs → lv_has ls 9 [(0, .int x0), (1, .long x1), (3, .int x3), (4, .int x4), (5, .int x5), (6, .int x6), (7, .int x7)] → k79 x0 x1 x3 x4 x5 x6 x7 → W p l e rm_X9_fits s m args below meth c H locs 0 0 (MQ below (va_Qi (S := Unit) (fun r _ => post r) (fun _ _ => True) A) args s 0 0 A) (F0 m 79 ls [])) :
    ∀ (x0 : Int32) (x1 : Int64) (x3 : Int32) (x4 : Int32) (x5 : Int32) (x6 : Int32) (x7 : Int32) (x8 : Int32) (H : Heap) (locs : List Loc) (ls : Array Slot), va_S A s.heap H locs → lv_has ls 9 [(0, .int x0), (1, .long x1), (3, .int x3), (4, .int x4), (5, .int x5), (6, .int x6), (7, .int x7), (8, .int x8)] → wB_X9_fits_286 post k79 x0 x1 x3 x4 x5 x6 x7 x8 → W p l e rm_X9_fits s m args below meth c H locs 0 0 (MQ below (va_Qi (S := Unit) (fun r _ => post r) (fun _ _ => True) A) args s 0 0 A) (F0 m 286 ls []) := by
  obtain ⟨hx, hb, hml, hr, hown, hts, hA, hlk, hE, vE⟩ := id C
  intro x0 x1 x3 x4 x5 x6 x7 x8 H locs ls hG hl hw
  have hS := hG
  refine lv_iload hx hb dX9_fits_286 (lv_at hl 7 rfl) ?_
  refine lv_bipush (v := 80) hx hb dX9_fits_288 (by decide) ?_
  refine lv_icmp_ne (tgt := 310) hx hb dX9_fits_290 (by decide) (fun q_ => ?_) (fun q_ => ?_)
  · have hw := hw.2 q_
    exact kB_X9_fits_310 C vM hk79 x0 x1 x3 x4 x5 x6 x7 _ _ _ hG (lv_sub hl [0, 1, 2, 3, 4, 5, 6] rfl) hw
  · have hw := hw.1 q_
    refine lv_lload_n hx hb dX9_fits_293 rfl (lv_at hl 1 rfl) ?_
    refine sS_i (As := [.long x1]) (rest := []) C (met_X9_n vE vM hw) (va_cwS 1 hts (TB_G (TB_3 tw_6_133 tw_6_134 tw_1_13) tw_6_135) rfl rfl rfl (by decide +kernel) ⟨by decide, by decide⟩) hS rfl hl.1 rfl (Nat.le_of_ble_eq_true rfl) dX9_fits_294 ⟨by decide, by decide⟩ (fun r_23 H locs hw hS => ?_)
    have hG := hS
    refine lv_if_lt (tgt := 308) hx hb dX9_fits_297 (by decide) (fun q_ => ?_) (fun q_ => ?_)
    · have hw := hw.1 q_
      exact kB_X9_fits_308 C vM  _ _ _ hG (lv_sub hl [] rfl) hw
    · have hw := hw.2 q_
      refine lv_lload_n hx hb dX9_fits_300 rfl (lv_at hl 1 rfl) ?_
      refine sS_i (As := [.long x1]) (rest := []) C (met_X9_n vE vM hw) (va_cwS 1 hts (TB_G (TB_3 tw_6_133 tw_6_134 tw_1_13) tw_6_135) rfl rfl rfl (by decide +kernel) ⟨by decide, by decide⟩) hS rfl hl.1 rfl (Nat.le_of_ble_eq_true rfl) dX9_fits_301 ⟨by decide, by decide⟩ (fun r_25 H locs hw hS => ?_)
      have hG := hS
      refine lv_iconst (v := 3) hx hb dX9_fits_304 (by decide) ?_
      refine lv_icmp_le (tgt := 310) hx hb dX9_fits_305 (by decide) (fun q_ => ?_) (fun q_ => ?_)
      · have hw := hw.1 q_
        exact kB_X9_fits_310 C vM hk79 x0 x1 x3 x4 x5 x6 x7 _ _ _ hG (lv_sub hl [0, 1, 2, 3, 4, 5, 6] rfl) hw
      · have hw := hw.2 q_
        exact kB_X9_fits_308 C vM  _ _ _ hG (lv_sub hl [] rfl) hw
set_option maxHeartbeats 4000000 in
set_option maxRecDepth 100000 in
theorem kB_X9_fits_263 {p : Program} {l : Launch} {e : Env} {s : State} {m : MethodId} {args : Array Value} {below : List Frame} {meth : Method} {c : Code} {A : Nat → Prop} {E : EnvT} {aK aV : Nat → Nat} (C : sCx p s m args meth c cX9_fits 9 (some .boolean) wgX9_fits RX9 E A) (vM : eMs aK aV E) {post : Int32 → Prop}
    {k79 : Int32 → Int64 → Int32 → Int32 → Int32 → Int32 → Int32 → Prop} (hk79 : ∀ (x0 : Int32) (x1 : Int64) (x3 : Int32) (x4 : Int32) (x5 : Int32) (x6 : Int32) (x7 : Int32) (H : Heap) (locs : List Loc) (ls : Array Slot), va_S A s.heap H locs → lv_has ls 9 [(0, .int x0), (1, .long x1), (3, .int x3), (4, .int x4), (5, .int x5), (6, .int x6), (7, .int x7)] → k79 x0 x1 x3 x4 x5 x6 x7 → W p l e rm_X9_fits s m args below meth c H locs 0 0 (MQ below (va_Qi (S := Unit) (fun r _ => post r) (fun _ _ => True) A) args s 0 0 A) (F0 m 79 ls [])) :
    ∀ (x0 : Int32) (x1 : Int64) (x3 : Int32) (x4 : Int32) (x5 : Int32) (x6 : Int32) (x7 : Int32) (x8 : Int32) (H : Heap) (locs : List Loc) (ls : Array Slot), va_S A s.heap H locs → lv_has ls 9 [(0, .int x0), (1, .long x1), (3, .int x3), (4, .int x4), (5, .int x5), (6, .int x6), (7, .int x7), (8, .int x8)] → wB_X9_fits_263 post k79 x0 x1 x3 x4 x5 x6 x7 x8 → W p l e rm_X9_fits s m args below meth c H locs 0 0 (MQ below (va_Qi (S := Unit) (fun r _ => post r) (fun _ _ => True) A) args s 0 0 A) (F0 m 263 ls []) := by
  obtain ⟨hx, hb, hml, hr, hown, hts, hA, hlk, hE, vE⟩ := id C
  intro x0 x1 x3 x4 x5 x6 x7 x8 H locs ls hG hl hw
  have hS := hG
  refine lv_iload hx hb dX9_fits_263 (lv_at hl 7 rfl) ?_
  refine lv_bipush (v := 71) hx hb dX9_fits_265 (by decide) ?_
  refine lv_icmp_ne (tgt := 286) hx hb dX9_fits_267 (by decide) (fun q_ => ?_) (fun q_ => ?_)
  · have hw := hw.2 q_
    exact kB_X9_fits_286 C vM hk79 x0 x1 x3 x4 x5 x6 x7 x8 _ _ _ hG (lv_sub hl [0, 1, 2, 3, 4, 5, 6, 7] rfl) hw
  · have hw := hw.1 q_
    refine lv_lload_n hx hb dX9_fits_270 rfl (lv_at hl 1 rfl) ?_
    refine sS_i (As := [.long x1]) (rest := []) C (met_X9_n vE vM hw) (va_cwS 1 hts (TB_G (TB_3 tw_6_133 tw_6_134 tw_1_13) tw_6_135) rfl rfl rfl (by decide +kernel) ⟨by decide, by decide⟩) hS rfl hl.1 rfl (Nat.le_of_ble_eq_true rfl) dX9_fits_271 ⟨by decide, by decide⟩ (fun r_27 H locs hw hS => ?_)
    have hG := hS
    refine lv_if_lt (tgt := 308) hx hb dX9_fits_274 (by decide) (fun q_ => ?_) (fun q_ => ?_)
    · have hw := hw.1 q_
      exact kB_X9_fits_308 C vM  _ _ _ hG (lv_sub hl [] rfl) hw
    · have hw := hw.2 q_
      refine lv_lload_n hx hb dX9_fits_277 rfl (lv_at hl 1 rfl) ?_
      refine sS_i (As := [.long x1]) (rest := []) C (met_X9_n vE vM hw) (va_cwS 1 hts (TB_G (TB_3 tw_6_133 tw_6_134 tw_1_13) tw_6_135) rfl rfl rfl (by decide +kernel) ⟨by decide, by decide⟩) hS rfl hl.1 rfl (Nat.le_of_ble_eq_true rfl) dX9_fits_278 ⟨by decide, by decide⟩ (fun r_29 H locs hw hS => ?_)
      have hG := hS
      refine lv_bipush (v := 63) hx hb dX9_fits_281 (by decide) ?_
      refine lv_icmp_gt (tgt := 308) hx hb dX9_fits_283 (by decide) (fun q_ => ?_) (fun q_ => ?_)
      · have hw := hw.1 q_
        exact kB_X9_fits_308 C vM  _ _ _ hG (lv_sub hl [] rfl) hw
      · have hw := hw.2 q_
        exact kB_X9_fits_286 C vM hk79 x0 x1 x3 x4 x5 x6 x7 x8 _ _ _ hG (lv_sub hl [0, 1, 2, 3, 4, 5, 6, 7] rfl) hw
set_option maxHeartbeats 4000000 in
set_option maxRecDepth 100000 in
theorem kB_X9_fits_261 {p : Program} {l : Launch} {e : Env} {s : State} {m : MethodId} {args : Array Value} {below : List Frame} {meth : Method} {c : Code} {A : Nat → Prop} {E : EnvT} {aK aV : Nat → Nat} (C : sCx p s m args meth c cX9_fits 9 (some .boolean) wgX9_fits RX9 E A) (vM : eMs aK aV E) {post : Int32 → Prop} :
    ∀ (H : Heap) (locs : List Loc) (ls : Array Slot), va_S A s.heap H locs → lv_has ls 9 [] → wB_X9_fits_261 post → W p l e rm_X9_fits s m args below meth c H locs 0 0 (MQ below (va_Qi (S := Unit) (fun r _ => post r) (fun _ _ => True) A) args s 0 0 A) (F0 m 261 ls []) := by
  obtain ⟨hx, hb, hml, hr, hown, hts, hA, hlk, hE, vE⟩ := id C
  intro H locs ls hG hl hw
  have hS := hG
  refine lv_iconst (v := 0) hx hb dX9_fits_261 (by decide) ?_
  exact W.zret (v := 0) (ty := .boolean) hx hb hr rfl (fun t ht hW => ⟨⟨_, (), rfl, hw, trivial⟩, hS.F ht⟩) hS.2.2 dX9_fits_262 hlk
set_option maxHeartbeats 4000000 in
set_option maxRecDepth 100000 in
theorem kB_X9_fits_246 {p : Program} {l : Launch} {e : Env} {s : State} {m : MethodId} {args : Array Value} {below : List Frame} {meth : Method} {c : Code} {A : Nat → Prop} {E : EnvT} {aK aV : Nat → Nat} (C : sCx p s m args meth c cX9_fits 9 (some .boolean) wgX9_fits RX9 E A) (vM : eMs aK aV E) {post : Int32 → Prop}
    {k79 : Int32 → Int64 → Int32 → Int32 → Int32 → Int32 → Int32 → Prop} (hk79 : ∀ (x0 : Int32) (x1 : Int64) (x3 : Int32) (x4 : Int32) (x5 : Int32) (x6 : Int32) (x7 : Int32) (H : Heap) (locs : List Loc) (ls : Array Slot), va_S A s.heap H locs → lv_has ls 9 [(0, .int x0), (1, .long x1), (3, .int x3), (4, .int x4), (5, .int x5), (6, .int x6), (7, .int x7)] → k79 x0 x1 x3 x4 x5 x6 x7 → W p l e rm_X9_fits s m args below meth c H locs 0 0 (MQ below (va_Qi (S := Unit) (fun r _ => post r) (fun _ _ => True) A) args s 0 0 A) (F0 m 79 ls [])) :
    ∀ (x0 : Int32) (x1 : Int64) (x3 : Int32) (x4 : Int32) (x5 : Int32) (x6 : Int32) (x7 : Int32) (x8 : Int32) (H : Heap) (locs : List Loc) (ls : Array Slot), va_S A s.heap H locs → lv_has ls 9 [(0, .int x0), (1, .long x1), (3, .int x3), (4, .int x4), (5, .int x5), (6, .int x6), (7, .int x7), (8, .int x8)] → wB_X9_fits_246 post k79 x0 x1 x3 x4 x5 x6 x7 x8 → W p l e rm_X9_fits s m args below meth c H locs 0 0 (MQ below (va_Qi (S := Unit) (fun r _ => post r) (fun _ _ => True) A) args s 0 0 A) (F0 m 246 ls []) := by
  obtain ⟨hx, hb, hml, hr, hown, hts, hA, hlk, hE, vE⟩ := id C
  intro x0 x1 x3 x4 x5 x6 x7 x8 H locs ls hG hl hw
  have hS := hG
  refine lv_iload hx hb dX9_fits_246 (lv_at hl 7 rfl) ?_
  refine lv_bipush (v := 98) hx hb dX9_fits_248 (by decide) ?_
  refine lv_icmp_ne (tgt := 263) hx hb dX9_fits_250 (by decide) (fun q_ => ?_) (fun q_ => ?_)
  · have hw := hw.2 q_
    exact kB_X9_fits_263 C vM hk79 x0 x1 x3 x4 x5 x6 x7 x8 _ _ _ hG (lv_sub hl [0, 1, 2, 3, 4, 5, 6, 7] rfl) hw
  · have hw := hw.1 q_
    refine lv_lload_n hx hb dX9_fits_253 rfl (lv_at hl 1 rfl) ?_
    refine sS_i (As := [.long x1]) (rest := []) C (met_X9_b vE vM hw) (va_cwS 1 hts (TB_G (TB_3 tw_6_142 tw_6_143 tw_1_13) tw_6_144) rfl rfl rfl (by decide +kernel) ⟨by decide, by decide⟩) hS rfl hl.1 rfl (Nat.le_of_ble_eq_true rfl) dX9_fits_254 ⟨by decide, by decide⟩ (fun r_31 H locs hw hS => ?_)
    have hG := hS
    refine lv_iconst (v := 3) hx hb dX9_fits_257 (by decide) ?_
    refine lv_icmp_le (tgt := 263) hx hb dX9_fits_258 (by decide) (fun q_ => ?_) (fun q_ => ?_)
    · have hw := hw.1 q_
      exact kB_X9_fits_263 C vM hk79 x0 x1 x3 x4 x5 x6 x7 x8 _ _ _ hG (lv_sub hl [0, 1, 2, 3, 4, 5, 6, 7] rfl) hw
    · have hw := hw.2 q_
      exact kB_X9_fits_261 C vM  _ _ _ hG (lv_sub hl [] rfl) hw
set_option maxHeartbeats 4000000 in
set_option maxRecDepth 100000 in
theorem kB_X9_fits_231 {p : Program} {l : Launch} {e : Env} {s : State} {m : MethodId} {args : Array Value} {below : List Frame} {meth : Method} {c : Code} {A : Nat → Prop} {E : EnvT} {aK aV : Nat → Nat} (C : sCx p s m args meth c cX9_fits 9 (some .boolean) wgX9_fits RX9 E A) (vM : eMs aK aV E) {post : Int32 → Prop}
    {k79 : Int32 → Int64 → Int32 → Int32 → Int32 → Int32 → Int32 → Prop} (hk79 : ∀ (x0 : Int32) (x1 : Int64) (x3 : Int32) (x4 : Int32) (x5 : Int32) (x6 : Int32) (x7 : Int32) (H : Heap) (locs : List Loc) (ls : Array Slot), va_S A s.heap H locs → lv_has ls 9 [(0, .int x0), (1, .long x1), (3, .int x3), (4, .int x4), (5, .int x5), (6, .int x6), (7, .int x7)] → k79 x0 x1 x3 x4 x5 x6 x7 → W p l e rm_X9_fits s m args below meth c H locs 0 0 (MQ below (va_Qi (S := Unit) (fun r _ => post r) (fun _ _ => True) A) args s 0 0 A) (F0 m 79 ls [])) :
    ∀ (x0 : Int32) (x1 : Int64) (x3 : Int32) (x4 : Int32) (x5 : Int32) (x6 : Int32) (x7 : Int32) (x8 : Int32) (H : Heap) (locs : List Loc) (ls : Array Slot), va_S A s.heap H locs → lv_has ls 9 [(0, .int x0), (1, .long x1), (3, .int x3), (4, .int x4), (5, .int x5), (6, .int x6), (7, .int x7), (8, .int x8)] → wB_X9_fits_231 post k79 x0 x1 x3 x4 x5 x6 x7 x8 → W p l e rm_X9_fits s m args below meth c H locs 0 0 (MQ below (va_Qi (S := Unit) (fun r _ => post r) (fun _ _ => True) A) args s 0 0 A) (F0 m 231 ls []) := by
  obtain ⟨hx, hb, hml, hr, hown, hts, hA, hlk, hE, vE⟩ := id C
  intro x0 x1 x3 x4 x5 x6 x7 x8 H locs ls hG hl hw
  have hS := hG
  refine lv_iload hx hb dX9_fits_231 (lv_at hl 7 rfl) ?_
  refine lv_bipush (v := 97) hx hb dX9_fits_233 (by decide) ?_
  refine lv_icmp_ne (tgt := 246) hx hb dX9_fits_235 (by decide) (fun q_ => ?_) (fun q_ => ?_)
  · have hw := hw.2 q_
    exact kB_X9_fits_246 C vM hk79 x0 x1 x3 x4 x5 x6 x7 x8 _ _ _ hG (lv_sub hl [0, 1, 2, 3, 4, 5, 6, 7] rfl) hw
  · have hw := hw.1 q_
    refine lv_lload_n hx hb dX9_fits_238 rfl (lv_at hl 1 rfl) ?_
    refine sS_i (As := [.long x1]) (rest := []) C (met_X9_a vE vM hw) (va_cwS 1 hts (TB_G (TB_3 tw_6_139 tw_6_140 tw_1_13) tw_6_141) rfl rfl rfl (by decide +kernel) ⟨by decide, by decide⟩) hS rfl hl.1 rfl (Nat.le_of_ble_eq_true rfl) dX9_fits_239 ⟨by decide, by decide⟩ (fun r_33 H locs hw hS => ?_)
    have hG := hS
    refine lv_iconst (v := 3) hx hb dX9_fits_242 (by decide) ?_
    refine lv_icmp_gt (tgt := 261) hx hb dX9_fits_243 (by decide) (fun q_ => ?_) (fun q_ => ?_)
    · have hw := hw.1 q_
      exact kB_X9_fits_261 C vM  _ _ _ hG (lv_sub hl [] rfl) hw
    · have hw := hw.2 q_
      exact kB_X9_fits_246 C vM hk79 x0 x1 x3 x4 x5 x6 x7 x8 _ _ _ hG (lv_sub hl [0, 1, 2, 3, 4, 5, 6, 7] rfl) hw
set_option maxHeartbeats 4000000 in
set_option maxRecDepth 100000 in
theorem kB_X9_fits_214 {p : Program} {l : Launch} {e : Env} {s : State} {m : MethodId} {args : Array Value} {below : List Frame} {meth : Method} {c : Code} {A : Nat → Prop} {E : EnvT} {aK aV : Nat → Nat} (C : sCx p s m args meth c cX9_fits 9 (some .boolean) wgX9_fits RX9 E A) (vM : eMs aK aV E) {post : Int32 → Prop}
    {k79 : Int32 → Int64 → Int32 → Int32 → Int32 → Int32 → Int32 → Prop} (hk79 : ∀ (x0 : Int32) (x1 : Int64) (x3 : Int32) (x4 : Int32) (x5 : Int32) (x6 : Int32) (x7 : Int32) (H : Heap) (locs : List Loc) (ls : Array Slot), va_S A s.heap H locs → lv_has ls 9 [(0, .int x0), (1, .long x1), (3, .int x3), (4, .int x4), (5, .int x5), (6, .int x6), (7, .int x7)] → k79 x0 x1 x3 x4 x5 x6 x7 → W p l e rm_X9_fits s m args below meth c H locs 0 0 (MQ below (va_Qi (S := Unit) (fun r _ => post r) (fun _ _ => True) A) args s 0 0 A) (F0 m 79 ls [])) :
    ∀ (x0 : Int32) (x1 : Int64) (x3 : Int32) (x4 : Int32) (x5 : Int32) (x7 : Int32) (x8 : Int32) (t0 : Int32) (H : Heap) (locs : List Loc) (ls : Array Slot), va_S A s.heap H locs → lv_has ls 9 [(0, .int x0), (1, .long x1), (3, .int x3), (4, .int x4), (5, .int x5), (7, .int x7), (8, .int x8)] → wB_X9_fits_214 post k79 x0 x1 x3 x4 x5 x7 x8 t0 → W p l e rm_X9_fits s m args below meth c H locs 0 0 (MQ below (va_Qi (S := Unit) (fun r _ => post r) (fun _ _ => True) A) args s 0 0 A) (F0 m 214 ls [.int t0]) := by
  obtain ⟨hx, hb, hml, hr, hown, hts, hA, hlk, hE, vE⟩ := id C
  intro x0 x1 x3 x4 x5 x7 x8 t0 H locs ls hG hl hw
  have hS := hG
  refine lv_istore (lv' := [(6, .int t0), (0, .int x0), (1, .long x1), (3, .int x3), (4, .int x4), (5, .int x5), (7, .int x7), (8, .int x8)]) hx hb dX9_fits_214 hl (by decide) rfl (fun ls hl => ?_)
  refine lv_iload hx hb dX9_fits_216 (lv_at hl 7 rfl) ?_
  refine lv_bipush (v := 100) hx hb dX9_fits_218 (by decide) ?_
  refine lv_icmp_ne (tgt := 231) hx hb dX9_fits_220 (by decide) (fun q_ => ?_) (fun q_ => ?_)
  · have hw := hw.2 q_
    exact kB_X9_fits_231 C vM hk79 x0 x1 x3 x4 x5 t0 x7 x8 _ _ _ hG (lv_sub hl [1, 2, 3, 4, 5, 0, 6, 7] rfl) hw
  · have hw := hw.1 q_
    refine lv_lload_n hx hb dX9_fits_223 rfl (lv_at hl 2 rfl) ?_
    refine sS_i (As := [.long x1]) (rest := []) C (met_X9_d vE vM hw) (va_cwS 1 hts (TB_G (TB_3 tw_6_136 tw_6_137 tw_1_13) tw_6_138) rfl rfl rfl (by decide +kernel) ⟨by decide, by decide⟩) hS rfl hl.1 rfl (Nat.le_of_ble_eq_true rfl) dX9_fits_224 ⟨by decide, by decide⟩ (fun r_35 H locs hw hS => ?_)
    have hG := hS
    refine lv_iconst (v := 3) hx hb dX9_fits_227 (by decide) ?_
    refine lv_icmp_gt (tgt := 261) hx hb dX9_fits_228 (by decide) (fun q_ => ?_) (fun q_ => ?_)
    · have hw := hw.1 q_
      exact kB_X9_fits_261 C vM  _ _ _ hG (lv_sub hl [] rfl) hw
    · have hw := hw.2 q_
      exact kB_X9_fits_231 C vM hk79 x0 x1 x3 x4 x5 t0 x7 x8 _ _ _ hG (lv_sub hl [1, 2, 3, 4, 5, 0, 6, 7] rfl) hw
set_option maxHeartbeats 4000000 in
set_option maxRecDepth 100000 in
theorem kB_X9_fits_209 {p : Program} {l : Launch} {e : Env} {s : State} {m : MethodId} {args : Array Value} {below : List Frame} {meth : Method} {c : Code} {A : Nat → Prop} {E : EnvT} {aK aV : Nat → Nat} (C : sCx p s m args meth c cX9_fits 9 (some .boolean) wgX9_fits RX9 E A) (vM : eMs aK aV E) {post : Int32 → Prop}
    {k79 : Int32 → Int64 → Int32 → Int32 → Int32 → Int32 → Int32 → Prop} (hk79 : ∀ (x0 : Int32) (x1 : Int64) (x3 : Int32) (x4 : Int32) (x5 : Int32) (x6 : Int32) (x7 : Int32) (H : Heap) (locs : List Loc) (ls : Array Slot), va_S A s.heap H locs → lv_has ls 9 [(0, .int x0), (1, .long x1), (3, .int x3), (4, .int x4), (5, .int x5), (6, .int x6), (7, .int x7)] → k79 x0 x1 x3 x4 x5 x6 x7 → W p l e rm_X9_fits s m args below meth c H locs 0 0 (MQ below (va_Qi (S := Unit) (fun r _ => post r) (fun _ _ => True) A) args s 0 0 A) (F0 m 79 ls [])) :
    ∀ (x0 : Int32) (x1 : Int64) (x3 : Int32) (x4 : Int32) (x5 : Int32) (x7 : Int32) (x8 : Int32) (H : Heap) (locs : List Loc) (ls : Array Slot), va_S A s.heap H locs → lv_has ls 9 [(0, .int x0), (1, .long x1), (3, .int x3), (4, .int x4), (5, .int x5), (7, .int x7), (8, .int x8)] → wB_X9_fits_209 post k79 x0 x1 x3 x4 x5 x7 x8 → W p l e rm_X9_fits s m args below meth c H locs 0 0 (MQ below (va_Qi (S := Unit) (fun r _ => post r) (fun _ _ => True) A) args s 0 0 A) (F0 m 209 ls []) := by
  obtain ⟨hx, hb, hml, hr, hown, hts, hA, hlk, hE, vE⟩ := id C
  intro x0 x1 x3 x4 x5 x7 x8 H locs ls hG hl hw
  have hS := hG
  refine lv_iconst (v := 1) hx hb dX9_fits_209 (by decide) ?_
  refine lv_goto (tgt := 214) hx hb dX9_fits_210 (by decide) ?_
  exact kB_X9_fits_214 C vM hk79 x0 x1 x3 x4 x5 x7 x8 1 _ _ _ hG (lv_sub hl [0, 1, 2, 3, 4, 5, 6] rfl) hw
set_option maxHeartbeats 4000000 in
set_option maxRecDepth 100000 in
theorem kB_X9_fits_174 {p : Program} {l : Launch} {e : Env} {s : State} {m : MethodId} {args : Array Value} {below : List Frame} {meth : Method} {c : Code} {A : Nat → Prop} {E : EnvT} {aK aV : Nat → Nat} (C : sCx p s m args meth c cX9_fits 9 (some .boolean) wgX9_fits RX9 E A) (vM : eMs aK aV E) {post : Int32 → Prop}
    {k79 : Int32 → Int64 → Int32 → Int32 → Int32 → Int32 → Int32 → Prop} (hk79 : ∀ (x0 : Int32) (x1 : Int64) (x3 : Int32) (x4 : Int32) (x5 : Int32) (x6 : Int32) (x7 : Int32) (H : Heap) (locs : List Loc) (ls : Array Slot), va_S A s.heap H locs → lv_has ls 9 [(0, .int x0), (1, .long x1), (3, .int x3), (4, .int x4), (5, .int x5), (6, .int x6), (7, .int x7)] → k79 x0 x1 x3 x4 x5 x6 x7 → W p l e rm_X9_fits s m args below meth c H locs 0 0 (MQ below (va_Qi (S := Unit) (fun r _ => post r) (fun _ _ => True) A) args s 0 0 A) (F0 m 79 ls [])) :
    ∀ (x0 : Int32) (x1 : Int64) (x3 : Int32) (x4 : Int32) (x6 : Int32) (x7 : Int32) (x8 : Int32) (t0 : Int32) (H : Heap) (locs : List Loc) (ls : Array Slot), va_S A s.heap H locs → lv_has ls 9 [(0, .int x0), (1, .long x1), (3, .int x3), (4, .int x4), (6, .int x6), (7, .int x7), (8, .int x8)] → wB_X9_fits_174 post k79 x0 x1 x3 x4 x6 x7 x8 t0 → W p l e rm_X9_fits s m args below meth c H locs 0 0 (MQ below (va_Qi (S := Unit) (fun r _ => post r) (fun _ _ => True) A) args s 0 0 A) (F0 m 174 ls [.int t0]) := by
  obtain ⟨hx, hb, hml, hr, hown, hts, hA, hlk, hE, vE⟩ := id C
  intro x0 x1 x3 x4 x6 x7 x8 t0 H locs ls hG hl hw
  have hS := hG
  refine lv_istore (lv' := [(5, .int t0), (0, .int x0), (1, .long x1), (3, .int x3), (4, .int x4), (6, .int x6), (7, .int x7), (8, .int x8)]) hx hb dX9_fits_174 hl (by decide) rfl (fun ls hl => ?_)
  refine lv_iload hx hb dX9_fits_176 (lv_at hl 5 rfl) ?_
  refine lv_if_ne (tgt := 209) hx hb dX9_fits_178 (by decide) (fun q_ => ?_) (fun q_ => ?_)
  · have hw := hw.2 q_
    exact kB_X9_fits_209 C vM hk79 x0 x1 x3 x4 t0 x7 x8 _ _ _ hG (lv_sub hl [1, 2, 3, 4, 0, 6, 7] rfl) hw
  · have hw := hw.1 q_
    refine lv_iload hx hb dX9_fits_181 (lv_at hl 7 rfl) ?_
    refine lv_bipush (v := 78) hx hb dX9_fits_183 (by decide) ?_
    refine lv_icmp_eq (tgt := 209) hx hb dX9_fits_185 (by decide) (fun q_ => ?_) (fun q_ => ?_)
    · have hw := hw.1 q_
      exact kB_X9_fits_209 C vM hk79 x0 x1 x3 x4 t0 x7 x8 _ _ _ hG (lv_sub hl [1, 2, 3, 4, 0, 6, 7] rfl) hw
    · have hw := hw.2 q_
      refine lv_iload hx hb dX9_fits_188 (lv_at hl 7 rfl) ?_
      refine lv_bipush (v := 71) hx hb dX9_fits_190 (by decide) ?_
      refine lv_icmp_eq (tgt := 209) hx hb dX9_fits_192 (by decide) (fun q_ => ?_) (fun q_ => ?_)
      · have hw := hw.1 q_
        exact kB_X9_fits_209 C vM hk79 x0 x1 x3 x4 t0 x7 x8 _ _ _ hG (lv_sub hl [1, 2, 3, 4, 0, 6, 7] rfl) hw
      · have hw := hw.2 q_
        refine lv_iload hx hb dX9_fits_195 (lv_at hl 7 rfl) ?_
        refine lv_bipush (v := 77) hx hb dX9_fits_197 (by decide) ?_
        refine lv_icmp_eq (tgt := 209) hx hb dX9_fits_199 (by decide) (fun q_ => ?_) (fun q_ => ?_)
        · have hw := hw.1 q_
          exact kB_X9_fits_209 C vM hk79 x0 x1 x3 x4 t0 x7 x8 _ _ _ hG (lv_sub hl [1, 2, 3, 4, 0, 6, 7] rfl) hw
        · have hw := hw.2 q_
          refine lv_iload hx hb dX9_fits_202 (lv_at hl 7 rfl) ?_
          refine lv_bipush (v := 80) hx hb dX9_fits_204 (by decide) ?_
          refine lv_icmp_ne (tgt := 213) hx hb dX9_fits_206 (by decide) (fun q_ => ?_) (fun q_ => ?_)
          · have hw := hw.2 q_
            refine lv_iconst (v := 0) hx hb dX9_fits_213 (by decide) ?_
            exact kB_X9_fits_214 C vM hk79 x0 x1 x3 x4 t0 x7 x8 0 _ _ _ hG (lv_sub hl [1, 2, 3, 4, 0, 6, 7] rfl) hw
          · have hw := hw.1 q_
            exact kB_X9_fits_209 C vM hk79 x0 x1 x3 x4 t0 x7 x8 _ _ _ hG (lv_sub hl [1, 2, 3, 4, 0, 6, 7] rfl) hw
set_option maxHeartbeats 4000000 in
set_option maxRecDepth 100000 in
theorem kB_X9_fits_169 {p : Program} {l : Launch} {e : Env} {s : State} {m : MethodId} {args : Array Value} {below : List Frame} {meth : Method} {c : Code} {A : Nat → Prop} {E : EnvT} {aK aV : Nat → Nat} (C : sCx p s m args meth c cX9_fits 9 (some .boolean) wgX9_fits RX9 E A) (vM : eMs aK aV E) {post : Int32 → Prop}
    {k79 : Int32 → Int64 → Int32 → Int32 → Int32 → Int32 → Int32 → Prop} (hk79 : ∀ (x0 : Int32) (x1 : Int64) (x3 : Int32) (x4 : Int32) (x5 : Int32) (x6 : Int32) (x7 : Int32) (H : Heap) (locs : List Loc) (ls : Array Slot), va_S A s.heap H locs → lv_has ls 9 [(0, .int x0), (1, .long x1), (3, .int x3), (4, .int x4), (5, .int x5), (6, .int x6), (7, .int x7)] → k79 x0 x1 x3 x4 x5 x6 x7 → W p l e rm_X9_fits s m args below meth c H locs 0 0 (MQ below (va_Qi (S := Unit) (fun r _ => post r) (fun _ _ => True) A) args s 0 0 A) (F0 m 79 ls [])) :
    ∀ (x0 : Int32) (x1 : Int64) (x3 : Int32) (x4 : Int32) (x6 : Int32) (x7 : Int32) (x8 : Int32) (H : Heap) (locs : List Loc) (ls : Array Slot), va_S A s.heap H locs → lv_has ls 9 [(0, .int x0), (1, .long x1), (3, .int x3), (4, .int x4), (6, .int x6), (7, .int x7), (8, .int x8)] → wB_X9_fits_169 post k79 x0 x1 x3 x4 x6 x7 x8 → W p l e rm_X9_fits s m args below meth c H locs 0 0 (MQ below (va_Qi (S := Unit) (fun r _ => post r) (fun _ _ => True) A) args s 0 0 A) (F0 m 169 ls []) := by
  obtain ⟨hx, hb, hml, hr, hown, hts, hA, hlk, hE, vE⟩ := id C
  intro x0 x1 x3 x4 x6 x7 x8 H locs ls hG hl hw
  have hS := hG
  refine lv_iconst (v := 1) hx hb dX9_fits_169 (by decide) ?_
  refine lv_goto (tgt := 174) hx hb dX9_fits_170 (by decide) ?_
  exact kB_X9_fits_174 C vM hk79 x0 x1 x3 x4 x6 x7 x8 1 _ _ _ hG (lv_sub hl [0, 1, 2, 3, 4, 5, 6] rfl) hw
set_option maxHeartbeats 4000000 in
set_option maxRecDepth 100000 in
theorem kB_X9_fits_148 {p : Program} {l : Launch} {e : Env} {s : State} {m : MethodId} {args : Array Value} {below : List Frame} {meth : Method} {c : Code} {A : Nat → Prop} {E : EnvT} {aK aV : Nat → Nat} (C : sCx p s m args meth c cX9_fits 9 (some .boolean) wgX9_fits RX9 E A) (vM : eMs aK aV E) {post : Int32 → Prop}
    {k79 : Int32 → Int64 → Int32 → Int32 → Int32 → Int32 → Int32 → Prop} (hk79 : ∀ (x0 : Int32) (x1 : Int64) (x3 : Int32) (x4 : Int32) (x5 : Int32) (x6 : Int32) (x7 : Int32) (H : Heap) (locs : List Loc) (ls : Array Slot), va_S A s.heap H locs → lv_has ls 9 [(0, .int x0), (1, .long x1), (3, .int x3), (4, .int x4), (5, .int x5), (6, .int x6), (7, .int x7)] → k79 x0 x1 x3 x4 x5 x6 x7 → W p l e rm_X9_fits s m args below meth c H locs 0 0 (MQ below (va_Qi (S := Unit) (fun r _ => post r) (fun _ _ => True) A) args s 0 0 A) (F0 m 79 ls [])) :
    ∀ (x0 : Int32) (x1 : Int64) (x3 : Int32) (x5 : Int32) (x6 : Int32) (x7 : Int32) (x8 : Int32) (t0 : Int32) (H : Heap) (locs : List Loc) (ls : Array Slot), va_S A s.heap H locs → lv_has ls 9 [(0, .int x0), (1, .long x1), (3, .int x3), (5, .int x5), (6, .int x6), (7, .int x7), (8, .int x8)] → wB_X9_fits_148 post k79 x0 x1 x3 x5 x6 x7 x8 t0 → W p l e rm_X9_fits s m args below meth c H locs 0 0 (MQ below (va_Qi (S := Unit) (fun r _ => post r) (fun _ _ => True) A) args s 0 0 A) (F0 m 148 ls [.int t0]) := by
  obtain ⟨hx, hb, hml, hr, hown, hts, hA, hlk, hE, vE⟩ := id C
  intro x0 x1 x3 x5 x6 x7 x8 t0 H locs ls hG hl hw
  have hS := hG
  refine lv_istore (lv' := [(4, .int t0), (0, .int x0), (1, .long x1), (3, .int x3), (5, .int x5), (6, .int x6), (7, .int x7), (8, .int x8)]) hx hb dX9_fits_148 hl (by decide) rfl (fun ls hl => ?_)
  refine lv_iload hx hb dX9_fits_150 (lv_at hl 4 rfl) ?_
  refine lv_if_ne (tgt := 169) hx hb dX9_fits_152 (by decide) (fun q_ => ?_) (fun q_ => ?_)
  · have hw := hw.2 q_
    exact kB_X9_fits_169 C vM hk79 x0 x1 x3 t0 x6 x7 x8 _ _ _ hG (lv_sub hl [1, 2, 3, 0, 5, 6, 7] rfl) hw
  · have hw := hw.1 q_
    refine lv_iload hx hb dX9_fits_155 (lv_at hl 7 rfl) ?_
    refine lv_bipush (v := 66) hx hb dX9_fits_157 (by decide) ?_
    refine lv_icmp_eq (tgt := 169) hx hb dX9_fits_159 (by decide) (fun q_ => ?_) (fun q_ => ?_)
    · have hw := hw.1 q_
      exact kB_X9_fits_169 C vM hk79 x0 x1 x3 t0 x6 x7 x8 _ _ _ hG (lv_sub hl [1, 2, 3, 0, 5, 6, 7] rfl) hw
    · have hw := hw.2 q_
      refine lv_iload hx hb dX9_fits_162 (lv_at hl 7 rfl) ?_
      refine lv_bipush (v := 98) hx hb dX9_fits_164 (by decide) ?_
      refine lv_icmp_ne (tgt := 173) hx hb dX9_fits_166 (by decide) (fun q_ => ?_) (fun q_ => ?_)
      · have hw := hw.2 q_
        refine lv_iconst (v := 0) hx hb dX9_fits_173 (by decide) ?_
        exact kB_X9_fits_174 C vM hk79 x0 x1 x3 t0 x6 x7 x8 0 _ _ _ hG (lv_sub hl [1, 2, 3, 0, 5, 6, 7] rfl) hw
      · have hw := hw.1 q_
        exact kB_X9_fits_169 C vM hk79 x0 x1 x3 t0 x6 x7 x8 _ _ _ hG (lv_sub hl [1, 2, 3, 0, 5, 6, 7] rfl) hw
set_option maxHeartbeats 4000000 in
set_option maxRecDepth 100000 in
theorem kB_X9_fits_143 {p : Program} {l : Launch} {e : Env} {s : State} {m : MethodId} {args : Array Value} {below : List Frame} {meth : Method} {c : Code} {A : Nat → Prop} {E : EnvT} {aK aV : Nat → Nat} (C : sCx p s m args meth c cX9_fits 9 (some .boolean) wgX9_fits RX9 E A) (vM : eMs aK aV E) {post : Int32 → Prop}
    {k79 : Int32 → Int64 → Int32 → Int32 → Int32 → Int32 → Int32 → Prop} (hk79 : ∀ (x0 : Int32) (x1 : Int64) (x3 : Int32) (x4 : Int32) (x5 : Int32) (x6 : Int32) (x7 : Int32) (H : Heap) (locs : List Loc) (ls : Array Slot), va_S A s.heap H locs → lv_has ls 9 [(0, .int x0), (1, .long x1), (3, .int x3), (4, .int x4), (5, .int x5), (6, .int x6), (7, .int x7)] → k79 x0 x1 x3 x4 x5 x6 x7 → W p l e rm_X9_fits s m args below meth c H locs 0 0 (MQ below (va_Qi (S := Unit) (fun r _ => post r) (fun _ _ => True) A) args s 0 0 A) (F0 m 79 ls [])) :
    ∀ (x0 : Int32) (x1 : Int64) (x3 : Int32) (x5 : Int32) (x6 : Int32) (x7 : Int32) (x8 : Int32) (H : Heap) (locs : List Loc) (ls : Array Slot), va_S A s.heap H locs → lv_has ls 9 [(0, .int x0), (1, .long x1), (3, .int x3), (5, .int x5), (6, .int x6), (7, .int x7), (8, .int x8)] → wB_X9_fits_143 post k79 x0 x1 x3 x5 x6 x7 x8 → W p l e rm_X9_fits s m args below meth c H locs 0 0 (MQ below (va_Qi (S := Unit) (fun r _ => post r) (fun _ _ => True) A) args s 0 0 A) (F0 m 143 ls []) := by
  obtain ⟨hx, hb, hml, hr, hown, hts, hA, hlk, hE, vE⟩ := id C
  intro x0 x1 x3 x5 x6 x7 x8 H locs ls hG hl hw
  have hS := hG
  refine lv_iconst (v := 1) hx hb dX9_fits_143 (by decide) ?_
  refine lv_goto (tgt := 148) hx hb dX9_fits_144 (by decide) ?_
  exact kB_X9_fits_148 C vM hk79 x0 x1 x3 x5 x6 x7 x8 1 _ _ _ hG (lv_sub hl [0, 1, 2, 3, 4, 5, 6] rfl) hw
set_option maxHeartbeats 4000000 in
set_option maxRecDepth 100000 in
theorem kB_X9_fits_116 {p : Program} {l : Launch} {e : Env} {s : State} {m : MethodId} {args : Array Value} {below : List Frame} {meth : Method} {c : Code} {A : Nat → Prop} {E : EnvT} {aK aV : Nat → Nat} (C : sCx p s m args meth c cX9_fits 9 (some .boolean) wgX9_fits RX9 E A) (vM : eMs aK aV E) {post : Int32 → Prop}
    {k79 : Int32 → Int64 → Int32 → Int32 → Int32 → Int32 → Int32 → Prop} (hk79 : ∀ (x0 : Int32) (x1 : Int64) (x3 : Int32) (x4 : Int32) (x5 : Int32) (x6 : Int32) (x7 : Int32) (H : Heap) (locs : List Loc) (ls : Array Slot), va_S A s.heap H locs → lv_has ls 9 [(0, .int x0), (1, .long x1), (3, .int x3), (4, .int x4), (5, .int x5), (6, .int x6), (7, .int x7)] → k79 x0 x1 x3 x4 x5 x6 x7 → W p l e rm_X9_fits s m args below meth c H locs 0 0 (MQ below (va_Qi (S := Unit) (fun r _ => post r) (fun _ _ => True) A) args s 0 0 A) (F0 m 79 ls [])) :
    ∀ (x0 : Int32) (x1 : Int64) (x4 : Int32) (x5 : Int32) (x6 : Int32) (x7 : Int32) (x8 : Int32) (t0 : Int32) (H : Heap) (locs : List Loc) (ls : Array Slot), va_S A s.heap H locs → lv_has ls 9 [(0, .int x0), (1, .long x1), (4, .int x4), (5, .int x5), (6, .int x6), (7, .int x7), (8, .int x8)] → wB_X9_fits_116 post k79 x0 x1 x4 x5 x6 x7 x8 t0 → W p l e rm_X9_fits s m args below meth c H locs 0 0 (MQ below (va_Qi (S := Unit) (fun r _ => post r) (fun _ _ => True) A) args s 0 0 A) (F0 m 116 ls [.int t0]) := by
  obtain ⟨hx, hb, hml, hr, hown, hts, hA, hlk, hE, vE⟩ := id C
  intro x0 x1 x4 x5 x6 x7 x8 t0 H locs ls hG hl hw
  have hS := hG
  refine lv_istore_n (lv' := [(3, .int t0), (0, .int x0), (1, .long x1), (4, .int x4), (5, .int x5), (6, .int x6), (7, .int x7), (8, .int x8)]) hx hb dX9_fits_116 rfl hl (by decide) rfl (fun ls hl => ?_)
  refine lv_iload hx hb dX9_fits_117 (lv_at hl 3 rfl) ?_
  refine lv_if_ne (tgt := 143) hx hb dX9_fits_119 (by decide) (fun q_ => ?_) (fun q_ => ?_)
  · have hw := hw.2 q_
    exact kB_X9_fits_143 C vM hk79 x0 x1 t0 x5 x6 x7 x8 _ _ _ hG (lv_sub hl [1, 2, 0, 4, 5, 6, 7] rfl) hw
  · have hw := hw.1 q_
    refine lv_iload hx hb dX9_fits_122 (lv_at hl 7 rfl) ?_
    refine lv_bipush (v := 65) hx hb dX9_fits_124 (by decide) ?_
    refine lv_icmp_eq (tgt := 143) hx hb dX9_fits_126 (by decide) (fun q_ => ?_) (fun q_ => ?_)
    · have hw := hw.1 q_
      exact kB_X9_fits_143 C vM hk79 x0 x1 t0 x5 x6 x7 x8 _ _ _ hG (lv_sub hl [1, 2, 0, 4, 5, 6, 7] rfl) hw
    · have hw := hw.2 q_
      refine lv_iload hx hb dX9_fits_129 (lv_at hl 7 rfl) ?_
      refine lv_bipush (v := 97) hx hb dX9_fits_131 (by decide) ?_
      refine lv_icmp_eq (tgt := 143) hx hb dX9_fits_133 (by decide) (fun q_ => ?_) (fun q_ => ?_)
      · have hw := hw.1 q_
        exact kB_X9_fits_143 C vM hk79 x0 x1 t0 x5 x6 x7 x8 _ _ _ hG (lv_sub hl [1, 2, 0, 4, 5, 6, 7] rfl) hw
      · have hw := hw.2 q_
        refine lv_iload hx hb dX9_fits_136 (lv_at hl 7 rfl) ?_
        refine lv_bipush (v := 77) hx hb dX9_fits_138 (by decide) ?_
        refine lv_icmp_ne (tgt := 147) hx hb dX9_fits_140 (by decide) (fun q_ => ?_) (fun q_ => ?_)
        · have hw := hw.2 q_
          refine lv_iconst (v := 0) hx hb dX9_fits_147 (by decide) ?_
          exact kB_X9_fits_148 C vM hk79 x0 x1 t0 x5 x6 x7 x8 0 _ _ _ hG (lv_sub hl [1, 2, 0, 4, 5, 6, 7] rfl) hw
        · have hw := hw.1 q_
          exact kB_X9_fits_143 C vM hk79 x0 x1 t0 x5 x6 x7 x8 _ _ _ hG (lv_sub hl [1, 2, 0, 4, 5, 6, 7] rfl) hw
set_option maxHeartbeats 4000000 in
set_option maxRecDepth 100000 in
theorem kB_X9_fits_111 {p : Program} {l : Launch} {e : Env} {s : State} {m : MethodId} {args : Array Value} {below : List Frame} {meth : Method} {c : Code} {A : Nat → Prop} {E : EnvT} {aK aV : Nat → Nat} (C : sCx p s m args meth c cX9_fits 9 (some .boolean) wgX9_fits RX9 E A) (vM : eMs aK aV E) {post : Int32 → Prop}
    {k79 : Int32 → Int64 → Int32 → Int32 → Int32 → Int32 → Int32 → Prop} (hk79 : ∀ (x0 : Int32) (x1 : Int64) (x3 : Int32) (x4 : Int32) (x5 : Int32) (x6 : Int32) (x7 : Int32) (H : Heap) (locs : List Loc) (ls : Array Slot), va_S A s.heap H locs → lv_has ls 9 [(0, .int x0), (1, .long x1), (3, .int x3), (4, .int x4), (5, .int x5), (6, .int x6), (7, .int x7)] → k79 x0 x1 x3 x4 x5 x6 x7 → W p l e rm_X9_fits s m args below meth c H locs 0 0 (MQ below (va_Qi (S := Unit) (fun r _ => post r) (fun _ _ => True) A) args s 0 0 A) (F0 m 79 ls [])) :
    ∀ (x0 : Int32) (x1 : Int64) (x4 : Int32) (x5 : Int32) (x6 : Int32) (x7 : Int32) (x8 : Int32) (H : Heap) (locs : List Loc) (ls : Array Slot), va_S A s.heap H locs → lv_has ls 9 [(0, .int x0), (1, .long x1), (4, .int x4), (5, .int x5), (6, .int x6), (7, .int x7), (8, .int x8)] → wB_X9_fits_111 post k79 x0 x1 x4 x5 x6 x7 x8 → W p l e rm_X9_fits s m args below meth c H locs 0 0 (MQ below (va_Qi (S := Unit) (fun r _ => post r) (fun _ _ => True) A) args s 0 0 A) (F0 m 111 ls []) := by
  obtain ⟨hx, hb, hml, hr, hown, hts, hA, hlk, hE, vE⟩ := id C
  intro x0 x1 x4 x5 x6 x7 x8 H locs ls hG hl hw
  have hS := hG
  refine lv_iconst (v := 1) hx hb dX9_fits_111 (by decide) ?_
  refine lv_goto (tgt := 116) hx hb dX9_fits_112 (by decide) ?_
  exact kB_X9_fits_116 C vM hk79 x0 x1 x4 x5 x6 x7 x8 1 _ _ _ hG (lv_sub hl [0, 1, 2, 3, 4, 5, 6] rfl) hw
set_option maxHeartbeats 4000000 in
set_option maxRecDepth 100000 in
theorem kB_X9_fits_79 {p : Program} {l : Launch} {e : Env} {s : State} {m : MethodId} {args : Array Value} {below : List Frame} {meth : Method} {c : Code} {A : Nat → Prop} {E : EnvT} {aK aV : Nat → Nat} (C : sCx p s m args meth c cX9_fits 9 (some .boolean) wgX9_fits RX9 E A) (vM : eMs aK aV E) {post : Int32 → Prop}
    {k79 : Int32 → Int64 → Int32 → Int32 → Int32 → Int32 → Int32 → Prop} (hk79 : ∀ (x0 : Int32) (x1 : Int64) (x3 : Int32) (x4 : Int32) (x5 : Int32) (x6 : Int32) (x7 : Int32) (H : Heap) (locs : List Loc) (ls : Array Slot), va_S A s.heap H locs → lv_has ls 9 [(0, .int x0), (1, .long x1), (3, .int x3), (4, .int x4), (5, .int x5), (6, .int x6), (7, .int x7)] → k79 x0 x1 x3 x4 x5 x6 x7 → W p l e rm_X9_fits s m args below meth c H locs 0 0 (MQ below (va_Qi (S := Unit) (fun r _ => post r) (fun _ _ => True) A) args s 0 0 A) (F0 m 79 ls [])) :
    ∀ (x0 : Int32) (x1 : Int64) (x3 : Int32) (x4 : Int32) (x5 : Int32) (x6 : Int32) (x7 : Int32) (H : Heap) (locs : List Loc) (ls : Array Slot), va_S A s.heap H locs → lv_has ls 9 [(0, .int x0), (1, .long x1), (3, .int x3), (4, .int x4), (5, .int x5), (6, .int x6), (7, .int x7)] → wB_X9_fits_79 post k79 x0 x1 x3 x4 x5 x6 x7 → W p l e rm_X9_fits s m args below meth c H locs 0 0 (MQ below (va_Qi (S := Unit) (fun r _ => post r) (fun _ _ => True) A) args s 0 0 A) (F0 m 79 ls []) := by
  obtain ⟨hx, hb, hml, hr, hown, hts, hA, hlk, hE, vE⟩ := id C
  intro x0 x1 x3 x4 x5 x6 x7 H locs ls hG hl hw
  have hS := hG
  refine lv_iload hx hb dX9_fits_79 (lv_at hl 6 rfl) ?_
  refine lv_iconst (v := 4) hx hb dX9_fits_81 (by decide) ?_
  refine lv_icmp_ge (tgt := 316) hx hb dX9_fits_82 (by decide) (fun q_ => ?_) (fun q_ => ?_)
  · have hw := hw.1 q_
    refine lv_iload_n hx hb dX9_fits_316 rfl (lv_at hl 2 rfl) ?_
    refine lv_if_ne (tgt := 327) hx hb dX9_fits_317 (by decide) (fun q_ => ?_) (fun q_ => ?_)
    · have hw := hw.2 q_
      exact kB_X9_fits_327 C vM x1 x4 x5 x6 _ _ _ hG (lv_sub hl [1, 3, 4, 5] rfl) hw
    · have hw := hw.1 q_
      refine lv_lload_n hx hb dX9_fits_320 rfl (lv_at hl 1 rfl) ?_
      refine sS_i (As := [.long x1]) (rest := []) C (met_X9_d vE vM hw) (va_cwS 1 hts (TB_G (TB_3 tw_6_136 tw_6_137 tw_1_13) tw_6_138) rfl rfl rfl (by decide +kernel) ⟨by decide, by decide⟩) hS rfl hl.1 rfl (Nat.le_of_ble_eq_true rfl) dX9_fits_321 ⟨by decide, by decide⟩ (fun r_18 H locs hw hS => ?_)
      have hG := hS
      refine lv_if_ne (tgt := 367) hx hb dX9_fits_324 (by decide) (fun q_ => ?_) (fun q_ => ?_)
      · have hw := hw.2 q_
        exact kB_X9_fits_367 C vM  _ _ _ hG (lv_sub hl [] rfl) hw
      · have hw := hw.1 q_
        exact kB_X9_fits_327 C vM x1 x4 x5 x6 _ _ _ hG (lv_sub hl [1, 3, 4, 5] rfl) hw
  · have hw := hw.2 q_
    refine lv_iload_n hx hb dX9_fits_85 rfl (lv_at hl 0 rfl) ?_
    refine lv_iload hx hb dX9_fits_86 (lv_at hl 6 rfl) ?_
    refine sS_i (As := [.int x0, .int x7]) (rest := []) C (met_X9_part vE vM hw) (va_cwS 2 hts (TB_G (TB_3 tw_6_77 tw_6_78 tw_1_13) tw_6_79) rfl rfl rfl (by decide +kernel) ⟨by decide, by decide⟩) hS rfl hl.1 rfl (Nat.le_of_ble_eq_true rfl) dX9_fits_88 ⟨by decide, by decide⟩ (fun r_20 H locs hw hS => ?_)
    have hG := hS
    refine lv_istore (lv' := [(8, .int r_20), (0, .int x0), (1, .long x1), (3, .int x3), (4, .int x4), (5, .int x5), (6, .int x6), (7, .int x7)]) hx hb dX9_fits_91 hl (by decide) rfl (fun ls hl => ?_)
    refine lv_iload_n hx hb dX9_fits_93 rfl (lv_at hl 3 rfl) ?_
    refine lv_if_ne (tgt := 111) hx hb dX9_fits_94 (by decide) (fun q_ => ?_) (fun q_ => ?_)
    · have hw := hw.2 q_
      exact kB_X9_fits_111 C vM hk79 x0 x1 x4 x5 x6 x7 r_20 _ _ _ hG (lv_sub hl [1, 2, 4, 5, 6, 7, 0] rfl) hw
    · have hw := hw.1 q_
      refine lv_iload hx hb dX9_fits_97 (lv_at hl 0 rfl) ?_
      refine lv_bipush (v := 68) hx hb dX9_fits_99 (by decide) ?_
      refine lv_icmp_eq (tgt := 111) hx hb dX9_fits_101 (by decide) (fun q_ => ?_) (fun q_ => ?_)
      · have hw := hw.1 q_
        exact kB_X9_fits_111 C vM hk79 x0 x1 x4 x5 x6 x7 r_20 _ _ _ hG (lv_sub hl [1, 2, 4, 5, 6, 7, 0] rfl) hw
      · have hw := hw.2 q_
        refine lv_iload hx hb dX9_fits_104 (lv_at hl 0 rfl) ?_
        refine lv_bipush (v := 100) hx hb dX9_fits_106 (by decide) ?_
        refine lv_icmp_ne (tgt := 115) hx hb dX9_fits_108 (by decide) (fun q_ => ?_) (fun q_ => ?_)
        · have hw := hw.2 q_
          refine lv_iconst (v := 0) hx hb dX9_fits_115 (by decide) ?_
          exact kB_X9_fits_116 C vM hk79 x0 x1 x4 x5 x6 x7 r_20 0 _ _ _ hG (lv_sub hl [1, 2, 4, 5, 6, 7, 0] rfl) hw
        · have hw := hw.1 q_
          exact kB_X9_fits_111 C vM hk79 x0 x1 x4 x5 x6 x7 r_20 _ _ _ hG (lv_sub hl [1, 2, 4, 5, 6, 7, 0] rfl) hw
theorem kL_X9_fits_79 {p : Program} {l : Launch} {e : Env} {s : State} {m : MethodId} {args : Array Value} {below : List Frame} {meth : Method} {c : Code} {A : Nat → Prop} {E : EnvT} {aK aV : Nat → Nat} (C : sCx p s m args meth c cX9_fits 9 (some .boolean) wgX9_fits RX9 E A) (vM : eMs aK aV E) {post : Int32 → Prop} :
    ∀ (n : Nat) (x0 : Int32) (x1 : Int64) (x3 : Int32) (x4 : Int32) (x5 : Int32) (x6 : Int32) (x7 : Int32) (H : Heap) (locs : List Loc) (ls : Array Slot), va_S A s.heap H locs → lv_has ls 9 [(0, .int x0), (1, .long x1), (3, .int x3), (4, .int x4), (5, .int x5), (6, .int x6), (7, .int x7)] → wL_X9_fits_79 post n x0 x1 x3 x4 x5 x6 x7 → W p l e rm_X9_fits s m args below meth c H locs 0 0 (MQ below (va_Qi (S := Unit) (fun r _ => post r) (fun _ _ => True) A) args s 0 0 A) (F0 m 79 ls []) := by
  intro n
  induction n with
  | zero => intro x0 x1 x3 x4 x5 x6 x7 H locs ls hG hl hw; exact hw.elim
  | succ n ih => exact kB_X9_fits_79 C vM ih
set_option maxHeartbeats 4000000 in
set_option maxRecDepth 100000 in
theorem kB_X9_fits_76 {p : Program} {l : Launch} {e : Env} {s : State} {m : MethodId} {args : Array Value} {below : List Frame} {meth : Method} {c : Code} {A : Nat → Prop} {E : EnvT} {aK aV : Nat → Nat} (C : sCx p s m args meth c cX9_fits 9 (some .boolean) wgX9_fits RX9 E A) (vM : eMs aK aV E) {post : Int32 → Prop} :
    ∀ (x0 : Int32) (x1 : Int64) (x3 : Int32) (x4 : Int32) (x5 : Int32) (x6 : Int32) (H : Heap) (locs : List Loc) (ls : Array Slot), va_S A s.heap H locs → lv_has ls 9 [(0, .int x0), (1, .long x1), (3, .int x3), (4, .int x4), (5, .int x5), (6, .int x6)] → wB_X9_fits_76 post x0 x1 x3 x4 x5 x6 → W p l e rm_X9_fits s m args below meth c H locs 0 0 (MQ below (va_Qi (S := Unit) (fun r _ => post r) (fun _ _ => True) A) args s 0 0 A) (F0 m 76 ls []) := by
  obtain ⟨hx, hb, hml, hr, hown, hts, hA, hlk, hE, vE⟩ := id C
  intro x0 x1 x3 x4 x5 x6 H locs ls hG hl hw
  have hS := hG
  refine lv_iconst (v := 0) hx hb dX9_fits_76 (by decide) ?_
  refine lv_istore (lv' := [(7, .int 0), (0, .int x0), (1, .long x1), (3, .int x3), (4, .int x4), (5, .int x5), (6, .int x6)]) hx hb dX9_fits_77 hl (by decide) rfl (fun ls hl => ?_)
  obtain ⟨n_, hw⟩ := hw
  exact kL_X9_fits_79 C vM n_ x0 x1 x3 x4 x5 x6 0 _ _ _ hG (lv_sub hl [1, 2, 3, 4, 5, 6, 0] rfl) hw
set_option maxHeartbeats 4000000 in
set_option maxRecDepth 100000 in
theorem kB_X9_fits_42 {p : Program} {l : Launch} {e : Env} {s : State} {m : MethodId} {args : Array Value} {below : List Frame} {meth : Method} {c : Code} {A : Nat → Prop} {E : EnvT} {aK aV : Nat → Nat} (C : sCx p s m args meth c cX9_fits 9 (some .boolean) wgX9_fits RX9 E A) (vM : eMs aK aV E) {post : Int32 → Prop} :
    ∀ (x0 : Int32) (x1 : Int64) (H : Heap) (locs : List Loc) (ls : Array Slot), va_S A s.heap H locs → lv_has ls 9 [(0, .int x0), (1, .long x1)] → wB_X9_fits_42 post x0 x1 → W p l e rm_X9_fits s m args below meth c H locs 0 0 (MQ below (va_Qi (S := Unit) (fun r _ => post r) (fun _ _ => True) A) args s 0 0 A) (F0 m 42 ls []) := by
  obtain ⟨hx, hb, hml, hr, hown, hts, hA, hlk, hE, vE⟩ := id C
  intro x0 x1 H locs ls hG hl hw
  have hS := hG
  refine lv_iconst (v := 0) hx hb dX9_fits_42 (by decide) ?_
  refine lv_istore_n (lv' := [(3, .int 0), (0, .int x0), (1, .long x1)]) hx hb dX9_fits_43 rfl hl (by decide) rfl (fun ls hl => ?_)
  refine lv_iconst (v := 0) hx hb dX9_fits_44 (by decide) ?_
  refine lv_istore (lv' := [(4, .int 0), (3, .int 0), (0, .int x0), (1, .long x1)]) hx hb dX9_fits_45 hl (by decide) rfl (fun ls hl => ?_)
  refine lv_iconst (v := 0) hx hb dX9_fits_47 (by decide) ?_
  refine lv_istore (lv' := [(5, .int 0), (4, .int 0), (3, .int 0), (0, .int x0), (1, .long x1)]) hx hb dX9_fits_48 hl (by decide) rfl (fun ls hl => ?_)
  refine lv_iload_n hx hb dX9_fits_50 rfl (lv_at hl 3 rfl) ?_
  refine sS_i (As := [.int x0]) (rest := []) C (met_X9_isTold vE vM hw) (va_cwS 1 hts (TB_G (TB_3 tw_6_70 tw_6_71 tw_1_13) tw_6_72) rfl rfl rfl (by decide +kernel) ⟨by decide, by decide⟩) hS rfl hl.1 rfl (Nat.le_of_ble_eq_true rfl) dX9_fits_51 ⟨by decide, by decide⟩ (fun r_7 H locs hw hS => ?_)
  have hG := hS
  refine lv_istore (lv' := [(6, .int r_7), (5, .int 0), (4, .int 0), (3, .int 0), (0, .int x0), (1, .long x1)]) hx hb dX9_fits_54 hl (by decide) rfl (fun ls hl => ?_)
  refine lv_iload_n hx hb dX9_fits_56 rfl (lv_at hl 4 rfl) ?_
  refine sS_i (As := [.int x0]) (rest := []) C (met_X9_isTold vE vM hw) (va_cwS 1 hts (TB_G (TB_3 tw_6_70 tw_6_71 tw_1_13) tw_6_72) rfl rfl rfl (by decide +kernel) ⟨by decide, by decide⟩) hS rfl hl.1 rfl (Nat.le_of_ble_eq_true rfl) dX9_fits_57 ⟨by decide, by decide⟩ (fun r_9 H locs hw hS => ?_)
  have hG := hS
  refine lv_if_eq (tgt := 76) hx hb dX9_fits_60 (by decide) (fun q_ => ?_) (fun q_ => ?_)
  · have hw := hw.1 q_
    exact kB_X9_fits_76 C vM x0 x1 0 0 0 r_7 _ _ _ hG (lv_sub hl [4, 5, 3, 2, 1, 0] rfl) hw
  · have hw := hw.2 q_
    refine lv_lload_n hx hb dX9_fits_63 rfl (lv_at hl 5 rfl) ?_
    refine sS_i (As := [.long x1]) (rest := []) C (met_X9_n vE vM hw) (va_cwS 1 hts (TB_G (TB_3 tw_6_133 tw_6_134 tw_1_13) tw_6_135) rfl rfl rfl (by decide +kernel) ⟨by decide, by decide⟩) hS rfl hl.1 rfl (Nat.le_of_ble_eq_true rfl) dX9_fits_64 ⟨by decide, by decide⟩ (fun r_37 H locs hw hS => ?_)
    have hG := hS
    refine lv_iload_n hx hb dX9_fits_67 rfl (lv_at hl 4 rfl) ?_
    refine lv_bipush (v := 22) hx hb dX9_fits_68 (by decide) ?_
    refine lv_isub hx hb dX9_fits_70 ?_
    refine lv_icmp_eq (tgt := 76) hx hb dX9_fits_71 (by decide) (fun q_ => ?_) (fun q_ => ?_)
    · have hw := hw.1 q_
      exact kB_X9_fits_76 C vM x0 x1 0 0 0 r_7 _ _ _ hG (lv_sub hl [4, 5, 3, 2, 1, 0] rfl) hw
    · have hw := hw.2 q_
      refine lv_iconst (v := 0) hx hb dX9_fits_74 (by decide) ?_
      exact W.zret (v := 0) (ty := .boolean) hx hb hr rfl (fun t ht hW => ⟨⟨_, (), rfl, hw, trivial⟩, hS.F ht⟩) hS.2.2 dX9_fits_75 hlk
set_option maxHeartbeats 4000000 in
set_option maxRecDepth 100000 in
theorem k_X9_fits {p : Program} {l : Launch} {e : Env} {s : State} {m : MethodId} {args : Array Value} {below : List Frame} {meth : Method} {c : Code} {A : Nat → Prop} {E : EnvT} {aK aV : Nat → Nat} (C : sCx p s m args meth c cX9_fits 9 (some .boolean) wgX9_fits RX9 E A) (vM : eMs aK aV E) {post : Int32 → Prop} :
    ∀ (x0 : Int32) (x1 : Int64) (H : Heap) (locs : List Loc) (ls : Array Slot), va_S A s.heap H locs → lv_has ls 9 [(0, .int x0), (1, .long x1)] → wp_X9_fits post x0 x1 → W p l e rm_X9_fits s m args below meth c H locs 0 0 (MQ below (va_Qi (S := Unit) (fun r _ => post r) (fun _ _ => True) A) args s 0 0 A) (F0 m 0 ls []) := by
  obtain ⟨hx, hb, hml, hr, hown, hts, hA, hlk, hE, vE⟩ := id C
  intro x0 x1 H locs ls hG hl hw
  have hS := hG
  refine lv_iload_n hx hb dX9_fits_0 rfl (lv_at hl 0 rfl) ?_
  refine sS_i (As := [.int x0]) (rest := []) C (met_X9_opOf vE vM hw) (va_cwS 1 hts (TB_G (TB_3 tw_6_66 tw_6_67 tw_1_13) tw_6_68) rfl rfl rfl (by decide +kernel) ⟨by decide, by decide⟩) hS rfl hl.1 rfl (Nat.le_of_ble_eq_true rfl) dX9_fits_1 ⟨by decide, by decide⟩ (fun r_1 H locs hw hS => ?_)
  have hG := hS
  refine lv_lload_n hx hb dX9_fits_4 rfl (lv_at hl 1 rfl) ?_
  refine sS_i (As := [.long x1]) (rest := [.int r_1]) C (met_X9_op vE vM hw) (va_cwS 1 hts (TB_G (TB_3 tw_6_126 tw_6_127 tw_1_13) tw_6_128) rfl rfl rfl (by decide +kernel) ⟨by decide, by decide⟩) hS rfl hl.1 rfl (Nat.le_of_ble_eq_true rfl) dX9_fits_5 ⟨by decide, by decide⟩ (fun r_3 H locs hw hS => ?_)
  have hG := hS
  refine lv_icmp_ne (tgt := 40) hx hb dX9_fits_8 (by decide) (fun q_ => ?_) (fun q_ => ?_)
  · have hw := hw.2 q_
    exact kB_X9_fits_40 C vM  _ _ _ hG (lv_sub hl [] rfl) hw
  · have hw := hw.1 q_
    refine lv_lload_n hx hb dX9_fits_11 rfl (lv_at hl 1 rfl) ?_
    refine lv_bipush (v := 24) hx hb dX9_fits_12 (by decide) ?_
    refine lv_lshr hx hb dX9_fits_14 rfl ?_
    refine lv_ldc2 (v := 255) hx hb hown (hts _ (List.mem_cons_of_mem _ tw_5_212)) dX9_fits_15 ?_
    refine lv_land hx hb dX9_fits_18 ?_
    refine lv_lconst (v := 0) hx hb dX9_fits_19 (by decide) ?_
    refine W.lcmp hx hb dX9_fits_20 ?_
    refine lv_if_ne (tgt := 40) hx hb dX9_fits_21 (by decide) (fun q_ => ?_) (fun q_ => ?_)
    · have hw := hw.2 (fun z => q_ (lc_eq.mpr z))
      exact kB_X9_fits_40 C vM  _ _ _ hG (lv_sub hl [] rfl) hw
    · have hw := hw.1 (lc_eq.mp q_)
      refine lv_lload_n hx hb dX9_fits_24 rfl (lv_at hl 1 rfl) ?_
      refine sS_i (As := [.long x1]) (rest := []) C (met_X9_g vE vM hw) (va_cwS 1 hts (TB_G (TB_3 tw_6_129 tw_6_130 tw_1_13) tw_6_131) rfl rfl rfl (by decide +kernel) ⟨by decide, by decide⟩) hS rfl hl.1 rfl (Nat.le_of_ble_eq_true rfl) dX9_fits_25 ⟨by decide, by decide⟩ (fun r_5 H locs hw hS => ?_)
      have hG := hS
      refine lv_if_le (tgt := 42) hx hb dX9_fits_28 (by decide) (fun q_ => ?_) (fun q_ => ?_)
      · have hw := hw.1 q_
        exact kB_X9_fits_42 C vM x0 x1 _ _ _ hG (lv_sub hl [0, 1] rfl) hw
      · have hw := hw.2 q_
        refine lv_lload_n hx hb dX9_fits_31 rfl (lv_at hl 1 rfl) ?_
        refine sS_i (As := [.long x1]) (rest := []) C (met_X9_g vE vM hw) (va_cwS 1 hts (TB_G (TB_3 tw_6_129 tw_6_130 tw_1_13) tw_6_131) rfl rfl rfl (by decide +kernel) ⟨by decide, by decide⟩) hS rfl hl.1 rfl (Nat.le_of_ble_eq_true rfl) dX9_fits_32 ⟨by decide, by decide⟩ (fun r_39 H locs hw hS => ?_)
        have hG := hS
        refine lv_bipush (v := 8) hx hb dX9_fits_35 (by decide) ?_
        refine lv_icmp_ge (tgt := 42) hx hb dX9_fits_37 (by decide) (fun q_ => ?_) (fun q_ => ?_)
        · have hw := hw.1 q_
          exact kB_X9_fits_42 C vM x0 x1 _ _ _ hG (lv_sub hl [0, 1] rfl) hw
        · have hw := hw.2 q_
          exact kB_X9_fits_40 C vM  _ _ _ hG (lv_sub hl [] rfl) hw
set_option maxHeartbeats 4000000 in
set_option maxRecDepth 100000 in
theorem met_X9_fits {l : Launch} {E : EnvT} (vE : EnvOk E) {aK aV : Nat → Nat} (vM : eMs aK aV E) {sz : Nat} {x0 : Int32} {x1 : Int64} {post : Int32 → Prop} (hw : wp_X9_fits post x0 x1) : Met l yX9_fits wgX9_fits rm_X9_fits (va_Pc [.int x0, .long x1] (sPre E sz)) (va_Qi (S := Unit) (fun r _ => post r) (fun _ _ => True) (va_A [] sz)) 0 0 (va_A [] sz) := by
  refine Met.ofW (cc := cX9_fits) (maxL := 9) (ret := (some .boolean)) (by decide +kernel) rfl ?_
  intro p e s m args below meth c s₁ B hml hv
  obtain ⟨rfl, hsz, hE⟩ := hv
  subst hsz
  generalize hAe : va_A [] s.heap.size = A at hE ⊢
  have hA : ∀ q : Nat, s.heap.size ≤ q → A q := fun q h => by rw [← hAe]; exact Or.inr h
  have hS : va_S A s.heap s.heap [] := va_S.rf
  have C : sCx p s m _ meth c cX9_fits 9 (some .boolean) wgX9_fits RX9 E A := ⟨B.exec, B.bytes, hml, B.returns, findClass_of_methodNamed B.named, atoms_spec (ws := wgX9_fits) B.pre, hA, B.notSynchronized, hE, vE⟩
  have hG := hS
  have hl := lv_entry ([.int x0, .long x1]) (n := 9) (Nat.le_of_ble_eq_true rfl)
  rw [lg_entry_eq]
  generalize (lg_sl ([.int x0, .long x1]) ++ List.replicate (9 - (lg_sl ([.int x0, .long x1])).length) Slot.unset).toArray = ls at hl ⊢
  have hl : lv_has ls 9 [(0, .int x0), (1, .long x1)] := hl
  exact k_X9_fits C vM x0 x1 _ _ _ hG hl hw
