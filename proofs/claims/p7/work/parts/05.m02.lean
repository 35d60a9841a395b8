/-! ===== tokenize ===== -/
def rm_X9_tokenize : Room := { frames := 1, cells := 0, slots := 0, locals := 24 }
abbrev wgX9_tokenize : List Cond := .code yX9_tokenize cX9_tokenize 6 none :: TB
def wB_X9_tokenize_289 (post : MS → Prop) (σ : MS) : Prop :=
  wp_X9_token (fun σ_2 => post σ_2) 0 (mI σ 2) 0 σ
def wB_X9_tokenize_285 (post : MS → Prop) (k9 : Int32 → Int32 → MS → Prop) (x1 : Int32) (t0 : Int32) (σ : MS) : Prop :=
  k9 x1 t0 σ
def wB_X9_tokenize_280 (post : MS → Prop) (k9 : Int32 → Int32 → MS → Prop) (x1 : Int32) (σ : MS) : Prop :=
  wB_X9_tokenize_285 post k9 x1 1 σ
def wB_X9_tokenize_258 (post : MS → Prop) (k9 : Int32 → Int32 → MS → Prop) (x1 : Int32) (σ : MS) : Prop :=
  ((mI σ 5) = 0 → (wB_X9_tokenize_280 post k9 x1 σ)) ∧ (¬ (mI σ 5) = 0 → (vp_in ((mI σ 5) - 1) 702 ∧ (((mA σ 6 ((mI σ 5) - 1).toNatClampNeg) = 4 → (wB_X9_tokenize_285 post k9 x1 0 σ)) ∧ (¬ (mA σ 6 ((mI σ 5) - 1).toNatClampNeg) = 4 → (wB_X9_tokenize_280 post k9 x1 σ)))))
def wB_X9_tokenize_244 (post : MS → Prop) (k9 : Int32 → Int32 → MS → Prop) (x1 : Int32) (x3 : Int32) (t0 : Int32) (σ : MS) : Prop :=
  vp_in x1 700 ∧ (wp_X9_token (fun σ_15 => ∀ x1_16 : Int32, x1_16 = x1 + 1 → wB_X9_tokenize_258 post k9 x1_16 σ_15) t0 x3 ((mA σ 1 x1.toNatClampNeg).toInt64) σ)
def wB_X9_tokenize_195 (post : MS → Prop) (k9 : Int32 → Int32 → MS → Prop) (k148 : Int32 → Int32 → Int64 → MS → Prop) (x1 : Int32) (x3 : Int32) (t0 : Int64) (σ : MS) : Prop :=
  ∀ x1_22 : Int32, x1_22 = x1 + 1 → k148 x1_22 x3 t0 σ
def wB_X9_tokenize_170 (post : MS → Prop) (k9 : Int32 → Int32 → MS → Prop) (k148 : Int32 → Int32 → Int64 → MS → Prop) (x1 : Int32) (x3 : Int32) (x4 : Int64) (σ : MS) : Prop :=
  (8 ≤ (x1 - x3) → (wB_X9_tokenize_195 post k9 k148 x1 x3 x4 σ)) ∧ (¬ 8 ≤ (x1 - x3) → (wp_X9_see (fun r_23 σ_24 => wB_X9_tokenize_195 post k9 k148 x1 x3 ((x4 <<< ((8 : Int32).toInt64 &&& 63)) ||| (r_23.toInt64)) σ_24) x1 σ))
def wB_X9_tokenize_217 (post : MS → Prop) (k9 : Int32 → Int32 → MS → Prop) (x1 : Int32) (x3 : Int32) (x4 : Int64) (t0 : Int32) (σ : MS) : Prop :=
  wp_X9_token (fun σ_30 => wB_X9_tokenize_258 post k9 x1 σ_30) t0 x3 x4 σ
def wB_X9_tokenize_148 (post : MS → Prop) (k9 : Int32 → Int32 → MS → Prop) (k148 : Int32 → Int32 → Int64 → MS → Prop) (x1 : Int32) (x3 : Int32) (x4 : Int64) (σ : MS) : Prop :=
  wp_X9_see (fun r_18 σ_19 => wp_X9_isLetter (fun r_20  => (r_20 = 0 → (wp_X9_see (fun r_25 σ_26 => wp_X9_isDigit (fun r_27  => (r_27 = 0 → (((x1 - x3) ≤ 8 → (wB_X9_tokenize_217 post k9 x1 x3 x4 1 σ_26)) ∧ (¬ (x1 - x3) ≤ 8 → (wB_X9_tokenize_217 post k9 x1 x3 x4 4 σ_26)))) ∧ (¬ r_27 = 0 → (wB_X9_tokenize_170 post k9 k148 x1 x3 x4 σ_26))) r_25) x1 σ_19)) ∧ (¬ r_20 = 0 → (wB_X9_tokenize_170 post k9 k148 x1 x3 x4 σ_19))) r_18) x1 σ
def wL_X9_tokenize_148 (post : MS → Prop) (k9 : Int32 → Int32 → MS → Prop) : Nat → Int32 → Int32 → Int64 → MS → Prop
  | 0 => fun _ _ _ _ => False
  | n + 1 => wB_X9_tokenize_148 post k9 (wL_X9_tokenize_148 post k9 n)
def wB_X9_tokenize_127 (post : MS → Prop) (k9 : Int32 → Int32 → MS → Prop) (x1 : Int32) (x3 : Int32) (x4 : Int64) (t0 : Int32) (σ : MS) : Prop :=
  wp_X9_token (fun σ_36 => wB_X9_tokenize_258 post k9 x1 σ_36) t0 x3 x4 σ
def wB_X9_tokenize_122 (post : MS → Prop) (k9 : Int32 → Int32 → MS → Prop) (x1 : Int32) (x3 : Int32) (x4 : Int64) (σ : MS) : Prop :=
  wB_X9_tokenize_127 post k9 x1 x3 x4 4 σ
def wB_X9_tokenize_96 (post : MS → Prop) (k9 : Int32 → Int32 → MS → Prop) (k55 : Int32 → Int32 → Int64 → MS → Prop) (x1 : Int32) (x3 : Int32) (t0 : Int64) (σ : MS) : Prop :=
  ∀ x1_37 : Int32, x1_37 = x1 + 1 → k55 x1_37 x3 t0 σ
def wB_X9_tokenize_55 (post : MS → Prop) (k9 : Int32 → Int32 → MS → Prop) (k55 : Int32 → Int32 → Int64 → MS → Prop) (x1 : Int32) (x3 : Int32) (x4 : Int64) (σ : MS) : Prop :=
  wp_X9_see (fun r_31 σ_32 => wp_X9_isDigit (fun r_33  => (r_33 = 0 → ((10 < (x1 - x3) → (wB_X9_tokenize_122 post k9 x1 x3 x4 σ_32)) ∧ (¬ 10 < (x1 - x3) → ((x4 ≤ 2147483648 → (wB_X9_tokenize_127 post k9 x1 x3 x4 2 σ_32)) ∧ (¬ x4 ≤ 2147483648 → (wB_X9_tokenize_122 post k9 x1 x3 x4 σ_32)))))) ∧ (¬ r_33 = 0 → ((10 ≤ (x1 - x3) → (wB_X9_tokenize_96 post k9 k55 x1 x3 x4 σ_32)) ∧ (¬ 10 ≤ (x1 - x3) → (wp_X9_see (fun r_38 σ_39 => wB_X9_tokenize_96 post k9 k55 x1 x3 (((10 * x4) + (r_38.toInt64)) - 48) σ_39) x1 σ_32))))) r_31) x1 σ
def wL_X9_tokenize_55 (post : MS → Prop) (k9 : Int32 → Int32 → MS → Prop) : Nat → Int32 → Int32 → Int64 → MS → Prop
  | 0 => fun _ _ _ _ => False
  | n + 1 => wB_X9_tokenize_55 post k9 (wL_X9_tokenize_55 post k9 n)
def wB_X9_tokenize_9 (post : MS → Prop) (k9 : Int32 → Int32 → MS → Prop) (x1 : Int32) (x2 : Int32) (σ : MS) : Prop :=
  (x2 = 0 → (wB_X9_tokenize_289 post σ)) ∧ (¬ x2 = 0 → (((mI σ 2) ≤ x1 → (wB_X9_tokenize_289 post σ)) ∧ (¬ (mI σ 2) ≤ x1 → (vp_in x1 700 ∧ (((mA σ 1 x1.toNatClampNeg) = 32 → (∀ x1_40 : Int32, x1_40 = x1 + 1 → wB_X9_tokenize_258 post k9 x1_40 σ)) ∧ (¬ (mA σ 1 x1.toNatClampNeg) = 32 → (vp_in x1 700 ∧ (wp_X9_isDigit (fun r_5  => (r_5 = 0 → (vp_in x1 700 ∧ (wp_X9_isLetter (fun r_8  => (r_8 = 0 → (vp_in x1 700 ∧ (wp_X9_isSign (fun r_11  => (r_11 = 0 → (wB_X9_tokenize_244 post k9 x1 x1 4 σ)) ∧ (¬ r_11 = 0 → (wB_X9_tokenize_244 post k9 x1 x1 3 σ))) (mA σ 1 x1.toNatClampNeg)))) ∧ (¬ r_8 = 0 → (∃ n, wL_X9_tokenize_148 post k9 n x1 x1 0 σ))) (mA σ 1 x1.toNatClampNeg)))) ∧ (¬ r_5 = 0 → (∃ n, wL_X9_tokenize_55 post k9 n x1 x1 0 σ))) (mA σ 1 x1.toNatClampNeg)))))))))
def wL_X9_tokenize_9 (post : MS → Prop) : Nat → Int32 → Int32 → MS → Prop
  | 0 => fun _ _ _ => False
  | n + 1 => wB_X9_tokenize_9 post (wL_X9_tokenize_9 post n)
def wp_X9_tokenize (post : MS → Prop) (σ : MS) : Prop :=
  ∃ n, wL_X9_tokenize_9 post n 0 1 (wI σ 5 0)
set_option maxHeartbeats 4000000 in
set_option maxRecDepth 100000 in
theorem kB_X9_tokenize_289 {p : Program} {l : Launch} {e : Env} {s : State} {m : MethodId} {args : Array Value} {below : List Frame} {meth : Method} {c : Code} {A : Nat → Prop} {E : EnvT} {aK aV : Nat → Nat} {D : va_G} {cA : Nat → ClassId} {h : Nat} {ad : Nat → Nat} (C : mCx p s m args meth c cX9_tokenize 6 none wgX9_tokenize RX9 E D cA A) (vM : eMs aK aV E) {post : MS → Prop} :
    ∀ (σ : MS) (H : Heap) (locs : List Loc) (ls : Array Slot), mG D cA h ad A s σ H locs → lv_has ls 6 [(0, .ref h)] → wB_X9_tokenize_289 post σ → W p l e rm_X9_tokenize s m args below meth c H locs 0 0 (MQ below (va_Qv post (mAt D cA h ad A) A) args s 0 0 A) (F0 m 289 ls []) := by
  obtain ⟨hx, hb, hml, hr, hown, hts, hK, hA, hlk, hE, vE⟩ := id C
  intro σ H locs ls hG hl hw
  obtain ⟨hP, hD, hS⟩ := id hG
  refine lv_aload_n hx hb dX9_tokenize_289 rfl (lv_at hl 0 rfl) ?_
  refine lv_iconst (v := 0) hx hb dX9_tokenize_290 (by decide) ?_
  refine lv_aload_n hx hb dX9_tokenize_291 rfl (lv_at hl 0 rfl) ?_
  refine va_get (D := D) (ci := 11) (v := .int (mI σ 2)) (C := RX9) (T := TX9) (N := 32) hx hb hts (in_tb inX9) hown hK hP 0 rfl rfl 2 (by decide) (hts _ (List.mem_cons_of_mem _ tw_5_112)) (fun _ h9 => h9) rfl dX9_tokenize_292 ?_
  refine lv_lconst (v := 0) hx hb dX9_tokenize_295 (by decide) ?_
  refine mV_v (As := [.int 0, .int (mI σ 2), .long 0]) (rest := []) C (met_X9_token vE vM hw) (va_recv hK hP (ci := 11) (q0 := 0) rfl rfl) (cwV 3 hts (TB_G (TB_4 tw_5_231 tw_5_233 ts_29 tw_1_13) tw_5_234) rfl rfl rfl (by decide +kernel) ⟨by decide, by decide⟩) hP hD hS rfl hl.1 rfl (Nat.le_of_ble_eq_true rfl) dX9_tokenize_296 ⟨by decide, by decide⟩ (fun σ_2 H locs hw hP hD hS => ?_)
  have hG : mG D cA h ad A s σ_2 H locs := ⟨hP, hD, hS⟩
  exact W.vret hx hb hr (fun t ht hW => ⟨⟨σ_2, rfl, hw, by rw [ht]; exact hP, va_K.moved hW.alike hK, hD⟩, hS.F ht⟩) hS.2.2 dX9_tokenize_299 hlk
set_option maxHeartbeats 4000000 in
set_option maxRecDepth 100000 in
theorem kB_X9_tokenize_285 {p : Program} {l : Launch} {e : Env} {s : State} {m : MethodId} {args : Array Value} {below : List Frame} {meth : Method} {c : Code} {A : Nat → Prop} {E : EnvT} {aK aV : Nat → Nat} {D : va_G} {cA : Nat → ClassId} {h : Nat} {ad : Nat → Nat} (C : mCx p s m args meth c cX9_tokenize 6 none wgX9_tokenize RX9 E D cA A) (vM : eMs aK aV E) {post : MS → Prop}
    {k9 : Int32 → Int32 → MS → Prop} (hk9 : ∀ (x1 : Int32) (x2 : Int32) (σ : MS) (H : Heap) (locs : List Loc) (ls : Array Slot), mG D cA h ad A s σ H locs → lv_has ls 6 [(0, .ref h), (1, .int x1), (2, .int x2)] → k9 x1 x2 σ → W p l e rm_X9_tokenize s m args below meth c H locs 0 0 (MQ below (va_Qv post (mAt D cA h ad A) A) args s 0 0 A) (F0 m 9 ls [])) :
    ∀ (x1 : Int32) (t0 : Int32) (σ : MS) (H : Heap) (locs : List Loc) (ls : Array Slot), mG D cA h ad A s σ H locs → lv_has ls 6 [(0, .ref h), (1, .int x1)] → wB_X9_tokenize_285 post k9 x1 t0 σ → W p l e rm_X9_tokenize s m args below meth c H locs 0 0 (MQ below (va_Qv post (mAt D cA h ad A) A) args s 0 0 A) (F0 m 285 ls [.int t0]) := by
  obtain ⟨hx, hb, hml, hr, hown, hts, hK, hA, hlk, hE, vE⟩ := id C
  intro x1 t0 σ H locs ls hG hl hw
  obtain ⟨hP, hD, hS⟩ := id hG
  refine lv_istore_n (lv' := [(2, .int t0), (0, .ref h), (1, .int x1)]) hx hb dX9_tokenize_285 rfl hl (by decide) rfl (fun ls hl => ?_)
  refine lv_goto (tgt := 9) hx hb dX9_tokenize_286 (by decide) ?_
  exact hk9 x1 t0 σ _ _ _ hG (lv_sub hl [1, 2, 0] rfl) hw
set_option maxHeartbeats 4000000 in
set_option maxRecDepth 100000 in
theorem kB_X9_tokenize_280 {p : Program} {l : Launch} {e : Env} {s : State} {m : MethodId} {args : Array Value} {below : List Frame} {meth : Method} {c : Code} {A : Nat → Prop} {E : EnvT} {aK aV : Nat → Nat} {D : va_G} {cA : Nat → ClassId} {h : Nat} {ad : Nat → Nat} (C : mCx p s m args meth c cX9_tokenize 6 none wgX9_tokenize RX9 E D cA A) (vM : eMs aK aV E) {post : MS → Prop}
    {k9 : Int32 → Int32 → MS → Prop} (hk9 : ∀ (x1 : Int32) (x2 : Int32) (σ : MS) (H : Heap) (locs : List Loc) (ls : Array Slot), mG D cA h ad A s σ H locs → lv_has ls 6 [(0, .ref h), (1, .int x1), (2, .int x2)] → k9 x1 x2 σ → W p l e rm_X9_tokenize s m args below meth c H locs 0 0 (MQ below (va_Qv post (mAt D cA h ad A) A) args s 0 0 A) (F0 m 9 ls [])) :
    ∀ (x1 : Int32) (σ : MS) (H : Heap) (locs : List Loc) (ls : Array Slot), mG D cA h ad A s σ H locs → lv_has ls 6 [(0, .ref h), (1, .int x1)] → wB_X9_tokenize_280 post k9 x1 σ → W p l e rm_X9_tokenize s m args below meth c H locs 0 0 (MQ below (va_Qv post (mAt D cA h ad A) A) args s 0 0 A) (F0 m 280 ls []) := by
  obtain ⟨hx, hb, hml, hr, hown, hts, hK, hA, hlk, hE, vE⟩ := id C
  intro x1 σ H locs ls hG hl hw
  obtain ⟨hP, hD, hS⟩ := id hG
  refine lv_iconst (v := 1) hx hb dX9_tokenize_280 (by decide) ?_
  refine lv_goto (tgt := 285) hx hb dX9_tokenize_281 (by decide) ?_
  exact kB_X9_tokenize_285 C vM hk9 x1 1 σ _ _ _ hG (lv_sub hl [0, 1] rfl) hw
set_option maxHeartbeats 4000000 in
set_option maxRecDepth 100000 in
theorem kB_X9_tokenize_258 {p : Program} {l : Launch} {e : Env} {s : State} {m : MethodId} {args : Array Value} {below : List Frame} {meth : Method} {c : Code} {A : Nat → Prop} {E : EnvT} {aK aV : Nat → Nat} {D : va_G} {cA : Nat → ClassId} {h : Nat} {ad : Nat → Nat} (C : mCx p s m args meth c cX9_tokenize 6 none wgX9_tokenize RX9 E D cA A) (vM : eMs aK aV E) {post : MS → Prop}
    {k9 : Int32 → Int32 → MS → Prop} (hk9 : ∀ (x1 : Int32) (x2 : Int32) (σ : MS) (H : Heap) (locs : List Loc) (ls : Array Slot), mG D cA h ad A s σ H locs → lv_has ls 6 [(0, .ref h), (1, .int x1), (2, .int x2)] → k9 x1 x2 σ → W p l e rm_X9_tokenize s m args below meth c H locs 0 0 (MQ below (va_Qv post (mAt D cA h ad A) A) args s 0 0 A) (F0 m 9 ls [])) :
    ∀ (x1 : Int32) (σ : MS) (H : Heap) (locs : List Loc) (ls : Array Slot), mG D cA h ad A s σ H locs → lv_has ls 6 [(0, .ref h), (1, .int x1)] → wB_X9_tokenize_258 post k9 x1 σ → W p l e rm_X9_tokenize s m args below meth c H locs 0 0 (MQ below (va_Qv post (mAt D cA h ad A) A) args s 0 0 A) (F0 m 258 ls []) := by
  obtain ⟨hx, hb, hml, hr, hown, hts, hK, hA, hlk, hE, vE⟩ := id C
  intro x1 σ H locs ls hG hl hw
  obtain ⟨hP, hD, hS⟩ := id hG
  refine lv_aload_n hx hb dX9_tokenize_258 rfl (lv_at hl 0 rfl) ?_
  refine va_get (D := D) (ci := 11) (v := .int (mI σ 5)) (C := RX9) (T := TX9) (N := 32) hx hb hts (in_tb inX9) hown hK hP 0 rfl rfl 5 (by decide) (hts _ (List.mem_cons_of_mem _ tw_5_115)) (fun _ h9 => h9) rfl dX9_tokenize_259 ?_
  refine lv_if_eq (tgt := 280) hx hb dX9_tokenize_262 (by decide) (fun q_ => ?_) (fun q_ => ?_)
  · have hw := hw.1 q_
    exact kB_X9_tokenize_280 C vM hk9 x1 σ _ _ _ hG (lv_sub hl [0, 1] rfl) hw
  · have hw := hw.2 q_
    refine lv_aload_n hx hb dX9_tokenize_265 rfl (lv_at hl 0 rfl) ?_
    refine va_get (D := D) (ci := 11) (v := .ref (ad 6)) (C := RX9) (T := TX9) (N := 32) hx hb hts (in_tb inX9) hown hK hP 0 rfl rfl 6 (by decide) (hts _ (List.mem_cons_of_mem _ tw_5_116)) (fun _ h9 => h9) rfl dX9_tokenize_266 ?_
    refine lv_aload_n hx hb dX9_tokenize_269 rfl (lv_at hl 0 rfl) ?_
    refine va_get (D := D) (ci := 11) (v := .int (mI σ 5)) (C := RX9) (T := TX9) (N := 32) hx hb hts (in_tb inX9) hown hK hP 0 rfl rfl 5 (by decide) (hts _ (List.mem_cons_of_mem _ tw_5_115)) (fun _ h9 => h9) rfl dX9_tokenize_270 ?_
    refine lv_iconst (v := 1) hx hb dX9_tokenize_273 (by decide) ?_
    refine lv_isub hx hb dX9_tokenize_274 ?_
    obtain ⟨h_17, hw⟩ := hw
    refine va_iald hx hb hK hP 2 0 rfl rfl h_17 dX9_tokenize_275 ?_
    refine lv_iconst (v := 4) hx hb dX9_tokenize_276 (by decide) ?_
    refine lv_icmp_eq (tgt := 284) hx hb dX9_tokenize_277 (by decide) (fun q_ => ?_) (fun q_ => ?_)
    · have hw := hw.1 q_
      refine lv_iconst (v := 0) hx hb dX9_tokenize_284 (by decide) ?_
      exact kB_X9_tokenize_285 C vM hk9 x1 0 σ _ _ _ hG (lv_sub hl [0, 1] rfl) hw
    · have hw := hw.2 q_
      exact kB_X9_tokenize_280 C vM hk9 x1 σ _ _ _ hG (lv_sub hl [0, 1] rfl) hw
set_option maxHeartbeats 4000000 in
set_option maxRecDepth 100000 in
theorem kB_X9_tokenize_244 {p : Program} {l : Launch} {e : Env} {s : State} {m : MethodId} {args : Array Value} {below : List Frame} {meth : Method} {c : Code} {A : Nat → Prop} {E : EnvT} {aK aV : Nat → Nat} {D : va_G} {cA : Nat → ClassId} {h : Nat} {ad : Nat → Nat} (C : mCx p s m args meth c cX9_tokenize 6 none wgX9_tokenize RX9 E D cA A) (vM : eMs aK aV E) {post : MS → Prop}
    {k9 : Int32 → Int32 → MS → Prop} (hk9 : ∀ (x1 : Int32) (x2 : Int32) (σ : MS) (H : Heap) (locs : List Loc) (ls : Array Slot), mG D cA h ad A s σ H locs → lv_has ls 6 [(0, .ref h), (1, .int x1), (2, .int x2)] → k9 x1 x2 σ → W p l e rm_X9_tokenize s m args below meth c H locs 0 0 (MQ below (va_Qv post (mAt D cA h ad A) A) args s 0 0 A) (F0 m 9 ls [])) :
    ∀ (x1 : Int32) (x3 : Int32) (t0 : Int32) (σ : MS) (H : Heap) (locs : List Loc) (ls : Array Slot), mG D cA h ad A s σ H locs → lv_has ls 6 [(0, .ref h), (1, .int x1), (3, .int x3)] → wB_X9_tokenize_244 post k9 x1 x3 t0 σ → W p l e rm_X9_tokenize s m args below meth c H locs 0 0 (MQ below (va_Qv post (mAt D cA h ad A) A) args s 0 0 A) (F0 m 244 ls [.int t0, .ref h]) := by
  obtain ⟨hx, hb, hml, hr, hown, hts, hK, hA, hlk, hE, vE⟩ := id C
  intro x1 x3 t0 σ H locs ls hG hl hw
  obtain ⟨hP, hD, hS⟩ := id hG
  refine lv_iload_n hx hb dX9_tokenize_244 rfl (lv_at hl 2 rfl) ?_
  refine lv_aload_n hx hb dX9_tokenize_245 rfl (lv_at hl 0 rfl) ?_
  refine va_get (D := D) (ci := 11) (v := .ref (ad 1)) (C := RX9) (T := TX9) (N := 32) hx hb hts (in_tb inX9) hown hK hP 0 rfl rfl 1 (by decide) (hts _ (List.mem_cons_of_mem _ tw_5_111)) (fun _ h9 => h9) rfl dX9_tokenize_246 ?_
  refine lv_iload_n hx hb dX9_tokenize_249 rfl (lv_at hl 1 rfl) ?_
  obtain ⟨h_13, hw⟩ := hw
  refine va_iald hx hb hK hP 1 0 rfl rfl h_13 dX9_tokenize_250 ?_
  refine lv_i2l hx hb dX9_tokenize_251 rfl ?_
  refine mV_v (As := [.int t0, .int x3, .long ((mA σ 1 x1.toNatClampNeg).toInt64)]) (rest := []) C (met_X9_token vE vM hw) (va_recv hK hP (ci := 11) (q0 := 0) rfl rfl) (cwV 3 hts (TB_G (TB_4 tw_5_231 tw_5_233 ts_29 tw_1_13) tw_5_234) rfl rfl rfl (by decide +kernel) ⟨by decide, by decide⟩) hP hD hS rfl hl.1 rfl (Nat.le_of_ble_eq_true rfl) dX9_tokenize_252 ⟨by decide, by decide⟩ (fun σ_15 H locs hw hP hD hS => ?_)
  have hG : mG D cA h ad A s σ_15 H locs := ⟨hP, hD, hS⟩
  obtain ⟨x1_16, ex1_16⟩ : ∃ y : Int32, y = x1 + 1 := ⟨_, rfl⟩
  have hw := hw x1_16 ex1_16
  refine lv_iinc (v := x1_16) (lv' := [(1, .int x1_16), (0, .ref h), (3, .int x3)]) hx hb dX9_tokenize_255 hl (k := 1) rfl (by rw [ex1_16]; rfl) (by decide) rfl (fun ls hl => ?_)
  exact kB_X9_tokenize_258 C vM hk9 x1_16 σ_15 _ _ _ hG (lv_sub hl [1, 0] rfl) hw
set_option maxHeartbeats 4000000 in
set_option maxRecDepth 100000 in
theorem kB_X9_tokenize_195 {p : Program} {l : Launch} {e : Env} {s : State} {m : MethodId} {args : Array Value} {below : List Frame} {meth : Method} {c : Code} {A : Nat → Prop} {E : EnvT} {aK aV : Nat → Nat} {D : va_G} {cA : Nat → ClassId} {h : Nat} {ad : Nat → Nat} (C : mCx p s m args meth c cX9_tokenize 6 none wgX9_tokenize RX9 E D cA A) (vM : eMs aK aV E) {post : MS → Prop}
    {k9 : Int32 → Int32 → MS → Prop} (hk9 : ∀ (x1 : Int32) (x2 : Int32) (σ : MS) (H : Heap) (locs : List Loc) (ls : Array Slot), mG D cA h ad A s σ H locs → lv_has ls 6 [(0, .ref h), (1, .int x1), (2, .int x2)] → k9 x1 x2 σ → W p l e rm_X9_tokenize s m args below meth c H locs 0 0 (MQ below (va_Qv post (mAt D cA h ad A) A) args s 0 0 A) (F0 m 9 ls []))
    {k148 : Int32 → Int32 → Int64 → MS → Prop} (hk148 : ∀ (x1 : Int32) (x3 : Int32) (x4 : Int64) (σ : MS) (H : Heap) (locs : List Loc) (ls : Array Slot), mG D cA h ad A s σ H locs → lv_has ls 6 [(0, .ref h), (1, .int x1), (3, .int x3), (4, .long x4)] → k148 x1 x3 x4 σ → W p l e rm_X9_tokenize s m args below meth c H locs 0 0 (MQ below (va_Qv post (mAt D cA h ad A) A) args s 0 0 A) (F0 m 148 ls [])) :
    ∀ (x1 : Int32) (x3 : Int32) (t0 : Int64) (σ : MS) (H : Heap) (locs : List Loc) (ls : Array Slot), mG D cA h ad A s σ H locs → lv_has ls 6 [(0, .ref h), (1, .int x1), (3, .int x3)] → wB_X9_tokenize_195 post k9 k148 x1 x3 t0 σ → W p l e rm_X9_tokenize s m args below meth c H locs 0 0 (MQ below (va_Qv post (mAt D cA h ad A) A) args s 0 0 A) (F0 m 195 ls [.long t0]) := by
  obtain ⟨hx, hb, hml, hr, hown, hts, hK, hA, hlk, hE, vE⟩ := id C
  intro x1 x3 t0 σ H locs ls hG hl hw
  obtain ⟨hP, hD, hS⟩ := id hG
  refine lv_lstore (lv' := [(4, .long t0), (0, .ref h), (1, .int x1), (3, .int x3)]) hx hb dX9_tokenize_195 hl (by decide) rfl (fun ls hl => ?_)
  obtain ⟨x1_22, ex1_22⟩ : ∃ y : Int32, y = x1 + 1 := ⟨_, rfl⟩
  have hw := hw x1_22 ex1_22
  refine lv_iinc (v := x1_22) (lv' := [(1, .int x1_22), (4, .long t0), (0, .ref h), (3, .int x3)]) hx hb dX9_tokenize_197 hl (k := 2) rfl (by rw [ex1_22]; rfl) (by decide) rfl (fun ls hl => ?_)
  refine lv_goto (tgt := 148) hx hb dX9_tokenize_200 (by decide) ?_
  exact hk148 x1_22 x3 t0 σ _ _ _ hG (lv_sub hl [2, 0, 3, 1] rfl) hw
set_option maxHeartbeats 4000000 in
set_option maxRecDepth 100000 in
theorem kB_X9_tokenize_170 {p : Program} {l : Launch} {e : Env} {s : State} {m : MethodId} {args : Array Value} {below : List Frame} {meth : Method} {c : Code} {A : Nat → Prop} {E : EnvT} {aK aV : Nat → Nat} {D : va_G} {cA : Nat → ClassId} {h : Nat} {ad : Nat → Nat} (C : mCx p s m args meth c cX9_tokenize 6 none wgX9_tokenize RX9 E D cA A) (vM : eMs aK aV E) {post : MS → Prop}
    {k9 : Int32 → Int32 → MS → Prop} (hk9 : ∀ (x1 : Int32) (x2 : Int32) (σ : MS) (H : Heap) (locs : List Loc) (ls : Array Slot), mG D cA h ad A s σ H locs → lv_has ls 6 [(0, .ref h), (1, .int x1), (2, .int x2)] → k9 x1 x2 σ → W p l e rm_X9_tokenize s m args below meth c H locs 0 0 (MQ below (va_Qv post (mAt D cA h ad A) A) args s 0 0 A) (F0 m 9 ls []))
    {k148 : Int32 → Int32 → Int64 → MS → Prop} (hk148 : ∀ (x1 : Int32) (x3 : Int32) (x4 : Int64) (σ : MS) (H : Heap) (locs : List Loc) (ls : Array Slot), mG D cA h ad A s σ H locs → lv_has ls 6 [(0, .ref h), (1, .int x1), (3, .int x3), (4, .long x4)] → k148 x1 x3 x4 σ → W p l e rm_X9_tokenize s m args below meth c H locs 0 0 (MQ below (va_Qv post (mAt D cA h ad A) A) args s 0 0 A) (F0 m 148 ls [])) :
    ∀ (x1 : Int32) (x3 : Int32) (x4 : Int64) (σ : MS) (H : Heap) (locs : List Loc) (ls : Array Slot), mG D cA h ad A s σ H locs → lv_has ls 6 [(0, .ref h), (1, .int x1), (3, .int x3), (4, .long x4)] → wB_X9_tokenize_170 post k9 k148 x1 x3 x4 σ → W p l e rm_X9_tokenize s m args below meth c H locs 0 0 (MQ below (va_Qv post (mAt D cA h ad A) A) args s 0 0 A) (F0 m 170 ls []) := by
  obtain ⟨hx, hb, hml, hr, hown, hts, hK, hA, hlk, hE, vE⟩ := id C
  intro x1 x3 x4 σ H locs ls hG hl hw
  obtain ⟨hP, hD, hS⟩ := id hG
  refine lv_iload_n hx hb dX9_tokenize_170 rfl (lv_at hl 1 rfl) ?_
  refine lv_iload_n hx hb dX9_tokenize_171 rfl (lv_at hl 2 rfl) ?_
  refine lv_isub hx hb dX9_tokenize_172 ?_
  refine lv_bipush (v := 8) hx hb dX9_tokenize_173 (by decide) ?_
  refine lv_icmp_ge (tgt := 193) hx hb dX9_tokenize_175 (by decide) (fun q_ => ?_) (fun q_ => ?_)
  · have hw := hw.1 q_
    refine lv_lload hx hb dX9_tokenize_193 (lv_at hl 3 rfl) ?_
    exact kB_X9_tokenize_195 C vM hk9 hk148 x1 x3 x4 σ _ _ _ hG (lv_sub hl [0, 1, 2] rfl) hw
  · have hw := hw.2 q_
    refine lv_lload hx hb dX9_tokenize_178 (lv_at hl 3 rfl) ?_
    refine lv_bipush (v := 8) hx hb dX9_tokenize_180 (by decide) ?_
    refine lv_lshl hx hb dX9_tokenize_182 rfl ?_
    refine lv_aload_n hx hb dX9_tokenize_183 rfl (lv_at hl 0 rfl) ?_
    refine lv_iload_n hx hb dX9_tokenize_184 rfl (lv_at hl 1 rfl) ?_
    refine mV_i (As := [.int x1]) (rest := [.long (x4 <<< ((8 : Int32).toInt64 &&& 63))]) C (met_X9_see vE vM hw) (va_recv hK hP (ci := 11) (q0 := 0) rfl rfl) (cwV 1 hts (TB_G (TB_4 tw_5_224 tw_5_226 ts_28 tw_1_13) tw_5_227) rfl rfl rfl (by decide +kernel) ⟨by decide, by decide⟩) hP hD hS rfl hl.1 rfl (Nat.le_of_ble_eq_true rfl) dX9_tokenize_185 ⟨by decide, by decide⟩ (fun r_23 σ_24 H locs hw hP hD hS => ?_)
    have hG : mG D cA h ad A s σ_24 H locs := ⟨hP, hD, hS⟩
    refine lv_i2l hx hb dX9_tokenize_188 rfl ?_
    refine lv_lor hx hb dX9_tokenize_189 ?_
    refine lv_goto (tgt := 195) hx hb dX9_tokenize_190 (by decide) ?_
    exact kB_X9_tokenize_195 C vM hk9 hk148 x1 x3 ((x4 <<< ((8 : Int32).toInt64 &&& 63)) ||| (r_23.toInt64)) σ_24 _ _ _ hG (lv_sub hl [0, 1, 2] rfl) hw
set_option maxHeartbeats 4000000 in
set_option maxRecDepth 100000 in
theorem kB_X9_tokenize_217 {p : Program} {l : Launch} {e : Env} {s : State} {m : MethodId} {args : Array Value} {below : List Frame} {meth : Method} {c : Code} {A : Nat → Prop} {E : EnvT} {aK aV : Nat → Nat} {D : va_G} {cA : Nat → ClassId} {h : Nat} {ad : Nat → Nat} (C : mCx p s m args meth c cX9_tokenize 6 none wgX9_tokenize RX9 E D cA A) (vM : eMs aK aV E) {post : MS → Prop}
    {k9 : Int32 → Int32 → MS → Prop} (hk9 : ∀ (x1 : Int32) (x2 : Int32) (σ : MS) (H : Heap) (locs : List Loc) (ls : Array Slot), mG D cA h ad A s σ H locs → lv_has ls 6 [(0, .ref h), (1, .int x1), (2, .int x2)] → k9 x1 x2 σ → W p l e rm_X9_tokenize s m args below meth c H locs 0 0 (MQ below (va_Qv post (mAt D cA h ad A) A) args s 0 0 A) (F0 m 9 ls [])) :
    ∀ (x1 : Int32) (x3 : Int32) (x4 : Int64) (t0 : Int32) (σ : MS) (H : Heap) (locs : List Loc) (ls : Array Slot), mG D cA h ad A s σ H locs → lv_has ls 6 [(0, .ref h), (1, .int x1), (3, .int x3), (4, .long x4)] → wB_X9_tokenize_217 post k9 x1 x3 x4 t0 σ → W p l e rm_X9_tokenize s m args below meth c H locs 0 0 (MQ below (va_Qv post (mAt D cA h ad A) A) args s 0 0 A) (F0 m 217 ls [.int t0, .ref h]) := by
  obtain ⟨hx, hb, hml, hr, hown, hts, hK, hA, hlk, hE, vE⟩ := id C
  intro x1 x3 x4 t0 σ H locs ls hG hl hw
  obtain ⟨hP, hD, hS⟩ := id hG
  refine lv_iload_n hx hb dX9_tokenize_217 rfl (lv_at hl 2 rfl) ?_
  refine lv_lload hx hb dX9_tokenize_218 (lv_at hl 3 rfl) ?_
  refine mV_v (As := [.int t0, .int x3, .long x4]) (rest := []) C (met_X9_token vE vM hw) (va_recv hK hP (ci := 11) (q0 := 0) rfl rfl) (cwV 3 hts (TB_G (TB_4 tw_5_231 tw_5_233 ts_29 tw_1_13) tw_5_234) rfl rfl rfl (by decide +kernel) ⟨by decide, by decide⟩) hP hD hS rfl hl.1 rfl (Nat.le_of_ble_eq_true rfl) dX9_tokenize_220 ⟨by decide, by decide⟩ (fun σ_30 H locs hw hP hD hS => ?_)
  have hG : mG D cA h ad A s σ_30 H locs := ⟨hP, hD, hS⟩
  refine lv_goto (tgt := 258) hx hb dX9_tokenize_223 (by decide) ?_
  exact kB_X9_tokenize_258 C vM hk9 x1 σ_30 _ _ _ hG (lv_sub hl [0, 1] rfl) hw
set_option maxHeartbeats 4000000 in
set_option maxRecDepth 100000 in
theorem kB_X9_tokenize_148 {p : Program} {l : Launch} {e : Env} {s : State} {m : MethodId} {args : Array Value} {below : List Frame} {meth : Method} {c : Code} {A : Nat → Prop} {E : EnvT} {aK aV : Nat → Nat} {D : va_G} {cA : Nat → ClassId} {h : Nat} {ad : Nat → Nat} (C : mCx p s m args meth c cX9_tokenize 6 none wgX9_tokenize RX9 E D cA A) (vM : eMs aK aV E) {post : MS → Prop}
    {k9 : Int32 → Int32 → MS → Prop} (hk9 : ∀ (x1 : Int32) (x2 : Int32) (σ : MS) (H : Heap) (locs : List Loc) (ls : Array Slot), mG D cA h ad A s σ H locs → lv_has ls 6 [(0, .ref h), (1, .int x1), (2, .int x2)] → k9 x1 x2 σ → W p l e rm_X9_tokenize s m args below meth c H locs 0 0 (MQ below (va_Qv post (mAt D cA h ad A) A) args s 0 0 A) (F0 m 9 ls []))
    {k148 : Int32 → Int32 → Int64 → MS → Prop} (hk148 : ∀ (x1 : Int32) (x3 : Int32) (x4 : Int64) (σ : MS) (H : Heap) (locs : List Loc) (ls : Array Slot), mG D cA h ad A s σ H locs → lv_has ls 6 [(0, .ref h), (1, .int x1), (3, .int x3), (4, .long x4)] → k148 x1 x3 x4 σ → W p l e rm_X9_tokenize s m args below meth c H locs 0 0 (MQ below (va_Qv post (mAt D cA h ad A) A) args s 0 0 A) (F0 m 148 ls [])) :
    ∀ (x1 : Int32) (x3 : Int32) (x4 : Int64) (σ : MS) (H : Heap) (locs : List Loc) (ls : Array Slot), mG D cA h ad A s σ H locs → lv_has ls 6 [(0, .ref h), (1, .int x1), (3, .int x3), (4, .long x4)] → wB_X9_tokenize_148 post k9 k148 x1 x3 x4 σ → W p l e rm_X9_tokenize s m args below meth c H locs 0 0 (MQ below (va_Qv post (mAt D cA h ad A) A) args s 0 0 A) (F0 m 148 ls []) := by
  obtain ⟨hx, hb, hml, hr, hown, hts, hK, hA, hlk, hE, vE⟩ := id C
  intro x1 x3 x4 σ H locs ls hG hl hw
  obtain ⟨hP, hD, hS⟩ := id hG
  refine lv_aload_n hx hb dX9_tokenize_148 rfl (lv_at hl 0 rfl) ?_
  refine lv_iload_n hx hb dX9_tokenize_149 rfl (lv_at hl 1 rfl) ?_
  refine mV_i (As := [.int x1]) (rest := []) C (met_X9_see vE vM hw) (va_recv hK hP (ci := 11) (q0 := 0) rfl rfl) (cwV 1 hts (TB_G (TB_4 tw_5_224 tw_5_226 ts_28 tw_1_13) tw_5_227) rfl rfl rfl (by decide +kernel) ⟨by decide, by decide⟩) hP hD hS rfl hl.1 rfl (Nat.le_of_ble_eq_true rfl) dX9_tokenize_150 ⟨by decide, by decide⟩ (fun r_18 σ_19 H locs hw hP hD hS => ?_)
  have hG : mG D cA h ad A s σ_19 H locs := ⟨hP, hD, hS⟩
  refine mS_i (As := [.int r_18]) (rest := []) C (met_X9_isLetter vE vM hw) (va_cwS 1 hts (TB_G (TB_3 tw_5_235 tw_5_236 tw_1_13) tw_5_237) rfl rfl rfl (by decide +kernel) ⟨by decide, by decide⟩) hP hD hS rfl hl.1 rfl (Nat.le_of_ble_eq_true rfl) dX9_tokenize_153 ⟨by decide, by decide⟩ (fun r_20 H locs hw hP hS => ?_)
  have hG : mG D cA h ad A s σ_19 H locs := ⟨hP, hD, hS⟩
  refine lv_if_ne (tgt := 170) hx hb dX9_tokenize_156 (by decide) (fun q_ => ?_) (fun q_ => ?_)
  · have hw := hw.2 q_
    exact kB_X9_tokenize_170 C vM hk9 hk148 x1 x3 x4 σ_19 _ _ _ hG (lv_sub hl [0, 1, 2, 3] rfl) hw
  · have hw := hw.1 q_
    refine lv_aload_n hx hb dX9_tokenize_159 rfl (lv_at hl 0 rfl) ?_
    refine lv_iload_n hx hb dX9_tokenize_160 rfl (lv_at hl 1 rfl) ?_
    refine mV_i (As := [.int x1]) (rest := []) C (met_X9_see vE vM hw) (va_recv hK hP (ci := 11) (q0 := 0) rfl rfl) (cwV 1 hts (TB_G (TB_4 tw_5_224 tw_5_226 ts_28 tw_1_13) tw_5_227) rfl rfl rfl (by decide +kernel) ⟨by decide, by decide⟩) hP hD hS rfl hl.1 rfl (Nat.le_of_ble_eq_true rfl) dX9_tokenize_161 ⟨by decide, by decide⟩ (fun r_25 σ_26 H locs hw hP hD hS => ?_)
    have hG : mG D cA h ad A s σ_26 H locs := ⟨hP, hD, hS⟩
    refine mS_i (As := [.int r_25]) (rest := []) C (met_X9_isDigit vE vM hw) (va_cwS 1 hts (TB_G (TB_3 tw_5_221 tw_5_222 tw_1_13) tw_5_223) rfl rfl rfl (by decide +kernel) ⟨by decide, by decide⟩) hP hD hS rfl hl.1 rfl (Nat.le_of_ble_eq_true rfl) dX9_tokenize_164 ⟨by decide, by decide⟩ (fun r_27 H locs hw hP hS => ?_)
    have hG : mG D cA h ad A s σ_26 H locs := ⟨hP, hD, hS⟩
    refine lv_if_eq (tgt := 203) hx hb dX9_tokenize_167 (by decide) (fun q_ => ?_) (fun q_ => ?_)
    · have hw := hw.1 q_
      refine lv_aload_n hx hb dX9_tokenize_203 rfl (lv_at hl 0 rfl) ?_
      refine lv_iload_n hx hb dX9_tokenize_204 rfl (lv_at hl 1 rfl) ?_
      refine lv_iload_n hx hb dX9_tokenize_205 rfl (lv_at hl 2 rfl) ?_
      refine lv_isub hx hb dX9_tokenize_206 ?_
      refine lv_bipush (v := 8) hx hb dX9_tokenize_207 (by decide) ?_
      refine lv_icmp_le (tgt := 216) hx hb dX9_tokenize_209 (by decide) (fun q_ => ?_) (fun q_ => ?_)
      · have hw := hw.1 q_
        refine lv_iconst (v := 1) hx hb dX9_tokenize_216 (by decide) ?_
        exact kB_X9_tokenize_217 C vM hk9 x1 x3 x4 1 σ_26 _ _ _ hG (lv_sub hl [0, 1, 2, 3] rfl) hw
      · have hw := hw.2 q_
        refine lv_iconst (v := 4) hx hb dX9_tokenize_212 (by decide) ?_
        refine lv_goto (tgt := 217) hx hb dX9_tokenize_213 (by decide) ?_
        exact kB_X9_tokenize_217 C vM hk9 x1 x3 x4 4 σ_26 _ _ _ hG (lv_sub hl [0, 1, 2, 3] rfl) hw
    · have hw := hw.2 q_
      exact kB_X9_tokenize_170 C vM hk9 hk148 x1 x3 x4 σ_26 _ _ _ hG (lv_sub hl [0, 1, 2, 3] rfl) hw
theorem kL_X9_tokenize_148 {p : Program} {l : Launch} {e : Env} {s : State} {m : MethodId} {args : Array Value} {below : List Frame} {meth : Method} {c : Code} {A : Nat → Prop} {E : EnvT} {aK aV : Nat → Nat} {D : va_G} {cA : Nat → ClassId} {h : Nat} {ad : Nat → Nat} (C : mCx p s m args meth c cX9_tokenize 6 none wgX9_tokenize RX9 E D cA A) (vM : eMs aK aV E) {post : MS → Prop}
    {k9 : Int32 → Int32 → MS → Prop} (hk9 : ∀ (x1 : Int32) (x2 : Int32) (σ : MS) (H : Heap) (locs : List Loc) (ls : Array Slot), mG D cA h ad A s σ H locs → lv_has ls 6 [(0, .ref h), (1, .int x1), (2, .int x2)] → k9 x1 x2 σ → W p l e rm_X9_tokenize s m args below meth c H locs 0 0 (MQ below (va_Qv post (mAt D cA h ad A) A) args s 0 0 A) (F0 m 9 ls [])) :
    ∀ (n : Nat) (x1 : Int32) (x3 : Int32) (x4 : Int64) (σ : MS) (H : Heap) (locs : List Loc) (ls : Array Slot), mG D cA h ad A s σ H locs → lv_has ls 6 [(0, .ref h), (1, .int x1), (3, .int x3), (4, .long x4)] → wL_X9_tokenize_148 post k9 n x1 x3 x4 σ → W p l e rm_X9_tokenize s m args below meth c H locs 0 0 (MQ below (va_Qv post (mAt D cA h ad A) A) args s 0 0 A) (F0 m 148 ls []) := by
  intro n
  induction n with
  | zero => intro x1 x3 x4 σ H locs ls hG hl hw; exact hw.elim
  | succ n ih => exact kB_X9_tokenize_148 C vM hk9 ih
set_option maxHeartbeats 4000000 in
set_option maxRecDepth 100000 in
theorem kB_X9_tokenize_127 {p : Program} {l : Launch} {e : Env} {s : State} {m : MethodId} {args : Array Value} {below : List Frame} {meth : Method} {c : Code} {A : Nat → Prop} {E : EnvT} {aK aV : Nat → Nat} {D : va_G} {cA : Nat → ClassId} {h : Nat} {ad : Nat → Nat} (C : mCx p s m args meth c cX9_tokenize 6 none wgX9_tokenize RX9 E D cA A) (vM : eMs aK aV E) {post : MS → Prop}
    {k9 : Int32 → Int32 → MS → Prop} (hk9 : ∀ (x1 : Int32) (x2 : Int32) (σ : MS) (H : Heap) (locs : List Loc) (ls : Array Slot), mG D cA h ad A s σ H locs → lv_has ls 6 [(0, .ref h), (1, .int x1), (2, .int x2)] → k9 x1 x2 σ → W p l e rm_X9_tokenize s m args below meth c H locs 0 0 (MQ below (va_Qv post (mAt D cA h ad A) A) args s 0 0 A) (F0 m 9 ls [])) :
    ∀ (x1 : Int32) (x3 : Int32) (x4 : Int64) (t0 : Int32) (σ : MS) (H : Heap) (locs : List Loc) (ls : Array Slot), mG D cA h ad A s σ H locs → lv_has ls 6 [(0, .ref h), (1, .int x1), (3, .int x3), (4, .long x4)] → wB_X9_tokenize_127 post k9 x1 x3 x4 t0 σ → W p l e rm_X9_tokenize s m args below meth c H locs 0 0 (MQ below (va_Qv post (mAt D cA h ad A) A) args s 0 0 A) (F0 m 127 ls [.int t0, .ref h]) := by
  obtain ⟨hx, hb, hml, hr, hown, hts, hK, hA, hlk, hE, vE⟩ := id C
  intro x1 x3 x4 t0 σ H locs ls hG hl hw
  obtain ⟨hP, hD, hS⟩ := id hG
  refine lv_iload_n hx hb dX9_tokenize_127 rfl (lv_at hl 2 rfl) ?_
  refine lv_lload hx hb dX9_tokenize_128 (lv_at hl 3 rfl) ?_
  refine mV_v (As := [.int t0, .int x3, .long x4]) (rest := []) C (met_X9_token vE vM hw) (va_recv hK hP (ci := 11) (q0 := 0) rfl rfl) (cwV 3 hts (TB_G (TB_4 tw_5_231 tw_5_233 ts_29 tw_1_13) tw_5_234) rfl rfl rfl (by decide +kernel) ⟨by decide, by decide⟩) hP hD hS rfl hl.1 rfl (Nat.le_of_ble_eq_true rfl) dX9_tokenize_130 ⟨by decide, by decide⟩ (fun σ_36 H locs hw hP hD hS => ?_)
  have hG : mG D cA h ad A s σ_36 H locs := ⟨hP, hD, hS⟩
  refine lv_goto (tgt := 258) hx hb dX9_tokenize_133 (by decide) ?_
  exact kB_X9_tokenize_258 C vM hk9 x1 σ_36 _ _ _ hG (lv_sub hl [0, 1] rfl) hw
set_option maxHeartbeats 4000000 in
set_option maxRecDepth 100000 in
theorem kB_X9_tokenize_122 {p : Program} {l : Launch} {e : Env} {s : State} {m : MethodId} {args : Array Value} {below : List Frame} {meth : Method} {c : Code} {A : Nat → Prop} {E : EnvT} {aK aV : Nat → Nat} {D : va_G} {cA : Nat → ClassId} {h : Nat} {ad : Nat → Nat} (C : mCx p s m args meth c cX9_tokenize 6 none wgX9_tokenize RX9 E D cA A) (vM : eMs aK aV E) {post : MS → Prop}
    {k9 : Int32 → Int32 → MS → Prop} (hk9 : ∀ (x1 : Int32) (x2 : Int32) (σ : MS) (H : Heap) (locs : List Loc) (ls : Array Slot), mG D cA h ad A s σ H locs → lv_has ls 6 [(0, .ref h), (1, .int x1), (2, .int x2)] → k9 x1 x2 σ → W p l e rm_X9_tokenize s m args below meth c H locs 0 0 (MQ below (va_Qv post (mAt D cA h ad A) A) args s 0 0 A) (F0 m 9 ls [])) :
    ∀ (x1 : Int32) (x3 : Int32) (x4 : Int64) (σ : MS) (H : Heap) (locs : List Loc) (ls : Array Slot), mG D cA h ad A s σ H locs → lv_has ls 6 [(0, .ref h), (1, .int x1), (3, .int x3), (4, .long x4)] → wB_X9_tokenize_122 post k9 x1 x3 x4 σ → W p l e rm_X9_tokenize s m args below meth c H locs 0 0 (MQ below (va_Qv post (mAt D cA h ad A) A) args s 0 0 A) (F0 m 122 ls [.ref h]) := by
  obtain ⟨hx, hb, hml, hr, hown, hts, hK, hA, hlk, hE, vE⟩ := id C
  intro x1 x3 x4 σ H locs ls hG hl hw
  obtain ⟨hP, hD, hS⟩ := id hG
  refine lv_iconst (v := 4) hx hb dX9_tokenize_122 (by decide) ?_
  refine lv_goto (tgt := 127) hx hb dX9_tokenize_123 (by decide) ?_
  exact kB_X9_tokenize_127 C vM hk9 x1 x3 x4 4 σ _ _ _ hG (lv_sub hl [0, 1, 2, 3] rfl) hw
set_option maxHeartbeats 4000000 in
set_option maxRecDepth 100000 in
theorem kB_X9_tokenize_96 {p : Program} {l : Launch} {e : Env} {s : State} {m : MethodId} {args : Array Value} {below : List Frame} {meth : Method} {c : Code} {A : Nat → Prop} {E : EnvT} {aK aV : Nat → Nat} {D : va_G} {cA : Nat → ClassId} {h : Nat} {ad : Nat → Nat} (C : mCx p s m args meth c cX9_tokenize 6 none wgX9_tokenize RX9 E D cA A) (vM : eMs aK aV E) {post : MS → Prop}
    {k9 : Int32 → Int32 → MS → Prop} (hk9 : ∀ (x1 : Int32) (x2 : Int32) (σ : MS) (H : Heap) (locs : List Loc) (ls : Array Slot), mG D cA h ad A s σ H locs → lv_has ls 6 [(0, .ref h), (1, .int x1), (2, .int x2)] → k9 x1 x2 σ → W p l e rm_X9_tokenize s m args below meth c H locs 0 0 (MQ below (va_Qv post (mAt D cA h ad A) A) args s 0 0 A) (F0 m 9 ls []))
    {k55 : Int32 → Int32 → Int64 → MS → Prop} (hk55 : ∀ (x1 : Int32) (x3 : Int32) (x4 : Int64) (σ : MS) (H : Heap) (locs : List Loc) (ls : Array Slot), mG D cA h ad A s σ H locs → lv_has ls 6 [(0, .ref h), (1, .int x1), (3, .int x3), (4, .long x4)] → k55 x1 x3 x4 σ → W p l e rm_X9_tokenize s m args below meth c H locs 0 0 (MQ below (va_Qv post (mAt D cA h ad A) A) args s 0 0 A) (F0 m 55 ls [])) :
    ∀ (x1 : Int32) (x3 : Int32) (t0 : Int64) (σ : MS) (H : Heap) (locs : List Loc) (ls : Array Slot), mG D cA h ad A s σ H locs → lv_has ls 6 [(0, .ref h), (1, .int x1), (3, .int x3)] → wB_X9_tokenize_96 post k9 k55 x1 x3 t0 σ → W p l e rm_X9_tokenize s m args below meth c H locs 0 0 (MQ below (va_Qv post (mAt D cA h ad A) A) args s 0 0 A) (F0 m 96 ls [.long t0]) := by
  obtain ⟨hx, hb, hml, hr, hown, hts, hK, hA, hlk, hE, vE⟩ := id C
  intro x1 x3 t0 σ H locs ls hG hl hw
  obtain ⟨hP, hD, hS⟩ := id hG
  refine lv_lstore (lv' := [(4, .long t0), (0, .ref h), (1, .int x1), (3, .int x3)]) hx hb dX9_tokenize_96 hl (by decide) rfl (fun ls hl => ?_)
  obtain ⟨x1_37, ex1_37⟩ : ∃ y : Int32, y = x1 + 1 := ⟨_, rfl⟩
  have hw := hw x1_37 ex1_37
  refine lv_iinc (v := x1_37) (lv' := [(1, .int x1_37), (4, .long t0), (0, .ref h), (3, .int x3)]) hx hb dX9_tokenize_98 hl (k := 2) rfl (by rw [ex1_37]; rfl) (by decide) rfl (fun ls hl => ?_)
  refine lv_goto (tgt := 55) hx hb dX9_tokenize_101 (by decide) ?_
  exact hk55 x1_37 x3 t0 σ _ _ _ hG (lv_sub hl [2, 0, 3, 1] rfl) hw
set_option maxHeartbeats 4000000 in
set_option maxRecDepth 100000 in
theorem kB_X9_tokenize_55 {p : Program} {l : Launch} {e : Env} {s : State} {m : MethodId} {args : Array Value} {below : List Frame} {meth : Method} {c : Code} {A : Nat → Prop} {E : EnvT} {aK aV : Nat → Nat} {D : va_G} {cA : Nat → ClassId} {h : Nat} {ad : Nat → Nat} (C : mCx p s m args meth c cX9_tokenize 6 none wgX9_tokenize RX9 E D cA A) (vM : eMs aK aV E) {post : MS → Prop}
    {k9 : Int32 → Int32 → MS → Prop} (hk9 : ∀ (x1 : Int32) (x2 : Int32) (σ : MS) (H : Heap) (locs : List Loc) (ls : Array Slot), mG D cA h ad A s σ H locs → lv_has ls 6 [(0, .ref h), (1, .int x1), (2, .int x2)] → k9 x1 x2 σ → W p l e rm_X9_tokenize s m args below meth c H locs 0 0 (MQ below (va_Qv post (mAt D cA h ad A) A) args s 0 0 A) (F0 m 9 ls []))
    {k55 : Int32 → Int32 → Int64 → MS → Prop} (hk55 : ∀ (x1 : Int32) (x3 : Int32) (x4 : Int64) (σ : MS) (H : Heap) (locs : List Loc) (ls : Array Slot), mG D cA h ad A s σ H locs → lv_has ls 6 [(0, .ref h), (1, .int x1), (3, .int x3), (4, .long x4)] → k55 x1 x3 x4 σ → W p l e rm_X9_tokenize s m args below meth c H locs 0 0 (MQ below (va_Qv post (mAt D cA h ad A) A) args s 0 0 A) (F0 m 55 ls [])) :
    ∀ (x1 : Int32) (x3 : Int32) (x4 : Int64) (σ : MS) (H : Heap) (locs : List Loc) (ls : Array Slot), mG D cA h ad A s σ H locs → lv_has ls 6 [(0, .ref h), (1, .int x1), (3, .int x3), (4, .long x4)] → wB_X9_tokenize_55 post k9 k55 x1 x3 x4 σ → W p l e rm_X9_tokenize s m args below meth c H locs 0 0 (MQ below (va_Qv post (mAt D cA h ad A) A) args s 0 0 A) (F0 m 55 ls []) := by
  obtain ⟨hx, hb, hml, hr, hown, hts, hK, hA, hlk, hE, vE⟩ := id C
  intro x1 x3 x4 σ H locs ls hG hl hw
  obtain ⟨hP, hD, hS⟩ := id hG
  refine lv_aload_n hx hb dX9_tokenize_55 rfl (lv_at hl 0 rfl) ?_
  refine lv_iload_n hx hb dX9_tokenize_56 rfl (lv_at hl 1 rfl) ?_
  refine mV_i (As := [.int x1]) (rest := []) C (met_X9_see vE vM hw) (va_recv hK hP (ci := 11) (q0 := 0) rfl rfl) (cwV 1 hts (TB_G (TB_4 tw_5_224 tw_5_226 ts_28 tw_1_13) tw_5_227) rfl rfl rfl (by decide +kernel) ⟨by decide, by decide⟩) hP hD hS rfl hl.1 rfl (Nat.le_of_ble_eq_true rfl) dX9_tokenize_57 ⟨by decide, by decide⟩ (fun r_31 σ_32 H locs hw hP hD hS => ?_)
  have hG : mG D cA h ad A s σ_32 H locs := ⟨hP, hD, hS⟩
  refine mS_i (As := [.int r_31]) (rest := []) C (met_X9_isDigit vE vM hw) (va_cwS 1 hts (TB_G (TB_3 tw_5_221 tw_5_222 tw_1_13) tw_5_223) rfl rfl rfl (by decide +kernel) ⟨by decide, by decide⟩) hP hD hS rfl hl.1 rfl (Nat.le_of_ble_eq_true rfl) dX9_tokenize_60 ⟨by decide, by decide⟩ (fun r_33 H locs hw hP hS => ?_)
  have hG : mG D cA h ad A s σ_32 H locs := ⟨hP, hD, hS⟩
  refine lv_if_eq (tgt := 104) hx hb dX9_tokenize_63 (by decide) (fun q_ => ?_) (fun q_ => ?_)
  · have hw := hw.1 q_
    refine lv_aload_n hx hb dX9_tokenize_104 rfl (lv_at hl 0 rfl) ?_
    refine lv_iload_n hx hb dX9_tokenize_105 rfl (lv_at hl 1 rfl) ?_
    refine lv_iload_n hx hb dX9_tokenize_106 rfl (lv_at hl 2 rfl) ?_
    refine lv_isub hx hb dX9_tokenize_107 ?_
    refine lv_bipush (v := 10) hx hb dX9_tokenize_108 (by decide) ?_
    refine lv_icmp_gt (tgt := 122) hx hb dX9_tokenize_110 (by decide) (fun q_ => ?_) (fun q_ => ?_)
    · have hw := hw.1 q_
      exact kB_X9_tokenize_122 C vM hk9 x1 x3 x4 σ_32 _ _ _ hG (lv_sub hl [0, 1, 2, 3] rfl) hw
    · have hw := hw.2 q_
      refine lv_lload hx hb dX9_tokenize_113 (lv_at hl 3 rfl) ?_
      refine lv_ldc2 (v := 2147483648) hx hb hown (hts _ (List.mem_cons_of_mem _ tw_5_230)) dX9_tokenize_115 ?_
      refine W.lcmp hx hb dX9_tokenize_118 ?_
      refine lv_if_le (tgt := 126) hx hb dX9_tokenize_119 (by decide) (fun q_ => ?_) (fun q_ => ?_)
      · have hw := hw.1 (lc_le.mp q_)
        refine lv_iconst (v := 2) hx hb dX9_tokenize_126 (by decide) ?_
        exact kB_X9_tokenize_127 C vM hk9 x1 x3 x4 2 σ_32 _ _ _ hG (lv_sub hl [0, 1, 2, 3] rfl) hw
      · have hw := hw.2 (fun z => q_ (lc_le.mpr z))
        exact kB_X9_tokenize_122 C vM hk9 x1 x3 x4 σ_32 _ _ _ hG (lv_sub hl [0, 1, 2, 3] rfl) hw
  · have hw := hw.2 q_
    refine lv_iload_n hx hb dX9_tokenize_66 rfl (lv_at hl 1 rfl) ?_
    refine lv_iload_n hx hb dX9_tokenize_67 rfl (lv_at hl 2 rfl) ?_
    refine lv_isub hx hb dX9_tokenize_68 ?_
    refine lv_bipush (v := 10) hx hb dX9_tokenize_69 (by decide) ?_
    refine lv_icmp_ge (tgt := 94) hx hb dX9_tokenize_71 (by decide) (fun q_ => ?_) (fun q_ => ?_)
    · have hw := hw.1 q_
      refine lv_lload hx hb dX9_tokenize_94 (lv_at hl 3 rfl) ?_
      exact kB_X9_tokenize_96 C vM hk9 hk55 x1 x3 x4 σ_32 _ _ _ hG (lv_sub hl [0, 1, 2] rfl) hw
    · have hw := hw.2 q_
      refine lv_ldc2 (v := 10) hx hb hown (hts _ (List.mem_cons_of_mem _ tw_5_228)) dX9_tokenize_74 ?_
      refine lv_lload hx hb dX9_tokenize_77 (lv_at hl 3 rfl) ?_
      refine lv_lmul hx hb dX9_tokenize_79 ?_
      refine lv_aload_n hx hb dX9_tokenize_80 rfl (lv_at hl 0 rfl) ?_
      refine lv_iload_n hx hb dX9_tokenize_81 rfl (lv_at hl 1 rfl) ?_
      refine mV_i (As := [.int x1]) (rest := [.long (10 * x4)]) C (met_X9_see vE vM hw) (va_recv hK hP (ci := 11) (q0 := 0) rfl rfl) (cwV 1 hts (TB_G (TB_4 tw_5_224 tw_5_226 ts_28 tw_1_13) tw_5_227) rfl rfl rfl (by decide +kernel) ⟨by decide, by decide⟩) hP hD hS rfl hl.1 rfl (Nat.le_of_ble_eq_true rfl) dX9_tokenize_82 ⟨by decide, by decide⟩ (fun r_38 σ_39 H locs hw hP hD hS => ?_)
      have hG : mG D cA h ad A s σ_39 H locs := ⟨hP, hD, hS⟩
      refine lv_i2l hx hb dX9_tokenize_85 rfl ?_
      refine lv_ladd hx hb dX9_tokenize_86 ?_
      refine lv_ldc2 (v := 48) hx hb hown (hts _ (List.mem_cons_of_mem _ tw_5_229)) dX9_tokenize_87 ?_
      refine lv_lsub hx hb dX9_tokenize_90 ?_
      refine lv_goto (tgt := 96) hx hb dX9_tokenize_91 (by decide) ?_
      exact kB_X9_tokenize_96 C vM hk9 hk55 x1 x3 (((10 * x4) + (r_38.toInt64)) - 48) σ_39 _ _ _ hG (lv_sub hl [0, 1, 2] rfl) hw
theorem kL_X9_tokenize_55 {p : Program} {l : Launch} {e : Env} {s : State} {m : MethodId} {args : Array Value} {below : List Frame} {meth : Method} {c : Code} {A : Nat → Prop} {E : EnvT} {aK aV : Nat → Nat} {D : va_G} {cA : Nat → ClassId} {h : Nat} {ad : Nat → Nat} (C : mCx p s m args meth c cX9_tokenize 6 none wgX9_tokenize RX9 E D cA A) (vM : eMs aK aV E) {post : MS → Prop}
    {k9 : Int32 → Int32 → MS → Prop} (hk9 : ∀ (x1 : Int32) (x2 : Int32) (σ : MS) (H : Heap) (locs : List Loc) (ls : Array Slot), mG D cA h ad A s σ H locs → lv_has ls 6 [(0, .ref h), (1, .int x1), (2, .int x2)] → k9 x1 x2 σ → W p l e rm_X9_tokenize s m args below meth c H locs 0 0 (MQ below (va_Qv post (mAt D cA h ad A) A) args s 0 0 A) (F0 m 9 ls [])) :
    ∀ (n : Nat) (x1 : Int32) (x3 : Int32) (x4 : Int64) (σ : MS) (H : Heap) (locs : List Loc) (ls : Array Slot), mG D cA h ad A s σ H locs → lv_has ls 6 [(0, .ref h), (1, .int x1), (3, .int x3), (4, .long x4)] → wL_X9_tokenize_55 post k9 n x1 x3 x4 σ → W p l e rm_X9_tokenize s m args below meth c H locs 0 0 (MQ below (va_Qv post (mAt D cA h ad A) A) args s 0 0 A) (F0 m 55 ls []) := by
  intro n
  induction n with
  | zero => intro x1 x3 x4 σ H locs ls hG hl hw; exact hw.elim
  | succ n ih => exact kB_X9_tokenize_55 C vM hk9 ih
set_option maxHeartbeats 4000000 in
set_option maxRecDepth 100000 in
theorem kB_X9_tokenize_9 {p : Program} {l : Launch} {e : Env} {s : State} {m : MethodId} {args : Array Value} {below : List Frame} {meth : Method} {c : Code} {A : Nat → Prop} {E : EnvT} {aK aV : Nat → Nat} {D : va_G} {cA : Nat → ClassId} {h : Nat} {ad : Nat → Nat} (C : mCx p s m args meth c cX9_tokenize 6 none wgX9_tokenize RX9 E D cA A) (vM : eMs aK aV E) {post : MS → Prop}
    {k9 : Int32 → Int32 → MS → Prop} (hk9 : ∀ (x1 : Int32) (x2 : Int32) (σ : MS) (H : Heap) (locs : List Loc) (ls : Array Slot), mG D cA h ad A s σ H locs → lv_has ls 6 [(0, .ref h), (1, .int x1), (2, .int x2)] → k9 x1 x2 σ → W p l e rm_X9_tokenize s m args below meth c H locs 0 0 (MQ below (va_Qv post (mAt D cA h ad A) A) args s 0 0 A) (F0 m 9 ls [])) :
    ∀ (x1 : Int32) (x2 : Int32) (σ : MS) (H : Heap) (locs : List Loc) (ls : Array Slot), mG D cA h ad A s σ H locs → lv_has ls 6 [(0, .ref h), (1, .int x1), (2, .int x2)] → wB_X9_tokenize_9 post k9 x1 x2 σ → W p l e rm_X9_tokenize s m args below meth c H locs 0 0 (MQ below (va_Qv post (mAt D cA h ad A) A) args s 0 0 A) (F0 m 9 ls []) := by
  obtain ⟨hx, hb, hml, hr, hown, hts, hK, hA, hlk, hE, vE⟩ := id C
  intro x1 x2 σ H locs ls hG hl hw
  obtain ⟨hP, hD, hS⟩ := id hG
  refine lv_iload_n hx hb dX9_tokenize_9 rfl (lv_at hl 2 rfl) ?_
  refine lv_if_eq (tgt := 289) hx hb dX9_tokenize_10 (by decide) (fun q_ => ?_) (fun q_ => ?_)
  · have hw := hw.1 q_
    exact kB_X9_tokenize_289 C vM  σ _ _ _ hG (lv_sub hl [0] rfl) hw
  · have hw := hw.2 q_
    refine lv_iload_n hx hb dX9_tokenize_13 rfl (lv_at hl 1 rfl) ?_
    refine lv_aload_n hx hb dX9_tokenize_14 rfl (lv_at hl 0 rfl) ?_
    refine va_get (D := D) (ci := 11) (v := .int (mI σ 2)) (C := RX9) (T := TX9) (N := 32) hx hb hts (in_tb inX9) hown hK hP 0 rfl rfl 2 (by decide) (hts _ (List.mem_cons_of_mem _ tw_5_112)) (fun _ h9 => h9) rfl dX9_tokenize_15 ?_
    refine lv_icmp_ge (tgt := 289) hx hb dX9_tokenize_18 (by decide) (fun q_ => ?_) (fun q_ => ?_)
    · have hw := hw.1 q_
      exact kB_X9_tokenize_289 C vM  σ _ _ _ hG (lv_sub hl [0] rfl) hw
    · have hw := hw.2 q_
      refine lv_iload_n hx hb dX9_tokenize_21 rfl (lv_at hl 1 rfl) ?_
      refine lv_istore_n (lv' := [(3, .int x1), (0, .ref h), (1, .int x1), (2, .int x2)]) hx hb dX9_tokenize_22 rfl hl (by decide) rfl (fun ls hl => ?_)
      refine lv_lconst (v := 0) hx hb dX9_tokenize_23 (by decide) ?_
      refine lv_lstore (lv' := [(4, .long 0), (3, .int x1), (0, .ref h), (1, .int x1), (2, .int x2)]) hx hb dX9_tokenize_24 hl (by decide) rfl (fun ls hl => ?_)
      refine lv_aload_n hx hb dX9_tokenize_26 rfl (lv_at hl 2 rfl) ?_
      refine va_get (D := D) (ci := 11) (v := .ref (ad 1)) (C := RX9) (T := TX9) (N := 32) hx hb hts (in_tb inX9) hown hK hP 0 rfl rfl 1 (by decide) (hts _ (List.mem_cons_of_mem _ tw_5_111)) (fun _ h9 => h9) rfl dX9_tokenize_27 ?_
      refine lv_iload_n hx hb dX9_tokenize_30 rfl (lv_at hl 3 rfl) ?_
      obtain ⟨h_3, hw⟩ := hw
      refine va_iald hx hb hK hP 1 0 rfl rfl h_3 dX9_tokenize_31 ?_
      refine lv_bipush (v := 32) hx hb dX9_tokenize_32 (by decide) ?_
      refine lv_icmp_ne (tgt := 43) hx hb dX9_tokenize_34 (by decide) (fun q_ => ?_) (fun q_ => ?_)
      · have hw := hw.2 q_
        refine lv_aload_n hx hb dX9_tokenize_43 rfl (lv_at hl 2 rfl) ?_
        refine va_get (D := D) (ci := 11) (v := .ref (ad 1)) (C := RX9) (T := TX9) (N := 32) hx hb hts (in_tb inX9) hown hK hP 0 rfl rfl 1 (by decide) (hts _ (List.mem_cons_of_mem _ tw_5_111)) (fun _ h9 => h9) rfl dX9_tokenize_44 ?_
        refine lv_iload_n hx hb dX9_tokenize_47 rfl (lv_at hl 3 rfl) ?_
        obtain ⟨h_4, hw⟩ := hw
        refine va_iald hx hb hK hP 1 0 rfl rfl h_4 dX9_tokenize_48 ?_
        refine mS_i (As := [.int (mA σ 1 x1.toNatClampNeg)]) (rest := []) C (met_X9_isDigit vE vM hw) (va_cwS 1 hts (TB_G (TB_3 tw_5_221 tw_5_222 tw_1_13) tw_5_223) rfl rfl rfl (by decide +kernel) ⟨by decide, by decide⟩) hP hD hS rfl hl.1 rfl (Nat.le_of_ble_eq_true rfl) dX9_tokenize_49 ⟨by decide, by decide⟩ (fun r_5 H locs hw hP hS => ?_)
        have hG : mG D cA h ad A s σ H locs := ⟨hP, hD, hS⟩
        refine lv_if_eq (tgt := 136) hx hb dX9_tokenize_52 (by decide) (fun q_ => ?_) (fun q_ => ?_)
        · have hw := hw.1 q_
          refine lv_aload_n hx hb dX9_tokenize_136 rfl (lv_at hl 2 rfl) ?_
          refine va_get (D := D) (ci := 11) (v := .ref (ad 1)) (C := RX9) (T := TX9) (N := 32) hx hb hts (in_tb inX9) hown hK hP 0 rfl rfl 1 (by decide) (hts _ (List.mem_cons_of_mem _ tw_5_111)) (fun _ h9 => h9) rfl dX9_tokenize_137 ?_
          refine lv_iload_n hx hb dX9_tokenize_140 rfl (lv_at hl 3 rfl) ?_
          obtain ⟨h_7, hw⟩ := hw
          refine va_iald hx hb hK hP 1 0 rfl rfl h_7 dX9_tokenize_141 ?_
          refine mS_i (As := [.int (mA σ 1 x1.toNatClampNeg)]) (rest := []) C (met_X9_isLetter vE vM hw) (va_cwS 1 hts (TB_G (TB_3 tw_5_235 tw_5_236 tw_1_13) tw_5_237) rfl rfl rfl (by decide +kernel) ⟨by decide, by decide⟩) hP hD hS rfl hl.1 rfl (Nat.le_of_ble_eq_true rfl) dX9_tokenize_142 ⟨by decide, by decide⟩ (fun r_8 H locs hw hP hS => ?_)
          have hG : mG D cA h ad A s σ H locs := ⟨hP, hD, hS⟩
          refine lv_if_eq (tgt := 226) hx hb dX9_tokenize_145 (by decide) (fun q_ => ?_) (fun q_ => ?_)
          · have hw := hw.1 q_
            refine lv_aload_n hx hb dX9_tokenize_226 rfl (lv_at hl 2 rfl) ?_
            refine lv_aload_n hx hb dX9_tokenize_227 rfl (lv_at hl 2 rfl) ?_
            refine va_get (D := D) (ci := 11) (v := .ref (ad 1)) (C := RX9) (T := TX9) (N := 32) hx hb hts (in_tb inX9) hown hK hP 0 rfl rfl 1 (by decide) (hts _ (List.mem_cons_of_mem _ tw_5_111)) (fun _ h9 => h9) rfl dX9_tokenize_228 ?_
            refine lv_iload_n hx hb dX9_tokenize_231 rfl (lv_at hl 3 rfl) ?_
            obtain ⟨h_10, hw⟩ := hw
            refine va_iald hx hb hK hP 1 0 rfl rfl h_10 dX9_tokenize_232 ?_
            refine mS_i (As := [.int (mA σ 1 x1.toNatClampNeg)]) (rest := [.ref h]) C (met_X9_isSign vE vM hw) (va_cwS 1 hts (TB_G (TB_3 tw_5_238 tw_5_239 tw_1_13) tw_6_0) rfl rfl rfl (by decide +kernel) ⟨by decide, by decide⟩) hP hD hS rfl hl.1 rfl (Nat.le_of_ble_eq_true rfl) dX9_tokenize_233 ⟨by decide, by decide⟩ (fun r_11 H locs hw hP hS => ?_)
            have hG : mG D cA h ad A s σ H locs := ⟨hP, hD, hS⟩
            refine lv_if_eq (tgt := 243) hx hb dX9_tokenize_236 (by decide) (fun q_ => ?_) (fun q_ => ?_)
            · have hw := hw.1 q_
              refine lv_iconst (v := 4) hx hb dX9_tokenize_243 (by decide) ?_
              exact kB_X9_tokenize_244 C vM hk9 x1 x1 4 σ _ _ _ hG (lv_sub hl [2, 3, 1] rfl) hw
            · have hw := hw.2 q_
              refine lv_iconst (v := 3) hx hb dX9_tokenize_239 (by decide) ?_
              refine lv_goto (tgt := 244) hx hb dX9_tokenize_240 (by decide) ?_
              exact kB_X9_tokenize_244 C vM hk9 x1 x1 3 σ _ _ _ hG (lv_sub hl [2, 3, 1] rfl) hw
          · have hw := hw.2 q_
            obtain ⟨n_, hw⟩ := hw
            exact kL_X9_tokenize_148 C vM hk9 n_ x1 x1 0 σ _ _ _ hG (lv_sub hl [2, 3, 1, 0] rfl) hw
        · have hw := hw.2 q_
          obtain ⟨n_, hw⟩ := hw
          exact kL_X9_tokenize_55 C vM hk9 n_ x1 x1 0 σ _ _ _ hG (lv_sub hl [2, 3, 1, 0] rfl) hw
      · have hw := hw.1 q_
        obtain ⟨x1_40, ex1_40⟩ : ∃ y : Int32, y = x1 + 1 := ⟨_, rfl⟩
        have hw := hw x1_40 ex1_40
        refine lv_iinc (v := x1_40) (lv' := [(1, .int x1_40), (4, .long 0), (3, .int x1), (0, .ref h), (2, .int x2)]) hx hb dX9_tokenize_37 hl (k := 3) rfl (by rw [ex1_40]; rfl) (by decide) rfl (fun ls hl => ?_)
        refine lv_goto (tgt := 258) hx hb dX9_tokenize_40 (by decide) ?_
        exact kB_X9_tokenize_258 C vM hk9 x1_40 σ _ _ _ hG (lv_sub hl [3, 0] rfl) hw
theorem kL_X9_tokenize_9 {p : Program} {l : Launch} {e : Env} {s : State} {m : MethodId} {args : Array Value} {below : List Frame} {meth : Method} {c : Code} {A : Nat → Prop} {E : EnvT} {aK aV : Nat → Nat} {D : va_G} {cA : Nat → ClassId} {h : Nat} {ad : Nat → Nat} (C : mCx p s m args meth c cX9_tokenize 6 none wgX9_tokenize RX9 E D cA A) (vM : eMs aK aV E) {post : MS → Prop} :
    ∀ (n : Nat) (x1 : Int32) (x2 : Int32) (σ : MS) (H : Heap) (locs : List Loc) (ls : Array Slot), mG D cA h ad A s σ H locs → lv_has ls 6 [(0, .ref h), (1, .int x1), (2, .int x2)] → wL_X9_tokenize_9 post n x1 x2 σ → W p l e rm_X9_tokenize s m args below meth c H locs 0 0 (MQ below (va_Qv post (mAt D cA h ad A) A) args s 0 0 A) (F0 m 9 ls []) := by
  intro n
  induction n with
  | zero => intro x1 x2 σ H locs ls hG hl hw; exact hw.elim
  | succ n ih => exact kB_X9_tokenize_9 C vM ih
set_option maxHeartbeats 4000000 in
set_option maxRecDepth 100000 in
theorem k_X9_tokenize {p : Program} {l : Launch} {e : Env} {s : State} {m : MethodId} {args : Array Value} {below : List Frame} {meth : Method} {c : Code} {A : Nat → Prop} {E : EnvT} {aK aV : Nat → Nat} {D : va_G} {cA : Nat → ClassId} {h : Nat} {ad : Nat → Nat} (C : mCx p s m args meth c cX9_tokenize 6 none wgX9_tokenize RX9 E D cA A) (vM : eMs aK aV E) {post : MS → Prop} :
    ∀ (σ : MS) (H : Heap) (locs : List Loc) (ls : Array Slot), mG D cA h ad A s σ H locs → lv_has ls 6 [(0, .ref h)] → wp_X9_tokenize post σ → W p l e rm_X9_tokenize s m args below meth c H locs 0 0 (MQ below (va_Qv post (mAt D cA h ad A) A) args s 0 0 A) (F0 m 0 ls []) := by
  obtain ⟨hx, hb, hml, hr, hown, hts, hK, hA, hlk, hE, vE⟩ := id C
  intro σ H locs ls hG hl hw
  obtain ⟨hP, hD, hS⟩ := id hG
  refine lv_aload_n hx hb dX9_tokenize_0 rfl (lv_at hl 0 rfl) ?_
  refine lv_iconst (v := 0) hx hb dX9_tokenize_1 (by decide) ?_
  refine va_put (D := D) (ci := 11) (v := .int 0) (ty := .int) (C := RX9) (T := TX9) (N := 32) hx hb hts (in_tb inX9) tyX9 tyX9_ok nmX9 hown hK hP hD hS 0 rfl rfl 5 (by decide) (hts _ (List.mem_cons_of_mem _ tw_5_115)) (fun _ h9 => h9) rfl (by decide +kernel) rfl rfl (Nat.le_of_ble_eq_true rfl) dX9_tokenize_2 (fun H locs hP hD hS => ?_)
  have hG : mG D cA h ad A s (wI σ 5 0) H locs := ⟨hP, hD, hS⟩
  obtain ⟨hP, hD, hS⟩ := id hG
  refine lv_iconst (v := 0) hx hb dX9_tokenize_5 (by decide) ?_
  refine lv_istore_n (lv' := [(1, .int 0), (0, .ref h)]) hx hb dX9_tokenize_6 rfl hl (by decide) rfl (fun ls hl => ?_)
  refine lv_iconst (v := 1) hx hb dX9_tokenize_7 (by decide) ?_
  refine lv_istore_n (lv' := [(2, .int 1), (1, .int 0), (0, .ref h)]) hx hb dX9_tokenize_8 rfl hl (by decide) rfl (fun ls hl => ?_)
  obtain ⟨n_, hw⟩ := hw
  exact kL_X9_tokenize_9 C vM n_ 0 1 (wI σ 5 0) _ _ _ hG (lv_sub hl [2, 1, 0] rfl) hw
set_option maxHeartbeats 4000000 in
set_option maxRecDepth 100000 in
theorem met_X9_tokenize {l : Launch} {E : EnvT} (vE : EnvOk E) {D : va_G} {cA : Nat → ClassId} {h : Nat} {ad : Nat → Nat} {σ : MS} {aK aV : Nat → Nat} (vM : eMs aK aV E) {sz : Nat} {post : MS → Prop} (hw : wp_X9_tokenize post σ) : Met l yX9_tokenize wgX9_tokenize rm_X9_tokenize (va_Pc [.ref h] (mPre E D cA h ad sz σ)) (va_Qv post (mAt D cA h ad (va_A (mW cA h ad σ) sz)) (va_A (mW cA h ad σ) sz)) 0 0 (va_A (mW cA h ad σ) sz) := by
  refine Met.ofW (cc := cX9_tokenize) (maxL := 6) (ret := none) (by decide +kernel) rfl ?_
  intro p e s m args below meth c s₁ B hml hv
  obtain ⟨rfl, hsz, hP, hK, hD0, hE⟩ := hv
  subst hsz
  have hD := hD0.self (sz := s.heap.size)
  generalize hAe : va_A (mW cA h ad σ) s.heap.size = A at hD hE ⊢
  have hA : ∀ q : Nat, s.heap.size ≤ q → A q := fun q h => by rw [← hAe]; exact Or.inr h
  have hS : va_S A s.heap s.heap [] := va_S.rf
  have C : mCx p s m _ meth c cX9_tokenize 6 none wgX9_tokenize RX9 E D cA A := ⟨B.exec, B.bytes, hml, B.returns, findClass_of_methodNamed B.named, atoms_spec (ws := wgX9_tokenize) B.pre, hK, hA, B.notSynchronized, hE, vE⟩
  have hG : mG D cA h ad A s σ s.heap [] := ⟨hP, hD, hS⟩
  have hl := lv_entry ([.ref h]) (n := 6) (Nat.le_of_ble_eq_true rfl)
  rw [lg_entry_eq]
  generalize (lg_sl ([.ref h]) ++ List.replicate (6 - (lg_sl ([.ref h])).length) Slot.unset).toArray = ls at hl ⊢
  have hl : lv_has ls 6 [(0, .ref h)] := hl
  exact k_X9_tokenize C vM σ _ _ _ hG hl hw
/-! ===== refuse ===== -/
def rm_X9_refuse : Room := { frames := 0, cells := 0, slots := 0, locals := 0 }
abbrev wgX9_refuse : List Cond := .code yX9_refuse cX9_refuse 1 (some .boolean) :: TB
def wp_X9_refuse (post : Int32 → MS → Prop) (σ : MS) : Prop :=
  vp_in (mI σ 9) 702 ∧ (post 0 (wI (wI σ 3 1) 4 (mA σ 7 (mI σ 9).toNatClampNeg)))
set_option maxHeartbeats 4000000 in
set_option maxRecDepth 100000 in
theorem k_X9_refuse {p : Program} {l : Launch} {e : Env} {s : State} {m : MethodId} {args : Array Value} {below : List Frame} {meth : Method} {c : Code} {A : Nat → Prop} {E : EnvT} {aK aV : Nat → Nat} {D : va_G} {cA : Nat → ClassId} {h : Nat} {ad : Nat → Nat} (C : mCx p s m args meth c cX9_refuse 1 (some .boolean) wgX9_refuse RX9 E D cA A) (vM : eMs aK aV E) {post : Int32 → MS → Prop} :
    ∀ (σ : MS) (H : Heap) (locs : List Loc) (ls : Array Slot), mG D cA h ad A s σ H locs → lv_has ls 1 [(0, .ref h)] → wp_X9_refuse post σ → W p l e rm_X9_refuse s m args below meth c H locs 0 0 (MQ below (va_Qi post (mAt D cA h ad A) A) args s 0 0 A) (F0 m 0 ls []) := by
  obtain ⟨hx, hb, hml, hr, hown, hts, hK, hA, hlk, hE, vE⟩ := id C
  intro σ H locs ls hG hl hw
  obtain ⟨hP, hD, hS⟩ := id hG
  refine lv_aload_n hx hb dX9_refuse_0 rfl (lv_at hl 0 rfl) ?_
  refine lv_iconst (v := 1) hx hb dX9_refuse_1 (by decide) ?_
  refine va_put (D := D) (ci := 11) (v := .int 1) (ty := .int) (C := RX9) (T := TX9) (N := 32) hx hb hts (in_tb inX9) tyX9 tyX9_ok nmX9 hown hK hP hD hS 0 rfl rfl 3 (by decide) (hts _ (List.mem_cons_of_mem _ tw_5_113)) (fun _ h9 => h9) rfl (by decide +kernel) rfl rfl (Nat.le_of_ble_eq_true rfl) dX9_refuse_2 (fun H locs hP hD hS => ?_)
  have hG : mG D cA h ad A s (wI σ 3 1) H locs := ⟨hP, hD, hS⟩
  obtain ⟨hP, hD, hS⟩ := id hG
  refine lv_aload_n hx hb dX9_refuse_5 rfl (lv_at hl 0 rfl) ?_
  refine lv_aload_n hx hb dX9_refuse_6 rfl (lv_at hl 0 rfl) ?_
  refine va_get (D := D) (ci := 11) (v := .ref (ad 7)) (C := RX9) (T := TX9) (N := 32) hx hb hts (in_tb inX9) hown hK hP 0 rfl rfl 7 (by decide) (hts _ (List.mem_cons_of_mem _ tw_5_117)) (fun _ h9 => h9) rfl dX9_refuse_7 ?_
  refine lv_aload_n hx hb dX9_refuse_10 rfl (lv_at hl 0 rfl) ?_
  refine va_get (D := D) (ci := 11) (v := .int (mI σ 9)) (C := RX9) (T := TX9) (N := 32) hx hb hts (in_tb inX9) hown hK hP 0 rfl rfl 9 (by decide) (hts _ (List.mem_cons_of_mem _ tw_5_119)) (fun _ h9 => h9) rfl dX9_refuse_11 ?_
  obtain ⟨h_1, hw⟩ := hw
  refine va_iald hx hb hK hP 3 0 rfl rfl h_1 dX9_refuse_14 ?_
  refine va_put (D := D) (ci := 11) (v := .int (mA σ 7 (mI σ 9).toNatClampNeg)) (ty := .int) (C := RX9) (T := TX9) (N := 32) hx hb hts (in_tb inX9) tyX9 tyX9_ok nmX9 hown hK hP hD hS 0 rfl rfl 4 (by decide) (hts _ (List.mem_cons_of_mem _ tw_5_114)) (fun _ h9 => h9) rfl (by decide +kernel) rfl rfl (Nat.le_of_ble_eq_true rfl) dX9_refuse_15 (fun H locs hP hD hS => ?_)
  have hG : mG D cA h ad A s (wI (wI σ 3 1) 4 (mA σ 7 (mI σ 9).toNatClampNeg)) H locs := ⟨hP, hD, hS⟩
  obtain ⟨hP, hD, hS⟩ := id hG
  refine lv_iconst (v := 0) hx hb dX9_refuse_18 (by decide) ?_
  exact W.zret (v := 0) (ty := .boolean) hx hb hr rfl (fun t ht hW => ⟨⟨_, (wI (wI σ 3 1) 4 (mA σ 7 (mI σ 9).toNatClampNeg)), rfl, hw, by rw [ht]; exact hP, va_K.moved hW.alike hK, hD⟩, hS.F ht⟩) hS.2.2 dX9_refuse_19 hlk
set_option maxHeartbeats 4000000 in
set_option maxRecDepth 100000 in
theorem met_X9_refuse {l : Launch} {E : EnvT} (vE : EnvOk E) {D : va_G} {cA : Nat → ClassId} {h : Nat} {ad : Nat → Nat} {σ : MS} {aK aV : Nat → Nat} (vM : eMs aK aV E) {sz : Nat} {post : Int32 → MS → Prop} (hw : wp_X9_refuse post σ) : Met l yX9_refuse wgX9_refuse rm_X9_refuse (va_Pc [.ref h] (mPre E D cA h ad sz σ)) (va_Qi post (mAt D cA h ad (va_A (mW cA h ad σ) sz)) (va_A (mW cA h ad σ) sz)) 0 0 (va_A (mW cA h ad σ) sz) := by
  refine Met.ofW (cc := cX9_refuse) (maxL := 1) (ret := (some .boolean)) (by decide +kernel) rfl ?_
  intro p e s m args below meth c s₁ B hml hv
  obtain ⟨rfl, hsz, hP, hK, hD0, hE⟩ := hv
  subst hsz
  have hD := hD0.self (sz := s.heap.size)
  generalize hAe : va_A (mW cA h ad σ) s.heap.size = A at hD hE ⊢
  have hA : ∀ q : Nat, s.heap.size ≤ q → A q := fun q h => by rw [← hAe]; exact Or.inr h
  have hS : va_S A s.heap s.heap [] := va_S.rf
  have C : mCx p s m _ meth c cX9_refuse 1 (some .boolean) wgX9_refuse RX9 E D cA A := ⟨B.exec, B.bytes, hml, B.returns, findClass_of_methodNamed B.named, atoms_spec (ws := wgX9_refuse) B.pre, hK, hA, B.notSynchronized, hE, vE⟩
  have hG : mG D cA h ad A s σ s.heap [] := ⟨hP, hD, hS⟩
  have hl := lv_entry ([.ref h]) (n := 1) (Nat.le_of_ble_eq_true rfl)
  rw [lg_entry_eq]
  generalize (lg_sl ([.ref h]) ++ List.replicate (1 - (lg_sl ([.ref h])).length) Slot.unset).toArray = ls at hl ⊢
  have hl : lv_has ls 1 [(0, .ref h)] := hl
  exact k_X9_refuse C vM σ _ _ _ hG hl hw
/-! ===== note ===== -/
def rm_X9_note : Room := { frames := 0, cells := 0, slots := 0, locals := 0 }
abbrev wgX9_note : List Cond := .code yX9_note cX9_note 3 none :: TB
def wB_X9_note_39 (post : MS → Prop) (σ : MS) : Prop :=
  post σ
def wB_X9_note_40 (post : MS → Prop) (x1 : Int32) (x2 : Int32) (σ : MS) : Prop :=
  post (wI (wI σ 3 x1) 4 x2)
def wp_X9_note (post : MS → Prop) (x1 : Int32) (x2 : Int32) (σ : MS) : Prop :=
  ((mI σ 3) = 1 → (wB_X9_note_39 post σ)) ∧ (¬ (mI σ 3) = 1 → (((mI σ 3) ≤ 0 → (wB_X9_note_40 post x1 x2 σ)) ∧ (¬ (mI σ 3) ≤ 0 → (((mI σ 4) < x2 → (wB_X9_note_39 post σ)) ∧ (¬ (mI σ 4) < x2 → (((mI σ 4) = x2 → ((x1 < (mI σ 3) → (wB_X9_note_40 post x1 x2 σ)) ∧ (¬ x1 < (mI σ 3) → (wB_X9_note_39 post σ)))) ∧ (¬ (mI σ 4) = x2 → (wB_X9_note_40 post x1 x2 σ))))))))
set_option maxHeartbeats 4000000 in
set_option maxRecDepth 100000 in
theorem kB_X9_note_39 {p : Program} {l : Launch} {e : Env} {s : State} {m : MethodId} {args : Array Value} {below : List Frame} {meth : Method} {c : Code} {A : Nat → Prop} {E : EnvT} {aK aV : Nat → Nat} {D : va_G} {cA : Nat → ClassId} {h : Nat} {ad : Nat → Nat} (C : mCx p s m args meth c cX9_note 3 none wgX9_note RX9 E D cA A) (vM : eMs aK aV E) {post : MS → Prop} :
    ∀ (σ : MS) (H : Heap) (locs : List Loc) (ls : Array Slot), mG D cA h ad A s σ H locs → lv_has ls 3 [] → wB_X9_note_39 post σ → W p l e rm_X9_note s m args below meth c H locs 0 0 (MQ below (va_Qv post (mAt D cA h ad A) A) args s 0 0 A) (F0 m 39 ls []) := by
  obtain ⟨hx, hb, hml, hr, hown, hts, hK, hA, hlk, hE, vE⟩ := id C
  intro σ H locs ls hG hl hw
  obtain ⟨hP, hD, hS⟩ := id hG
  exact W.vret hx hb hr (fun t ht hW => ⟨⟨σ, rfl, hw, by rw [ht]; exact hP, va_K.moved hW.alike hK, hD⟩, hS.F ht⟩) hS.2.2 dX9_note_39 hlk
set_option maxHeartbeats 4000000 in
set_option maxRecDepth 100000 in
theorem kB_X9_note_40 {p : Program} {l : Launch} {e : Env} {s : State} {m : MethodId} {args : Array Value} {below : List Frame} {meth : Method} {c : Code} {A : Nat → Prop} {E : EnvT} {aK aV : Nat → Nat} {D : va_G} {cA : Nat → ClassId} {h : Nat} {ad : Nat → Nat} (C : mCx p s m args meth c cX9_note 3 none wgX9_note RX9 E D cA A) (vM : eMs aK aV E) {post : MS → Prop} :
    ∀ (x1 : Int32) (x2 : Int32) (σ : MS) (H : Heap) (locs : List Loc) (ls : Array Slot), mG D cA h ad A s σ H locs → lv_has ls 3 [(0, .ref h), (1, .int x1), (2, .int x2)] → wB_X9_note_40 post x1 x2 σ → W p l e rm_X9_note s m args below meth c H locs 0 0 (MQ below (va_Qv post (mAt D cA h ad A) A) args s 0 0 A) (F0 m 40 ls []) := by
  obtain ⟨hx, hb, hml, hr, hown, hts, hK, hA, hlk, hE, vE⟩ := id C
  intro x1 x2 σ H locs ls hG hl hw
  obtain ⟨hP, hD, hS⟩ := id hG
  refine lv_aload_n hx hb dX9_note_40 rfl (lv_at hl 0 rfl) ?_
  refine lv_iload_n hx hb dX9_note_41 rfl (lv_at hl 1 rfl) ?_
  refine va_put (D := D) (ci := 11) (v := .int x1) (ty := .int) (C := RX9) (T := TX9) (N := 32) hx hb hts (in_tb inX9) tyX9 tyX9_ok nmX9 hown hK hP hD hS 0 rfl rfl 3 (by decide) (hts _ (List.mem_cons_of_mem _ tw_5_113)) (fun _ h9 => h9) rfl (by decide +kernel) rfl rfl (Nat.le_of_ble_eq_true rfl) dX9_note_42 (fun H locs hP hD hS => ?_)
  have hG : mG D cA h ad A s (wI σ 3 x1) H locs := ⟨hP, hD, hS⟩
  obtain ⟨hP, hD, hS⟩ := id hG
  refine lv_aload_n hx hb dX9_note_45 rfl (lv_at hl 0 rfl) ?_
  refine lv_iload_n hx hb dX9_note_46 rfl (lv_at hl 2 rfl) ?_
  refine va_put (D := D) (ci := 11) (v := .int x2) (ty := .int) (C := RX9) (T := TX9) (N := 32) hx hb hts (in_tb inX9) tyX9 tyX9_ok nmX9 hown hK hP hD hS 0 rfl rfl 4 (by decide) (hts _ (List.mem_cons_of_mem _ tw_5_114)) (fun _ h9 => h9) rfl (by decide +kernel) rfl rfl (Nat.le_of_ble_eq_true rfl) dX9_note_47 (fun H locs hP hD hS => ?_)
  have hG : mG D cA h ad A s (wI (wI σ 3 x1) 4 x2) H locs := ⟨hP, hD, hS⟩
  obtain ⟨hP, hD, hS⟩ := id hG
  exact W.vret hx hb hr (fun t ht hW => ⟨⟨(wI (wI σ 3 x1) 4 x2), rfl, hw, by rw [ht]; exact hP, va_K.moved hW.alike hK, hD⟩, hS.F ht⟩) hS.2.2 dX9_note_50 hlk
set_option maxHeartbeats 4000000 in
set_option maxRecDepth 100000 in
theorem k_X9_note {p : Program} {l : Launch} {e : Env} {s : State} {m : MethodId} {args : Array Value} {below : List Frame} {meth : Method} {c : Code} {A : Nat → Prop} {E : EnvT} {aK aV : Nat → Nat} {D : va_G} {cA : Nat → ClassId} {h : Nat} {ad : Nat → Nat} (C : mCx p s m args meth c cX9_note 3 none wgX9_note RX9 E D cA A) (vM : eMs aK aV E) {post : MS → Prop} :
    ∀ (x1 : Int32) (x2 : Int32) (σ : MS) (H : Heap) (locs : List Loc) (ls : Array Slot), mG D cA h ad A s σ H locs → lv_has ls 3 [(0, .ref h), (1, .int x1), (2, .int x2)] → wp_X9_note post x1 x2 σ → W p l e rm_X9_note s m args below meth c H locs 0 0 (MQ below (va_Qv post (mAt D cA h ad A) A) args s 0 0 A) (F0 m 0 ls []) := by
  obtain ⟨hx, hb, hml, hr, hown, hts, hK, hA, hlk, hE, vE⟩ := id C
  intro x1 x2 σ H locs ls hG hl hw
  obtain ⟨hP, hD, hS⟩ := id hG
  refine lv_aload_n hx hb dX9_note_0 rfl (lv_at hl 0 rfl) ?_
  refine va_get (D := D) (ci := 11) (v := .int (mI σ 3)) (C := RX9) (T := TX9) (N := 32) hx hb hts (in_tb inX9) hown hK hP 0 rfl rfl 3 (by decide) (hts _ (List.mem_cons_of_mem _ tw_5_113)) (fun _ h9 => h9) rfl dX9_note_1 ?_
  refine lv_iconst (v := 1) hx hb dX9_note_4 (by decide) ?_
  refine lv_icmp_eq (tgt := 39) hx hb dX9_note_5 (by decide) (fun q_ => ?_) (fun q_ => ?_)
  · have hw := hw.1 q_
    exact kB_X9_note_39 C vM  σ _ _ _ hG (lv_sub hl [] rfl) hw
  · have hw := hw.2 q_
    refine lv_aload_n hx hb dX9_note_8 rfl (lv_at hl 0 rfl) ?_
    refine va_get (D := D) (ci := 11) (v := .int (mI σ 3)) (C := RX9) (T := TX9) (N := 32) hx hb hts (in_tb inX9) hown hK hP 0 rfl rfl 3 (by decide) (hts _ (List.mem_cons_of_mem _ tw_5_113)) (fun _ h9 => h9) rfl dX9_note_9 ?_
    refine lv_if_le (tgt := 40) hx hb dX9_note_12 (by decide) (fun q_ => ?_) (fun q_ => ?_)
    · have hw := hw.1 q_
      exact kB_X9_note_40 C vM x1 x2 σ _ _ _ hG (lv_sub hl [0, 1, 2] rfl) hw
    · have hw := hw.2 q_
      refine lv_aload_n hx hb dX9_note_15 rfl (lv_at hl 0 rfl) ?_
      refine va_get (D := D) (ci := 11) (v := .int (mI σ 4)) (C := RX9) (T := TX9) (N := 32) hx hb hts (in_tb inX9) hown hK hP 0 rfl rfl 4 (by decide) (hts _ (List.mem_cons_of_mem _ tw_5_114)) (fun _ h9 => h9) rfl dX9_note_16 ?_
      refine lv_iload_n hx hb dX9_note_19 rfl (lv_at hl 2 rfl) ?_
      refine lv_icmp_lt (tgt := 39) hx hb dX9_note_20 (by decide) (fun q_ => ?_) (fun q_ => ?_)
      · have hw := hw.1 q_
        exact kB_X9_note_39 C vM  σ _ _ _ hG (lv_sub hl [] rfl) hw
      · have hw := hw.2 q_
        refine lv_aload_n hx hb dX9_note_23 rfl (lv_at hl 0 rfl) ?_
        refine va_get (D := D) (ci := 11) (v := .int (mI σ 4)) (C := RX9) (T := TX9) (N := 32) hx hb hts (in_tb inX9) hown hK hP 0 rfl rfl 4 (by decide) (hts _ (List.mem_cons_of_mem _ tw_5_114)) (fun _ h9 => h9) rfl dX9_note_24 ?_
        refine lv_iload_n hx hb dX9_note_27 rfl (lv_at hl 2 rfl) ?_
        refine lv_icmp_ne (tgt := 40) hx hb dX9_note_28 (by decide) (fun q_ => ?_) (fun q_ => ?_)
        · have hw := hw.2 q_
          exact kB_X9_note_40 C vM x1 x2 σ _ _ _ hG (lv_sub hl [0, 1, 2] rfl) hw
        · have hw := hw.1 q_
          refine lv_aload_n hx hb dX9_note_31 rfl (lv_at hl 0 rfl) ?_
          refine va_get (D := D) (ci := 11) (v := .int (mI σ 3)) (C := RX9) (T := TX9) (N := 32) hx hb hts (in_tb inX9) hown hK hP 0 rfl rfl 3 (by decide) (hts _ (List.mem_cons_of_mem _ tw_5_113)) (fun _ h9 => h9) rfl dX9_note_32 ?_
          refine lv_iload_n hx hb dX9_note_35 rfl (lv_at hl 1 rfl) ?_
          refine lv_icmp_gt (tgt := 40) hx hb dX9_note_36 (by decide) (fun q_ => ?_) (fun q_ => ?_)
          · have hw := hw.1 q_
            exact kB_X9_note_40 C vM x1 x2 σ _ _ _ hG (lv_sub hl [0, 1, 2] rfl) hw
          · have hw := hw.2 q_
            exact kB_X9_note_39 C vM  σ _ _ _ hG (lv_sub hl [] rfl) hw
set_option maxHeartbeats 4000000 in
set_option maxRecDepth 100000 in
theorem met_X9_note {l : Launch} {E : EnvT} (vE : EnvOk E) {D : va_G} {cA : Nat → ClassId} {h : Nat} {ad : Nat → Nat} {σ : MS} {aK aV : Nat → Nat} (vM : eMs aK aV E) {sz : Nat} {x1 : Int32} {x2 : Int32} {post : MS → Prop} (hw : wp_X9_note post x1 x2 σ) : Met l yX9_note wgX9_note rm_X9_note (va_Pc [.ref h, .int x1, .int x2] (mPre E D cA h ad sz σ)) (va_Qv post (mAt D cA h ad (va_A (mW cA h ad σ) sz)) (va_A (mW cA h ad σ) sz)) 0 0 (va_A (mW cA h ad σ) sz) := by
  refine Met.ofW (cc := cX9_note) (maxL := 3) (ret := none) (by decide +kernel) rfl ?_
  intro p e s m args below meth c s₁ B hml hv
  obtain ⟨rfl, hsz, hP, hK, hD0, hE⟩ := hv
  subst hsz
  have hD := hD0.self (sz := s.heap.size)
  generalize hAe : va_A (mW cA h ad σ) s.heap.size = A at hD hE ⊢
  have hA : ∀ q : Nat, s.heap.size ≤ q → A q := fun q h => by rw [← hAe]; exact Or.inr h
  have hS : va_S A s.heap s.heap [] := va_S.rf
  have C : mCx p s m _ meth c cX9_note 3 none wgX9_note RX9 E D cA A := ⟨B.exec, B.bytes, hml, B.returns, findClass_of_methodNamed B.named, atoms_spec (ws := wgX9_note) B.pre, hK, hA, B.notSynchronized, hE, vE⟩
  have hG : mG D cA h ad A s σ s.heap [] := ⟨hP, hD, hS⟩
  have hl := lv_entry ([.ref h, .int x1, .int x2]) (n := 3) (Nat.le_of_ble_eq_true rfl)
  rw [lg_entry_eq]
  generalize (lg_sl ([.ref h, .int x1, .int x2]) ++ List.replicate (3 - (lg_sl ([.ref h, .int x1, .int x2])).length) Slot.unset).toArray = ls at hl ⊢
  have hl : lv_has ls 3 [(0, .ref h), (1, .int x1), (2, .int x2)] := hl
  exact k_X9_note C vM x1 x2 σ _ _ _ hG hl hw
