/-! ===== live ===== -/
def rm_X9_live : Room := { frames := 8, cells := 0, slots := 0, locals := 183 }
abbrev wgX9_live : List Cond := .code yX9_live cX9_live 7 (some .boolean) :: TB
def wB_X9_live_23 (post : Int32 → MS → Prop) (σ : MS) : Prop :=
  post 0 σ
def wB_X9_live_172 (post : Int32 → MS → Prop) (k57 : Int32 → Int32 → MS → Prop) (k66 : Int32 → Int32 → Int32 → MS → Prop) (x2 : Int32) (x3 : Int32) (x4 : Int32) (σ : MS) : Prop :=
  ∀ x4_6 : Int32, x4_6 = x4 + 1 → k66 x2 x3 x4_6 σ
def wB_X9_live_166 (post : Int32 → MS → Prop) (k57 : Int32 → Int32 → MS → Prop) (k66 : Int32 → Int32 → Int32 → MS → Prop) (k103 : Int32 → Int32 → Int32 → Int32 → MS → Prop) (x2 : Int32) (x3 : Int32) (x4 : Int32) (x5 : Int32) (σ : MS) : Prop :=
  ∀ x5_11 : Int32, x5_11 = x5 + 1 → k103 x2 x3 x4 x5_11 σ
def wB_X9_live_103 (post : Int32 → MS → Prop) (k57 : Int32 → Int32 → MS → Prop) (k66 : Int32 → Int32 → Int32 → MS → Prop) (k103 : Int32 → Int32 → Int32 → Int32 → MS → Prop) (x2 : Int32) (x3 : Int32) (x4 : Int32) (x5 : Int32) (σ : MS) : Prop :=
  (2 ≤ x5 → (wB_X9_live_172 post k57 k66 x2 x3 x4 σ)) ∧ (¬ 2 ≤ x5 → (wp_X9_writes (fun r_7 σ_8 => (r_7 = 0 → (wp_X9_wayOf (fun r_9 σ_10 => (r_9 < 0 → (wB_X9_live_166 post k57 k66 k103 x2 x3 x4 x5 σ_10)) ∧ (¬ r_9 < 0 → (wp_X9_isPlace (fun r_12 σ_13 => (r_12 = 0 → (wB_X9_live_166 post k57 k66 k103 x2 x3 x4 x5 σ_13)) ∧ (¬ r_12 = 0 → (vp_in r_9 64 ∧ (((mA σ_13 31 r_9.toNatClampNeg) = 0 → (vp_in r_9 64 ∧ (wB_X9_live_166 post k57 k66 k103 x2 1 x4 x5 (wA σ_13 31 r_9.toNatClampNeg 1)))) ∧ (¬ (mA σ_13 31 r_9.toNatClampNeg) = 0 → (wB_X9_live_166 post k57 k66 k103 x2 x3 x4 x5 σ_13)))))) r_9 σ_10))) x4 x5 σ_8)) ∧ (¬ r_7 = 0 → (wB_X9_live_172 post k57 k66 x2 x3 x4 σ_8))) x4 x2 σ))
def wL_X9_live_103 (post : Int32 → MS → Prop) (k57 : Int32 → Int32 → MS → Prop) (k66 : Int32 → Int32 → Int32 → MS → Prop) : Nat → Int32 → Int32 → Int32 → Int32 → MS → Prop
  | 0 => fun _ _ _ _ _ => False
  | n + 1 => wB_X9_live_103 post k57 k66 (wL_X9_live_103 post k57 k66 n)
def wB_X9_live_66 (post : Int32 → MS → Prop) (k57 : Int32 → Int32 → MS → Prop) (k66 : Int32 → Int32 → Int32 → MS → Prop) (x2 : Int32) (x3 : Int32) (x4 : Int32) (σ : MS) : Prop :=
  ((mI σ 11) ≤ x4 → (k57 x2 x3 σ)) ∧ (¬ (mI σ 11) ≤ x4 → (vp_in x4 64 ∧ (((mA σ 31 x4.toNatClampNeg) = 0 → (wB_X9_live_172 post k57 k66 x2 x3 x4 σ)) ∧ (¬ (mA σ 31 x4.toNatClampNeg) = 0 → (wp_X9_reads (fun r_4 σ_5 => (r_4 = 0 → (∃ n, wL_X9_live_103 post k57 k66 n x2 x3 x4 0 σ_5)) ∧ (¬ r_4 = 0 → (post 1 σ_5))) x4 x2 σ)))))
def wL_X9_live_66 (post : Int32 → MS → Prop) (k57 : Int32 → Int32 → MS → Prop) : Nat → Int32 → Int32 → Int32 → MS → Prop
  | 0 => fun _ _ _ _ => False
  | n + 1 => wB_X9_live_66 post k57 (wL_X9_live_66 post k57 n)
def wB_X9_live_57 (post : Int32 → MS → Prop) (k57 : Int32 → Int32 → MS → Prop) (x2 : Int32) (x3 : Int32) (σ : MS) : Prop :=
  (x3 = 0 → (post 0 σ)) ∧ (¬ x3 = 0 → (∃ n, wL_X9_live_66 post k57 n x2 0 0 σ))
def wL_X9_live_57 (post : Int32 → MS → Prop) : Nat → Int32 → Int32 → MS → Prop
  | 0 => fun _ _ _ => False
  | n + 1 => wB_X9_live_57 post (wL_X9_live_57 post n)
def wB_X9_live_48 (post : Int32 → MS → Prop) (k27 : Int32 → Int32 → Int32 → MS → Prop) (x1 : Int32) (x2 : Int32) (x3 : Int32) (t0 : Int32) (t1 : Int32) (σ : MS) : Prop :=
  vp_in t1 64 ∧ (∀ x3_17 : Int32, x3_17 = x3 + 1 → k27 x1 x2 x3_17 (wA σ 31 t1.toNatClampNeg (vp_nar .boolean t0)))
def wB_X9_live_27 (post : Int32 → MS → Prop) (k27 : Int32 → Int32 → Int32 → MS → Prop) (x1 : Int32) (x2 : Int32) (x3 : Int32) (σ : MS) : Prop :=
  (64 ≤ x3 → (∃ n, wL_X9_live_57 post n x2 1 σ)) ∧ (¬ 64 ≤ x3 → ((x3 = x1 → (wB_X9_live_48 post k27 x1 x2 x3 1 x3 σ)) ∧ (¬ x3 = x1 → (wB_X9_live_48 post k27 x1 x2 x3 0 x3 σ))))
def wL_X9_live_27 (post : Int32 → MS → Prop) : Nat → Int32 → Int32 → Int32 → MS → Prop
  | 0 => fun _ _ _ _ => False
  | n + 1 => wB_X9_live_27 post (wL_X9_live_27 post n)
def wp_X9_live (post : Int32 → MS → Prop) (x1 : Int32) (x2 : Int32) (σ : MS) : Prop :=
  wp_X9_isPlace (fun r_1 σ_2 => (r_1 = 0 → (wB_X9_live_23 post σ_2)) ∧ (¬ r_1 = 0 → ((x2 < 0 → (wB_X9_live_23 post σ_2)) ∧ (¬ x2 < 0 → ((x2 ≤ 19 → (∃ n, wL_X9_live_27 post n x1 x2 0 σ_2)) ∧ (¬ x2 ≤ 19 → (wB_X9_live_23 post σ_2))))))) x1 (wI σ 0 0)
set_option maxHeartbeats 4000000 in
set_option maxRecDepth 100000 in
theorem kB_X9_live_23 {p : Program} {l : Launch} {e : Env} {s : State} {m : MethodId} {args : Array Value} {below : List Frame} {meth : Method} {c : Code} {A : Nat → Prop} {E : EnvT} {aK aV : Nat → Nat} {D : va_G} {cA : Nat → ClassId} {h : Nat} {ad : Nat → Nat} (C : mCx p s m args meth c cX9_live 7 (some .boolean) wgX9_live RX9 E D cA A) (vM : eMs aK aV E) {post : Int32 → MS → Prop} :
    ∀ (σ : MS) (H : Heap) (locs : List Loc) (ls : Array Slot), mG D cA h ad A s σ H locs → lv_has ls 7 [] → wB_X9_live_23 post σ → W p l e rm_X9_live s m args below meth c H locs 0 0 (MQ below (va_Qi post (mAt D cA h ad A) A) args s 0 0 A) (F0 m 23 ls []) := by
  obtain ⟨hx, hb, hml, hr, hown, hts, hK, hA, hlk, hE, vE⟩ := id C
  intro σ H locs ls hG hl hw
  obtain ⟨hP, hD, hS⟩ := id hG
  refine lv_iconst (v := 0) hx hb dX9_live_23 (by decide) ?_
  exact W.zret (v := 0) (ty := .boolean) hx hb hr rfl (fun t ht hW => ⟨⟨_, σ, rfl, hw, by rw [ht]; exact hP, va_K.moved hW.alike hK, hD⟩, hS.F ht⟩) hS.2.2 dX9_live_24 hlk
set_option maxHeartbeats 4000000 in
set_option maxRecDepth 100000 in
theorem kB_X9_live_172 {p : Program} {l : Launch} {e : Env} {s : State} {m : MethodId} {args : Array Value} {below : List Frame} {meth : Method} {c : Code} {A : Nat → Prop} {E : EnvT} {aK aV : Nat → Nat} {D : va_G} {cA : Nat → ClassId} {h : Nat} {ad : Nat → Nat} (C : mCx p s m args meth c cX9_live 7 (some .boolean) wgX9_live RX9 E D cA A) (vM : eMs aK aV E) {post : Int32 → MS → Prop}
    {k57 : Int32 → Int32 → MS → Prop} (hk57 : ∀ (x2 : Int32) (x3 : Int32) (σ : MS) (H : Heap) (locs : List Loc) (ls : Array Slot), mG D cA h ad A s σ H locs → lv_has ls 7 [(0, .ref h), (2, .int x2), (3, .int x3)] → k57 x2 x3 σ → W p l e rm_X9_live s m args below meth c H locs 0 0 (MQ below (va_Qi post (mAt D cA h ad A) A) args s 0 0 A) (F0 m 57 ls []))
    {k66 : Int32 → Int32 → Int32 → MS → Prop} (hk66 : ∀ (x2 : Int32) (x3 : Int32) (x4 : Int32) (σ : MS) (H : Heap) (locs : List Loc) (ls : Array Slot), mG D cA h ad A s σ H locs → lv_has ls 7 [(0, .ref h), (2, .int x2), (3, .int x3), (4, .int x4)] → k66 x2 x3 x4 σ → W p l e rm_X9_live s m args below meth c H locs 0 0 (MQ below (va_Qi post (mAt D cA h ad A) A) args s 0 0 A) (F0 m 66 ls [])) :
    ∀ (x2 : Int32) (x3 : Int32) (x4 : Int32) (σ : MS) (H : Heap) (locs : List Loc) (ls : Array Slot), mG D cA h ad A s σ H locs → lv_has ls 7 [(0, .ref h), (2, .int x2), (3, .int x3), (4, .int x4)] → wB_X9_live_172 post k57 k66 x2 x3 x4 σ → W p l e rm_X9_live s m args below meth c H locs 0 0 (MQ below (va_Qi post (mAt D cA h ad A) A) args s 0 0 A) (F0 m 172 ls []) := by
  obtain ⟨hx, hb, hml, hr, hown, hts, hK, hA, hlk, hE, vE⟩ := id C
  intro x2 x3 x4 σ H locs ls hG hl hw
  obtain ⟨hP, hD, hS⟩ := id hG
  obtain ⟨x4_6, ex4_6⟩ : ∃ y : Int32, y = x4 + 1 := ⟨_, rfl⟩
  have hw := hw x4_6 ex4_6
  refine lv_iinc (v := x4_6) (lv' := [(4, .int x4_6), (0, .ref h), (2, .int x2), (3, .int x3)]) hx hb dX9_live_172 hl (k := 3) rfl (by rw [ex4_6]; rfl) (by decide) rfl (fun ls hl => ?_)
  refine lv_goto (tgt := 66) hx hb dX9_live_175 (by decide) ?_
  exact hk66 x2 x3 x4_6 σ _ _ _ hG (lv_sub hl [1, 2, 3, 0] rfl) hw
set_option maxHeartbeats 4000000 in
set_option maxRecDepth 100000 in
theorem kB_X9_live_166 {p : Program} {l : Launch} {e : Env} {s : State} {m : MethodId} {args : Array Value} {below : List Frame} {meth : Method} {c : Code} {A : Nat → Prop} {E : EnvT} {aK aV : Nat → Nat} {D : va_G} {cA : Nat → ClassId} {h : Nat} {ad : Nat → Nat} (C : mCx p s m args meth c cX9_live 7 (some .boolean) wgX9_live RX9 E D cA A) (vM : eMs aK aV E) {post : Int32 → MS → Prop}
    {k57 : Int32 → Int32 → MS → Prop} (hk57 : ∀ (x2 : Int32) (x3 : Int32) (σ : MS) (H : Heap) (locs : List Loc) (ls : Array Slot), mG D cA h ad A s σ H locs → lv_has ls 7 [(0, .ref h), (2, .int x2), (3, .int x3)] → k57 x2 x3 σ → W p l e rm_X9_live s m args below meth c H locs 0 0 (MQ below (va_Qi post (mAt D cA h ad A) A) args s 0 0 A) (F0 m 57 ls []))
    {k66 : Int32 → Int32 → Int32 → MS → Prop} (hk66 : ∀ (x2 : Int32) (x3 : Int32) (x4 : Int32) (σ : MS) (H : Heap) (locs : List Loc) (ls : Array Slot), mG D cA h ad A s σ H locs → lv_has ls 7 [(0, .ref h), (2, .int x2), (3, .int x3), (4, .int x4)] → k66 x2 x3 x4 σ → W p l e rm_X9_live s m args below meth c H locs 0 0 (MQ below (va_Qi post (mAt D cA h ad A) A) args s 0 0 A) (F0 m 66 ls []))
    {k103 : Int32 → Int32 → Int32 → Int32 → MS → Prop} (hk103 : ∀ (x2 : Int32) (x3 : Int32) (x4 : Int32) (x5 : Int32) (σ : MS) (H : Heap) (locs : List Loc) (ls : Array Slot), mG D cA h ad A s σ H locs → lv_has ls 7 [(0, .ref h), (2, .int x2), (3, .int x3), (4, .int x4), (5, .int x5)] → k103 x2 x3 x4 x5 σ → W p l e rm_X9_live s m args below meth c H locs 0 0 (MQ below (va_Qi post (mAt D cA h ad A) A) args s 0 0 A) (F0 m 103 ls [])) :
    ∀ (x2 : Int32) (x3 : Int32) (x4 : Int32) (x5 : Int32) (σ : MS) (H : Heap) (locs : List Loc) (ls : Array Slot), mG D cA h ad A s σ H locs → lv_has ls 7 [(0, .ref h), (2, .int x2), (3, .int x3), (4, .int x4), (5, .int x5)] → wB_X9_live_166 post k57 k66 k103 x2 x3 x4 x5 σ → W p l e rm_X9_live s m args below meth c H locs 0 0 (MQ below (va_Qi post (mAt D cA h ad A) A) args s 0 0 A) (F0 m 166 ls []) := by
  obtain ⟨hx, hb, hml, hr, hown, hts, hK, hA, hlk, hE, vE⟩ := id C
  intro x2 x3 x4 x5 σ H locs ls hG hl hw
  obtain ⟨hP, hD, hS⟩ := id hG
  obtain ⟨x5_11, ex5_11⟩ : ∃ y : Int32, y = x5 + 1 := ⟨_, rfl⟩
  have hw := hw x5_11 ex5_11
  refine lv_iinc (v := x5_11) (lv' := [(5, .int x5_11), (0, .ref h), (2, .int x2), (3, .int x3), (4, .int x4)]) hx hb dX9_live_166 hl (k := 4) rfl (by rw [ex5_11]; rfl) (by decide) rfl (fun ls hl => ?_)
  refine lv_goto (tgt := 103) hx hb dX9_live_169 (by decide) ?_
  exact hk103 x2 x3 x4 x5_11 σ _ _ _ hG (lv_sub hl [1, 2, 3, 4, 0] rfl) hw
set_option maxHeartbeats 4000000 in
set_option maxRecDepth 100000 in
theorem kB_X9_live_103 {p : Program} {l : Launch} {e : Env} {s : State} {m : MethodId} {args : Array Value} {below : List Frame} {meth : Method} {c : Code} {A : Nat → Prop} {E : EnvT} {aK aV : Nat → Nat} {D : va_G} {cA : Nat → ClassId} {h : Nat} {ad : Nat → Nat} (C : mCx p s m args meth c cX9_live 7 (some .boolean) wgX9_live RX9 E D cA A) (vM : eMs aK aV E) {post : Int32 → MS → Prop}
    {k57 : Int32 → Int32 → MS → Prop} (hk57 : ∀ (x2 : Int32) (x3 : Int32) (σ : MS) (H : Heap) (locs : List Loc) (ls : Array Slot), mG D cA h ad A s σ H locs → lv_has ls 7 [(0, .ref h), (2, .int x2), (3, .int x3)] → k57 x2 x3 σ → W p l e rm_X9_live s m args below meth c H locs 0 0 (MQ below (va_Qi post (mAt D cA h ad A) A) args s 0 0 A) (F0 m 57 ls []))
    {k66 : Int32 → Int32 → Int32 → MS → Prop} (hk66 : ∀ (x2 : Int32) (x3 : Int32) (x4 : Int32) (σ : MS) (H : Heap) (locs : List Loc) (ls : Array Slot), mG D cA h ad A s σ H locs → lv_has ls 7 [(0, .ref h), (2, .int x2), (3, .int x3), (4, .int x4)] → k66 x2 x3 x4 σ → W p l e rm_X9_live s m args below meth c H locs 0 0 (MQ below (va_Qi post (mAt D cA h ad A) A) args s 0 0 A) (F0 m 66 ls []))
    {k103 : Int32 → Int32 → Int32 → Int32 → MS → Prop} (hk103 : ∀ (x2 : Int32) (x3 : Int32) (x4 : Int32) (x5 : Int32) (σ : MS) (H : Heap) (locs : List Loc) (ls : Array Slot), mG D cA h ad A s σ H locs → lv_has ls 7 [(0, .ref h), (2, .int x2), (3, .int x3), (4, .int x4), (5, .int x5)] → k103 x2 x3 x4 x5 σ → W p l e rm_X9_live s m args below meth c H locs 0 0 (MQ below (va_Qi post (mAt D cA h ad A) A) args s 0 0 A) (F0 m 103 ls [])) :
    ∀ (x2 : Int32) (x3 : Int32) (x4 : Int32) (x5 : Int32) (σ : MS) (H : Heap) (locs : List Loc) (ls : Array Slot), mG D cA h ad A s σ H locs → lv_has ls 7 [(0, .ref h), (2, .int x2), (3, .int x3), (4, .int x4), (5, .int x5)] → wB_X9_live_103 post k57 k66 k103 x2 x3 x4 x5 σ → W p l e rm_X9_live s m args below meth c H locs 0 0 (MQ below (va_Qi post (mAt D cA h ad A) A) args s 0 0 A) (F0 m 103 ls []) := by
  obtain ⟨hx, hb, hml, hr, hown, hts, hK, hA, hlk, hE, vE⟩ := id C
  intro x2 x3 x4 x5 σ H locs ls hG hl hw
  obtain ⟨hP, hD, hS⟩ := id hG
  refine lv_iload hx hb dX9_live_103 (lv_at hl 4 rfl) ?_
  refine lv_iconst (v := 2) hx hb dX9_live_105 (by decide) ?_
  refine lv_icmp_ge (tgt := 172) hx hb dX9_live_106 (by decide) (fun q_ => ?_) (fun q_ => ?_)
  · have hw := hw.1 q_
    exact kB_X9_live_172 C vM hk57 hk66 x2 x3 x4 σ _ _ _ hG (lv_sub hl [0, 1, 2, 3] rfl) hw
  · have hw := hw.2 q_
    refine lv_aload_n hx hb dX9_live_109 rfl (lv_at hl 0 rfl) ?_
    refine lv_iload hx hb dX9_live_110 (lv_at hl 3 rfl) ?_
    refine lv_iload_n hx hb dX9_live_112 rfl (lv_at hl 1 rfl) ?_
    refine mV_i (As := [.int x4, .int x2]) (rest := []) C (met_X9_writes vE vM hw) (va_recv hK hP (ci := 11) (q0 := 0) rfl rfl) (cwV 2 hts (TB_G (TB_4 tw_6_190 tw_6_192 ts_54 tw_1_13) tw_6_193) rfl rfl rfl (by decide +kernel) ⟨by decide, by decide⟩) hP hD hS rfl hl.1 rfl (Nat.le_of_ble_eq_true rfl) dX9_live_113 ⟨by decide, by decide⟩ (fun r_7 σ_8 H locs hw hP hD hS => ?_)
    have hG : mG D cA h ad A s σ_8 H locs := ⟨hP, hD, hS⟩
    refine lv_if_ne (tgt := 172) hx hb dX9_live_116 (by decide) (fun q_ => ?_) (fun q_ => ?_)
    · have hw := hw.2 q_
      exact kB_X9_live_172 C vM hk57 hk66 x2 x3 x4 σ_8 _ _ _ hG (lv_sub hl [0, 1, 2, 3] rfl) hw
    · have hw := hw.1 q_
      refine lv_aload_n hx hb dX9_live_119 rfl (lv_at hl 0 rfl) ?_
      refine lv_iload hx hb dX9_live_120 (lv_at hl 3 rfl) ?_
      refine lv_iload hx hb dX9_live_122 (lv_at hl 4 rfl) ?_
      refine mV_i (As := [.int x4, .int x5]) (rest := []) C (met_X9_wayOf vE vM hw) (va_recv hK hP (ci := 11) (q0 := 0) rfl rfl) (cwV 2 hts (TB_G (TB_4 tw_6_166 tw_6_168 ts_50 tw_1_13) tw_6_169) rfl rfl rfl (by decide +kernel) ⟨by decide, by decide⟩) hP hD hS rfl hl.1 rfl (Nat.le_of_ble_eq_true rfl) dX9_live_124 ⟨by decide, by decide⟩ (fun r_9 σ_10 H locs hw hP hD hS => ?_)
      have hG : mG D cA h ad A s σ_10 H locs := ⟨hP, hD, hS⟩
      refine lv_istore (lv' := [(6, .int r_9), (0, .ref h), (2, .int x2), (3, .int x3), (4, .int x4), (5, .int x5)]) hx hb dX9_live_127 hl (by decide) rfl (fun ls hl => ?_)
      refine lv_iload hx hb dX9_live_129 (lv_at hl 0 rfl) ?_
      refine lv_if_lt (tgt := 166) hx hb dX9_live_131 (by decide) (fun q_ => ?_) (fun q_ => ?_)
      · have hw := hw.1 q_
        exact kB_X9_live_166 C vM hk57 hk66 hk103 x2 x3 x4 x5 σ_10 _ _ _ hG (lv_sub hl [1, 2, 3, 4, 5] rfl) hw
      · have hw := hw.2 q_
        refine lv_aload_n hx hb dX9_live_134 rfl (lv_at hl 1 rfl) ?_
        refine lv_iload hx hb dX9_live_135 (lv_at hl 0 rfl) ?_
        refine mV_i (As := [.int r_9]) (rest := []) C (met_X9_isPlace vE vM hw) (va_recv hK hP (ci := 11) (q0 := 0) rfl rfl) (cwV 1 hts (TB_G (TB_4 tw_6_108 tw_6_110 ts_45 tw_1_13) tw_6_111) rfl rfl rfl (by decide +kernel) ⟨by decide, by decide⟩) hP hD hS rfl hl.1 rfl (Nat.le_of_ble_eq_true rfl) dX9_live_137 ⟨by decide, by decide⟩ (fun r_12 σ_13 H locs hw hP hD hS => ?_)
        have hG : mG D cA h ad A s σ_13 H locs := ⟨hP, hD, hS⟩
        refine lv_if_eq (tgt := 166) hx hb dX9_live_140 (by decide) (fun q_ => ?_) (fun q_ => ?_)
        · have hw := hw.1 q_
          exact kB_X9_live_166 C vM hk57 hk66 hk103 x2 x3 x4 x5 σ_13 _ _ _ hG (lv_sub hl [1, 2, 3, 4, 5] rfl) hw
        · have hw := hw.2 q_
          refine lv_aload_n hx hb dX9_live_143 rfl (lv_at hl 1 rfl) ?_
          refine va_get (D := D) (ci := 11) (v := .ref (ad 31)) (C := RX9) (T := TX9) (N := 32) hx hb hts (in_tb inX9) hown hK hP 0 rfl rfl 31 (by decide) (hts _ (List.mem_cons_of_mem _ tw_5_141)) (fun _ h9 => h9) rfl dX9_live_144 ?_
          refine lv_iload hx hb dX9_live_147 (lv_at hl 0 rfl) ?_
          obtain ⟨h_14, hw⟩ := hw
          refine va_zald hx hb hK hP 17 2 rfl rfl h_14 dX9_live_149 ?_
          refine lv_if_eq (tgt := 156) hx hb dX9_live_150 (by decide) (fun q_ => ?_) (fun q_ => ?_)
          · have hw := hw.1 q_
            refine lv_aload_n hx hb dX9_live_156 rfl (lv_at hl 1 rfl) ?_
            refine va_get (D := D) (ci := 11) (v := .ref (ad 31)) (C := RX9) (T := TX9) (N := 32) hx hb hts (in_tb inX9) hown hK hP 0 rfl rfl 31 (by decide) (hts _ (List.mem_cons_of_mem _ tw_5_141)) (fun _ h9 => h9) rfl dX9_live_157 ?_
            refine lv_iload hx hb dX9_live_160 (lv_at hl 0 rfl) ?_
            refine lv_iconst (v := 1) hx hb dX9_live_162 (by decide) ?_
            obtain ⟨h_15, hw⟩ := hw
            refine va_zast hx hb hK hP hD hS 17 2 rfl rfl h_15 dX9_live_163 (fun H locs hP hD hS => ?_)
            have hG : mG D cA h ad A s (wA σ_13 31 r_9.toNatClampNeg 1) H locs := ⟨hP, hD, hS⟩
            obtain ⟨hP, hD, hS⟩ := id hG
            refine lv_iconst (v := 1) hx hb dX9_live_164 (by decide) ?_
            refine lv_istore_n (lv' := [(3, .int 1), (6, .int r_9), (0, .ref h), (2, .int x2), (4, .int x4), (5, .int x5)]) hx hb dX9_live_165 rfl hl (by decide) rfl (fun ls hl => ?_)
            exact kB_X9_live_166 C vM hk57 hk66 hk103 x2 1 x4 x5 (wA σ_13 31 r_9.toNatClampNeg 1) _ _ _ hG (lv_sub hl [2, 3, 0, 4, 5] rfl) hw
          · have hw := hw.2 q_
            refine lv_goto (tgt := 166) hx hb dX9_live_153 (by decide) ?_
            exact kB_X9_live_166 C vM hk57 hk66 hk103 x2 x3 x4 x5 σ_13 _ _ _ hG (lv_sub hl [1, 2, 3, 4, 5] rfl) hw
theorem kL_X9_live_103 {p : Program} {l : Launch} {e : Env} {s : State} {m : MethodId} {args : Array Value} {below : List Frame} {meth : Method} {c : Code} {A : Nat → Prop} {E : EnvT} {aK aV : Nat → Nat} {D : va_G} {cA : Nat → ClassId} {h : Nat} {ad : Nat → Nat} (C : mCx p s m args meth c cX9_live 7 (some .boolean) wgX9_live RX9 E D cA A) (vM : eMs aK aV E) {post : Int32 → MS → Prop}
    {k57 : Int32 → Int32 → MS → Prop} (hk57 : ∀ (x2 : Int32) (x3 : Int32) (σ : MS) (H : Heap) (locs : List Loc) (ls : Array Slot), mG D cA h ad A s σ H locs → lv_has ls 7 [(0, .ref h), (2, .int x2), (3, .int x3)] → k57 x2 x3 σ → W p l e rm_X9_live s m args below meth c H locs 0 0 (MQ below (va_Qi post (mAt D cA h ad A) A) args s 0 0 A) (F0 m 57 ls []))
    {k66 : Int32 → Int32 → Int32 → MS → Prop} (hk66 : ∀ (x2 : Int32) (x3 : Int32) (x4 : Int32) (σ : MS) (H : Heap) (locs : List Loc) (ls : Array Slot), mG D cA h ad A s σ H locs → lv_has ls 7 [(0, .ref h), (2, .int x2), (3, .int x3), (4, .int x4)] → k66 x2 x3 x4 σ → W p l e rm_X9_live s m args below meth c H locs 0 0 (MQ below (va_Qi post (mAt D cA h ad A) A) args s 0 0 A) (F0 m 66 ls [])) :
    ∀ (n : Nat) (x2 : Int32) (x3 : Int32) (x4 : Int32) (x5 : Int32) (σ : MS) (H : Heap) (locs : List Loc) (ls : Array Slot), mG D cA h ad A s σ H locs → lv_has ls 7 [(0, .ref h), (2, .int x2), (3, .int x3), (4, .int x4), (5, .int x5)] → wL_X9_live_103 post k57 k66 n x2 x3 x4 x5 σ → W p l e rm_X9_live s m args below meth c H locs 0 0 (MQ below (va_Qi post (mAt D cA h ad A) A) args s 0 0 A) (F0 m 103 ls []) := by
  intro n
  induction n with
  | zero => intro x2 x3 x4 x5 σ H locs ls hG hl hw; exact hw.elim
  | succ n ih => exact kB_X9_live_103 C vM hk57 hk66 ih
set_option maxHeartbeats 4000000 in
set_option maxRecDepth 100000 in
theorem kB_X9_live_66 {p : Program} {l : Launch} {e : Env} {s : State} {m : MethodId} {args : Array Value} {below : List Frame} {meth : Method} {c : Code} {A : Nat → Prop} {E : EnvT} {aK aV : Nat → Nat} {D : va_G} {cA : Nat → ClassId} {h : Nat} {ad : Nat → Nat} (C : mCx p s m args meth c cX9_live 7 (some .boolean) wgX9_live RX9 E D cA A) (vM : eMs aK aV E) {post : Int32 → MS → Prop}
    {k57 : Int32 → Int32 → MS → Prop} (hk57 : ∀ (x2 : Int32) (x3 : Int32) (σ : MS) (H : Heap) (locs : List Loc) (ls : Array Slot), mG D cA h ad A s σ H locs → lv_has ls 7 [(0, .ref h), (2, .int x2), (3, .int x3)] → k57 x2 x3 σ → W p l e rm_X9_live s m args below meth c H locs 0 0 (MQ below (va_Qi post (mAt D cA h ad A) A) args s 0 0 A) (F0 m 57 ls []))
    {k66 : Int32 → Int32 → Int32 → MS → Prop} (hk66 : ∀ (x2 : Int32) (x3 : Int32) (x4 : Int32) (σ : MS) (H : Heap) (locs : List Loc) (ls : Array Slot), mG D cA h ad A s σ H locs → lv_has ls 7 [(0, .ref h), (2, .int x2), (3, .int x3), (4, .int x4)] → k66 x2 x3 x4 σ → W p l e rm_X9_live s m args below meth c H locs 0 0 (MQ below (va_Qi post (mAt D cA h ad A) A) args s 0 0 A) (F0 m 66 ls [])) :
    ∀ (x2 : Int32) (x3 : Int32) (x4 : Int32) (σ : MS) (H : Heap) (locs : List Loc) (ls : Array Slot), mG D cA h ad A s σ H locs → lv_has ls 7 [(0, .ref h), (2, .int x2), (3, .int x3), (4, .int x4)] → wB_X9_live_66 post k57 k66 x2 x3 x4 σ → W p l e rm_X9_live s m args below meth c H locs 0 0 (MQ below (va_Qi post (mAt D cA h ad A) A) args s 0 0 A) (F0 m 66 ls []) := by
  obtain ⟨hx, hb, hml, hr, hown, hts, hK, hA, hlk, hE, vE⟩ := id C
  intro x2 x3 x4 σ H locs ls hG hl hw
  obtain ⟨hP, hD, hS⟩ := id hG
  refine lv_iload hx hb dX9_live_66 (lv_at hl 3 rfl) ?_
  refine lv_aload_n hx hb dX9_live_68 rfl (lv_at hl 0 rfl) ?_
  refine va_get (D := D) (ci := 11) (v := .int (mI σ 11)) (C := RX9) (T := TX9) (N := 32) hx hb hts (in_tb inX9) hown hK hP 0 rfl rfl 11 (by decide) (hts _ (List.mem_cons_of_mem _ tw_5_121)) (fun _ h9 => h9) rfl dX9_live_69 ?_
  refine lv_icmp_ge (tgt := 178) hx hb dX9_live_72 (by decide) (fun q_ => ?_) (fun q_ => ?_)
  · have hw := hw.1 q_
    refine lv_goto (tgt := 57) hx hb dX9_live_178 (by decide) ?_
    exact hk57 x2 x3 σ _ _ _ hG (lv_sub hl [0, 1, 2] rfl) hw
  · have hw := hw.2 q_
    refine lv_aload_n hx hb dX9_live_75 rfl (lv_at hl 0 rfl) ?_
    refine va_get (D := D) (ci := 11) (v := .ref (ad 31)) (C := RX9) (T := TX9) (N := 32) hx hb hts (in_tb inX9) hown hK hP 0 rfl rfl 31 (by decide) (hts _ (List.mem_cons_of_mem _ tw_5_141)) (fun _ h9 => h9) rfl dX9_live_76 ?_
    refine lv_iload hx hb dX9_live_79 (lv_at hl 3 rfl) ?_
    obtain ⟨h_3, hw⟩ := hw
    refine va_zald hx hb hK hP 17 2 rfl rfl h_3 dX9_live_81 ?_
    refine lv_if_ne (tgt := 88) hx hb dX9_live_82 (by decide) (fun q_ => ?_) (fun q_ => ?_)
    · have hw := hw.2 q_
      refine lv_aload_n hx hb dX9_live_88 rfl (lv_at hl 0 rfl) ?_
      refine lv_iload hx hb dX9_live_89 (lv_at hl 3 rfl) ?_
      refine lv_iload_n hx hb dX9_live_91 rfl (lv_at hl 1 rfl) ?_
      refine mV_i (As := [.int x4, .int x2]) (rest := []) C (met_X9_reads vE vM hw) (va_recv hK hP (ci := 11) (q0 := 0) rfl rfl) (cwV 2 hts (TB_G (TB_4 tw_6_186 tw_6_188 ts_53 tw_1_13) tw_6_189) rfl rfl rfl (by decide +kernel) ⟨by decide, by decide⟩) hP hD hS rfl hl.1 rfl (Nat.le_of_ble_eq_true rfl) dX9_live_92 ⟨by decide, by decide⟩ (fun r_4 σ_5 H locs hw hP hD hS => ?_)
      have hG : mG D cA h ad A s σ_5 H locs := ⟨hP, hD, hS⟩
      refine lv_if_eq (tgt := 100) hx hb dX9_live_95 (by decide) (fun q_ => ?_) (fun q_ => ?_)
      · have hw := hw.1 q_
        refine lv_iconst (v := 0) hx hb dX9_live_100 (by decide) ?_
        refine lv_istore (lv' := [(5, .int 0), (0, .ref h), (2, .int x2), (3, .int x3), (4, .int x4)]) hx hb dX9_live_101 hl (by decide) rfl (fun ls hl => ?_)
        obtain ⟨n_, hw⟩ := hw
        exact kL_X9_live_103 C vM hk57 hk66 n_ x2 x3 x4 0 σ_5 _ _ _ hG (lv_sub hl [1, 2, 3, 4, 0] rfl) hw
      · have hw := hw.2 q_
        refine lv_iconst (v := 1) hx hb dX9_live_98 (by decide) ?_
        exact W.zret (v := 1) (ty := .boolean) hx hb hr rfl (fun t ht hW => ⟨⟨_, σ_5, rfl, hw, by rw [ht]; exact hP, va_K.moved hW.alike hK, hD⟩, hS.F ht⟩) hS.2.2 dX9_live_99 hlk
    · have hw := hw.1 q_
      refine lv_goto (tgt := 172) hx hb dX9_live_85 (by decide) ?_
      exact kB_X9_live_172 C vM hk57 hk66 x2 x3 x4 σ _ _ _ hG (lv_sub hl [0, 1, 2, 3] rfl) hw
theorem kL_X9_live_66 {p : Program} {l : Launch} {e : Env} {s : State} {m : MethodId} {args : Array Value} {below : List Frame} {meth : Method} {c : Code} {A : Nat → Prop} {E : EnvT} {aK aV : Nat → Nat} {D : va_G} {cA : Nat → ClassId} {h : Nat} {ad : Nat → Nat} (C : mCx p s m args meth c cX9_live 7 (some .boolean) wgX9_live RX9 E D cA A) (vM : eMs aK aV E) {post : Int32 → MS → Prop}
    {k57 : Int32 → Int32 → MS → Prop} (hk57 : ∀ (x2 : Int32) (x3 : Int32) (σ : MS) (H : Heap) (locs : List Loc) (ls : Array Slot), mG D cA h ad A s σ H locs → lv_has ls 7 [(0, .ref h), (2, .int x2), (3, .int x3)] → k57 x2 x3 σ → W p l e rm_X9_live s m args below meth c H locs 0 0 (MQ below (va_Qi post (mAt D cA h ad A) A) args s 0 0 A) (F0 m 57 ls [])) :
    ∀ (n : Nat) (x2 : Int32) (x3 : Int32) (x4 : Int32) (σ : MS) (H : Heap) (locs : List Loc) (ls : Array Slot), mG D cA h ad A s σ H locs → lv_has ls 7 [(0, .ref h), (2, .int x2), (3, .int x3), (4, .int x4)] → wL_X9_live_66 post k57 n x2 x3 x4 σ → W p l e rm_X9_live s m args below meth c H locs 0 0 (MQ below (va_Qi post (mAt D cA h ad A) A) args s 0 0 A) (F0 m 66 ls []) := by
  intro n
  induction n with
  | zero => intro x2 x3 x4 σ H locs ls hG hl hw; exact hw.elim
  | succ n ih => exact kB_X9_live_66 C vM hk57 ih
set_option maxHeartbeats 4000000 in
set_option maxRecDepth 100000 in
theorem kB_X9_live_57 {p : Program} {l : Launch} {e : Env} {s : State} {m : MethodId} {args : Array Value} {below : List Frame} {meth : Method} {c : Code} {A : Nat → Prop} {E : EnvT} {aK aV : Nat → Nat} {D : va_G} {cA : Nat → ClassId} {h : Nat} {ad : Nat → Nat} (C : mCx p s m args meth c cX9_live 7 (some .boolean) wgX9_live RX9 E D cA A) (vM : eMs aK aV E) {post : Int32 → MS → Prop}
    {k57 : Int32 → Int32 → MS → Prop} (hk57 : ∀ (x2 : Int32) (x3 : Int32) (σ : MS) (H : Heap) (locs : List Loc) (ls : Array Slot), mG D cA h ad A s σ H locs → lv_has ls 7 [(0, .ref h), (2, .int x2), (3, .int x3)] → k57 x2 x3 σ → W p l e rm_X9_live s m args below meth c H locs 0 0 (MQ below (va_Qi post (mAt D cA h ad A) A) args s 0 0 A) (F0 m 57 ls [])) :
    ∀ (x2 : Int32) (x3 : Int32) (σ : MS) (H : Heap) (locs : List Loc) (ls : Array Slot), mG D cA h ad A s σ H locs → lv_has ls 7 [(0, .ref h), (2, .int x2), (3, .int x3)] → wB_X9_live_57 post k57 x2 x3 σ → W p l e rm_X9_live s m args below meth c H locs 0 0 (MQ below (va_Qi post (mAt D cA h ad A) A) args s 0 0 A) (F0 m 57 ls []) := by
  obtain ⟨hx, hb, hml, hr, hown, hts, hK, hA, hlk, hE, vE⟩ := id C
  intro x2 x3 σ H locs ls hG hl hw
  obtain ⟨hP, hD, hS⟩ := id hG
  refine lv_iload_n hx hb dX9_live_57 rfl (lv_at hl 2 rfl) ?_
  refine lv_if_eq (tgt := 181) hx hb dX9_live_58 (by decide) (fun q_ => ?_) (fun q_ => ?_)
  · have hw := hw.1 q_
    refine lv_iconst (v := 0) hx hb dX9_live_181 (by decide) ?_
    exact W.zret (v := 0) (ty := .boolean) hx hb hr rfl (fun t ht hW => ⟨⟨_, σ, rfl, hw, by rw [ht]; exact hP, va_K.moved hW.alike hK, hD⟩, hS.F ht⟩) hS.2.2 dX9_live_182 hlk
  · have hw := hw.2 q_
    refine lv_iconst (v := 0) hx hb dX9_live_61 (by decide) ?_
    refine lv_istore_n (lv' := [(3, .int 0), (0, .ref h), (2, .int x2)]) hx hb dX9_live_62 rfl hl (by decide) rfl (fun ls hl => ?_)
    refine lv_iconst (v := 0) hx hb dX9_live_63 (by decide) ?_
    refine lv_istore (lv' := [(4, .int 0), (3, .int 0), (0, .ref h), (2, .int x2)]) hx hb dX9_live_64 hl (by decide) rfl (fun ls hl => ?_)
    obtain ⟨n_, hw⟩ := hw
    exact kL_X9_live_66 C vM hk57 n_ x2 0 0 σ _ _ _ hG (lv_sub hl [2, 3, 1, 0] rfl) hw
theorem kL_X9_live_57 {p : Program} {l : Launch} {e : Env} {s : State} {m : MethodId} {args : Array Value} {below : List Frame} {meth : Method} {c : Code} {A : Nat → Prop} {E : EnvT} {aK aV : Nat → Nat} {D : va_G} {cA : Nat → ClassId} {h : Nat} {ad : Nat → Nat} (C : mCx p s m args meth c cX9_live 7 (some .boolean) wgX9_live RX9 E D cA A) (vM : eMs aK aV E) {post : Int32 → MS → Prop} :
    ∀ (n : Nat) (x2 : Int32) (x3 : Int32) (σ : MS) (H : Heap) (locs : List Loc) (ls : Array Slot), mG D cA h ad A s σ H locs → lv_has ls 7 [(0, .ref h), (2, .int x2), (3, .int x3)] → wL_X9_live_57 post n x2 x3 σ → W p l e rm_X9_live s m args below meth c H locs 0 0 (MQ below (va_Qi post (mAt D cA h ad A) A) args s 0 0 A) (F0 m 57 ls []) := by
  intro n
  induction n with
  | zero => intro x2 x3 σ H locs ls hG hl hw; exact hw.elim
  | succ n ih => exact kB_X9_live_57 C vM ih
set_option maxHeartbeats 4000000 in
set_option maxRecDepth 100000 in
theorem kB_X9_live_48 {p : Program} {l : Launch} {e : Env} {s : State} {m : MethodId} {args : Array Value} {below : List Frame} {meth : Method} {c : Code} {A : Nat → Prop} {E : EnvT} {aK aV : Nat → Nat} {D : va_G} {cA : Nat → ClassId} {h : Nat} {ad : Nat → Nat} (C : mCx p s m args meth c cX9_live 7 (some .boolean) wgX9_live RX9 E D cA A) (vM : eMs aK aV E) {post : Int32 → MS → Prop}
    {k27 : Int32 → Int32 → Int32 → MS → Prop} (hk27 : ∀ (x1 : Int32) (x2 : Int32) (x3 : Int32) (σ : MS) (H : Heap) (locs : List Loc) (ls : Array Slot), mG D cA h ad A s σ H locs → lv_has ls 7 [(0, .ref h), (1, .int x1), (2, .int x2), (3, .int x3)] → k27 x1 x2 x3 σ → W p l e rm_X9_live s m args below meth c H locs 0 0 (MQ below (va_Qi post (mAt D cA h ad A) A) args s 0 0 A) (F0 m 27 ls [])) :
    ∀ (x1 : Int32) (x2 : Int32) (x3 : Int32) (t0 : Int32) (t1 : Int32) (σ : MS) (H : Heap) (locs : List Loc) (ls : Array Slot), mG D cA h ad A s σ H locs → lv_has ls 7 [(0, .ref h), (1, .int x1), (2, .int x2), (3, .int x3)] → wB_X9_live_48 post k27 x1 x2 x3 t0 t1 σ → W p l e rm_X9_live s m args below meth c H locs 0 0 (MQ below (va_Qi post (mAt D cA h ad A) A) args s 0 0 A) (F0 m 48 ls [.int t0, .int t1, .ref (ad 31)]) := by
  obtain ⟨hx, hb, hml, hr, hown, hts, hK, hA, hlk, hE, vE⟩ := id C
  intro x1 x2 x3 t0 t1 σ H locs ls hG hl hw
  obtain ⟨hP, hD, hS⟩ := id hG
  obtain ⟨h_16, hw⟩ := hw
  refine va_zast hx hb hK hP hD hS 17 2 rfl rfl h_16 dX9_live_48 (fun H locs hP hD hS => ?_)
  have hG : mG D cA h ad A s (wA σ 31 t1.toNatClampNeg (vp_nar .boolean t0)) H locs := ⟨hP, hD, hS⟩
  obtain ⟨hP, hD, hS⟩ := id hG
  obtain ⟨x3_17, ex3_17⟩ : ∃ y : Int32, y = x3 + 1 := ⟨_, rfl⟩
  have hw := hw x3_17 ex3_17
  refine lv_iinc (v := x3_17) (lv' := [(3, .int x3_17), (0, .ref h), (1, .int x1), (2, .int x2)]) hx hb dX9_live_49 hl (k := 3) rfl (by rw [ex3_17]; rfl) (by decide) rfl (fun ls hl => ?_)
  refine lv_goto (tgt := 27) hx hb dX9_live_52 (by decide) ?_
  exact hk27 x1 x2 x3_17 (wA σ 31 t1.toNatClampNeg (vp_nar .boolean t0)) _ _ _ hG (lv_sub hl [1, 2, 3, 0] rfl) hw
set_option maxHeartbeats 4000000 in
set_option maxRecDepth 100000 in
theorem kB_X9_live_27 {p : Program} {l : Launch} {e : Env} {s : State} {m : MethodId} {args : Array Value} {below : List Frame} {meth : Method} {c : Code} {A : Nat → Prop} {E : EnvT} {aK aV : Nat → Nat} {D : va_G} {cA : Nat → ClassId} {h : Nat} {ad : Nat → Nat} (C : mCx p s m args meth c cX9_live 7 (some .boolean) wgX9_live RX9 E D cA A) (vM : eMs aK aV E) {post : Int32 → MS → Prop}
    {k27 : Int32 → Int32 → Int32 → MS → Prop} (hk27 : ∀ (x1 : Int32) (x2 : Int32) (x3 : Int32) (σ : MS) (H : Heap) (locs : List Loc) (ls : Array Slot), mG D cA h ad A s σ H locs → lv_has ls 7 [(0, .ref h), (1, .int x1), (2, .int x2), (3, .int x3)] → k27 x1 x2 x3 σ → W p l e rm_X9_live s m args below meth c H locs 0 0 (MQ below (va_Qi post (mAt D cA h ad A) A) args s 0 0 A) (F0 m 27 ls [])) :
    ∀ (x1 : Int32) (x2 : Int32) (x3 : Int32) (σ : MS) (H : Heap) (locs : List Loc) (ls : Array Slot), mG D cA h ad A s σ H locs → lv_has ls 7 [(0, .ref h), (1, .int x1), (2, .int x2), (3, .int x3)] → wB_X9_live_27 post k27 x1 x2 x3 σ → W p l e rm_X9_live s m args below meth c H locs 0 0 (MQ below (va_Qi post (mAt D cA h ad A) A) args s 0 0 A) (F0 m 27 ls []) := by
  obtain ⟨hx, hb, hml, hr, hown, hts, hK, hA, hlk, hE, vE⟩ := id C
  intro x1 x2 x3 σ H locs ls hG hl hw
  obtain ⟨hP, hD, hS⟩ := id hG
  refine lv_iload_n hx hb dX9_live_27 rfl (lv_at hl 3 rfl) ?_
  refine lv_bipush (v := 64) hx hb dX9_live_28 (by decide) ?_
  refine lv_icmp_ge (tgt := 55) hx hb dX9_live_30 (by decide) (fun q_ => ?_) (fun q_ => ?_)
  · have hw := hw.1 q_
    refine lv_iconst (v := 1) hx hb dX9_live_55 (by decide) ?_
    refine lv_istore_n (lv' := [(3, .int 1), (0, .ref h), (1, .int x1), (2, .int x2)]) hx hb dX9_live_56 rfl hl (by decide) rfl (fun ls hl => ?_)
    obtain ⟨n_, hw⟩ := hw
    exact kL_X9_live_57 C vM n_ x2 1 σ _ _ _ hG (lv_sub hl [1, 3, 0] rfl) hw
  · have hw := hw.2 q_
    refine lv_aload_n hx hb dX9_live_33 rfl (lv_at hl 0 rfl) ?_
    refine va_get (D := D) (ci := 11) (v := .ref (ad 31)) (C := RX9) (T := TX9) (N := 32) hx hb hts (in_tb inX9) hown hK hP 0 rfl rfl 31 (by decide) (hts _ (List.mem_cons_of_mem _ tw_5_141)) (fun _ h9 => h9) rfl dX9_live_34 ?_
    refine lv_iload_n hx hb dX9_live_37 rfl (lv_at hl 3 rfl) ?_
    refine lv_iload_n hx hb dX9_live_38 rfl (lv_at hl 3 rfl) ?_
    refine lv_iload_n hx hb dX9_live_39 rfl (lv_at hl 1 rfl) ?_
    refine lv_icmp_ne (tgt := 47) hx hb dX9_live_40 (by decide) (fun q_ => ?_) (fun q_ => ?_)
    · have hw := hw.2 q_
      refine lv_iconst (v := 0) hx hb dX9_live_47 (by decide) ?_
      exact kB_X9_live_48 C vM hk27 x1 x2 x3 0 x3 σ _ _ _ hG (lv_sub hl [0, 1, 2, 3] rfl) hw
    · have hw := hw.1 q_
      refine lv_iconst (v := 1) hx hb dX9_live_43 (by decide) ?_
      refine lv_goto (tgt := 48) hx hb dX9_live_44 (by decide) ?_
      exact kB_X9_live_48 C vM hk27 x1 x2 x3 1 x3 σ _ _ _ hG (lv_sub hl [0, 1, 2, 3] rfl) hw
theorem kL_X9_live_27 {p : Program} {l : Launch} {e : Env} {s : State} {m : MethodId} {args : Array Value} {below : List Frame} {meth : Method} {c : Code} {A : Nat → Prop} {E : EnvT} {aK aV : Nat → Nat} {D : va_G} {cA : Nat → ClassId} {h : Nat} {ad : Nat → Nat} (C : mCx p s m args meth c cX9_live 7 (some .boolean) wgX9_live RX9 E D cA A) (vM : eMs aK aV E) {post : Int32 → MS → Prop} :
    ∀ (n : Nat) (x1 : Int32) (x2 : Int32) (x3 : Int32) (σ : MS) (H : Heap) (locs : List Loc) (ls : Array Slot), mG D cA h ad A s σ H locs → lv_has ls 7 [(0, .ref h), (1, .int x1), (2, .int x2), (3, .int x3)] → wL_X9_live_27 post n x1 x2 x3 σ → W p l e rm_X9_live s m args below meth c H locs 0 0 (MQ below (va_Qi post (mAt D cA h ad A) A) args s 0 0 A) (F0 m 27 ls []) := by
  intro n
  induction n with
  | zero => intro x1 x2 x3 σ H locs ls hG hl hw; exact hw.elim
  | succ n ih => exact kB_X9_live_27 C vM ih
set_option maxHeartbeats 4000000 in
set_option maxRecDepth 100000 in
theorem k_X9_live {p : Program} {l : Launch} {e : Env} {s : State} {m : MethodId} {args : Array Value} {below : List Frame} {meth : Method} {c : Code} {A : Nat → Prop} {E : EnvT} {aK aV : Nat → Nat} {D : va_G} {cA : Nat → ClassId} {h : Nat} {ad : Nat → Nat} (C : mCx p s m args meth c cX9_live 7 (some .boolean) wgX9_live RX9 E D cA A) (vM : eMs aK aV E) {post : Int32 → MS → Prop} :
    ∀ (x1 : Int32) (x2 : Int32) (σ : MS) (H : Heap) (locs : List Loc) (ls : Array Slot), mG D cA h ad A s σ H locs → lv_has ls 7 [(0, .ref h), (1, .int x1), (2, .int x2)] → wp_X9_live post x1 x2 σ → W p l e rm_X9_live s m args below meth c H locs 0 0 (MQ below (va_Qi post (mAt D cA h ad A) A) args s 0 0 A) (F0 m 0 ls []) := by
  obtain ⟨hx, hb, hml, hr, hown, hts, hK, hA, hlk, hE, vE⟩ := id C
  intro x1 x2 σ H locs ls hG hl hw
  obtain ⟨hP, hD, hS⟩ := id hG
  refine lv_aload_n hx hb dX9_live_0 rfl (lv_at hl 0 rfl) ?_
  refine lv_iconst (v := 0) hx hb dX9_live_1 (by decide) ?_
  refine va_put (D := D) (ci := 11) (v := .int 0) (ty := .int) (C := RX9) (T := TX9) (N := 32) hx hb hts (in_tb inX9) tyX9 tyX9_ok nmX9 hown hK hP hD hS 0 rfl rfl 0 (by decide) (hts _ (List.mem_cons_of_mem _ tw_5_110)) (fun _ h9 => h9) rfl (by decide +kernel) rfl rfl (Nat.le_of_ble_eq_true rfl) dX9_live_2 (fun H locs hP hD hS => ?_)
  have hG : mG D cA h ad A s (wI σ 0 0) H locs := ⟨hP, hD, hS⟩
  obtain ⟨hP, hD, hS⟩ := id hG
  refine lv_aload_n hx hb dX9_live_5 rfl (lv_at hl 0 rfl) ?_
  refine lv_iload_n hx hb dX9_live_6 rfl (lv_at hl 1 rfl) ?_
  refine mV_i (As := [.int x1]) (rest := []) C (met_X9_isPlace vE vM hw) (va_recv hK hP (ci := 11) (q0 := 0) rfl rfl) (cwV 1 hts (TB_G (TB_4 tw_6_108 tw_6_110 ts_45 tw_1_13) tw_6_111) rfl rfl rfl (by decide +kernel) ⟨by decide, by decide⟩) hP hD hS rfl hl.1 rfl (Nat.le_of_ble_eq_true rfl) dX9_live_7 ⟨by decide, by decide⟩ (fun r_1 σ_2 H locs hw hP hD hS => ?_)
  have hG : mG D cA h ad A s σ_2 H locs := ⟨hP, hD, hS⟩
  refine lv_if_eq (tgt := 23) hx hb dX9_live_10 (by decide) (fun q_ => ?_) (fun q_ => ?_)
  · have hw := hw.1 q_
    exact kB_X9_live_23 C vM  σ_2 _ _ _ hG (lv_sub hl [] rfl) hw
  · have hw := hw.2 q_
    refine lv_iload_n hx hb dX9_live_13 rfl (lv_at hl 2 rfl) ?_
    refine lv_if_lt (tgt := 23) hx hb dX9_live_14 (by decide) (fun q_ => ?_) (fun q_ => ?_)
    · have hw := hw.1 q_
      exact kB_X9_live_23 C vM  σ_2 _ _ _ hG (lv_sub hl [] rfl) hw
    · have hw := hw.2 q_
      refine lv_iload_n hx hb dX9_live_17 rfl (lv_at hl 2 rfl) ?_
      refine lv_bipush (v := 19) hx hb dX9_live_18 (by decide) ?_
      refine lv_icmp_le (tgt := 25) hx hb dX9_live_20 (by decide) (fun q_ => ?_) (fun q_ => ?_)
      · have hw := hw.1 q_
        refine lv_iconst (v := 0) hx hb dX9_live_25 (by decide) ?_
        refine lv_istore_n (lv' := [(3, .int 0), (0, .ref h), (1, .int x1), (2, .int x2)]) hx hb dX9_live_26 rfl hl (by decide) rfl (fun ls hl => ?_)
        obtain ⟨n_, hw⟩ := hw
        exact kL_X9_live_27 C vM n_ x1 x2 0 σ_2 _ _ _ hG (lv_sub hl [1, 2, 3, 0] rfl) hw
      · have hw := hw.2 q_
        exact kB_X9_live_23 C vM  σ_2 _ _ _ hG (lv_sub hl [] rfl) hw
set_option maxHeartbeats 4000000 in
set_option maxRecDepth 100000 in
theorem met_X9_live {l : Launch} {E : EnvT} (vE : EnvOk E) {D : va_G} {cA : Nat → ClassId} {h : Nat} {ad : Nat → Nat} {σ : MS} {aK aV : Nat → Nat} (vM : eMs aK aV E) {sz : Nat} {x1 : Int32} {x2 : Int32} {post : Int32 → MS → Prop} (hw : wp_X9_live post x1 x2 σ) : Met l yX9_live wgX9_live rm_X9_live (va_Pc [.ref h, .int x1, .int x2] (mPre E D cA h ad sz σ)) (va_Qi post (mAt D cA h ad (va_A (mW cA h ad σ) sz)) (va_A (mW cA h ad σ) sz)) 0 0 (va_A (mW cA h ad σ) sz) := by
  refine Met.ofW (cc := cX9_live) (maxL := 7) (ret := (some .boolean)) (by decide +kernel) rfl ?_
  intro p e s m args below meth c s₁ B hml hv
  obtain ⟨rfl, hsz, hP, hK, hD0, hE⟩ := hv
  subst hsz
  have hD := hD0.self (sz := s.heap.size)
  generalize hAe : va_A (mW cA h ad σ) s.heap.size = A at hD hE ⊢
  have hA : ∀ q : Nat, s.heap.size ≤ q → A q := fun q h => by rw [← hAe]; exact Or.inr h
  have hS : va_S A s.heap s.heap [] := va_S.rf
  have C : mCx p s m _ meth c cX9_live 7 (some .boolean) wgX9_live RX9 E D cA A := ⟨B.exec, B.bytes, hml, B.returns, findClass_of_methodNamed B.named, atoms_spec (ws := wgX9_live) B.pre, hK, hA, B.notSynchronized, hE, vE⟩
  have hG : mG D cA h ad A s σ s.heap [] := ⟨hP, hD, hS⟩
  have hl := lv_entry ([.ref h, .int x1, .int x2]) (n := 7) (Nat.le_of_ble_eq_true rfl)
  rw [lg_entry_eq]
  generalize (lg_sl ([.ref h, .int x1, .int x2]) ++ List.replicate (7 - (lg_sl ([.ref h, .int x1, .int x2])).length) Slot.unset).toArray = ls at hl ⊢
  have hl : lv_has ls 7 [(0, .ref h), (1, .int x1), (2, .int x2)] := hl
  exact k_X9_live C vM x1 x2 σ _ _ _ hG hl hw
/-! ===== ends ===== -/
def rm_X9_ends : Room := { frames := 9, cells := 0, slots := 0, locals := 207 }
abbrev wgX9_ends : List Cond := .code yX9_ends cX9_ends 5 (some .boolean) :: TB
def wB_X9_ends_84 (post : Int32 → MS → Prop) (k8 : Int32 → MS → Prop) (x3 : Int32) (σ : MS) : Prop :=
  ∀ x3_6 : Int32, x3_6 = x3 + 1 → k8 x3_6 σ
def wB_X9_ends_78 (post : Int32 → MS → Prop) (k8 : Int32 → MS → Prop) (k44 : Int32 → Int32 → MS → Prop) (x3 : Int32) (x4 : Int32) (σ : MS) : Prop :=
  ∀ x4_9 : Int32, x4_9 = x4 + 1 → k44 x3 x4_9 σ
def wB_X9_ends_44 (post : Int32 → MS → Prop) (k8 : Int32 → MS → Prop) (k44 : Int32 → Int32 → MS → Prop) (x3 : Int32) (x4 : Int32) (σ : MS) : Prop :=
  (2 ≤ x4 → (wB_X9_ends_84 post k8 x3 σ)) ∧ (¬ 2 ≤ x4 → (wp_X9_wayOf (fun r_7 σ_8 => (r_7 = (-2) → (wB_X9_ends_78 post k8 k44 x3 x4 σ_8)) ∧ (¬ r_7 = (-2) → (wp_X9_wayOf (fun r_10 σ_11 => wp_X9_isPlace (fun r_12 σ_13 => (r_12 = 0 → (post 1 σ_13)) ∧ (¬ r_12 = 0 → (wB_X9_ends_78 post k8 k44 x3 x4 σ_13))) r_10 σ_11) x3 x4 σ_8))) x3 x4 σ))
def wL_X9_ends_44 (post : Int32 → MS → Prop) (k8 : Int32 → MS → Prop) : Nat → Int32 → Int32 → MS → Prop
  | 0 => fun _ _ _ => False
  | n + 1 => wB_X9_ends_44 post k8 (wL_X9_ends_44 post k8 n)
def wB_X9_ends_8 (post : Int32 → MS → Prop) (k8 : Int32 → MS → Prop) (x3 : Int32) (σ : MS) : Prop :=
  ((mI σ 11) ≤ x3 → (post 0 σ)) ∧ (¬ (mI σ 11) ≤ x3 → (vp_in x3 64 ∧ (((mA σ 31 x3.toNatClampNeg) = 0 → (wB_X9_ends_84 post k8 x3 σ)) ∧ (¬ (mA σ 31 x3.toNatClampNeg) = 0 → (wp_X9_wayOf (fun r_4 σ_5 => (r_4 = (-2) → (post 1 σ_5)) ∧ (¬ r_4 = (-2) → (∃ n, wL_X9_ends_44 post k8 n x3 0 σ_5))) x3 0 σ)))))
def wL_X9_ends_8 (post : Int32 → MS → Prop) : Nat → Int32 → MS → Prop
  | 0 => fun _ _ => False
  | n + 1 => wB_X9_ends_8 post (wL_X9_ends_8 post n)
def wp_X9_ends (post : Int32 → MS → Prop) (x1 : Int32) (x2 : Int32) (σ : MS) : Prop :=
  wp_X9_spread (fun σ_2 => ∃ n, wL_X9_ends_8 post n 0 σ_2) x1 x2 σ
set_option maxHeartbeats 4000000 in
set_option maxRecDepth 100000 in
theorem kB_X9_ends_84 {p : Program} {l : Launch} {e : Env} {s : State} {m : MethodId} {args : Array Value} {below : List Frame} {meth : Method} {c : Code} {A : Nat → Prop} {E : EnvT} {aK aV : Nat → Nat} {D : va_G} {cA : Nat → ClassId} {h : Nat} {ad : Nat → Nat} (C : mCx p s m args meth c cX9_ends 5 (some .boolean) wgX9_ends RX9 E D cA A) (vM : eMs aK aV E) {post : Int32 → MS → Prop}
    {k8 : Int32 → MS → Prop} (hk8 : ∀ (x3 : Int32) (σ : MS) (H : Heap) (locs : List Loc) (ls : Array Slot), mG D cA h ad A s σ H locs → lv_has ls 5 [(0, .ref h), (3, .int x3)] → k8 x3 σ → W p l e rm_X9_ends s m args below meth c H locs 0 0 (MQ below (va_Qi post (mAt D cA h ad A) A) args s 0 0 A) (F0 m 8 ls [])) :
    ∀ (x3 : Int32) (σ : MS) (H : Heap) (locs : List Loc) (ls : Array Slot), mG D cA h ad A s σ H locs → lv_has ls 5 [(0, .ref h), (3, .int x3)] → wB_X9_ends_84 post k8 x3 σ → W p l e rm_X9_ends s m args below meth c H locs 0 0 (MQ below (va_Qi post (mAt D cA h ad A) A) args s 0 0 A) (F0 m 84 ls []) := by
  obtain ⟨hx, hb, hml, hr, hown, hts, hK, hA, hlk, hE, vE⟩ := id C
  intro x3 σ H locs ls hG hl hw
  obtain ⟨hP, hD, hS⟩ := id hG
  obtain ⟨x3_6, ex3_6⟩ : ∃ y : Int32, y = x3 + 1 := ⟨_, rfl⟩
  have hw := hw x3_6 ex3_6
  refine lv_iinc (v := x3_6) (lv' := [(3, .int x3_6), (0, .ref h)]) hx hb dX9_ends_84 hl (k := 1) rfl (by rw [ex3_6]; rfl) (by decide) rfl (fun ls hl => ?_)
  refine lv_goto (tgt := 8) hx hb dX9_ends_87 (by decide) ?_
  exact hk8 x3_6 σ _ _ _ hG (lv_sub hl [1, 0] rfl) hw
set_option maxHeartbeats 4000000 in
set_option maxRecDepth 100000 in
theorem kB_X9_ends_78 {p : Program} {l : Launch} {e : Env} {s : State} {m : MethodId} {args : Array Value} {below : List Frame} {meth : Method} {c : Code} {A : Nat → Prop} {E : EnvT} {aK aV : Nat → Nat} {D : va_G} {cA : Nat → ClassId} {h : Nat} {ad : Nat → Nat} (C : mCx p s m args meth c cX9_ends 5 (some .boolean) wgX9_ends RX9 E D cA A) (vM : eMs aK aV E) {post : Int32 → MS → Prop}
    {k8 : Int32 → MS → Prop} (hk8 : ∀ (x3 : Int32) (σ : MS) (H : Heap) (locs : List Loc) (ls : Array Slot), mG D cA h ad A s σ H locs → lv_has ls 5 [(0, .ref h), (3, .int x3)] → k8 x3 σ → W p l e rm_X9_ends s m args below meth c H locs 0 0 (MQ below (va_Qi post (mAt D cA h ad A) A) args s 0 0 A) (F0 m 8 ls []))
    {k44 : Int32 → Int32 → MS → Prop} (hk44 : ∀ (x3 : Int32) (x4 : Int32) (σ : MS) (H : Heap) (locs : List Loc) (ls : Array Slot), mG D cA h ad A s σ H locs → lv_has ls 5 [(0, .ref h), (3, .int x3), (4, .int x4)] → k44 x3 x4 σ → W p l e rm_X9_ends s m args below meth c H locs 0 0 (MQ below (va_Qi post (mAt D cA h ad A) A) args s 0 0 A) (F0 m 44 ls [])) :
    ∀ (x3 : Int32) (x4 : Int32) (σ : MS) (H : Heap) (locs : List Loc) (ls : Array Slot), mG D cA h ad A s σ H locs → lv_has ls 5 [(0, .ref h), (3, .int x3), (4, .int x4)] → wB_X9_ends_78 post k8 k44 x3 x4 σ → W p l e rm_X9_ends s m args below meth c H locs 0 0 (MQ below (va_Qi post (mAt D cA h ad A) A) args s 0 0 A) (F0 m 78 ls []) := by
  obtain ⟨hx, hb, hml, hr, hown, hts, hK, hA, hlk, hE, vE⟩ := id C
  intro x3 x4 σ H locs ls hG hl hw
  obtain ⟨hP, hD, hS⟩ := id hG
  obtain ⟨x4_9, ex4_9⟩ : ∃ y : Int32, y = x4 + 1 := ⟨_, rfl⟩
  have hw := hw x4_9 ex4_9
  refine lv_iinc (v := x4_9) (lv' := [(4, .int x4_9), (0, .ref h), (3, .int x3)]) hx hb dX9_ends_78 hl (k := 2) rfl (by rw [ex4_9]; rfl) (by decide) rfl (fun ls hl => ?_)
  refine lv_goto (tgt := 44) hx hb dX9_ends_81 (by decide) ?_
  exact hk44 x3 x4_9 σ _ _ _ hG (lv_sub hl [1, 2, 0] rfl) hw
set_option maxHeartbeats 4000000 in
set_option maxRecDepth 100000 in
theorem kB_X9_ends_44 {p : Program} {l : Launch} {e : Env} {s : State} {m : MethodId} {args : Array Value} {below : List Frame} {meth : Method} {c : Code} {A : Nat → Prop} {E : EnvT} {aK aV : Nat → Nat} {D : va_G} {cA : Nat → ClassId} {h : Nat} {ad : Nat → Nat} (C : mCx p s m args meth c cX9_ends 5 (some .boolean) wgX9_ends RX9 E D cA A) (vM : eMs aK aV E) {post : Int32 → MS → Prop}
    {k8 : Int32 → MS → Prop} (hk8 : ∀ (x3 : Int32) (σ : MS) (H : Heap) (locs : List Loc) (ls : Array Slot), mG D cA h ad A s σ H locs → lv_has ls 5 [(0, .ref h), (3, .int x3)] → k8 x3 σ → W p l e rm_X9_ends s m args below meth c H locs 0 0 (MQ below (va_Qi post (mAt D cA h ad A) A) args s 0 0 A) (F0 m 8 ls []))
    {k44 : Int32 → Int32 → MS → Prop} (hk44 : ∀ (x3 : Int32) (x4 : Int32) (σ : MS) (H : Heap) (locs : List Loc) (ls : Array Slot), mG D cA h ad A s σ H locs → lv_has ls 5 [(0, .ref h), (3, .int x3), (4, .int x4)] → k44 x3 x4 σ → W p l e rm_X9_ends s m args below meth c H locs 0 0 (MQ below (va_Qi post (mAt D cA h ad A) A) args s 0 0 A) (F0 m 44 ls [])) :
    ∀ (x3 : Int32) (x4 : Int32) (σ : MS) (H : Heap) (locs : List Loc) (ls : Array Slot), mG D cA h ad A s σ H locs → lv_has ls 5 [(0, .ref h), (3, .int x3), (4, .int x4)] → wB_X9_ends_44 post k8 k44 x3 x4 σ → W p l e rm_X9_ends s m args below meth c H locs 0 0 (MQ below (va_Qi post (mAt D cA h ad A) A) args s 0 0 A) (F0 m 44 ls []) := by
  obtain ⟨hx, hb, hml, hr, hown, hts, hK, hA, hlk, hE, vE⟩ := id C
  intro x3 x4 σ H locs ls hG hl hw
  obtain ⟨hP, hD, hS⟩ := id hG
  refine lv_iload hx hb dX9_ends_44 (lv_at hl 2 rfl) ?_
  refine lv_iconst (v := 2) hx hb dX9_ends_46 (by decide) ?_
  refine lv_icmp_ge (tgt := 84) hx hb dX9_ends_47 (by decide) (fun q_ => ?_) (fun q_ => ?_)
  · have hw := hw.1 q_
    exact kB_X9_ends_84 C vM hk8 x3 σ _ _ _ hG (lv_sub hl [0, 1] rfl) hw
  · have hw := hw.2 q_
    refine lv_aload_n hx hb dX9_ends_50 rfl (lv_at hl 0 rfl) ?_
    refine lv_iload_n hx hb dX9_ends_51 rfl (lv_at hl 1 rfl) ?_
    refine lv_iload hx hb dX9_ends_52 (lv_at hl 2 rfl) ?_
    refine mV_i (As := [.int x3, .int x4]) (rest := []) C (met_X9_wayOf vE vM hw) (va_recv hK hP (ci := 11) (q0 := 0) rfl rfl) (cwV 2 hts (TB_G (TB_4 tw_6_166 tw_6_168 ts_50 tw_1_13) tw_6_169) rfl rfl rfl (by decide +kernel) ⟨by decide, by decide⟩) hP hD hS rfl hl.1 rfl (Nat.le_of_ble_eq_true rfl) dX9_ends_54 ⟨by decide, by decide⟩ (fun r_7 σ_8 H locs hw hP hD hS => ?_)
    have hG : mG D cA h ad A s σ_8 H locs := ⟨hP, hD, hS⟩
    refine lv_bipush (v := (-2)) hx hb dX9_ends_57 (by decide) ?_
    refine lv_icmp_eq (tgt := 78) hx hb dX9_ends_59 (by decide) (fun q_ => ?_) (fun q_ => ?_)
    · have hw := hw.1 q_
      exact kB_X9_ends_78 C vM hk8 hk44 x3 x4 σ_8 _ _ _ hG (lv_sub hl [0, 1, 2] rfl) hw
    · have hw := hw.2 q_
      refine lv_aload_n hx hb dX9_ends_62 rfl (lv_at hl 0 rfl) ?_
      refine lv_aload_n hx hb dX9_ends_63 rfl (lv_at hl 0 rfl) ?_
      refine lv_iload_n hx hb dX9_ends_64 rfl (lv_at hl 1 rfl) ?_
      refine lv_iload hx hb dX9_ends_65 (lv_at hl 2 rfl) ?_
      refine mV_i (As := [.int x3, .int x4]) (rest := [.ref h]) C (met_X9_wayOf vE vM hw) (va_recv hK hP (ci := 11) (q0 := 0) rfl rfl) (cwV 2 hts (TB_G (TB_4 tw_6_166 tw_6_168 ts_50 tw_1_13) tw_6_169) rfl rfl rfl (by decide +kernel) ⟨by decide, by decide⟩) hP hD hS rfl hl.1 rfl (Nat.le_of_ble_eq_true rfl) dX9_ends_67 ⟨by decide, by decide⟩ (fun r_10 σ_11 H locs hw hP hD hS => ?_)
      have hG : mG D cA h ad A s σ_11 H locs := ⟨hP, hD, hS⟩
      refine mV_i (As := [.int r_10]) (rest := []) C (met_X9_isPlace vE vM hw) (va_recv hK hP (ci := 11) (q0 := 0) rfl rfl) (cwV 1 hts (TB_G (TB_4 tw_6_108 tw_6_110 ts_45 tw_1_13) tw_6_111) rfl rfl rfl (by decide +kernel) ⟨by decide, by decide⟩) hP hD hS rfl hl.1 rfl (Nat.le_of_ble_eq_true rfl) dX9_ends_70 ⟨by decide, by decide⟩ (fun r_12 σ_13 H locs hw hP hD hS => ?_)
      have hG : mG D cA h ad A s σ_13 H locs := ⟨hP, hD, hS⟩
      refine lv_if_ne (tgt := 78) hx hb dX9_ends_73 (by decide) (fun q_ => ?_) (fun q_ => ?_)
      · have hw := hw.2 q_
        exact kB_X9_ends_78 C vM hk8 hk44 x3 x4 σ_13 _ _ _ hG (lv_sub hl [0, 1, 2] rfl) hw
      · have hw := hw.1 q_
        refine lv_iconst (v := 1) hx hb dX9_ends_76 (by decide) ?_
        exact W.zret (v := 1) (ty := .boolean) hx hb hr rfl (fun t ht hW => ⟨⟨_, σ_13, rfl, hw, by rw [ht]; exact hP, va_K.moved hW.alike hK, hD⟩, hS.F ht⟩) hS.2.2 dX9_ends_77 hlk
theorem kL_X9_ends_44 {p : Program} {l : Launch} {e : Env} {s : State} {m : MethodId} {args : Array Value} {below : List Frame} {meth : Method} {c : Code} {A : Nat → Prop} {E : EnvT} {aK aV : Nat → Nat} {D : va_G} {cA : Nat → ClassId} {h : Nat} {ad : Nat → Nat} (C : mCx p s m args meth c cX9_ends 5 (some .boolean) wgX9_ends RX9 E D cA A) (vM : eMs aK aV E) {post : Int32 → MS → Prop}
    {k8 : Int32 → MS → Prop} (hk8 : ∀ (x3 : Int32) (σ : MS) (H : Heap) (locs : List Loc) (ls : Array Slot), mG D cA h ad A s σ H locs → lv_has ls 5 [(0, .ref h), (3, .int x3)] → k8 x3 σ → W p l e rm_X9_ends s m args below meth c H locs 0 0 (MQ below (va_Qi post (mAt D cA h ad A) A) args s 0 0 A) (F0 m 8 ls [])) :
    ∀ (n : Nat) (x3 : Int32) (x4 : Int32) (σ : MS) (H : Heap) (locs : List Loc) (ls : Array Slot), mG D cA h ad A s σ H locs → lv_has ls 5 [(0, .ref h), (3, .int x3), (4, .int x4)] → wL_X9_ends_44 post k8 n x3 x4 σ → W p l e rm_X9_ends s m args below meth c H locs 0 0 (MQ below (va_Qi post (mAt D cA h ad A) A) args s 0 0 A) (F0 m 44 ls []) := by
  intro n
  induction n with
  | zero => intro x3 x4 σ H locs ls hG hl hw; exact hw.elim
  | succ n ih => exact kB_X9_ends_44 C vM hk8 ih
set_option maxHeartbeats 4000000 in
set_option maxRecDepth 100000 in
theorem kB_X9_ends_8 {p : Program} {l : Launch} {e : Env} {s : State} {m : MethodId} {args : Array Value} {below : List Frame} {meth : Method} {c : Code} {A : Nat → Prop} {E : EnvT} {aK aV : Nat → Nat} {D : va_G} {cA : Nat → ClassId} {h : Nat} {ad : Nat → Nat} (C : mCx p s m args meth c cX9_ends 5 (some .boolean) wgX9_ends RX9 E D cA A) (vM : eMs aK aV E) {post : Int32 → MS → Prop}
    {k8 : Int32 → MS → Prop} (hk8 : ∀ (x3 : Int32) (σ : MS) (H : Heap) (locs : List Loc) (ls : Array Slot), mG D cA h ad A s σ H locs → lv_has ls 5 [(0, .ref h), (3, .int x3)] → k8 x3 σ → W p l e rm_X9_ends s m args below meth c H locs 0 0 (MQ below (va_Qi post (mAt D cA h ad A) A) args s 0 0 A) (F0 m 8 ls [])) :
    ∀ (x3 : Int32) (σ : MS) (H : Heap) (locs : List Loc) (ls : Array Slot), mG D cA h ad A s σ H locs → lv_has ls 5 [(0, .ref h), (3, .int x3)] → wB_X9_ends_8 post k8 x3 σ → W p l e rm_X9_ends s m args below meth c H locs 0 0 (MQ below (va_Qi post (mAt D cA h ad A) A) args s 0 0 A) (F0 m 8 ls []) := by
  obtain ⟨hx, hb, hml, hr, hown, hts, hK, hA, hlk, hE, vE⟩ := id C
  intro x3 σ H locs ls hG hl hw
  obtain ⟨hP, hD, hS⟩ := id hG
  refine lv_iload_n hx hb dX9_ends_8 rfl (lv_at hl 1 rfl) ?_
  refine lv_aload_n hx hb dX9_ends_9 rfl (lv_at hl 0 rfl) ?_
  refine va_get (D := D) (ci := 11) (v := .int (mI σ 11)) (C := RX9) (T := TX9) (N := 32) hx hb hts (in_tb inX9) hown hK hP 0 rfl rfl 11 (by decide) (hts _ (List.mem_cons_of_mem _ tw_5_121)) (fun _ h9 => h9) rfl dX9_ends_10 ?_
  refine lv_icmp_ge (tgt := 90) hx hb dX9_ends_13 (by decide) (fun q_ => ?_) (fun q_ => ?_)
  · have hw := hw.1 q_
    refine lv_iconst (v := 0) hx hb dX9_ends_90 (by decide) ?_
    exact W.zret (v := 0) (ty := .boolean) hx hb hr rfl (fun t ht hW => ⟨⟨_, σ, rfl, hw, by rw [ht]; exact hP, va_K.moved hW.alike hK, hD⟩, hS.F ht⟩) hS.2.2 dX9_ends_91 hlk
  · have hw := hw.2 q_
    refine lv_aload_n hx hb dX9_ends_16 rfl (lv_at hl 0 rfl) ?_
    refine va_get (D := D) (ci := 11) (v := .ref (ad 31)) (C := RX9) (T := TX9) (N := 32) hx hb hts (in_tb inX9) hown hK hP 0 rfl rfl 31 (by decide) (hts _ (List.mem_cons_of_mem _ tw_5_141)) (fun _ h9 => h9) rfl dX9_ends_17 ?_
    refine lv_iload_n hx hb dX9_ends_20 rfl (lv_at hl 1 rfl) ?_
    obtain ⟨h_3, hw⟩ := hw
    refine va_zald hx hb hK hP 17 2 rfl rfl h_3 dX9_ends_21 ?_
    refine lv_if_ne (tgt := 28) hx hb dX9_ends_22 (by decide) (fun q_ => ?_) (fun q_ => ?_)
    · have hw := hw.2 q_
      refine lv_aload_n hx hb dX9_ends_28 rfl (lv_at hl 0 rfl) ?_
      refine lv_iload_n hx hb dX9_ends_29 rfl (lv_at hl 1 rfl) ?_
      refine lv_iconst (v := 0) hx hb dX9_ends_30 (by decide) ?_
      refine mV_i (As := [.int x3, .int 0]) (rest := []) C (met_X9_wayOf vE vM hw) (va_recv hK hP (ci := 11) (q0 := 0) rfl rfl) (cwV 2 hts (TB_G (TB_4 tw_6_166 tw_6_168 ts_50 tw_1_13) tw_6_169) rfl rfl rfl (by decide +kernel) ⟨by decide, by decide⟩) hP hD hS rfl hl.1 rfl (Nat.le_of_ble_eq_true rfl) dX9_ends_31 ⟨by decide, by decide⟩ (fun r_4 σ_5 H locs hw hP hD hS => ?_)
      have hG : mG D cA h ad A s σ_5 H locs := ⟨hP, hD, hS⟩
      refine lv_bipush (v := (-2)) hx hb dX9_ends_34 (by decide) ?_
      refine lv_icmp_ne (tgt := 41) hx hb dX9_ends_36 (by decide) (fun q_ => ?_) (fun q_ => ?_)
      · have hw := hw.2 q_
        refine lv_iconst (v := 0) hx hb dX9_ends_41 (by decide) ?_
        refine lv_istore (lv' := [(4, .int 0), (0, .ref h), (3, .int x3)]) hx hb dX9_ends_42 hl (by decide) rfl (fun ls hl => ?_)
        obtain ⟨n_, hw⟩ := hw
        exact kL_X9_ends_44 C vM hk8 n_ x3 0 σ_5 _ _ _ hG (lv_sub hl [1, 2, 0] rfl) hw
      · have hw := hw.1 q_
        refine lv_iconst (v := 1) hx hb dX9_ends_39 (by decide) ?_
        exact W.zret (v := 1) (ty := .boolean) hx hb hr rfl (fun t ht hW => ⟨⟨_, σ_5, rfl, hw, by rw [ht]; exact hP, va_K.moved hW.alike hK, hD⟩, hS.F ht⟩) hS.2.2 dX9_ends_40 hlk
    · have hw := hw.1 q_
      refine lv_goto (tgt := 84) hx hb dX9_ends_25 (by decide) ?_
      exact kB_X9_ends_84 C vM hk8 x3 σ _ _ _ hG (lv_sub hl [0, 1] rfl) hw
theorem kL_X9_ends_8 {p : Program} {l : Launch} {e : Env} {s : State} {m : MethodId} {args : Array Value} {below : List Frame} {meth : Method} {c : Code} {A : Nat → Prop} {E : EnvT} {aK aV : Nat → Nat} {D : va_G} {cA : Nat → ClassId} {h : Nat} {ad : Nat → Nat} (C : mCx p s m args meth c cX9_ends 5 (some .boolean) wgX9_ends RX9 E D cA A) (vM : eMs aK aV E) {post : Int32 → MS → Prop} :
    ∀ (n : Nat) (x3 : Int32) (σ : MS) (H : Heap) (locs : List Loc) (ls : Array Slot), mG D cA h ad A s σ H locs → lv_has ls 5 [(0, .ref h), (3, .int x3)] → wL_X9_ends_8 post n x3 σ → W p l e rm_X9_ends s m args below meth c H locs 0 0 (MQ below (va_Qi post (mAt D cA h ad A) A) args s 0 0 A) (F0 m 8 ls []) := by
  intro n
  induction n with
  | zero => intro x3 σ H locs ls hG hl hw; exact hw.elim
  | succ n ih => exact kB_X9_ends_8 C vM ih
set_option maxHeartbeats 4000000 in
set_option maxRecDepth 100000 in
theorem k_X9_ends {p : Program} {l : Launch} {e : Env} {s : State} {m : MethodId} {args : Array Value} {below : List Frame} {meth : Method} {c : Code} {A : Nat → Prop} {E : EnvT} {aK aV : Nat → Nat} {D : va_G} {cA : Nat → ClassId} {h : Nat} {ad : Nat → Nat} (C : mCx p s m args meth c cX9_ends 5 (some .boolean) wgX9_ends RX9 E D cA A) (vM : eMs aK aV E) {post : Int32 → MS → Prop} :
    ∀ (x1 : Int32) (x2 : Int32) (σ : MS) (H : Heap) (locs : List Loc) (ls : Array Slot), mG D cA h ad A s σ H locs → lv_has ls 5 [(0, .ref h), (1, .int x1), (2, .int x2)] → wp_X9_ends post x1 x2 σ → W p l e rm_X9_ends s m args below meth c H locs 0 0 (MQ below (va_Qi post (mAt D cA h ad A) A) args s 0 0 A) (F0 m 0 ls []) := by
  obtain ⟨hx, hb, hml, hr, hown, hts, hK, hA, hlk, hE, vE⟩ := id C
  intro x1 x2 σ H locs ls hG hl hw
  obtain ⟨hP, hD, hS⟩ := id hG
  refine lv_aload_n hx hb dX9_ends_0 rfl (lv_at hl 0 rfl) ?_
  refine lv_iload_n hx hb dX9_ends_1 rfl (lv_at hl 1 rfl) ?_
  refine lv_iload_n hx hb dX9_ends_2 rfl (lv_at hl 2 rfl) ?_
  refine mV_v (As := [.int x1, .int x2]) (rest := []) C (met_X9_spread vE vM hw) (va_recv hK hP (ci := 11) (q0 := 0) rfl rfl) (cwV 2 hts (TB_G (TB_4 tw_6_178 tw_6_180 ts_52 tw_1_13) tw_6_181) rfl rfl rfl (by decide +kernel) ⟨by decide, by decide⟩) hP hD hS rfl hl.1 rfl (Nat.le_of_ble_eq_true rfl) dX9_ends_3 ⟨by decide, by decide⟩ (fun σ_2 H locs hw hP hD hS => ?_)
  have hG : mG D cA h ad A s σ_2 H locs := ⟨hP, hD, hS⟩
  refine lv_iconst (v := 0) hx hb dX9_ends_6 (by decide) ?_
  refine lv_istore_n (lv' := [(3, .int 0), (0, .ref h), (1, .int x1), (2, .int x2)]) hx hb dX9_ends_7 rfl hl (by decide) rfl (fun ls hl => ?_)
  obtain ⟨n_, hw⟩ := hw
  exact kL_X9_ends_8 C vM n_ 0 σ_2 _ _ _ hG (lv_sub hl [1, 0] rfl) hw
set_option maxHeartbeats 4000000 in
set_option maxRecDepth 100000 in
theorem met_X9_ends {l : Launch} {E : EnvT} (vE : EnvOk E) {D : va_G} {cA : Nat → ClassId} {h : Nat} {ad : Nat → Nat} {σ : MS} {aK aV : Nat → Nat} (vM : eMs aK aV E) {sz : Nat} {x1 : Int32} {x2 : Int32} {post : Int32 → MS → Prop} (hw : wp_X9_ends post x1 x2 σ) : Met l yX9_ends wgX9_ends rm_X9_ends (va_Pc [.ref h, .int x1, .int x2] (mPre E D cA h ad sz σ)) (va_Qi post (mAt D cA h ad (va_A (mW cA h ad σ) sz)) (va_A (mW cA h ad σ) sz)) 0 0 (va_A (mW cA h ad σ) sz) := by
  refine Met.ofW (cc := cX9_ends) (maxL := 5) (ret := (some .boolean)) (by decide +kernel) rfl ?_
  intro p e s m args below meth c s₁ B hml hv
  obtain ⟨rfl, hsz, hP, hK, hD0, hE⟩ := hv
  subst hsz
  have hD := hD0.self (sz := s.heap.size)
  generalize hAe : va_A (mW cA h ad σ) s.heap.size = A at hD hE ⊢
  have hA : ∀ q : Nat, s.heap.size ≤ q → A q := fun q h => by rw [← hAe]; exact Or.inr h
  have hS : va_S A s.heap s.heap [] := va_S.rf
  have C : mCx p s m _ meth c cX9_ends 5 (some .boolean) wgX9_ends RX9 E D cA A := ⟨B.exec, B.bytes, hml, B.returns, findClass_of_methodNamed B.named, atoms_spec (ws := wgX9_ends) B.pre, hK, hA, B.notSynchronized, hE, vE⟩
  have hG : mG D cA h ad A s σ s.heap [] := ⟨hP, hD, hS⟩
  have hl := lv_entry ([.ref h, .int x1, .int x2]) (n := 5) (Nat.le_of_ble_eq_true rfl)
  rw [lg_entry_eq]
  generalize (lg_sl ([.ref h, .int x1, .int x2]) ++ List.replicate (5 - (lg_sl ([.ref h, .int x1, .int x2])).length) Slot.unset).toArray = ls at hl ⊢
  have hl : lv_has ls 5 [(0, .ref h), (1, .int x1), (2, .int x2)] := hl
  exact k_X9_ends C vM x1 x2 σ _ _ _ hG hl hw
