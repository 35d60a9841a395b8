/-! ===== readWord ===== -/
def rm_X9_readWord : Room := { frames := 5, cells := 0, slots := 0, locals := 110 }
abbrev wgX9_readWord : List Cond := .code yX9_readWord cX9_readWord 6 (some .boolean) :: TB
def wB_X9_readWord_185 (post : Int32 → MS → Prop) (t0 : Int32) (t1 : Int32) (σ : MS) : Prop :=
  post 1 (wI σ 18 (t1 + t0))
def wB_X9_readWord_147 (post : Int32 → MS → Prop) (x4 : Int32) (σ : MS) : Prop :=
  vp_in (mI σ 13) 65 ∧ ((x4 = 0 → (wB_X9_readWord_185 post 0 (mI σ 18) (wI (wL σ 12 (mI σ 13).toNatClampNeg (mJ σ 28)) 13 ((mI σ 13) + 1)))) ∧ (¬ x4 = 0 → (wB_X9_readWord_185 post 1 (mI σ 18) (wI (wL σ 12 (mI σ 13).toNatClampNeg (mJ σ 28)) 13 ((mI σ 13) + 1)))))
def wB_X9_readWord_134 (post : Int32 → MS → Prop) (k69 : Int32 → Int32 → Int32 → MS → Prop) (x1 : Int32) (x5 : Int32) (t0 : Int32) (σ : MS) : Prop :=
  ∀ x5_12 : Int32, x5_12 = x5 + 1 → k69 x1 t0 x5_12 (wI σ 27 0)
def wB_X9_readWord_129 (post : Int32 → MS → Prop) (k69 : Int32 → Int32 → Int32 → MS → Prop) (x1 : Int32) (x5 : Int32) (σ : MS) : Prop :=
  wB_X9_readWord_134 post k69 x1 x5 1 σ
def wB_X9_readWord_102 (post : Int32 → MS → Prop) (k69 : Int32 → Int32 → Int32 → MS → Prop) (x1 : Int32) (x4 : Int32) (x5 : Int32) (σ : MS) : Prop :=
  wp_X9_part (fun r_8  => wp_X9_readPart (fun r_10 σ_11 => (r_10 = 0 → (post 0 σ_11)) ∧ (¬ r_10 = 0 → ((x4 = 0 → (((mI σ_11 27) = 0 → (wB_X9_readWord_134 post k69 x1 x5 0 σ_11)) ∧ (¬ (mI σ_11 27) = 0 → (wB_X9_readWord_129 post k69 x1 x5 σ_11)))) ∧ (¬ x4 = 0 → (wB_X9_readWord_129 post k69 x1 x5 σ_11))))) r_8 σ) x1 x5
def wB_X9_readWord_69 (post : Int32 → MS → Prop) (k69 : Int32 → Int32 → Int32 → MS → Prop) (x1 : Int32) (x4 : Int32) (x5 : Int32) (σ : MS) : Prop :=
  (4 ≤ x5 → (wB_X9_readWord_147 post x4 σ)) ∧ (¬ 4 ≤ x5 → (wp_X9_part (fun r_6  => (r_6 = 46 → (wB_X9_readWord_147 post x4 σ)) ∧ (¬ r_6 = 46 → ((x5 ≤ 0 → (wB_X9_readWord_102 post k69 x1 x4 x5 σ)) ∧ (¬ x5 ≤ 0 → (wp_X9_want (fun r_13 σ_14 => (r_13 = 0 → (post 0 σ_14)) ∧ (¬ r_13 = 0 → (wB_X9_readWord_102 post k69 x1 x4 x5 σ_14))) 44 σ))))) x1 x5))
def wL_X9_readWord_69 (post : Int32 → MS → Prop) : Nat → Int32 → Int32 → Int32 → MS → Prop
  | 0 => fun _ _ _ _ => False
  | n + 1 => wB_X9_readWord_69 post (wL_X9_readWord_69 post n)
def wB_X9_readWord_54 (post : Int32 → MS → Prop) (x1 : Int32) (t0 : Int64) (t1 : Int64) (σ : MS) : Prop :=
  ∃ n, wL_X9_readWord_69 post n x1 0 0 (wI (wJ σ 28 (t1 ||| t0)) 27 0)
def wp_X9_readWord (post : Int32 → MS → Prop) (x1 : Int32) (x2 : Int64) (σ : MS) : Prop :=
  ((mI σ 13) = 64 → (wp_X9_refuse (fun r_17 σ_18 => isB r_17 ∧ (post r_17 σ_18)) σ)) ∧ (¬ (mI σ 13) = 64 → (wp_X9_opOf (fun r_1  => wp_X9_isTold (fun r_3  => (r_3 = 0 → (wB_X9_readWord_54 post x1 0 ((r_1.toInt64) ||| (x2 <<< ((20 : Int32).toInt64 &&& 63))) (wI σ 9 ((mI σ 9) + 1)))) ∧ (¬ r_3 = 0 → (wp_X9_number (fun r_15  => wB_X9_readWord_54 post x1 r_15 ((r_1.toInt64) ||| (x2 <<< ((20 : Int32).toInt64 &&& 63))) (wI σ 9 ((mI σ 9) + 1))) ((x1 - 22).toInt64)))) x1) x1))
set_option maxHeartbeats 4000000 in
set_option maxRecDepth 100000 in
theorem kB_X9_readWord_185 {p : Program} {l : Launch} {e : Env} {s : State} {m : MethodId} {args : Array Value} {below : List Frame} {meth : Method} {c : Code} {A : Nat → Prop} {E : EnvT} {aK aV : Nat → Nat} {D : va_G} {cA : Nat → ClassId} {h : Nat} {ad : Nat → Nat} (C : mCx p s m args meth c cX9_readWord 6 (some .boolean) wgX9_readWord RX9 E D cA A) (vM : eMs aK aV E) {post : Int32 → MS → Prop} :
    ∀ (t0 : Int32) (t1 : Int32) (σ : MS) (H : Heap) (locs : List Loc) (ls : Array Slot), mG D cA h ad A s σ H locs → lv_has ls 6 [] → wB_X9_readWord_185 post t0 t1 σ → W p l e rm_X9_readWord s m args below meth c H locs 0 0 (MQ below (va_Qi post (mAt D cA h ad A) A) args s 0 0 A) (F0 m 185 ls [.int t0, .int t1, .ref h]) := by
  obtain ⟨hx, hb, hml, hr, hown, hts, hK, hA, hlk, hE, vE⟩ := id C
  intro t0 t1 σ H locs ls hG hl hw
  obtain ⟨hP, hD, hS⟩ := id hG
  refine lv_iadd hx hb dX9_readWord_185 ?_
  refine va_put (D := D) (ci := 11) (v := .int (t1 + t0)) (ty := .int) (C := RX9) (T := TX9) (N := 32) hx hb hts (in_tb inX9) tyX9 tyX9_ok nmX9 hown hK hP hD hS 0 rfl rfl 18 (by decide) (hts _ (List.mem_cons_of_mem _ tw_5_128)) (fun _ h9 => h9) rfl (by decide +kernel) rfl rfl (Nat.le_of_ble_eq_true rfl) dX9_readWord_186 (fun H locs hP hD hS => ?_)
  have hG : mG D cA h ad A s (wI σ 18 (t1 + t0)) H locs := ⟨hP, hD, hS⟩
  obtain ⟨hP, hD, hS⟩ := id hG
  refine lv_iconst (v := 1) hx hb dX9_readWord_189 (by decide) ?_
  exact W.zret (v := 1) (ty := .boolean) hx hb hr rfl (fun t ht hW => ⟨⟨_, (wI σ 18 (t1 + t0)), rfl, hw, by rw [ht]; exact hP, va_K.moved hW.alike hK, hD⟩, hS.F ht⟩) hS.2.2 dX9_readWord_190 hlk
set_option maxHeartbeats 4000000 in
set_option maxRecDepth 100000 in
theorem kB_X9_readWord_147 {p : Program} {l : Launch} {e : Env} {s : State} {m : MethodId} {args : Array Value} {below : List Frame} {meth : Method} {c : Code} {A : Nat → Prop} {E : EnvT} {aK aV : Nat → Nat} {D : va_G} {cA : Nat → ClassId} {h : Nat} {ad : Nat → Nat} (C : mCx p s m args meth c cX9_readWord 6 (some .boolean) wgX9_readWord RX9 E D cA A) (vM : eMs aK aV E) {post : Int32 → MS → Prop} :
    ∀ (x4 : Int32) (σ : MS) (H : Heap) (locs : List Loc) (ls : Array Slot), mG D cA h ad A s σ H locs → lv_has ls 6 [(0, .ref h), (4, .int x4)] → wB_X9_readWord_147 post x4 σ → W p l e rm_X9_readWord s m args below meth c H locs 0 0 (MQ below (va_Qi post (mAt D cA h ad A) A) args s 0 0 A) (F0 m 147 ls []) := by
  obtain ⟨hx, hb, hml, hr, hown, hts, hK, hA, hlk, hE, vE⟩ := id C
  intro x4 σ H locs ls hG hl hw
  obtain ⟨hP, hD, hS⟩ := id hG
  refine lv_aload_n hx hb dX9_readWord_147 rfl (lv_at hl 0 rfl) ?_
  refine va_get (D := D) (ci := 11) (v := .ref (ad 12)) (C := RX9) (T := TX9) (N := 32) hx hb hts (in_tb inX9) hown hK hP 0 rfl rfl 12 (by decide) (hts _ (List.mem_cons_of_mem _ tw_5_122)) (fun _ h9 => h9) rfl dX9_readWord_148 ?_
  refine lv_aload_n hx hb dX9_readWord_151 rfl (lv_at hl 0 rfl) ?_
  refine va_get (D := D) (ci := 11) (v := .int (mI σ 13)) (C := RX9) (T := TX9) (N := 32) hx hb hts (in_tb inX9) hown hK hP 0 rfl rfl 13 (by decide) (hts _ (List.mem_cons_of_mem _ tw_5_123)) (fun _ h9 => h9) rfl dX9_readWord_152 ?_
  refine lv_aload_n hx hb dX9_readWord_155 rfl (lv_at hl 0 rfl) ?_
  refine va_get (D := D) (ci := 11) (v := .long (mJ σ 28)) (C := RX9) (T := TX9) (N := 32) hx hb hts (in_tb inX9) hown hK hP 0 rfl rfl 28 (by decide) (hts _ (List.mem_cons_of_mem _ tw_5_138)) (fun _ h9 => h9) rfl dX9_readWord_156 ?_
  obtain ⟨h_5, hw⟩ := hw
  refine va_last hx hb hK hP hD hS 6 1 rfl rfl h_5 dX9_readWord_159 (fun H locs hP hD hS => ?_)
  have hG : mG D cA h ad A s (wL σ 12 (mI σ 13).toNatClampNeg (mJ σ 28)) H locs := ⟨hP, hD, hS⟩
  obtain ⟨hP, hD, hS⟩ := id hG
  refine lv_aload_n hx hb dX9_readWord_160 rfl (lv_at hl 0 rfl) ?_
  refine lv_dup hx hb dX9_readWord_161 rfl ?_
  refine va_get (D := D) (ci := 11) (v := .int (mI σ 13)) (C := RX9) (T := TX9) (N := 32) hx hb hts (in_tb inX9) hown hK hP 0 rfl rfl 13 (by decide) (hts _ (List.mem_cons_of_mem _ tw_5_123)) (fun _ h9 => h9) rfl dX9_readWord_162 ?_
  refine lv_iconst (v := 1) hx hb dX9_readWord_165 (by decide) ?_
  refine lv_iadd hx hb dX9_readWord_166 ?_
  refine va_put (D := D) (ci := 11) (v := .int ((mI σ 13) + 1)) (ty := .int) (C := RX9) (T := TX9) (N := 32) hx hb hts (in_tb inX9) tyX9 tyX9_ok nmX9 hown hK hP hD hS 0 rfl rfl 13 (by decide) (hts _ (List.mem_cons_of_mem _ tw_5_123)) (fun _ h9 => h9) rfl (by decide +kernel) rfl rfl (Nat.le_of_ble_eq_true rfl) dX9_readWord_167 (fun H locs hP hD hS => ?_)
  have hG : mG D cA h ad A s (wI (wL σ 12 (mI σ 13).toNatClampNeg (mJ σ 28)) 13 ((mI σ 13) + 1)) H locs := ⟨hP, hD, hS⟩
  obtain ⟨hP, hD, hS⟩ := id hG
  refine lv_aload_n hx hb dX9_readWord_170 rfl (lv_at hl 0 rfl) ?_
  refine lv_dup hx hb dX9_readWord_171 rfl ?_
  refine va_get (D := D) (ci := 11) (v := .int (mI σ 18)) (C := RX9) (T := TX9) (N := 32) hx hb hts (in_tb inX9) hown hK hP 0 rfl rfl 18 (by decide) (hts _ (List.mem_cons_of_mem _ tw_5_128)) (fun _ h9 => h9) rfl dX9_readWord_172 ?_
  refine lv_iload hx hb dX9_readWord_175 (lv_at hl 1 rfl) ?_
  refine lv_if_eq (tgt := 184) hx hb dX9_readWord_177 (by decide) (fun q_ => ?_) (fun q_ => ?_)
  · have hw := hw.1 q_
    refine lv_iconst (v := 0) hx hb dX9_readWord_184 (by decide) ?_
    exact kB_X9_readWord_185 C vM 0 (mI σ 18) (wI (wL σ 12 (mI σ 13).toNatClampNeg (mJ σ 28)) 13 ((mI σ 13) + 1)) _ _ _ hG (lv_sub hl [] rfl) hw
  · have hw := hw.2 q_
    refine lv_iconst (v := 1) hx hb dX9_readWord_180 (by decide) ?_
    refine lv_goto (tgt := 185) hx hb dX9_readWord_181 (by decide) ?_
    exact kB_X9_readWord_185 C vM 1 (mI σ 18) (wI (wL σ 12 (mI σ 13).toNatClampNeg (mJ σ 28)) 13 ((mI σ 13) + 1)) _ _ _ hG (lv_sub hl [] rfl) hw
set_option maxHeartbeats 4000000 in
set_option maxRecDepth 100000 in
theorem kB_X9_readWord_134 {p : Program} {l : Launch} {e : Env} {s : State} {m : MethodId} {args : Array Value} {below : List Frame} {meth : Method} {c : Code} {A : Nat → Prop} {E : EnvT} {aK aV : Nat → Nat} {D : va_G} {cA : Nat → ClassId} {h : Nat} {ad : Nat → Nat} (C : mCx p s m args meth c cX9_readWord 6 (some .boolean) wgX9_readWord RX9 E D cA A) (vM : eMs aK aV E) {post : Int32 → MS → Prop}
    {k69 : Int32 → Int32 → Int32 → MS → Prop} (hk69 : ∀ (x1 : Int32) (x4 : Int32) (x5 : Int32) (σ : MS) (H : Heap) (locs : List Loc) (ls : Array Slot), mG D cA h ad A s σ H locs → lv_has ls 6 [(0, .ref h), (1, .int x1), (4, .int x4), (5, .int x5)] → k69 x1 x4 x5 σ → W p l e rm_X9_readWord s m args below meth c H locs 0 0 (MQ below (va_Qi post (mAt D cA h ad A) A) args s 0 0 A) (F0 m 69 ls [])) :
    ∀ (x1 : Int32) (x5 : Int32) (t0 : Int32) (σ : MS) (H : Heap) (locs : List Loc) (ls : Array Slot), mG D cA h ad A s σ H locs → lv_has ls 6 [(0, .ref h), (1, .int x1), (5, .int x5)] → wB_X9_readWord_134 post k69 x1 x5 t0 σ → W p l e rm_X9_readWord s m args below meth c H locs 0 0 (MQ below (va_Qi post (mAt D cA h ad A) A) args s 0 0 A) (F0 m 134 ls [.int t0]) := by
  obtain ⟨hx, hb, hml, hr, hown, hts, hK, hA, hlk, hE, vE⟩ := id C
  intro x1 x5 t0 σ H locs ls hG hl hw
  obtain ⟨hP, hD, hS⟩ := id hG
  refine lv_istore (lv' := [(4, .int t0), (0, .ref h), (1, .int x1), (5, .int x5)]) hx hb dX9_readWord_134 hl (by decide) rfl (fun ls hl => ?_)
  refine lv_aload_n hx hb dX9_readWord_136 rfl (lv_at hl 1 rfl) ?_
  refine lv_iconst (v := 0) hx hb dX9_readWord_137 (by decide) ?_
  refine va_put (D := D) (ci := 11) (v := .int 0) (ty := .boolean) (C := RX9) (T := TX9) (N := 32) hx hb hts (in_tb inX9) tyX9 tyX9_ok nmX9 hown hK hP hD hS 0 rfl rfl 27 (by decide) (hts _ (List.mem_cons_of_mem _ tw_5_137)) (fun _ h9 => h9) rfl (by decide +kernel) rfl rfl (Nat.le_of_ble_eq_true rfl) dX9_readWord_138 (fun H locs hP hD hS => ?_)
  have hG : mG D cA h ad A s (wI σ 27 0) H locs := ⟨hP, hD, hS⟩
  obtain ⟨hP, hD, hS⟩ := id hG
  obtain ⟨x5_12, ex5_12⟩ : ∃ y : Int32, y = x5 + 1 := ⟨_, rfl⟩
  have hw := hw x5_12 ex5_12
  refine lv_iinc (v := x5_12) (lv' := [(5, .int x5_12), (4, .int t0), (0, .ref h), (1, .int x1)]) hx hb dX9_readWord_141 hl (k := 3) rfl (by rw [ex5_12]; rfl) (by decide) rfl (fun ls hl => ?_)
  refine lv_goto (tgt := 69) hx hb dX9_readWord_144 (by decide) ?_
  exact hk69 x1 t0 x5_12 (wI σ 27 0) _ _ _ hG (lv_sub hl [2, 3, 1, 0] rfl) hw
set_option maxHeartbeats 4000000 in
set_option maxRecDepth 100000 in
theorem kB_X9_readWord_129 {p : Program} {l : Launch} {e : Env} {s : State} {m : MethodId} {args : Array Value} {below : List Frame} {meth : Method} {c : Code} {A : Nat → Prop} {E : EnvT} {aK aV : Nat → Nat} {D : va_G} {cA : Nat → ClassId} {h : Nat} {ad : Nat → Nat} (C : mCx p s m args meth c cX9_readWord 6 (some .boolean) wgX9_readWord RX9 E D cA A) (vM : eMs aK aV E) {post : Int32 → MS → Prop}
    {k69 : Int32 → Int32 → Int32 → MS → Prop} (hk69 : ∀ (x1 : Int32) (x4 : Int32) (x5 : Int32) (σ : MS) (H : Heap) (locs : List Loc) (ls : Array Slot), mG D cA h ad A s σ H locs → lv_has ls 6 [(0, .ref h), (1, .int x1), (4, .int x4), (5, .int x5)] → k69 x1 x4 x5 σ → W p l e rm_X9_readWord s m args below meth c H locs 0 0 (MQ below (va_Qi post (mAt D cA h ad A) A) args s 0 0 A) (F0 m 69 ls [])) :
    ∀ (x1 : Int32) (x5 : Int32) (σ : MS) (H : Heap) (locs : List Loc) (ls : Array Slot), mG D cA h ad A s σ H locs → lv_has ls 6 [(0, .ref h), (1, .int x1), (5, .int x5)] → wB_X9_readWord_129 post k69 x1 x5 σ → W p l e rm_X9_readWord s m args below meth c H locs 0 0 (MQ below (va_Qi post (mAt D cA h ad A) A) args s 0 0 A) (F0 m 129 ls []) := by
  obtain ⟨hx, hb, hml, hr, hown, hts, hK, hA, hlk, hE, vE⟩ := id C
  intro x1 x5 σ H locs ls hG hl hw
  obtain ⟨hP, hD, hS⟩ := id hG
  refine lv_iconst (v := 1) hx hb dX9_readWord_129 (by decide) ?_
  refine lv_goto (tgt := 134) hx hb dX9_readWord_130 (by decide) ?_
  exact kB_X9_readWord_134 C vM hk69 x1 x5 1 σ _ _ _ hG (lv_sub hl [0, 1, 2] rfl) hw
set_option maxHeartbeats 4000000 in
set_option maxRecDepth 100000 in
theorem kB_X9_readWord_102 {p : Program} {l : Launch} {e : Env} {s : State} {m : MethodId} {args : Array Value} {below : List Frame} {meth : Method} {c : Code} {A : Nat → Prop} {E : EnvT} {aK aV : Nat → Nat} {D : va_G} {cA : Nat → ClassId} {h : Nat} {ad : Nat → Nat} (C : mCx p s m args meth c cX9_readWord 6 (some .boolean) wgX9_readWord RX9 E D cA A) (vM : eMs aK aV E) {post : Int32 → MS → Prop}
    {k69 : Int32 → Int32 → Int32 → MS → Prop} (hk69 : ∀ (x1 : Int32) (x4 : Int32) (x5 : Int32) (σ : MS) (H : Heap) (locs : List Loc) (ls : Array Slot), mG D cA h ad A s σ H locs → lv_has ls 6 [(0, .ref h), (1, .int x1), (4, .int x4), (5, .int x5)] → k69 x1 x4 x5 σ → W p l e rm_X9_readWord s m args below meth c H locs 0 0 (MQ below (va_Qi post (mAt D cA h ad A) A) args s 0 0 A) (F0 m 69 ls [])) :
    ∀ (x1 : Int32) (x4 : Int32) (x5 : Int32) (σ : MS) (H : Heap) (locs : List Loc) (ls : Array Slot), mG D cA h ad A s σ H locs → lv_has ls 6 [(0, .ref h), (1, .int x1), (4, .int x4), (5, .int x5)] → wB_X9_readWord_102 post k69 x1 x4 x5 σ → W p l e rm_X9_readWord s m args below meth c H locs 0 0 (MQ below (va_Qi post (mAt D cA h ad A) A) args s 0 0 A) (F0 m 102 ls []) := by
  obtain ⟨hx, hb, hml, hr, hown, hts, hK, hA, hlk, hE, vE⟩ := id C
  intro x1 x4 x5 σ H locs ls hG hl hw
  obtain ⟨hP, hD, hS⟩ := id hG
  refine lv_aload_n hx hb dX9_readWord_102 rfl (lv_at hl 0 rfl) ?_
  refine lv_iload_n hx hb dX9_readWord_103 rfl (lv_at hl 1 rfl) ?_
  refine lv_iload hx hb dX9_readWord_104 (lv_at hl 3 rfl) ?_
  refine mS_i (As := [.int x1, .int x5]) (rest := [.ref h]) C (met_X9_part vE vM hw) (va_cwS 2 hts (TB_G (TB_3 tw_6_77 tw_6_78 tw_1_13) tw_6_79) rfl rfl rfl (by decide +kernel) ⟨by decide, by decide⟩) hP hD hS rfl hl.1 rfl (Nat.le_of_ble_eq_true rfl) dX9_readWord_106 ⟨by decide, by decide⟩ (fun r_8 H locs hw hP hS => ?_)
  have hG : mG D cA h ad A s σ H locs := ⟨hP, hD, hS⟩
  refine mV_i (As := [.int r_8]) (rest := []) C (met_X9_readPart vE vM hw) (va_recv hK hP (ci := 11) (q0 := 0) rfl rfl) (cwV 1 hts (TB_G (TB_4 tw_6_84 tw_6_86 ts_42 tw_1_13) tw_6_87) rfl rfl rfl (by decide +kernel) ⟨by decide, by decide⟩) hP hD hS rfl hl.1 rfl (Nat.le_of_ble_eq_true rfl) dX9_readWord_109 ⟨by decide, by decide⟩ (fun r_10 σ_11 H locs hw hP hD hS => ?_)
  have hG : mG D cA h ad A s σ_11 H locs := ⟨hP, hD, hS⟩
  refine lv_if_ne (tgt := 117) hx hb dX9_readWord_112 (by decide) (fun q_ => ?_) (fun q_ => ?_)
  · have hw := hw.2 q_
    refine lv_iload hx hb dX9_readWord_117 (lv_at hl 2 rfl) ?_
    refine lv_if_ne (tgt := 129) hx hb dX9_readWord_119 (by decide) (fun q_ => ?_) (fun q_ => ?_)
    · have hw := hw.2 q_
      exact kB_X9_readWord_129 C vM hk69 x1 x5 σ_11 _ _ _ hG (lv_sub hl [0, 1, 3] rfl) hw
    · have hw := hw.1 q_
      refine lv_aload_n hx hb dX9_readWord_122 rfl (lv_at hl 0 rfl) ?_
      refine va_get (D := D) (ci := 11) (v := .int (mI σ_11 27)) (C := RX9) (T := TX9) (N := 32) hx hb hts (in_tb inX9) hown hK hP 0 rfl rfl 27 (by decide) (hts _ (List.mem_cons_of_mem _ tw_5_137)) (fun _ h9 => h9) rfl dX9_readWord_123 ?_
      refine lv_if_eq (tgt := 133) hx hb dX9_readWord_126 (by decide) (fun q_ => ?_) (fun q_ => ?_)
      · have hw := hw.1 q_
        refine lv_iconst (v := 0) hx hb dX9_readWord_133 (by decide) ?_
        exact kB_X9_readWord_134 C vM hk69 x1 x5 0 σ_11 _ _ _ hG (lv_sub hl [0, 1, 3] rfl) hw
      · have hw := hw.2 q_
        exact kB_X9_readWord_129 C vM hk69 x1 x5 σ_11 _ _ _ hG (lv_sub hl [0, 1, 3] rfl) hw
  · have hw := hw.1 q_
    refine lv_iconst (v := 0) hx hb dX9_readWord_115 (by decide) ?_
    exact W.zret (v := 0) (ty := .boolean) hx hb hr rfl (fun t ht hW => ⟨⟨_, σ_11, rfl, hw, by rw [ht]; exact hP, va_K.moved hW.alike hK, hD⟩, hS.F ht⟩) hS.2.2 dX9_readWord_116 hlk
set_option maxHeartbeats 4000000 in
set_option maxRecDepth 100000 in
theorem kB_X9_readWord_69 {p : Program} {l : Launch} {e : Env} {s : State} {m : MethodId} {args : Array Value} {below : List Frame} {meth : Method} {c : Code} {A : Nat → Prop} {E : EnvT} {aK aV : Nat → Nat} {D : va_G} {cA : Nat → ClassId} {h : Nat} {ad : Nat → Nat} (C : mCx p s m args meth c cX9_readWord 6 (some .boolean) wgX9_readWord RX9 E D cA A) (vM : eMs aK aV E) {post : Int32 → MS → Prop}
    {k69 : Int32 → Int32 → Int32 → MS → Prop} (hk69 : ∀ (x1 : Int32) (x4 : Int32) (x5 : Int32) (σ : MS) (H : Heap) (locs : List Loc) (ls : Array Slot), mG D cA h ad A s σ H locs → lv_has ls 6 [(0, .ref h), (1, .int x1), (4, .int x4), (5, .int x5)] → k69 x1 x4 x5 σ → W p l e rm_X9_readWord s m args below meth c H locs 0 0 (MQ below (va_Qi post (mAt D cA h ad A) A) args s 0 0 A) (F0 m 69 ls [])) :
    ∀ (x1 : Int32) (x4 : Int32) (x5 : Int32) (σ : MS) (H : Heap) (locs : List Loc) (ls : Array Slot), mG D cA h ad A s σ H locs → lv_has ls 6 [(0, .ref h), (1, .int x1), (4, .int x4), (5, .int x5)] → wB_X9_readWord_69 post k69 x1 x4 x5 σ → W p l e rm_X9_readWord s m args below meth c H locs 0 0 (MQ below (va_Qi post (mAt D cA h ad A) A) args s 0 0 A) (F0 m 69 ls []) := by
  obtain ⟨hx, hb, hml, hr, hown, hts, hK, hA, hlk, hE, vE⟩ := id C
  intro x1 x4 x5 σ H locs ls hG hl hw
  obtain ⟨hP, hD, hS⟩ := id hG
  refine lv_iload hx hb dX9_readWord_69 (lv_at hl 3 rfl) ?_
  refine lv_iconst (v := 4) hx hb dX9_readWord_71 (by decide) ?_
  refine lv_icmp_ge (tgt := 147) hx hb dX9_readWord_72 (by decide) (fun q_ => ?_) (fun q_ => ?_)
  · have hw := hw.1 q_
    exact kB_X9_readWord_147 C vM x4 σ _ _ _ hG (lv_sub hl [0, 2] rfl) hw
  · have hw := hw.2 q_
    refine lv_iload_n hx hb dX9_readWord_75 rfl (lv_at hl 1 rfl) ?_
    refine lv_iload hx hb dX9_readWord_76 (lv_at hl 3 rfl) ?_
    refine mS_i (As := [.int x1, .int x5]) (rest := []) C (met_X9_part vE vM hw) (va_cwS 2 hts (TB_G (TB_3 tw_6_77 tw_6_78 tw_1_13) tw_6_79) rfl rfl rfl (by decide +kernel) ⟨by decide, by decide⟩) hP hD hS rfl hl.1 rfl (Nat.le_of_ble_eq_true rfl) dX9_readWord_78 ⟨by decide, by decide⟩ (fun r_6 H locs hw hP hS => ?_)
    have hG : mG D cA h ad A s σ H locs := ⟨hP, hD, hS⟩
    refine lv_bipush (v := 46) hx hb dX9_readWord_81 (by decide) ?_
    refine lv_icmp_eq (tgt := 147) hx hb dX9_readWord_83 (by decide) (fun q_ => ?_) (fun q_ => ?_)
    · have hw := hw.1 q_
      exact kB_X9_readWord_147 C vM x4 σ _ _ _ hG (lv_sub hl [0, 2] rfl) hw
    · have hw := hw.2 q_
      refine lv_iload hx hb dX9_readWord_86 (lv_at hl 3 rfl) ?_
      refine lv_if_le (tgt := 102) hx hb dX9_readWord_88 (by decide) (fun q_ => ?_) (fun q_ => ?_)
      · have hw := hw.1 q_
        exact kB_X9_readWord_102 C vM hk69 x1 x4 x5 σ _ _ _ hG (lv_sub hl [0, 1, 2, 3] rfl) hw
      · have hw := hw.2 q_
        refine lv_aload_n hx hb dX9_readWord_91 rfl (lv_at hl 0 rfl) ?_
        refine lv_bipush (v := 44) hx hb dX9_readWord_92 (by decide) ?_
        refine mV_i (As := [.int 44]) (rest := []) C (met_X9_want vE vM hw) (va_recv hK hP (ci := 11) (q0 := 0) rfl rfl) (cwV 1 hts (TB_G (TB_4 tw_6_43 tw_6_45 ts_39 tw_1_13) tw_6_46) rfl rfl rfl (by decide +kernel) ⟨by decide, by decide⟩) hP hD hS rfl hl.1 rfl (Nat.le_of_ble_eq_true rfl) dX9_readWord_94 ⟨by decide, by decide⟩ (fun r_13 σ_14 H locs hw hP hD hS => ?_)
        have hG : mG D cA h ad A s σ_14 H locs := ⟨hP, hD, hS⟩
        refine lv_if_ne (tgt := 102) hx hb dX9_readWord_97 (by decide) (fun q_ => ?_) (fun q_ => ?_)
        · have hw := hw.2 q_
          exact kB_X9_readWord_102 C vM hk69 x1 x4 x5 σ_14 _ _ _ hG (lv_sub hl [0, 1, 2, 3] rfl) hw
        · have hw := hw.1 q_
          refine lv_iconst (v := 0) hx hb dX9_readWord_100 (by decide) ?_
          exact W.zret (v := 0) (ty := .boolean) hx hb hr rfl (fun t ht hW => ⟨⟨_, σ_14, rfl, hw, by rw [ht]; exact hP, va_K.moved hW.alike hK, hD⟩, hS.F ht⟩) hS.2.2 dX9_readWord_101 hlk
theorem kL_X9_readWord_69 {p : Program} {l : Launch} {e : Env} {s : State} {m : MethodId} {args : Array Value} {below : List Frame} {meth : Method} {c : Code} {A : Nat → Prop} {E : EnvT} {aK aV : Nat → Nat} {D : va_G} {cA : Nat → ClassId} {h : Nat} {ad : Nat → Nat} (C : mCx p s m args meth c cX9_readWord 6 (some .boolean) wgX9_readWord RX9 E D cA A) (vM : eMs aK aV E) {post : Int32 → MS → Prop} :
    ∀ (n : Nat) (x1 : Int32) (x4 : Int32) (x5 : Int32) (σ : MS) (H : Heap) (locs : List Loc) (ls : Array Slot), mG D cA h ad A s σ H locs → lv_has ls 6 [(0, .ref h), (1, .int x1), (4, .int x4), (5, .int x5)] → wL_X9_readWord_69 post n x1 x4 x5 σ → W p l e rm_X9_readWord s m args below meth c H locs 0 0 (MQ below (va_Qi post (mAt D cA h ad A) A) args s 0 0 A) (F0 m 69 ls []) := by
  intro n
  induction n with
  | zero => intro x1 x4 x5 σ H locs ls hG hl hw; exact hw.elim
  | succ n ih => exact kB_X9_readWord_69 C vM ih
set_option maxHeartbeats 4000000 in
set_option maxRecDepth 100000 in
theorem kB_X9_readWord_54 {p : Program} {l : Launch} {e : Env} {s : State} {m : MethodId} {args : Array Value} {below : List Frame} {meth : Method} {c : Code} {A : Nat → Prop} {E : EnvT} {aK aV : Nat → Nat} {D : va_G} {cA : Nat → ClassId} {h : Nat} {ad : Nat → Nat} (C : mCx p s m args meth c cX9_readWord 6 (some .boolean) wgX9_readWord RX9 E D cA A) (vM : eMs aK aV E) {post : Int32 → MS → Prop} :
    ∀ (x1 : Int32) (t0 : Int64) (t1 : Int64) (σ : MS) (H : Heap) (locs : List Loc) (ls : Array Slot), mG D cA h ad A s σ H locs → lv_has ls 6 [(0, .ref h), (1, .int x1)] → wB_X9_readWord_54 post x1 t0 t1 σ → W p l e rm_X9_readWord s m args below meth c H locs 0 0 (MQ below (va_Qi post (mAt D cA h ad A) A) args s 0 0 A) (F0 m 54 ls [.long t0, .long t1, .ref h]) := by
  obtain ⟨hx, hb, hml, hr, hown, hts, hK, hA, hlk, hE, vE⟩ := id C
  intro x1 t0 t1 σ H locs ls hG hl hw
  obtain ⟨hP, hD, hS⟩ := id hG
  refine lv_lor hx hb dX9_readWord_54 ?_
  refine va_put (D := D) (ci := 11) (v := .long (t1 ||| t0)) (ty := .long) (C := RX9) (T := TX9) (N := 32) hx hb hts (in_tb inX9) tyX9 tyX9_ok nmX9 hown hK hP hD hS 0 rfl rfl 28 (by decide) (hts _ (List.mem_cons_of_mem _ tw_5_138)) (fun _ h9 => h9) rfl (by decide +kernel) rfl rfl (Nat.le_of_ble_eq_true rfl) dX9_readWord_55 (fun H locs hP hD hS => ?_)
  have hG : mG D cA h ad A s (wJ σ 28 (t1 ||| t0)) H locs := ⟨hP, hD, hS⟩
  obtain ⟨hP, hD, hS⟩ := id hG
  refine lv_aload_n hx hb dX9_readWord_58 rfl (lv_at hl 0 rfl) ?_
  refine lv_iconst (v := 0) hx hb dX9_readWord_59 (by decide) ?_
  refine va_put (D := D) (ci := 11) (v := .int 0) (ty := .boolean) (C := RX9) (T := TX9) (N := 32) hx hb hts (in_tb inX9) tyX9 tyX9_ok nmX9 hown hK hP hD hS 0 rfl rfl 27 (by decide) (hts _ (List.mem_cons_of_mem _ tw_5_137)) (fun _ h9 => h9) rfl (by decide +kernel) rfl rfl (Nat.le_of_ble_eq_true rfl) dX9_readWord_60 (fun H locs hP hD hS => ?_)
  have hG : mG D cA h ad A s (wI (wJ σ 28 (t1 ||| t0)) 27 0) H locs := ⟨hP, hD, hS⟩
  obtain ⟨hP, hD, hS⟩ := id hG
  refine lv_iconst (v := 0) hx hb dX9_readWord_63 (by decide) ?_
  refine lv_istore (lv' := [(4, .int 0), (0, .ref h), (1, .int x1)]) hx hb dX9_readWord_64 hl (by decide) rfl (fun ls hl => ?_)
  refine lv_iconst (v := 0) hx hb dX9_readWord_66 (by decide) ?_
  refine lv_istore (lv' := [(5, .int 0), (4, .int 0), (0, .ref h), (1, .int x1)]) hx hb dX9_readWord_67 hl (by decide) rfl (fun ls hl => ?_)
  obtain ⟨n_, hw⟩ := hw
  exact kL_X9_readWord_69 C vM n_ x1 0 0 (wI (wJ σ 28 (t1 ||| t0)) 27 0) _ _ _ hG (lv_sub hl [2, 3, 1, 0] rfl) hw
set_option maxHeartbeats 4000000 in
set_option maxRecDepth 100000 in
theorem k_X9_readWord {p : Program} {l : Launch} {e : Env} {s : State} {m : MethodId} {args : Array Value} {below : List Frame} {meth : Method} {c : Code} {A : Nat → Prop} {E : EnvT} {aK aV : Nat → Nat} {D : va_G} {cA : Nat → ClassId} {h : Nat} {ad : Nat → Nat} (C : mCx p s m args meth c cX9_readWord 6 (some .boolean) wgX9_readWord RX9 E D cA A) (vM : eMs aK aV E) {post : Int32 → MS → Prop} :
    ∀ (x1 : Int32) (x2 : Int64) (σ : MS) (H : Heap) (locs : List Loc) (ls : Array Slot), mG D cA h ad A s σ H locs → lv_has ls 6 [(0, .ref h), (1, .int x1), (2, .long x2)] → wp_X9_readWord post x1 x2 σ → W p l e rm_X9_readWord s m args below meth c H locs 0 0 (MQ below (va_Qi post (mAt D cA h ad A) A) args s 0 0 A) (F0 m 0 ls []) := by
  obtain ⟨hx, hb, hml, hr, hown, hts, hK, hA, hlk, hE, vE⟩ := id C
  intro x1 x2 σ H locs ls hG hl hw
  obtain ⟨hP, hD, hS⟩ := id hG
  refine lv_aload_n hx hb dX9_readWord_0 rfl (lv_at hl 0 rfl) ?_
  refine va_get (D := D) (ci := 11) (v := .int (mI σ 13)) (C := RX9) (T := TX9) (N := 32) hx hb hts (in_tb inX9) hown hK hP 0 rfl rfl 13 (by decide) (hts _ (List.mem_cons_of_mem _ tw_5_123)) (fun _ h9 => h9) rfl dX9_readWord_1 ?_
  refine lv_bipush (v := 64) hx hb dX9_readWord_4 (by decide) ?_
  refine lv_icmp_ne (tgt := 14) hx hb dX9_readWord_6 (by decide) (fun q_ => ?_) (fun q_ => ?_)
  · have hw := hw.2 q_
    refine lv_aload_n hx hb dX9_readWord_14 rfl (lv_at hl 0 rfl) ?_
    refine lv_dup hx hb dX9_readWord_15 rfl ?_
    refine va_get (D := D) (ci := 11) (v := .int (mI σ 9)) (C := RX9) (T := TX9) (N := 32) hx hb hts (in_tb inX9) hown hK hP 0 rfl rfl 9 (by decide) (hts _ (List.mem_cons_of_mem _ tw_5_119)) (fun _ h9 => h9) rfl dX9_readWord_16 ?_
    refine lv_iconst (v := 1) hx hb dX9_readWord_19 (by decide) ?_
    refine lv_iadd hx hb dX9_readWord_20 ?_
    refine va_put (D := D) (ci := 11) (v := .int ((mI σ 9) + 1)) (ty := .int) (C := RX9) (T := TX9) (N := 32) hx hb hts (in_tb inX9) tyX9 tyX9_ok nmX9 hown hK hP hD hS 0 rfl rfl 9 (by decide) (hts _ (List.mem_cons_of_mem _ tw_5_119)) (fun _ h9 => h9) rfl (by decide +kernel) rfl rfl (Nat.le_of_ble_eq_true rfl) dX9_readWord_21 (fun H locs hP hD hS => ?_)
    have hG : mG D cA h ad A s (wI σ 9 ((mI σ 9) + 1)) H locs := ⟨hP, hD, hS⟩
    obtain ⟨hP, hD, hS⟩ := id hG
    refine lv_aload_n hx hb dX9_readWord_24 rfl (lv_at hl 0 rfl) ?_
    refine lv_iload_n hx hb dX9_readWord_25 rfl (lv_at hl 1 rfl) ?_
    refine mS_i (As := [.int x1]) (rest := [.ref h]) C (met_X9_opOf vE vM hw) (va_cwS 1 hts (TB_G (TB_3 tw_6_66 tw_6_67 tw_1_13) tw_6_68) rfl rfl rfl (by decide +kernel) ⟨by decide, by decide⟩) hP hD hS rfl hl.1 rfl (Nat.le_of_ble_eq_true rfl) dX9_readWord_26 ⟨by decide, by decide⟩ (fun r_1 H locs hw hP hS => ?_)
    have hG : mG D cA h ad A s (wI σ 9 ((mI σ 9) + 1)) H locs := ⟨hP, hD, hS⟩
    refine lv_i2l hx hb dX9_readWord_29 rfl ?_
    refine lv_lload_n hx hb dX9_readWord_30 rfl (lv_at hl 2 rfl) ?_
    refine lv_bipush (v := 20) hx hb dX9_readWord_31 (by decide) ?_
    refine lv_lshl hx hb dX9_readWord_33 rfl ?_
    refine lv_lor hx hb dX9_readWord_34 ?_
    refine lv_iload_n hx hb dX9_readWord_35 rfl (lv_at hl 1 rfl) ?_
    refine mS_i (As := [.int x1]) (rest := [.long ((r_1.toInt64) ||| (x2 <<< ((20 : Int32).toInt64 &&& 63))), .ref h]) C (met_X9_isTold vE vM hw) (va_cwS 1 hts (TB_G (TB_3 tw_6_70 tw_6_71 tw_1_13) tw_6_72) rfl rfl rfl (by decide +kernel) ⟨by decide, by decide⟩) hP hD hS rfl hl.1 rfl (Nat.le_of_ble_eq_true rfl) dX9_readWord_36 ⟨by decide, by decide⟩ (fun r_3 H locs hw hP hS => ?_)
    have hG : mG D cA h ad A s (wI σ 9 ((mI σ 9) + 1)) H locs := ⟨hP, hD, hS⟩
    refine lv_if_eq (tgt := 53) hx hb dX9_readWord_39 (by decide) (fun q_ => ?_) (fun q_ => ?_)
    · have hw := hw.1 q_
      refine lv_lconst (v := 0) hx hb dX9_readWord_53 (by decide) ?_
      exact kB_X9_readWord_54 C vM x1 0 ((r_1.toInt64) ||| (x2 <<< ((20 : Int32).toInt64 &&& 63))) (wI σ 9 ((mI σ 9) + 1)) _ _ _ hG (lv_sub hl [0, 1] rfl) hw
    · have hw := hw.2 q_
      refine lv_iload_n hx hb dX9_readWord_42 rfl (lv_at hl 1 rfl) ?_
      refine lv_bipush (v := 22) hx hb dX9_readWord_43 (by decide) ?_
      refine lv_isub hx hb dX9_readWord_45 ?_
      refine lv_i2l hx hb dX9_readWord_46 rfl ?_
      refine mS_l (As := [.long ((x1 - 22).toInt64)]) (rest := [.long ((r_1.toInt64) ||| (x2 <<< ((20 : Int32).toInt64 &&& 63))), .ref h]) C (met_X9_number vE vM hw) (va_cwS 1 hts (TB_G (TB_3 tw_6_73 tw_6_74 tw_1_13) tw_6_75) rfl rfl rfl (by decide +kernel) ⟨by decide, by decide⟩) hP hD hS rfl hl.1 rfl (Nat.le_of_ble_eq_true rfl) dX9_readWord_47 ⟨by decide, by decide⟩ (fun r_15 H locs hw hP hS => ?_)
      have hG : mG D cA h ad A s (wI σ 9 ((mI σ 9) + 1)) H locs := ⟨hP, hD, hS⟩
      refine lv_goto (tgt := 54) hx hb dX9_readWord_50 (by decide) ?_
      exact kB_X9_readWord_54 C vM x1 r_15 ((r_1.toInt64) ||| (x2 <<< ((20 : Int32).toInt64 &&& 63))) (wI σ 9 ((mI σ 9) + 1)) _ _ _ hG (lv_sub hl [0, 1] rfl) hw
  · have hw := hw.1 q_
    refine lv_aload_n hx hb dX9_readWord_9 rfl (lv_at hl 0 rfl) ?_
    refine mV_i (As := []) (rest := []) C (met_X9_refuse vE vM hw) (va_recv hK hP (ci := 11) (q0 := 0) rfl rfl) (cwV 0 hts (TB_G (TB_4 tw_6_31 tw_6_33 ts_36 tw_1_13) tw_6_34) rfl rfl rfl (by decide +kernel) ⟨by decide, by decide⟩) hP hD hS rfl hl.1 rfl (Nat.le_of_ble_eq_true rfl) dX9_readWord_10 ⟨by decide, by decide⟩ (fun r_17 σ_18 H locs hw hP hD hS => ?_)
    have hG : mG D cA h ad A s σ_18 H locs := ⟨hP, hD, hS⟩
    obtain ⟨h_19, hw⟩ := hw
    exact W.zret (v := r_17) (ty := .boolean) hx hb hr (isB.n h_19) (fun t ht hW => ⟨⟨_, σ_18, rfl, hw, by rw [ht]; exact hP, va_K.moved hW.alike hK, hD⟩, hS.F ht⟩) hS.2.2 dX9_readWord_13 hlk
set_option maxHeartbeats 4000000 in
set_option maxRecDepth 100000 in
theorem met_X9_readWord {l : Launch} {E : EnvT} (vE : EnvOk E) {D : va_G} {cA : Nat → ClassId} {h : Nat} {ad : Nat → Nat} {σ : MS} {aK aV : Nat → Nat} (vM : eMs aK aV E) {sz : Nat} {x1 : Int32} {x2 : Int64} {post : Int32 → MS → Prop} (hw : wp_X9_readWord post x1 x2 σ) : Met l yX9_readWord wgX9_readWord rm_X9_readWord (va_Pc [.ref h, .int x1, .long x2] (mPre E D cA h ad sz σ)) (va_Qi post (mAt D cA h ad (va_A (mW cA h ad σ) sz)) (va_A (mW cA h ad σ) sz)) 0 0 (va_A (mW cA h ad σ) sz) := by
  refine Met.ofW (cc := cX9_readWord) (maxL := 6) (ret := (some .boolean)) (by decide +kernel) rfl ?_
  intro p e s m args below meth c s₁ B hml hv
  obtain ⟨rfl, hsz, hP, hK, hD0, hE⟩ := hv
  subst hsz
  have hD := hD0.self (sz := s.heap.size)
  generalize hAe : va_A (mW cA h ad σ) s.heap.size = A at hD hE ⊢
  have hA : ∀ q : Nat, s.heap.size ≤ q → A q := fun q h => by rw [← hAe]; exact Or.inr h
  have hS : va_S A s.heap s.heap [] := va_S.rf
  have C : mCx p s m _ meth c cX9_readWord 6 (some .boolean) wgX9_readWord RX9 E D cA A := ⟨B.exec, B.bytes, hml, B.returns, findClass_of_methodNamed B.named, atoms_spec (ws := wgX9_readWord) B.pre, hK, hA, B.notSynchronized, hE, vE⟩
  have hG : mG D cA h ad A s σ s.heap [] := ⟨hP, hD, hS⟩
  have hl := lv_entry ([.ref h, .int x1, .long x2]) (n := 6) (Nat.le_of_ble_eq_true rfl)
  rw [lg_entry_eq]
  generalize (lg_sl ([.ref h, .int x1, .long x2]) ++ List.replicate (6 - (lg_sl ([.ref h, .int x1, .long x2])).length) Slot.unset).toArray = ls at hl ⊢
  have hl : lv_has ls 6 [(0, .ref h), (1, .int x1), (2, .long x2)] := hl
  exact k_X9_readWord C vM x1 x2 σ _ _ _ hG hl hw
