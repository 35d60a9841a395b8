/-! ===== reads ===== -/
def rm_X9_reads : Room := { frames := 7, cells := 0, slots := 0, locals := 156 }
abbrev wgX9_reads : List Cond := .code yX9_reads cX9_reads 8 (some .boolean) :: TB
def wB_X9_reads_192 (post : Int32 → MS → Prop) (t0 : Int32) (σ : MS) : Prop :=
  isB t0 ∧ (post t0 σ)
def wB_X9_reads_191 (post : Int32 → MS → Prop) (σ : MS) : Prop :=
  wB_X9_reads_192 post 0 σ
def wB_X9_reads_105 (post : Int32 → MS → Prop) (σ : MS) : Prop :=
  post 1 σ
def wB_X9_reads_163 (post : Int32 → MS → Prop) (k53 : Int32 → Int64 → Int32 → Int32 → MS → Prop) (x2 : Int32) (x3 : Int64) (x5 : Int32) (x6 : Int32) (σ : MS) : Prop :=
  ∀ x6_14 : Int32, x6_14 = x6 + 1 → k53 x2 x3 x5 x6_14 σ
def wB_X9_reads_161 (post : Int32 → MS → Prop) (σ : MS) : Prop :=
  post 1 σ
def wB_X9_reads_143 (post : Int32 → MS → Prop) (k53 : Int32 → Int64 → Int32 → Int32 → MS → Prop) (x2 : Int32) (x3 : Int64) (x5 : Int32) (x6 : Int32) (x7 : Int32) (σ : MS) : Prop :=
  (x7 = 80 → (wp_X9_n (fun r_15  => ((r_15 + 16) = x2 → (wB_X9_reads_161 post σ)) ∧ (¬ (r_15 + 16) = x2 → (wB_X9_reads_163 post k53 x2 x3 x5 x6 σ))) x3)) ∧ (¬ x7 = 80 → (wB_X9_reads_163 post k53 x2 x3 x5 x6 σ))
def wB_X9_reads_125 (post : Int32 → MS → Prop) (k53 : Int32 → Int64 → Int32 → Int32 → MS → Prop) (x2 : Int32) (x3 : Int64) (x5 : Int32) (x6 : Int32) (x7 : Int32) (σ : MS) : Prop :=
  (x7 = 98 → (wp_X9_b (fun r_17  => ((r_17 + 16) = x2 → (wB_X9_reads_161 post σ)) ∧ (¬ (r_17 + 16) = x2 → (wB_X9_reads_143 post k53 x2 x3 x5 x6 x7 σ))) x3)) ∧ (¬ x7 = 98 → (wB_X9_reads_143 post k53 x2 x3 x5 x6 x7 σ))
def wB_X9_reads_107 (post : Int32 → MS → Prop) (k53 : Int32 → Int64 → Int32 → Int32 → MS → Prop) (x2 : Int32) (x3 : Int64) (x5 : Int32) (x6 : Int32) (x7 : Int32) (σ : MS) : Prop :=
  (x7 = 97 → (wp_X9_a (fun r_19  => ((r_19 + 16) = x2 → (wB_X9_reads_161 post σ)) ∧ (¬ (r_19 + 16) = x2 → (wB_X9_reads_125 post k53 x2 x3 x5 x6 x7 σ))) x3)) ∧ (¬ x7 = 97 → (wB_X9_reads_125 post k53 x2 x3 x5 x6 x7 σ))
def wB_X9_reads_90 (post : Int32 → MS → Prop) (k53 : Int32 → Int64 → Int32 → Int32 → MS → Prop) (x2 : Int32) (x3 : Int64) (x5 : Int32) (x6 : Int32) (x7 : Int32) (σ : MS) : Prop :=
  (x7 = 66 → (wp_X9_b (fun r_21  => (r_21 = x2 → (wB_X9_reads_105 post σ)) ∧ (¬ r_21 = x2 → (wB_X9_reads_107 post k53 x2 x3 x5 x6 x7 σ))) x3)) ∧ (¬ x7 = 66 → (wB_X9_reads_107 post k53 x2 x3 x5 x6 x7 σ))
def wB_X9_reads_82 (post : Int32 → MS → Prop) (k53 : Int32 → Int64 → Int32 → Int32 → MS → Prop) (x2 : Int32) (x3 : Int64) (x5 : Int32) (x6 : Int32) (x7 : Int32) (σ : MS) : Prop :=
  wp_X9_a (fun r_12  => (r_12 = x2 → (wB_X9_reads_105 post σ)) ∧ (¬ r_12 = x2 → (wB_X9_reads_90 post k53 x2 x3 x5 x6 x7 σ))) x3
def wB_X9_reads_53 (post : Int32 → MS → Prop) (k53 : Int32 → Int64 → Int32 → Int32 → MS → Prop) (x2 : Int32) (x3 : Int64) (x5 : Int32) (x6 : Int32) (σ : MS) : Prop :=
  (4 ≤ x6 → (wp_X9_opOf (fun r_5  => (r_5 = 57 → (wp_X9_d (fun r_8  => (r_8 = x2 → (wB_X9_reads_192 post 1 σ)) ∧ (¬ r_8 = x2 → (wB_X9_reads_191 post σ))) x3)) ∧ (¬ r_5 = 57 → (wB_X9_reads_191 post σ))) x5)) ∧ (¬ 4 ≤ x6 → (wp_X9_part (fun r_10  => (r_10 = 65 → (wB_X9_reads_82 post k53 x2 x3 x5 x6 r_10 σ)) ∧ (¬ r_10 = 65 → ((r_10 = 77 → (wB_X9_reads_82 post k53 x2 x3 x5 x6 r_10 σ)) ∧ (¬ r_10 = 77 → (wB_X9_reads_90 post k53 x2 x3 x5 x6 r_10 σ))))) x5 x6))
def wL_X9_reads_53 (post : Int32 → MS → Prop) : Nat → Int32 → Int64 → Int32 → Int32 → MS → Prop
  | 0 => fun _ _ _ _ _ => False
  | n + 1 => wB_X9_reads_53 post (wL_X9_reads_53 post n)
def wB_X9_reads_50 (post : Int32 → MS → Prop) (x2 : Int32) (x3 : Int64) (x5 : Int32) (σ : MS) : Prop :=
  ∃ n, wL_X9_reads_53 post n x2 x3 x5 0 σ
def wp_X9_reads (post : Int32 → MS → Prop) (x1 : Int32) (x2 : Int32) (σ : MS) : Prop :=
  vp_in x1 64 ∧ (∀ x3_2 : Int64, x3_2 = mL σ 10 x1.toNatClampNeg → wp_X9_listed (fun r_3  => (r_3 = (-1) → (post 0 σ)) ∧ (¬ r_3 = (-1) → ((x2 ≤ 15 → (wB_X9_reads_50 post x2 x3_2 r_3 σ)) ∧ (¬ x2 ≤ 15 → (wp_X9_isGuarded (fun r_23 σ_24 => (r_23 = 0 → (wB_X9_reads_50 post x2 x3_2 r_3 σ_24)) ∧ (¬ r_23 = 0 → (wp_X9_g (fun r_25  => ((r_25 &&& 3) = (x2 - 16) → (post 1 σ_24)) ∧ (¬ (r_25 &&& 3) = (x2 - 16) → (wB_X9_reads_50 post x2 x3_2 r_3 σ_24))) x3_2))) x1 σ))))) x3_2)
set_option maxHeartbeats 4000000 in
set_option maxRecDepth 100000 in
theorem kB_X9_reads_192 {p : Program} {l : Launch} {e : Env} {s : State} {m : MethodId} {args : Array Value} {below : List Frame} {meth : Method} {c : Code} {A : Nat → Prop} {E : EnvT} {aK aV : Nat → Nat} {D : va_G} {cA : Nat → ClassId} {h : Nat} {ad : Nat → Nat} (C : mCx p s m args meth c cX9_reads 8 (some .boolean) wgX9_reads RX9 E D cA A) (vM : eMs aK aV E) {post : Int32 → MS → Prop} :
    ∀ (t0 : Int32) (σ : MS) (H : Heap) (locs : List Loc) (ls : Array Slot), mG D cA h ad A s σ H locs → lv_has ls 8 [] → wB_X9_reads_192 post t0 σ → W p l e rm_X9_reads s m args below meth c H locs 0 0 (MQ below (va_Qi post (mAt D cA h ad A) A) args s 0 0 A) (F0 m 192 ls [.int t0]) := by
  obtain ⟨hx, hb, hml, hr, hown, hts, hK, hA, hlk, hE, vE⟩ := id C
  intro t0 σ H locs ls hG hl hw
  obtain ⟨hP, hD, hS⟩ := id hG
  obtain ⟨h_7, hw⟩ := hw
  exact W.zret (v := t0) (ty := .boolean) hx hb hr (isB.n h_7) (fun t ht hW => ⟨⟨_, σ, rfl, hw, by rw [ht]; exact hP, va_K.moved hW.alike hK, hD⟩, hS.F ht⟩) hS.2.2 dX9_reads_192 hlk
set_option maxHeartbeats 4000000 in
set_option maxRecDepth 100000 in
theorem kB_X9_reads_191 {p : Program} {l : Launch} {e : Env} {s : State} {m : MethodId} {args : Array Value} {below : List Frame} {meth : Method} {c : Code} {A : Nat → Prop} {E : EnvT} {aK aV : Nat → Nat} {D : va_G} {cA : Nat → ClassId} {h : Nat} {ad : Nat → Nat} (C : mCx p s m args meth c cX9_reads 8 (some .boolean) wgX9_reads RX9 E D cA A) (vM : eMs aK aV E) {post : Int32 → MS → Prop} :
    ∀ (σ : MS) (H : Heap) (locs : List Loc) (ls : Array Slot), mG D cA h ad A s σ H locs → lv_has ls 8 [] → wB_X9_reads_191 post σ → W p l e rm_X9_reads s m args below meth c H locs 0 0 (MQ below (va_Qi post (mAt D cA h ad A) A) args s 0 0 A) (F0 m 191 ls []) := by
  obtain ⟨hx, hb, hml, hr, hown, hts, hK, hA, hlk, hE, vE⟩ := id C
  intro σ H locs ls hG hl hw
  obtain ⟨hP, hD, hS⟩ := id hG
  refine lv_iconst (v := 0) hx hb dX9_reads_191 (by decide) ?_
  exact kB_X9_reads_192 C vM 0 σ _ _ _ hG (lv_sub hl [] rfl) hw
set_option maxHeartbeats 4000000 in
set_option maxRecDepth 100000 in
theorem kB_X9_reads_105 {p : Program} {l : Launch} {e : Env} {s : State} {m : MethodId} {args : Array Value} {below : List Frame} {meth : Method} {c : Code} {A : Nat → Prop} {E : EnvT} {aK aV : Nat → Nat} {D : va_G} {cA : Nat → ClassId} {h : Nat} {ad : Nat → Nat} (C : mCx p s m args meth c cX9_reads 8 (some .boolean) wgX9_reads RX9 E D cA A) (vM : eMs aK aV E) {post : Int32 → MS → Prop} :
    ∀ (σ : MS) (H : Heap) (locs : List Loc) (ls : Array Slot), mG D cA h ad A s σ H locs → lv_has ls 8 [] → wB_X9_reads_105 post σ → W p l e rm_X9_reads s m args below meth c H locs 0 0 (MQ below (va_Qi post (mAt D cA h ad A) A) args s 0 0 A) (F0 m 105 ls []) := by
  obtain ⟨hx, hb, hml, hr, hown, hts, hK, hA, hlk, hE, vE⟩ := id C
  intro σ H locs ls hG hl hw
  obtain ⟨hP, hD, hS⟩ := id hG
  refine lv_iconst (v := 1) hx hb dX9_reads_105 (by decide) ?_
  exact W.zret (v := 1) (ty := .boolean) hx hb hr rfl (fun t ht hW => ⟨⟨_, σ, rfl, hw, by rw [ht]; exact hP, va_K.moved hW.alike hK, hD⟩, hS.F ht⟩) hS.2.2 dX9_reads_106 hlk
set_option maxHeartbeats 4000000 in
set_option maxRecDepth 100000 in
theorem kB_X9_reads_163 {p : Program} {l : Launch} {e : Env} {s : State} {m : MethodId} {args : Array Value} {below : List Frame} {meth : Method} {c : Code} {A : Nat → Prop} {E : EnvT} {aK aV : Nat → Nat} {D : va_G} {cA : Nat → ClassId} {h : Nat} {ad : Nat → Nat} (C : mCx p s m args meth c cX9_reads 8 (some .boolean) wgX9_reads RX9 E D cA A) (vM : eMs aK aV E) {post : Int32 → MS → Prop}
    {k53 : Int32 → Int64 → Int32 → Int32 → MS → Prop} (hk53 : ∀ (x2 : Int32) (x3 : Int64) (x5 : Int32) (x6 : Int32) (σ : MS) (H : Heap) (locs : List Loc) (ls : Array Slot), mG D cA h ad A s σ H locs → lv_has ls 8 [(2, .int x2), (3, .long x3), (5, .int x5), (6, .int x6)] → k53 x2 x3 x5 x6 σ → W p l e rm_X9_reads s m args below meth c H locs 0 0 (MQ below (va_Qi post (mAt D cA h ad A) A) args s 0 0 A) (F0 m 53 ls [])) :
    ∀ (x2 : Int32) (x3 : Int64) (x5 : Int32) (x6 : Int32) (σ : MS) (H : Heap) (locs : List Loc) (ls : Array Slot), mG D cA h ad A s σ H locs → lv_has ls 8 [(2, .int x2), (3, .long x3), (5, .int x5), (6, .int x6)] → wB_X9_reads_163 post k53 x2 x3 x5 x6 σ → W p l e rm_X9_reads s m args below meth c H locs 0 0 (MQ below (va_Qi post (mAt D cA h ad A) A) args s 0 0 A) (F0 m 163 ls []) := by
  obtain ⟨hx, hb, hml, hr, hown, hts, hK, hA, hlk, hE, vE⟩ := id C
  intro x2 x3 x5 x6 σ H locs ls hG hl hw
  obtain ⟨hP, hD, hS⟩ := id hG
  obtain ⟨x6_14, ex6_14⟩ : ∃ y : Int32, y = x6 + 1 := ⟨_, rfl⟩
  have hw := hw x6_14 ex6_14
  refine lv_iinc (v := x6_14) (lv' := [(6, .int x6_14), (2, .int x2), (3, .long x3), (5, .int x5)]) hx hb dX9_reads_163 hl (k := 3) rfl (by rw [ex6_14]; rfl) (by decide) rfl (fun ls hl => ?_)
  refine lv_goto (tgt := 53) hx hb dX9_reads_166 (by decide) ?_
  exact hk53 x2 x3 x5 x6_14 σ _ _ _ hG (lv_sub hl [1, 2, 3, 0] rfl) hw
set_option maxHeartbeats 4000000 in
set_option maxRecDepth 100000 in
theorem kB_X9_reads_161 {p : Program} {l : Launch} {e : Env} {s : State} {m : MethodId} {args : Array Value} {below : List Frame} {meth : Method} {c : Code} {A : Nat → Prop} {E : EnvT} {aK aV : Nat → Nat} {D : va_G} {cA : Nat → ClassId} {h : Nat} {ad : Nat → Nat} (C : mCx p s m args meth c cX9_reads 8 (some .boolean) wgX9_reads RX9 E D cA A) (vM : eMs aK aV E) {post : Int32 → MS → Prop} :
    ∀ (σ : MS) (H : Heap) (locs : List Loc) (ls : Array Slot), mG D cA h ad A s σ H locs → lv_has ls 8 [] → wB_X9_reads_161 post σ → W p l e rm_X9_reads s m args below meth c H locs 0 0 (MQ below (va_Qi post (mAt D cA h ad A) A) args s 0 0 A) (F0 m 161 ls []) := by
  obtain ⟨hx, hb, hml, hr, hown, hts, hK, hA, hlk, hE, vE⟩ := id C
  intro σ H locs ls hG hl hw
  obtain ⟨hP, hD, hS⟩ := id hG
  refine lv_iconst (v := 1) hx hb dX9_reads_161 (by decide) ?_
  exact W.zret (v := 1) (ty := .boolean) hx hb hr rfl (fun t ht hW => ⟨⟨_, σ, rfl, hw, by rw [ht]; exact hP, va_K.moved hW.alike hK, hD⟩, hS.F ht⟩) hS.2.2 dX9_reads_162 hlk
set_option maxHeartbeats 4000000 in
set_option maxRecDepth 100000 in
theorem kB_X9_reads_143 {p : Program} {l : Launch} {e : Env} {s : State} {m : MethodId} {args : Array Value} {below : List Frame} {meth : Method} {c : Code} {A : Nat → Prop} {E : EnvT} {aK aV : Nat → Nat} {D : va_G} {cA : Nat → ClassId} {h : Nat} {ad : Nat → Nat} (C : mCx p s m args meth c cX9_reads 8 (some .boolean) wgX9_reads RX9 E D cA A) (vM : eMs aK aV E) {post : Int32 → MS → Prop}
    {k53 : Int32 → Int64 → Int32 → Int32 → MS → Prop} (hk53 : ∀ (x2 : Int32) (x3 : Int64) (x5 : Int32) (x6 : Int32) (σ : MS) (H : Heap) (locs : List Loc) (ls : Array Slot), mG D cA h ad A s σ H locs → lv_has ls 8 [(2, .int x2), (3, .long x3), (5, .int x5), (6, .int x6)] → k53 x2 x3 x5 x6 σ → W p l e rm_X9_reads s m args below meth c H locs 0 0 (MQ below (va_Qi post (mAt D cA h ad A) A) args s 0 0 A) (F0 m 53 ls [])) :
    ∀ (x2 : Int32) (x3 : Int64) (x5 : Int32) (x6 : Int32) (x7 : Int32) (σ : MS) (H : Heap) (locs : List Loc) (ls : Array Slot), mG D cA h ad A s σ H locs → lv_has ls 8 [(2, .int x2), (3, .long x3), (5, .int x5), (6, .int x6), (7, .int x7)] → wB_X9_reads_143 post k53 x2 x3 x5 x6 x7 σ → W p l e rm_X9_reads s m args below meth c H locs 0 0 (MQ below (va_Qi post (mAt D cA h ad A) A) args s 0 0 A) (F0 m 143 ls []) := by
  obtain ⟨hx, hb, hml, hr, hown, hts, hK, hA, hlk, hE, vE⟩ := id C
  intro x2 x3 x5 x6 x7 σ H locs ls hG hl hw
  obtain ⟨hP, hD, hS⟩ := id hG
  refine lv_iload hx hb dX9_reads_143 (lv_at hl 4 rfl) ?_
  refine lv_bipush (v := 80) hx hb dX9_reads_145 (by decide) ?_
  refine lv_icmp_ne (tgt := 163) hx hb dX9_reads_147 (by decide) (fun q_ => ?_) (fun q_ => ?_)
  · have hw := hw.2 q_
    exact kB_X9_reads_163 C vM hk53 x2 x3 x5 x6 σ _ _ _ hG (lv_sub hl [0, 1, 2, 3] rfl) hw
  · have hw := hw.1 q_
    refine lv_lload_n hx hb dX9_reads_150 rfl (lv_at hl 1 rfl) ?_
    refine mS_i (As := [.long x3]) (rest := []) C (met_X9_n vE vM hw) (va_cwS 1 hts (TB_G (TB_3 tw_6_133 tw_6_134 tw_1_13) tw_6_135) rfl rfl rfl (by decide +kernel) ⟨by decide, by decide⟩) hP hD hS rfl hl.1 rfl (Nat.le_of_ble_eq_true rfl) dX9_reads_151 ⟨by decide, by decide⟩ (fun r_15 H locs hw hP hS => ?_)
    have hG : mG D cA h ad A s σ H locs := ⟨hP, hD, hS⟩
    refine lv_bipush (v := 16) hx hb dX9_reads_154 (by decide) ?_
    refine lv_iadd hx hb dX9_reads_156 ?_
    refine lv_iload_n hx hb dX9_reads_157 rfl (lv_at hl 0 rfl) ?_
    refine lv_icmp_ne (tgt := 163) hx hb dX9_reads_158 (by decide) (fun q_ => ?_) (fun q_ => ?_)
    · have hw := hw.2 q_
      exact kB_X9_reads_163 C vM hk53 x2 x3 x5 x6 σ _ _ _ hG (lv_sub hl [0, 1, 2, 3] rfl) hw
    · have hw := hw.1 q_
      exact kB_X9_reads_161 C vM  σ _ _ _ hG (lv_sub hl [] rfl) hw
set_option maxHeartbeats 4000000 in
set_option maxRecDepth 100000 in
theorem kB_X9_reads_125 {p : Program} {l : Launch} {e : Env} {s : State} {m : MethodId} {args : Array Value} {below : List Frame} {meth : Method} {c : Code} {A : Nat → Prop} {E : EnvT} {aK aV : Nat → Nat} {D : va_G} {cA : Nat → ClassId} {h : Nat} {ad : Nat → Nat} (C : mCx p s m args meth c cX9_reads 8 (some .boolean) wgX9_reads RX9 E D cA A) (vM : eMs aK aV E) {post : Int32 → MS → Prop}
    {k53 : Int32 → Int64 → Int32 → Int32 → MS → Prop} (hk53 : ∀ (x2 : Int32) (x3 : Int64) (x5 : Int32) (x6 : Int32) (σ : MS) (H : Heap) (locs : List Loc) (ls : Array Slot), mG D cA h ad A s σ H locs → lv_has ls 8 [(2, .int x2), (3, .long x3), (5, .int x5), (6, .int x6)] → k53 x2 x3 x5 x6 σ → W p l e rm_X9_reads s m args below meth c H locs 0 0 (MQ below (va_Qi post (mAt D cA h ad A) A) args s 0 0 A) (F0 m 53 ls [])) :
    ∀ (x2 : Int32) (x3 : Int64) (x5 : Int32) (x6 : Int32) (x7 : Int32) (σ : MS) (H : Heap) (locs : List Loc) (ls : Array Slot), mG D cA h ad A s σ H locs → lv_has ls 8 [(2, .int x2), (3, .long x3), (5, .int x5), (6, .int x6), (7, .int x7)] → wB_X9_reads_125 post k53 x2 x3 x5 x6 x7 σ → W p l e rm_X9_reads s m args below meth c H locs 0 0 (MQ below (va_Qi post (mAt D cA h ad A) A) args s 0 0 A) (F0 m 125 ls []) := by
  obtain ⟨hx, hb, hml, hr, hown, hts, hK, hA, hlk, hE, vE⟩ := id C
  intro x2 x3 x5 x6 x7 σ H locs ls hG hl hw
  obtain ⟨hP, hD, hS⟩ := id hG
  refine lv_iload hx hb dX9_reads_125 (lv_at hl 4 rfl) ?_
  refine lv_bipush (v := 98) hx hb dX9_reads_127 (by decide) ?_
  refine lv_icmp_ne (tgt := 143) hx hb dX9_reads_129 (by decide) (fun q_ => ?_) (fun q_ => ?_)
  · have hw := hw.2 q_
    exact kB_X9_reads_143 C vM hk53 x2 x3 x5 x6 x7 σ _ _ _ hG (lv_sub hl [0, 1, 2, 3, 4] rfl) hw
  · have hw := hw.1 q_
    refine lv_lload_n hx hb dX9_reads_132 rfl (lv_at hl 1 rfl) ?_
    refine mS_i (As := [.long x3]) (rest := []) C (met_X9_b vE vM hw) (va_cwS 1 hts (TB_G (TB_3 tw_6_142 tw_6_143 tw_1_13) tw_6_144) rfl rfl rfl (by decide +kernel) ⟨by decide, by decide⟩) hP hD hS rfl hl.1 rfl (Nat.le_of_ble_eq_true rfl) dX9_reads_133 ⟨by decide, by decide⟩ (fun r_17 H locs hw hP hS => ?_)
    have hG : mG D cA h ad A s σ H locs := ⟨hP, hD, hS⟩
    refine lv_bipush (v := 16) hx hb dX9_reads_136 (by decide) ?_
    refine lv_iadd hx hb dX9_reads_138 ?_
    refine lv_iload_n hx hb dX9_reads_139 rfl (lv_at hl 0 rfl) ?_
    refine lv_icmp_eq (tgt := 161) hx hb dX9_reads_140 (by decide) (fun q_ => ?_) (fun q_ => ?_)
    · have hw := hw.1 q_
      exact kB_X9_reads_161 C vM  σ _ _ _ hG (lv_sub hl [] rfl) hw
    · have hw := hw.2 q_
      exact kB_X9_reads_143 C vM hk53 x2 x3 x5 x6 x7 σ _ _ _ hG (lv_sub hl [0, 1, 2, 3, 4] rfl) hw
set_option maxHeartbeats 4000000 in
set_option maxRecDepth 100000 in
theorem kB_X9_reads_107 {p : Program} {l : Launch} {e : Env} {s : State} {m : MethodId} {args : Array Value} {below : List Frame} {meth : Method} {c : Code} {A : Nat → Prop} {E : EnvT} {aK aV : Nat → Nat} {D : va_G} {cA : Nat → ClassId} {h : Nat} {ad : Nat → Nat} (C : mCx p s m args meth c cX9_reads 8 (some .boolean) wgX9_reads RX9 E D cA A) (vM : eMs aK aV E) {post : Int32 → MS → Prop}
    {k53 : Int32 → Int64 → Int32 → Int32 → MS → Prop} (hk53 : ∀ (x2 : Int32) (x3 : Int64) (x5 : Int32) (x6 : Int32) (σ : MS) (H : Heap) (locs : List Loc) (ls : Array Slot), mG D cA h ad A s σ H locs → lv_has ls 8 [(2, .int x2), (3, .long x3), (5, .int x5), (6, .int x6)] → k53 x2 x3 x5 x6 σ → W p l e rm_X9_reads s m args below meth c H locs 0 0 (MQ below (va_Qi post (mAt D cA h ad A) A) args s 0 0 A) (F0 m 53 ls [])) :
    ∀ (x2 : Int32) (x3 : Int64) (x5 : Int32) (x6 : Int32) (x7 : Int32) (σ : MS) (H : Heap) (locs : List Loc) (ls : Array Slot), mG D cA h ad A s σ H locs → lv_has ls 8 [(2, .int x2), (3, .long x3), (5, .int x5), (6, .int x6), (7, .int x7)] → wB_X9_reads_107 post k53 x2 x3 x5 x6 x7 σ → W p l e rm_X9_reads s m args below meth c H locs 0 0 (MQ below (va_Qi post (mAt D cA h ad A) A) args s 0 0 A) (F0 m 107 ls []) := by
  obtain ⟨hx, hb, hml, hr, hown, hts, hK, hA, hlk, hE, vE⟩ := id C
  intro x2 x3 x5 x6 x7 σ H locs ls hG hl hw
  obtain ⟨hP, hD, hS⟩ := id hG
  refine lv_iload hx hb dX9_reads_107 (lv_at hl 4 rfl) ?_
  refine lv_bipush (v := 97) hx hb dX9_reads_109 (by decide) ?_
  refine lv_icmp_ne (tgt := 125) hx hb dX9_reads_111 (by decide) (fun q_ => ?_) (fun q_ => ?_)
  · have hw := hw.2 q_
    exact kB_X9_reads_125 C vM hk53 x2 x3 x5 x6 x7 σ _ _ _ hG (lv_sub hl [0, 1, 2, 3, 4] rfl) hw
  · have hw := hw.1 q_
    refine lv_lload_n hx hb dX9_reads_114 rfl (lv_at hl 1 rfl) ?_
    refine mS_i (As := [.long x3]) (rest := []) C (met_X9_a vE vM hw) (va_cwS 1 hts (TB_G (TB_3 tw_6_139 tw_6_140 tw_1_13) tw_6_141) rfl rfl rfl (by decide +kernel) ⟨by decide, by decide⟩) hP hD hS rfl hl.1 rfl (Nat.le_of_ble_eq_true rfl) dX9_reads_115 ⟨by decide, by decide⟩ (fun r_19 H locs hw hP hS => ?_)
    have hG : mG D cA h ad A s σ H locs := ⟨hP, hD, hS⟩
    refine lv_bipush (v := 16) hx hb dX9_reads_118 (by decide) ?_
    refine lv_iadd hx hb dX9_reads_120 ?_
    refine lv_iload_n hx hb dX9_reads_121 rfl (lv_at hl 0 rfl) ?_
    refine lv_icmp_eq (tgt := 161) hx hb dX9_reads_122 (by decide) (fun q_ => ?_) (fun q_ => ?_)
    · have hw := hw.1 q_
      exact kB_X9_reads_161 C vM  σ _ _ _ hG (lv_sub hl [] rfl) hw
    · have hw := hw.2 q_
      exact kB_X9_reads_125 C vM hk53 x2 x3 x5 x6 x7 σ _ _ _ hG (lv_sub hl [0, 1, 2, 3, 4] rfl) hw
set_option maxHeartbeats 4000000 in
set_option maxRecDepth 100000 in
theorem kB_X9_reads_90 {p : Program} {l : Launch} {e : Env} {s : State} {m : MethodId} {args : Array Value} {below : List Frame} {meth : Method} {c : Code} {A : Nat → Prop} {E : EnvT} {aK aV : Nat → Nat} {D : va_G} {cA : Nat → ClassId} {h : Nat} {ad : Nat → Nat} (C : mCx p s m args meth c cX9_reads 8 (some .boolean) wgX9_reads RX9 E D cA A) (vM : eMs aK aV E) {post : Int32 → MS → Prop}
    {k53 : Int32 → Int64 → Int32 → Int32 → MS → Prop} (hk53 : ∀ (x2 : Int32) (x3 : Int64) (x5 : Int32) (x6 : Int32) (σ : MS) (H : Heap) (locs : List Loc) (ls : Array Slot), mG D cA h ad A s σ H locs → lv_has ls 8 [(2, .int x2), (3, .long x3), (5, .int x5), (6, .int x6)] → k53 x2 x3 x5 x6 σ → W p l e rm_X9_reads s m args below meth c H locs 0 0 (MQ below (va_Qi post (mAt D cA h ad A) A) args s 0 0 A) (F0 m 53 ls [])) :
    ∀ (x2 : Int32) (x3 : Int64) (x5 : Int32) (x6 : Int32) (x7 : Int32) (σ : MS) (H : Heap) (locs : List Loc) (ls : Array Slot), mG D cA h ad A s σ H locs → lv_has ls 8 [(2, .int x2), (3, .long x3), (5, .int x5), (6, .int x6), (7, .int x7)] → wB_X9_reads_90 post k53 x2 x3 x5 x6 x7 σ → W p l e rm_X9_reads s m args below meth c H locs 0 0 (MQ below (va_Qi post (mAt D cA h ad A) A) args s 0 0 A) (F0 m 90 ls []) := by
  obtain ⟨hx, hb, hml, hr, hown, hts, hK, hA, hlk, hE, vE⟩ := id C
  intro x2 x3 x5 x6 x7 σ H locs ls hG hl hw
  obtain ⟨hP, hD, hS⟩ := id hG
  refine lv_iload hx hb dX9_reads_90 (lv_at hl 4 rfl) ?_
  refine lv_bipush (v := 66) hx hb dX9_reads_92 (by decide) ?_
  refine lv_icmp_ne (tgt := 107) hx hb dX9_reads_94 (by decide) (fun q_ => ?_) (fun q_ => ?_)
  · have hw := hw.2 q_
    exact kB_X9_reads_107 C vM hk53 x2 x3 x5 x6 x7 σ _ _ _ hG (lv_sub hl [0, 1, 2, 3, 4] rfl) hw
  · have hw := hw.1 q_
    refine lv_lload_n hx hb dX9_reads_97 rfl (lv_at hl 1 rfl) ?_
    refine mS_i (As := [.long x3]) (rest := []) C (met_X9_b vE vM hw) (va_cwS 1 hts (TB_G (TB_3 tw_6_142 tw_6_143 tw_1_13) tw_6_144) rfl rfl rfl (by decide +kernel) ⟨by decide, by decide⟩) hP hD hS rfl hl.1 rfl (Nat.le_of_ble_eq_true rfl) dX9_reads_98 ⟨by decide, by decide⟩ (fun r_21 H locs hw hP hS => ?_)
    have hG : mG D cA h ad A s σ H locs := ⟨hP, hD, hS⟩
    refine lv_iload_n hx hb dX9_reads_101 rfl (lv_at hl 0 rfl) ?_
    refine lv_icmp_ne (tgt := 107) hx hb dX9_reads_102 (by decide) (fun q_ => ?_) (fun q_ => ?_)
    · have hw := hw.2 q_
      exact kB_X9_reads_107 C vM hk53 x2 x3 x5 x6 x7 σ _ _ _ hG (lv_sub hl [0, 1, 2, 3, 4] rfl) hw
    · have hw := hw.1 q_
      exact kB_X9_reads_105 C vM  σ _ _ _ hG (lv_sub hl [] rfl) hw
set_option maxHeartbeats 4000000 in
set_option maxRecDepth 100000 in
theorem kB_X9_reads_82 {p : Program} {l : Launch} {e : Env} {s : State} {m : MethodId} {args : Array Value} {below : List Frame} {meth : Method} {c : Code} {A : Nat → Prop} {E : EnvT} {aK aV : Nat → Nat} {D : va_G} {cA : Nat → ClassId} {h : Nat} {ad : Nat → Nat} (C : mCx p s m args meth c cX9_reads 8 (some .boolean) wgX9_reads RX9 E D cA A) (vM : eMs aK aV E) {post : Int32 → MS → Prop}
    {k53 : Int32 → Int64 → Int32 → Int32 → MS → Prop} (hk53 : ∀ (x2 : Int32) (x3 : Int64) (x5 : Int32) (x6 : Int32) (σ : MS) (H : Heap) (locs : List Loc) (ls : Array Slot), mG D cA h ad A s σ H locs → lv_has ls 8 [(2, .int x2), (3, .long x3), (5, .int x5), (6, .int x6)] → k53 x2 x3 x5 x6 σ → W p l e rm_X9_reads s m args below meth c H locs 0 0 (MQ below (va_Qi post (mAt D cA h ad A) A) args s 0 0 A) (F0 m 53 ls [])) :
    ∀ (x2 : Int32) (x3 : Int64) (x5 : Int32) (x6 : Int32) (x7 : Int32) (σ : MS) (H : Heap) (locs : List Loc) (ls : Array Slot), mG D cA h ad A s σ H locs → lv_has ls 8 [(2, .int x2), (3, .long x3), (5, .int x5), (6, .int x6), (7, .int x7)] → wB_X9_reads_82 post k53 x2 x3 x5 x6 x7 σ → W p l e rm_X9_reads s m args below meth c H locs 0 0 (MQ below (va_Qi post (mAt D cA h ad A) A) args s 0 0 A) (F0 m 82 ls []) := by
  obtain ⟨hx, hb, hml, hr, hown, hts, hK, hA, hlk, hE, vE⟩ := id C
  intro x2 x3 x5 x6 x7 σ H locs ls hG hl hw
  obtain ⟨hP, hD, hS⟩ := id hG
  refine lv_lload_n hx hb dX9_reads_82 rfl (lv_at hl 1 rfl) ?_
  refine mS_i (As := [.long x3]) (rest := []) C (met_X9_a vE vM hw) (va_cwS 1 hts (TB_G (TB_3 tw_6_139 tw_6_140 tw_1_13) tw_6_141) rfl rfl rfl (by decide +kernel) ⟨by decide, by decide⟩) hP hD hS rfl hl.1 rfl (Nat.le_of_ble_eq_true rfl) dX9_reads_83 ⟨by decide, by decide⟩ (fun r_12 H locs hw hP hS => ?_)
  have hG : mG D cA h ad A s σ H locs := ⟨hP, hD, hS⟩
  refine lv_iload_n hx hb dX9_reads_86 rfl (lv_at hl 0 rfl) ?_
  refine lv_icmp_eq (tgt := 105) hx hb dX9_reads_87 (by decide) (fun q_ => ?_) (fun q_ => ?_)
  · have hw := hw.1 q_
    exact kB_X9_reads_105 C vM  σ _ _ _ hG (lv_sub hl [] rfl) hw
  · have hw := hw.2 q_
    exact kB_X9_reads_90 C vM hk53 x2 x3 x5 x6 x7 σ _ _ _ hG (lv_sub hl [0, 1, 2, 3, 4] rfl) hw
set_option maxHeartbeats 4000000 in
set_option maxRecDepth 100000 in
theorem kB_X9_reads_53 {p : Program} {l : Launch} {e : Env} {s : State} {m : MethodId} {args : Array Value} {below : List Frame} {meth : Method} {c : Code} {A : Nat → Prop} {E : EnvT} {aK aV : Nat → Nat} {D : va_G} {cA : Nat → ClassId} {h : Nat} {ad : Nat → Nat} (C : mCx p s m args meth c cX9_reads 8 (some .boolean) wgX9_reads RX9 E D cA A) (vM : eMs aK aV E) {post : Int32 → MS → Prop}
    {k53 : Int32 → Int64 → Int32 → Int32 → MS → Prop} (hk53 : ∀ (x2 : Int32) (x3 : Int64) (x5 : Int32) (x6 : Int32) (σ : MS) (H : Heap) (locs : List Loc) (ls : Array Slot), mG D cA h ad A s σ H locs → lv_has ls 8 [(2, .int x2), (3, .long x3), (5, .int x5), (6, .int x6)] → k53 x2 x3 x5 x6 σ → W p l e rm_X9_reads s m args below meth c H locs 0 0 (MQ below (va_Qi post (mAt D cA h ad A) A) args s 0 0 A) (F0 m 53 ls [])) :
    ∀ (x2 : Int32) (x3 : Int64) (x5 : Int32) (x6 : Int32) (σ : MS) (H : Heap) (locs : List Loc) (ls : Array Slot), mG D cA h ad A s σ H locs → lv_has ls 8 [(2, .int x2), (3, .long x3), (5, .int x5), (6, .int x6)] → wB_X9_reads_53 post k53 x2 x3 x5 x6 σ → W p l e rm_X9_reads s m args below meth c H locs 0 0 (MQ below (va_Qi post (mAt D cA h ad A) A) args s 0 0 A) (F0 m 53 ls []) := by
  obtain ⟨hx, hb, hml, hr, hown, hts, hK, hA, hlk, hE, vE⟩ := id C
  intro x2 x3 x5 x6 σ H locs ls hG hl hw
  obtain ⟨hP, hD, hS⟩ := id hG
  refine lv_iload hx hb dX9_reads_53 (lv_at hl 3 rfl) ?_
  refine lv_iconst (v := 4) hx hb dX9_reads_55 (by decide) ?_
  refine lv_icmp_ge (tgt := 169) hx hb dX9_reads_56 (by decide) (fun q_ => ?_) (fun q_ => ?_)
  · have hw := hw.1 q_
    refine lv_iload hx hb dX9_reads_169 (lv_at hl 2 rfl) ?_
    refine mS_i (As := [.int x5]) (rest := []) C (met_X9_opOf vE vM hw) (va_cwS 1 hts (TB_G (TB_3 tw_6_66 tw_6_67 tw_1_13) tw_6_68) rfl rfl rfl (by decide +kernel) ⟨by decide, by decide⟩) hP hD hS rfl hl.1 rfl (Nat.le_of_ble_eq_true rfl) dX9_reads_171 ⟨by decide, by decide⟩ (fun r_5 H locs hw hP hS => ?_)
    have hG : mG D cA h ad A s σ H locs := ⟨hP, hD, hS⟩
    refine lv_bipush (v := 57) hx hb dX9_reads_174 (by decide) ?_
    refine lv_icmp_ne (tgt := 191) hx hb dX9_reads_176 (by decide) (fun q_ => ?_) (fun q_ => ?_)
    · have hw := hw.2 q_
      exact kB_X9_reads_191 C vM  σ _ _ _ hG (lv_sub hl [] rfl) hw
    · have hw := hw.1 q_
      refine lv_lload_n hx hb dX9_reads_179 rfl (lv_at hl 1 rfl) ?_
      refine mS_i (As := [.long x3]) (rest := []) C (met_X9_d vE vM hw) (va_cwS 1 hts (TB_G (TB_3 tw_6_136 tw_6_137 tw_1_13) tw_6_138) rfl rfl rfl (by decide +kernel) ⟨by decide, by decide⟩) hP hD hS rfl hl.1 rfl (Nat.le_of_ble_eq_true rfl) dX9_reads_180 ⟨by decide, by decide⟩ (fun r_8 H locs hw hP hS => ?_)
      have hG : mG D cA h ad A s σ H locs := ⟨hP, hD, hS⟩
      refine lv_iload_n hx hb dX9_reads_183 rfl (lv_at hl 0 rfl) ?_
      refine lv_icmp_ne (tgt := 191) hx hb dX9_reads_184 (by decide) (fun q_ => ?_) (fun q_ => ?_)
      · have hw := hw.2 q_
        exact kB_X9_reads_191 C vM  σ _ _ _ hG (lv_sub hl [] rfl) hw
      · have hw := hw.1 q_
        refine lv_iconst (v := 1) hx hb dX9_reads_187 (by decide) ?_
        refine lv_goto (tgt := 192) hx hb dX9_reads_188 (by decide) ?_
        exact kB_X9_reads_192 C vM 1 σ _ _ _ hG (lv_sub hl [] rfl) hw
  · have hw := hw.2 q_
    refine lv_iload hx hb dX9_reads_59 (lv_at hl 2 rfl) ?_
    refine lv_iload hx hb dX9_reads_61 (lv_at hl 3 rfl) ?_
    refine mS_i (As := [.int x5, .int x6]) (rest := []) C (met_X9_part vE vM hw) (va_cwS 2 hts (TB_G (TB_3 tw_6_77 tw_6_78 tw_1_13) tw_6_79) rfl rfl rfl (by decide +kernel) ⟨by decide, by decide⟩) hP hD hS rfl hl.1 rfl (Nat.le_of_ble_eq_true rfl) dX9_reads_63 ⟨by decide, by decide⟩ (fun r_10 H locs hw hP hS => ?_)
    have hG : mG D cA h ad A s σ H locs := ⟨hP, hD, hS⟩
    refine lv_istore (lv' := [(7, .int r_10), (2, .int x2), (3, .long x3), (5, .int x5), (6, .int x6)]) hx hb dX9_reads_66 hl (by decide) rfl (fun ls hl => ?_)
    refine lv_iload hx hb dX9_reads_68 (lv_at hl 0 rfl) ?_
    refine lv_bipush (v := 65) hx hb dX9_reads_70 (by decide) ?_
    refine lv_icmp_eq (tgt := 82) hx hb dX9_reads_72 (by decide) (fun q_ => ?_) (fun q_ => ?_)
    · have hw := hw.1 q_
      exact kB_X9_reads_82 C vM hk53 x2 x3 x5 x6 r_10 σ _ _ _ hG (lv_sub hl [1, 2, 3, 4, 0] rfl) hw
    · have hw := hw.2 q_
      refine lv_iload hx hb dX9_reads_75 (lv_at hl 0 rfl) ?_
      refine lv_bipush (v := 77) hx hb dX9_reads_77 (by decide) ?_
      refine lv_icmp_ne (tgt := 90) hx hb dX9_reads_79 (by decide) (fun q_ => ?_) (fun q_ => ?_)
      · have hw := hw.2 q_
        exact kB_X9_reads_90 C vM hk53 x2 x3 x5 x6 r_10 σ _ _ _ hG (lv_sub hl [1, 2, 3, 4, 0] rfl) hw
      · have hw := hw.1 q_
        exact kB_X9_reads_82 C vM hk53 x2 x3 x5 x6 r_10 σ _ _ _ hG (lv_sub hl [1, 2, 3, 4, 0] rfl) hw
theorem kL_X9_reads_53 {p : Program} {l : Launch} {e : Env} {s : State} {m : MethodId} {args : Array Value} {below : List Frame} {meth : Method} {c : Code} {A : Nat → Prop} {E : EnvT} {aK aV : Nat → Nat} {D : va_G} {cA : Nat → ClassId} {h : Nat} {ad : Nat → Nat} (C : mCx p s m args meth c cX9_reads 8 (some .boolean) wgX9_reads RX9 E D cA A) (vM : eMs aK aV E) {post : Int32 → MS → Prop} :
    ∀ (n : Nat) (x2 : Int32) (x3 : Int64) (x5 : Int32) (x6 : Int32) (σ : MS) (H : Heap) (locs : List Loc) (ls : Array Slot), mG D cA h ad A s σ H locs → lv_has ls 8 [(2, .int x2), (3, .long x3), (5, .int x5), (6, .int x6)] → wL_X9_reads_53 post n x2 x3 x5 x6 σ → W p l e rm_X9_reads s m args below meth c H locs 0 0 (MQ below (va_Qi post (mAt D cA h ad A) A) args s 0 0 A) (F0 m 53 ls []) := by
  intro n
  induction n with
  | zero => intro x2 x3 x5 x6 σ H locs ls hG hl hw; exact hw.elim
  | succ n ih => exact kB_X9_reads_53 C vM ih
set_option maxHeartbeats 4000000 in
set_option maxRecDepth 100000 in
theorem kB_X9_reads_50 {p : Program} {l : Launch} {e : Env} {s : State} {m : MethodId} {args : Array Value} {below : List Frame} {meth : Method} {c : Code} {A : Nat → Prop} {E : EnvT} {aK aV : Nat → Nat} {D : va_G} {cA : Nat → ClassId} {h : Nat} {ad : Nat → Nat} (C : mCx p s m args meth c cX9_reads 8 (some .boolean) wgX9_reads RX9 E D cA A) (vM : eMs aK aV E) {post : Int32 → MS → Prop} :
    ∀ (x2 : Int32) (x3 : Int64) (x5 : Int32) (σ : MS) (H : Heap) (locs : List Loc) (ls : Array Slot), mG D cA h ad A s σ H locs → lv_has ls 8 [(2, .int x2), (3, .long x3), (5, .int x5)] → wB_X9_reads_50 post x2 x3 x5 σ → W p l e rm_X9_reads s m args below meth c H locs 0 0 (MQ below (va_Qi post (mAt D cA h ad A) A) args s 0 0 A) (F0 m 50 ls []) := by
  obtain ⟨hx, hb, hml, hr, hown, hts, hK, hA, hlk, hE, vE⟩ := id C
  intro x2 x3 x5 σ H locs ls hG hl hw
  obtain ⟨hP, hD, hS⟩ := id hG
  refine lv_iconst (v := 0) hx hb dX9_reads_50 (by decide) ?_
  refine lv_istore (lv' := [(6, .int 0), (2, .int x2), (3, .long x3), (5, .int x5)]) hx hb dX9_reads_51 hl (by decide) rfl (fun ls hl => ?_)
  obtain ⟨n_, hw⟩ := hw
  exact kL_X9_reads_53 C vM n_ x2 x3 x5 0 σ _ _ _ hG (lv_sub hl [1, 2, 3, 0] rfl) hw
set_option maxHeartbeats 4000000 in
set_option maxRecDepth 100000 in
theorem k_X9_reads {p : Program} {l : Launch} {e : Env} {s : State} {m : MethodId} {args : Array Value} {below : List Frame} {meth : Method} {c : Code} {A : Nat → Prop} {E : EnvT} {aK aV : Nat → Nat} {D : va_G} {cA : Nat → ClassId} {h : Nat} {ad : Nat → Nat} (C : mCx p s m args meth c cX9_reads 8 (some .boolean) wgX9_reads RX9 E D cA A) (vM : eMs aK aV E) {post : Int32 → MS → Prop} :
    ∀ (x1 : Int32) (x2 : Int32) (σ : MS) (H : Heap) (locs : List Loc) (ls : Array Slot), mG D cA h ad A s σ H locs → lv_has ls 8 [(0, .ref h), (1, .int x1), (2, .int x2)] → wp_X9_reads post x1 x2 σ → W p l e rm_X9_reads s m args below meth c H locs 0 0 (MQ below (va_Qi post (mAt D cA h ad A) A) args s 0 0 A) (F0 m 0 ls []) := by
  obtain ⟨hx, hb, hml, hr, hown, hts, hK, hA, hlk, hE, vE⟩ := id C
  intro x1 x2 σ H locs ls hG hl hw
  obtain ⟨hP, hD, hS⟩ := id hG
  refine lv_aload_n hx hb dX9_reads_0 rfl (lv_at hl 0 rfl) ?_
  refine va_get (D := D) (ci := 11) (v := .ref (ad 10)) (C := RX9) (T := TX9) (N := 32) hx hb hts (in_tb inX9) hown hK hP 0 rfl rfl 10 (by decide) (hts _ (List.mem_cons_of_mem _ tw_5_120)) (fun _ h9 => h9) rfl dX9_reads_1 ?_
  refine lv_iload_n hx hb dX9_reads_4 rfl (lv_at hl 1 rfl) ?_
  obtain ⟨h_1, hw⟩ := hw
  refine va_lald hx hb hK hP 5 1 rfl rfl h_1 dX9_reads_5 ?_
  refine lv_topl (fun x3_2 ex3_2 => ?_)
  have hw := hw x3_2 ex3_2
  refine lv_lstore_n (lv' := [(3, .long x3_2), (0, .ref h), (1, .int x1), (2, .int x2)]) hx hb dX9_reads_6 rfl hl (by decide) rfl (fun ls hl => ?_)
  refine lv_lload_n hx hb dX9_reads_7 rfl (lv_at hl 0 rfl) ?_
  refine mS_i (As := [.long x3_2]) (rest := []) C (met_X9_listed vE vM hw) (va_cwS 1 hts (TB_G (TB_3 tw_6_120 tw_6_121 tw_1_13) tw_6_122) rfl rfl rfl (by decide +kernel) ⟨by decide, by decide⟩) hP hD hS rfl hl.1 rfl (Nat.le_of_ble_eq_true rfl) dX9_reads_8 ⟨by decide, by decide⟩ (fun r_3 H locs hw hP hS => ?_)
  have hG : mG D cA h ad A s σ H locs := ⟨hP, hD, hS⟩
  refine lv_istore (lv' := [(5, .int r_3), (3, .long x3_2), (0, .ref h), (1, .int x1), (2, .int x2)]) hx hb dX9_reads_11 hl (by decide) rfl (fun ls hl => ?_)
  refine lv_iload hx hb dX9_reads_13 (lv_at hl 0 rfl) ?_
  refine lv_iconst (v := (-1)) hx hb dX9_reads_15 (by decide) ?_
  refine lv_icmp_ne (tgt := 21) hx hb dX9_reads_16 (by decide) (fun q_ => ?_) (fun q_ => ?_)
  · have hw := hw.2 q_
    refine lv_iload_n hx hb dX9_reads_21 rfl (lv_at hl 4 rfl) ?_
    refine lv_bipush (v := 15) hx hb dX9_reads_22 (by decide) ?_
    refine lv_icmp_le (tgt := 50) hx hb dX9_reads_24 (by decide) (fun q_ => ?_) (fun q_ => ?_)
    · have hw := hw.1 q_
      exact kB_X9_reads_50 C vM x2 x3_2 r_3 σ _ _ _ hG (lv_sub hl [4, 1, 0] rfl) hw
    · have hw := hw.2 q_
      refine lv_aload_n hx hb dX9_reads_27 rfl (lv_at hl 2 rfl) ?_
      refine lv_iload_n hx hb dX9_reads_28 rfl (lv_at hl 3 rfl) ?_
      refine mV_i (As := [.int x1]) (rest := []) C (met_X9_isGuarded vE vM hw) (va_recv hK hP (ci := 11) (q0 := 0) rfl rfl) (cwV 1 hts (TB_G (TB_4 tw_6_170 tw_6_172 ts_51 tw_1_13) tw_6_173) rfl rfl rfl (by decide +kernel) ⟨by decide, by decide⟩) hP hD hS rfl hl.1 rfl (Nat.le_of_ble_eq_true rfl) dX9_reads_29 ⟨by decide, by decide⟩ (fun r_23 σ_24 H locs hw hP hD hS => ?_)
      have hG : mG D cA h ad A s σ_24 H locs := ⟨hP, hD, hS⟩
      refine lv_if_eq (tgt := 50) hx hb dX9_reads_32 (by decide) (fun q_ => ?_) (fun q_ => ?_)
      · have hw := hw.1 q_
        exact kB_X9_reads_50 C vM x2 x3_2 r_3 σ_24 _ _ _ hG (lv_sub hl [4, 1, 0] rfl) hw
      · have hw := hw.2 q_
        refine lv_lload_n hx hb dX9_reads_35 rfl (lv_at hl 1 rfl) ?_
        refine mS_i (As := [.long x3_2]) (rest := []) C (met_X9_g vE vM hw) (va_cwS 1 hts (TB_G (TB_3 tw_6_129 tw_6_130 tw_1_13) tw_6_131) rfl rfl rfl (by decide +kernel) ⟨by decide, by decide⟩) hP hD hS rfl hl.1 rfl (Nat.le_of_ble_eq_true rfl) dX9_reads_36 ⟨by decide, by decide⟩ (fun r_25 H locs hw hP hS => ?_)
        have hG : mG D cA h ad A s σ_24 H locs := ⟨hP, hD, hS⟩
        refine lv_iconst (v := 3) hx hb dX9_reads_39 (by decide) ?_
        refine lv_iand hx hb dX9_reads_40 ?_
        refine lv_iload_n hx hb dX9_reads_41 rfl (lv_at hl 4 rfl) ?_
        refine lv_bipush (v := 16) hx hb dX9_reads_42 (by decide) ?_
        refine lv_isub hx hb dX9_reads_44 ?_
        refine lv_icmp_ne (tgt := 50) hx hb dX9_reads_45 (by decide) (fun q_ => ?_) (fun q_ => ?_)
        · have hw := hw.2 q_
          exact kB_X9_reads_50 C vM x2 x3_2 r_3 σ_24 _ _ _ hG (lv_sub hl [4, 1, 0] rfl) hw
        · have hw := hw.1 q_
          refine lv_iconst (v := 1) hx hb dX9_reads_48 (by decide) ?_
          exact W.zret (v := 1) (ty := .boolean) hx hb hr rfl (fun t ht hW => ⟨⟨_, σ_24, rfl, hw, by rw [ht]; exact hP, va_K.moved hW.alike hK, hD⟩, hS.F ht⟩) hS.2.2 dX9_reads_49 hlk
  · have hw := hw.1 q_
    refine lv_iconst (v := 0) hx hb dX9_reads_19 (by decide) ?_
    exact W.zret (v := 0) (ty := .boolean) hx hb hr rfl (fun t ht hW => ⟨⟨_, σ, rfl, hw, by rw [ht]; exact hP, va_K.moved hW.alike hK, hD⟩, hS.F ht⟩) hS.2.2 dX9_reads_20 hlk
set_option maxHeartbeats 4000000 in
set_option maxRecDepth 100000 in
theorem met_X9_reads {l : Launch} {E : EnvT} (vE : EnvOk E) {D : va_G} {cA : Nat → ClassId} {h : Nat} {ad : Nat → Nat} {σ : MS} {aK aV : Nat → Nat} (vM : eMs aK aV E) {sz : Nat} {x1 : Int32} {x2 : Int32} {post : Int32 → MS → Prop} (hw : wp_X9_reads post x1 x2 σ) : Met l yX9_reads wgX9_reads rm_X9_reads (va_Pc [.ref h, .int x1, .int x2] (mPre E D cA h ad sz σ)) (va_Qi post (mAt D cA h ad (va_A (mW cA h ad σ) sz)) (va_A (mW cA h ad σ) sz)) 0 0 (va_A (mW cA h ad σ) sz) := by
  refine Met.ofW (cc := cX9_reads) (maxL := 8) (ret := (some .boolean)) (by decide +kernel) rfl ?_
  intro p e s m args below meth c s₁ B hml hv
  obtain ⟨rfl, hsz, hP, hK, hD0, hE⟩ := hv
  subst hsz
  have hD := hD0.self (sz := s.heap.size)
  generalize hAe : va_A (mW cA h ad σ) s.heap.size = A at hD hE ⊢
  have hA : ∀ q : Nat, s.heap.size ≤ q → A q := fun q h => by rw [← hAe]; exact Or.inr h
  have hS : va_S A s.heap s.heap [] := va_S.rf
  have C : mCx p s m _ meth c cX9_reads 8 (some .boolean) wgX9_reads RX9 E D cA A := ⟨B.exec, B.bytes, hml, B.returns, findClass_of_methodNamed B.named, atoms_spec (ws := wgX9_reads) B.pre, hK, hA, B.notSynchronized, hE, vE⟩
  have hG : mG D cA h ad A s σ s.heap [] := ⟨hP, hD, hS⟩
  have hl := lv_entry ([.ref h, .int x1, .int x2]) (n := 8) (Nat.le_of_ble_eq_true rfl)
  rw [lg_entry_eq]
  generalize (lg_sl ([.ref h, .int x1, .int x2]) ++ List.replicate (8 - (lg_sl ([.ref h, .int x1, .int x2])).length) Slot.unset).toArray = ls at hl ⊢
  have hl : lv_has ls 8 [(0, .ref h), (1, .int x1), (2, .int x2)] := hl
  exact k_X9_reads C vM x1 x2 σ _ _ _ hG hl hw
/-! ===== writes ===== -/
def rm_X9_writes : Room := { frames := 7, cells := 0, slots := 0, locals := 156 }
abbrev wgX9_writes : List Cond := .code yX9_writes cX9_writes 5 (some .boolean) :: TB
def wB_X9_writes_23 (post : Int32 → MS → Prop) (σ : MS) : Prop :=
  post 0 σ
def wB_X9_writes_87 (post : Int32 → MS → Prop) (k28 : Int32 → Int32 → Int32 → Int32 → MS → Prop) (x1 : Int32) (x2 : Int32) (x3 : Int32) (x4 : Int32) (σ : MS) : Prop :=
  ∀ x4_10 : Int32, x4_10 = x4 + 1 → k28 x1 x2 x3 x4_10 σ
def wB_X9_writes_85 (post : Int32 → MS → Prop) (σ : MS) : Prop :=
  post 1 σ
def wB_X9_writes_58 (post : Int32 → MS → Prop) (k28 : Int32 → Int32 → Int32 → Int32 → MS → Prop) (x1 : Int32) (x2 : Int32) (x3 : Int32) (x4 : Int32) (σ : MS) : Prop :=
  wp_X9_part (fun r_8  => (r_8 = 100 → (vp_in x1 64 ∧ (wp_X9_d (fun r_12  => ((r_12 + 16) = x2 → (wB_X9_writes_85 post σ)) ∧ (¬ (r_12 + 16) = x2 → (wB_X9_writes_87 post k28 x1 x2 x3 x4 σ))) (mL σ 10 x1.toNatClampNeg)))) ∧ (¬ r_8 = 100 → (wB_X9_writes_87 post k28 x1 x2 x3 x4 σ))) x3 x4
def wB_X9_writes_28 (post : Int32 → MS → Prop) (k28 : Int32 → Int32 → Int32 → Int32 → MS → Prop) (x1 : Int32) (x2 : Int32) (x3 : Int32) (x4 : Int32) (σ : MS) : Prop :=
  (4 ≤ x4 → (post 0 σ)) ∧ (¬ 4 ≤ x4 → (wp_X9_part (fun r_6  => (r_6 = 68 → (vp_in x1 64 ∧ (wp_X9_d (fun r_15  => (r_15 = x2 → (wB_X9_writes_85 post σ)) ∧ (¬ r_15 = x2 → (wB_X9_writes_58 post k28 x1 x2 x3 x4 σ))) (mL σ 10 x1.toNatClampNeg)))) ∧ (¬ r_6 = 68 → (wB_X9_writes_58 post k28 x1 x2 x3 x4 σ))) x3 x4))
def wL_X9_writes_28 (post : Int32 → MS → Prop) : Nat → Int32 → Int32 → Int32 → Int32 → MS → Prop
  | 0 => fun _ _ _ _ _ => False
  | n + 1 => wB_X9_writes_28 post (wL_X9_writes_28 post n)
def wp_X9_writes (post : Int32 → MS → Prop) (x1 : Int32) (x2 : Int32) (σ : MS) : Prop :=
  vp_in x1 64 ∧ (wp_X9_listed (fun r_2  => (r_2 = (-1) → (wB_X9_writes_23 post σ)) ∧ (¬ r_2 = (-1) → (wp_X9_isGuarded (fun r_4 σ_5 => (r_4 = 0 → (∃ n, wL_X9_writes_28 post n x1 x2 r_2 0 σ_5)) ∧ (¬ r_4 = 0 → (wB_X9_writes_23 post σ_5))) x1 σ))) (mL σ 10 x1.toNatClampNeg))
set_option maxHeartbeats 4000000 in
set_option maxRecDepth 100000 in
theorem kB_X9_writes_23 {p : Program} {l : Launch} {e : Env} {s : State} {m : MethodId} {args : Array Value} {below : List Frame} {meth : Method} {c : Code} {A : Nat → Prop} {E : EnvT} {aK aV : Nat → Nat} {D : va_G} {cA : Nat → ClassId} {h : Nat} {ad : Nat → Nat} (C : mCx p s m args meth c cX9_writes 5 (some .boolean) wgX9_writes RX9 E D cA A) (vM : eMs aK aV E) {post : Int32 → MS → Prop} :
    ∀ (σ : MS) (H : Heap) (locs : List Loc) (ls : Array Slot), mG D cA h ad A s σ H locs → lv_has ls 5 [] → wB_X9_writes_23 post σ → W p l e rm_X9_writes s m args below meth c H locs 0 0 (MQ below (va_Qi post (mAt D cA h ad A) A) args s 0 0 A) (F0 m 23 ls []) := by
  obtain ⟨hx, hb, hml, hr, hown, hts, hK, hA, hlk, hE, vE⟩ := id C
  intro σ H locs ls hG hl hw
  obtain ⟨hP, hD, hS⟩ := id hG
  refine lv_iconst (v := 0) hx hb dX9_writes_23 (by decide) ?_
  exact W.zret (v := 0) (ty := .boolean) hx hb hr rfl (fun t ht hW => ⟨⟨_, σ, rfl, hw, by rw [ht]; exact hP, va_K.moved hW.alike hK, hD⟩, hS.F ht⟩) hS.2.2 dX9_writes_24 hlk
set_option maxHeartbeats 4000000 in
set_option maxRecDepth 100000 in
theorem kB_X9_writes_87 {p : Program} {l : Launch} {e : Env} {s : State} {m : MethodId} {args : Array Value} {below : List Frame} {meth : Method} {c : Code} {A : Nat → Prop} {E : EnvT} {aK aV : Nat → Nat} {D : va_G} {cA : Nat → ClassId} {h : Nat} {ad : Nat → Nat} (C : mCx p s m args meth c cX9_writes 5 (some .boolean) wgX9_writes RX9 E D cA A) (vM : eMs aK aV E) {post : Int32 → MS → Prop}
    {k28 : Int32 → Int32 → Int32 → Int32 → MS → Prop} (hk28 : ∀ (x1 : Int32) (x2 : Int32) (x3 : Int32) (x4 : Int32) (σ : MS) (H : Heap) (locs : List Loc) (ls : Array Slot), mG D cA h ad A s σ H locs → lv_has ls 5 [(0, .ref h), (1, .int x1), (2, .int x2), (3, .int x3), (4, .int x4)] → k28 x1 x2 x3 x4 σ → W p l e rm_X9_writes s m args below meth c H locs 0 0 (MQ below (va_Qi post (mAt D cA h ad A) A) args s 0 0 A) (F0 m 28 ls [])) :
    ∀ (x1 : Int32) (x2 : Int32) (x3 : Int32) (x4 : Int32) (σ : MS) (H : Heap) (locs : List Loc) (ls : Array Slot), mG D cA h ad A s σ H locs → lv_has ls 5 [(0, .ref h), (1, .int x1), (2, .int x2), (3, .int x3), (4, .int x4)] → wB_X9_writes_87 post k28 x1 x2 x3 x4 σ → W p l e rm_X9_writes s m args below meth c H locs 0 0 (MQ below (va_Qi post (mAt D cA h ad A) A) args s 0 0 A) (F0 m 87 ls []) := by
  obtain ⟨hx, hb, hml, hr, hown, hts, hK, hA, hlk, hE, vE⟩ := id C
  intro x1 x2 x3 x4 σ H locs ls hG hl hw
  obtain ⟨hP, hD, hS⟩ := id hG
  obtain ⟨x4_10, ex4_10⟩ : ∃ y : Int32, y = x4 + 1 := ⟨_, rfl⟩
  have hw := hw x4_10 ex4_10
  refine lv_iinc (v := x4_10) (lv' := [(4, .int x4_10), (0, .ref h), (1, .int x1), (2, .int x2), (3, .int x3)]) hx hb dX9_writes_87 hl (k := 4) rfl (by rw [ex4_10]; rfl) (by decide) rfl (fun ls hl => ?_)
  refine lv_goto (tgt := 28) hx hb dX9_writes_90 (by decide) ?_
  exact hk28 x1 x2 x3 x4_10 σ _ _ _ hG (lv_sub hl [1, 2, 3, 4, 0] rfl) hw
set_option maxHeartbeats 4000000 in
set_option maxRecDepth 100000 in
theorem kB_X9_writes_85 {p : Program} {l : Launch} {e : Env} {s : State} {m : MethodId} {args : Array Value} {below : List Frame} {meth : Method} {c : Code} {A : Nat → Prop} {E : EnvT} {aK aV : Nat → Nat} {D : va_G} {cA : Nat → ClassId} {h : Nat} {ad : Nat → Nat} (C : mCx p s m args meth c cX9_writes 5 (some .boolean) wgX9_writes RX9 E D cA A) (vM : eMs aK aV E) {post : Int32 → MS → Prop} :
    ∀ (σ : MS) (H : Heap) (locs : List Loc) (ls : Array Slot), mG D cA h ad A s σ H locs → lv_has ls 5 [] → wB_X9_writes_85 post σ → W p l e rm_X9_writes s m args below meth c H locs 0 0 (MQ below (va_Qi post (mAt D cA h ad A) A) args s 0 0 A) (F0 m 85 ls []) := by
  obtain ⟨hx, hb, hml, hr, hown, hts, hK, hA, hlk, hE, vE⟩ := id C
  intro σ H locs ls hG hl hw
  obtain ⟨hP, hD, hS⟩ := id hG
  refine lv_iconst (v := 1) hx hb dX9_writes_85 (by decide) ?_
  exact W.zret (v := 1) (ty := .boolean) hx hb hr rfl (fun t ht hW => ⟨⟨_, σ, rfl, hw, by rw [ht]; exact hP, va_K.moved hW.alike hK, hD⟩, hS.F ht⟩) hS.2.2 dX9_writes_86 hlk
set_option maxHeartbeats 4000000 in
set_option maxRecDepth 100000 in
theorem kB_X9_writes_58 {p : Program} {l : Launch} {e : Env} {s : State} {m : MethodId} {args : Array Value} {below : List Frame} {meth : Method} {c : Code} {A : Nat → Prop} {E : EnvT} {aK aV : Nat → Nat} {D : va_G} {cA : Nat → ClassId} {h : Nat} {ad : Nat → Nat} (C : mCx p s m args meth c cX9_writes 5 (some .boolean) wgX9_writes RX9 E D cA A) (vM : eMs aK aV E) {post : Int32 → MS → Prop}
    {k28 : Int32 → Int32 → Int32 → Int32 → MS → Prop} (hk28 : ∀ (x1 : Int32) (x2 : Int32) (x3 : Int32) (x4 : Int32) (σ : MS) (H : Heap) (locs : List Loc) (ls : Array Slot), mG D cA h ad A s σ H locs → lv_has ls 5 [(0, .ref h), (1, .int x1), (2, .int x2), (3, .int x3), (4, .int x4)] → k28 x1 x2 x3 x4 σ → W p l e rm_X9_writes s m args below meth c H locs 0 0 (MQ below (va_Qi post (mAt D cA h ad A) A) args s 0 0 A) (F0 m 28 ls [])) :
    ∀ (x1 : Int32) (x2 : Int32) (x3 : Int32) (x4 : Int32) (σ : MS) (H : Heap) (locs : List Loc) (ls : Array Slot), mG D cA h ad A s σ H locs → lv_has ls 5 [(0, .ref h), (1, .int x1), (2, .int x2), (3, .int x3), (4, .int x4)] → wB_X9_writes_58 post k28 x1 x2 x3 x4 σ → W p l e rm_X9_writes s m args below meth c H locs 0 0 (MQ below (va_Qi post (mAt D cA h ad A) A) args s 0 0 A) (F0 m 58 ls []) := by
  obtain ⟨hx, hb, hml, hr, hown, hts, hK, hA, hlk, hE, vE⟩ := id C
  intro x1 x2 x3 x4 σ H locs ls hG hl hw
  obtain ⟨hP, hD, hS⟩ := id hG
  refine lv_iload_n hx hb dX9_writes_58 rfl (lv_at hl 3 rfl) ?_
  refine lv_iload hx hb dX9_writes_59 (lv_at hl 4 rfl) ?_
  refine mS_i (As := [.int x3, .int x4]) (rest := []) C (met_X9_part vE vM hw) (va_cwS 2 hts (TB_G (TB_3 tw_6_77 tw_6_78 tw_1_13) tw_6_79) rfl rfl rfl (by decide +kernel) ⟨by decide, by decide⟩) hP hD hS rfl hl.1 rfl (Nat.le_of_ble_eq_true rfl) dX9_writes_61 ⟨by decide, by decide⟩ (fun r_8 H locs hw hP hS => ?_)
  have hG : mG D cA h ad A s σ H locs := ⟨hP, hD, hS⟩
  refine lv_bipush (v := 100) hx hb dX9_writes_64 (by decide) ?_
  refine lv_icmp_ne (tgt := 87) hx hb dX9_writes_66 (by decide) (fun q_ => ?_) (fun q_ => ?_)
  · have hw := hw.2 q_
    exact kB_X9_writes_87 C vM hk28 x1 x2 x3 x4 σ _ _ _ hG (lv_sub hl [0, 1, 2, 3, 4] rfl) hw
  · have hw := hw.1 q_
    refine lv_aload_n hx hb dX9_writes_69 rfl (lv_at hl 0 rfl) ?_
    refine va_get (D := D) (ci := 11) (v := .ref (ad 10)) (C := RX9) (T := TX9) (N := 32) hx hb hts (in_tb inX9) hown hK hP 0 rfl rfl 10 (by decide) (hts _ (List.mem_cons_of_mem _ tw_5_120)) (fun _ h9 => h9) rfl dX9_writes_70 ?_
    refine lv_iload_n hx hb dX9_writes_73 rfl (lv_at hl 1 rfl) ?_
    obtain ⟨h_11, hw⟩ := hw
    refine va_lald hx hb hK hP 5 1 rfl rfl h_11 dX9_writes_74 ?_
    refine mS_i (As := [.long (mL σ 10 x1.toNatClampNeg)]) (rest := []) C (met_X9_d vE vM hw) (va_cwS 1 hts (TB_G (TB_3 tw_6_136 tw_6_137 tw_1_13) tw_6_138) rfl rfl rfl (by decide +kernel) ⟨by decide, by decide⟩) hP hD hS rfl hl.1 rfl (Nat.le_of_ble_eq_true rfl) dX9_writes_75 ⟨by decide, by decide⟩ (fun r_12 H locs hw hP hS => ?_)
    have hG : mG D cA h ad A s σ H locs := ⟨hP, hD, hS⟩
    refine lv_bipush (v := 16) hx hb dX9_writes_78 (by decide) ?_
    refine lv_iadd hx hb dX9_writes_80 ?_
    refine lv_iload_n hx hb dX9_writes_81 rfl (lv_at hl 2 rfl) ?_
    refine lv_icmp_ne (tgt := 87) hx hb dX9_writes_82 (by decide) (fun q_ => ?_) (fun q_ => ?_)
    · have hw := hw.2 q_
      exact kB_X9_writes_87 C vM hk28 x1 x2 x3 x4 σ _ _ _ hG (lv_sub hl [0, 1, 2, 3, 4] rfl) hw
    · have hw := hw.1 q_
      exact kB_X9_writes_85 C vM  σ _ _ _ hG (lv_sub hl [] rfl) hw
set_option maxHeartbeats 4000000 in
set_option maxRecDepth 100000 in
theorem kB_X9_writes_28 {p : Program} {l : Launch} {e : Env} {s : State} {m : MethodId} {args : Array Value} {below : List Frame} {meth : Method} {c : Code} {A : Nat → Prop} {E : EnvT} {aK aV : Nat → Nat} {D : va_G} {cA : Nat → ClassId} {h : Nat} {ad : Nat → Nat} (C : mCx p s m args meth c cX9_writes 5 (some .boolean) wgX9_writes RX9 E D cA A) (vM : eMs aK aV E) {post : Int32 → MS → Prop}
    {k28 : Int32 → Int32 → Int32 → Int32 → MS → Prop} (hk28 : ∀ (x1 : Int32) (x2 : Int32) (x3 : Int32) (x4 : Int32) (σ : MS) (H : Heap) (locs : List Loc) (ls : Array Slot), mG D cA h ad A s σ H locs → lv_has ls 5 [(0, .ref h), (1, .int x1), (2, .int x2), (3, .int x3), (4, .int x4)] → k28 x1 x2 x3 x4 σ → W p l e rm_X9_writes s m args below meth c H locs 0 0 (MQ below (va_Qi post (mAt D cA h ad A) A) args s 0 0 A) (F0 m 28 ls [])) :
    ∀ (x1 : Int32) (x2 : Int32) (x3 : Int32) (x4 : Int32) (σ : MS) (H : Heap) (locs : List Loc) (ls : Array Slot), mG D cA h ad A s σ H locs → lv_has ls 5 [(0, .ref h), (1, .int x1), (2, .int x2), (3, .int x3), (4, .int x4)] → wB_X9_writes_28 post k28 x1 x2 x3 x4 σ → W p l e rm_X9_writes s m args below meth c H locs 0 0 (MQ below (va_Qi post (mAt D cA h ad A) A) args s 0 0 A) (F0 m 28 ls []) := by
  obtain ⟨hx, hb, hml, hr, hown, hts, hK, hA, hlk, hE, vE⟩ := id C
  intro x1 x2 x3 x4 σ H locs ls hG hl hw
  obtain ⟨hP, hD, hS⟩ := id hG
  refine lv_iload hx hb dX9_writes_28 (lv_at hl 4 rfl) ?_
  refine lv_iconst (v := 4) hx hb dX9_writes_30 (by decide) ?_
  refine lv_icmp_ge (tgt := 93) hx hb dX9_writes_31 (by decide) (fun q_ => ?_) (fun q_ => ?_)
  · have hw := hw.1 q_
    refine lv_iconst (v := 0) hx hb dX9_writes_93 (by decide) ?_
    exact W.zret (v := 0) (ty := .boolean) hx hb hr rfl (fun t ht hW => ⟨⟨_, σ, rfl, hw, by rw [ht]; exact hP, va_K.moved hW.alike hK, hD⟩, hS.F ht⟩) hS.2.2 dX9_writes_94 hlk
  · have hw := hw.2 q_
    refine lv_iload_n hx hb dX9_writes_34 rfl (lv_at hl 3 rfl) ?_
    refine lv_iload hx hb dX9_writes_35 (lv_at hl 4 rfl) ?_
    refine mS_i (As := [.int x3, .int x4]) (rest := []) C (met_X9_part vE vM hw) (va_cwS 2 hts (TB_G (TB_3 tw_6_77 tw_6_78 tw_1_13) tw_6_79) rfl rfl rfl (by decide +kernel) ⟨by decide, by decide⟩) hP hD hS rfl hl.1 rfl (Nat.le_of_ble_eq_true rfl) dX9_writes_37 ⟨by decide, by decide⟩ (fun r_6 H locs hw hP hS => ?_)
    have hG : mG D cA h ad A s σ H locs := ⟨hP, hD, hS⟩
    refine lv_bipush (v := 68) hx hb dX9_writes_40 (by decide) ?_
    refine lv_icmp_ne (tgt := 58) hx hb dX9_writes_42 (by decide) (fun q_ => ?_) (fun q_ => ?_)
    · have hw := hw.2 q_
      exact kB_X9_writes_58 C vM hk28 x1 x2 x3 x4 σ _ _ _ hG (lv_sub hl [0, 1, 2, 3, 4] rfl) hw
    · have hw := hw.1 q_
      refine lv_aload_n hx hb dX9_writes_45 rfl (lv_at hl 0 rfl) ?_
      refine va_get (D := D) (ci := 11) (v := .ref (ad 10)) (C := RX9) (T := TX9) (N := 32) hx hb hts (in_tb inX9) hown hK hP 0 rfl rfl 10 (by decide) (hts _ (List.mem_cons_of_mem _ tw_5_120)) (fun _ h9 => h9) rfl dX9_writes_46 ?_
      refine lv_iload_n hx hb dX9_writes_49 rfl (lv_at hl 1 rfl) ?_
      obtain ⟨h_14, hw⟩ := hw
      refine va_lald hx hb hK hP 5 1 rfl rfl h_14 dX9_writes_50 ?_
      refine mS_i (As := [.long (mL σ 10 x1.toNatClampNeg)]) (rest := []) C (met_X9_d vE vM hw) (va_cwS 1 hts (TB_G (TB_3 tw_6_136 tw_6_137 tw_1_13) tw_6_138) rfl rfl rfl (by decide +kernel) ⟨by decide, by decide⟩) hP hD hS rfl hl.1 rfl (Nat.le_of_ble_eq_true rfl) dX9_writes_51 ⟨by decide, by decide⟩ (fun r_15 H locs hw hP hS => ?_)
      have hG : mG D cA h ad A s σ H locs := ⟨hP, hD, hS⟩
      refine lv_iload_n hx hb dX9_writes_54 rfl (lv_at hl 2 rfl) ?_
      refine lv_icmp_eq (tgt := 85) hx hb dX9_writes_55 (by decide) (fun q_ => ?_) (fun q_ => ?_)
      · have hw := hw.1 q_
        exact kB_X9_writes_85 C vM  σ _ _ _ hG (lv_sub hl [] rfl) hw
      · have hw := hw.2 q_
        exact kB_X9_writes_58 C vM hk28 x1 x2 x3 x4 σ _ _ _ hG (lv_sub hl [0, 1, 2, 3, 4] rfl) hw
theorem kL_X9_writes_28 {p : Program} {l : Launch} {e : Env} {s : State} {m : MethodId} {args : Array Value} {below : List Frame} {meth : Method} {c : Code} {A : Nat → Prop} {E : EnvT} {aK aV : Nat → Nat} {D : va_G} {cA : Nat → ClassId} {h : Nat} {ad : Nat → Nat} (C : mCx p s m args meth c cX9_writes 5 (some .boolean) wgX9_writes RX9 E D cA A) (vM : eMs aK aV E) {post : Int32 → MS → Prop} :
    ∀ (n : Nat) (x1 : Int32) (x2 : Int32) (x3 : Int32) (x4 : Int32) (σ : MS) (H : Heap) (locs : List Loc) (ls : Array Slot), mG D cA h ad A s σ H locs → lv_has ls 5 [(0, .ref h), (1, .int x1), (2, .int x2), (3, .int x3), (4, .int x4)] → wL_X9_writes_28 post n x1 x2 x3 x4 σ → W p l e rm_X9_writes s m args below meth c H locs 0 0 (MQ below (va_Qi post (mAt D cA h ad A) A) args s 0 0 A) (F0 m 28 ls []) := by
  intro n
  induction n with
  | zero => intro x1 x2 x3 x4 σ H locs ls hG hl hw; exact hw.elim
  | succ n ih => exact kB_X9_writes_28 C vM ih
set_option maxHeartbeats 4000000 in
set_option maxRecDepth 100000 in
theorem k_X9_writes {p : Program} {l : Launch} {e : Env} {s : State} {m : MethodId} {args : Array Value} {below : List Frame} {meth : Method} {c : Code} {A : Nat → Prop} {E : EnvT} {aK aV : Nat → Nat} {D : va_G} {cA : Nat → ClassId} {h : Nat} {ad : Nat → Nat} (C : mCx p s m args meth c cX9_writes 5 (some .boolean) wgX9_writes RX9 E D cA A) (vM : eMs aK aV E) {post : Int32 → MS → Prop} :
    ∀ (x1 : Int32) (x2 : Int32) (σ : MS) (H : Heap) (locs : List Loc) (ls : Array Slot), mG D cA h ad A s σ H locs → lv_has ls 5 [(0, .ref h), (1, .int x1), (2, .int x2)] → wp_X9_writes post x1 x2 σ → W p l e rm_X9_writes s m args below meth c H locs 0 0 (MQ below (va_Qi post (mAt D cA h ad A) A) args s 0 0 A) (F0 m 0 ls []) := by
  obtain ⟨hx, hb, hml, hr, hown, hts, hK, hA, hlk, hE, vE⟩ := id C
  intro x1 x2 σ H locs ls hG hl hw
  obtain ⟨hP, hD, hS⟩ := id hG
  refine lv_aload_n hx hb dX9_writes_0 rfl (lv_at hl 0 rfl) ?_
  refine va_get (D := D) (ci := 11) (v := .ref (ad 10)) (C := RX9) (T := TX9) (N := 32) hx hb hts (in_tb inX9) hown hK hP 0 rfl rfl 10 (by decide) (hts _ (List.mem_cons_of_mem _ tw_5_120)) (fun _ h9 => h9) rfl dX9_writes_1 ?_
  refine lv_iload_n hx hb dX9_writes_4 rfl (lv_at hl 1 rfl) ?_
  obtain ⟨h_1, hw⟩ := hw
  refine va_lald hx hb hK hP 5 1 rfl rfl h_1 dX9_writes_5 ?_
  refine mS_i (As := [.long (mL σ 10 x1.toNatClampNeg)]) (rest := []) C (met_X9_listed vE vM hw) (va_cwS 1 hts (TB_G (TB_3 tw_6_120 tw_6_121 tw_1_13) tw_6_122) rfl rfl rfl (by decide +kernel) ⟨by decide, by decide⟩) hP hD hS rfl hl.1 rfl (Nat.le_of_ble_eq_true rfl) dX9_writes_6 ⟨by decide, by decide⟩ (fun r_2 H locs hw hP hS => ?_)
  have hG : mG D cA h ad A s σ H locs := ⟨hP, hD, hS⟩
  refine lv_istore_n (lv' := [(3, .int r_2), (0, .ref h), (1, .int x1), (2, .int x2)]) hx hb dX9_writes_9 rfl hl (by decide) rfl (fun ls hl => ?_)
  refine lv_iload_n hx hb dX9_writes_10 rfl (lv_at hl 0 rfl) ?_
  refine lv_iconst (v := (-1)) hx hb dX9_writes_11 (by decide) ?_
  refine lv_icmp_eq (tgt := 23) hx hb dX9_writes_12 (by decide) (fun q_ => ?_) (fun q_ => ?_)
  · have hw := hw.1 q_
    exact kB_X9_writes_23 C vM  σ _ _ _ hG (lv_sub hl [] rfl) hw
  · have hw := hw.2 q_
    refine lv_aload_n hx hb dX9_writes_15 rfl (lv_at hl 1 rfl) ?_
    refine lv_iload_n hx hb dX9_writes_16 rfl (lv_at hl 2 rfl) ?_
    refine mV_i (As := [.int x1]) (rest := []) C (met_X9_isGuarded vE vM hw) (va_recv hK hP (ci := 11) (q0 := 0) rfl rfl) (cwV 1 hts (TB_G (TB_4 tw_6_170 tw_6_172 ts_51 tw_1_13) tw_6_173) rfl rfl rfl (by decide +kernel) ⟨by decide, by decide⟩) hP hD hS rfl hl.1 rfl (Nat.le_of_ble_eq_true rfl) dX9_writes_17 ⟨by decide, by decide⟩ (fun r_4 σ_5 H locs hw hP hD hS => ?_)
    have hG : mG D cA h ad A s σ_5 H locs := ⟨hP, hD, hS⟩
    refine lv_if_eq (tgt := 25) hx hb dX9_writes_20 (by decide) (fun q_ => ?_) (fun q_ => ?_)
    · have hw := hw.1 q_
      refine lv_iconst (v := 0) hx hb dX9_writes_25 (by decide) ?_
      refine lv_istore (lv' := [(4, .int 0), (3, .int r_2), (0, .ref h), (1, .int x1), (2, .int x2)]) hx hb dX9_writes_26 hl (by decide) rfl (fun ls hl => ?_)
      obtain ⟨n_, hw⟩ := hw
      exact kL_X9_writes_28 C vM n_ x1 x2 r_2 0 σ_5 _ _ _ hG (lv_sub hl [2, 3, 4, 1, 0] rfl) hw
    · have hw := hw.2 q_
      exact kB_X9_writes_23 C vM  σ_5 _ _ _ hG (lv_sub hl [] rfl) hw
set_option maxHeartbeats 4000000 in
set_option maxRecDepth 100000 in
theorem met_X9_writes {l : Launch} {E : EnvT} (vE : EnvOk E) {D : va_G} {cA : Nat → ClassId} {h : Nat} {ad : Nat → Nat} {σ : MS} {aK aV : Nat → Nat} (vM : eMs aK aV E) {sz : Nat} {x1 : Int32} {x2 : Int32} {post : Int32 → MS → Prop} (hw : wp_X9_writes post x1 x2 σ) : Met l yX9_writes wgX9_writes rm_X9_writes (va_Pc [.ref h, .int x1, .int x2] (mPre E D cA h ad sz σ)) (va_Qi post (mAt D cA h ad (va_A (mW cA h ad σ) sz)) (va_A (mW cA h ad σ) sz)) 0 0 (va_A (mW cA h ad σ) sz) := by
  refine Met.ofW (cc := cX9_writes) (maxL := 5) (ret := (some .boolean)) (by decide +kernel) rfl ?_
  intro p e s m args below meth c s₁ B hml hv
  obtain ⟨rfl, hsz, hP, hK, hD0, hE⟩ := hv
  subst hsz
  have hD := hD0.self (sz := s.heap.size)
  generalize hAe : va_A (mW cA h ad σ) s.heap.size = A at hD hE ⊢
  have hA : ∀ q : Nat, s.heap.size ≤ q → A q := fun q h => by rw [← hAe]; exact Or.inr h
  have hS : va_S A s.heap s.heap [] := va_S.rf
  have C : mCx p s m _ meth c cX9_writes 5 (some .boolean) wgX9_writes RX9 E D cA A := ⟨B.exec, B.bytes, hml, B.returns, findClass_of_methodNamed B.named, atoms_spec (ws := wgX9_writes) B.pre, hK, hA, B.notSynchronized, hE, vE⟩
  have hG : mG D cA h ad A s σ s.heap [] := ⟨hP, hD, hS⟩
  have hl := lv_entry ([.ref h, .int x1, .int x2]) (n := 5) (Nat.le_of_ble_eq_true rfl)
  rw [lg_entry_eq]
  generalize (lg_sl ([.ref h, .int x1, .int x2]) ++ List.replicate (5 - (lg_sl ([.ref h, .int x1, .int x2])).length) Slot.unset).toArray = ls at hl ⊢
  have hl : lv_has ls 5 [(0, .ref h), (1, .int x1), (2, .int x2)] := hl
  exact k_X9_writes C vM x1 x2 σ _ _ _ hG hl hw
