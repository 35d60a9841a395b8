/-! ===== write ===== -/
def rm_X9_write : Room := { frames := 7, cells := 0, slots := 0, locals := 156 }
abbrev wgX9_write : List Cond := .code yX9_write cX9_write 5 none :: TB
def wB_X9_write_169 (post : MS → Prop) (σ : MS) : Prop :=
  wp_X9_say (fun σ_6 => post σ_6) 59 σ
def wB_X9_write_149 (post : MS → Prop) (k119 : Int64 → Int32 → Int32 → MS → Prop) (x1 : Int64) (x3 : Int32) (x4 : Int32) (t0 : Int32) (σ : MS) : Prop :=
  wp_X9_say (fun σ_10 => wp_X9_part (fun r_11  => wp_X9_sayPart (fun σ_14 => ∀ x4_15 : Int32, x4_15 = x4 + 1 → k119 x1 x3 x4_15 σ_14) r_11 x1 σ_10) x3 x4) t0 σ
def wB_X9_write_119 (post : MS → Prop) (k119 : Int64 → Int32 → Int32 → MS → Prop) (x1 : Int64) (x3 : Int32) (x4 : Int32) (σ : MS) : Prop :=
  (4 ≤ x4 → (wB_X9_write_169 post σ)) ∧ (¬ 4 ≤ x4 → (wp_X9_part (fun r_7  => (r_7 = 46 → (wB_X9_write_169 post σ)) ∧ (¬ r_7 = 46 → ((x4 = 0 → (wB_X9_write_149 post k119 x1 x3 x4 32 σ)) ∧ (¬ x4 = 0 → (wB_X9_write_149 post k119 x1 x3 x4 44 σ))))) x3 x4))
def wL_X9_write_119 (post : MS → Prop) : Nat → Int64 → Int32 → Int32 → MS → Prop
  | 0 => fun _ _ _ _ => False
  | n + 1 => wB_X9_write_119 post (wL_X9_write_119 post n)
def wB_X9_write_116 (post : MS → Prop) (x1 : Int64) (x3 : Int32) (σ : MS) : Prop :=
  ∃ n, wL_X9_write_119 post n x1 x3 0 σ
def wB_X9_write_82 (post : MS → Prop) (k82 : Int64 → Int32 → Int32 → MS → Prop) (x1 : Int64) (x3 : Int32) (x4 : Int32) (σ : MS) : Prop :=
  (8 ≤ x4 → (wB_X9_write_116 post x1 x3 σ)) ∧ (¬ 8 ≤ x4 → (wp_X9_letterOf (fun r_16  => (r_16 = 32 → (wB_X9_write_116 post x1 x3 σ)) ∧ (¬ r_16 = 32 → (wp_X9_letterOf (fun r_18  => wp_X9_say (fun σ_21 => ∀ x4_22 : Int32, x4_22 = x4 + 1 → k82 x1 x3 x4_22 σ_21) r_18 σ) x3 x4))) x3 x4))
def wL_X9_write_82 (post : MS → Prop) : Nat → Int64 → Int32 → Int32 → MS → Prop
  | 0 => fun _ _ _ _ => False
  | n + 1 => wB_X9_write_82 post (wL_X9_write_82 post n)
def wB_X9_write_79 (post : MS → Prop) (x1 : Int64) (x3 : Int32) (σ : MS) : Prop :=
  ∃ n, wL_X9_write_82 post n x1 x3 0 σ
def wB_X9_write_56 (post : MS → Prop) (x1 : Int64) (x3 : Int32) (σ : MS) : Prop :=
  wp_X9_say (fun σ_28 => wp_X9_g (fun r_29  => wp_X9_sayNumber (fun σ_32 => wp_X9_say (fun σ_34 => wB_X9_write_79 post x1 x3 σ_34) 32 σ_32) ((r_29 &&& 3).toInt64) σ_28) x1) 112 σ
def wp_X9_write (post : MS → Prop) (x1 : Int64) (σ : MS) : Prop :=
  wp_X9_listed (fun r_1  => (r_1 = (-1) → (wp_X9_say (fun σ_38 => wp_X9_say (fun σ_40 => post σ_40) 59 σ_38) 63 (wI σ 30 0))) ∧ (¬ r_1 = (-1) → (wp_X9_g (fun r_3  => (r_3 ≤ 0 → (wB_X9_write_79 post x1 r_1 (wI σ 30 0))) ∧ (¬ r_3 ≤ 0 → (wp_X9_say (fun σ_24 => wp_X9_g (fun r_25  => (r_25 ≤ 11 → (wB_X9_write_56 post x1 r_1 σ_24)) ∧ (¬ r_25 ≤ 11 → (wp_X9_say (fun σ_36 => wB_X9_write_56 post x1 r_1 σ_36) 33 σ_24))) x1) 64 (wI σ 30 0)))) x1))) x1
set_option maxHeartbeats 4000000 in
set_option maxRecDepth 100000 in
theorem kB_X9_write_169 {p : Program} {l : Launch} {e : Env} {s : State} {m : MethodId} {args : Array Value} {below : List Frame} {meth : Method} {c : Code} {A : Nat → Prop} {E : EnvT} {aK aV : Nat → Nat} {D : va_G} {cA : Nat → ClassId} {h : Nat} {ad : Nat → Nat} (C : mCx p s m args meth c cX9_write 5 none wgX9_write RX9 E D cA A) (vM : eMs aK aV E) {post : MS → Prop} :
    ∀ (σ : MS) (H : Heap) (locs : List Loc) (ls : Array Slot), mG D cA h ad A s σ H locs → lv_has ls 5 [(0, .ref h)] → wB_X9_write_169 post σ → W p l e rm_X9_write s m args below meth c H locs 0 0 (MQ below (va_Qv post (mAt D cA h ad A) A) args s 0 0 A) (F0 m 169 ls []) := by
  obtain ⟨hx, hb, hml, hr, hown, hts, hK, hA, hlk, hE, vE⟩ := id C
  intro σ H locs ls hG hl hw
  obtain ⟨hP, hD, hS⟩ := id hG
  refine lv_aload_n hx hb dX9_write_169 rfl (lv_at hl 0 rfl) ?_
  refine lv_bipush (v := 59) hx hb dX9_write_170 (by decide) ?_
  refine mV_v (As := [.int 59]) (rest := []) C (met_X9_say vE vM hw) (va_recv hK hP (ci := 11) (q0 := 0) rfl rfl) (cwV 1 hts (TB_G (TB_4 tw_6_145 tw_6_147 ts_47 tw_1_13) tw_6_148) rfl rfl rfl (by decide +kernel) ⟨by decide, by decide⟩) hP hD hS rfl hl.1 rfl (Nat.le_of_ble_eq_true rfl) dX9_write_172 ⟨by decide, by decide⟩ (fun σ_6 H locs hw hP hD hS => ?_)
  have hG : mG D cA h ad A s σ_6 H locs := ⟨hP, hD, hS⟩
  exact W.vret hx hb hr (fun t ht hW => ⟨⟨σ_6, rfl, hw, by rw [ht]; exact hP, va_K.moved hW.alike hK, hD⟩, hS.F ht⟩) hS.2.2 dX9_write_175 hlk
set_option maxHeartbeats 4000000 in
set_option maxRecDepth 100000 in
theorem kB_X9_write_149 {p : Program} {l : Launch} {e : Env} {s : State} {m : MethodId} {args : Array Value} {below : List Frame} {meth : Method} {c : Code} {A : Nat → Prop} {E : EnvT} {aK aV : Nat → Nat} {D : va_G} {cA : Nat → ClassId} {h : Nat} {ad : Nat → Nat} (C : mCx p s m args meth c cX9_write 5 none wgX9_write RX9 E D cA A) (vM : eMs aK aV E) {post : MS → Prop}
    {k119 : Int64 → Int32 → Int32 → MS → Prop} (hk119 : ∀ (x1 : Int64) (x3 : Int32) (x4 : Int32) (σ : MS) (H : Heap) (locs : List Loc) (ls : Array Slot), mG D cA h ad A s σ H locs → lv_has ls 5 [(0, .ref h), (1, .long x1), (3, .int x3), (4, .int x4)] → k119 x1 x3 x4 σ → W p l e rm_X9_write s m args below meth c H locs 0 0 (MQ below (va_Qv post (mAt D cA h ad A) A) args s 0 0 A) (F0 m 119 ls [])) :
    ∀ (x1 : Int64) (x3 : Int32) (x4 : Int32) (t0 : Int32) (σ : MS) (H : Heap) (locs : List Loc) (ls : Array Slot), mG D cA h ad A s σ H locs → lv_has ls 5 [(0, .ref h), (1, .long x1), (3, .int x3), (4, .int x4)] → wB_X9_write_149 post k119 x1 x3 x4 t0 σ → W p l e rm_X9_write s m args below meth c H locs 0 0 (MQ below (va_Qv post (mAt D cA h ad A) A) args s 0 0 A) (F0 m 149 ls [.int t0, .ref h]) := by
  obtain ⟨hx, hb, hml, hr, hown, hts, hK, hA, hlk, hE, vE⟩ := id C
  intro x1 x3 x4 t0 σ H locs ls hG hl hw
  obtain ⟨hP, hD, hS⟩ := id hG
  refine mV_v (As := [.int t0]) (rest := []) C (met_X9_say vE vM hw) (va_recv hK hP (ci := 11) (q0 := 0) rfl rfl) (cwV 1 hts (TB_G (TB_4 tw_6_145 tw_6_147 ts_47 tw_1_13) tw_6_148) rfl rfl rfl (by decide +kernel) ⟨by decide, by decide⟩) hP hD hS rfl hl.1 rfl (Nat.le_of_ble_eq_true rfl) dX9_write_149 ⟨by decide, by decide⟩ (fun σ_10 H locs hw hP hD hS => ?_)
  have hG : mG D cA h ad A s σ_10 H locs := ⟨hP, hD, hS⟩
  refine lv_aload_n hx hb dX9_write_152 rfl (lv_at hl 0 rfl) ?_
  refine lv_iload_n hx hb dX9_write_153 rfl (lv_at hl 2 rfl) ?_
  refine lv_iload hx hb dX9_write_154 (lv_at hl 3 rfl) ?_
  refine mS_i (As := [.int x3, .int x4]) (rest := [.ref h]) C (met_X9_part vE vM hw) (va_cwS 2 hts (TB_G (TB_3 tw_6_77 tw_6_78 tw_1_13) tw_6_79) rfl rfl rfl (by decide +kernel) ⟨by decide, by decide⟩) hP hD hS rfl hl.1 rfl (Nat.le_of_ble_eq_true rfl) dX9_write_156 ⟨by decide, by decide⟩ (fun r_11 H locs hw hP hS => ?_)
  have hG : mG D cA h ad A s σ_10 H locs := ⟨hP, hD, hS⟩
  refine lv_lload_n hx hb dX9_write_159 rfl (lv_at hl 1 rfl) ?_
  refine mV_v (As := [.int r_11, .long x1]) (rest := []) C (met_X9_sayPart vE vM hw) (va_recv hK hP (ci := 11) (q0 := 0) rfl rfl) (cwV 2 hts (TB_G (TB_4 tw_6_154 tw_6_156 ts_49 tw_1_13) tw_6_157) rfl rfl rfl (by decide +kernel) ⟨by decide, by decide⟩) hP hD hS rfl hl.1 rfl (Nat.le_of_ble_eq_true rfl) dX9_write_160 ⟨by decide, by decide⟩ (fun σ_14 H locs hw hP hD hS => ?_)
  have hG : mG D cA h ad A s σ_14 H locs := ⟨hP, hD, hS⟩
  obtain ⟨x4_15, ex4_15⟩ : ∃ y : Int32, y = x4 + 1 := ⟨_, rfl⟩
  have hw := hw x4_15 ex4_15
  refine lv_iinc (v := x4_15) (lv' := [(4, .int x4_15), (0, .ref h), (1, .long x1), (3, .int x3)]) hx hb dX9_write_163 hl (k := 3) rfl (by rw [ex4_15]; rfl) (by decide) rfl (fun ls hl => ?_)
  refine lv_goto (tgt := 119) hx hb dX9_write_166 (by decide) ?_
  exact hk119 x1 x3 x4_15 σ_14 _ _ _ hG (lv_sub hl [1, 2, 3, 0] rfl) hw
set_option maxHeartbeats 4000000 in
set_option maxRecDepth 100000 in
theorem kB_X9_write_119 {p : Program} {l : Launch} {e : Env} {s : State} {m : MethodId} {args : Array Value} {below : List Frame} {meth : Method} {c : Code} {A : Nat → Prop} {E : EnvT} {aK aV : Nat → Nat} {D : va_G} {cA : Nat → ClassId} {h : Nat} {ad : Nat → Nat} (C : mCx p s m args meth c cX9_write 5 none wgX9_write RX9 E D cA A) (vM : eMs aK aV E) {post : MS → Prop}
    {k119 : Int64 → Int32 → Int32 → MS → Prop} (hk119 : ∀ (x1 : Int64) (x3 : Int32) (x4 : Int32) (σ : MS) (H : Heap) (locs : List Loc) (ls : Array Slot), mG D cA h ad A s σ H locs → lv_has ls 5 [(0, .ref h), (1, .long x1), (3, .int x3), (4, .int x4)] → k119 x1 x3 x4 σ → W p l e rm_X9_write s m args below meth c H locs 0 0 (MQ below (va_Qv post (mAt D cA h ad A) A) args s 0 0 A) (F0 m 119 ls [])) :
    ∀ (x1 : Int64) (x3 : Int32) (x4 : Int32) (σ : MS) (H : Heap) (locs : List Loc) (ls : Array Slot), mG D cA h ad A s σ H locs → lv_has ls 5 [(0, .ref h), (1, .long x1), (3, .int x3), (4, .int x4)] → wB_X9_write_119 post k119 x1 x3 x4 σ → W p l e rm_X9_write s m args below meth c H locs 0 0 (MQ below (va_Qv post (mAt D cA h ad A) A) args s 0 0 A) (F0 m 119 ls []) := by
  obtain ⟨hx, hb, hml, hr, hown, hts, hK, hA, hlk, hE, vE⟩ := id C
  intro x1 x3 x4 σ H locs ls hG hl hw
  obtain ⟨hP, hD, hS⟩ := id hG
  refine lv_iload hx hb dX9_write_119 (lv_at hl 3 rfl) ?_
  refine lv_iconst (v := 4) hx hb dX9_write_121 (by decide) ?_
  refine lv_icmp_ge (tgt := 169) hx hb dX9_write_122 (by decide) (fun q_ => ?_) (fun q_ => ?_)
  · have hw := hw.1 q_
    exact kB_X9_write_169 C vM  σ _ _ _ hG (lv_sub hl [0] rfl) hw
  · have hw := hw.2 q_
    refine lv_iload_n hx hb dX9_write_125 rfl (lv_at hl 2 rfl) ?_
    refine lv_iload hx hb dX9_write_126 (lv_at hl 3 rfl) ?_
    refine mS_i (As := [.int x3, .int x4]) (rest := []) C (met_X9_part vE vM hw) (va_cwS 2 hts (TB_G (TB_3 tw_6_77 tw_6_78 tw_1_13) tw_6_79) rfl rfl rfl (by decide +kernel) ⟨by decide, by decide⟩) hP hD hS rfl hl.1 rfl (Nat.le_of_ble_eq_true rfl) dX9_write_128 ⟨by decide, by decide⟩ (fun r_7 H locs hw hP hS => ?_)
    have hG : mG D cA h ad A s σ H locs := ⟨hP, hD, hS⟩
    refine lv_bipush (v := 46) hx hb dX9_write_131 (by decide) ?_
    refine lv_icmp_eq (tgt := 169) hx hb dX9_write_133 (by decide) (fun q_ => ?_) (fun q_ => ?_)
    · have hw := hw.1 q_
      exact kB_X9_write_169 C vM  σ _ _ _ hG (lv_sub hl [0] rfl) hw
    · have hw := hw.2 q_
      refine lv_aload_n hx hb dX9_write_136 rfl (lv_at hl 0 rfl) ?_
      refine lv_iload hx hb dX9_write_137 (lv_at hl 3 rfl) ?_
      refine lv_if_ne (tgt := 147) hx hb dX9_write_139 (by decide) (fun q_ => ?_) (fun q_ => ?_)
      · have hw := hw.2 q_
        refine lv_bipush (v := 44) hx hb dX9_write_147 (by decide) ?_
        exact kB_X9_write_149 C vM hk119 x1 x3 x4 44 σ _ _ _ hG (lv_sub hl [0, 1, 2, 3] rfl) hw
      · have hw := hw.1 q_
        refine lv_bipush (v := 32) hx hb dX9_write_142 (by decide) ?_
        refine lv_goto (tgt := 149) hx hb dX9_write_144 (by decide) ?_
        exact kB_X9_write_149 C vM hk119 x1 x3 x4 32 σ _ _ _ hG (lv_sub hl [0, 1, 2, 3] rfl) hw
theorem kL_X9_write_119 {p : Program} {l : Launch} {e : Env} {s : State} {m : MethodId} {args : Array Value} {below : List Frame} {meth : Method} {c : Code} {A : Nat → Prop} {E : EnvT} {aK aV : Nat → Nat} {D : va_G} {cA : Nat → ClassId} {h : Nat} {ad : Nat → Nat} (C : mCx p s m args meth c cX9_write 5 none wgX9_write RX9 E D cA A) (vM : eMs aK aV E) {post : MS → Prop} :
    ∀ (n : Nat) (x1 : Int64) (x3 : Int32) (x4 : Int32) (σ : MS) (H : Heap) (locs : List Loc) (ls : Array Slot), mG D cA h ad A s σ H locs → lv_has ls 5 [(0, .ref h), (1, .long x1), (3, .int x3), (4, .int x4)] → wL_X9_write_119 post n x1 x3 x4 σ → W p l e rm_X9_write s m args below meth c H locs 0 0 (MQ below (va_Qv post (mAt D cA h ad A) A) args s 0 0 A) (F0 m 119 ls []) := by
  intro n
  induction n with
  | zero => intro x1 x3 x4 σ H locs ls hG hl hw; exact hw.elim
  | succ n ih => exact kB_X9_write_119 C vM ih
set_option maxHeartbeats 4000000 in
set_option maxRecDepth 100000 in
theorem kB_X9_write_116 {p : Program} {l : Launch} {e : Env} {s : State} {m : MethodId} {args : Array Value} {below : List Frame} {meth : Method} {c : Code} {A : Nat → Prop} {E : EnvT} {aK aV : Nat → Nat} {D : va_G} {cA : Nat → ClassId} {h : Nat} {ad : Nat → Nat} (C : mCx p s m args meth c cX9_write 5 none wgX9_write RX9 E D cA A) (vM : eMs aK aV E) {post : MS → Prop} :
    ∀ (x1 : Int64) (x3 : Int32) (σ : MS) (H : Heap) (locs : List Loc) (ls : Array Slot), mG D cA h ad A s σ H locs → lv_has ls 5 [(0, .ref h), (1, .long x1), (3, .int x3)] → wB_X9_write_116 post x1 x3 σ → W p l e rm_X9_write s m args below meth c H locs 0 0 (MQ below (va_Qv post (mAt D cA h ad A) A) args s 0 0 A) (F0 m 116 ls []) := by
  obtain ⟨hx, hb, hml, hr, hown, hts, hK, hA, hlk, hE, vE⟩ := id C
  intro x1 x3 σ H locs ls hG hl hw
  obtain ⟨hP, hD, hS⟩ := id hG
  refine lv_iconst (v := 0) hx hb dX9_write_116 (by decide) ?_
  refine lv_istore (lv' := [(4, .int 0), (0, .ref h), (1, .long x1), (3, .int x3)]) hx hb dX9_write_117 hl (by decide) rfl (fun ls hl => ?_)
  obtain ⟨n_, hw⟩ := hw
  exact kL_X9_write_119 C vM n_ x1 x3 0 σ _ _ _ hG (lv_sub hl [1, 2, 3, 0] rfl) hw
set_option maxHeartbeats 4000000 in
set_option maxRecDepth 100000 in
theorem kB_X9_write_82 {p : Program} {l : Launch} {e : Env} {s : State} {m : MethodId} {args : Array Value} {below : List Frame} {meth : Method} {c : Code} {A : Nat → Prop} {E : EnvT} {aK aV : Nat → Nat} {D : va_G} {cA : Nat → ClassId} {h : Nat} {ad : Nat → Nat} (C : mCx p s m args meth c cX9_write 5 none wgX9_write RX9 E D cA A) (vM : eMs aK aV E) {post : MS → Prop}
    {k82 : Int64 → Int32 → Int32 → MS → Prop} (hk82 : ∀ (x1 : Int64) (x3 : Int32) (x4 : Int32) (σ : MS) (H : Heap) (locs : List Loc) (ls : Array Slot), mG D cA h ad A s σ H locs → lv_has ls 5 [(0, .ref h), (1, .long x1), (3, .int x3), (4, .int x4)] → k82 x1 x3 x4 σ → W p l e rm_X9_write s m args below meth c H locs 0 0 (MQ below (va_Qv post (mAt D cA h ad A) A) args s 0 0 A) (F0 m 82 ls [])) :
    ∀ (x1 : Int64) (x3 : Int32) (x4 : Int32) (σ : MS) (H : Heap) (locs : List Loc) (ls : Array Slot), mG D cA h ad A s σ H locs → lv_has ls 5 [(0, .ref h), (1, .long x1), (3, .int x3), (4, .int x4)] → wB_X9_write_82 post k82 x1 x3 x4 σ → W p l e rm_X9_write s m args below meth c H locs 0 0 (MQ below (va_Qv post (mAt D cA h ad A) A) args s 0 0 A) (F0 m 82 ls []) := by
  obtain ⟨hx, hb, hml, hr, hown, hts, hK, hA, hlk, hE, vE⟩ := id C
  intro x1 x3 x4 σ H locs ls hG hl hw
  obtain ⟨hP, hD, hS⟩ := id hG
  refine lv_iload hx hb dX9_write_82 (lv_at hl 3 rfl) ?_
  refine lv_bipush (v := 8) hx hb dX9_write_84 (by decide) ?_
  refine lv_icmp_ge (tgt := 116) hx hb dX9_write_86 (by decide) (fun q_ => ?_) (fun q_ => ?_)
  · have hw := hw.1 q_
    exact kB_X9_write_116 C vM x1 x3 σ _ _ _ hG (lv_sub hl [0, 1, 2] rfl) hw
  · have hw := hw.2 q_
    refine lv_iload_n hx hb dX9_write_89 rfl (lv_at hl 2 rfl) ?_
    refine lv_iload hx hb dX9_write_90 (lv_at hl 3 rfl) ?_
    refine mS_i (As := [.int x3, .int x4]) (rest := []) C (met_X9_letterOf vE vM hw) (va_cwS 2 hts (TB_G (TB_3 tw_6_57 tw_6_58 tw_1_13) tw_6_59) rfl rfl rfl (by decide +kernel) ⟨by decide, by decide⟩) hP hD hS rfl hl.1 rfl (Nat.le_of_ble_eq_true rfl) dX9_write_92 ⟨by decide, by decide⟩ (fun r_16 H locs hw hP hS => ?_)
    have hG : mG D cA h ad A s σ H locs := ⟨hP, hD, hS⟩
    refine lv_bipush (v := 32) hx hb dX9_write_95 (by decide) ?_
    refine lv_icmp_eq (tgt := 116) hx hb dX9_write_97 (by decide) (fun q_ => ?_) (fun q_ => ?_)
    · have hw := hw.1 q_
      exact kB_X9_write_116 C vM x1 x3 σ _ _ _ hG (lv_sub hl [0, 1, 2] rfl) hw
    · have hw := hw.2 q_
      refine lv_aload_n hx hb dX9_write_100 rfl (lv_at hl 0 rfl) ?_
      refine lv_iload_n hx hb dX9_write_101 rfl (lv_at hl 2 rfl) ?_
      refine lv_iload hx hb dX9_write_102 (lv_at hl 3 rfl) ?_
      refine mS_i (As := [.int x3, .int x4]) (rest := [.ref h]) C (met_X9_letterOf vE vM hw) (va_cwS 2 hts (TB_G (TB_3 tw_6_57 tw_6_58 tw_1_13) tw_6_59) rfl rfl rfl (by decide +kernel) ⟨by decide, by decide⟩) hP hD hS rfl hl.1 rfl (Nat.le_of_ble_eq_true rfl) dX9_write_104 ⟨by decide, by decide⟩ (fun r_18 H locs hw hP hS => ?_)
      have hG : mG D cA h ad A s σ H locs := ⟨hP, hD, hS⟩
      refine mV_v (As := [.int r_18]) (rest := []) C (met_X9_say vE vM hw) (va_recv hK hP (ci := 11) (q0 := 0) rfl rfl) (cwV 1 hts (TB_G (TB_4 tw_6_145 tw_6_147 ts_47 tw_1_13) tw_6_148) rfl rfl rfl (by decide +kernel) ⟨by decide, by decide⟩) hP hD hS rfl hl.1 rfl (Nat.le_of_ble_eq_true rfl) dX9_write_107 ⟨by decide, by decide⟩ (fun σ_21 H locs hw hP hD hS => ?_)
      have hG : mG D cA h ad A s σ_21 H locs := ⟨hP, hD, hS⟩
      obtain ⟨x4_22, ex4_22⟩ : ∃ y : Int32, y = x4 + 1 := ⟨_, rfl⟩
      have hw := hw x4_22 ex4_22
      refine lv_iinc (v := x4_22) (lv' := [(4, .int x4_22), (0, .ref h), (1, .long x1), (3, .int x3)]) hx hb dX9_write_110 hl (k := 3) rfl (by rw [ex4_22]; rfl) (by decide) rfl (fun ls hl => ?_)
      refine lv_goto (tgt := 82) hx hb dX9_write_113 (by decide) ?_
      exact hk82 x1 x3 x4_22 σ_21 _ _ _ hG (lv_sub hl [1, 2, 3, 0] rfl) hw
theorem kL_X9_write_82 {p : Program} {l : Launch} {e : Env} {s : State} {m : MethodId} {args : Array Value} {below : List Frame} {meth : Method} {c : Code} {A : Nat → Prop} {E : EnvT} {aK aV : Nat → Nat} {D : va_G} {cA : Nat → ClassId} {h : Nat} {ad : Nat → Nat} (C : mCx p s m args meth c cX9_write 5 none wgX9_write RX9 E D cA A) (vM : eMs aK aV E) {post : MS → Prop} :
    ∀ (n : Nat) (x1 : Int64) (x3 : Int32) (x4 : Int32) (σ : MS) (H : Heap) (locs : List Loc) (ls : Array Slot), mG D cA h ad A s σ H locs → lv_has ls 5 [(0, .ref h), (1, .long x1), (3, .int x3), (4, .int x4)] → wL_X9_write_82 post n x1 x3 x4 σ → W p l e rm_X9_write s m args below meth c H locs 0 0 (MQ below (va_Qv post (mAt D cA h ad A) A) args s 0 0 A) (F0 m 82 ls []) := by
  intro n
  induction n with
  | zero => intro x1 x3 x4 σ H locs ls hG hl hw; exact hw.elim
  | succ n ih => exact kB_X9_write_82 C vM ih
set_option maxHeartbeats 4000000 in
set_option maxRecDepth 100000 in
theorem kB_X9_write_79 {p : Program} {l : Launch} {e : Env} {s : State} {m : MethodId} {args : Array Value} {below : List Frame} {meth : Method} {c : Code} {A : Nat → Prop} {E : EnvT} {aK aV : Nat → Nat} {D : va_G} {cA : Nat → ClassId} {h : Nat} {ad : Nat → Nat} (C : mCx p s m args meth c cX9_write 5 none wgX9_write RX9 E D cA A) (vM : eMs aK aV E) {post : MS → Prop} :
    ∀ (x1 : Int64) (x3 : Int32) (σ : MS) (H : Heap) (locs : List Loc) (ls : Array Slot), mG D cA h ad A s σ H locs → lv_has ls 5 [(0, .ref h), (1, .long x1), (3, .int x3)] → wB_X9_write_79 post x1 x3 σ → W p l e rm_X9_write s m args below meth c H locs 0 0 (MQ below (va_Qv post (mAt D cA h ad A) A) args s 0 0 A) (F0 m 79 ls []) := by
  obtain ⟨hx, hb, hml, hr, hown, hts, hK, hA, hlk, hE, vE⟩ := id C
  intro x1 x3 σ H locs ls hG hl hw
  obtain ⟨hP, hD, hS⟩ := id hG
  refine lv_iconst (v := 0) hx hb dX9_write_79 (by decide) ?_
  refine lv_istore (lv' := [(4, .int 0), (0, .ref h), (1, .long x1), (3, .int x3)]) hx hb dX9_write_80 hl (by decide) rfl (fun ls hl => ?_)
  obtain ⟨n_, hw⟩ := hw
  exact kL_X9_write_82 C vM n_ x1 x3 0 σ _ _ _ hG (lv_sub hl [1, 2, 3, 0] rfl) hw
set_option maxHeartbeats 4000000 in
set_option maxRecDepth 100000 in
theorem kB_X9_write_56 {p : Program} {l : Launch} {e : Env} {s : State} {m : MethodId} {args : Array Value} {below : List Frame} {meth : Method} {c : Code} {A : Nat → Prop} {E : EnvT} {aK aV : Nat → Nat} {D : va_G} {cA : Nat → ClassId} {h : Nat} {ad : Nat → Nat} (C : mCx p s m args meth c cX9_write 5 none wgX9_write RX9 E D cA A) (vM : eMs aK aV E) {post : MS → Prop} :
    ∀ (x1 : Int64) (x3 : Int32) (σ : MS) (H : Heap) (locs : List Loc) (ls : Array Slot), mG D cA h ad A s σ H locs → lv_has ls 5 [(0, .ref h), (1, .long x1), (3, .int x3)] → wB_X9_write_56 post x1 x3 σ → W p l e rm_X9_write s m args below meth c H locs 0 0 (MQ below (va_Qv post (mAt D cA h ad A) A) args s 0 0 A) (F0 m 56 ls []) := by
  obtain ⟨hx, hb, hml, hr, hown, hts, hK, hA, hlk, hE, vE⟩ := id C
  intro x1 x3 σ H locs ls hG hl hw
  obtain ⟨hP, hD, hS⟩ := id hG
  refine lv_aload_n hx hb dX9_write_56 rfl (lv_at hl 0 rfl) ?_
  refine lv_bipush (v := 112) hx hb dX9_write_57 (by decide) ?_
  refine mV_v (As := [.int 112]) (rest := []) C (met_X9_say vE vM hw) (va_recv hK hP (ci := 11) (q0 := 0) rfl rfl) (cwV 1 hts (TB_G (TB_4 tw_6_145 tw_6_147 ts_47 tw_1_13) tw_6_148) rfl rfl rfl (by decide +kernel) ⟨by decide, by decide⟩) hP hD hS rfl hl.1 rfl (Nat.le_of_ble_eq_true rfl) dX9_write_59 ⟨by decide, by decide⟩ (fun σ_28 H locs hw hP hD hS => ?_)
  have hG : mG D cA h ad A s σ_28 H locs := ⟨hP, hD, hS⟩
  refine lv_aload_n hx hb dX9_write_62 rfl (lv_at hl 0 rfl) ?_
  refine lv_lload_n hx hb dX9_write_63 rfl (lv_at hl 1 rfl) ?_
  refine mS_i (As := [.long x1]) (rest := [.ref h]) C (met_X9_g vE vM hw) (va_cwS 1 hts (TB_G (TB_3 tw_6_129 tw_6_130 tw_1_13) tw_6_131) rfl rfl rfl (by decide +kernel) ⟨by decide, by decide⟩) hP hD hS rfl hl.1 rfl (Nat.le_of_ble_eq_true rfl) dX9_write_64 ⟨by decide, by decide⟩ (fun r_29 H locs hw hP hS => ?_)
  have hG : mG D cA h ad A s σ_28 H locs := ⟨hP, hD, hS⟩
  refine lv_iconst (v := 3) hx hb dX9_write_67 (by decide) ?_
  refine lv_iand hx hb dX9_write_68 ?_
  refine lv_i2l hx hb dX9_write_69 rfl ?_
  refine mV_v (As := [.long ((r_29 &&& 3).toInt64)]) (rest := []) C (met_X9_sayNumber vE vM hw) (va_recv hK hP (ci := 11) (q0 := 0) rfl rfl) (cwV 1 hts (TB_G (TB_4 tw_6_149 tw_6_151 ts_48 tw_1_13) tw_6_152) rfl rfl rfl (by decide +kernel) ⟨by decide, by decide⟩) hP hD hS rfl hl.1 rfl (Nat.le_of_ble_eq_true rfl) dX9_write_70 ⟨by decide, by decide⟩ (fun σ_32 H locs hw hP hD hS => ?_)
  have hG : mG D cA h ad A s σ_32 H locs := ⟨hP, hD, hS⟩
  refine lv_aload_n hx hb dX9_write_73 rfl (lv_at hl 0 rfl) ?_
  refine lv_bipush (v := 32) hx hb dX9_write_74 (by decide) ?_
  refine mV_v (As := [.int 32]) (rest := []) C (met_X9_say vE vM hw) (va_recv hK hP (ci := 11) (q0 := 0) rfl rfl) (cwV 1 hts (TB_G (TB_4 tw_6_145 tw_6_147 ts_47 tw_1_13) tw_6_148) rfl rfl rfl (by decide +kernel) ⟨by decide, by decide⟩) hP hD hS rfl hl.1 rfl (Nat.le_of_ble_eq_true rfl) dX9_write_76 ⟨by decide, by decide⟩ (fun σ_34 H locs hw hP hD hS => ?_)
  have hG : mG D cA h ad A s σ_34 H locs := ⟨hP, hD, hS⟩
  exact kB_X9_write_79 C vM x1 x3 σ_34 _ _ _ hG (lv_sub hl [0, 1, 2] rfl) hw
set_option maxHeartbeats 4000000 in
set_option maxRecDepth 100000 in
theorem k_X9_write {p : Program} {l : Launch} {e : Env} {s : State} {m : MethodId} {args : Array Value} {below : List Frame} {meth : Method} {c : Code} {A : Nat → Prop} {E : EnvT} {aK aV : Nat → Nat} {D : va_G} {cA : Nat → ClassId} {h : Nat} {ad : Nat → Nat} (C : mCx p s m args meth c cX9_write 5 none wgX9_write RX9 E D cA A) (vM : eMs aK aV E) {post : MS → Prop} :
    ∀ (x1 : Int64) (σ : MS) (H : Heap) (locs : List Loc) (ls : Array Slot), mG D cA h ad A s σ H locs → lv_has ls 5 [(0, .ref h), (1, .long x1)] → wp_X9_write post x1 σ → W p l e rm_X9_write s m args below meth c H locs 0 0 (MQ below (va_Qv post (mAt D cA h ad A) A) args s 0 0 A) (F0 m 0 ls []) := by
  obtain ⟨hx, hb, hml, hr, hown, hts, hK, hA, hlk, hE, vE⟩ := id C
  intro x1 σ H locs ls hG hl hw
  obtain ⟨hP, hD, hS⟩ := id hG
  refine lv_aload_n hx hb dX9_write_0 rfl (lv_at hl 0 rfl) ?_
  refine lv_iconst (v := 0) hx hb dX9_write_1 (by decide) ?_
  refine va_put (D := D) (ci := 11) (v := .int 0) (ty := .int) (C := RX9) (T := TX9) (N := 32) hx hb hts (in_tb inX9) tyX9 tyX9_ok nmX9 hown hK hP hD hS 0 rfl rfl 30 (by decide) (hts _ (List.mem_cons_of_mem _ tw_5_140)) (fun _ h9 => h9) rfl (by decide +kernel) rfl rfl (Nat.le_of_ble_eq_true rfl) dX9_write_2 (fun H locs hP hD hS => ?_)
  have hG : mG D cA h ad A s (wI σ 30 0) H locs := ⟨hP, hD, hS⟩
  obtain ⟨hP, hD, hS⟩ := id hG
  refine lv_lload_n hx hb dX9_write_5 rfl (lv_at hl 1 rfl) ?_
  refine mS_i (As := [.long x1]) (rest := []) C (met_X9_listed vE vM hw) (va_cwS 1 hts (TB_G (TB_3 tw_6_120 tw_6_121 tw_1_13) tw_6_122) rfl rfl rfl (by decide +kernel) ⟨by decide, by decide⟩) hP hD hS rfl hl.1 rfl (Nat.le_of_ble_eq_true rfl) dX9_write_6 ⟨by decide, by decide⟩ (fun r_1 H locs hw hP hS => ?_)
  have hG : mG D cA h ad A s (wI σ 30 0) H locs := ⟨hP, hD, hS⟩
  refine lv_istore_n (lv' := [(3, .int r_1), (0, .ref h), (1, .long x1)]) hx hb dX9_write_9 rfl hl (by decide) rfl (fun ls hl => ?_)
  refine lv_iload_n hx hb dX9_write_10 rfl (lv_at hl 0 rfl) ?_
  refine lv_iconst (v := (-1)) hx hb dX9_write_11 (by decide) ?_
  refine lv_icmp_ne (tgt := 28) hx hb dX9_write_12 (by decide) (fun q_ => ?_) (fun q_ => ?_)
  · have hw := hw.2 q_
    refine lv_lload_n hx hb dX9_write_28 rfl (lv_at hl 2 rfl) ?_
    refine mS_i (As := [.long x1]) (rest := []) C (met_X9_g vE vM hw) (va_cwS 1 hts (TB_G (TB_3 tw_6_129 tw_6_130 tw_1_13) tw_6_131) rfl rfl rfl (by decide +kernel) ⟨by decide, by decide⟩) hP hD hS rfl hl.1 rfl (Nat.le_of_ble_eq_true rfl) dX9_write_29 ⟨by decide, by decide⟩ (fun r_3 H locs hw hP hS => ?_)
    have hG : mG D cA h ad A s (wI σ 30 0) H locs := ⟨hP, hD, hS⟩
    refine lv_if_le (tgt := 79) hx hb dX9_write_32 (by decide) (fun q_ => ?_) (fun q_ => ?_)
    · have hw := hw.1 q_
      exact kB_X9_write_79 C vM x1 r_1 (wI σ 30 0) _ _ _ hG (lv_sub hl [1, 2, 0] rfl) hw
    · have hw := hw.2 q_
      refine lv_aload_n hx hb dX9_write_35 rfl (lv_at hl 1 rfl) ?_
      refine lv_bipush (v := 64) hx hb dX9_write_36 (by decide) ?_
      refine mV_v (As := [.int 64]) (rest := []) C (met_X9_say vE vM hw) (va_recv hK hP (ci := 11) (q0 := 0) rfl rfl) (cwV 1 hts (TB_G (TB_4 tw_6_145 tw_6_147 ts_47 tw_1_13) tw_6_148) rfl rfl rfl (by decide +kernel) ⟨by decide, by decide⟩) hP hD hS rfl hl.1 rfl (Nat.le_of_ble_eq_true rfl) dX9_write_38 ⟨by decide, by decide⟩ (fun σ_24 H locs hw hP hD hS => ?_)
      have hG : mG D cA h ad A s σ_24 H locs := ⟨hP, hD, hS⟩
      refine lv_lload_n hx hb dX9_write_41 rfl (lv_at hl 2 rfl) ?_
      refine mS_i (As := [.long x1]) (rest := []) C (met_X9_g vE vM hw) (va_cwS 1 hts (TB_G (TB_3 tw_6_129 tw_6_130 tw_1_13) tw_6_131) rfl rfl rfl (by decide +kernel) ⟨by decide, by decide⟩) hP hD hS rfl hl.1 rfl (Nat.le_of_ble_eq_true rfl) dX9_write_42 ⟨by decide, by decide⟩ (fun r_25 H locs hw hP hS => ?_)
      have hG : mG D cA h ad A s σ_24 H locs := ⟨hP, hD, hS⟩
      refine lv_bipush (v := 11) hx hb dX9_write_45 (by decide) ?_
      refine lv_icmp_le (tgt := 56) hx hb dX9_write_47 (by decide) (fun q_ => ?_) (fun q_ => ?_)
      · have hw := hw.1 q_
        exact kB_X9_write_56 C vM x1 r_1 σ_24 _ _ _ hG (lv_sub hl [1, 2, 0] rfl) hw
      · have hw := hw.2 q_
        refine lv_aload_n hx hb dX9_write_50 rfl (lv_at hl 1 rfl) ?_
        refine lv_bipush (v := 33) hx hb dX9_write_51 (by decide) ?_
        refine mV_v (As := [.int 33]) (rest := []) C (met_X9_say vE vM hw) (va_recv hK hP (ci := 11) (q0 := 0) rfl rfl) (cwV 1 hts (TB_G (TB_4 tw_6_145 tw_6_147 ts_47 tw_1_13) tw_6_148) rfl rfl rfl (by decide +kernel) ⟨by decide, by decide⟩) hP hD hS rfl hl.1 rfl (Nat.le_of_ble_eq_true rfl) dX9_write_53 ⟨by decide, by decide⟩ (fun σ_36 H locs hw hP hD hS => ?_)
        have hG : mG D cA h ad A s σ_36 H locs := ⟨hP, hD, hS⟩
        exact kB_X9_write_56 C vM x1 r_1 σ_36 _ _ _ hG (lv_sub hl [1, 2, 0] rfl) hw
  · have hw := hw.1 q_
    refine lv_aload_n hx hb dX9_write_15 rfl (lv_at hl 1 rfl) ?_
    refine lv_bipush (v := 63) hx hb dX9_write_16 (by decide) ?_
    refine mV_v (As := [.int 63]) (rest := []) C (met_X9_say vE vM hw) (va_recv hK hP (ci := 11) (q0 := 0) rfl rfl) (cwV 1 hts (TB_G (TB_4 tw_6_145 tw_6_147 ts_47 tw_1_13) tw_6_148) rfl rfl rfl (by decide +kernel) ⟨by decide, by decide⟩) hP hD hS rfl hl.1 rfl (Nat.le_of_ble_eq_true rfl) dX9_write_18 ⟨by decide, by decide⟩ (fun σ_38 H locs hw hP hD hS => ?_)
    have hG : mG D cA h ad A s σ_38 H locs := ⟨hP, hD, hS⟩
    refine lv_aload_n hx hb dX9_write_21 rfl (lv_at hl 1 rfl) ?_
    refine lv_bipush (v := 59) hx hb dX9_write_22 (by decide) ?_
    refine mV_v (As := [.int 59]) (rest := []) C (met_X9_say vE vM hw) (va_recv hK hP (ci := 11) (q0 := 0) rfl rfl) (cwV 1 hts (TB_G (TB_4 tw_6_145 tw_6_147 ts_47 tw_1_13) tw_6_148) rfl rfl rfl (by decide +kernel) ⟨by decide, by decide⟩) hP hD hS rfl hl.1 rfl (Nat.le_of_ble_eq_true rfl) dX9_write_24 ⟨by decide, by decide⟩ (fun σ_40 H locs hw hP hD hS => ?_)
    have hG : mG D cA h ad A s σ_40 H locs := ⟨hP, hD, hS⟩
    exact W.vret hx hb hr (fun t ht hW => ⟨⟨σ_40, rfl, hw, by rw [ht]; exact hP, va_K.moved hW.alike hK, hD⟩, hS.F ht⟩) hS.2.2 dX9_write_27 hlk
set_option maxHeartbeats 4000000 in
set_option maxRecDepth 100000 in
theorem met_X9_write {l : Launch} {E : EnvT} (vE : EnvOk E) {D : va_G} {cA : Nat → ClassId} {h : Nat} {ad : Nat → Nat} {σ : MS} {aK aV : Nat → Nat} (vM : eMs aK aV E) {sz : Nat} {x1 : Int64} {post : MS → Prop} (hw : wp_X9_write post x1 σ) : Met l yX9_write wgX9_write rm_X9_write (va_Pc [.ref h, .long x1] (mPre E D cA h ad sz σ)) (va_Qv post (mAt D cA h ad (va_A (mW cA h ad σ) sz)) (va_A (mW cA h ad σ) sz)) 0 0 (va_A (mW cA h ad σ) sz) := by
  refine Met.ofW (cc := cX9_write) (maxL := 5) (ret := none) (by decide +kernel) rfl ?_
  intro p e s m args below meth c s₁ B hml hv
  obtain ⟨rfl, hsz, hP, hK, hD0, hE⟩ := hv
  subst hsz
  have hD := hD0.self (sz := s.heap.size)
  generalize hAe : va_A (mW cA h ad σ) s.heap.size = A at hD hE ⊢
  have hA : ∀ q : Nat, s.heap.size ≤ q → A q := fun q h => by rw [← hAe]; exact Or.inr h
  have hS : va_S A s.heap s.heap [] := va_S.rf
  have C : mCx p s m _ meth c cX9_write 5 none wgX9_write RX9 E D cA A := ⟨B.exec, B.bytes, hml, B.returns, findClass_of_methodNamed B.named, atoms_spec (ws := wgX9_write) B.pre, hK, hA, B.notSynchronized, hE, vE⟩
  have hG : mG D cA h ad A s σ s.heap [] := ⟨hP, hD, hS⟩
  have hl := lv_entry ([.ref h, .long x1]) (n := 5) (Nat.le_of_ble_eq_true rfl)
  rw [lg_entry_eq]
  generalize (lg_sl ([.ref h, .long x1]) ++ List.replicate (5 - (lg_sl ([.ref h, .long x1])).length) Slot.unset).toArray = ls at hl ⊢
  have hl : lv_has ls 5 [(0, .ref h), (1, .long x1)] := hl
  exact k_X9_write C vM x1 σ _ _ _ hG hl hw
/-! ===== isPlace ===== -/
def rm_X9_isPlace : Room := { frames := 0, cells := 0, slots := 0, locals := 0 }
abbrev wgX9_isPlace : List Cond := .code yX9_isPlace cX9_isPlace 2 (some .boolean) :: TB
def wB_X9_isPlace_17 (post : Int32 → MS → Prop) (t0 : Int32) (σ : MS) : Prop :=
  isB t0 ∧ (post t0 σ)
def wB_X9_isPlace_16 (post : Int32 → MS → Prop) (σ : MS) : Prop :=
  wB_X9_isPlace_17 post 0 σ
def wp_X9_isPlace (post : Int32 → MS → Prop) (x1 : Int32) (σ : MS) : Prop :=
  (x1 < 0 → (wB_X9_isPlace_16 post σ)) ∧ (¬ x1 < 0 → (((mI σ 11) ≤ x1 → (wB_X9_isPlace_16 post σ)) ∧ (¬ (mI σ 11) ≤ x1 → (wB_X9_isPlace_17 post 1 σ))))
set_option maxHeartbeats 4000000 in
set_option maxRecDepth 100000 in
theorem kB_X9_isPlace_17 {p : Program} {l : Launch} {e : Env} {s : State} {m : MethodId} {args : Array Value} {below : List Frame} {meth : Method} {c : Code} {A : Nat → Prop} {E : EnvT} {aK aV : Nat → Nat} {D : va_G} {cA : Nat → ClassId} {h : Nat} {ad : Nat → Nat} (C : mCx p s m args meth c cX9_isPlace 2 (some .boolean) wgX9_isPlace RX9 E D cA A) (vM : eMs aK aV E) {post : Int32 → MS → Prop} :
    ∀ (t0 : Int32) (σ : MS) (H : Heap) (locs : List Loc) (ls : Array Slot), mG D cA h ad A s σ H locs → lv_has ls 2 [] → wB_X9_isPlace_17 post t0 σ → W p l e rm_X9_isPlace s m args below meth c H locs 0 0 (MQ below (va_Qi post (mAt D cA h ad A) A) args s 0 0 A) (F0 m 17 ls [.int t0]) := by
  obtain ⟨hx, hb, hml, hr, hown, hts, hK, hA, hlk, hE, vE⟩ := id C
  intro t0 σ H locs ls hG hl hw
  obtain ⟨hP, hD, hS⟩ := id hG
  obtain ⟨h_1, hw⟩ := hw
  exact W.zret (v := t0) (ty := .boolean) hx hb hr (isB.n h_1) (fun t ht hW => ⟨⟨_, σ, rfl, hw, by rw [ht]; exact hP, va_K.moved hW.alike hK, hD⟩, hS.F ht⟩) hS.2.2 dX9_isPlace_17 hlk
set_option maxHeartbeats 4000000 in
set_option maxRecDepth 100000 in
theorem kB_X9_isPlace_16 {p : Program} {l : Launch} {e : Env} {s : State} {m : MethodId} {args : Array Value} {below : List Frame} {meth : Method} {c : Code} {A : Nat → Prop} {E : EnvT} {aK aV : Nat → Nat} {D : va_G} {cA : Nat → ClassId} {h : Nat} {ad : Nat → Nat} (C : mCx p s m args meth c cX9_isPlace 2 (some .boolean) wgX9_isPlace RX9 E D cA A) (vM : eMs aK aV E) {post : Int32 → MS → Prop} :
    ∀ (σ : MS) (H : Heap) (locs : List Loc) (ls : Array Slot), mG D cA h ad A s σ H locs → lv_has ls 2 [] → wB_X9_isPlace_16 post σ → W p l e rm_X9_isPlace s m args below meth c H locs 0 0 (MQ below (va_Qi post (mAt D cA h ad A) A) args s 0 0 A) (F0 m 16 ls []) := by
  obtain ⟨hx, hb, hml, hr, hown, hts, hK, hA, hlk, hE, vE⟩ := id C
  intro σ H locs ls hG hl hw
  obtain ⟨hP, hD, hS⟩ := id hG
  refine lv_iconst (v := 0) hx hb dX9_isPlace_16 (by decide) ?_
  exact kB_X9_isPlace_17 C vM 0 σ _ _ _ hG (lv_sub hl [] rfl) hw
set_option maxHeartbeats 4000000 in
set_option maxRecDepth 100000 in
theorem k_X9_isPlace {p : Program} {l : Launch} {e : Env} {s : State} {m : MethodId} {args : Array Value} {below : List Frame} {meth : Method} {c : Code} {A : Nat → Prop} {E : EnvT} {aK aV : Nat → Nat} {D : va_G} {cA : Nat → ClassId} {h : Nat} {ad : Nat → Nat} (C : mCx p s m args meth c cX9_isPlace 2 (some .boolean) wgX9_isPlace RX9 E D cA A) (vM : eMs aK aV E) {post : Int32 → MS → Prop} :
    ∀ (x1 : Int32) (σ : MS) (H : Heap) (locs : List Loc) (ls : Array Slot), mG D cA h ad A s σ H locs → lv_has ls 2 [(0, .ref h), (1, .int x1)] → wp_X9_isPlace post x1 σ → W p l e rm_X9_isPlace s m args below meth c H locs 0 0 (MQ below (va_Qi post (mAt D cA h ad A) A) args s 0 0 A) (F0 m 0 ls []) := by
  obtain ⟨hx, hb, hml, hr, hown, hts, hK, hA, hlk, hE, vE⟩ := id C
  intro x1 σ H locs ls hG hl hw
  obtain ⟨hP, hD, hS⟩ := id hG
  refine lv_iload_n hx hb dX9_isPlace_0 rfl (lv_at hl 1 rfl) ?_
  refine lv_if_lt (tgt := 16) hx hb dX9_isPlace_1 (by decide) (fun q_ => ?_) (fun q_ => ?_)
  · have hw := hw.1 q_
    exact kB_X9_isPlace_16 C vM  σ _ _ _ hG (lv_sub hl [] rfl) hw
  · have hw := hw.2 q_
    refine lv_iload_n hx hb dX9_isPlace_4 rfl (lv_at hl 1 rfl) ?_
    refine lv_aload_n hx hb dX9_isPlace_5 rfl (lv_at hl 0 rfl) ?_
    refine va_get (D := D) (ci := 11) (v := .int (mI σ 11)) (C := RX9) (T := TX9) (N := 32) hx hb hts (in_tb inX9) hown hK hP 0 rfl rfl 11 (by decide) (hts _ (List.mem_cons_of_mem _ tw_5_121)) (fun _ h9 => h9) rfl dX9_isPlace_6 ?_
    refine lv_icmp_ge (tgt := 16) hx hb dX9_isPlace_9 (by decide) (fun q_ => ?_) (fun q_ => ?_)
    · have hw := hw.1 q_
      exact kB_X9_isPlace_16 C vM  σ _ _ _ hG (lv_sub hl [] rfl) hw
    · have hw := hw.2 q_
      refine lv_iconst (v := 1) hx hb dX9_isPlace_12 (by decide) ?_
      refine lv_goto (tgt := 17) hx hb dX9_isPlace_13 (by decide) ?_
      exact kB_X9_isPlace_17 C vM 1 σ _ _ _ hG (lv_sub hl [] rfl) hw
set_option maxHeartbeats 4000000 in
set_option maxRecDepth 100000 in
theorem met_X9_isPlace {l : Launch} {E : EnvT} (vE : EnvOk E) {D : va_G} {cA : Nat → ClassId} {h : Nat} {ad : Nat → Nat} {σ : MS} {aK aV : Nat → Nat} (vM : eMs aK aV E) {sz : Nat} {x1 : Int32} {post : Int32 → MS → Prop} (hw : wp_X9_isPlace post x1 σ) : Met l yX9_isPlace wgX9_isPlace rm_X9_isPlace (va_Pc [.ref h, .int x1] (mPre E D cA h ad sz σ)) (va_Qi post (mAt D cA h ad (va_A (mW cA h ad σ) sz)) (va_A (mW cA h ad σ) sz)) 0 0 (va_A (mW cA h ad σ) sz) := by
  refine Met.ofW (cc := cX9_isPlace) (maxL := 2) (ret := (some .boolean)) (by decide +kernel) rfl ?_
  intro p e s m args below meth c s₁ B hml hv
  obtain ⟨rfl, hsz, hP, hK, hD0, hE⟩ := hv
  subst hsz
  have hD := hD0.self (sz := s.heap.size)
  generalize hAe : va_A (mW cA h ad σ) s.heap.size = A at hD hE ⊢
  have hA : ∀ q : Nat, s.heap.size ≤ q → A q := fun q h => by rw [← hAe]; exact Or.inr h
  have hS : va_S A s.heap s.heap [] := va_S.rf
  have C : mCx p s m _ meth c cX9_isPlace 2 (some .boolean) wgX9_isPlace RX9 E D cA A := ⟨B.exec, B.bytes, hml, B.returns, findClass_of_methodNamed B.named, atoms_spec (ws := wgX9_isPlace) B.pre, hK, hA, B.notSynchronized, hE, vE⟩
  have hG : mG D cA h ad A s σ s.heap [] := ⟨hP, hD, hS⟩
  have hl := lv_entry ([.ref h, .int x1]) (n := 2) (Nat.le_of_ble_eq_true rfl)
  rw [lg_entry_eq]
  generalize (lg_sl ([.ref h, .int x1]) ++ List.replicate (2 - (lg_sl ([.ref h, .int x1])).length) Slot.unset).toArray = ls at hl ⊢
  have hl : lv_has ls 2 [(0, .ref h), (1, .int x1)] := hl
  exact k_X9_isPlace C vM x1 σ _ _ _ hG hl hw
/-! ===== set ===== -/
def rm_X9_set : Room := { frames := 0, cells := 0, slots := 0, locals := 0 }
abbrev wgX9_set : List Cond := .code yX9_set cX9_set 4 (some .boolean) :: TB
def wB_X9_set_23 (post : Int32 → MS → Prop) (σ : MS) : Prop :=
  post 0 σ
def wB_X9_set_50 (post : Int32 → MS → Prop) (t0 : Int32) (t1 : Int32) (σ : MS) : Prop :=
  post 1 (wI σ 11 (t1 + t0))
def wp_X9_set (post : Int32 → MS → Prop) (x1 : Int32) (x2 : Int64) (σ : MS) : Prop :=
  (x1 < 0 → (wB_X9_set_23 post (wI σ 0 0))) ∧ (¬ x1 < 0 → (((mI σ 11) < x1 → (wB_X9_set_23 post (wI σ 0 0))) ∧ (¬ (mI σ 11) < x1 → ((x1 = 64 → (wB_X9_set_23 post (wI σ 0 0))) ∧ (¬ x1 = 64 → (vp_in x1 64 ∧ ((x1 = (mI σ 11) → (wB_X9_set_50 post 1 (mI σ 11) (wL (wI σ 0 0) 10 x1.toNatClampNeg x2))) ∧ (¬ x1 = (mI σ 11) → (wB_X9_set_50 post 0 (mI σ 11) (wL (wI σ 0 0) 10 x1.toNatClampNeg x2))))))))))
set_option maxHeartbeats 4000000 in
set_option maxRecDepth 100000 in
theorem kB_X9_set_23 {p : Program} {l : Launch} {e : Env} {s : State} {m : MethodId} {args : Array Value} {below : List Frame} {meth : Method} {c : Code} {A : Nat → Prop} {E : EnvT} {aK aV : Nat → Nat} {D : va_G} {cA : Nat → ClassId} {h : Nat} {ad : Nat → Nat} (C : mCx p s m args meth c cX9_set 4 (some .boolean) wgX9_set RX9 E D cA A) (vM : eMs aK aV E) {post : Int32 → MS → Prop} :
    ∀ (σ : MS) (H : Heap) (locs : List Loc) (ls : Array Slot), mG D cA h ad A s σ H locs → lv_has ls 4 [] → wB_X9_set_23 post σ → W p l e rm_X9_set s m args below meth c H locs 0 0 (MQ below (va_Qi post (mAt D cA h ad A) A) args s 0 0 A) (F0 m 23 ls []) := by
  obtain ⟨hx, hb, hml, hr, hown, hts, hK, hA, hlk, hE, vE⟩ := id C
  intro σ H locs ls hG hl hw
  obtain ⟨hP, hD, hS⟩ := id hG
  refine lv_iconst (v := 0) hx hb dX9_set_23 (by decide) ?_
  exact W.zret (v := 0) (ty := .boolean) hx hb hr rfl (fun t ht hW => ⟨⟨_, σ, rfl, hw, by rw [ht]; exact hP, va_K.moved hW.alike hK, hD⟩, hS.F ht⟩) hS.2.2 dX9_set_24 hlk
set_option maxHeartbeats 4000000 in
set_option maxRecDepth 100000 in
theorem kB_X9_set_50 {p : Program} {l : Launch} {e : Env} {s : State} {m : MethodId} {args : Array Value} {below : List Frame} {meth : Method} {c : Code} {A : Nat → Prop} {E : EnvT} {aK aV : Nat → Nat} {D : va_G} {cA : Nat → ClassId} {h : Nat} {ad : Nat → Nat} (C : mCx p s m args meth c cX9_set 4 (some .boolean) wgX9_set RX9 E D cA A) (vM : eMs aK aV E) {post : Int32 → MS → Prop} :
    ∀ (t0 : Int32) (t1 : Int32) (σ : MS) (H : Heap) (locs : List Loc) (ls : Array Slot), mG D cA h ad A s σ H locs → lv_has ls 4 [] → wB_X9_set_50 post t0 t1 σ → W p l e rm_X9_set s m args below meth c H locs 0 0 (MQ below (va_Qi post (mAt D cA h ad A) A) args s 0 0 A) (F0 m 50 ls [.int t0, .int t1, .ref h]) := by
  obtain ⟨hx, hb, hml, hr, hown, hts, hK, hA, hlk, hE, vE⟩ := id C
  intro t0 t1 σ H locs ls hG hl hw
  obtain ⟨hP, hD, hS⟩ := id hG
  refine lv_iadd hx hb dX9_set_50 ?_
  refine va_put (D := D) (ci := 11) (v := .int (t1 + t0)) (ty := .int) (C := RX9) (T := TX9) (N := 32) hx hb hts (in_tb inX9) tyX9 tyX9_ok nmX9 hown hK hP hD hS 0 rfl rfl 11 (by decide) (hts _ (List.mem_cons_of_mem _ tw_5_121)) (fun _ h9 => h9) rfl (by decide +kernel) rfl rfl (Nat.le_of_ble_eq_true rfl) dX9_set_51 (fun H locs hP hD hS => ?_)
  have hG : mG D cA h ad A s (wI σ 11 (t1 + t0)) H locs := ⟨hP, hD, hS⟩
  obtain ⟨hP, hD, hS⟩ := id hG
  refine lv_iconst (v := 1) hx hb dX9_set_54 (by decide) ?_
  exact W.zret (v := 1) (ty := .boolean) hx hb hr rfl (fun t ht hW => ⟨⟨_, (wI σ 11 (t1 + t0)), rfl, hw, by rw [ht]; exact hP, va_K.moved hW.alike hK, hD⟩, hS.F ht⟩) hS.2.2 dX9_set_55 hlk
set_option maxHeartbeats 4000000 in
set_option maxRecDepth 100000 in
theorem k_X9_set {p : Program} {l : Launch} {e : Env} {s : State} {m : MethodId} {args : Array Value} {below : List Frame} {meth : Method} {c : Code} {A : Nat → Prop} {E : EnvT} {aK aV : Nat → Nat} {D : va_G} {cA : Nat → ClassId} {h : Nat} {ad : Nat → Nat} (C : mCx p s m args meth c cX9_set 4 (some .boolean) wgX9_set RX9 E D cA A) (vM : eMs aK aV E) {post : Int32 → MS → Prop} :
    ∀ (x1 : Int32) (x2 : Int64) (σ : MS) (H : Heap) (locs : List Loc) (ls : Array Slot), mG D cA h ad A s σ H locs → lv_has ls 4 [(0, .ref h), (1, .int x1), (2, .long x2)] → wp_X9_set post x1 x2 σ → W p l e rm_X9_set s m args below meth c H locs 0 0 (MQ below (va_Qi post (mAt D cA h ad A) A) args s 0 0 A) (F0 m 0 ls []) := by
  obtain ⟨hx, hb, hml, hr, hown, hts, hK, hA, hlk, hE, vE⟩ := id C
  intro x1 x2 σ H locs ls hG hl hw
  obtain ⟨hP, hD, hS⟩ := id hG
  refine lv_aload_n hx hb dX9_set_0 rfl (lv_at hl 0 rfl) ?_
  refine lv_iconst (v := 0) hx hb dX9_set_1 (by decide) ?_
  refine va_put (D := D) (ci := 11) (v := .int 0) (ty := .int) (C := RX9) (T := TX9) (N := 32) hx hb hts (in_tb inX9) tyX9 tyX9_ok nmX9 hown hK hP hD hS 0 rfl rfl 0 (by decide) (hts _ (List.mem_cons_of_mem _ tw_5_110)) (fun _ h9 => h9) rfl (by decide +kernel) rfl rfl (Nat.le_of_ble_eq_true rfl) dX9_set_2 (fun H locs hP hD hS => ?_)
  have hG : mG D cA h ad A s (wI σ 0 0) H locs := ⟨hP, hD, hS⟩
  obtain ⟨hP, hD, hS⟩ := id hG
  refine lv_iload_n hx hb dX9_set_5 rfl (lv_at hl 1 rfl) ?_
  refine lv_if_lt (tgt := 23) hx hb dX9_set_6 (by decide) (fun q_ => ?_) (fun q_ => ?_)
  · have hw := hw.1 q_
    exact kB_X9_set_23 C vM  (wI σ 0 0) _ _ _ hG (lv_sub hl [] rfl) hw
  · have hw := hw.2 q_
    refine lv_iload_n hx hb dX9_set_9 rfl (lv_at hl 1 rfl) ?_
    refine lv_aload_n hx hb dX9_set_10 rfl (lv_at hl 0 rfl) ?_
    refine va_get (D := D) (ci := 11) (v := .int (mI σ 11)) (C := RX9) (T := TX9) (N := 32) hx hb hts (in_tb inX9) hown hK hP 0 rfl rfl 11 (by decide) (hts _ (List.mem_cons_of_mem _ tw_5_121)) (fun _ h9 => h9) rfl dX9_set_11 ?_
    refine lv_icmp_gt (tgt := 23) hx hb dX9_set_14 (by decide) (fun q_ => ?_) (fun q_ => ?_)
    · have hw := hw.1 q_
      exact kB_X9_set_23 C vM  (wI σ 0 0) _ _ _ hG (lv_sub hl [] rfl) hw
    · have hw := hw.2 q_
      refine lv_iload_n hx hb dX9_set_17 rfl (lv_at hl 1 rfl) ?_
      refine lv_bipush (v := 64) hx hb dX9_set_18 (by decide) ?_
      refine lv_icmp_ne (tgt := 25) hx hb dX9_set_20 (by decide) (fun q_ => ?_) (fun q_ => ?_)
      · have hw := hw.2 q_
        refine lv_aload_n hx hb dX9_set_25 rfl (lv_at hl 0 rfl) ?_
        refine va_get (D := D) (ci := 11) (v := .ref (ad 10)) (C := RX9) (T := TX9) (N := 32) hx hb hts (in_tb inX9) hown hK hP 0 rfl rfl 10 (by decide) (hts _ (List.mem_cons_of_mem _ tw_5_120)) (fun _ h9 => h9) rfl dX9_set_26 ?_
        refine lv_iload_n hx hb dX9_set_29 rfl (lv_at hl 1 rfl) ?_
        refine lv_lload_n hx hb dX9_set_30 rfl (lv_at hl 2 rfl) ?_
        obtain ⟨h_1, hw⟩ := hw
        refine va_last hx hb hK hP hD hS 5 1 rfl rfl h_1 dX9_set_31 (fun H locs hP hD hS => ?_)
        have hG : mG D cA h ad A s (wL (wI σ 0 0) 10 x1.toNatClampNeg x2) H locs := ⟨hP, hD, hS⟩
        obtain ⟨hP, hD, hS⟩ := id hG
        refine lv_aload_n hx hb dX9_set_32 rfl (lv_at hl 0 rfl) ?_
        refine lv_dup hx hb dX9_set_33 rfl ?_
        refine va_get (D := D) (ci := 11) (v := .int (mI σ 11)) (C := RX9) (T := TX9) (N := 32) hx hb hts (in_tb inX9) hown hK hP 0 rfl rfl 11 (by decide) (hts _ (List.mem_cons_of_mem _ tw_5_121)) (fun _ h9 => h9) rfl dX9_set_34 ?_
        refine lv_iload_n hx hb dX9_set_37 rfl (lv_at hl 1 rfl) ?_
        refine lv_aload_n hx hb dX9_set_38 rfl (lv_at hl 0 rfl) ?_
        refine va_get (D := D) (ci := 11) (v := .int (mI σ 11)) (C := RX9) (T := TX9) (N := 32) hx hb hts (in_tb inX9) hown hK hP 0 rfl rfl 11 (by decide) (hts _ (List.mem_cons_of_mem _ tw_5_121)) (fun _ h9 => h9) rfl dX9_set_39 ?_
        refine lv_icmp_ne (tgt := 49) hx hb dX9_set_42 (by decide) (fun q_ => ?_) (fun q_ => ?_)
        · have hw := hw.2 q_
          refine lv_iconst (v := 0) hx hb dX9_set_49 (by decide) ?_
          exact kB_X9_set_50 C vM 0 (mI σ 11) (wL (wI σ 0 0) 10 x1.toNatClampNeg x2) _ _ _ hG (lv_sub hl [] rfl) hw
        · have hw := hw.1 q_
          refine lv_iconst (v := 1) hx hb dX9_set_45 (by decide) ?_
          refine lv_goto (tgt := 50) hx hb dX9_set_46 (by decide) ?_
          exact kB_X9_set_50 C vM 1 (mI σ 11) (wL (wI σ 0 0) 10 x1.toNatClampNeg x2) _ _ _ hG (lv_sub hl [] rfl) hw
      · have hw := hw.1 q_
        exact kB_X9_set_23 C vM  (wI σ 0 0) _ _ _ hG (lv_sub hl [] rfl) hw
set_option maxHeartbeats 4000000 in
set_option maxRecDepth 100000 in
theorem met_X9_set {l : Launch} {E : EnvT} (vE : EnvOk E) {D : va_G} {cA : Nat → ClassId} {h : Nat} {ad : Nat → Nat} {σ : MS} {aK aV : Nat → Nat} (vM : eMs aK aV E) {sz : Nat} {x1 : Int32} {x2 : Int64} {post : Int32 → MS → Prop} (hw : wp_X9_set post x1 x2 σ) : Met l yX9_set wgX9_set rm_X9_set (va_Pc [.ref h, .int x1, .long x2] (mPre E D cA h ad sz σ)) (va_Qi post (mAt D cA h ad (va_A (mW cA h ad σ) sz)) (va_A (mW cA h ad σ) sz)) 0 0 (va_A (mW cA h ad σ) sz) := by
  refine Met.ofW (cc := cX9_set) (maxL := 4) (ret := (some .boolean)) (by decide +kernel) rfl ?_
  intro p e s m args below meth c s₁ B hml hv
  obtain ⟨rfl, hsz, hP, hK, hD0, hE⟩ := hv
  subst hsz
  have hD := hD0.self (sz := s.heap.size)
  generalize hAe : va_A (mW cA h ad σ) s.heap.size = A at hD hE ⊢
  have hA : ∀ q : Nat, s.heap.size ≤ q → A q := fun q h => by rw [← hAe]; exact Or.inr h
  have hS : va_S A s.heap s.heap [] := va_S.rf
  have C : mCx p s m _ meth c cX9_set 4 (some .boolean) wgX9_set RX9 E D cA A := ⟨B.exec, B.bytes, hml, B.returns, findClass_of_methodNamed B.named, atoms_spec (ws := wgX9_set) B.pre, hK, hA, B.notSynchronized, hE, vE⟩
  have hG : mG D cA h ad A s σ s.heap [] := ⟨hP, hD, hS⟩
  have hl := lv_entry ([.ref h, .int x1, .long x2]) (n := 4) (Nat.le_of_ble_eq_true rfl)
  rw [lg_entry_eq]
  generalize (lg_sl ([.ref h, .int x1, .long x2]) ++ List.replicate (4 - (lg_sl ([.ref h, .int x1, .long x2])).length) Slot.unset).toArray = ls at hl ⊢
  have hl : lv_has ls 4 [(0, .ref h), (1, .int x1), (2, .long x2)] := hl
  exact k_X9_set C vM x1 x2 σ _ _ _ hG hl hw
/-! ===== word ===== -/
def rm_X9_word : Room := { frames := 1, cells := 0, slots := 0, locals := 21 }
abbrev wgX9_word : List Cond := .code yX9_word cX9_word 2 (some .long) :: TB
def wB_X9_word_34 (post : Int64 → MS → Prop) (t0 : Int64) (σ : MS) : Prop :=
  post t0 σ
def wB_X9_word_14 (post : Int64 → MS → Prop) (x1 : Int32) (t0 : Int32) (σ : MS) : Prop :=
  (t0 = 0 → (vp_in x1 64 ∧ (wB_X9_word_34 post (mL σ 10 x1.toNatClampNeg) (wI σ 0 t0)))) ∧ (¬ t0 = 0 → (wB_X9_word_34 post 0 (wI σ 0 t0)))
def wp_X9_word (post : Int64 → MS → Prop) (x1 : Int32) (σ : MS) : Prop :=
  wp_X9_isPlace (fun r_1 σ_2 => (r_1 = 0 → (wB_X9_word_14 post x1 1 σ_2)) ∧ (¬ r_1 = 0 → (wB_X9_word_14 post x1 0 σ_2))) x1 σ
set_option maxHeartbeats 4000000 in
set_option maxRecDepth 100000 in
theorem kB_X9_word_34 {p : Program} {l : Launch} {e : Env} {s : State} {m : MethodId} {args : Array Value} {below : List Frame} {meth : Method} {c : Code} {A : Nat → Prop} {E : EnvT} {aK aV : Nat → Nat} {D : va_G} {cA : Nat → ClassId} {h : Nat} {ad : Nat → Nat} (C : mCx p s m args meth c cX9_word 2 (some .long) wgX9_word RX9 E D cA A) (vM : eMs aK aV E) {post : Int64 → MS → Prop} :
    ∀ (t0 : Int64) (σ : MS) (H : Heap) (locs : List Loc) (ls : Array Slot), mG D cA h ad A s σ H locs → lv_has ls 2 [] → wB_X9_word_34 post t0 σ → W p l e rm_X9_word s m args below meth c H locs 0 0 (MQ below (va_Ql post (mAt D cA h ad A) A) args s 0 0 A) (F0 m 34 ls [.long t0]) := by
  obtain ⟨hx, hb, hml, hr, hown, hts, hK, hA, hlk, hE, vE⟩ := id C
  intro t0 σ H locs ls hG hl hw
  obtain ⟨hP, hD, hS⟩ := id hG
  exact W.lret (v := t0) hx hb hr (fun t ht hW => ⟨⟨_, σ, rfl, hw, by rw [ht]; exact hP, va_K.moved hW.alike hK, hD⟩, hS.F ht⟩) hS.2.2 dX9_word_34 hlk
set_option maxHeartbeats 4000000 in
set_option maxRecDepth 100000 in
theorem kB_X9_word_14 {p : Program} {l : Launch} {e : Env} {s : State} {m : MethodId} {args : Array Value} {below : List Frame} {meth : Method} {c : Code} {A : Nat → Prop} {E : EnvT} {aK aV : Nat → Nat} {D : va_G} {cA : Nat → ClassId} {h : Nat} {ad : Nat → Nat} (C : mCx p s m args meth c cX9_word 2 (some .long) wgX9_word RX9 E D cA A) (vM : eMs aK aV E) {post : Int64 → MS → Prop} :
    ∀ (x1 : Int32) (t0 : Int32) (σ : MS) (H : Heap) (locs : List Loc) (ls : Array Slot), mG D cA h ad A s σ H locs → lv_has ls 2 [(0, .ref h), (1, .int x1)] → wB_X9_word_14 post x1 t0 σ → W p l e rm_X9_word s m args below meth c H locs 0 0 (MQ below (va_Ql post (mAt D cA h ad A) A) args s 0 0 A) (F0 m 14 ls [.int t0, .ref h]) := by
  obtain ⟨hx, hb, hml, hr, hown, hts, hK, hA, hlk, hE, vE⟩ := id C
  intro x1 t0 σ H locs ls hG hl hw
  obtain ⟨hP, hD, hS⟩ := id hG
  refine va_put (D := D) (ci := 11) (v := .int t0) (ty := .int) (C := RX9) (T := TX9) (N := 32) hx hb hts (in_tb inX9) tyX9 tyX9_ok nmX9 hown hK hP hD hS 0 rfl rfl 0 (by decide) (hts _ (List.mem_cons_of_mem _ tw_5_110)) (fun _ h9 => h9) rfl (by decide +kernel) rfl rfl (Nat.le_of_ble_eq_true rfl) dX9_word_14 (fun H locs hP hD hS => ?_)
  have hG : mG D cA h ad A s (wI σ 0 t0) H locs := ⟨hP, hD, hS⟩
  obtain ⟨hP, hD, hS⟩ := id hG
  refine lv_aload_n hx hb dX9_word_17 rfl (lv_at hl 0 rfl) ?_
  refine va_get (D := D) (ci := 11) (v := .int t0) (C := RX9) (T := TX9) (N := 32) hx hb hts (in_tb inX9) hown hK hP 0 rfl rfl 0 (by decide) (hts _ (List.mem_cons_of_mem _ tw_5_110)) (fun _ h9 => h9) rfl dX9_word_18 ?_
  refine lv_if_ne (tgt := 33) hx hb dX9_word_21 (by decide) (fun q_ => ?_) (fun q_ => ?_)
  · have hw := hw.2 q_
    refine lv_lconst (v := 0) hx hb dX9_word_33 (by decide) ?_
    exact kB_X9_word_34 C vM 0 (wI σ 0 t0) _ _ _ hG (lv_sub hl [] rfl) hw
  · have hw := hw.1 q_
    refine lv_aload_n hx hb dX9_word_24 rfl (lv_at hl 0 rfl) ?_
    refine va_get (D := D) (ci := 11) (v := .ref (ad 10)) (C := RX9) (T := TX9) (N := 32) hx hb hts (in_tb inX9) hown hK hP 0 rfl rfl 10 (by decide) (hts _ (List.mem_cons_of_mem _ tw_5_120)) (fun _ h9 => h9) rfl dX9_word_25 ?_
    refine lv_iload_n hx hb dX9_word_28 rfl (lv_at hl 1 rfl) ?_
    obtain ⟨h_3, hw⟩ := hw
    refine va_lald hx hb hK hP 5 1 rfl rfl h_3 dX9_word_29 ?_
    refine lv_goto (tgt := 34) hx hb dX9_word_30 (by decide) ?_
    exact kB_X9_word_34 C vM (mL σ 10 x1.toNatClampNeg) (wI σ 0 t0) _ _ _ hG (lv_sub hl [] rfl) hw
set_option maxHeartbeats 4000000 in
set_option maxRecDepth 100000 in
theorem k_X9_word {p : Program} {l : Launch} {e : Env} {s : State} {m : MethodId} {args : Array Value} {below : List Frame} {meth : Method} {c : Code} {A : Nat → Prop} {E : EnvT} {aK aV : Nat → Nat} {D : va_G} {cA : Nat → ClassId} {h : Nat} {ad : Nat → Nat} (C : mCx p s m args meth c cX9_word 2 (some .long) wgX9_word RX9 E D cA A) (vM : eMs aK aV E) {post : Int64 → MS → Prop} :
    ∀ (x1 : Int32) (σ : MS) (H : Heap) (locs : List Loc) (ls : Array Slot), mG D cA h ad A s σ H locs → lv_has ls 2 [(0, .ref h), (1, .int x1)] → wp_X9_word post x1 σ → W p l e rm_X9_word s m args below meth c H locs 0 0 (MQ below (va_Ql post (mAt D cA h ad A) A) args s 0 0 A) (F0 m 0 ls []) := by
  obtain ⟨hx, hb, hml, hr, hown, hts, hK, hA, hlk, hE, vE⟩ := id C
  intro x1 σ H locs ls hG hl hw
  obtain ⟨hP, hD, hS⟩ := id hG
  refine lv_aload_n hx hb dX9_word_0 rfl (lv_at hl 0 rfl) ?_
  refine lv_aload_n hx hb dX9_word_1 rfl (lv_at hl 0 rfl) ?_
  refine lv_iload_n hx hb dX9_word_2 rfl (lv_at hl 1 rfl) ?_
  refine mV_i (As := [.int x1]) (rest := [.ref h]) C (met_X9_isPlace vE vM hw) (va_recv hK hP (ci := 11) (q0 := 0) rfl rfl) (cwV 1 hts (TB_G (TB_4 tw_6_108 tw_6_110 ts_45 tw_1_13) tw_6_111) rfl rfl rfl (by decide +kernel) ⟨by decide, by decide⟩) hP hD hS rfl hl.1 rfl (Nat.le_of_ble_eq_true rfl) dX9_word_3 ⟨by decide, by decide⟩ (fun r_1 σ_2 H locs hw hP hD hS => ?_)
  have hG : mG D cA h ad A s σ_2 H locs := ⟨hP, hD, hS⟩
  refine lv_if_eq (tgt := 13) hx hb dX9_word_6 (by decide) (fun q_ => ?_) (fun q_ => ?_)
  · have hw := hw.1 q_
    refine lv_iconst (v := 1) hx hb dX9_word_13 (by decide) ?_
    exact kB_X9_word_14 C vM x1 1 σ_2 _ _ _ hG (lv_sub hl [0, 1] rfl) hw
  · have hw := hw.2 q_
    refine lv_iconst (v := 0) hx hb dX9_word_9 (by decide) ?_
    refine lv_goto (tgt := 14) hx hb dX9_word_10 (by decide) ?_
    exact kB_X9_word_14 C vM x1 0 σ_2 _ _ _ hG (lv_sub hl [0, 1] rfl) hw
set_option maxHeartbeats 4000000 in
set_option maxRecDepth 100000 in
theorem met_X9_word {l : Launch} {E : EnvT} (vE : EnvOk E) {D : va_G} {cA : Nat → ClassId} {h : Nat} {ad : Nat → Nat} {σ : MS} {aK aV : Nat → Nat} (vM : eMs aK aV E) {sz : Nat} {x1 : Int32} {post : Int64 → MS → Prop} (hw : wp_X9_word post x1 σ) : Met l yX9_word wgX9_word rm_X9_word (va_Pc [.ref h, .int x1] (mPre E D cA h ad sz σ)) (va_Ql post (mAt D cA h ad (va_A (mW cA h ad σ) sz)) (va_A (mW cA h ad σ) sz)) 0 0 (va_A (mW cA h ad σ) sz) := by
  refine Met.ofW (cc := cX9_word) (maxL := 2) (ret := (some .long)) (by decide +kernel) rfl ?_
  intro p e s m args below meth c s₁ B hml hv
  obtain ⟨rfl, hsz, hP, hK, hD0, hE⟩ := hv
  subst hsz
  have hD := hD0.self (sz := s.heap.size)
  generalize hAe : va_A (mW cA h ad σ) s.heap.size = A at hD hE ⊢
  have hA : ∀ q : Nat, s.heap.size ≤ q → A q := fun q h => by rw [← hAe]; exact Or.inr h
  have hS : va_S A s.heap s.heap [] := va_S.rf
  have C : mCx p s m _ meth c cX9_word 2 (some .long) wgX9_word RX9 E D cA A := ⟨B.exec, B.bytes, hml, B.returns, findClass_of_methodNamed B.named, atoms_spec (ws := wgX9_word) B.pre, hK, hA, B.notSynchronized, hE, vE⟩
  have hG : mG D cA h ad A s σ s.heap [] := ⟨hP, hD, hS⟩
  have hl := lv_entry ([.ref h, .int x1]) (n := 2) (Nat.le_of_ble_eq_true rfl)
  rw [lg_entry_eq]
  generalize (lg_sl ([.ref h, .int x1]) ++ List.replicate (2 - (lg_sl ([.ref h, .int x1])).length) Slot.unset).toArray = ls at hl ⊢
  have hl : lv_has ls 2 [(0, .ref h), (1, .int x1)] := hl
  exact k_X9_word C vM x1 σ _ _ _ hG hl hw
/-! ===== letter ===== -/
def rm_X9_letter : Room := { frames := 8, cells := 0, slots := 0, locals := 180 }
abbrev wgX9_letter : List Cond := .code yX9_letter cX9_letter 3 (some .int) :: TB
def wB_X9_letter_17 (post : Int32 → MS → Prop) (σ : MS) : Prop :=
  post (-1) σ
def wB_X9_letter_47 (post : Int32 → MS → Prop) (t0 : Int32) (σ : MS) : Prop :=
  post t0 σ
def wp_X9_letter (post : Int32 → MS → Prop) (x1 : Int32) (x2 : Int32) (σ : MS) : Prop :=
  wp_X9_isPlace (fun r_1 σ_2 => (r_1 = 0 → (wB_X9_letter_17 post σ_2)) ∧ (¬ r_1 = 0 → ((0 ≤ x2 → (vp_in x1 64 ∧ (wp_X9_write (fun σ_5 => ((mI σ_5 30) ≤ x2 → (wB_X9_letter_47 post (-1) σ_5)) ∧ (¬ (mI σ_5 30) ≤ x2 → (vp_in x2 60 ∧ (wB_X9_letter_47 post (mA σ_5 29 x2.toNatClampNeg) σ_5)))) (mL σ_2 10 x1.toNatClampNeg) σ_2))) ∧ (¬ 0 ≤ x2 → (wB_X9_letter_17 post σ_2))))) x1 (wI σ 0 0)
set_option maxHeartbeats 4000000 in
set_option maxRecDepth 100000 in
theorem kB_X9_letter_17 {p : Program} {l : Launch} {e : Env} {s : State} {m : MethodId} {args : Array Value} {below : List Frame} {meth : Method} {c : Code} {A : Nat → Prop} {E : EnvT} {aK aV : Nat → Nat} {D : va_G} {cA : Nat → ClassId} {h : Nat} {ad : Nat → Nat} (C : mCx p s m args meth c cX9_letter 3 (some .int) wgX9_letter RX9 E D cA A) (vM : eMs aK aV E) {post : Int32 → MS → Prop} :
    ∀ (σ : MS) (H : Heap) (locs : List Loc) (ls : Array Slot), mG D cA h ad A s σ H locs → lv_has ls 3 [] → wB_X9_letter_17 post σ → W p l e rm_X9_letter s m args below meth c H locs 0 0 (MQ below (va_Qi post (mAt D cA h ad A) A) args s 0 0 A) (F0 m 17 ls []) := by
  obtain ⟨hx, hb, hml, hr, hown, hts, hK, hA, hlk, hE, vE⟩ := id C
  intro σ H locs ls hG hl hw
  obtain ⟨hP, hD, hS⟩ := id hG
  refine lv_iconst (v := (-1)) hx hb dX9_letter_17 (by decide) ?_
  exact W.iret (v := (-1)) hx hb hr (fun t ht hW => ⟨⟨_, σ, rfl, hw, by rw [ht]; exact hP, va_K.moved hW.alike hK, hD⟩, hS.F ht⟩) hS.2.2 dX9_letter_18 hlk
set_option maxHeartbeats 4000000 in
set_option maxRecDepth 100000 in
theorem kB_X9_letter_47 {p : Program} {l : Launch} {e : Env} {s : State} {m : MethodId} {args : Array Value} {below : List Frame} {meth : Method} {c : Code} {A : Nat → Prop} {E : EnvT} {aK aV : Nat → Nat} {D : va_G} {cA : Nat → ClassId} {h : Nat} {ad : Nat → Nat} (C : mCx p s m args meth c cX9_letter 3 (some .int) wgX9_letter RX9 E D cA A) (vM : eMs aK aV E) {post : Int32 → MS → Prop} :
    ∀ (t0 : Int32) (σ : MS) (H : Heap) (locs : List Loc) (ls : Array Slot), mG D cA h ad A s σ H locs → lv_has ls 3 [] → wB_X9_letter_47 post t0 σ → W p l e rm_X9_letter s m args below meth c H locs 0 0 (MQ below (va_Qi post (mAt D cA h ad A) A) args s 0 0 A) (F0 m 47 ls [.int t0]) := by
  obtain ⟨hx, hb, hml, hr, hown, hts, hK, hA, hlk, hE, vE⟩ := id C
  intro t0 σ H locs ls hG hl hw
  obtain ⟨hP, hD, hS⟩ := id hG
  exact W.iret (v := t0) hx hb hr (fun t ht hW => ⟨⟨_, σ, rfl, hw, by rw [ht]; exact hP, va_K.moved hW.alike hK, hD⟩, hS.F ht⟩) hS.2.2 dX9_letter_47 hlk
set_option maxHeartbeats 4000000 in
set_option maxRecDepth 100000 in
theorem k_X9_letter {p : Program} {l : Launch} {e : Env} {s : State} {m : MethodId} {args : Array Value} {below : List Frame} {meth : Method} {c : Code} {A : Nat → Prop} {E : EnvT} {aK aV : Nat → Nat} {D : va_G} {cA : Nat → ClassId} {h : Nat} {ad : Nat → Nat} (C : mCx p s m args meth c cX9_letter 3 (some .int) wgX9_letter RX9 E D cA A) (vM : eMs aK aV E) {post : Int32 → MS → Prop} :
    ∀ (x1 : Int32) (x2 : Int32) (σ : MS) (H : Heap) (locs : List Loc) (ls : Array Slot), mG D cA h ad A s σ H locs → lv_has ls 3 [(0, .ref h), (1, .int x1), (2, .int x2)] → wp_X9_letter post x1 x2 σ → W p l e rm_X9_letter s m args below meth c H locs 0 0 (MQ below (va_Qi post (mAt D cA h ad A) A) args s 0 0 A) (F0 m 0 ls []) := by
  obtain ⟨hx, hb, hml, hr, hown, hts, hK, hA, hlk, hE, vE⟩ := id C
  intro x1 x2 σ H locs ls hG hl hw
  obtain ⟨hP, hD, hS⟩ := id hG
  refine lv_aload_n hx hb dX9_letter_0 rfl (lv_at hl 0 rfl) ?_
  refine lv_iconst (v := 0) hx hb dX9_letter_1 (by decide) ?_
  refine va_put (D := D) (ci := 11) (v := .int 0) (ty := .int) (C := RX9) (T := TX9) (N := 32) hx hb hts (in_tb inX9) tyX9 tyX9_ok nmX9 hown hK hP hD hS 0 rfl rfl 0 (by decide) (hts _ (List.mem_cons_of_mem _ tw_5_110)) (fun _ h9 => h9) rfl (by decide +kernel) rfl rfl (Nat.le_of_ble_eq_true rfl) dX9_letter_2 (fun H locs hP hD hS => ?_)
  have hG : mG D cA h ad A s (wI σ 0 0) H locs := ⟨hP, hD, hS⟩
  obtain ⟨hP, hD, hS⟩ := id hG
  refine lv_aload_n hx hb dX9_letter_5 rfl (lv_at hl 0 rfl) ?_
  refine lv_iload_n hx hb dX9_letter_6 rfl (lv_at hl 1 rfl) ?_
  refine mV_i (As := [.int x1]) (rest := []) C (met_X9_isPlace vE vM hw) (va_recv hK hP (ci := 11) (q0 := 0) rfl rfl) (cwV 1 hts (TB_G (TB_4 tw_6_108 tw_6_110 ts_45 tw_1_13) tw_6_111) rfl rfl rfl (by decide +kernel) ⟨by decide, by decide⟩) hP hD hS rfl hl.1 rfl (Nat.le_of_ble_eq_true rfl) dX9_letter_7 ⟨by decide, by decide⟩ (fun r_1 σ_2 H locs hw hP hD hS => ?_)
  have hG : mG D cA h ad A s σ_2 H locs := ⟨hP, hD, hS⟩
  refine lv_if_eq (tgt := 17) hx hb dX9_letter_10 (by decide) (fun q_ => ?_) (fun q_ => ?_)
  · have hw := hw.1 q_
    exact kB_X9_letter_17 C vM  σ_2 _ _ _ hG (lv_sub hl [] rfl) hw
  · have hw := hw.2 q_
    refine lv_iload_n hx hb dX9_letter_13 rfl (lv_at hl 2 rfl) ?_
    refine lv_if_ge (tgt := 19) hx hb dX9_letter_14 (by decide) (fun q_ => ?_) (fun q_ => ?_)
    · have hw := hw.1 q_
      refine lv_aload_n hx hb dX9_letter_19 rfl (lv_at hl 0 rfl) ?_
      refine lv_aload_n hx hb dX9_letter_20 rfl (lv_at hl 0 rfl) ?_
      refine va_get (D := D) (ci := 11) (v := .ref (ad 10)) (C := RX9) (T := TX9) (N := 32) hx hb hts (in_tb inX9) hown hK hP 0 rfl rfl 10 (by decide) (hts _ (List.mem_cons_of_mem _ tw_5_120)) (fun _ h9 => h9) rfl dX9_letter_21 ?_
      refine lv_iload_n hx hb dX9_letter_24 rfl (lv_at hl 1 rfl) ?_
      obtain ⟨h_3, hw⟩ := hw
      refine va_lald hx hb hK hP 5 1 rfl rfl h_3 dX9_letter_25 ?_
      refine mV_v (As := [.long (mL σ_2 10 x1.toNatClampNeg)]) (rest := []) C (met_X9_write vE vM hw) (va_recv hK hP (ci := 11) (q0 := 0) rfl rfl) (cwV 1 hts (TB_G (TB_4 tw_6_116 tw_6_118 ts_46 tw_1_13) tw_6_119) rfl rfl rfl (by decide +kernel) ⟨by decide, by decide⟩) hP hD hS rfl hl.1 rfl (Nat.le_of_ble_eq_true rfl) dX9_letter_26 ⟨by decide, by decide⟩ (fun σ_5 H locs hw hP hD hS => ?_)
      have hG : mG D cA h ad A s σ_5 H locs := ⟨hP, hD, hS⟩
      refine lv_iload_n hx hb dX9_letter_29 rfl (lv_at hl 2 rfl) ?_
      refine lv_aload_n hx hb dX9_letter_30 rfl (lv_at hl 0 rfl) ?_
      refine va_get (D := D) (ci := 11) (v := .int (mI σ_5 30)) (C := RX9) (T := TX9) (N := 32) hx hb hts (in_tb inX9) hown hK hP 0 rfl rfl 30 (by decide) (hts _ (List.mem_cons_of_mem _ tw_5_140)) (fun _ h9 => h9) rfl dX9_letter_31 ?_
      refine lv_icmp_ge (tgt := 46) hx hb dX9_letter_34 (by decide) (fun q_ => ?_) (fun q_ => ?_)
      · have hw := hw.1 q_
        refine lv_iconst (v := (-1)) hx hb dX9_letter_46 (by decide) ?_
        exact kB_X9_letter_47 C vM (-1) σ_5 _ _ _ hG (lv_sub hl [] rfl) hw
      · have hw := hw.2 q_
        refine lv_aload_n hx hb dX9_letter_37 rfl (lv_at hl 0 rfl) ?_
        refine va_get (D := D) (ci := 11) (v := .ref (ad 29)) (C := RX9) (T := TX9) (N := 32) hx hb hts (in_tb inX9) hown hK hP 0 rfl rfl 29 (by decide) (hts _ (List.mem_cons_of_mem _ tw_5_139)) (fun _ h9 => h9) rfl dX9_letter_38 ?_
        refine lv_iload_n hx hb dX9_letter_41 rfl (lv_at hl 2 rfl) ?_
        obtain ⟨h_6, hw⟩ := hw
        refine va_iald hx hb hK hP 16 0 rfl rfl h_6 dX9_letter_42 ?_
        refine lv_goto (tgt := 47) hx hb dX9_letter_43 (by decide) ?_
        exact kB_X9_letter_47 C vM (mA σ_5 29 x2.toNatClampNeg) σ_5 _ _ _ hG (lv_sub hl [] rfl) hw
    · have hw := hw.2 q_
      exact kB_X9_letter_17 C vM  σ_2 _ _ _ hG (lv_sub hl [] rfl) hw
set_option maxHeartbeats 4000000 in
set_option maxRecDepth 100000 in
theorem met_X9_letter {l : Launch} {E : EnvT} (vE : EnvOk E) {D : va_G} {cA : Nat → ClassId} {h : Nat} {ad : Nat → Nat} {σ : MS} {aK aV : Nat → Nat} (vM : eMs aK aV E) {sz : Nat} {x1 : Int32} {x2 : Int32} {post : Int32 → MS → Prop} (hw : wp_X9_letter post x1 x2 σ) : Met l yX9_letter wgX9_letter rm_X9_letter (va_Pc [.ref h, .int x1, .int x2] (mPre E D cA h ad sz σ)) (va_Qi post (mAt D cA h ad (va_A (mW cA h ad σ) sz)) (va_A (mW cA h ad σ) sz)) 0 0 (va_A (mW cA h ad σ) sz) := by
  refine Met.ofW (cc := cX9_letter) (maxL := 3) (ret := (some .int)) (by decide +kernel) rfl ?_
  intro p e s m args below meth c s₁ B hml hv
  obtain ⟨rfl, hsz, hP, hK, hD0, hE⟩ := hv
  subst hsz
  have hD := hD0.self (sz := s.heap.size)
  generalize hAe : va_A (mW cA h ad σ) s.heap.size = A at hD hE ⊢
  have hA : ∀ q : Nat, s.heap.size ≤ q → A q := fun q h => by rw [← hAe]; exact Or.inr h
  have hS : va_S A s.heap s.heap [] := va_S.rf
  have C : mCx p s m _ meth c cX9_letter 3 (some .int) wgX9_letter RX9 E D cA A := ⟨B.exec, B.bytes, hml, B.returns, findClass_of_methodNamed B.named, atoms_spec (ws := wgX9_letter) B.pre, hK, hA, B.notSynchronized, hE, vE⟩
  have hG : mG D cA h ad A s σ s.heap [] := ⟨hP, hD, hS⟩
  have hl := lv_entry ([.ref h, .int x1, .int x2]) (n := 3) (Nat.le_of_ble_eq_true rfl)
  rw [lg_entry_eq]
  generalize (lg_sl ([.ref h, .int x1, .int x2]) ++ List.replicate (3 - (lg_sl ([.ref h, .int x1, .int x2])).length) Slot.unset).toArray = ls at hl ⊢
  have hl : lv_has ls 3 [(0, .ref h), (1, .int x1), (2, .int x2)] := hl
  exact k_X9_letter C vM x1 x2 σ _ _ _ hG hl hw
