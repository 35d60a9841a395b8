/-! ===== spread ===== -/
def rm_X9_spread : Room := { frames := 8, cells := 0, slots := 0, locals := 181 }
abbrev wgX9_spread : List Cond := .code yX9_spread cX9_spread 7 none :: TB
def wB_X9_spread_139 (post : MS → Prop) (k43 : Int32 → Int32 → MS → Prop) (k52 : Int32 → Int32 → Int32 → MS → Prop) (x2 : Int32) (x3 : Int32) (x4 : Int32) (σ : MS) : Prop :=
  ∀ x4_3 : Int32, x4_3 = x4 + 1 → k52 x2 x3 x4_3 σ
def wB_X9_spread_133 (post : MS → Prop) (k43 : Int32 → Int32 → MS → Prop) (k52 : Int32 → Int32 → Int32 → MS → Prop) (k64 : Int32 → Int32 → Int32 → Int32 → MS → Prop) (x2 : Int32) (x3 : Int32) (x4 : Int32) (x5 : Int32) (σ : MS) : Prop :=
  ∀ x5_7 : Int32, x5_7 = x5 + 1 → k64 x2 x3 x4 x5_7 σ
def wB_X9_spread_64 (post : MS → Prop) (k43 : Int32 → Int32 → MS → Prop) (k52 : Int32 → Int32 → Int32 → MS → Prop) (k64 : Int32 → Int32 → Int32 → Int32 → MS → Prop) (x2 : Int32) (x3 : Int32) (x4 : Int32) (x5 : Int32) (σ : MS) : Prop :=
  (2 ≤ x5 → (wB_X9_spread_139 post k43 k52 x2 x3 x4 σ)) ∧ (¬ 2 ≤ x5 → (vp_in x4 64 ∧ (((mA σ 31 x4.toNatClampNeg) = 0 → (wB_X9_spread_139 post k43 k52 x2 x3 x4 σ)) ∧ (¬ (mA σ 31 x4.toNatClampNeg) = 0 → (wp_X9_wayOf (fun r_5 σ_6 => (r_5 < 0 → (wB_X9_spread_133 post k43 k52 k64 x2 x3 x4 x5 σ_6)) ∧ (¬ r_5 < 0 → (wp_X9_isPlace (fun r_8 σ_9 => (r_8 = 0 → (wB_X9_spread_133 post k43 k52 k64 x2 x3 x4 x5 σ_9)) ∧ (¬ r_8 = 0 → ((r_5 = x2 → (wB_X9_spread_133 post k43 k52 k64 x2 x3 x4 x5 σ_9)) ∧ (¬ r_5 = x2 → (vp_in r_5 64 ∧ (((mA σ_9 31 r_5.toNatClampNeg) = 0 → (vp_in r_5 64 ∧ (wB_X9_spread_133 post k43 k52 k64 x2 1 x4 x5 (wA σ_9 31 r_5.toNatClampNeg 1)))) ∧ (¬ (mA σ_9 31 r_5.toNatClampNeg) = 0 → (wB_X9_spread_133 post k43 k52 k64 x2 x3 x4 x5 σ_9)))))))) r_5 σ_6))) x4 x5 σ)))))
def wL_X9_spread_64 (post : MS → Prop) (k43 : Int32 → Int32 → MS → Prop) (k52 : Int32 → Int32 → Int32 → MS → Prop) : Nat → Int32 → Int32 → Int32 → Int32 → MS → Prop
  | 0 => fun _ _ _ _ _ => False
  | n + 1 => wB_X9_spread_64 post k43 k52 (wL_X9_spread_64 post k43 k52 n)
def wB_X9_spread_52 (post : MS → Prop) (k43 : Int32 → Int32 → MS → Prop) (k52 : Int32 → Int32 → Int32 → MS → Prop) (x2 : Int32) (x3 : Int32) (x4 : Int32) (σ : MS) : Prop :=
  ((mI σ 11) ≤ x4 → (k43 x2 x3 σ)) ∧ (¬ (mI σ 11) ≤ x4 → (∃ n, wL_X9_spread_64 post k43 k52 n x2 x3 x4 0 σ))
def wL_X9_spread_52 (post : MS → Prop) (k43 : Int32 → Int32 → MS → Prop) : Nat → Int32 → Int32 → Int32 → MS → Prop
  | 0 => fun _ _ _ _ => False
  | n + 1 => wB_X9_spread_52 post k43 (wL_X9_spread_52 post k43 n)
def wB_X9_spread_43 (post : MS → Prop) (k43 : Int32 → Int32 → MS → Prop) (x2 : Int32) (x3 : Int32) (σ : MS) : Prop :=
  (x3 = 0 → (post σ)) ∧ (¬ x3 = 0 → (∃ n, wL_X9_spread_52 post k43 n x2 0 0 σ))
def wL_X9_spread_43 (post : MS → Prop) : Nat → Int32 → Int32 → MS → Prop
  | 0 => fun _ _ _ => False
  | n + 1 => wB_X9_spread_43 post (wL_X9_spread_43 post n)
def wB_X9_spread_41 (post : MS → Prop) (x2 : Int32) (σ : MS) : Prop :=
  ∃ n, wL_X9_spread_43 post n x2 1 σ
def wB_X9_spread_2 (post : MS → Prop) (k2 : Int32 → Int32 → Int32 → MS → Prop) (x1 : Int32) (x2 : Int32) (x3 : Int32) (σ : MS) : Prop :=
  (64 ≤ x3 → (wp_X9_isPlace (fun r_1 σ_2 => (r_1 = 0 → (wB_X9_spread_41 post x2 σ_2)) ∧ (¬ r_1 = 0 → ((x1 = x2 → (wB_X9_spread_41 post x2 σ_2)) ∧ (¬ x1 = x2 → (vp_in x1 64 ∧ (wB_X9_spread_41 post x2 (wA σ_2 31 x1.toNatClampNeg 1))))))) x1 σ)) ∧ (¬ 64 ≤ x3 → (vp_in x3 64 ∧ (∀ x3_14 : Int32, x3_14 = x3 + 1 → k2 x1 x2 x3_14 (wA σ 31 x3.toNatClampNeg 0))))
def wL_X9_spread_2 (post : MS → Prop) : Nat → Int32 → Int32 → Int32 → MS → Prop
  | 0 => fun _ _ _ _ => False
  | n + 1 => wB_X9_spread_2 post (wL_X9_spread_2 post n)
def wp_X9_spread (post : MS → Prop) (x1 : Int32) (x2 : Int32) (σ : MS) : Prop :=
  ∃ n, wL_X9_spread_2 post n x1 x2 0 σ
set_option maxHeartbeats 4000000 in
set_option maxRecDepth 100000 in
theorem kB_X9_spread_139 {p : Program} {l : Launch} {e : Env} {s : State} {m : MethodId} {args : Array Value} {below : List Frame} {meth : Method} {c : Code} {A : Nat → Prop} {E : EnvT} {aK aV : Nat → Nat} {D : va_G} {cA : Nat → ClassId} {h : Nat} {ad : Nat → Nat} (C : mCx p s m args meth c cX9_spread 7 none wgX9_spread RX9 E D cA A) (vM : eMs aK aV E) {post : MS → Prop}
    {k43 : Int32 → Int32 → MS → Prop} (hk43 : ∀ (x2 : Int32) (x3 : Int32) (σ : MS) (H : Heap) (locs : List Loc) (ls : Array Slot), mG D cA h ad A s σ H locs → lv_has ls 7 [(0, .ref h), (2, .int x2), (3, .int x3)] → k43 x2 x3 σ → W p l e rm_X9_spread s m args below meth c H locs 0 0 (MQ below (va_Qv post (mAt D cA h ad A) A) args s 0 0 A) (F0 m 43 ls []))
    {k52 : Int32 → Int32 → Int32 → MS → Prop} (hk52 : ∀ (x2 : Int32) (x3 : Int32) (x4 : Int32) (σ : MS) (H : Heap) (locs : List Loc) (ls : Array Slot), mG D cA h ad A s σ H locs → lv_has ls 7 [(0, .ref h), (2, .int x2), (3, .int x3), (4, .int x4)] → k52 x2 x3 x4 σ → W p l e rm_X9_spread s m args below meth c H locs 0 0 (MQ below (va_Qv post (mAt D cA h ad A) A) args s 0 0 A) (F0 m 52 ls [])) :
    ∀ (x2 : Int32) (x3 : Int32) (x4 : Int32) (σ : MS) (H : Heap) (locs : List Loc) (ls : Array Slot), mG D cA h ad A s σ H locs → lv_has ls 7 [(0, .ref h), (2, .int x2), (3, .int x3), (4, .int x4)] → wB_X9_spread_139 post k43 k52 x2 x3 x4 σ → W p l e rm_X9_spread s m args below meth c H locs 0 0 (MQ below (va_Qv post (mAt D cA h ad A) A) args s 0 0 A) (F0 m 139 ls []) := by
  obtain ⟨hx, hb, hml, hr, hown, hts, hK, hA, hlk, hE, vE⟩ := id C
  intro x2 x3 x4 σ H locs ls hG hl hw
  obtain ⟨hP, hD, hS⟩ := id hG
  obtain ⟨x4_3, ex4_3⟩ : ∃ y : Int32, y = x4 + 1 := ⟨_, rfl⟩
  have hw := hw x4_3 ex4_3
  refine lv_iinc (v := x4_3) (lv' := [(4, .int x4_3), (0, .ref h), (2, .int x2), (3, .int x3)]) hx hb dX9_spread_139 hl (k := 3) rfl (by rw [ex4_3]; rfl) (by decide) rfl (fun ls hl => ?_)
  refine lv_goto (tgt := 52) hx hb dX9_spread_142 (by decide) ?_
  exact hk52 x2 x3 x4_3 σ _ _ _ hG (lv_sub hl [1, 2, 3, 0] rfl) hw
set_option maxHeartbeats 4000000 in
set_option maxRecDepth 100000 in
theorem kB_X9_spread_133 {p : Program} {l : Launch} {e : Env} {s : State} {m : MethodId} {args : Array Value} {below : List Frame} {meth : Method} {c : Code} {A : Nat → Prop} {E : EnvT} {aK aV : Nat → Nat} {D : va_G} {cA : Nat → ClassId} {h : Nat} {ad : Nat → Nat} (C : mCx p s m args meth c cX9_spread 7 none wgX9_spread RX9 E D cA A) (vM : eMs aK aV E) {post : MS → Prop}
    {k43 : Int32 → Int32 → MS → Prop} (hk43 : ∀ (x2 : Int32) (x3 : Int32) (σ : MS) (H : Heap) (locs : List Loc) (ls : Array Slot), mG D cA h ad A s σ H locs → lv_has ls 7 [(0, .ref h), (2, .int x2), (3, .int x3)] → k43 x2 x3 σ → W p l e rm_X9_spread s m args below meth c H locs 0 0 (MQ below (va_Qv post (mAt D cA h ad A) A) args s 0 0 A) (F0 m 43 ls []))
    {k52 : Int32 → Int32 → Int32 → MS → Prop} (hk52 : ∀ (x2 : Int32) (x3 : Int32) (x4 : Int32) (σ : MS) (H : Heap) (locs : List Loc) (ls : Array Slot), mG D cA h ad A s σ H locs → lv_has ls 7 [(0, .ref h), (2, .int x2), (3, .int x3), (4, .int x4)] → k52 x2 x3 x4 σ → W p l e rm_X9_spread s m args below meth c H locs 0 0 (MQ below (va_Qv post (mAt D cA h ad A) A) args s 0 0 A) (F0 m 52 ls []))
    {k64 : Int32 → Int32 → Int32 → Int32 → MS → Prop} (hk64 : ∀ (x2 : Int32) (x3 : Int32) (x4 : Int32) (x5 : Int32) (σ : MS) (H : Heap) (locs : List Loc) (ls : Array Slot), mG D cA h ad A s σ H locs → lv_has ls 7 [(0, .ref h), (2, .int x2), (3, .int x3), (4, .int x4), (5, .int x5)] → k64 x2 x3 x4 x5 σ → W p l e rm_X9_spread s m args below meth c H locs 0 0 (MQ below (va_Qv post (mAt D cA h ad A) A) args s 0 0 A) (F0 m 64 ls [])) :
    ∀ (x2 : Int32) (x3 : Int32) (x4 : Int32) (x5 : Int32) (σ : MS) (H : Heap) (locs : List Loc) (ls : Array Slot), mG D cA h ad A s σ H locs → lv_has ls 7 [(0, .ref h), (2, .int x2), (3, .int x3), (4, .int x4), (5, .int x5)] → wB_X9_spread_133 post k43 k52 k64 x2 x3 x4 x5 σ → W p l e rm_X9_spread s m args below meth c H locs 0 0 (MQ below (va_Qv post (mAt D cA h ad A) A) args s 0 0 A) (F0 m 133 ls []) := by
  obtain ⟨hx, hb, hml, hr, hown, hts, hK, hA, hlk, hE, vE⟩ := id C
  intro x2 x3 x4 x5 σ H locs ls hG hl hw
  obtain ⟨hP, hD, hS⟩ := id hG
  obtain ⟨x5_7, ex5_7⟩ : ∃ y : Int32, y = x5 + 1 := ⟨_, rfl⟩
  have hw := hw x5_7 ex5_7
  refine lv_iinc (v := x5_7) (lv' := [(5, .int x5_7), (0, .ref h), (2, .int x2), (3, .int x3), (4, .int x4)]) hx hb dX9_spread_133 hl (k := 4) rfl (by rw [ex5_7]; rfl) (by decide) rfl (fun ls hl => ?_)
  refine lv_goto (tgt := 64) hx hb dX9_spread_136 (by decide) ?_
  exact hk64 x2 x3 x4 x5_7 σ _ _ _ hG (lv_sub hl [1, 2, 3, 4, 0] rfl) hw
set_option maxHeartbeats 4000000 in
set_option maxRecDepth 100000 in
theorem kB_X9_spread_64 {p : Program} {l : Launch} {e : Env} {s : State} {m : MethodId} {args : Array Value} {below : List Frame} {meth : Method} {c : Code} {A : Nat → Prop} {E : EnvT} {aK aV : Nat → Nat} {D : va_G} {cA : Nat → ClassId} {h : Nat} {ad : Nat → Nat} (C : mCx p s m args meth c cX9_spread 7 none wgX9_spread RX9 E D cA A) (vM : eMs aK aV E) {post : MS → Prop}
    {k43 : Int32 → Int32 → MS → Prop} (hk43 : ∀ (x2 : Int32) (x3 : Int32) (σ : MS) (H : Heap) (locs : List Loc) (ls : Array Slot), mG D cA h ad A s σ H locs → lv_has ls 7 [(0, .ref h), (2, .int x2), (3, .int x3)] → k43 x2 x3 σ → W p l e rm_X9_spread s m args below meth c H locs 0 0 (MQ below (va_Qv post (mAt D cA h ad A) A) args s 0 0 A) (F0 m 43 ls []))
    {k52 : Int32 → Int32 → Int32 → MS → Prop} (hk52 : ∀ (x2 : Int32) (x3 : Int32) (x4 : Int32) (σ : MS) (H : Heap) (locs : List Loc) (ls : Array Slot), mG D cA h ad A s σ H locs → lv_has ls 7 [(0, .ref h), (2, .int x2), (3, .int x3), (4, .int x4)] → k52 x2 x3 x4 σ → W p l e rm_X9_spread s m args below meth c H locs 0 0 (MQ below (va_Qv post (mAt D cA h ad A) A) args s 0 0 A) (F0 m 52 ls []))
    {k64 : Int32 → Int32 → Int32 → Int32 → MS → Prop} (hk64 : ∀ (x2 : Int32) (x3 : Int32) (x4 : Int32) (x5 : Int32) (σ : MS) (H : Heap) (locs : List Loc) (ls : Array Slot), mG D cA h ad A s σ H locs → lv_has ls 7 [(0, .ref h), (2, .int x2), (3, .int x3), (4, .int x4), (5, .int x5)] → k64 x2 x3 x4 x5 σ → W p l e rm_X9_spread s m args below meth c H locs 0 0 (MQ below (va_Qv post (mAt D cA h ad A) A) args s 0 0 A) (F0 m 64 ls [])) :
    ∀ (x2 : Int32) (x3 : Int32) (x4 : Int32) (x5 : Int32) (σ : MS) (H : Heap) (locs : List Loc) (ls : Array Slot), mG D cA h ad A s σ H locs → lv_has ls 7 [(0, .ref h), (2, .int x2), (3, .int x3), (4, .int x4), (5, .int x5)] → wB_X9_spread_64 post k43 k52 k64 x2 x3 x4 x5 σ → W p l e rm_X9_spread s m args below meth c H locs 0 0 (MQ below (va_Qv post (mAt D cA h ad A) A) args s 0 0 A) (F0 m 64 ls []) := by
  obtain ⟨hx, hb, hml, hr, hown, hts, hK, hA, hlk, hE, vE⟩ := id C
  intro x2 x3 x4 x5 σ H locs ls hG hl hw
  obtain ⟨hP, hD, hS⟩ := id hG
  refine lv_iload hx hb dX9_spread_64 (lv_at hl 4 rfl) ?_
  refine lv_iconst (v := 2) hx hb dX9_spread_66 (by decide) ?_
  refine lv_icmp_ge (tgt := 139) hx hb dX9_spread_67 (by decide) (fun q_ => ?_) (fun q_ => ?_)
  · have hw := hw.1 q_
    exact kB_X9_spread_139 C vM hk43 hk52 x2 x3 x4 σ _ _ _ hG (lv_sub hl [0, 1, 2, 3] rfl) hw
  · have hw := hw.2 q_
    refine lv_aload_n hx hb dX9_spread_70 rfl (lv_at hl 0 rfl) ?_
    refine va_get (D := D) (ci := 11) (v := .ref (ad 31)) (C := RX9) (T := TX9) (N := 32) hx hb hts (in_tb inX9) hown hK hP 0 rfl rfl 31 (by decide) (hts _ (List.mem_cons_of_mem _ tw_5_141)) (fun _ h9 => h9) rfl dX9_spread_71 ?_
    refine lv_iload hx hb dX9_spread_74 (lv_at hl 3 rfl) ?_
    obtain ⟨h_4, hw⟩ := hw
    refine va_zald hx hb hK hP 17 2 rfl rfl h_4 dX9_spread_76 ?_
    refine lv_if_eq (tgt := 139) hx hb dX9_spread_77 (by decide) (fun q_ => ?_) (fun q_ => ?_)
    · have hw := hw.1 q_
      exact kB_X9_spread_139 C vM hk43 hk52 x2 x3 x4 σ _ _ _ hG (lv_sub hl [0, 1, 2, 3] rfl) hw
    · have hw := hw.2 q_
      refine lv_aload_n hx hb dX9_spread_80 rfl (lv_at hl 0 rfl) ?_
      refine lv_iload hx hb dX9_spread_81 (lv_at hl 3 rfl) ?_
      refine lv_iload hx hb dX9_spread_83 (lv_at hl 4 rfl) ?_
      refine mV_i (As := [.int x4, .int x5]) (rest := []) C (met_X9_wayOf vE vM hw) (va_recv hK hP (ci := 11) (q0 := 0) rfl rfl) (cwV 2 hts (TB_G (TB_4 tw_6_166 tw_6_168 ts_50 tw_1_13) tw_6_169) rfl rfl rfl (by decide +kernel) ⟨by decide, by decide⟩) hP hD hS rfl hl.1 rfl (Nat.le_of_ble_eq_true rfl) dX9_spread_85 ⟨by decide, by decide⟩ (fun r_5 σ_6 H locs hw hP hD hS => ?_)
      have hG : mG D cA h ad A s σ_6 H locs := ⟨hP, hD, hS⟩
      refine lv_istore (lv' := [(6, .int r_5), (0, .ref h), (2, .int x2), (3, .int x3), (4, .int x4), (5, .int x5)]) hx hb dX9_spread_88 hl (by decide) rfl (fun ls hl => ?_)
      refine lv_iload hx hb dX9_spread_90 (lv_at hl 0 rfl) ?_
      refine lv_if_lt (tgt := 133) hx hb dX9_spread_92 (by decide) (fun q_ => ?_) (fun q_ => ?_)
      · have hw := hw.1 q_
        exact kB_X9_spread_133 C vM hk43 hk52 hk64 x2 x3 x4 x5 σ_6 _ _ _ hG (lv_sub hl [1, 2, 3, 4, 5] rfl) hw
      · have hw := hw.2 q_
        refine lv_aload_n hx hb dX9_spread_95 rfl (lv_at hl 1 rfl) ?_
        refine lv_iload hx hb dX9_spread_96 (lv_at hl 0 rfl) ?_
        refine mV_i (As := [.int r_5]) (rest := []) C (met_X9_isPlace vE vM hw) (va_recv hK hP (ci := 11) (q0 := 0) rfl rfl) (cwV 1 hts (TB_G (TB_4 tw_6_108 tw_6_110 ts_45 tw_1_13) tw_6_111) rfl rfl rfl (by decide +kernel) ⟨by decide, by decide⟩) hP hD hS rfl hl.1 rfl (Nat.le_of_ble_eq_true rfl) dX9_spread_98 ⟨by decide, by decide⟩ (fun r_8 σ_9 H locs hw hP hD hS => ?_)
        have hG : mG D cA h ad A s σ_9 H locs := ⟨hP, hD, hS⟩
        refine lv_if_eq (tgt := 133) hx hb dX9_spread_101 (by decide) (fun q_ => ?_) (fun q_ => ?_)
        · have hw := hw.1 q_
          exact kB_X9_spread_133 C vM hk43 hk52 hk64 x2 x3 x4 x5 σ_9 _ _ _ hG (lv_sub hl [1, 2, 3, 4, 5] rfl) hw
        · have hw := hw.2 q_
          refine lv_iload hx hb dX9_spread_104 (lv_at hl 0 rfl) ?_
          refine lv_iload_n hx hb dX9_spread_106 rfl (lv_at hl 2 rfl) ?_
          refine lv_icmp_eq (tgt := 133) hx hb dX9_spread_107 (by decide) (fun q_ => ?_) (fun q_ => ?_)
          · have hw := hw.1 q_
            exact kB_X9_spread_133 C vM hk43 hk52 hk64 x2 x3 x4 x5 σ_9 _ _ _ hG (lv_sub hl [1, 2, 3, 4, 5] rfl) hw
          · have hw := hw.2 q_
            refine lv_aload_n hx hb dX9_spread_110 rfl (lv_at hl 1 rfl) ?_
            refine va_get (D := D) (ci := 11) (v := .ref (ad 31)) (C := RX9) (T := TX9) (N := 32) hx hb hts (in_tb inX9) hown hK hP 0 rfl rfl 31 (by decide) (hts _ (List.mem_cons_of_mem _ tw_5_141)) (fun _ h9 => h9) rfl dX9_spread_111 ?_
            refine lv_iload hx hb dX9_spread_114 (lv_at hl 0 rfl) ?_
            obtain ⟨h_10, hw⟩ := hw
            refine va_zald hx hb hK hP 17 2 rfl rfl h_10 dX9_spread_116 ?_
            refine lv_if_eq (tgt := 123) hx hb dX9_spread_117 (by decide) (fun q_ => ?_) (fun q_ => ?_)
            · have hw := hw.1 q_
              refine lv_aload_n hx hb dX9_spread_123 rfl (lv_at hl 1 rfl) ?_
              refine va_get (D := D) (ci := 11) (v := .ref (ad 31)) (C := RX9) (T := TX9) (N := 32) hx hb hts (in_tb inX9) hown hK hP 0 rfl rfl 31 (by decide) (hts _ (List.mem_cons_of_mem _ tw_5_141)) (fun _ h9 => h9) rfl dX9_spread_124 ?_
              refine lv_iload hx hb dX9_spread_127 (lv_at hl 0 rfl) ?_
              refine lv_iconst (v := 1) hx hb dX9_spread_129 (by decide) ?_
              obtain ⟨h_11, hw⟩ := hw
              refine va_zast hx hb hK hP hD hS 17 2 rfl rfl h_11 dX9_spread_130 (fun H locs hP hD hS => ?_)
              have hG : mG D cA h ad A s (wA σ_9 31 r_5.toNatClampNeg 1) H locs := ⟨hP, hD, hS⟩
              obtain ⟨hP, hD, hS⟩ := id hG
              refine lv_iconst (v := 1) hx hb dX9_spread_131 (by decide) ?_
              refine lv_istore_n (lv' := [(3, .int 1), (6, .int r_5), (0, .ref h), (2, .int x2), (4, .int x4), (5, .int x5)]) hx hb dX9_spread_132 rfl hl (by decide) rfl (fun ls hl => ?_)
              exact kB_X9_spread_133 C vM hk43 hk52 hk64 x2 1 x4 x5 (wA σ_9 31 r_5.toNatClampNeg 1) _ _ _ hG (lv_sub hl [2, 3, 0, 4, 5] rfl) hw
            · have hw := hw.2 q_
              refine lv_goto (tgt := 133) hx hb dX9_spread_120 (by decide) ?_
              exact kB_X9_spread_133 C vM hk43 hk52 hk64 x2 x3 x4 x5 σ_9 _ _ _ hG (lv_sub hl [1, 2, 3, 4, 5] rfl) hw
theorem kL_X9_spread_64 {p : Program} {l : Launch} {e : Env} {s : State} {m : MethodId} {args : Array Value} {below : List Frame} {meth : Method} {c : Code} {A : Nat → Prop} {E : EnvT} {aK aV : Nat → Nat} {D : va_G} {cA : Nat → ClassId} {h : Nat} {ad : Nat → Nat} (C : mCx p s m args meth c cX9_spread 7 none wgX9_spread RX9 E D cA A) (vM : eMs aK aV E) {post : MS → Prop}
    {k43 : Int32 → Int32 → MS → Prop} (hk43 : ∀ (x2 : Int32) (x3 : Int32) (σ : MS) (H : Heap) (locs : List Loc) (ls : Array Slot), mG D cA h ad A s σ H locs → lv_has ls 7 [(0, .ref h), (2, .int x2), (3, .int x3)] → k43 x2 x3 σ → W p l e rm_X9_spread s m args below meth c H locs 0 0 (MQ below (va_Qv post (mAt D cA h ad A) A) args s 0 0 A) (F0 m 43 ls []))
    {k52 : Int32 → Int32 → Int32 → MS → Prop} (hk52 : ∀ (x2 : Int32) (x3 : Int32) (x4 : Int32) (σ : MS) (H : Heap) (locs : List Loc) (ls : Array Slot), mG D cA h ad A s σ H locs → lv_has ls 7 [(0, .ref h), (2, .int x2), (3, .int x3), (4, .int x4)] → k52 x2 x3 x4 σ → W p l e rm_X9_spread s m args below meth c H locs 0 0 (MQ below (va_Qv post (mAt D cA h ad A) A) args s 0 0 A) (F0 m 52 ls [])) :
    ∀ (n : Nat) (x2 : Int32) (x3 : Int32) (x4 : Int32) (x5 : Int32) (σ : MS) (H : Heap) (locs : List Loc) (ls : Array Slot), mG D cA h ad A s σ H locs → lv_has ls 7 [(0, .ref h), (2, .int x2), (3, .int x3), (4, .int x4), (5, .int x5)] → wL_X9_spread_64 post k43 k52 n x2 x3 x4 x5 σ → W p l e rm_X9_spread s m args below meth c H locs 0 0 (MQ below (va_Qv post (mAt D cA h ad A) A) args s 0 0 A) (F0 m 64 ls []) := by
  intro n
  induction n with
  | zero => intro x2 x3 x4 x5 σ H locs ls hG hl hw; exact hw.elim
  | succ n ih => exact kB_X9_spread_64 C vM hk43 hk52 ih
set_option maxHeartbeats 4000000 in
set_option maxRecDepth 100000 in
theorem kB_X9_spread_52 {p : Program} {l : Launch} {e : Env} {s : State} {m : MethodId} {args : Array Value} {below : List Frame} {meth : Method} {c : Code} {A : Nat → Prop} {E : EnvT} {aK aV : Nat → Nat} {D : va_G} {cA : Nat → ClassId} {h : Nat} {ad : Nat → Nat} (C : mCx p s m args meth c cX9_spread 7 none wgX9_spread RX9 E D cA A) (vM : eMs aK aV E) {post : MS → Prop}
    {k43 : Int32 → Int32 → MS → Prop} (hk43 : ∀ (x2 : Int32) (x3 : Int32) (σ : MS) (H : Heap) (locs : List Loc) (ls : Array Slot), mG D cA h ad A s σ H locs → lv_has ls 7 [(0, .ref h), (2, .int x2), (3, .int x3)] → k43 x2 x3 σ → W p l e rm_X9_spread s m args below meth c H locs 0 0 (MQ below (va_Qv post (mAt D cA h ad A) A) args s 0 0 A) (F0 m 43 ls []))
    {k52 : Int32 → Int32 → Int32 → MS → Prop} (hk52 : ∀ (x2 : Int32) (x3 : Int32) (x4 : Int32) (σ : MS) (H : Heap) (locs : List Loc) (ls : Array Slot), mG D cA h ad A s σ H locs → lv_has ls 7 [(0, .ref h), (2, .int x2), (3, .int x3), (4, .int x4)] → k52 x2 x3 x4 σ → W p l e rm_X9_spread s m args below meth c H locs 0 0 (MQ below (va_Qv post (mAt D cA h ad A) A) args s 0 0 A) (F0 m 52 ls [])) :
    ∀ (x2 : Int32) (x3 : Int32) (x4 : Int32) (σ : MS) (H : Heap) (locs : List Loc) (ls : Array Slot), mG D cA h ad A s σ H locs → lv_has ls 7 [(0, .ref h), (2, .int x2), (3, .int x3), (4, .int x4)] → wB_X9_spread_52 post k43 k52 x2 x3 x4 σ → W p l e rm_X9_spread s m args below meth c H locs 0 0 (MQ below (va_Qv post (mAt D cA h ad A) A) args s 0 0 A) (F0 m 52 ls []) := by
  obtain ⟨hx, hb, hml, hr, hown, hts, hK, hA, hlk, hE, vE⟩ := id C
  intro x2 x3 x4 σ H locs ls hG hl hw
  obtain ⟨hP, hD, hS⟩ := id hG
  refine lv_iload hx hb dX9_spread_52 (lv_at hl 3 rfl) ?_
  refine lv_aload_n hx hb dX9_spread_54 rfl (lv_at hl 0 rfl) ?_
  refine va_get (D := D) (ci := 11) (v := .int (mI σ 11)) (C := RX9) (T := TX9) (N := 32) hx hb hts (in_tb inX9) hown hK hP 0 rfl rfl 11 (by decide) (hts _ (List.mem_cons_of_mem _ tw_5_121)) (fun _ h9 => h9) rfl dX9_spread_55 ?_
  refine lv_icmp_ge (tgt := 145) hx hb dX9_spread_58 (by decide) (fun q_ => ?_) (fun q_ => ?_)
  · have hw := hw.1 q_
    refine lv_goto (tgt := 43) hx hb dX9_spread_145 (by decide) ?_
    exact hk43 x2 x3 σ _ _ _ hG (lv_sub hl [0, 1, 2] rfl) hw
  · have hw := hw.2 q_
    refine lv_iconst (v := 0) hx hb dX9_spread_61 (by decide) ?_
    refine lv_istore (lv' := [(5, .int 0), (0, .ref h), (2, .int x2), (3, .int x3), (4, .int x4)]) hx hb dX9_spread_62 hl (by decide) rfl (fun ls hl => ?_)
    obtain ⟨n_, hw⟩ := hw
    exact kL_X9_spread_64 C vM hk43 hk52 n_ x2 x3 x4 0 σ _ _ _ hG (lv_sub hl [1, 2, 3, 4, 0] rfl) hw
theorem kL_X9_spread_52 {p : Program} {l : Launch} {e : Env} {s : State} {m : MethodId} {args : Array Value} {below : List Frame} {meth : Method} {c : Code} {A : Nat → Prop} {E : EnvT} {aK aV : Nat → Nat} {D : va_G} {cA : Nat → ClassId} {h : Nat} {ad : Nat → Nat} (C : mCx p s m args meth c cX9_spread 7 none wgX9_spread RX9 E D cA A) (vM : eMs aK aV E) {post : MS → Prop}
    {k43 : Int32 → Int32 → MS → Prop} (hk43 : ∀ (x2 : Int32) (x3 : Int32) (σ : MS) (H : Heap) (locs : List Loc) (ls : Array Slot), mG D cA h ad A s σ H locs → lv_has ls 7 [(0, .ref h), (2, .int x2), (3, .int x3)] → k43 x2 x3 σ → W p l e rm_X9_spread s m args below meth c H locs 0 0 (MQ below (va_Qv post (mAt D cA h ad A) A) args s 0 0 A) (F0 m 43 ls [])) :
    ∀ (n : Nat) (x2 : Int32) (x3 : Int32) (x4 : Int32) (σ : MS) (H : Heap) (locs : List Loc) (ls : Array Slot), mG D cA h ad A s σ H locs → lv_has ls 7 [(0, .ref h), (2, .int x2), (3, .int x3), (4, .int x4)] → wL_X9_spread_52 post k43 n x2 x3 x4 σ → W p l e rm_X9_spread s m args below meth c H locs 0 0 (MQ below (va_Qv post (mAt D cA h ad A) A) args s 0 0 A) (F0 m 52 ls []) := by
  intro n
  induction n with
  | zero => intro x2 x3 x4 σ H locs ls hG hl hw; exact hw.elim
  | succ n ih => exact kB_X9_spread_52 C vM hk43 ih
set_option maxHeartbeats 4000000 in
set_option maxRecDepth 100000 in
theorem kB_X9_spread_43 {p : Program} {l : Launch} {e : Env} {s : State} {m : MethodId} {args : Array Value} {below : List Frame} {meth : Method} {c : Code} {A : Nat → Prop} {E : EnvT} {aK aV : Nat → Nat} {D : va_G} {cA : Nat → ClassId} {h : Nat} {ad : Nat → Nat} (C : mCx p s m args meth c cX9_spread 7 none wgX9_spread RX9 E D cA A) (vM : eMs aK aV E) {post : MS → Prop}
    {k43 : Int32 → Int32 → MS → Prop} (hk43 : ∀ (x2 : Int32) (x3 : Int32) (σ : MS) (H : Heap) (locs : List Loc) (ls : Array Slot), mG D cA h ad A s σ H locs → lv_has ls 7 [(0, .ref h), (2, .int x2), (3, .int x3)] → k43 x2 x3 σ → W p l e rm_X9_spread s m args below meth c H locs 0 0 (MQ below (va_Qv post (mAt D cA h ad A) A) args s 0 0 A) (F0 m 43 ls [])) :
    ∀ (x2 : Int32) (x3 : Int32) (σ : MS) (H : Heap) (locs : List Loc) (ls : Array Slot), mG D cA h ad A s σ H locs → lv_has ls 7 [(0, .ref h), (2, .int x2), (3, .int x3)] → wB_X9_spread_43 post k43 x2 x3 σ → W p l e rm_X9_spread s m args below meth c H locs 0 0 (MQ below (va_Qv post (mAt D cA h ad A) A) args s 0 0 A) (F0 m 43 ls []) := by
  obtain ⟨hx, hb, hml, hr, hown, hts, hK, hA, hlk, hE, vE⟩ := id C
  intro x2 x3 σ H locs ls hG hl hw
  obtain ⟨hP, hD, hS⟩ := id hG
  refine lv_iload_n hx hb dX9_spread_43 rfl (lv_at hl 2 rfl) ?_
  refine lv_if_eq (tgt := 148) hx hb dX9_spread_44 (by decide) (fun q_ => ?_) (fun q_ => ?_)
  · have hw := hw.1 q_
    exact W.vret hx hb hr (fun t ht hW => ⟨⟨σ, rfl, hw, by rw [ht]; exact hP, va_K.moved hW.alike hK, hD⟩, hS.F ht⟩) hS.2.2 dX9_spread_148 hlk
  · have hw := hw.2 q_
    refine lv_iconst (v := 0) hx hb dX9_spread_47 (by decide) ?_
    refine lv_istore_n (lv' := [(3, .int 0), (0, .ref h), (2, .int x2)]) hx hb dX9_spread_48 rfl hl (by decide) rfl (fun ls hl => ?_)
    refine lv_iconst (v := 0) hx hb dX9_spread_49 (by decide) ?_
    refine lv_istore (lv' := [(4, .int 0), (3, .int 0), (0, .ref h), (2, .int x2)]) hx hb dX9_spread_50 hl (by decide) rfl (fun ls hl => ?_)
    obtain ⟨n_, hw⟩ := hw
    exact kL_X9_spread_52 C vM hk43 n_ x2 0 0 σ _ _ _ hG (lv_sub hl [2, 3, 1, 0] rfl) hw
theorem kL_X9_spread_43 {p : Program} {l : Launch} {e : Env} {s : State} {m : MethodId} {args : Array Value} {below : List Frame} {meth : Method} {c : Code} {A : Nat → Prop} {E : EnvT} {aK aV : Nat → Nat} {D : va_G} {cA : Nat → ClassId} {h : Nat} {ad : Nat → Nat} (C : mCx p s m args meth c cX9_spread 7 none wgX9_spread RX9 E D cA A) (vM : eMs aK aV E) {post : MS → Prop} :
    ∀ (n : Nat) (x2 : Int32) (x3 : Int32) (σ : MS) (H : Heap) (locs : List Loc) (ls : Array Slot), mG D cA h ad A s σ H locs → lv_has ls 7 [(0, .ref h), (2, .int x2), (3, .int x3)] → wL_X9_spread_43 post n x2 x3 σ → W p l e rm_X9_spread s m args below meth c H locs 0 0 (MQ below (va_Qv post (mAt D cA h ad A) A) args s 0 0 A) (F0 m 43 ls []) := by
  intro n
  induction n with
  | zero => intro x2 x3 σ H locs ls hG hl hw; exact hw.elim
  | succ n ih => exact kB_X9_spread_43 C vM ih
set_option maxHeartbeats 4000000 in
set_option maxRecDepth 100000 in
theorem kB_X9_spread_41 {p : Program} {l : Launch} {e : Env} {s : State} {m : MethodId} {args : Array Value} {below : List Frame} {meth : Method} {c : Code} {A : Nat → Prop} {E : EnvT} {aK aV : Nat → Nat} {D : va_G} {cA : Nat → ClassId} {h : Nat} {ad : Nat → Nat} (C : mCx p s m args meth c cX9_spread 7 none wgX9_spread RX9 E D cA A) (vM : eMs aK aV E) {post : MS → Prop} :
    ∀ (x2 : Int32) (σ : MS) (H : Heap) (locs : List Loc) (ls : Array Slot), mG D cA h ad A s σ H locs → lv_has ls 7 [(0, .ref h), (2, .int x2)] → wB_X9_spread_41 post x2 σ → W p l e rm_X9_spread s m args below meth c H locs 0 0 (MQ below (va_Qv post (mAt D cA h ad A) A) args s 0 0 A) (F0 m 41 ls []) := by
  obtain ⟨hx, hb, hml, hr, hown, hts, hK, hA, hlk, hE, vE⟩ := id C
  intro x2 σ H locs ls hG hl hw
  obtain ⟨hP, hD, hS⟩ := id hG
  refine lv_iconst (v := 1) hx hb dX9_spread_41 (by decide) ?_
  refine lv_istore_n (lv' := [(3, .int 1), (0, .ref h), (2, .int x2)]) hx hb dX9_spread_42 rfl hl (by decide) rfl (fun ls hl => ?_)
  obtain ⟨n_, hw⟩ := hw
  exact kL_X9_spread_43 C vM n_ x2 1 σ _ _ _ hG (lv_sub hl [1, 2, 0] rfl) hw
set_option maxHeartbeats 4000000 in
set_option maxRecDepth 100000 in
theorem kB_X9_spread_2 {p : Program} {l : Launch} {e : Env} {s : State} {m : MethodId} {args : Array Value} {below : List Frame} {meth : Method} {c : Code} {A : Nat → Prop} {E : EnvT} {aK aV : Nat → Nat} {D : va_G} {cA : Nat → ClassId} {h : Nat} {ad : Nat → Nat} (C : mCx p s m args meth c cX9_spread 7 none wgX9_spread RX9 E D cA A) (vM : eMs aK aV E) {post : MS → Prop}
    {k2 : Int32 → Int32 → Int32 → MS → Prop} (hk2 : ∀ (x1 : Int32) (x2 : Int32) (x3 : Int32) (σ : MS) (H : Heap) (locs : List Loc) (ls : Array Slot), mG D cA h ad A s σ H locs → lv_has ls 7 [(0, .ref h), (1, .int x1), (2, .int x2), (3, .int x3)] → k2 x1 x2 x3 σ → W p l e rm_X9_spread s m args below meth c H locs 0 0 (MQ below (va_Qv post (mAt D cA h ad A) A) args s 0 0 A) (F0 m 2 ls [])) :
    ∀ (x1 : Int32) (x2 : Int32) (x3 : Int32) (σ : MS) (H : Heap) (locs : List Loc) (ls : Array Slot), mG D cA h ad A s σ H locs → lv_has ls 7 [(0, .ref h), (1, .int x1), (2, .int x2), (3, .int x3)] → wB_X9_spread_2 post k2 x1 x2 x3 σ → W p l e rm_X9_spread s m args below meth c H locs 0 0 (MQ below (va_Qv post (mAt D cA h ad A) A) args s 0 0 A) (F0 m 2 ls []) := by
  obtain ⟨hx, hb, hml, hr, hown, hts, hK, hA, hlk, hE, vE⟩ := id C
  intro x1 x2 x3 σ H locs ls hG hl hw
  obtain ⟨hP, hD, hS⟩ := id hG
  refine lv_iload_n hx hb dX9_spread_2 rfl (lv_at hl 3 rfl) ?_
  refine lv_bipush (v := 64) hx hb dX9_spread_3 (by decide) ?_
  refine lv_icmp_ge (tgt := 21) hx hb dX9_spread_5 (by decide) (fun q_ => ?_) (fun q_ => ?_)
  · have hw := hw.1 q_
    refine lv_aload_n hx hb dX9_spread_21 rfl (lv_at hl 0 rfl) ?_
    refine lv_iload_n hx hb dX9_spread_22 rfl (lv_at hl 1 rfl) ?_
    refine mV_i (As := [.int x1]) (rest := []) C (met_X9_isPlace vE vM hw) (va_recv hK hP (ci := 11) (q0 := 0) rfl rfl) (cwV 1 hts (TB_G (TB_4 tw_6_108 tw_6_110 ts_45 tw_1_13) tw_6_111) rfl rfl rfl (by decide +kernel) ⟨by decide, by decide⟩) hP hD hS rfl hl.1 rfl (Nat.le_of_ble_eq_true rfl) dX9_spread_23 ⟨by decide, by decide⟩ (fun r_1 σ_2 H locs hw hP hD hS => ?_)
    have hG : mG D cA h ad A s σ_2 H locs := ⟨hP, hD, hS⟩
    refine lv_if_eq (tgt := 41) hx hb dX9_spread_26 (by decide) (fun q_ => ?_) (fun q_ => ?_)
    · have hw := hw.1 q_
      exact kB_X9_spread_41 C vM x2 σ_2 _ _ _ hG (lv_sub hl [0, 2] rfl) hw
    · have hw := hw.2 q_
      refine lv_iload_n hx hb dX9_spread_29 rfl (lv_at hl 1 rfl) ?_
      refine lv_iload_n hx hb dX9_spread_30 rfl (lv_at hl 2 rfl) ?_
      refine lv_icmp_eq (tgt := 41) hx hb dX9_spread_31 (by decide) (fun q_ => ?_) (fun q_ => ?_)
      · have hw := hw.1 q_
        exact kB_X9_spread_41 C vM x2 σ_2 _ _ _ hG (lv_sub hl [0, 2] rfl) hw
      · have hw := hw.2 q_
        refine lv_aload_n hx hb dX9_spread_34 rfl (lv_at hl 0 rfl) ?_
        refine va_get (D := D) (ci := 11) (v := .ref (ad 31)) (C := RX9) (T := TX9) (N := 32) hx hb hts (in_tb inX9) hown hK hP 0 rfl rfl 31 (by decide) (hts _ (List.mem_cons_of_mem _ tw_5_141)) (fun _ h9 => h9) rfl dX9_spread_35 ?_
        refine lv_iload_n hx hb dX9_spread_38 rfl (lv_at hl 1 rfl) ?_
        refine lv_iconst (v := 1) hx hb dX9_spread_39 (by decide) ?_
        obtain ⟨h_12, hw⟩ := hw
        refine va_zast hx hb hK hP hD hS 17 2 rfl rfl h_12 dX9_spread_40 (fun H locs hP hD hS => ?_)
        have hG : mG D cA h ad A s (wA σ_2 31 x1.toNatClampNeg 1) H locs := ⟨hP, hD, hS⟩
        obtain ⟨hP, hD, hS⟩ := id hG
        exact kB_X9_spread_41 C vM x2 (wA σ_2 31 x1.toNatClampNeg 1) _ _ _ hG (lv_sub hl [0, 2] rfl) hw
  · have hw := hw.2 q_
    refine lv_aload_n hx hb dX9_spread_8 rfl (lv_at hl 0 rfl) ?_
    refine va_get (D := D) (ci := 11) (v := .ref (ad 31)) (C := RX9) (T := TX9) (N := 32) hx hb hts (in_tb inX9) hown hK hP 0 rfl rfl 31 (by decide) (hts _ (List.mem_cons_of_mem _ tw_5_141)) (fun _ h9 => h9) rfl dX9_spread_9 ?_
    refine lv_iload_n hx hb dX9_spread_12 rfl (lv_at hl 3 rfl) ?_
    refine lv_iconst (v := 0) hx hb dX9_spread_13 (by decide) ?_
    obtain ⟨h_13, hw⟩ := hw
    refine va_zast hx hb hK hP hD hS 17 2 rfl rfl h_13 dX9_spread_14 (fun H locs hP hD hS => ?_)
    have hG : mG D cA h ad A s (wA σ 31 x3.toNatClampNeg 0) H locs := ⟨hP, hD, hS⟩
    obtain ⟨hP, hD, hS⟩ := id hG
    obtain ⟨x3_14, ex3_14⟩ : ∃ y : Int32, y = x3 + 1 := ⟨_, rfl⟩
    have hw := hw x3_14 ex3_14
    refine lv_iinc (v := x3_14) (lv' := [(3, .int x3_14), (0, .ref h), (1, .int x1), (2, .int x2)]) hx hb dX9_spread_15 hl (k := 3) rfl (by rw [ex3_14]; rfl) (by decide) rfl (fun ls hl => ?_)
    refine lv_goto (tgt := 2) hx hb dX9_spread_18 (by decide) ?_
    exact hk2 x1 x2 x3_14 (wA σ 31 x3.toNatClampNeg 0) _ _ _ hG (lv_sub hl [1, 2, 3, 0] rfl) hw
theorem kL_X9_spread_2 {p : Program} {l : Launch} {e : Env} {s : State} {m : MethodId} {args : Array Value} {below : List Frame} {meth : Method} {c : Code} {A : Nat → Prop} {E : EnvT} {aK aV : Nat → Nat} {D : va_G} {cA : Nat → ClassId} {h : Nat} {ad : Nat → Nat} (C : mCx p s m args meth c cX9_spread 7 none wgX9_spread RX9 E D cA A) (vM : eMs aK aV E) {post : MS → Prop} :
    ∀ (n : Nat) (x1 : Int32) (x2 : Int32) (x3 : Int32) (σ : MS) (H : Heap) (locs : List Loc) (ls : Array Slot), mG D cA h ad A s σ H locs → lv_has ls 7 [(0, .ref h), (1, .int x1), (2, .int x2), (3, .int x3)] → wL_X9_spread_2 post n x1 x2 x3 σ → W p l e rm_X9_spread s m args below meth c H locs 0 0 (MQ below (va_Qv post (mAt D cA h ad A) A) args s 0 0 A) (F0 m 2 ls []) := by
  intro n
  induction n with
  | zero => intro x1 x2 x3 σ H locs ls hG hl hw; exact hw.elim
  | succ n ih => exact kB_X9_spread_2 C vM ih
set_option maxHeartbeats 4000000 in
set_option maxRecDepth 100000 in
theorem k_X9_spread {p : Program} {l : Launch} {e : Env} {s : State} {m : MethodId} {args : Array Value} {below : List Frame} {meth : Method} {c : Code} {A : Nat → Prop} {E : EnvT} {aK aV : Nat → Nat} {D : va_G} {cA : Nat → ClassId} {h : Nat} {ad : Nat → Nat} (C : mCx p s m args meth c cX9_spread 7 none wgX9_spread RX9 E D cA A) (vM : eMs aK aV E) {post : MS → Prop} :
    ∀ (x1 : Int32) (x2 : Int32) (σ : MS) (H : Heap) (locs : List Loc) (ls : Array Slot), mG D cA h ad A s σ H locs → lv_has ls 7 [(0, .ref h), (1, .int x1), (2, .int x2)] → wp_X9_spread post x1 x2 σ → W p l e rm_X9_spread s m args below meth c H locs 0 0 (MQ below (va_Qv post (mAt D cA h ad A) A) args s 0 0 A) (F0 m 0 ls []) := by
  obtain ⟨hx, hb, hml, hr, hown, hts, hK, hA, hlk, hE, vE⟩ := id C
  intro x1 x2 σ H locs ls hG hl hw
  obtain ⟨hP, hD, hS⟩ := id hG
  refine lv_iconst (v := 0) hx hb dX9_spread_0 (by decide) ?_
  refine lv_istore_n (lv' := [(3, .int 0), (0, .ref h), (1, .int x1), (2, .int x2)]) hx hb dX9_spread_1 rfl hl (by decide) rfl (fun ls hl => ?_)
  obtain ⟨n_, hw⟩ := hw
  exact kL_X9_spread_2 C vM n_ x1 x2 0 σ _ _ _ hG (lv_sub hl [1, 2, 3, 0] rfl) hw
set_option maxHeartbeats 4000000 in
set_option maxRecDepth 100000 in
theorem met_X9_spread {l : Launch} {E : EnvT} (vE : EnvOk E) {D : va_G} {cA : Nat → ClassId} {h : Nat} {ad : Nat → Nat} {σ : MS} {aK aV : Nat → Nat} (vM : eMs aK aV E) {sz : Nat} {x1 : Int32} {x2 : Int32} {post : MS → Prop} (hw : wp_X9_spread post x1 x2 σ) : Met l yX9_spread wgX9_spread rm_X9_spread (va_Pc [.ref h, .int x1, .int x2] (mPre E D cA h ad sz σ)) (va_Qv post (mAt D cA h ad (va_A (mW cA h ad σ) sz)) (va_A (mW cA h ad σ) sz)) 0 0 (va_A (mW cA h ad σ) sz) := by
  refine Met.ofW (cc := cX9_spread) (maxL := 7) (ret := none) (by decide +kernel) rfl ?_
  intro p e s m args below meth c s₁ B hml hv
  obtain ⟨rfl, hsz, hP, hK, hD0, hE⟩ := hv
  subst hsz
  have hD := hD0.self (sz := s.heap.size)
  generalize hAe : va_A (mW cA h ad σ) s.heap.size = A at hD hE ⊢
  have hA : ∀ q : Nat, s.heap.size ≤ q → A q := fun q h => by rw [← hAe]; exact Or.inr h
  have hS : va_S A s.heap s.heap [] := va_S.rf
  have C : mCx p s m _ meth c cX9_spread 7 none wgX9_spread RX9 E D cA A := ⟨B.exec, B.bytes, hml, B.returns, findClass_of_methodNamed B.named, atoms_spec (ws := wgX9_spread) B.pre, hK, hA, B.notSynchronized, hE, vE⟩
  have hG : mG D cA h ad A s σ s.heap [] := ⟨hP, hD, hS⟩
  have hl := lv_entry ([.ref h, .int x1, .int x2]) (n := 7) (Nat.le_of_ble_eq_true rfl)
  rw [lg_entry_eq]
  generalize (lg_sl ([.ref h, .int x1, .int x2]) ++ List.replicate (7 - (lg_sl ([.ref h, .int x1, .int x2])).length) Slot.unset).toArray = ls at hl ⊢
  have hl : lv_has ls 7 [(0, .ref h), (1, .int x1), (2, .int x2)] := hl
  exact k_X9_spread C vM x1 x2 σ _ _ _ hG hl hw
/-! ===== reached ===== -/
def rm_X9_reached : Room := { frames := 9, cells := 0, slots := 0, locals := 207 }
abbrev wgX9_reached : List Cond := .code yX9_reached cX9_reached 2 (some .boolean) :: TB
def wp_X9_reached (post : Int32 → MS → Prop) (x1 : Int32) (σ : MS) : Prop :=
  wp_X9_isPlace (fun r_1 σ_2 => (r_1 = 0 → (post 0 σ_2)) ∧ (¬ r_1 = 0 → (wp_X9_spread (fun σ_4 => vp_in x1 64 ∧ (isB (mA σ_4 31 x1.toNatClampNeg) ∧ (post (mA σ_4 31 x1.toNatClampNeg) σ_4))) 0 (-1) σ_2))) x1 (wI σ 0 0)
set_option maxHeartbeats 4000000 in
set_option maxRecDepth 100000 in
theorem k_X9_reached {p : Program} {l : Launch} {e : Env} {s : State} {m : MethodId} {args : Array Value} {below : List Frame} {meth : Method} {c : Code} {A : Nat → Prop} {E : EnvT} {aK aV : Nat → Nat} {D : va_G} {cA : Nat → ClassId} {h : Nat} {ad : Nat → Nat} (C : mCx p s m args meth c cX9_reached 2 (some .boolean) wgX9_reached RX9 E D cA A) (vM : eMs aK aV E) {post : Int32 → MS → Prop} :
    ∀ (x1 : Int32) (σ : MS) (H : Heap) (locs : List Loc) (ls : Array Slot), mG D cA h ad A s σ H locs → lv_has ls 2 [(0, .ref h), (1, .int x1)] → wp_X9_reached post x1 σ → W p l e rm_X9_reached s m args below meth c H locs 0 0 (MQ below (va_Qi post (mAt D cA h ad A) A) args s 0 0 A) (F0 m 0 ls []) := by
  obtain ⟨hx, hb, hml, hr, hown, hts, hK, hA, hlk, hE, vE⟩ := id C
  intro x1 σ H locs ls hG hl hw
  obtain ⟨hP, hD, hS⟩ := id hG
  refine lv_aload_n hx hb dX9_reached_0 rfl (lv_at hl 0 rfl) ?_
  refine lv_iconst (v := 0) hx hb dX9_reached_1 (by decide) ?_
  refine va_put (D := D) (ci := 11) (v := .int 0) (ty := .int) (C := RX9) (T := TX9) (N := 32) hx hb hts (in_tb inX9) tyX9 tyX9_ok nmX9 hown hK hP hD hS 0 rfl rfl 0 (by decide) (hts _ (List.mem_cons_of_mem _ tw_5_110)) (fun _ h9 => h9) rfl (by decide +kernel) rfl rfl (Nat.le_of_ble_eq_true rfl) dX9_reached_2 (fun H locs hP hD hS => ?_)
  have hG : mG D cA h ad A s (wI σ 0 0) H locs := ⟨hP, hD, hS⟩
  obtain ⟨hP, hD, hS⟩ := id hG
  refine lv_aload_n hx hb dX9_reached_5 rfl (lv_at hl 0 rfl) ?_
  refine lv_iload_n hx hb dX9_reached_6 rfl (lv_at hl 1 rfl) ?_
  refine mV_i (As := [.int x1]) (rest := []) C (met_X9_isPlace vE vM hw) (va_recv hK hP (ci := 11) (q0 := 0) rfl rfl) (cwV 1 hts (TB_G (TB_4 tw_6_108 tw_6_110 ts_45 tw_1_13) tw_6_111) rfl rfl rfl (by decide +kernel) ⟨by decide, by decide⟩) hP hD hS rfl hl.1 rfl (Nat.le_of_ble_eq_true rfl) dX9_reached_7 ⟨by decide, by decide⟩ (fun r_1 σ_2 H locs hw hP hD hS => ?_)
  have hG : mG D cA h ad A s σ_2 H locs := ⟨hP, hD, hS⟩
  refine lv_if_ne (tgt := 15) hx hb dX9_reached_10 (by decide) (fun q_ => ?_) (fun q_ => ?_)
  · have hw := hw.2 q_
    refine lv_aload_n hx hb dX9_reached_15 rfl (lv_at hl 0 rfl) ?_
    refine lv_iconst (v := 0) hx hb dX9_reached_16 (by decide) ?_
    refine lv_iconst (v := (-1)) hx hb dX9_reached_17 (by decide) ?_
    refine mV_v (As := [.int 0, .int (-1)]) (rest := []) C (met_X9_spread vE vM hw) (va_recv hK hP (ci := 11) (q0 := 0) rfl rfl) (cwV 2 hts (TB_G (TB_4 tw_6_178 tw_6_180 ts_52 tw_1_13) tw_6_181) rfl rfl rfl (by decide +kernel) ⟨by decide, by decide⟩) hP hD hS rfl hl.1 rfl (Nat.le_of_ble_eq_true rfl) dX9_reached_18 ⟨by decide, by decide⟩ (fun σ_4 H locs hw hP hD hS => ?_)
    have hG : mG D cA h ad A s σ_4 H locs := ⟨hP, hD, hS⟩
    refine lv_aload_n hx hb dX9_reached_21 rfl (lv_at hl 0 rfl) ?_
    refine va_get (D := D) (ci := 11) (v := .ref (ad 31)) (C := RX9) (T := TX9) (N := 32) hx hb hts (in_tb inX9) hown hK hP 0 rfl rfl 31 (by decide) (hts _ (List.mem_cons_of_mem _ tw_5_141)) (fun _ h9 => h9) rfl dX9_reached_22 ?_
    refine lv_iload_n hx hb dX9_reached_25 rfl (lv_at hl 1 rfl) ?_
    obtain ⟨h_5, hw⟩ := hw
    refine va_zald hx hb hK hP 17 2 rfl rfl h_5 dX9_reached_26 ?_
    obtain ⟨h_6, hw⟩ := hw
    exact W.zret (v := mA σ_4 31 x1.toNatClampNeg) (ty := .boolean) hx hb hr (isB.n h_6) (fun t ht hW => ⟨⟨_, σ_4, rfl, hw, by rw [ht]; exact hP, va_K.moved hW.alike hK, hD⟩, hS.F ht⟩) hS.2.2 dX9_reached_27 hlk
  · have hw := hw.1 q_
    refine lv_iconst (v := 0) hx hb dX9_reached_13 (by decide) ?_
    exact W.zret (v := 0) (ty := .boolean) hx hb hr rfl (fun t ht hW => ⟨⟨_, σ_2, rfl, hw, by rw [ht]; exact hP, va_K.moved hW.alike hK, hD⟩, hS.F ht⟩) hS.2.2 dX9_reached_14 hlk
set_option maxHeartbeats 4000000 in
set_option maxRecDepth 100000 in
theorem met_X9_reached {l : Launch} {E : EnvT} (vE : EnvOk E) {D : va_G} {cA : Nat → ClassId} {h : Nat} {ad : Nat → Nat} {σ : MS} {aK aV : Nat → Nat} (vM : eMs aK aV E) {sz : Nat} {x1 : Int32} {post : Int32 → MS → Prop} (hw : wp_X9_reached post x1 σ) : Met l yX9_reached wgX9_reached rm_X9_reached (va_Pc [.ref h, .int x1] (mPre E D cA h ad sz σ)) (va_Qi post (mAt D cA h ad (va_A (mW cA h ad σ) sz)) (va_A (mW cA h ad σ) sz)) 0 0 (va_A (mW cA h ad σ) sz) := by
  refine Met.ofW (cc := cX9_reached) (maxL := 2) (ret := (some .boolean)) (by decide +kernel) rfl ?_
  intro p e s m args below meth c s₁ B hml hv
  obtain ⟨rfl, hsz, hP, hK, hD0, hE⟩ := hv
  subst hsz
  have hD := hD0.self (sz := s.heap.size)
  generalize hAe : va_A (mW cA h ad σ) s.heap.size = A at hD hE ⊢
  have hA : ∀ q : Nat, s.heap.size ≤ q → A q := fun q h => by rw [← hAe]; exact Or.inr h
  have hS : va_S A s.heap s.heap [] := va_S.rf
  have C : mCx p s m _ meth c cX9_reached 2 (some .boolean) wgX9_reached RX9 E D cA A := ⟨B.exec, B.bytes, hml, B.returns, findClass_of_methodNamed B.named, atoms_spec (ws := wgX9_reached) B.pre, hK, hA, B.notSynchronized, hE, vE⟩
  have hG : mG D cA h ad A s σ s.heap [] := ⟨hP, hD, hS⟩
  have hl := lv_entry ([.ref h, .int x1]) (n := 2) (Nat.le_of_ble_eq_true rfl)
  rw [lg_entry_eq]
  generalize (lg_sl ([.ref h, .int x1]) ++ List.replicate (2 - (lg_sl ([.ref h, .int x1])).length) Slot.unset).toArray = ls at hl ⊢
  have hl : lv_has ls 2 [(0, .ref h), (1, .int x1)] := hl
  exact k_X9_reached C vM x1 σ _ _ _ hG hl hw
