/-! the law's cases -/
def lc_0 (I : XS → BS → MS → Prop) (xs : Nat → Int32) (x4 : Int32) (σ : XS) (β : BS) (τ : MS) (f : Nat → Int64) : Prop :=
  wp_X8_type (fun r1 u1 => wp_X9_type (fun r2 u2 => I u1 (β) u2) ((((xs (x4 + 1).toNatClampNeg).toInt64) <<< ((32 : Int32).toInt64 &&& 63)) ||| (((xs (x4 + 2).toNatClampNeg).toInt64) &&& 4294967295)) (xs (x4 + 3).toNatClampNeg) τ) ((((xs (x4 + 1).toNatClampNeg).toInt64) <<< ((32 : Int32).toInt64 &&& 63)) ||| (((xs (x4 + 2).toNatClampNeg).toInt64) &&& 4294967295)) (xs (x4 + 3).toNatClampNeg) σ
set_option maxHeartbeats 4000000 in
set_option maxRecDepth 100000 in
theorem kc_0 {p : Program} {l : Launch} {e : Env} {s : State} {m : MethodId} {below : List Frame} {meth : Method} {c : Code} {cells slots : Nat} {Q : State → Prop} {b L : Nat} {xs : Nat → Int32} {E : EnvT} {D : va_G} {cA cB : Nat → ClassId} {aE ad bd : Nat → Nat} {hB ao : Nat} (C0 : lw_At p s m meth c b L xs) (hKx : va_K D vwCl (xT cA) s) (hKm : va_K D vwCl (mT cB) s) (vE : EnvOk E) (hE : E (fun q : Nat => s.heap.size ≤ q) s s.heap) {aK aV bK bV : Nat → Nat} {aO dO dT : Nat} (vX : eXs bK bV aE aO E) (vM : eMs aK aV E) (vC : eCs E) (vB : eBs dO dT E) (hst : l.stackTraces = false) {I : XS → BS → MS → Prop} {σ : XS} {β : BS} {τ : MS} {f : Nat → Int64} {x4 : Int32} {H : Heap} {locs : List Loc} {ls : Array Slot} (h_1 : vp_in (x4 + 1) L) (h_2 : vp_in (x4 + 2) L) (h_3 : vp_in (x4 + 3) L) (hc1 : cells ≤ 600990) (hc2 : slots ≤ 7290654) (hG : lG D cA aE ad cB hB bd ao s σ β τ f H locs) (hl : lv_has ls 8 [(0, .ref b), (1, .ref (ad 0)), (2, .ref hB), (3, .ref ao), (4, .int x4)]) (hw : lc_0 I xs x4 σ β τ f)
    (kk : ∀ (σ' : XS) (β' : BS) (τ' : MS) (f' : Nat → Int64) (H1 : Heap) (locs1 : List Loc) (ls1 : Array Slot), I σ' β' τ' → lG D cA aE ad cB hB bd ao s σ' β' τ' f' H1 locs1 → lv_has ls1 8 [(0, .ref b), (1, .ref (ad 0)), (2, .ref hB), (3, .ref ao), (4, .int x4)] → W p l e room_1 s m #[Value.ref b] below meth c H1 locs1 (cells + 0) (slots + 0) Q (F0 m 553 ls1 [])) :
    W p l e room_1 s m #[Value.ref b] below meth c H locs cells slots Q (F0 m 100 ls []) := by
  obtain ⟨hx, hb, hr, hml, hown, hts, hX, hbl, hlocks, hgv⟩ := id C0
  have hbA : ¬ (fun q : Nat => s.heap.size ≤ q) b := Nat.not_le.mpr hbl
  have hf : cells ≤ room_1.cells ∧ slots ≤ room_1.slots := ⟨Nat.le_trans hc1 (by decide), Nat.le_trans hc2 (by decide)⟩
  have hS := hG.2.2
  unfold lc_0 at hw
  refine lv_aload_n hx hb dL_law_100 rfl (lv_at hl 1 rfl) ?_
  refine lv_aload_n hx hb dL_law_101 rfl (lv_at hl 0 rfl) ?_
  refine lv_iload hx hb dL_law_102 (lv_at hl 4 rfl) ?_
  refine lv_iconst (v := 1) hx hb dL_law_104 (by decide) ?_
  refine lv_iadd hx hb dL_law_105 ?_
  refine va_sld hx hb hX hbl hbA hS h_1 dL_law_106 ?_
  refine lv_i2l hx hb dL_law_107 rfl ?_
  refine lv_bipush (v := 32) hx hb dL_law_108 (by decide) ?_
  refine lv_lshl hx hb dL_law_110 rfl ?_
  refine lv_aload_n hx hb dL_law_111 rfl (lv_at hl 0 rfl) ?_
  refine lv_iload hx hb dL_law_112 (lv_at hl 4 rfl) ?_
  refine lv_iconst (v := 2) hx hb dL_law_114 (by decide) ?_
  refine lv_iadd hx hb dL_law_115 ?_
  refine va_sld hx hb hX hbl hbA hS h_2 dL_law_116 ?_
  refine lv_i2l hx hb dL_law_117 rfl ?_
  refine lv_ldc2 (v := 4294967295) hx hb hown (hts _ (TB_tbl tw_6_211)) dL_law_118 ?_
  refine lv_land hx hb dL_law_121 ?_
  refine lv_lor hx hb dL_law_122 ?_
  refine lv_aload_n hx hb dL_law_123 rfl (lv_at hl 0 rfl) ?_
  refine lv_iload hx hb dL_law_124 (lv_at hl 4 rfl) ?_
  refine lv_iconst (v := 3) hx hb dL_law_126 (by decide) ?_
  refine lv_iadd hx hb dL_law_127 ?_
  refine va_sld hx hb hX hbl hbA hS h_3 dL_law_128 ?_
  refine lX_i (As := [.long ((((xs (x4 + 1).toNatClampNeg).toInt64) <<< ((32 : Int32).toInt64 &&& 63)) ||| (((xs (x4 + 2).toNatClampNeg).toInt64) &&& 4294967295)), .int (xs (x4 + 3).toNatClampNeg)]) (rest := []) C0 hKx hKm vE hE (met_X8_type vE vX hw) (cwV 2 hts (TB_GL (TB_4 tw_2_3 tw_2_4 tw_2_5 tw_1_1) tw_2_6) rfl rfl rfl (by decide +kernel) ⟨by decide, by decide⟩) hG rfl hl.1 rfl (Nat.le_of_ble_eq_true rfl) dL_law_129 hf (fun r1 u1 H locs hw hG => ?_)
  have hS := hG.2.2
  refine lv_pop hx hb dL_law_132 rfl ?_
  refine lv_aload_n hx hb dL_law_133 rfl (lv_at hl 2 rfl) ?_
  refine lv_aload_n hx hb dL_law_134 rfl (lv_at hl 0 rfl) ?_
  refine lv_iload hx hb dL_law_135 (lv_at hl 4 rfl) ?_
  refine lv_iconst (v := 1) hx hb dL_law_137 (by decide) ?_
  refine lv_iadd hx hb dL_law_138 ?_
  refine va_sld hx hb hX hbl hbA hS h_1 dL_law_139 ?_
  refine lv_i2l hx hb dL_law_140 rfl ?_
  refine lv_bipush (v := 32) hx hb dL_law_141 (by decide) ?_
  refine lv_lshl hx hb dL_law_143 rfl ?_
  refine lv_aload_n hx hb dL_law_144 rfl (lv_at hl 0 rfl) ?_
  refine lv_iload hx hb dL_law_145 (lv_at hl 4 rfl) ?_
  refine lv_iconst (v := 2) hx hb dL_law_147 (by decide) ?_
  refine lv_iadd hx hb dL_law_148 ?_
  refine va_sld hx hb hX hbl hbA hS h_2 dL_law_149 ?_
  refine lv_i2l hx hb dL_law_150 rfl ?_
  refine lv_ldc2 (v := 4294967295) hx hb hown (hts _ (TB_tbl tw_6_211)) dL_law_151 ?_
  refine lv_land hx hb dL_law_154 ?_
  refine lv_lor hx hb dL_law_155 ?_
  refine lv_aload_n hx hb dL_law_156 rfl (lv_at hl 0 rfl) ?_
  refine lv_iload hx hb dL_law_157 (lv_at hl 4 rfl) ?_
  refine lv_iconst (v := 3) hx hb dL_law_159 (by decide) ?_
  refine lv_iadd hx hb dL_law_160 ?_
  refine va_sld hx hb hX hbl hbA hS h_3 dL_law_161 ?_
  refine lM_i (As := [.long ((((xs (x4 + 1).toNatClampNeg).toInt64) <<< ((32 : Int32).toInt64 &&& 63)) ||| (((xs (x4 + 2).toNatClampNeg).toInt64) &&& 4294967295)), .int (xs (x4 + 3).toNatClampNeg)]) (rest := []) C0 hKx hKm vE hE (met_X9_type vE vM hw) (cwV 2 hts (TB_GL (TB_4 tw_5_208 tw_5_209 tw_5_210 tw_1_13) tw_5_211) rfl rfl rfl (by decide +kernel) ⟨by decide, by decide⟩) hG rfl hl.1 rfl (Nat.le_of_ble_eq_true rfl) dL_law_162 hf (fun r2 u2 H locs hw hG => ?_)
  have hS := hG.2.2
  refine lv_pop hx hb dL_law_165 rfl ?_
  refine lv_goto (tgt := 553) hx hb dL_law_166 (by decide) ?_
  exact kk u1 (β) u2 f _ _ _ hw hG (lv_sub hl [0, 1, 2, 3, 4] rfl)
def lp_1 (I : XS → BS → MS → Prop) (xs : Nat → Int32) (x4 : Int32) (β : BS) (τ : MS) (k1 : Int32) (v1 : XS × (Nat → Int64)) : Prop :=
  wp_X9_compile (fun r2 u2 => I v1.1 β u2)  τ
def lc_1 (I : XS → BS → MS → Prop) (xs : Nat → Int32) (x4 : Int32) (σ : XS) (β : BS) (τ : MS) (f : Nat → Int64) : Prop :=
  wp_X8_compile (fun r σ' => lp_1 I xs x4 β τ 0 (σ', vp_updL f 0 r.toInt64)) (fun σ' => lp_1 I xs x4 β τ 1 (σ', f))  σ
set_option maxHeartbeats 4000000 in
set_option maxRecDepth 100000 in
theorem kc_1 {p : Program} {l : Launch} {e : Env} {s : State} {m : MethodId} {below : List Frame} {meth : Method} {c : Code} {cells slots : Nat} {Q : State → Prop} {b L : Nat} {xs : Nat → Int32} {E : EnvT} {D : va_G} {cA cB : Nat → ClassId} {aE ad bd : Nat → Nat} {hB ao : Nat} (C0 : lw_At p s m meth c b L xs) (hKx : va_K D vwCl (xT cA) s) (hKm : va_K D vwCl (mT cB) s) (vE : EnvOk E) (hE : E (fun q : Nat => s.heap.size ≤ q) s s.heap) {aK aV bK bV : Nat → Nat} {aO dO dT : Nat} (vX : eXs bK bV aE aO E) (vM : eMs aK aV E) (vC : eCs E) (vB : eBs dO dT E) (hst : l.stackTraces = false) {I : XS → BS → MS → Prop} {σ : XS} {β : BS} {τ : MS} {f : Nat → Int64} {x4 : Int32} {H : Heap} {locs : List Loc} {ls : Array Slot} (hc1 : cells ≤ 600990) (hc2 : slots ≤ 7290654) (hG : lG D cA aE ad cB hB bd ao s σ β τ f H locs) (hl : lv_has ls 8 [(0, .ref b), (1, .ref (ad 0)), (2, .ref hB), (3, .ref ao), (4, .int x4)]) (hw : lc_1 I xs x4 σ β τ f)
    (kk : ∀ (σ' : XS) (β' : BS) (τ' : MS) (f' : Nat → Int64) (H1 : Heap) (locs1 : List Loc) (ls1 : Array Slot), I σ' β' τ' → lG D cA aE ad cB hB bd ao s σ' β' τ' f' H1 locs1 → lv_has ls1 8 [(0, .ref b), (1, .ref (ad 0)), (2, .ref hB), (3, .ref ao), (4, .int x4)] → W p l e room_1 s m #[Value.ref b] below meth c H1 locs1 (cells + 1) (slots + 6) Q (F0 m 553 ls1 [])) :
    W p l e room_1 s m #[Value.ref b] below meth c H locs cells slots Q (F0 m 169 ls []) := by
  obtain ⟨hx, hb, hr, hml, hown, hts, hX, hbl, hlocks, hgv⟩ := id C0
  have hbA : ¬ (fun q : Nat => s.heap.size ≤ q) b := Nat.not_le.mpr hbl
  have hf : cells ≤ room_1.cells ∧ slots ≤ room_1.slots := ⟨Nat.le_trans hc1 (by decide), Nat.le_trans hc2 (by decide)⟩
  have hS := hG.2.2
  unfold lc_1 at hw
  refine lv_aload_n hx hb dL_law_169 rfl (lv_at hl 1 rfl) ?_
  refine lv_aload_n hx hb dL_law_170 rfl (lv_at hl 3 rfl) ?_
  refine lH_i (As := [.ref (ad 0), .ref ao]) (rest := []) C0 hKx hKm vE hE (met_L_compile vE vX vC hst (post := lp_1 I xs x4 β τ) hw) (vx_cwSW (hh := [(0, 8, 11, 13)]) 2 hts (TB_GL (TB_3 tw_4_142 tw_4_143 tw_1_0) tc_compile) rfl rfl rfl (by decide +kernel) ⟨by decide, by decide⟩) hG rfl hl.1 rfl (Nat.le_of_ble_eq_true rfl) dL_law_171 ⟨Nat.le_trans (Nat.add_le_add_right hc1 1) (by decide), Nat.le_trans (Nat.add_le_add_right hc2 6) (by decide)⟩ (fun k1 v1 H locs hw hG => ?_)
  have hS := hG.2.2
  have hf : cells + 1 ≤ room_1.cells ∧ slots + 6 ≤ room_1.slots := ⟨Nat.le_trans (Nat.add_le_add_right hc1 1) (by decide), Nat.le_trans (Nat.add_le_add_right hc2 6) (by decide)⟩
  unfold lp_1 at hw
  refine lv_istore (lv' := [(5, .int k1), (0, .ref b), (1, .ref (ad 0)), (2, .ref hB), (3, .ref ao), (4, .int x4)]) hx hb dL_law_174 hl (by decide) rfl (fun ls hl => ?_)
  refine lv_aload_n hx hb dL_law_176 rfl (lv_at hl 3 rfl) ?_
  refine lM_i (As := []) (rest := []) C0 hKx hKm vE hE (met_X9_compile vE vM hw) (cwV 0 hts (TB_GL (TB_4 tw_5_213 tw_5_214 tw_5_215 tw_1_13) tw_5_216) rfl rfl rfl (by decide +kernel) ⟨by decide, by decide⟩) hG rfl hl.1 rfl (Nat.le_of_ble_eq_true rfl) dL_law_177 hf (fun r2 u2 H locs hw hG => ?_)
  have hS := hG.2.2
  refine lv_istore (lv' := [(6, .int r2), (5, .int k1), (0, .ref b), (1, .ref (ad 0)), (2, .ref hB), (3, .ref ao), (4, .int x4)]) hx hb dL_law_180 hl (by decide) rfl (fun ls hl => ?_)
  refine lv_goto (tgt := 553) hx hb dL_law_182 (by decide) ?_
  exact kk (v1.1) (β) u2 (v1.2) _ _ _ hw hG (lv_sub hl [2, 3, 4, 5, 6] rfl)
def lc_2 (I : XS → BS → MS → Prop) (xs : Nat → Int32) (x4 : Int32) (σ : XS) (β : BS) (τ : MS) (f : Nat → Int64) : Prop :=
  wp_X8_fault (fun r1 u1 => wp_X9_fault (fun r2 u2 => I u1 (β) u2) (xs (x4 + 1).toNatClampNeg) τ) (xs (x4 + 1).toNatClampNeg) σ
set_option maxHeartbeats 4000000 in
set_option maxRecDepth 100000 in
theorem kc_2 {p : Program} {l : Launch} {e : Env} {s : State} {m : MethodId} {below : List Frame} {meth : Method} {c : Code} {cells slots : Nat} {Q : State → Prop} {b L : Nat} {xs : Nat → Int32} {E : EnvT} {D : va_G} {cA cB : Nat → ClassId} {aE ad bd : Nat → Nat} {hB ao : Nat} (C0 : lw_At p s m meth c b L xs) (hKx : va_K D vwCl (xT cA) s) (hKm : va_K D vwCl (mT cB) s) (vE : EnvOk E) (hE : E (fun q : Nat => s.heap.size ≤ q) s s.heap) {aK aV bK bV : Nat → Nat} {aO dO dT : Nat} (vX : eXs bK bV aE aO E) (vM : eMs aK aV E) (vC : eCs E) (vB : eBs dO dT E) (hst : l.stackTraces = false) {I : XS → BS → MS → Prop} {σ : XS} {β : BS} {τ : MS} {f : Nat → Int64} {x4 : Int32} {H : Heap} {locs : List Loc} {ls : Array Slot} (h_1 : vp_in (x4 + 1) L) (hc1 : cells ≤ 600990) (hc2 : slots ≤ 7290654) (hG : lG D cA aE ad cB hB bd ao s σ β τ f H locs) (hl : lv_has ls 8 [(0, .ref b), (1, .ref (ad 0)), (2, .ref hB), (3, .ref ao), (4, .int x4)]) (hw : lc_2 I xs x4 σ β τ f)
    (kk : ∀ (σ' : XS) (β' : BS) (τ' : MS) (f' : Nat → Int64) (H1 : Heap) (locs1 : List Loc) (ls1 : Array Slot), I σ' β' τ' → lG D cA aE ad cB hB bd ao s σ' β' τ' f' H1 locs1 → lv_has ls1 8 [(0, .ref b), (1, .ref (ad 0)), (2, .ref hB), (3, .ref ao), (4, .int x4)] → W p l e room_1 s m #[Value.ref b] below meth c H1 locs1 (cells + 0) (slots + 0) Q (F0 m 553 ls1 [])) :
    W p l e room_1 s m #[Value.ref b] below meth c H locs cells slots Q (F0 m 185 ls []) := by
  obtain ⟨hx, hb, hr, hml, hown, hts, hX, hbl, hlocks, hgv⟩ := id C0
  have hbA : ¬ (fun q : Nat => s.heap.size ≤ q) b := Nat.not_le.mpr hbl
  have hf : cells ≤ room_1.cells ∧ slots ≤ room_1.slots := ⟨Nat.le_trans hc1 (by decide), Nat.le_trans hc2 (by decide)⟩
  have hS := hG.2.2
  unfold lc_2 at hw
  refine lv_aload_n hx hb dL_law_185 rfl (lv_at hl 1 rfl) ?_
  refine lv_aload_n hx hb dL_law_186 rfl (lv_at hl 0 rfl) ?_
  refine lv_iload hx hb dL_law_187 (lv_at hl 4 rfl) ?_
  refine lv_iconst (v := 1) hx hb dL_law_189 (by decide) ?_
  refine lv_iadd hx hb dL_law_190 ?_
  refine va_sld hx hb hX hbl hbA hS h_1 dL_law_191 ?_
  refine lX_i (As := [.int (xs (x4 + 1).toNatClampNeg)]) (rest := []) C0 hKx hKm vE hE (met_X8_fault vE vX hw) (cwV 1 hts (TB_GL (TB_4 tw_2_15 tw_2_16 tw_2_17 tw_1_1) tw_2_18) rfl rfl rfl (by decide +kernel) ⟨by decide, by decide⟩) hG rfl hl.1 rfl (Nat.le_of_ble_eq_true rfl) dL_law_192 hf (fun r1 u1 H locs hw hG => ?_)
  have hS := hG.2.2
  refine lv_pop hx hb dL_law_195 rfl ?_
  refine lv_aload_n hx hb dL_law_196 rfl (lv_at hl 2 rfl) ?_
  refine lv_aload_n hx hb dL_law_197 rfl (lv_at hl 0 rfl) ?_
  refine lv_iload hx hb dL_law_198 (lv_at hl 4 rfl) ?_
  refine lv_iconst (v := 1) hx hb dL_law_200 (by decide) ?_
  refine lv_iadd hx hb dL_law_201 ?_
  refine va_sld hx hb hX hbl hbA hS h_1 dL_law_202 ?_
  refine lM_i (As := [.int (xs (x4 + 1).toNatClampNeg)]) (rest := []) C0 hKx hKm vE hE (met_X9_fault vE vM hw) (cwV 1 hts (TB_GL (TB_4 tw_6_96 tw_6_97 tw_6_98 tw_1_13) tw_6_99) rfl rfl rfl (by decide +kernel) ⟨by decide, by decide⟩) hG rfl hl.1 rfl (Nat.le_of_ble_eq_true rfl) dL_law_203 hf (fun r2 u2 H locs hw hG => ?_)
  have hS := hG.2.2
  refine lv_pop hx hb dL_law_206 rfl ?_
  refine lv_goto (tgt := 553) hx hb dL_law_207 (by decide) ?_
  exact kk u1 (β) u2 f _ _ _ hw hG (lv_sub hl [0, 1, 2, 3, 4] rfl)
def lc_3 (I : XS → BS → MS → Prop) (xs : Nat → Int32) (x4 : Int32) (σ : XS) (β : BS) (τ : MS) (f : Nat → Int64) : Prop :=
  wp_X8_set (fun r1 u1 => wp_X9_set (fun r2 u2 => I u1 (β) u2) (xs (x4 + 1).toNatClampNeg) ((((xs (x4 + 2).toNatClampNeg).toInt64) <<< ((32 : Int32).toInt64 &&& 63)) ||| (((xs (x4 + 3).toNatClampNeg).toInt64) &&& 4294967295)) τ) (xs (x4 + 1).toNatClampNeg) ((((xs (x4 + 2).toNatClampNeg).toInt64) <<< ((32 : Int32).toInt64 &&& 63)) ||| (((xs (x4 + 3).toNatClampNeg).toInt64) &&& 4294967295)) σ
set_option maxHeartbeats 4000000 in
set_option maxRecDepth 100000 in
theorem kc_3 {p : Program} {l : Launch} {e : Env} {s : State} {m : MethodId} {below : List Frame} {meth : Method} {c : Code} {cells slots : Nat} {Q : State → Prop} {b L : Nat} {xs : Nat → Int32} {E : EnvT} {D : va_G} {cA cB : Nat → ClassId} {aE ad bd : Nat → Nat} {hB ao : Nat} (C0 : lw_At p s m meth c b L xs) (hKx : va_K D vwCl (xT cA) s) (hKm : va_K D vwCl (mT cB) s) (vE : EnvOk E) (hE : E (fun q : Nat => s.heap.size ≤ q) s s.heap) {aK aV bK bV : Nat → Nat} {aO dO dT : Nat} (vX : eXs bK bV aE aO E) (vM : eMs aK aV E) (vC : eCs E) (vB : eBs dO dT E) (hst : l.stackTraces = false) {I : XS → BS → MS → Prop} {σ : XS} {β : BS} {τ : MS} {f : Nat → Int64} {x4 : Int32} {H : Heap} {locs : List Loc} {ls : Array Slot} (h_1 : vp_in (x4 + 1) L) (h_2 : vp_in (x4 + 2) L) (h_3 : vp_in (x4 + 3) L) (hc1 : cells ≤ 600990) (hc2 : slots ≤ 7290654) (hG : lG D cA aE ad cB hB bd ao s σ β τ f H locs) (hl : lv_has ls 8 [(0, .ref b), (1, .ref (ad 0)), (2, .ref hB), (3, .ref ao), (4, .int x4)]) (hw : lc_3 I xs x4 σ β τ f)
    (kk : ∀ (σ' : XS) (β' : BS) (τ' : MS) (f' : Nat → Int64) (H1 : Heap) (locs1 : List Loc) (ls1 : Array Slot), I σ' β' τ' → lG D cA aE ad cB hB bd ao s σ' β' τ' f' H1 locs1 → lv_has ls1 8 [(0, .ref b), (1, .ref (ad 0)), (2, .ref hB), (3, .ref ao), (4, .int x4)] → W p l e room_1 s m #[Value.ref b] below meth c H1 locs1 (cells + 0) (slots + 0) Q (F0 m 553 ls1 [])) :
    W p l e room_1 s m #[Value.ref b] below meth c H locs cells slots Q (F0 m 210 ls []) := by
  obtain ⟨hx, hb, hr, hml, hown, hts, hX, hbl, hlocks, hgv⟩ := id C0
  have hbA : ¬ (fun q : Nat => s.heap.size ≤ q) b := Nat.not_le.mpr hbl
  have hf : cells ≤ room_1.cells ∧ slots ≤ room_1.slots := ⟨Nat.le_trans hc1 (by decide), Nat.le_trans hc2 (by decide)⟩
  have hS := hG.2.2
  unfold lc_3 at hw
  refine lv_aload_n hx hb dL_law_210 rfl (lv_at hl 1 rfl) ?_
  refine lv_aload_n hx hb dL_law_211 rfl (lv_at hl 0 rfl) ?_
  refine lv_iload hx hb dL_law_212 (lv_at hl 4 rfl) ?_
  refine lv_iconst (v := 1) hx hb dL_law_214 (by decide) ?_
  refine lv_iadd hx hb dL_law_215 ?_
  refine va_sld hx hb hX hbl hbA hS h_1 dL_law_216 ?_
  refine lv_aload_n hx hb dL_law_217 rfl (lv_at hl 0 rfl) ?_
  refine lv_iload hx hb dL_law_218 (lv_at hl 4 rfl) ?_
  refine lv_iconst (v := 2) hx hb dL_law_220 (by decide) ?_
  refine lv_iadd hx hb dL_law_221 ?_
  refine va_sld hx hb hX hbl hbA hS h_2 dL_law_222 ?_
  refine lv_i2l hx hb dL_law_223 rfl ?_
  refine lv_bipush (v := 32) hx hb dL_law_224 (by decide) ?_
  refine lv_lshl hx hb dL_law_226 rfl ?_
  refine lv_aload_n hx hb dL_law_227 rfl (lv_at hl 0 rfl) ?_
  refine lv_iload hx hb dL_law_228 (lv_at hl 4 rfl) ?_
  refine lv_iconst (v := 3) hx hb dL_law_230 (by decide) ?_
  refine lv_iadd hx hb dL_law_231 ?_
  refine va_sld hx hb hX hbl hbA hS h_3 dL_law_232 ?_
  refine lv_i2l hx hb dL_law_233 rfl ?_
  refine lv_ldc2 (v := 4294967295) hx hb hown (hts _ (TB_tbl tw_6_211)) dL_law_234 ?_
  refine lv_land hx hb dL_law_237 ?_
  refine lv_lor hx hb dL_law_238 ?_
  refine lX_i (As := [.int (xs (x4 + 1).toNatClampNeg), .long ((((xs (x4 + 2).toNatClampNeg).toInt64) <<< ((32 : Int32).toInt64 &&& 63)) ||| (((xs (x4 + 3).toNatClampNeg).toInt64) &&& 4294967295))]) (rest := []) C0 hKx hKm vE hE (met_X8_set vE vX hw) (cwV 2 hts (TB_GL (TB_4 tw_2_19 tw_2_20 tw_2_21 tw_1_1) tw_2_22) rfl rfl rfl (by decide +kernel) ⟨by decide, by decide⟩) hG rfl hl.1 rfl (Nat.le_of_ble_eq_true rfl) dL_law_239 hf (fun r1 u1 H locs hw hG => ?_)
  have hS := hG.2.2
  refine lv_pop hx hb dL_law_242 rfl ?_
  refine lv_aload_n hx hb dL_law_243 rfl (lv_at hl 2 rfl) ?_
  refine lv_aload_n hx hb dL_law_244 rfl (lv_at hl 0 rfl) ?_
  refine lv_iload hx hb dL_law_245 (lv_at hl 4 rfl) ?_
  refine lv_iconst (v := 1) hx hb dL_law_247 (by decide) ?_
  refine lv_iadd hx hb dL_law_248 ?_
  refine va_sld hx hb hX hbl hbA hS h_1 dL_law_249 ?_
  refine lv_aload_n hx hb dL_law_250 rfl (lv_at hl 0 rfl) ?_
  refine lv_iload hx hb dL_law_251 (lv_at hl 4 rfl) ?_
  refine lv_iconst (v := 2) hx hb dL_law_253 (by decide) ?_
  refine lv_iadd hx hb dL_law_254 ?_
  refine va_sld hx hb hX hbl hbA hS h_2 dL_law_255 ?_
  refine lv_i2l hx hb dL_law_256 rfl ?_
  refine lv_bipush (v := 32) hx hb dL_law_257 (by decide) ?_
  refine lv_lshl hx hb dL_law_259 rfl ?_
  refine lv_aload_n hx hb dL_law_260 rfl (lv_at hl 0 rfl) ?_
  refine lv_iload hx hb dL_law_261 (lv_at hl 4 rfl) ?_
  refine lv_iconst (v := 3) hx hb dL_law_263 (by decide) ?_
  refine lv_iadd hx hb dL_law_264 ?_
  refine va_sld hx hb hX hbl hbA hS h_3 dL_law_265 ?_
  refine lv_i2l hx hb dL_law_266 rfl ?_
  refine lv_ldc2 (v := 4294967295) hx hb hown (hts _ (TB_tbl tw_6_211)) dL_law_267 ?_
  refine lv_land hx hb dL_law_270 ?_
  refine lv_lor hx hb dL_law_271 ?_
  refine lM_i (As := [.int (xs (x4 + 1).toNatClampNeg), .long ((((xs (x4 + 2).toNatClampNeg).toInt64) <<< ((32 : Int32).toInt64 &&& 63)) ||| (((xs (x4 + 3).toNatClampNeg).toInt64) &&& 4294967295))]) (rest := []) C0 hKx hKm vE hE (met_X9_set vE vM hw) (cwV 2 hts (TB_GL (TB_4 tw_6_100 tw_6_101 tw_6_102 tw_1_13) tw_6_103) rfl rfl rfl (by decide +kernel) ⟨by decide, by decide⟩) hG rfl hl.1 rfl (Nat.le_of_ble_eq_true rfl) dL_law_272 hf (fun r2 u2 H locs hw hG => ?_)
  have hS := hG.2.2
  refine lv_pop hx hb dL_law_275 rfl ?_
  refine lv_goto (tgt := 553) hx hb dL_law_276 (by decide) ?_
  exact kk u1 (β) u2 f _ _ _ hw hG (lv_sub hl [0, 1, 2, 3, 4] rfl)
def lp_4 (I : XS → BS → MS → Prop) (xs : Nat → Int32) (x4 : Int32) (β : BS) (τ : MS) (k1 : Int32) (v1 : XS × (Nat → Int64)) : Prop :=
  wp_X9_word (fun r2 u2 => I v1.1 β u2) (xs (x4 + 1).toNatClampNeg) τ
def lc_4 (I : XS → BS → MS → Prop) (xs : Nat → Int32) (x4 : Int32) (σ : XS) (β : BS) (τ : MS) (f : Nat → Int64) : Prop :=
  wp_X8_word (fun r σ' => lp_4 I xs x4 β τ 0 (σ', vp_updL f 0 r)) (fun σ' => lp_4 I xs x4 β τ 1 (σ', f)) (xs (x4 + 1).toNatClampNeg) σ
set_option maxHeartbeats 4000000 in
set_option maxRecDepth 100000 in
theorem kc_4 {p : Program} {l : Launch} {e : Env} {s : State} {m : MethodId} {below : List Frame} {meth : Method} {c : Code} {cells slots : Nat} {Q : State → Prop} {b L : Nat} {xs : Nat → Int32} {E : EnvT} {D : va_G} {cA cB : Nat → ClassId} {aE ad bd : Nat → Nat} {hB ao : Nat} (C0 : lw_At p s m meth c b L xs) (hKx : va_K D vwCl (xT cA) s) (hKm : va_K D vwCl (mT cB) s) (vE : EnvOk E) (hE : E (fun q : Nat => s.heap.size ≤ q) s s.heap) {aK aV bK bV : Nat → Nat} {aO dO dT : Nat} (vX : eXs bK bV aE aO E) (vM : eMs aK aV E) (vC : eCs E) (vB : eBs dO dT E) (hst : l.stackTraces = false) {I : XS → BS → MS → Prop} {σ : XS} {β : BS} {τ : MS} {f : Nat → Int64} {x4 : Int32} {H : Heap} {locs : List Loc} {ls : Array Slot} (h_1 : vp_in (x4 + 1) L) (hc1 : cells ≤ 600990) (hc2 : slots ≤ 7290654) (hG : lG D cA aE ad cB hB bd ao s σ β τ f H locs) (hl : lv_has ls 8 [(0, .ref b), (1, .ref (ad 0)), (2, .ref hB), (3, .ref ao), (4, .int x4)]) (hw : lc_4 I xs x4 σ β τ f)
    (kk : ∀ (σ' : XS) (β' : BS) (τ' : MS) (f' : Nat → Int64) (H1 : Heap) (locs1 : List Loc) (ls1 : Array Slot), I σ' β' τ' → lG D cA aE ad cB hB bd ao s σ' β' τ' f' H1 locs1 → lv_has ls1 8 [(0, .ref b), (1, .ref (ad 0)), (2, .ref hB), (3, .ref ao), (4, .int x4)] → W p l e room_1 s m #[Value.ref b] below meth c H1 locs1 (cells + 1) (slots + 6) Q (F0 m 553 ls1 [])) :
    W p l e room_1 s m #[Value.ref b] below meth c H locs cells slots Q (F0 m 279 ls []) := by
  obtain ⟨hx, hb, hr, hml, hown, hts, hX, hbl, hlocks, hgv⟩ := id C0
  have hbA : ¬ (fun q : Nat => s.heap.size ≤ q) b := Nat.not_le.mpr hbl
  have hf : cells ≤ room_1.cells ∧ slots ≤ room_1.slots := ⟨Nat.le_trans hc1 (by decide), Nat.le_trans hc2 (by decide)⟩
  have hS := hG.2.2
  unfold lc_4 at hw
  refine lv_aload_n hx hb dL_law_279 rfl (lv_at hl 1 rfl) ?_
  refine lv_aload_n hx hb dL_law_280 rfl (lv_at hl 0 rfl) ?_
  refine lv_iload hx hb dL_law_281 (lv_at hl 4 rfl) ?_
  refine lv_iconst (v := 1) hx hb dL_law_283 (by decide) ?_
  refine lv_iadd hx hb dL_law_284 ?_
  refine va_sld hx hb hX hbl hbA hS h_1 dL_law_285 ?_
  refine lv_aload_n hx hb dL_law_286 rfl (lv_at hl 3 rfl) ?_
  refine lH_i (As := [.ref (ad 0), .int (xs (x4 + 1).toNatClampNeg), .ref ao]) (rest := []) C0 hKx hKm vE hE (met_L_word vE vX vC hst (post := lp_4 I xs x4 β τ) hw) (vx_cwSW (hh := [(0, 8, 11, 19)]) 3 hts (TB_GL (TB_3 tw_5_71 tw_5_72 tw_1_0) tc_word) rfl rfl rfl (by decide +kernel) ⟨by decide, by decide⟩) hG rfl hl.1 rfl (Nat.le_of_ble_eq_true rfl) dL_law_287 ⟨Nat.le_trans (Nat.add_le_add_right hc1 1) (by decide), Nat.le_trans (Nat.add_le_add_right hc2 6) (by decide)⟩ (fun k1 v1 H locs hw hG => ?_)
  have hS := hG.2.2
  have hf : cells + 1 ≤ room_1.cells ∧ slots + 6 ≤ room_1.slots := ⟨Nat.le_trans (Nat.add_le_add_right hc1 1) (by decide), Nat.le_trans (Nat.add_le_add_right hc2 6) (by decide)⟩
  unfold lp_4 at hw
  refine lv_istore (lv' := [(5, .int k1), (0, .ref b), (1, .ref (ad 0)), (2, .ref hB), (3, .ref ao), (4, .int x4)]) hx hb dL_law_290 hl (by decide) rfl (fun ls hl => ?_)
  refine lv_aload_n hx hb dL_law_292 rfl (lv_at hl 3 rfl) ?_
  refine lv_aload_n hx hb dL_law_293 rfl (lv_at hl 1 rfl) ?_
  refine lv_iload hx hb dL_law_294 (lv_at hl 5 rfl) ?_
  refine lv_iconst (v := 1) hx hb dL_law_296 (by decide) ?_
  refine lv_iadd hx hb dL_law_297 ?_
  refine va_sld hx hb hX hbl hbA hS h_1 dL_law_298 ?_
  refine lM_l (As := [.int (xs (x4 + 1).toNatClampNeg)]) (rest := []) C0 hKx hKm vE hE (met_X9_word vE vM hw) (cwV 1 hts (TB_GL (TB_4 tw_6_104 tw_6_105 tw_6_106 tw_1_13) tw_6_107) rfl rfl rfl (by decide +kernel) ⟨by decide, by decide⟩) hG rfl hl.1 rfl (Nat.le_of_ble_eq_true rfl) dL_law_299 hf (fun r2 u2 H locs hw hG => ?_)
  have hS := hG.2.2
  refine lv_lstore (lv' := [(6, .long r2), (5, .int k1), (0, .ref b), (1, .ref (ad 0)), (2, .ref hB), (3, .ref ao), (4, .int x4)]) hx hb dL_law_302 hl (by decide) rfl (fun ls hl => ?_)
  refine lv_goto (tgt := 553) hx hb dL_law_304 (by decide) ?_
  exact kk (v1.1) (β) u2 (v1.2) _ _ _ hw hG (lv_sub hl [2, 3, 4, 5, 6] rfl)
def lc_5 (I : XS → BS → MS → Prop) (xs : Nat → Int32) (x4 : Int32) (σ : XS) (β : BS) (τ : MS) (f : Nat → Int64) : Prop :=
  wp_X8_letter (fun r1 u1 => wp_X9_letter (fun r2 u2 => r1 = r2 ∧ I (u1.1) (u1.2) u2) (xs (x4 + 1).toNatClampNeg) (xs (x4 + 2).toNatClampNeg) τ) (xs (x4 + 1).toNatClampNeg) (xs (x4 + 2).toNatClampNeg) σ β
set_option maxHeartbeats 4000000 in
set_option maxRecDepth 100000 in
theorem kc_5 {p : Program} {l : Launch} {e : Env} {s : State} {m : MethodId} {below : List Frame} {meth : Method} {c : Code} {cells slots : Nat} {Q : State → Prop} {b L : Nat} {xs : Nat → Int32} {E : EnvT} {D : va_G} {cA cB : Nat → ClassId} {aE ad bd : Nat → Nat} {hB ao : Nat} (C0 : lw_At p s m meth c b L xs) (hKx : va_K D vwCl (xT cA) s) (hKm : va_K D vwCl (mT cB) s) (vE : EnvOk E) (hE : E (fun q : Nat => s.heap.size ≤ q) s s.heap) {aK aV bK bV : Nat → Nat} {aO dO dT : Nat} (vX : eXs bK bV aE aO E) (vM : eMs aK aV E) (vC : eCs E) (vB : eBs dO dT E) (hst : l.stackTraces = false) {I : XS → BS → MS → Prop} {σ : XS} {β : BS} {τ : MS} {f : Nat → Int64} {x4 : Int32} {H : Heap} {locs : List Loc} {ls : Array Slot} (h_1 : vp_in (x4 + 1) L) (h_2 : vp_in (x4 + 2) L) (hc1 : cells ≤ 600990) (hc2 : slots ≤ 7290654) (hG : lG D cA aE ad cB hB bd ao s σ β τ f H locs) (hl : lv_has ls 8 [(0, .ref b), (1, .ref (ad 0)), (2, .ref hB), (3, .ref ao), (4, .int x4)]) (hw : lc_5 I xs x4 σ β τ f)
    (kk : ∀ (σ' : XS) (β' : BS) (τ' : MS) (f' : Nat → Int64) (H1 : Heap) (locs1 : List Loc) (ls1 : Array Slot), I σ' β' τ' → lG D cA aE ad cB hB bd ao s σ' β' τ' f' H1 locs1 → lv_has ls1 8 [(0, .ref b), (1, .ref (ad 0)), (2, .ref hB), (3, .ref ao), (4, .int x4)] → W p l e room_1 s m #[Value.ref b] below meth c H1 locs1 (cells + 34) (slots + 2380) Q (F0 m 553 ls1 [])) :
    W p l e room_1 s m #[Value.ref b] below meth c H locs cells slots Q (F0 m 307 ls []) := by
  obtain ⟨hx, hb, hr, hml, hown, hts, hX, hbl, hlocks, hgv⟩ := id C0
  have hbA : ¬ (fun q : Nat => s.heap.size ≤ q) b := Nat.not_le.mpr hbl
  have hf : cells ≤ room_1.cells ∧ slots ≤ room_1.slots := ⟨Nat.le_trans hc1 (by decide), Nat.le_trans hc2 (by decide)⟩
  have hS := hG.2.2
  unfold lc_5 at hw
  refine lv_aload_n hx hb dL_law_307 rfl (lv_at hl 1 rfl) ?_
  refine lv_aload_n hx hb dL_law_308 rfl (lv_at hl 0 rfl) ?_
  refine lv_iload hx hb dL_law_309 (lv_at hl 4 rfl) ?_
  refine lv_iconst (v := 1) hx hb dL_law_311 (by decide) ?_
  refine lv_iadd hx hb dL_law_312 ?_
  refine va_sld hx hb hX hbl hbA hS h_1 dL_law_313 ?_
  refine lv_aload_n hx hb dL_law_314 rfl (lv_at hl 0 rfl) ?_
  refine lv_iload hx hb dL_law_315 (lv_at hl 4 rfl) ?_
  refine lv_iconst (v := 2) hx hb dL_law_317 (by decide) ?_
  refine lv_iadd hx hb dL_law_318 ?_
  refine va_sld hx hb hX hbl hbA hS h_2 dL_law_319 ?_
  refine lZ_i (As := [.int (xs (x4 + 1).toNatClampNeg), .int (xs (x4 + 2).toNatClampNeg)]) (rest := []) C0 hKx hKm vE hE (met_X8_letter vE vX vB hw) (cwV 2 hts (TB_GL (TB_4 tw_2_193 tw_2_194 tw_2_195 tw_1_1) tw_2_196) rfl rfl rfl (by decide +kernel) ⟨by decide, by decide⟩) hG rfl hl.1 rfl (Nat.le_of_ble_eq_true rfl) dL_law_320 ⟨Nat.le_trans (Nat.add_le_add_right hc1 34) (by decide), Nat.le_trans (Nat.add_le_add_right hc2 2380) (by decide)⟩ (fun r1 u1 H locs hw hG => ?_)
  have hS := hG.2.2
  have hf : cells + 34 ≤ room_1.cells ∧ slots + 2380 ≤ room_1.slots := ⟨Nat.le_trans (Nat.add_le_add_right hc1 34) (by decide), Nat.le_trans (Nat.add_le_add_right hc2 2380) (by decide)⟩
  refine lv_aload_n hx hb dL_law_323 rfl (lv_at hl 2 rfl) ?_
  refine lv_aload_n hx hb dL_law_324 rfl (lv_at hl 0 rfl) ?_
  refine lv_iload hx hb dL_law_325 (lv_at hl 4 rfl) ?_
  refine lv_iconst (v := 1) hx hb dL_law_327 (by decide) ?_
  refine lv_iadd hx hb dL_law_328 ?_
  refine va_sld hx hb hX hbl hbA hS h_1 dL_law_329 ?_
  refine lv_aload_n hx hb dL_law_330 rfl (lv_at hl 0 rfl) ?_
  refine lv_iload hx hb dL_law_331 (lv_at hl 4 rfl) ?_
  refine lv_iconst (v := 2) hx hb dL_law_333 (by decide) ?_
  refine lv_iadd hx hb dL_law_334 ?_
  refine va_sld hx hb hX hbl hbA hS h_2 dL_law_335 ?_
  refine lM_i (As := [.int (xs (x4 + 1).toNatClampNeg), .int (xs (x4 + 2).toNatClampNeg)]) (rest := [.int r1]) C0 hKx hKm vE hE (met_X9_letter vE vM hw) (cwV 2 hts (TB_GL (TB_4 tw_6_112 tw_6_113 tw_6_114 tw_1_13) tw_6_115) rfl rfl rfl (by decide +kernel) ⟨by decide, by decide⟩) hG rfl hl.1 rfl (Nat.le_of_ble_eq_true rfl) dL_law_336 hf (fun r2 u2 H locs hw hG => ?_)
  have hS := hG.2.2
  refine lv_icmp_eq (tgt := 553) hx hb dL_law_339 (by decide) (fun _ => ?_) (fun q_ => absurd hw.1 q_)
  exact kk (u1.1) (u1.2) u2 f _ _ _ hw.2 hG (lv_sub hl [0, 1, 2, 3, 4] rfl)
def lp_6 (I : XS → BS → MS → Prop) (xs : Nat → Int32) (x4 : Int32) (β : BS) (τ : MS) (k1 : Int32) (v1 : XS × (Nat → Int64)) : Prop :=
  wp_X9_name (fun r2 u2 => I v1.1 β u2) ((((xs (x4 + 1).toNatClampNeg).toInt64) <<< ((32 : Int32).toInt64 &&& 63)) ||| (((xs (x4 + 2).toNatClampNeg).toInt64) &&& 4294967295)) τ
def lc_6 (I : XS → BS → MS → Prop) (xs : Nat → Int32) (x4 : Int32) (σ : XS) (β : BS) (τ : MS) (f : Nat → Int64) : Prop :=
  wp_X8_name (fun r σ' => lp_6 I xs x4 β τ 0 (σ', vp_updL f 0 r.toInt64)) (fun σ' => lp_6 I xs x4 β τ 1 (σ', f)) ((((xs (x4 + 1).toNatClampNeg).toInt64) <<< ((32 : Int32).toInt64 &&& 63)) ||| (((xs (x4 + 2).toNatClampNeg).toInt64) &&& 4294967295)) σ
set_option maxHeartbeats 4000000 in
set_option maxRecDepth 100000 in
theorem kc_6 {p : Program} {l : Launch} {e : Env} {s : State} {m : MethodId} {below : List Frame} {meth : Method} {c : Code} {cells slots : Nat} {Q : State → Prop} {b L : Nat} {xs : Nat → Int32} {E : EnvT} {D : va_G} {cA cB : Nat → ClassId} {aE ad bd : Nat → Nat} {hB ao : Nat} (C0 : lw_At p s m meth c b L xs) (hKx : va_K D vwCl (xT cA) s) (hKm : va_K D vwCl (mT cB) s) (vE : EnvOk E) (hE : E (fun q : Nat => s.heap.size ≤ q) s s.heap) {aK aV bK bV : Nat → Nat} {aO dO dT : Nat} (vX : eXs bK bV aE aO E) (vM : eMs aK aV E) (vC : eCs E) (vB : eBs dO dT E) (hst : l.stackTraces = false) {I : XS → BS → MS → Prop} {σ : XS} {β : BS} {τ : MS} {f : Nat → Int64} {x4 : Int32} {H : Heap} {locs : List Loc} {ls : Array Slot} (h_1 : vp_in (x4 + 1) L) (h_2 : vp_in (x4 + 2) L) (hc1 : cells ≤ 600990) (hc2 : slots ≤ 7290654) (hG : lG D cA aE ad cB hB bd ao s σ β τ f H locs) (hl : lv_has ls 8 [(0, .ref b), (1, .ref (ad 0)), (2, .ref hB), (3, .ref ao), (4, .int x4)]) (hw : lc_6 I xs x4 σ β τ f)
    (kk : ∀ (σ' : XS) (β' : BS) (τ' : MS) (f' : Nat → Int64) (H1 : Heap) (locs1 : List Loc) (ls1 : Array Slot), I σ' β' τ' → lG D cA aE ad cB hB bd ao s σ' β' τ' f' H1 locs1 → lv_has ls1 8 [(0, .ref b), (1, .ref (ad 0)), (2, .ref hB), (3, .ref ao), (4, .int x4)] → W p l e room_1 s m #[Value.ref b] below meth c H1 locs1 (cells + 1) (slots + 6) Q (F0 m 553 ls1 [])) :
    W p l e room_1 s m #[Value.ref b] below meth c H locs cells slots Q (F0 m 344 ls []) := by
  obtain ⟨hx, hb, hr, hml, hown, hts, hX, hbl, hlocks, hgv⟩ := id C0
  have hbA : ¬ (fun q : Nat => s.heap.size ≤ q) b := Nat.not_le.mpr hbl
  have hf : cells ≤ room_1.cells ∧ slots ≤ room_1.slots := ⟨Nat.le_trans hc1 (by decide), Nat.le_trans hc2 (by decide)⟩
  have hS := hG.2.2
  unfold lc_6 at hw
  refine lv_aload_n hx hb dL_law_344 rfl (lv_at hl 1 rfl) ?_
  refine lv_aload_n hx hb dL_law_345 rfl (lv_at hl 0 rfl) ?_
  refine lv_iload hx hb dL_law_346 (lv_at hl 4 rfl) ?_
  refine lv_iconst (v := 1) hx hb dL_law_348 (by decide) ?_
  refine lv_iadd hx hb dL_law_349 ?_
  refine va_sld hx hb hX hbl hbA hS h_1 dL_law_350 ?_
  refine lv_i2l hx hb dL_law_351 rfl ?_
  refine lv_bipush (v := 32) hx hb dL_law_352 (by decide) ?_
  refine lv_lshl hx hb dL_law_354 rfl ?_
  refine lv_aload_n hx hb dL_law_355 rfl (lv_at hl 0 rfl) ?_
  refine lv_iload hx hb dL_law_356 (lv_at hl 4 rfl) ?_
  refine lv_iconst (v := 2) hx hb dL_law_358 (by decide) ?_
  refine lv_iadd hx hb dL_law_359 ?_
  refine va_sld hx hb hX hbl hbA hS h_2 dL_law_360 ?_
  refine lv_i2l hx hb dL_law_361 rfl ?_
  refine lv_ldc2 (v := 4294967295) hx hb hown (hts _ (TB_tbl tw_6_211)) dL_law_362 ?_
  refine lv_land hx hb dL_law_365 ?_
  refine lv_lor hx hb dL_law_366 ?_
  refine lv_aload_n hx hb dL_law_367 rfl (lv_at hl 3 rfl) ?_
  refine lH_i (As := [.ref (ad 0), .long ((((xs (x4 + 1).toNatClampNeg).toInt64) <<< ((32 : Int32).toInt64 &&& 63)) ||| (((xs (x4 + 2).toNatClampNeg).toInt64) &&& 4294967295)), .ref ao]) (rest := []) C0 hKx hKm vE hE (met_L_name vE vX vC hst (post := lp_6 I xs x4 β τ) hw) (vx_cwSW (hh := [(0, 9, 12, 19)]) 3 hts (TB_GL (TB_3 tw_5_95 tw_5_96 tw_1_0) tc_name) rfl rfl rfl (by decide +kernel) ⟨by decide, by decide⟩) hG rfl hl.1 rfl (Nat.le_of_ble_eq_true rfl) dL_law_368 ⟨Nat.le_trans (Nat.add_le_add_right hc1 1) (by decide), Nat.le_trans (Nat.add_le_add_right hc2 6) (by decide)⟩ (fun k1 v1 H locs hw hG => ?_)
  have hS := hG.2.2
  have hf : cells + 1 ≤ room_1.cells ∧ slots + 6 ≤ room_1.slots := ⟨Nat.le_trans (Nat.add_le_add_right hc1 1) (by decide), Nat.le_trans (Nat.add_le_add_right hc2 6) (by decide)⟩
  unfold lp_6 at hw
  refine lv_istore (lv' := [(5, .int k1), (0, .ref b), (1, .ref (ad 0)), (2, .ref hB), (3, .ref ao), (4, .int x4)]) hx hb dL_law_371 hl (by decide) rfl (fun ls hl => ?_)
  refine lv_aload_n hx hb dL_law_373 rfl (lv_at hl 3 rfl) ?_
  refine lv_aload_n hx hb dL_law_374 rfl (lv_at hl 1 rfl) ?_
  refine lv_iload hx hb dL_law_375 (lv_at hl 5 rfl) ?_
  refine lv_iconst (v := 1) hx hb dL_law_377 (by decide) ?_
  refine lv_iadd hx hb dL_law_378 ?_
  refine va_sld hx hb hX hbl hbA hS h_1 dL_law_379 ?_
  refine lv_i2l hx hb dL_law_380 rfl ?_
  refine lv_bipush (v := 32) hx hb dL_law_381 (by decide) ?_
  refine lv_lshl hx hb dL_law_383 rfl ?_
  refine lv_aload_n hx hb dL_law_384 rfl (lv_at hl 1 rfl) ?_
  refine lv_iload hx hb dL_law_385 (lv_at hl 5 rfl) ?_
  refine lv_iconst (v := 2) hx hb dL_law_387 (by decide) ?_
  refine lv_iadd hx hb dL_law_388 ?_
  refine va_sld hx hb hX hbl hbA hS h_2 dL_law_389 ?_
  refine lv_i2l hx hb dL_law_390 rfl ?_
  refine lv_ldc2 (v := 4294967295) hx hb hown (hts _ (TB_tbl tw_6_211)) dL_law_391 ?_
  refine lv_land hx hb dL_law_394 ?_
  refine lv_lor hx hb dL_law_395 ?_
  refine lM_i (As := [.long ((((xs (x4 + 1).toNatClampNeg).toInt64) <<< ((32 : Int32).toInt64 &&& 63)) ||| (((xs (x4 + 2).toNatClampNeg).toInt64) &&& 4294967295))]) (rest := []) C0 hKx hKm vE hE (met_X9_name vE vM hw) (cwV 1 hts (TB_GL (TB_4 tw_6_158 tw_6_159 tw_6_160 tw_1_13) tw_6_161) rfl rfl rfl (by decide +kernel) ⟨by decide, by decide⟩) hG rfl hl.1 rfl (Nat.le_of_ble_eq_true rfl) dL_law_396 hf (fun r2 u2 H locs hw hG => ?_)
  have hS := hG.2.2
  refine lv_istore (lv' := [(6, .int r2), (5, .int k1), (0, .ref b), (1, .ref (ad 0)), (2, .ref hB), (3, .ref ao), (4, .int x4)]) hx hb dL_law_399 hl (by decide) rfl (fun ls hl => ?_)
  refine lv_goto (tgt := 553) hx hb dL_law_401 (by decide) ?_
  exact kk (v1.1) (β) u2 (v1.2) _ _ _ hw hG (lv_sub hl [2, 3, 4, 5, 6] rfl)
def lc_7 (I : XS → BS → MS → Prop) (xs : Nat → Int32) (x4 : Int32) (σ : XS) (β : BS) (τ : MS) (f : Nat → Int64) : Prop :=
  wp_X8_way (fun r1 u1 => wp_X9_way (fun r2 u2 => I u1 (β) u2) (xs (x4 + 1).toNatClampNeg) (xs (x4 + 2).toNatClampNeg) τ) (xs (x4 + 1).toNatClampNeg) (xs (x4 + 2).toNatClampNeg) σ
set_option maxHeartbeats 4000000 in
set_option maxRecDepth 100000 in
theorem kc_7 {p : Program} {l : Launch} {e : Env} {s : State} {m : MethodId} {below : List Frame} {meth : Method} {c : Code} {cells slots : Nat} {Q : State → Prop} {b L : Nat} {xs : Nat → Int32} {E : EnvT} {D : va_G} {cA cB : Nat → ClassId} {aE ad bd : Nat → Nat} {hB ao : Nat} (C0 : lw_At p s m meth c b L xs) (hKx : va_K D vwCl (xT cA) s) (hKm : va_K D vwCl (mT cB) s) (vE : EnvOk E) (hE : E (fun q : Nat => s.heap.size ≤ q) s s.heap) {aK aV bK bV : Nat → Nat} {aO dO dT : Nat} (vX : eXs bK bV aE aO E) (vM : eMs aK aV E) (vC : eCs E) (vB : eBs dO dT E) (hst : l.stackTraces = false) {I : XS → BS → MS → Prop} {σ : XS} {β : BS} {τ : MS} {f : Nat → Int64} {x4 : Int32} {H : Heap} {locs : List Loc} {ls : Array Slot} (h_1 : vp_in (x4 + 1) L) (h_2 : vp_in (x4 + 2) L) (hc1 : cells ≤ 600990) (hc2 : slots ≤ 7290654) (hG : lG D cA aE ad cB hB bd ao s σ β τ f H locs) (hl : lv_has ls 8 [(0, .ref b), (1, .ref (ad 0)), (2, .ref hB), (3, .ref ao), (4, .int x4)]) (hw : lc_7 I xs x4 σ β τ f)
    (kk : ∀ (σ' : XS) (β' : BS) (τ' : MS) (f' : Nat → Int64) (H1 : Heap) (locs1 : List Loc) (ls1 : Array Slot), I σ' β' τ' → lG D cA aE ad cB hB bd ao s σ' β' τ' f' H1 locs1 → lv_has ls1 8 [(0, .ref b), (1, .ref (ad 0)), (2, .ref hB), (3, .ref ao), (4, .int x4)] → W p l e room_1 s m #[Value.ref b] below meth c H1 locs1 (cells + 0) (slots + 0) Q (F0 m 553 ls1 [])) :
    W p l e room_1 s m #[Value.ref b] below meth c H locs cells slots Q (F0 m 404 ls []) := by
  obtain ⟨hx, hb, hr, hml, hown, hts, hX, hbl, hlocks, hgv⟩ := id C0
  have hbA : ¬ (fun q : Nat => s.heap.size ≤ q) b := Nat.not_le.mpr hbl
  have hf : cells ≤ room_1.cells ∧ slots ≤ room_1.slots := ⟨Nat.le_trans hc1 (by decide), Nat.le_trans hc2 (by decide)⟩
  have hS := hG.2.2
  unfold lc_7 at hw
  refine lv_aload_n hx hb dL_law_404 rfl (lv_at hl 1 rfl) ?_
  refine lv_aload_n hx hb dL_law_405 rfl (lv_at hl 0 rfl) ?_
  refine lv_iload hx hb dL_law_406 (lv_at hl 4 rfl) ?_
  refine lv_iconst (v := 1) hx hb dL_law_408 (by decide) ?_
  refine lv_iadd hx hb dL_law_409 ?_
  refine va_sld hx hb hX hbl hbA hS h_1 dL_law_410 ?_
  refine lv_aload_n hx hb dL_law_411 rfl (lv_at hl 0 rfl) ?_
  refine lv_iload hx hb dL_law_412 (lv_at hl 4 rfl) ?_
  refine lv_iconst (v := 2) hx hb dL_law_414 (by decide) ?_
  refine lv_iadd hx hb dL_law_415 ?_
  refine va_sld hx hb hX hbl hbA hS h_2 dL_law_416 ?_
  refine lX_i (As := [.int (xs (x4 + 1).toNatClampNeg), .int (xs (x4 + 2).toNatClampNeg)]) (rest := []) C0 hKx hKm vE hE (met_X8_way vE vX hw) (cwV 2 hts (TB_GL (TB_4 tw_4_31 tw_4_32 tw_4_33 tw_1_1) tw_4_34) rfl rfl rfl (by decide +kernel) ⟨by decide, by decide⟩) hG rfl hl.1 rfl (Nat.le_of_ble_eq_true rfl) dL_law_417 hf (fun r1 u1 H locs hw hG => ?_)
  have hS := hG.2.2
  refine lv_pop hx hb dL_law_420 rfl ?_
  refine lv_aload_n hx hb dL_law_421 rfl (lv_at hl 2 rfl) ?_
  refine lv_aload_n hx hb dL_law_422 rfl (lv_at hl 0 rfl) ?_
  refine lv_iload hx hb dL_law_423 (lv_at hl 4 rfl) ?_
  refine lv_iconst (v := 1) hx hb dL_law_425 (by decide) ?_
  refine lv_iadd hx hb dL_law_426 ?_
  refine va_sld hx hb hX hbl hbA hS h_1 dL_law_427 ?_
  refine lv_aload_n hx hb dL_law_428 rfl (lv_at hl 0 rfl) ?_
  refine lv_iload hx hb dL_law_429 (lv_at hl 4 rfl) ?_
  refine lv_iconst (v := 2) hx hb dL_law_431 (by decide) ?_
  refine lv_iadd hx hb dL_law_432 ?_
  refine va_sld hx hb hX hbl hbA hS h_2 dL_law_433 ?_
  refine lM_i (As := [.int (xs (x4 + 1).toNatClampNeg), .int (xs (x4 + 2).toNatClampNeg)]) (rest := []) C0 hKx hKm vE hE (met_X9_way vE vM hw) (cwV 2 hts (TB_GL (TB_4 tw_6_162 tw_6_163 tw_6_164 tw_1_13) tw_6_165) rfl rfl rfl (by decide +kernel) ⟨by decide, by decide⟩) hG rfl hl.1 rfl (Nat.le_of_ble_eq_true rfl) dL_law_434 hf (fun r2 u2 H locs hw hG => ?_)
  have hS := hG.2.2
  refine lv_pop hx hb dL_law_437 rfl ?_
  refine lv_goto (tgt := 553) hx hb dL_law_438 (by decide) ?_
  exact kk u1 (β) u2 f _ _ _ hw hG (lv_sub hl [0, 1, 2, 3, 4] rfl)
def lc_8 (I : XS → BS → MS → Prop) (xs : Nat → Int32) (x4 : Int32) (σ : XS) (β : BS) (τ : MS) (f : Nat → Int64) : Prop :=
  wp_X8_reached (fun r1 u1 => wp_X9_reached (fun r2 u2 => I u1 (β) u2) (xs (x4 + 1).toNatClampNeg) τ) (xs (x4 + 1).toNatClampNeg) σ
set_option maxHeartbeats 4000000 in
set_option maxRecDepth 100000 in
theorem kc_8 {p : Program} {l : Launch} {e : Env} {s : State} {m : MethodId} {below : List Frame} {meth : Method} {c : Code} {cells slots : Nat} {Q : State → Prop} {b L : Nat} {xs : Nat → Int32} {E : EnvT} {D : va_G} {cA cB : Nat → ClassId} {aE ad bd : Nat → Nat} {hB ao : Nat} (C0 : lw_At p s m meth c b L xs) (hKx : va_K D vwCl (xT cA) s) (hKm : va_K D vwCl (mT cB) s) (vE : EnvOk E) (hE : E (fun q : Nat => s.heap.size ≤ q) s s.heap) {aK aV bK bV : Nat → Nat} {aO dO dT : Nat} (vX : eXs bK bV aE aO E) (vM : eMs aK aV E) (vC : eCs E) (vB : eBs dO dT E) (hst : l.stackTraces = false) {I : XS → BS → MS → Prop} {σ : XS} {β : BS} {τ : MS} {f : Nat → Int64} {x4 : Int32} {H : Heap} {locs : List Loc} {ls : Array Slot} (h_1 : vp_in (x4 + 1) L) (hc1 : cells ≤ 600990) (hc2 : slots ≤ 7290654) (hG : lG D cA aE ad cB hB bd ao s σ β τ f H locs) (hl : lv_has ls 8 [(0, .ref b), (1, .ref (ad 0)), (2, .ref hB), (3, .ref ao), (4, .int x4)]) (hw : lc_8 I xs x4 σ β τ f)
    (kk : ∀ (σ' : XS) (β' : BS) (τ' : MS) (f' : Nat → Int64) (H1 : Heap) (locs1 : List Loc) (ls1 : Array Slot), I σ' β' τ' → lG D cA aE ad cB hB bd ao s σ' β' τ' f' H1 locs1 → lv_has ls1 8 [(0, .ref b), (1, .ref (ad 0)), (2, .ref hB), (3, .ref ao), (4, .int x4)] → W p l e room_1 s m #[Value.ref b] below meth c H1 locs1 (cells + 0) (slots + 0) Q (F0 m 553 ls1 [])) :
    W p l e room_1 s m #[Value.ref b] below meth c H locs cells slots Q (F0 m 441 ls []) := by
  obtain ⟨hx, hb, hr, hml, hown, hts, hX, hbl, hlocks, hgv⟩ := id C0
  have hbA : ¬ (fun q : Nat => s.heap.size ≤ q) b := Nat.not_le.mpr hbl
  have hf : cells ≤ room_1.cells ∧ slots ≤ room_1.slots := ⟨Nat.le_trans hc1 (by decide), Nat.le_trans hc2 (by decide)⟩
  have hS := hG.2.2
  unfold lc_8 at hw
  refine lv_aload_n hx hb dL_law_441 rfl (lv_at hl 1 rfl) ?_
  refine lv_aload_n hx hb dL_law_442 rfl (lv_at hl 0 rfl) ?_
  refine lv_iload hx hb dL_law_443 (lv_at hl 4 rfl) ?_
  refine lv_iconst (v := 1) hx hb dL_law_445 (by decide) ?_
  refine lv_iadd hx hb dL_law_446 ?_
  refine va_sld hx hb hX hbl hbA hS h_1 dL_law_447 ?_
  refine lX_i (As := [.int (xs (x4 + 1).toNatClampNeg)]) (rest := []) C0 hKx hKm vE hE (met_X8_reached vE vX hw) (cwV 1 hts (TB_GL (TB_4 tw_4_64 tw_4_65 tw_4_66 tw_1_1) tw_4_67) rfl rfl rfl (by decide +kernel) ⟨by decide, by decide⟩) hG rfl hl.1 rfl (Nat.le_of_ble_eq_true rfl) dL_law_448 hf (fun r1 u1 H locs hw hG => ?_)
  have hS := hG.2.2
  refine lv_pop hx hb dL_law_451 rfl ?_
  refine lv_aload_n hx hb dL_law_452 rfl (lv_at hl 2 rfl) ?_
  refine lv_aload_n hx hb dL_law_453 rfl (lv_at hl 0 rfl) ?_
  refine lv_iload hx hb dL_law_454 (lv_at hl 4 rfl) ?_
  refine lv_iconst (v := 1) hx hb dL_law_456 (by decide) ?_
  refine lv_iadd hx hb dL_law_457 ?_
  refine va_sld hx hb hX hbl hbA hS h_1 dL_law_458 ?_
  refine lM_i (As := [.int (xs (x4 + 1).toNatClampNeg)]) (rest := []) C0 hKx hKm vE hE (met_X9_reached vE vM hw) (cwV 1 hts (TB_GL (TB_4 tw_6_174 tw_6_175 tw_6_176 tw_1_13) tw_6_177) rfl rfl rfl (by decide +kernel) ⟨by decide, by decide⟩) hG rfl hl.1 rfl (Nat.le_of_ble_eq_true rfl) dL_law_459 hf (fun r2 u2 H locs hw hG => ?_)
  have hS := hG.2.2
  refine lv_pop hx hb dL_law_462 rfl ?_
  refine lv_goto (tgt := 553) hx hb dL_law_463 (by decide) ?_
  exact kk u1 (β) u2 f _ _ _ hw hG (lv_sub hl [0, 1, 2, 3, 4] rfl)
def lc_9 (I : XS → BS → MS → Prop) (xs : Nat → Int32) (x4 : Int32) (σ : XS) (β : BS) (τ : MS) (f : Nat → Int64) : Prop :=
  wp_X8_live (fun r1 u1 => wp_X9_live (fun r2 u2 => I u1 (β) u2) (xs (x4 + 1).toNatClampNeg) (xs (x4 + 2).toNatClampNeg) τ) (xs (x4 + 1).toNatClampNeg) (xs (x4 + 2).toNatClampNeg) σ
set_option maxHeartbeats 4000000 in
set_option maxRecDepth 100000 in
theorem kc_9 {p : Program} {l : Launch} {e : Env} {s : State} {m : MethodId} {below : List Frame} {meth : Method} {c : Code} {cells slots : Nat} {Q : State → Prop} {b L : Nat} {xs : Nat → Int32} {E : EnvT} {D : va_G} {cA cB : Nat → ClassId} {aE ad bd : Nat → Nat} {hB ao : Nat} (C0 : lw_At p s m meth c b L xs) (hKx : va_K D vwCl (xT cA) s) (hKm : va_K D vwCl (mT cB) s) (vE : EnvOk E) (hE : E (fun q : Nat => s.heap.size ≤ q) s s.heap) {aK aV bK bV : Nat → Nat} {aO dO dT : Nat} (vX : eXs bK bV aE aO E) (vM : eMs aK aV E) (vC : eCs E) (vB : eBs dO dT E) (hst : l.stackTraces = false) {I : XS → BS → MS → Prop} {σ : XS} {β : BS} {τ : MS} {f : Nat → Int64} {x4 : Int32} {H : Heap} {locs : List Loc} {ls : Array Slot} (h_1 : vp_in (x4 + 1) L) (h_2 : vp_in (x4 + 2) L) (hc1 : cells ≤ 600990) (hc2 : slots ≤ 7290654) (hG : lG D cA aE ad cB hB bd ao s σ β τ f H locs) (hl : lv_has ls 8 [(0, .ref b), (1, .ref (ad 0)), (2, .ref hB), (3, .ref ao), (4, .int x4)]) (hw : lc_9 I xs x4 σ β τ f)
    (kk : ∀ (σ' : XS) (β' : BS) (τ' : MS) (f' : Nat → Int64) (H1 : Heap) (locs1 : List Loc) (ls1 : Array Slot), I σ' β' τ' → lG D cA aE ad cB hB bd ao s σ' β' τ' f' H1 locs1 → lv_has ls1 8 [(0, .ref b), (1, .ref (ad 0)), (2, .ref hB), (3, .ref ao), (4, .int x4)] → W p l e room_1 s m #[Value.ref b] below meth c H1 locs1 (cells + 0) (slots + 0) Q (F0 m 553 ls1 [])) :
    W p l e room_1 s m #[Value.ref b] below meth c H locs cells slots Q (F0 m 466 ls []) := by
  obtain ⟨hx, hb, hr, hml, hown, hts, hX, hbl, hlocks, hgv⟩ := id C0
  have hbA : ¬ (fun q : Nat => s.heap.size ≤ q) b := Nat.not_le.mpr hbl
  have hf : cells ≤ room_1.cells ∧ slots ≤ room_1.slots := ⟨Nat.le_trans hc1 (by decide), Nat.le_trans hc2 (by decide)⟩
  have hS := hG.2.2
  unfold lc_9 at hw
  refine lv_aload_n hx hb dL_law_466 rfl (lv_at hl 1 rfl) ?_
  refine lv_aload_n hx hb dL_law_467 rfl (lv_at hl 0 rfl) ?_
  refine lv_iload hx hb dL_law_468 (lv_at hl 4 rfl) ?_
  refine lv_iconst (v := 1) hx hb dL_law_470 (by decide) ?_
  refine lv_iadd hx hb dL_law_471 ?_
  refine va_sld hx hb hX hbl hbA hS h_1 dL_law_472 ?_
  refine lv_aload_n hx hb dL_law_473 rfl (lv_at hl 0 rfl) ?_
  refine lv_iload hx hb dL_law_474 (lv_at hl 4 rfl) ?_
  refine lv_iconst (v := 2) hx hb dL_law_476 (by decide) ?_
  refine lv_iadd hx hb dL_law_477 ?_
  refine va_sld hx hb hX hbl hbA hS h_2 dL_law_478 ?_
  refine lX_i (As := [.int (xs (x4 + 1).toNatClampNeg), .int (xs (x4 + 2).toNatClampNeg)]) (rest := []) C0 hKx hKm vE hE (met_X8_live vE vX hw) (cwV 2 hts (TB_GL (TB_4 tw_4_91 tw_4_92 tw_4_93 tw_1_1) tw_4_94) rfl rfl rfl (by decide +kernel) ⟨by decide, by decide⟩) hG rfl hl.1 rfl (Nat.le_of_ble_eq_true rfl) dL_law_479 hf (fun r1 u1 H locs hw hG => ?_)
  have hS := hG.2.2
  refine lv_pop hx hb dL_law_482 rfl ?_
  refine lv_aload_n hx hb dL_law_483 rfl (lv_at hl 2 rfl) ?_
  refine lv_aload_n hx hb dL_law_484 rfl (lv_at hl 0 rfl) ?_
  refine lv_iload hx hb dL_law_485 (lv_at hl 4 rfl) ?_
  refine lv_iconst (v := 1) hx hb dL_law_487 (by decide) ?_
  refine lv_iadd hx hb dL_law_488 ?_
  refine va_sld hx hb hX hbl hbA hS h_1 dL_law_489 ?_
  refine lv_aload_n hx hb dL_law_490 rfl (lv_at hl 0 rfl) ?_
  refine lv_iload hx hb dL_law_491 (lv_at hl 4 rfl) ?_
  refine lv_iconst (v := 2) hx hb dL_law_493 (by decide) ?_
  refine lv_iadd hx hb dL_law_494 ?_
  refine va_sld hx hb hX hbl hbA hS h_2 dL_law_495 ?_
  refine lM_i (As := [.int (xs (x4 + 1).toNatClampNeg), .int (xs (x4 + 2).toNatClampNeg)]) (rest := []) C0 hKx hKm vE hE (met_X9_live vE vM hw) (cwV 2 hts (TB_GL (TB_4 tw_6_182 tw_6_183 tw_6_184 tw_1_13) tw_6_185) rfl rfl rfl (by decide +kernel) ⟨by decide, by decide⟩) hG rfl hl.1 rfl (Nat.le_of_ble_eq_true rfl) dL_law_496 hf (fun r2 u2 H locs hw hG => ?_)
  have hS := hG.2.2
  refine lv_pop hx hb dL_law_499 rfl ?_
  refine lv_goto (tgt := 553) hx hb dL_law_500 (by decide) ?_
  exact kk u1 (β) u2 f _ _ _ hw hG (lv_sub hl [0, 1, 2, 3, 4] rfl)
def lc_10 (I : XS → BS → MS → Prop) (xs : Nat → Int32) (x4 : Int32) (σ : XS) (β : BS) (τ : MS) (f : Nat → Int64) : Prop :=
  wp_X8_meet (fun r1 u1 => wp_X9_meet (fun r2 u2 => I u1 (β) u2) (xs (x4 + 1).toNatClampNeg) τ) (xs (x4 + 1).toNatClampNeg) σ
set_option maxHeartbeats 4000000 in
set_option maxRecDepth 100000 in
theorem kc_10 {p : Program} {l : Launch} {e : Env} {s : State} {m : MethodId} {below : List Frame} {meth : Method} {c : Code} {cells slots : Nat} {Q : State → Prop} {b L : Nat} {xs : Nat → Int32} {E : EnvT} {D : va_G} {cA cB : Nat → ClassId} {aE ad bd : Nat → Nat} {hB ao : Nat} (C0 : lw_At p s m meth c b L xs) (hKx : va_K D vwCl (xT cA) s) (hKm : va_K D vwCl (mT cB) s) (vE : EnvOk E) (hE : E (fun q : Nat => s.heap.size ≤ q) s s.heap) {aK aV bK bV : Nat → Nat} {aO dO dT : Nat} (vX : eXs bK bV aE aO E) (vM : eMs aK aV E) (vC : eCs E) (vB : eBs dO dT E) (hst : l.stackTraces = false) {I : XS → BS → MS → Prop} {σ : XS} {β : BS} {τ : MS} {f : Nat → Int64} {x4 : Int32} {H : Heap} {locs : List Loc} {ls : Array Slot} (h_1 : vp_in (x4 + 1) L) (hc1 : cells ≤ 600990) (hc2 : slots ≤ 7290654) (hG : lG D cA aE ad cB hB bd ao s σ β τ f H locs) (hl : lv_has ls 8 [(0, .ref b), (1, .ref (ad 0)), (2, .ref hB), (3, .ref ao), (4, .int x4)]) (hw : lc_10 I xs x4 σ β τ f)
    (kk : ∀ (σ' : XS) (β' : BS) (τ' : MS) (f' : Nat → Int64) (H1 : Heap) (locs1 : List Loc) (ls1 : Array Slot), I σ' β' τ' → lG D cA aE ad cB hB bd ao s σ' β' τ' f' H1 locs1 → lv_has ls1 8 [(0, .ref b), (1, .ref (ad 0)), (2, .ref hB), (3, .ref ao), (4, .int x4)] → W p l e room_1 s m #[Value.ref b] below meth c H1 locs1 (cells + 0) (slots + 0) Q (F0 m 553 ls1 [])) :
    W p l e room_1 s m #[Value.ref b] below meth c H locs cells slots Q (F0 m 503 ls []) := by
  obtain ⟨hx, hb, hr, hml, hown, hts, hX, hbl, hlocks, hgv⟩ := id C0
  have hbA : ¬ (fun q : Nat => s.heap.size ≤ q) b := Nat.not_le.mpr hbl
  have hf : cells ≤ room_1.cells ∧ slots ≤ room_1.slots := ⟨Nat.le_trans hc1 (by decide), Nat.le_trans hc2 (by decide)⟩
  have hS := hG.2.2
  unfold lc_10 at hw
  refine lv_aload_n hx hb dL_law_503 rfl (lv_at hl 1 rfl) ?_
  refine lv_aload_n hx hb dL_law_504 rfl (lv_at hl 0 rfl) ?_
  refine lv_iload hx hb dL_law_505 (lv_at hl 4 rfl) ?_
  refine lv_iconst (v := 1) hx hb dL_law_507 (by decide) ?_
  refine lv_iadd hx hb dL_law_508 ?_
  refine va_sld hx hb hX hbl hbA hS h_1 dL_law_509 ?_
  refine lX_i (As := [.int (xs (x4 + 1).toNatClampNeg)]) (rest := []) C0 hKx hKm vE hE (met_X8_meet vE vX hw) (cwV 1 hts (TB_GL (TB_4 tw_4_112 tw_4_113 tw_4_114 tw_1_1) tw_4_115) rfl rfl rfl (by decide +kernel) ⟨by decide, by decide⟩) hG rfl hl.1 rfl (Nat.le_of_ble_eq_true rfl) dL_law_510 hf (fun r1 u1 H locs hw hG => ?_)
  have hS := hG.2.2
  refine lv_pop hx hb dL_law_513 rfl ?_
  refine lv_aload_n hx hb dL_law_514 rfl (lv_at hl 2 rfl) ?_
  refine lv_aload_n hx hb dL_law_515 rfl (lv_at hl 0 rfl) ?_
  refine lv_iload hx hb dL_law_516 (lv_at hl 4 rfl) ?_
  refine lv_iconst (v := 1) hx hb dL_law_518 (by decide) ?_
  refine lv_iadd hx hb dL_law_519 ?_
  refine va_sld hx hb hX hbl hbA hS h_1 dL_law_520 ?_
  refine lM_i (As := [.int (xs (x4 + 1).toNatClampNeg)]) (rest := []) C0 hKx hKm vE hE (met_X9_meet vE vM hw) (cwV 1 hts (TB_GL (TB_4 tw_6_194 tw_6_195 tw_6_196 tw_1_13) tw_6_197) rfl rfl rfl (by decide +kernel) ⟨by decide, by decide⟩) hG rfl hl.1 rfl (Nat.le_of_ble_eq_true rfl) dL_law_521 hf (fun r2 u2 H locs hw hG => ?_)
  have hS := hG.2.2
  refine lv_pop hx hb dL_law_524 rfl ?_
  refine lv_goto (tgt := 553) hx hb dL_law_525 (by decide) ?_
  exact kk u1 (β) u2 f _ _ _ hw hG (lv_sub hl [0, 1, 2, 3, 4] rfl)
def lc_11 (I : XS → BS → MS → Prop) (xs : Nat → Int32) (x4 : Int32) (σ : XS) (β : BS) (τ : MS) (f : Nat → Int64) : Prop :=
  wp_X8_total (fun r1 u1 => wp_X9_total (fun r2 u2 => I u1 (β) u2) (xs (x4 + 1).toNatClampNeg) τ) (xs (x4 + 1).toNatClampNeg) σ
set_option maxHeartbeats 4000000 in
set_option maxRecDepth 100000 in
theorem kc_11 {p : Program} {l : Launch} {e : Env} {s : State} {m : MethodId} {below : List Frame} {meth : Method} {c : Code} {cells slots : Nat} {Q : State → Prop} {b L : Nat} {xs : Nat → Int32} {E : EnvT} {D : va_G} {cA cB : Nat → ClassId} {aE ad bd : Nat → Nat} {hB ao : Nat} (C0 : lw_At p s m meth c b L xs) (hKx : va_K D vwCl (xT cA) s) (hKm : va_K D vwCl (mT cB) s) (vE : EnvOk E) (hE : E (fun q : Nat => s.heap.size ≤ q) s s.heap) {aK aV bK bV : Nat → Nat} {aO dO dT : Nat} (vX : eXs bK bV aE aO E) (vM : eMs aK aV E) (vC : eCs E) (vB : eBs dO dT E) (hst : l.stackTraces = false) {I : XS → BS → MS → Prop} {σ : XS} {β : BS} {τ : MS} {f : Nat → Int64} {x4 : Int32} {H : Heap} {locs : List Loc} {ls : Array Slot} (h_1 : vp_in (x4 + 1) L) (hc1 : cells ≤ 600990) (hc2 : slots ≤ 7290654) (hG : lG D cA aE ad cB hB bd ao s σ β τ f H locs) (hl : lv_has ls 8 [(0, .ref b), (1, .ref (ad 0)), (2, .ref hB), (3, .ref ao), (4, .int x4)]) (hw : lc_11 I xs x4 σ β τ f)
    (kk : ∀ (σ' : XS) (β' : BS) (τ' : MS) (f' : Nat → Int64) (H1 : Heap) (locs1 : List Loc) (ls1 : Array Slot), I σ' β' τ' → lG D cA aE ad cB hB bd ao s σ' β' τ' f' H1 locs1 → lv_has ls1 8 [(0, .ref b), (1, .ref (ad 0)), (2, .ref hB), (3, .ref ao), (4, .int x4)] → W p l e room_1 s m #[Value.ref b] below meth c H1 locs1 (cells + 0) (slots + 0) Q (F0 m 553 ls1 [])) :
    W p l e room_1 s m #[Value.ref b] below meth c H locs cells slots Q (F0 m 528 ls []) := by
  obtain ⟨hx, hb, hr, hml, hown, hts, hX, hbl, hlocks, hgv⟩ := id C0
  have hbA : ¬ (fun q : Nat => s.heap.size ≤ q) b := Nat.not_le.mpr hbl
  have hf : cells ≤ room_1.cells ∧ slots ≤ room_1.slots := ⟨Nat.le_trans hc1 (by decide), Nat.le_trans hc2 (by decide)⟩
  have hS := hG.2.2
  unfold lc_11 at hw
  refine lv_aload_n hx hb dL_law_528 rfl (lv_at hl 1 rfl) ?_
  refine lv_aload_n hx hb dL_law_529 rfl (lv_at hl 0 rfl) ?_
  refine lv_iload hx hb dL_law_530 (lv_at hl 4 rfl) ?_
  refine lv_iconst (v := 1) hx hb dL_law_532 (by decide) ?_
  refine lv_iadd hx hb dL_law_533 ?_
  refine va_sld hx hb hX hbl hbA hS h_1 dL_law_534 ?_
  refine lX_i (As := [.int (xs (x4 + 1).toNatClampNeg)]) (rest := []) C0 hKx hKm vE hE (met_X8_total vE vX hw) (cwV 1 hts (TB_GL (TB_4 tw_4_133 tw_4_134 tw_4_135 tw_1_1) tw_4_136) rfl rfl rfl (by decide +kernel) ⟨by decide, by decide⟩) hG rfl hl.1 rfl (Nat.le_of_ble_eq_true rfl) dL_law_535 hf (fun r1 u1 H locs hw hG => ?_)
  have hS := hG.2.2
  refine lv_pop hx hb dL_law_538 rfl ?_
  refine lv_aload_n hx hb dL_law_539 rfl (lv_at hl 2 rfl) ?_
  refine lv_aload_n hx hb dL_law_540 rfl (lv_at hl 0 rfl) ?_
  refine lv_iload hx hb dL_law_541 (lv_at hl 4 rfl) ?_
  refine lv_iconst (v := 1) hx hb dL_law_543 (by decide) ?_
  refine lv_iadd hx hb dL_law_544 ?_
  refine va_sld hx hb hX hbl hbA hS h_1 dL_law_545 ?_
  refine lM_i (As := [.int (xs (x4 + 1).toNatClampNeg)]) (rest := []) C0 hKx hKm vE hE (met_X9_total vE vM hw) (cwV 1 hts (TB_GL (TB_4 tw_6_207 tw_6_208 tw_6_209 tw_1_13) tw_6_210) rfl rfl rfl (by decide +kernel) ⟨by decide, by decide⟩) hG rfl hl.1 rfl (Nat.le_of_ble_eq_true rfl) dL_law_546 hf (fun r2 u2 H locs hw hG => ?_)
  have hS := hG.2.2
  refine lv_pop hx hb dL_law_549 rfl ?_
  refine lv_goto (tgt := 553) hx hb dL_law_550 (by decide) ?_
  exact kk u1 (β) u2 f _ _ _ hw hG (lv_sub hl [0, 1, 2, 3, 4] rfl)
