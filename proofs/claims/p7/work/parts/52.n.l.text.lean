/-! the TEXT of a long -/
def ptx (x : Int64) (c : Int32) : List Int32 := if shC c = (-1) then [c] else if c = 100 ∨ c = 97 ∨ c = 98 then 114 :: dec (fldX c x) else if c = 68 ∨ c = 65 ∨ c = 66 ∨ c = 113 then 112 :: dec (fldX c x) else dec (fldX c x)
def pts (x : Int64) : List Int32 → List Int32
  | [] => []
  | c :: cs => ptx x c ++ pts x cs
theorem pts_app (x : Int64) (b : List Int32) : ∀ a, pts x (a ++ b) = pts x a ++ pts x b := by
  intro a
  induction a with
  | nil => rfl
  | cons c cs ih =>
    show ptx x c ++ pts x (cs ++ b) = (ptx x c ++ pts x cs) ++ pts x b
    rw [ih, List.append_assoc]
def gtx (x : Int64) : List Int32 := if fG x = 0 then [] else [64] ++ (if fG x < 12 then [] else [33]) ++ [112] ++ dec (fG x - fG x / 4 * 4) ++ [32]
def txt (x : Int64) : Option Nat → List Int32
  | none => [63, 59]
  | some e => gtx x ++ bytX.getD (txI e) [] ++ (if lnX e = 0 then [] else [32]) ++ pts x (chX e) ++ [59]
theorem fld_nib {c : Int32} (x : Int64) (h1 : ¬ shC c = 32) (h2 : ¬ shC c = (-1)) : ∃ j, j < 16 ∧ fldX c x = nI j := by
  unfold fldX
  rw [if_neg h1, if_neg h2]
  exact and15 _
theorem ptx_len (x : Int64) (c : Int32) : (ptx x c).length ≤ cX c := by
  unfold ptx cX
  by_cases q : shC c = (-1)
  · rw [if_pos q, if_pos q]; exact Nat.le_refl 1
  · rw [if_neg q, if_neg q]
    by_cases q2 : shC c = 32
    · rw [if_pos q2]
      have := dec_11 (fldX c x)
      split
      · show (dec _).length + 1 ≤ 12; omega
      · split
        · show (dec _).length + 1 ≤ 12; omega
        · omega
    · rw [if_neg q2]
      obtain ⟨j, hj, e⟩ := fld_nib x q2 q
      have := dec_nib j hj
      rw [e]
      split
      · show (dec _).length + 1 ≤ 3; omega
      · split
        · show (dec _).length + 1 ≤ 3; omega
        · omega
/-! the class's -/
theorem pc_nI : ∀ e, e < 53 → ∀ j, j < 9 → pcX e j = nI (pcX e j).toNatClampNeg ∧ (pcX e j).toNatClampNeg < 128 := by decide +kernel
theorem tx_bl : ∀ e, e < 53 → (bytX.getD (txI e) []).length = lenX.getD (txI e) 0 := by decide +kernel
section XT
variable {β : BS} {post : BS → Prop} {L : List Int32} {x : Int64}
def ptF (e : Nat) (x : Int64) : Nat → Nat → List Int32
  | 0, _ => []
  | d + 1, j => ptx x (pcX e j) ++ ptF e x d (j + 1)
theorem ptF_ch (e : Nat) (x : Int64) : ptF e x (lnX e) 0 = pts x (chX e) := by
  have main : ∀ d j, ptF e x d j = pts x ((List.range' j d).map (pcX e)) := by
    intro d
    induction d with
    | zero => intro j; rfl
    | succ d ih =>
      intro j
      rw [List.range'_succ]
      show ptx x (pcX e j) ++ ptF e x d (j + 1) = ptx x (pcX e j) ++ pts x ((List.range' (j + 1) d).map (pcX e))
      rw [ih]
  rw [main]
  unfold chX
  rw [List.range_eq_range']
theorem xb_parts_23 {e : Nat} (he : e < 53) : ∀ (d j : Nat) (L : List Int32) (β : BS), j + d = lnX e → L.length + csX e d j ≤ 64 → BT L β → (∀ γ, BT (L ++ ptF e x d j) γ → (L ++ ptF e x d j).length ≤ 64 → post γ) → wL_X4_spellParts_23 post (d + 1) e x (nI j) β := by
  have hpx := px_lt he
  have hlen := px_len9 e he
  have hE : lnX e = lenX.getD (pxI e) 0 := rfl
  intro d
  induction d with
  | zero =>
    intro j L β hj hn h k
    have e0 : L ++ ptF e x 0 j = L := List.append_nil L
    rw [e0] at k
    exact ⟨he, hpx, x_len hpx ⟨fun _ => k β h (by omega), fun z => absurd (nI_le (by omega) (by omega)) z⟩⟩
  | succ d ih =>
    intro j L β hj hn h k
    have hs : csX e (d + 1) j = cX (pcX e j) + csX e d (j + 1) := rfl
    rw [hs] at hn
    have hpl := ptx_len x (pcX e j)
    obtain ⟨em, hm⟩ := pc_nI e he j (by omega)
    have nx : ∀ γ, BT (L ++ ptx x (pcX e j)) γ → ∀ y : Int32, y = nI j + 1 → wL_X4_spellParts_23 post (d + 1) e x y γ := fun γ g y hy => by
      rw [hy, nI_1]
      refine ih (j + 1) _ γ (by omega) (by rw [List.length_append]; omega) g (fun γ g hl => k γ ?_ ?_)
      · rw [List.append_assoc] at g; exact g
      · rw [List.append_assoc] at hl; exact hl
    refine ⟨he, hpx, x_len hpx ⟨fun z => absurd z (nI_ge (by omega) (by omega)), fun _ => ⟨he, hpx, vp_in_nI (by omega) (by omega), fun r hr => ?_⟩⟩⟩
    rw [nI_clamp (by omega)] at hr
    have hr : r = pcX e j := hr
    subst hr
    unfold ptx at nx hpl
    refine spx_shiftOf ⟨fun q => ?_, fun q => ?_⟩
    · rw [if_pos q] at nx hpl
      have hpl : 1 ≤ cX (pcX e j) := hpl
      exact xb_char em hm (by omega) h (fun γ g => nx γ g)
    · rw [if_neg q] at nx hpl
      refine spx_isRegister ?_
      by_cases hreg : pcX e j = 100 ∨ pcX e j = 97 ∨ pcX e j = 98
      · rw [bI_pos hreg]
        rw [if_pos hreg] at nx hpl
        have hpl : (dec (fldX (pcX e j) x)).length + 1 ≤ cX (pcX e j) := hpl
        refine ⟨fun z => absurd z (by decide), fun _ => xb_char (m := 114) rfl (by decide) (by omega) h (fun γ g => spx_fld (xb_int (by rw [List.length_append]; show L.length + 1 + _ ≤ 70; omega) g (fun γ g => nx γ ?_)))⟩
        rw [List.append_assoc] at g; exact g
      · rw [bI_neg hreg]
        rw [if_neg hreg] at nx hpl
        refine ⟨fun _ => spx_isPredicate ?_, fun z => absurd rfl z⟩
        by_cases hpre : pcX e j = 68 ∨ pcX e j = 65 ∨ pcX e j = 66 ∨ pcX e j = 113
        · rw [bI_pos hpre]
          rw [if_pos hpre] at nx hpl
          have hpl : (dec (fldX (pcX e j) x)).length + 1 ≤ cX (pcX e j) := hpl
          refine ⟨fun z => absurd z (by decide), fun _ => xb_char (m := 112) rfl (by decide) (by omega) h (fun γ g => spx_fld (xb_int (by rw [List.length_append]; show L.length + 1 + _ ≤ 70; omega) g (fun γ g => nx γ ?_)))⟩
          rw [List.append_assoc] at g; exact g
        · rw [bI_neg hpre]
          rw [if_neg hpre] at nx hpl
          exact ⟨fun _ => spx_fld (xb_int (by omega) h (fun γ g => nx γ g)), fun z => absurd rfl z⟩
theorem xb_parts {e : Nat} (he : e < 53) (hn : L.length ≤ 13) (h : BT L β) (k : ∀ γ, BT (L ++ ((if lnX e = 0 then [] else [32]) ++ pts x (chX e))) γ → (L ++ ((if lnX e = 0 then [] else [32]) ++ pts x (chX e))).length ≤ 64 → post γ) : wp_X4_spellParts post e x β := by
  have hpx := px_lt he
  have hlen := px_len9 e he
  have hE : lnX e = lenX.getD (pxI e) 0 := rfl
  have hcs := csX_le e he
  have hemp : ∀ e, e < 53 → (lenX.getD (pxI e) 0 = 0 ↔ (Int32.ofNat (lenX.getD (pxI e) 0) = 0)) := by decide +kernel
  refine ⟨he, hpx, hpx, hpx, fun q => ⟨Or.inr rfl, fun z => absurd z (by decide), fun _ => ⟨lnX e + 1, by omega, ?_⟩⟩, fun q => ⟨Or.inl rfl, fun _ => ?_, fun z => absurd rfl z⟩⟩
  · have q0 : lnX e = 0 := (hemp e he).mpr q
    rw [if_pos q0, List.nil_append, ← ptF_ch] at k
    exact xb_parts_23 he (lnX e) 0 L β (by omega) (by show L.length + csX e (lenX.getD (pxI e) 0) 0 ≤ 64; omega) h k
  · have q0 : ¬ lnX e = 0 := fun z => q ((hemp e he).mp z)
    rw [if_neg q0, ← ptF_ch, ← List.append_assoc] at k
    exact xb_char (m := 32) rfl (by decide) (by omega) h (fun γ g => ⟨lnX e + 1, by omega, xb_parts_23 he (lnX e) 0 _ γ (by omega) (by rw [List.length_append]; show L.length + 1 + csX e (lenX.getD (pxI e) 0) 0 ≤ 64; omega) g k⟩)
theorem xb_guard (h : BT [] β) (k : ∀ γ, BT (gtx x) γ → (gtx x).length ≤ 6 → post γ) : wp_X4_spellGuard post (fG x) β := by
  obtain ⟨j, hj, ej⟩ := fG_nib x
  have hr : nI j - nI j / 4 * 4 = nI (j % 4) := pk_rem (a := j) (d := 4) (by omega) (by decide) (by decide)
  have hd : ∀ i, i < 4 → (dec (nI i)).length = 1 := by decide +kernel
  have hd := hd (j % 4) (by omega)
  unfold gtx at k
  rw [ej, hr] at k
  rw [ej]
  unfold wp_X4_spellGuard
  rw [hr]
  refine ⟨fun q => ?_, fun q => xb_char (m := 64) rfl (by decide) (by show 0 < 70; omega) h (fun γ g => ⟨fun q2 => ?_, fun q2 => ?_⟩)⟩
  · rw [if_pos q] at k; exact k β h (by show 0 ≤ 6; omega)
  · rw [if_neg q, if_pos q2] at k
    refine xb_char (m := 112) rfl (by decide) (by show 1 < 70; omega) g (fun γ g => xb_int (by rw [hd]; show 2 + 1 ≤ 70; omega) g (fun γ g => xb_char (m := 32) rfl (by decide) (by rw [List.length_append, hd]; show 2 + 1 < 70; omega) g (fun γ g => k γ g (by rw [List.length_append, List.length_append, hd]; show 2 + 1 + 1 ≤ 6; omega))))
  · rw [if_neg q, if_neg q2] at k
    refine xb_char (m := 33) rfl (by decide) (by show 1 < 70; omega) g (fun γ g => xb_char (m := 112) rfl (by decide) (by show 2 < 70; omega) g (fun γ g => xb_int (by rw [hd]; show 3 + 1 ≤ 70; omega) g (fun γ g => xb_char (m := 32) rfl (by decide) (by rw [List.length_append, hd]; show 3 + 1 < 70; omega) g (fun γ g => k γ g (by rw [List.length_append, List.length_append, hd]; show 3 + 1 + 1 ≤ 6; omega)))))
theorem xb_set0 {n : Nat} (h : BI n β) (k : ∀ γ, BT [] γ → post γ) : wp_J4_setLength_d00df post 0 β := sb_set0 h (fun γ g => k γ ⟨g, fun j hj => absurd hj (Nat.not_lt_zero j)⟩)
/-- the letter at i of a TEXT -/
def ltr (T : List Int32) (i : Int32) : Int32 := if i < 0 then -1 else if nI T.length ≤ i then -1 else T.getD i.toNatClampNeg 0
theorem xb_last {post : Int32 → BS → Prop} {i : Int32} (hn : L.length < 70) (hc : ∀ j, j < L.length + 1 → ∃ m, m < 128 ∧ (L ++ [59]).getD j 0 = nI m) (h : BT L β) (k : ∀ γ, BT (L ++ [59]) γ → post (ltr (L ++ [59]) i) γ) :
    wp_J4_append_cf468 (fun σ_6 => (i < 0 → (post (-1) σ_6)) ∧ (¬ i < 0 → (wp_J4_length_8abf5 (fun r_7 σ_8 => (r_7 ≤ i → (post (-1) σ_8)) ∧ (¬ r_7 ≤ i → (wp_J4_charAt_5068e (fun r_9 σ_10 => post r_9 σ_10) i σ_8))) σ_6))) 59 β := by
  have hlen : (L ++ [(59 : Int32)]).length = L.length + 1 := by rw [List.length_append]; rfl
  refine xb_char (m := 59) rfl (by decide) hn h (fun γ g => ?_)
  have kk := k γ g
  unfold ltr at kk
  refine ⟨fun q => (by rw [if_pos q] at kk; exact kk), fun q => ⟨fun q2 => ?_, fun q2 => ?_⟩⟩
  · have q2 : zI γ 1 ≤ i := q2
    rw [g.1.1] at q2
    rw [if_neg q, if_pos q2] at kk; exact kk
  · have q2 : ¬ zI γ 1 ≤ i := q2
    rw [g.1.1] at q2
    rw [if_neg q, if_neg q2] at kk
    obtain ⟨m, hm, rfl⟩ := nI_of q
    have h70 := bi_70 g.1
    have hg := g.1.2.1
    have hlt : m < (L ++ [(59 : Int32)]).length := nI_nle' hm q2
    rw [nI_clamp hm] at kk
    have e0 : (Int32.ofNat (zN γ 1)) >>> ((0 : Int32) &&& 31) = nI (zN γ 1) := by
      rw [show (0 : Int32) &&& 31 = 0 by decide, Int32.shiftRight_zero]
      rfl
    have hC : ∀ v : Int32, isC ((v.toUInt32 % 65536).toInt32) := fun v => by
      rw [pk_char]
      exact (pk_charN (Nat.mod_lt _ (by decide))).1
    show wp_J9_min_7cf53 _ (zI γ 1) ((Int32.ofNat (zN γ 1)) >>> ((0 : Int32) &&& 31))
    rw [e0, g.1.1]
    refine ⟨fun z => absurd z (nI_nlt hg (by omega)), fun _ => ⟨q, nI_lt hlt (by omega), fun _ => ⟨vp_in_nI (by omega) (by omega), hC _, hC _, ?_⟩, fun z => absurd rfl z⟩⟩
    rw [nI_clamp hm, g.2 m hlt]
    obtain ⟨c, hcc, ec⟩ := hc m (by omega)
    have hid : ∀ c, c < 128 → ((nI c &&& 255).toUInt32 % 65536).toInt32 = nI c := by decide +kernel
    rw [ec] at kk ⊢
    rw [hid c hcc]
    exact kk
end XT
/-! all its characters are below 128 -/
def asc (L : List Int32) : Prop := ∀ v, v ∈ L → ∃ m, m < 128 ∧ v = nI m
theorem asc_app {L M : List Int32} (h : asc L) (g : asc M) : asc (L ++ M) := fun v hv => (List.mem_append.mp hv).elim (h v) (g v)
theorem asc_one {m : Nat} (h : m < 128) : asc [nI m] := fun v hv => ⟨m, h, List.mem_singleton.mp hv⟩
theorem asc_nil : asc [] := fun v hv => by cases hv
theorem asc_get {L : List Int32} (h : asc L) {j : Nat} (hj : j < L.length) : ∃ m, m < 128 ∧ L.getD j 0 = nI m := by
  rw [List.getD_eq_getElem?_getD, List.getElem?_eq_getElem hj]
  exact h _ (List.getElem_mem hj)
theorem asc_dgl (m : Nat) : ∀ i, asc (dgl m i) := by
  intro i
  induction i with
  | zero => exact asc_nil
  | succ i ih => exact asc_app (L := [nI (48 + m / 10 ^ i % 10)]) (asc_one (by omega)) ih
theorem asc_dec (v : Int32) : asc (dec v) := by
  unfold dec
  split
  · exact asc_app (L := [nI 45]) (asc_one (by decide)) (asc_dgl _ _)
  · exact asc_dgl _ _
theorem asc_gtx (x : Int64) : asc (gtx x) := by
  unfold gtx
  split
  · exact asc_nil
  · refine asc_app (asc_app (asc_app (asc_app (asc_one (m := 64) (by decide)) ?_) (asc_one (m := 112) (by decide))) (asc_dec _)) (asc_one (m := 32) (by decide))
    split
    · exact asc_nil
    · exact asc_one (m := 33) (by decide)
theorem asc_ptx (x : Int64) {c : Int32} {m : Nat} (hc : c = nI m) (hm : m < 128) : asc (ptx x c) := by
  unfold ptx
  split
  · rw [hc]; exact asc_one hm
  · split
    · exact asc_app (L := [nI 114]) (asc_one (by decide)) (asc_dec _)
    · split
      · exact asc_app (L := [nI 112]) (asc_one (by decide)) (asc_dec _)
      · exact asc_dec _
theorem asc_ptF {e : Nat} (x : Int64) (he : e < 53) : ∀ d j, j + d = lnX e → asc (ptF e x d j) := by
  have hlen := px_len9 e he
  have hE : lnX e = lenX.getD (pxI e) 0 := rfl
  intro d
  induction d with
  | zero => intro j _; exact asc_nil
  | succ d ih =>
    intro j hj
    obtain ⟨em, hm⟩ := pc_nI e he j (by omega)
    exact asc_app (asc_ptx x em hm) (ih (j + 1) (by omega))
theorem tx_asc : ∀ e, e < 53 → ∀ i, i < lenX.getD (txI e) 0 → (bytX.getD (txI e) []).getD i 0 = nI ((bytX.getD (txI e) []).getD i 0).toNatClampNeg ∧ ((bytX.getD (txI e) []).getD i 0).toNatClampNeg < 128 := by decide +kernel
theorem asc_tx {e : Nat} (he : e < 53) : asc (bytX.getD (txI e) []) := by
  intro v hv
  obtain ⟨i, hi, e2⟩ := List.mem_iff_getElem.mp hv
  have := tx_asc e he i (by rw [← tx_bl e he]; exact hi)
  rw [List.getD_eq_getElem?_getD, List.getElem?_eq_getElem hi] at this
  have h2 : (some (bytX.getD (txI e) [])[i]).getD 0 = v := e2
  rw [h2] at this
  exact ⟨_, this.2, this.1⟩
theorem asc_txt {e : Nat} (x : Int64) (he : e < 53) : asc (txt x (some e)) := by
  refine asc_app (asc_app (asc_app (asc_app (asc_gtx x) (asc_tx he)) ?_) ?_) (asc_one (m := 59) (by decide))
  · split
    · exact asc_nil
    · exact asc_one (m := 32) (by decide)
  · rw [← ptF_ch]; exact asc_ptF x he _ 0 (by omega)
theorem xe_letter {post : Int32 → XS × BS → Prop} {k c n : Nat} {i : Int32} {σ : XS} {β : BS} (hc : c ≤ 64) (e : xI σ 8 = nI c) (hk : k < c) (hck : ckX σ k) (hB : BI n β) (h : ∀ γ, BG γ → post (ltr (txt (xL σ 6 k) (xQ σ 1 k)) i) (σ, γ)) : wp_X8_letter post (nI k) i σ β := by
  have hv : vp_in (nI k) 64 := vp_in_nI (by omega) (by decide)
  refine xe_hasT hc e hk ⟨fun z => absurd z (by decide), fun _ => ?_⟩
  rw [nI_clamp (by omega)]
  have ho := hck.1
  generalize hq : xQ σ 1 k = o at *
  cases o with
  | none =>
    refine ⟨hv, fun _ => ⟨hv, xb_set0 hB (fun γ g => xb_char (m := 63) rfl (by decide) (by show 0 < 70; omega) g (fun γ g => xb_last (post := fun r β' => post r (σ, β')) (i := i) (by show 1 < 70; omega) (fun j hj => ?_) g (fun γ g => h γ ⟨_, g.1⟩)))⟩, fun e z => (by cases z)⟩
    exact asc_get (L := [63] ++ [59]) (asc_app (asc_one (m := 63) (by decide)) (asc_one (m := 59) (by decide))) hj
  | some a =>
    refine ⟨hv, fun z => (by cases z), fun a' z => ⟨hv, ?_⟩⟩
    cases z
    have ht := tx_len a ho.1
    have htb := tx_bl a ho.1
    refine xb_set0 hB (fun γ g => ?_)
    unfold wp_X2_guardOf
    refine xb_guard (x := xL σ 6 k) g (fun γ g hg => ⟨ho.1, xb_str (tx_lt a ho.1) htb (by omega) (tx_fit a ho.1) (by omega) g (fun γ g => xb_parts ho.1 (by rw [List.length_append, htb]; omega) g (fun γ g hl => ?_))⟩)
    rw [← List.append_assoc] at g hl
    exact xb_last (post := fun r β' => post r (σ, β')) (i := i) (by omega) (fun j hj => asc_get (asc_txt _ ho.1) (by show j < (_ ++ [59]).length; rw [List.length_append]; exact hj)) g (fun γ g => h γ ⟨_, g.1⟩)
/-! the reference's -/
section MTY
variable {s t : Nat} {τ : MS} {post : MS → Prop} {G : GhT} {L : List Int32} {x : Int64}
theorem ptl (x : Int64) : ∀ p, (pts x (flP p)).length ≤ cst p := by
  intro p
  have e1 : ∀ c, (pts x [c]).length = (ptx x c).length := fun c => by show (ptx x c ++ []).length = _; rw [List.append_nil]
  by_cases q : p = 77
  · subst q
    show (ptx x 40 ++ (ptx x 97 ++ (ptx x 43 ++ (ptx x 110 ++ (ptx x 41 ++ []))))).length ≤ 18
    have h1 := ptx_len x 40
    have h2 := ptx_len x 97
    have h3 := ptx_len x 43
    have h4 : (ptx x 110).length ≤ 11 := dec_11 (fldX 110 x)
    have h5 := ptx_len x 41
    have c1 : cX 40 = 1 := by decide
    have c2 : cX 97 = 3 := by decide
    have c3 : cX 43 = 1 := by decide
    have c5 : cX 41 = 1 := by decide
    simp only [List.length_append, List.length_nil]
    omega
  · have ef : flP p = [flC p] := if_neg q
    rw [ef, e1]
    have h := ptx_len x (flC p)
    unfold cst
    by_cases q2 : p = 68 ∨ p = 65 ∨ p = 66 ∨ p = 100 ∨ p = 97 ∨ p = 98
    · rw [if_pos q2]
      have : cX (flC p) = 3 := by rcases q2 with z | z | z | z | z | z <;> rw [z] <;> decide
      omega
    · rw [if_neg q2, if_neg q]
      have : cX (flC p) ≤ 12 := by
        unfold cX
        split
        · omega
        · split <;> omega
      omega
theorem dec_fA (x : Int64) : (dec (fA x)).length ≤ 2 := by obtain ⟨j, hj, e⟩ := fA_nib x; rw [e]; exact dec_nib j hj
theorem dec_fB (x : Int64) : (dec (fB x)).length ≤ 2 := by obtain ⟨j, hj, e⟩ := fB_nib x; rw [e]; exact dec_nib j hj
theorem dec_fD (x : Int64) : (dec (fD x)).length ≤ 2 := by obtain ⟨j, hj, e⟩ := fD_nib x; rw [e]; exact dec_nib j hj
theorem xm_part {p : Int32} (hp : isMN p) (hn : L.length + cst p ≤ 60) (h : MT G s t L τ) (k : ∀ τ', MT G s t (L ++ pts x (flP p)) τ' → post τ') : wp_X9_sayPart post p x τ := by
  have hA := dec_fA x
  have hB := dec_fB x
  have hD := dec_fD x
  have hN := dec_11 (fN x)
  have one : ∀ (c : Int32), pts x [c] = ptx x c := fun c => List.append_nil _
  have len1 : ∀ c : Int32, (L ++ [c]).length = L.length + 1 := fun c => by rw [List.length_append]; rfl
  unfold cst at hn
  rcases hp with q | q | q | q | q | q | q | q | q | q <;> subst q
  · rw [if_pos (by decide)] at hn
    have kk : ∀ τ', MT G s t (L ++ [114] ++ dec (fD x)) τ' → post τ' := fun τ' g => k τ' (by rw [List.append_assoc] at g; rw [show pts x (flP 68) = [114] ++ dec (fD x) from one 100]; exact g)
    exact ⟨fun _ => xm_say (by omega) h (fun τ g => ⟨fun z => absurd z (by decide), fun _ => ⟨fun z => absurd z (by decide), fun _ => ⟨fun z => absurd z (by decide), fun _ => ⟨fun z => absurd z (by decide), fun _ => ⟨fun _ => xm_num (r := fD x) (by rw [len1]; omega) g kk, fun z => absurd rfl z⟩⟩⟩⟩⟩), fun z => absurd rfl z⟩
  · rw [if_pos (by decide)] at hn
    have kk : ∀ τ', MT G s t (L ++ [114] ++ dec (fA x)) τ' → post τ' := fun τ' g => k τ' (by rw [List.append_assoc] at g; rw [show pts x (flP 65) = [114] ++ dec (fA x) from one 97]; exact g)
    exact ⟨fun z => absurd z (by decide), fun _ => ⟨fun _ => xm_say (by omega) h (fun τ g => ⟨fun z => absurd z (by decide), fun _ => ⟨fun z => absurd z (by decide), fun _ => ⟨fun z => absurd z (by decide), fun _ => ⟨fun z => absurd z (by decide), fun _ => ⟨fun z => absurd z (by decide), fun _ => ⟨fun z => absurd z (by decide), fun _ => ⟨fun _ => xm_num (r := fA x) (by rw [len1]; omega) g kk, fun z => absurd rfl z⟩⟩⟩⟩⟩⟩⟩), fun z => absurd rfl z⟩⟩
  · rw [if_pos (by decide)] at hn
    have kk : ∀ τ', MT G s t (L ++ [114] ++ dec (fB x)) τ' → post τ' := fun τ' g => k τ' (by rw [List.append_assoc] at g; rw [show pts x (flP 66) = [114] ++ dec (fB x) from one 98]; exact g)
    exact ⟨fun z => absurd z (by decide), fun _ => ⟨fun z => absurd z (by decide), fun _ => ⟨fun _ => xm_say (by omega) h (fun τ g => ⟨fun z => absurd z (by decide), fun _ => ⟨fun z => absurd z (by decide), fun _ => ⟨fun z => absurd z (by decide), fun _ => ⟨fun z => absurd z (by decide), fun _ => ⟨fun z => absurd z (by decide), fun _ => ⟨fun z => absurd z (by decide), fun _ => ⟨fun z => absurd z (by decide), fun _ => ⟨fun z => absurd z (by decide), fun _ => ⟨fun _ => xm_num (r := fB x) (by rw [len1]; omega) g kk, fun z => absurd rfl z⟩⟩⟩⟩⟩⟩⟩⟩⟩), fun z => absurd rfl z⟩⟩⟩
  · rw [if_pos (by decide)] at hn
    have kk : ∀ τ', MT G s t (L ++ [112] ++ dec (fD x)) τ' → post τ' := fun τ' g => k τ' (by rw [List.append_assoc] at g; rw [show pts x (flP 100) = [112] ++ dec (fD x) from one 68]; exact g)
    exact ⟨fun z => absurd z (by decide), fun _ => ⟨fun z => absurd z (by decide), fun _ => ⟨fun z => absurd z (by decide), fun _ => ⟨fun _ => xm_say (by omega) h (fun τ g => ⟨fun z => absurd z (by decide), fun _ => ⟨fun _ => xm_num (r := fD x) (by rw [len1]; omega) g kk, fun z => absurd rfl z⟩⟩), fun z => absurd rfl z⟩⟩⟩⟩
  · rw [if_pos (by decide)] at hn
    have kk : ∀ τ', MT G s t (L ++ [112] ++ dec (fA x)) τ' → post τ' := fun τ' g => k τ' (by rw [List.append_assoc] at g; rw [show pts x (flP 97) = [112] ++ dec (fA x) from one 65]; exact g)
    exact ⟨fun z => absurd z (by decide), fun _ => ⟨fun z => absurd z (by decide), fun _ => ⟨fun z => absurd z (by decide), fun _ => ⟨fun z => absurd z (by decide), fun _ => ⟨fun _ => xm_say (by omega) h (fun τ g => ⟨fun z => absurd z (by decide), fun _ => ⟨fun z => absurd z (by decide), fun _ => ⟨fun z => absurd z (by decide), fun _ => ⟨fun _ => xm_num (r := fA x) (by rw [len1]; omega) g kk, fun z => absurd rfl z⟩⟩⟩⟩), fun z => absurd rfl z⟩⟩⟩⟩⟩
  · rw [if_pos (by decide)] at hn
    have kk : ∀ τ', MT G s t (L ++ [112] ++ dec (fB x)) τ' → post τ' := fun τ' g => k τ' (by rw [List.append_assoc] at g; rw [show pts x (flP 98) = [112] ++ dec (fB x) from one 66]; exact g)
    exact ⟨fun z => absurd z (by decide), fun _ => ⟨fun z => absurd z (by decide), fun _ => ⟨fun z => absurd z (by decide), fun _ => ⟨fun z => absurd z (by decide), fun _ => ⟨fun z => absurd z (by decide), fun _ => ⟨fun _ => xm_say (by omega) h (fun τ g => ⟨fun z => absurd z (by decide), fun _ => ⟨fun z => absurd z (by decide), fun _ => ⟨fun z => absurd z (by decide), fun _ => ⟨fun z => absurd z (by decide), fun _ => ⟨fun z => absurd z (by decide), fun _ => ⟨fun _ => xm_num (r := fB x) (by rw [len1]; omega) g kk, fun z => absurd rfl z⟩⟩⟩⟩⟩⟩), fun z => absurd rfl z⟩⟩⟩⟩⟩⟩
  · rw [if_neg (by decide), if_neg (by decide)] at hn
    have kk : ∀ τ', MT G s t (L ++ [112] ++ dec (fN x)) τ' → post τ' := fun τ' g => k τ' (by rw [List.append_assoc] at g; rw [show pts x (flP 80) = [112] ++ dec (fN x) from one 113]; exact g)
    exact ⟨fun z => absurd z (by decide), fun _ => ⟨fun z => absurd z (by decide), fun _ => ⟨fun z => absurd z (by decide), fun _ => ⟨fun z => absurd z (by decide), fun _ => ⟨fun z => absurd z (by decide), fun _ => ⟨fun z => absurd z (by decide), fun _ => ⟨fun _ => xm_say (by omega) h (fun τ g => ⟨fun z => absurd z (by decide), fun _ => ⟨fun z => absurd z (by decide), fun _ => ⟨fun z => absurd z (by decide), fun _ => ⟨fun z => absurd z (by decide), fun _ => ⟨fun z => absurd z (by decide), fun _ => ⟨fun z => absurd z (by decide), fun _ => ⟨fun z => absurd z (by decide), fun _ => xm_num (r := fN x) (by rw [len1]; omega) g kk⟩⟩⟩⟩⟩⟩⟩), fun z => absurd rfl z⟩⟩⟩⟩⟩⟩⟩
  · rw [if_neg (by decide), if_neg (by decide)] at hn
    have kk : ∀ τ', MT G s t (L ++ dec (fN x)) τ' → post τ' := fun τ' g => k τ' (by rw [show pts x (flP 78) = dec (fN x) from one 110]; exact g)
    exact ⟨fun z => absurd z (by decide), fun _ => ⟨fun z => absurd z (by decide), fun _ => ⟨fun z => absurd z (by decide), fun _ => ⟨fun z => absurd z (by decide), fun _ => ⟨fun z => absurd z (by decide), fun _ => ⟨fun z => absurd z (by decide), fun _ => ⟨fun z => absurd z (by decide), fun _ => ⟨fun z => absurd z (by decide), fun _ => ⟨fun z => absurd z (by decide), fun _ => ⟨fun z => absurd z (by decide), fun _ => ⟨fun z => absurd z (by decide), fun _ => ⟨fun z => absurd z (by decide), fun _ => ⟨fun z => absurd z (by decide), fun _ => ⟨fun z => absurd z (by decide), fun _ => xm_num (r := fN x) (by omega) h kk⟩⟩⟩⟩⟩⟩⟩⟩⟩⟩⟩⟩⟩⟩
  · rw [if_neg (by decide), if_neg (by decide)] at hn
    have kk : ∀ τ', MT G s t (L ++ dec (fN x)) τ' → post τ' := fun τ' g => k τ' (by rw [show pts x (flP 71) = dec (fN x) from one 116]; exact g)
    exact ⟨fun z => absurd z (by decide), fun _ => ⟨fun z => absurd z (by decide), fun _ => ⟨fun z => absurd z (by decide), fun _ => ⟨fun z => absurd z (by decide), fun _ => ⟨fun z => absurd z (by decide), fun _ => ⟨fun z => absurd z (by decide), fun _ => ⟨fun z => absurd z (by decide), fun _ => ⟨fun z => absurd z (by decide), fun _ => ⟨fun z => absurd z (by decide), fun _ => ⟨fun z => absurd z (by decide), fun _ => ⟨fun z => absurd z (by decide), fun _ => ⟨fun z => absurd z (by decide), fun _ => ⟨fun z => absurd z (by decide), fun _ => ⟨fun z => absurd z (by decide), fun _ => xm_num (r := fN x) (by omega) h kk⟩⟩⟩⟩⟩⟩⟩⟩⟩⟩⟩⟩⟩⟩
  · rw [if_neg (by decide), if_pos rfl] at hn
    have kk : ∀ τ', MT G s t (L ++ [40] ++ [114] ++ dec (fA x) ++ [43] ++ dec (fN x) ++ [41]) τ' → post τ' := fun τ' g => k τ' (by
      have e : pts x (flP 77) = [40] ++ ([114] ++ dec (fA x) ++ ([43] ++ (dec (fN x) ++ ([41] ++ [])))) := rfl
      rw [e]
      simp only [List.append_assoc, List.append_nil] at g ⊢
      exact g)
    have go : wp_X9_say (fun σ_22 => wp_X9_say (fun σ_24 => wp_X9_a (fun r_25 => wp_X9_sayNumber (fun σ_28 => wp_X9_say (fun σ_30 => wp_X9_n (fun r_31 => wp_X9_sayNumber (fun σ_34 => wp_X9_say (fun σ_36 => wB_X9_sayPart_186 post σ_36) 41 σ_34) (r_31.toInt64) σ_30) x) 43 σ_28) (r_25.toInt64) σ_24) x) 114 σ_22) 40 τ := by
      refine xm_say (by omega) h (fun τ g => xm_say (by simp only [List.length_append, List.length_cons, List.length_nil]; omega) g (fun τ g => xm_num (r := fA x) (by simp only [List.length_append, List.length_cons, List.length_nil]; omega) g (fun τ g => xm_say (by simp only [List.length_append, List.length_cons, List.length_nil]; omega) g (fun τ g => xm_num (r := fN x) (by simp only [List.length_append, List.length_cons, List.length_nil]; omega) g (fun τ g => xm_say (by simp only [List.length_append, List.length_cons, List.length_nil]; omega) g kk)))))
    exact ⟨fun z => absurd z (by decide), fun _ => ⟨fun z => absurd z (by decide), fun _ => ⟨fun z => absurd z (by decide), fun _ => ⟨fun z => absurd z (by decide), fun _ => ⟨fun z => absurd z (by decide), fun _ => ⟨fun z => absurd z (by decide), fun _ => ⟨fun z => absurd z (by decide), fun _ => ⟨fun z => absurd z (by decide), fun _ => ⟨fun z => absurd z (by decide), fun _ => ⟨fun z => absurd z (by decide), fun _ => ⟨fun z => absurd z (by decide), fun _ => ⟨fun z => absurd z (by decide), fun _ => ⟨fun z => absurd z (by decide), fun _ => ⟨fun _ => go, fun z => absurd rfl z⟩⟩⟩⟩⟩⟩⟩⟩⟩⟩⟩⟩⟩⟩
/-- the letters of a WORD's NAME -/
def nmM (w : Nat) : Nat → Nat → List Int32
  | 0, _ => []
  | d + 1, k => if letC w k = 32 then [] else letC w k :: nmM w d (k + 1)
theorem nm_eq : ∀ w, w < 53 → nmM w 8 0 = bytX.getD (txI (pm w)) [] ∧ (lnX (pm w) = 0 ↔ partC w 0 = 46) := by decide +kernel
theorem nm_len : ∀ w, w < 53 → (nmM w 8 0).length ≤ 7 := by decide +kernel
theorem xm_write {o : Option Nat} (h : GJ G s t τ) (ho : isOf x o) (k : ∀ τ', MT G s t (txt x o) τ' → (txt x o).length ≤ 60 → post τ') : wp_X9_write post x τ := by
  have h0 : MT G s t [] (wI τ 30 0) := ⟨⟨h, rfl⟩, fun j hj => absurd hj (Nat.not_lt_zero j)⟩
  have len1 : ∀ (L : List Int32) (c : Int32), (L ++ [c]).length = L.length + 1 := fun L c => by rw [List.length_append]; rfl
  refine em_listed (fun g => ⟨fun _ => ?_, fun z => absurd rfl z⟩) (fun w hw g => ⟨fun z => absurd z (nI_ne1 (by omega)), fun _ => ?_⟩)
  · rw [isOf_inj ho g] at k
    exact xm_say (by show 0 < 60; omega) h0 (fun τ g => xm_say (by show 1 < 60; omega) g (fun τ g => k τ g (by show 2 ≤ 60; omega)))
  · rw [isOf_inj ho g] at k
    obtain ⟨hnm, hem⟩ := nm_eq w hw
    have hnl := nm_len w hw
    have hgl : (gtx x).length ≤ 6 := by
      unfold gtx
      obtain ⟨j, hj, ej⟩ := fG_nib x
      have hr : nI j - nI j / 4 * 4 = nI (j % 4) := pk_rem (a := j) (d := 4) (by omega) (by decide) (by decide)
      have hd : ∀ i, i < 4 → (dec (nI i)).length = 1 := by decide +kernel
      rw [ej, hr]
      split
      · show 0 ≤ 6; omega
      · rw [List.length_append, List.length_append, hd (j % 4) (by omega)]
        split
        · show 2 + 1 + 1 ≤ 6; omega
        · show 3 + 1 + 1 ≤ 6; omega
    have k169 : ∀ τ, MT G s t (gtx x ++ nmM w 8 0 ++ (if lnX (pm w) = 0 then [] else [32]) ++ pts x (flR w 4 0)) τ → (gtx x ++ nmM w 8 0 ++ (if lnX (pm w) = 0 then [] else [32]) ++ pts x (flR w 4 0)).length < 60 → wB_X9_write_169 post τ := fun τ g hl => xm_say hl g (fun τ g => k τ (by
      show MT G s t (gtx x ++ bytX.getD (txI (pm w)) [] ++ (if lnX (pm w) = 0 then [] else [32]) ++ pts x (chX (pm w)) ++ [59]) τ
      rw [pm_ch w hw, ← hnm]; exact g) (by
      show (gtx x ++ bytX.getD (txI (pm w)) [] ++ (if lnX (pm w) = 0 then [] else [32]) ++ pts x (chX (pm w)) ++ [59]).length ≤ 60
      rw [pm_ch w hw, ← hnm, len1]; omega))
    have k116 : ∀ τ, MT G s t (gtx x ++ nmM w 8 0) τ → wB_X9_write_116 post x (nI w) τ := by
      intro τ g
      have hbase : (gtx x ++ nmM w 8 0).length ≤ 13 := by rw [List.length_append]; omega
      have main : ∀ (d j : Nat) (L : List Int32) (τ : MS), j + d = 4 → L.length + csF w d j < 60 → (∀ τ, MT G s t (L ++ (if j = 0 ∧ ¬ partC w 0 = 46 then [32] else []) ++ pts x (flR w d j)) τ → (L ++ (if j = 0 ∧ ¬ partC w 0 = 46 then [32] else []) ++ pts x (flR w d j)).length < 60 → wB_X9_write_169 post τ) → MT G s t L τ → wL_X9_write_119 post (d + 1) x (nI w) (nI j) τ := by
        intro d
        induction d with
        | zero =>
          intro j L τ hj hn kk g
          have e : L ++ (if j = 0 ∧ ¬ partC w 0 = 46 then [(32 : Int32)] else []) ++ pts x (flR w 0 j) = L := by
            rw [if_neg (fun z => by have := z.1; omega)]
            show L ++ [] ++ [] = L
            rw [List.append_nil, List.append_nil]
          rw [e] at kk
          exact ⟨fun _ => kk τ g (by omega), fun q => absurd (show (4 : Int32) ≤ nI j by rw [show j = 4 by omega]; decide) q⟩
        | succ d ih =>
          intro j L τ hj hn kk g
          have hj4 : j < 4 := by omega
          refine ⟨fun z => absurd z (nI_ge (a := j) (b := 4) (by omega) (by decide)), fun _ => sp_part hw hj4 ⟨fun q => ?_, fun ne => ?_⟩⟩
          · have e : L ++ (if j = 0 ∧ ¬ partC w 0 = 46 then [(32 : Int32)] else []) ++ pts x (flR w (d + 1) j) = L := by
              have e1 : flR w (d + 1) j = [] := if_pos q
              rw [if_neg (fun z => z.2 (by rw [z.1] at q; exact q)), e1]
              show L ++ [] ++ [] = L
              rw [List.append_nil, List.append_nil]
            rw [e] at kk
            exact kk τ g (by omega)
          · have hs : csF w (d + 1) j = 1 + cst (partC w j) + csF w d (j + 1) := if_neg ne
            rw [hs] at hn
            have hmn : isMN (partC w j) := (part_mn w hw j hj4).resolve_left ne
            have hpl := ptl x (partC w j)
            have hf : flR w (d + 1) j = (if j = 0 then [] else [44]) ++ flP (partC w j) ++ flR w d (j + 1) := if_neg ne
            have k149 : ∀ v : Int32, (∀ τ, MT G s t (L ++ [v] ++ pts x (flP (partC w j)) ++ pts x (flR w d (j + 1))) τ → (L ++ [v] ++ pts x (flP (partC w j)) ++ pts x (flR w d (j + 1))).length < 60 → wB_X9_write_169 post τ) → wB_X9_write_149 post (wL_X9_write_119 post (d + 1)) x (nI w) (nI j) v τ := fun v kv => xm_say (by omega) g (fun τ g => sp_part hw hj4 (xm_part hmn (by rw [len1]; omega) g (fun τ g => fun y hy => by
              rw [hy, nI_1]
              refine ih (j + 1) _ τ (by omega) (by rw [List.length_append, len1]; omega) (fun τ g hl => ?_) g
              rw [if_neg (fun z => by have := z.1; omega), List.append_nil] at g hl
              exact kv τ g hl)))
            refine ⟨fun q => k149 32 (fun τ g hl => ?_), fun q => k149 44 (fun τ g hl => ?_)⟩
            · have j0 : j = 0 := (nI_eq (b := 0) (by omega) (by omega)).mp q
              subst j0
              rw [if_pos ⟨rfl, ne⟩, hf, if_pos rfl, List.nil_append, pts_app, ← List.append_assoc] at kk
              exact kk τ g hl
            · have j0 : ¬ j = 0 := fun z => q (by rw [z]; rfl)
              have p44 : pts x [44] = [44] := rfl
              rw [if_neg (fun z => j0 z.1), hf, if_neg j0, pts_app, pts_app, p44, List.append_nil, ← List.append_assoc, ← List.append_assoc] at kk
              exact kk τ g hl
      have hcs := cs_le w hw
      refine ⟨5, main 4 0 _ τ rfl (by omega) (fun τ g hl => k169 τ ?_ ?_) g⟩
      · by_cases q : partC w 0 = 46
        · rw [if_neg (fun z => z.2 q)] at g
          rw [if_pos (hem.mpr q)]; exact g
        · rw [if_pos ⟨rfl, q⟩] at g
          rw [if_neg (fun z => q (hem.mp z))]; exact g
      · by_cases q : partC w 0 = 46
        · rw [if_neg (fun z => z.2 q)] at hl
          rw [if_pos (hem.mpr q)]; exact hl
        · rw [if_pos ⟨rfl, q⟩] at hl
          rw [if_neg (fun z => q (hem.mp z))]; exact hl
    have k79 : ∀ τ, MT G s t (gtx x) τ → wB_X9_write_79 post x (nI w) τ := by
      intro τ g
      have main : ∀ (d j : Nat) (L : List Int32) (τ : MS), j + d = 8 → L.length ≤ 6 + j → gtx x ++ nmM w 8 0 = L ++ nmM w d j → MT G s t L τ → wL_X9_write_82 post (d + 1) x (nI w) (nI j) τ := by
        intro d
        induction d with
        | zero =>
          intro j L τ hj hn he g
          have e : L ++ nmM w 0 j = L := List.append_nil L
          rw [e] at he
          exact ⟨fun _ => k116 τ (by rw [he]; exact g), fun q => absurd (show (8 : Int32) ≤ nI j by rw [show j = 8 by omega]; decide) q⟩
        | succ d ih =>
          intro j L τ hj hn he g
          have hj8 : j < 8 := by omega
          refine ⟨fun z => absurd z (nI_ge (a := j) (b := 8) (by omega) (by decide)), fun _ => sp_letterOf hw hj8 ⟨fun q => ?_, fun q => sp_letterOf hw hj8 (xm_say (by omega) g (fun τ g => fun y hy => ?_))⟩⟩
          · have e : L ++ nmM w (d + 1) j = L := by
              have : nmM w (d + 1) j = [] := if_pos q
              rw [this, List.append_nil]
            rw [e] at he
            exact k116 τ (by rw [he]; exact g)
          · rw [hy, nI_1]
            refine ih (j + 1) _ τ (by omega) (by rw [len1]; omega) ?_ g
            have : nmM w (d + 1) j = [letC w j] ++ nmM w d (j + 1) := if_neg q
            rw [he, this, List.append_assoc]
      exact ⟨9, main 8 0 _ τ rfl (by omega) rfl g⟩
    obtain ⟨j, hj, ej⟩ := fG_nib x
    have hr : nI j - nI j / 4 * 4 = nI (j % 4) := pk_rem (a := j) (d := 4) (by omega) (by decide) (by decide)
    have h3 : ∀ j, j < 16 → nI j &&& 3 = nI (j % 4) := by decide +kernel
    have h11 : ∀ j, j < 16 → (nI j ≤ 11 ↔ nI j < 12) ∧ (nI j ≤ 0 ↔ nI j = 0) := by decide +kernel
    have hd : ∀ i, i < 4 → (dec (nI i)).length = 1 := by decide +kernel
    have hd := hd (j % 4) (by omega)
    obtain ⟨h11, h00⟩ := h11 j hj
    unfold gtx at k79
    rw [ej, hr] at k79
    show (fG x ≤ 0 → wB_X9_write_79 post x (nI w) (wI τ 30 0)) ∧ (¬ fG x ≤ 0 → wp_X9_say (fun σ_24 => (fG x ≤ 11 → wB_X9_write_56 post x (nI w) σ_24) ∧ (¬ fG x ≤ 11 → wp_X9_say (fun σ_36 => wB_X9_write_56 post x (nI w) σ_36) 33 σ_24)) 64 (wI τ 30 0))
    rw [ej]
    have k56 : ∀ (L : List Int32) τ, L.length ≤ 2 → (∀ τ, MT G s t (L ++ [112] ++ dec (nI (j % 4)) ++ [32]) τ → wB_X9_write_79 post x (nI w) τ) → MT G s t L τ → wB_X9_write_56 post x (nI w) τ := by
      intro L τ hL kk g
      refine xm_say (by omega) g (fun τ g => ?_)
      show wp_X9_sayNumber _ ((fG x &&& 3).toInt64) τ
      rw [ej, h3 j hj]
      exact xm_num (by rw [len1, hd]; omega) g (fun τ g => xm_say (by rw [List.length_append, len1, hd]; omega) g (fun τ g => kk τ g))
    refine ⟨fun q => ?_, fun q => xm_say (by show 0 < 60; omega) h0 (fun τ g => ⟨fun q2 => ?_, fun q2 => xm_say (by show 1 < 60; omega) g (fun τ g => ?_)⟩)⟩
    · rw [if_pos (h00.mp q)] at k79; exact k79 _ h0
    · rw [if_neg (fun z => q (h00.mpr z)), if_pos (h11.mp q2)] at k79
      exact k56 _ τ (by show 1 ≤ 2; omega) k79 g
    · rw [if_neg (fun z => q (h00.mpr z)), if_neg (fun z => q2 (h11.mpr z))] at k79
      exact k56 _ τ (by show 2 ≤ 2; omega) k79 g
end MTY
section BLT
variable {σ : XS} {β : BS} {τ : MS}
theorem be_letter {x i : Int32} {P : Int32 → XS × BS → Int32 → MS → Prop} (h : II σ β τ) (k : ∀ r γ τ', II σ γ τ' → P r (σ, γ) r τ') : wp_X8_letter (fun r1 u1 => wp_X9_letter (fun r2 u2 => P r1 u1 r2 u2) x i τ) x i σ β := by
  obtain ⟨s, t, hs, ht, hX, hB, hG⟩ := id h
  obtain ⟨r1, ⟨c, hc, c1, c2, c3⟩, r3⟩ := id hG.2
  have hQ : QI (RG σ s t) s t c (wI τ 0 0) := ⟨hG, c2⟩
  have hk : ∀ γ τ', BG γ → GJ (RG σ s t) s t τ' → II σ γ τ' := fun γ τ' b g => ⟨s, t, hs, ht, hX, b, g⟩
  rcases Classical.em (∃ j, j < c ∧ x = nI j) with ⟨j, hj, rfl⟩ | nq
  · have hw := qi_w hc hQ j hj
    obtain ⟨n, hn⟩ := id hB
    refine xe_letter hc c1 hj hw.2 hn (fun γ g => ?_)
    refine em_placeT hc hQ.2 hj ⟨fun z => absurd z (by decide), fun _ => ⟨fun hi => ⟨vp_in_nI (by omega) (by decide), ?_⟩, fun hi => ?_⟩⟩
    · rw [nI_clamp (by omega), hw.1]
      refine xm_write (G := RG σ s t) hQ.1 hw.2.1 (fun τ' m hl => ?_)
      have kk := k (ltr (txt (xL σ 6 j) (xQ σ 1 j)) i) γ τ' (hk γ τ' g m.1.1)
      have n0 : ¬ i < 0 := Int32.not_lt.mpr hi
      obtain ⟨a, ha, rfl⟩ := nI_of n0
      have el : ltr (txt (xL σ 6 j) (xQ σ 1 j)) (nI a) = if nI (txt (xL σ 6 j) (xQ σ 1 j)).length ≤ nI a then -1 else (txt (xL σ 6 j) (xQ σ 1 j)).getD a 0 := by
        unfold ltr
        rw [if_neg n0, nI_clamp ha]
      rw [m.1.2]
      refine ⟨fun q => ?_, fun q => ?_⟩
      · rw [el, if_pos q] at kk ⊢; exact kk
      · have hlt : a < (txt (xL σ 6 j) (xQ σ 1 j)).length := nI_nle' ha q
        rw [nI_clamp ha, m.2 a hlt]
        refine ⟨vp_in_nI (by omega) (by decide), ?_⟩
        rw [el, if_neg q] at kk ⊢; exact kk
    · have n0 : i < 0 := Int32.not_le.mp hi
      have el : ltr (txt (xL σ 6 j) (xQ σ 1 j)) i = -1 := if_pos n0
      rw [el]
      exact k (-1) γ _ (hk γ _ g hQ.1)
  · have hn : ∀ j, j < c → ¬ x = nI j := fun j hj z => nq ⟨j, hj, z⟩
    exact xe_hasF hc c1 hn ⟨fun _ => em_placeF hc hQ.2 hn ⟨fun _ => k (-1) β _ (hk β _ hB hQ.1), fun z => absurd rfl z⟩, fun z => absurd rfl z⟩
end BLT
