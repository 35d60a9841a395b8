/-! the reference's parser makes what the TOKENS mean -/
def nbr (v : Int64) : Int64 := (v &&& 4294967295) <<< ((32 : Int32).toInt64 &&& 63)
def PB (L : List Tok) (T a : Nat) : Prop := a ≤ T ∧ (a < T ∨ T = L.length)
def MTk (L : List Tok) (T : Nat) (σ : MS) : Prop := L.length ≤ 700 ∧ T ≤ L.length ∧ (∀ i, i < T → corr L σ i) ∧ mA σ 6 T = 0 ∧ (T = L.length ∨ (0 < T ∧ tkK L (T - 1) = 3)) ∧ (∀ i, i + 1 < T → ¬ tkK L i = 3) ∧ ∀ i, i < L.length → ¬ tkK L i = 0
def MFr (σ0 : MS) (s : Nat) (σ : MS) : Prop := GI s 0 σ ∧ mI σ 11 = mI σ0 11 ∧ mL σ 10 = mL σ0 10 ∧ mA σ 15 s = mA σ0 15 s ∧ ∀ i, i < 400 → mL σ 16 (400 * s + i) = mL σ0 16 (400 * s + i) ∧ mL σ 17 (400 * s + i) = mL σ0 17 (400 * s + i)
def MNm (s : Nat) (n : NS) (σ : MS) : Prop := n.1 ≤ 350 ∧ mA σ 15 (1 - s) = nI n.1 ∧ ∀ i, i < n.1 → mL σ 16 (400 * (1 - s) + i) = n.2.1 i ∧ mL σ 17 (400 * (1 - s) + i) = n.2.2.1 i
section MSP
variable (K : Nat → Int32) (V : Nat → Int64)
def nmB (o : Option Nat) : Bool := match o with
  | none => false
  | some q => decide (K (amA K q) = 1)
def wcS (A : Nat → Option Nat) : Nat → Nat
  | 0 => 0
  | k + 1 => wcS A k + (if nmB K (A k) then 1 else 0)
def amN (q : Nat) : Int64 := if K q = 45 then -(V (amA K q)) else V (amA K q)
def wmS (v : Int64) (o : Option Nat) : Int64 := match o with
  | none => v
  | some q => if K (amA K q) = 1 then v else v ||| nbr (amN K V q)
def jmp (e : Nat) : Bool := decide (e = 36 ∨ e = 37)
def nbB1 (e : Nat) (o : Option Nat) : Bool := match o with
  | none => false
  | some q => if K (amA K q) = 1 then false else !(inR (jmp e) (amN K V q))
def nbB (A : Nat → Option Nat) (E : Nat → Nat) : Nat → Bool
  | 0 => false
  | k + 1 => nbB A E k || nbB1 K V (E k) (A k)
/-- a NAME that waits -/
def WT (r k q e : Nat) (σ : MS) : Prop := mA σ 19 r = nI k ∧ mL σ 20 r = V (amA K q) ∧ (mA σ 23 r = 0 ↔ ¬ K q = 45) ∧ (mA σ 24 r = 0 ↔ jmp e = false)
def MWd (l : Nat) (W : Nat → Int64) (A : Nat → Option Nat) (E : Nat → Nat) (σ : MS) : Prop := ∀ k, k < l → mL σ 12 k = wmS K V (W k) (A k) ∧ ∀ q, A k = some q → K (amA K q) = 1 → WT K V (wcS K A k) k q (E k) σ
end MSP
theorem wcS_le (K : Nat → Int32) (A : Nat → Option Nat) : ∀ k, wcS K A k ≤ k := by
  intro k
  induction k with
  | zero => exact Nat.le_refl 0
  | succ k ih =>
    show wcS K A k + (if nmB K (A k) then 1 else 0) ≤ k + 1
    split <;> omega
def ME (L : List Tok) (T : Nat) (σ0 : MS) (s a l : Nat) (W : Nat → Int64) (A : Nat → Option Nat) (E : Nat → Nat) (n : NS) (fb : Bool) (σ : MS) : Prop :=
  MTk L T σ ∧ MFr σ0 s σ ∧ (PB L T a ∧ mI σ 9 = nI a) ∧ (l ≤ 64 ∧ mI σ 13 = nI l) ∧ MWd (tkK L) (tkV L) l W A E σ ∧ MNm s n σ ∧ mI σ 18 = nI (wcS (tkK L) A l) ∧ (mI σ 3 = 0 ↔ fb = false)
/-- refused -/
def MR (σ0 : MS) (s : Nat) (σ : MS) : Prop := MFr σ0 s σ ∧ ¬ mI σ 3 = 0
/-- noted, and nothing else is changed -/
def NoteOf (σ τ : MS) : Prop := (∀ k, k ≠ 3 → k ≠ 4 → mI τ k = mI σ k) ∧ (∀ k, mJ τ k = mJ σ k) ∧ (∀ k, mA τ k = mA σ k) ∧ (∀ k, mL τ k = mL σ k) ∧ ¬ mI τ 3 = 0
theorem toInt64_inj {a b : Int32} (h : a.toInt64 = b.toInt64) : a = b := by
  have h2 := congrArg Int64.toInt32 h
  rw [Int32.toInt32_toInt64, Int32.toInt32_toInt64] at h2
  exact h2
section MPA
variable {L : List Tok} {T : Nat} {σ0 σ : MS} {s a l : Nat} {W : Nat → Int64} {A : Nat → Option Nat} {E : Nat → Nat} {n : NS} {fb : Bool} {post : Int32 → MS → Prop}
theorem sg_ne {x : Int32} (hx : isSg x) : ¬ x = 0 ∧ ¬ x = 1 ∧ ¬ x = 2 ∧ ¬ x = 3 := by
  rcases hx with e | e | e | e | e | e | e | e | e | e <;> rw [e] <;> decide
theorem tk_is (h : MTk L T σ) {b : Nat} (hb : PB L T b) {x : Int32} (hx : isSg x) : (mA σ 6 b = 3 ∧ mL σ 8 b = x.toInt64) ↔ tkK L b = x := by
  obtain ⟨n0, n1, n2, n3⟩ := sg_ne hx
  rcases Nat.lt_or_ge b T with q | q
  · obtain ⟨c1, c2, c3⟩ := h.2.2.1 b q
    constructor
    · intro ⟨z1, z2⟩
      rw [c1] at z1
      rw [c3 z1] at z2
      exact toInt64_inj z2
    · intro z
      have k3 : kM (tkK L b) = 3 := by
        rw [z]; unfold kM; rw [if_neg n1, if_neg n2, if_neg n3]
      exact ⟨by rw [c1, k3], by rw [c3 k3, z]⟩
  · have e : b = T := by have := hb.1; omega
    have eL : T = L.length := by
      rcases hb.2 with z | z
      · omega
      · exact z
    constructor
    · intro ⟨z1, _⟩
      rw [e, h.2.2.2.1] at z1
      exact absurd z1 (by decide)
    · intro z
      exfalso
      apply n0
      rw [← z, e, eL]
      unfold tkK
      rw [getD_ge L (Nat.le_refl _)]
theorem tk_12 (h : MTk L T σ) {b : Nat} (hb : PB L T b) {x : Int32} (hx : x = 1 ∨ x = 2) : (mA σ 6 b = x ↔ tkK L b = x) ∧ (tkK L b = x → mL σ 8 b = tkV L b) := by
  rcases Nat.lt_or_ge b T with q | q
  · obtain ⟨c1, c2, c3⟩ := h.2.2.1 b q
    refine ⟨⟨fun z => ?_, fun z => ?_⟩, fun z => c2 (by rcases hx with e | e <;> rw [z, e] <;> decide)⟩
    · rw [c1] at z
      unfold kM at z
      by_cases e1 : tkK L b = 1
      · rw [if_pos e1] at z; rw [e1]; exact z
      · rw [if_neg e1] at z
        by_cases e2 : tkK L b = 2
        · rw [if_pos e2] at z; rw [e2]; exact z
        · rw [if_neg e2] at z
          exfalso
          by_cases e3 : tkK L b = 3
          · rw [if_pos e3] at z; rw [← z] at hx; exact absurd hx (by decide)
          · rw [if_neg e3] at z; rw [← z] at hx; exact absurd hx (by decide)
    · rw [c1, z]
      rcases hx with e | e <;> rw [e] <;> rfl
  · have e : b = T := by have := hb.1; omega
    have eL : T = L.length := by
      rcases hb.2 with z | z
      · omega
      · exact z
    have e0 : tkK L b = 0 := by rw [e, eL]; unfold tkK; rw [getD_ge L (Nat.le_refl _)]
    have hx0 : ¬ (0 : Int32) = x := by rcases hx with z | z <;> rw [z] <;> decide
    refine ⟨⟨fun z => absurd ?_ hx0, fun z => absurd ?_ hx0⟩, fun z => absurd ?_ hx0⟩
    · rw [← z, e, h.2.2.2.1]
    · rw [← z, e0]
    · rw [← z, e0]
theorem tk_0 (h : MTk L T σ) {b : Nat} (hb : PB L T b) : mA σ 6 b = 0 ↔ tkK L b = 0 := by
  rcases Nat.lt_or_ge b T with q | q
  · obtain ⟨c1, -, -⟩ := h.2.2.1 b q
    have hT := h.2.1
    refine ⟨fun z => ?_, fun z => absurd z (h.2.2.2.2.2.2 b (by omega))⟩
    rw [c1] at z
    exfalso
    unfold kM at z
    split at z
    · exact absurd z (by decide)
    · split at z
      · exact absurd z (by decide)
      · split at z
        · exact absurd z (by decide)
        · exact absurd z (by decide)
  · have e : b = T := by have := hb.1; omega
    have eL : T = L.length := by
      rcases hb.2 with z | z
      · omega
      · exact z
    have e0 : tkK L b = 0 := by rw [e, eL]; unfold tkK; rw [getD_ge L (Nat.le_refl _)]
    rw [e0, e, h.2.2.2.1]
/-- past a TOKEN that stands -/
theorem pb_next (h : MTk L T σ) {b : Nat} (hb : PB L T b) (h0 : ¬ tkK L b = 0) (h3 : ¬ tkK L b = 3) : PB L T (b + 1) ∧ b < T := by
  have hlt := tk_lt h0
  have hT := h.2.1
  have hbT : b < T := by
    rcases hb.2 with z | z
    · exact z
    · omega
  refine ⟨⟨hbT, ?_⟩, hbT⟩
  rcases Nat.lt_or_ge (b + 1) T with q | q
  · exact Or.inl q
  · right
    rcases h.2.2.2.2.1 with z | z
    · exact z
    · exfalso
      have e : T - 1 = b := by omega
      rw [e] at z
      exact h3 z.2
theorem pb_name (h : MTk L T σ) {b : Nat} (hb : PB L T b) (h1 : tkK L b = 1) : PB L T (b + 1) ∧ b < T := pb_next h hb (by rw [h1]; decide) (by rw [h1]; decide)
theorem me_T (h : ME L T σ0 s a l W A E n fb σ) : a ≤ T ∧ T ≤ 700 := by
  have h1 := h.1.1
  have h2 := h.1.2.1
  exact ⟨h.2.2.1.1.1, by omega⟩
theorem me_in (h : ME L T σ0 s a l W A E n fb σ) : vp_in (mI σ 9) 702 ∧ (mI σ 9).toNatClampNeg = a := by
  have := me_T h
  rw [h.2.2.1.2]
  exact ⟨vp_in_nI (by omega) (by decide), nI_clamp (by omega)⟩
theorem me_in1 (h : ME L T σ0 s a l W A E n fb σ) : vp_in (mI σ 9 + 1) 702 ∧ (mI σ 9 + 1).toNatClampNeg = a + 1 := by
  have := me_T h
  rw [h.2.2.1.2, nI_1]
  exact ⟨vp_in_nI (by omega) (by decide), nI_clamp (by omega)⟩
theorem me_go {v : Int32} {b : Nat} (h : ME L T σ0 s a l W A E n fb σ) (hb : PB L T b) (hv : v = nI b) : ME L T σ0 s b l W A E n fb (wI σ 9 v) := ⟨h.1, h.2.1, ⟨hb, hv⟩, h.2.2.2⟩
theorem me_adv (h : ME L T σ0 s a l W A E n fb σ) (h0 : ¬ tkK L a = 0) (h3 : ¬ tkK L a = 3) : ME L T σ0 s (a + 1) l W A E n fb (wI σ 9 (mI σ 9 + 1)) := me_go h (pb_next h.1 h.2.2.1.1 h0 h3).1 (by rw [h.2.2.1.2, nI_1])
theorem me_note {τ : MS} (h : ME L T σ0 s a l W A E n fb σ) (hn : NoteOf σ τ) : ME L T σ0 s a l W A E n true τ := by
  obtain ⟨n1, n2, n3, n4, n5⟩ := hn
  obtain ⟨h1, h2, h3, h4, h5, h6, h7, h8⟩ := h
  unfold MTk corr at h1
  unfold MFr GI at h2
  unfold MWd WT at h5
  unfold MNm at h6
  unfold ME MTk MFr GI MWd WT MNm corr
  simp only [n3, n4, n1 14 (by decide) (by decide), n1 2 (by decide) (by decide), n1 11 (by decide) (by decide), n1 9 (by decide) (by decide), n1 13 (by decide) (by decide), n1 18 (by decide) (by decide)]
  exact ⟨h1, h2, h3, h4, h5, h6, h7, ⟨fun z => absurd z n5, fun z => by cases z⟩⟩
theorem em_note {post : MS → Prop} {x y : Int32} (hx : ¬ x = 0) (k : ∀ τ, NoteOf σ τ → post τ) : wp_X9_note post x y σ := by
  have h1 : NoteOf σ (wI (wI σ 3 x) 4 y) := ⟨fun k h3 h4 => by rw [mI_wI, if_neg h4, mI_wI, if_neg h3], fun _ => rfl, fun _ => rfl, fun _ => rfl, hx⟩
  have h2 : ¬ mI σ 3 = 0 → NoteOf σ σ := fun z => ⟨fun _ _ _ => rfl, fun _ => rfl, fun _ => rfl, fun _ => rfl, z⟩
  refine ⟨fun q => k _ (h2 (by rw [q]; decide)), fun _ => ⟨fun _ => k _ h1, fun q => ?_⟩⟩
  have q' : ¬ mI σ 3 = 0 := fun z => q (by rw [z]; decide)
  exact ⟨fun _ => k _ (h2 q'), fun _ => ⟨fun _ => ⟨fun _ => k _ h1, fun _ => k _ (h2 q')⟩, fun _ => k _ h1⟩⟩
theorem em_refuse (h : ME L T σ0 s a l W A E n fb σ) (k : ∀ τ, MR σ0 s τ → post 0 τ) : wp_X9_refuse post σ := ⟨(me_in h).1, k _ ⟨h.2.1, by show ¬ (1 : Int32) = 0; decide⟩⟩
theorem em_is {x : Int32} (hx : isSg x) (h : ME L T σ0 s a l W A E n fb σ) (h0 : ¬ tkK L a = x → post 0 σ) (h1 : tkK L a = x → post 1 σ) : wp_X9_is post x σ := by
  obtain ⟨i, e⟩ := me_in h
  have hk := tk_is h.1 h.2.2.1.1 hx
  unfold wp_X9_is
  rw [e]
  exact ⟨i, fun z1 => ⟨i, fun z2 => ⟨Or.inr rfl, h1 (hk.mp ⟨z1, z2⟩)⟩, fun z2 => ⟨Or.inl rfl, h0 (fun w => z2 (hk.mpr w).2)⟩⟩, fun z1 => ⟨Or.inl rfl, h0 (fun w => z1 (hk.mpr w).1)⟩⟩
theorem em_isNext {x : Int32} (hx : isSg x) (ha : tkK L a = 1) (h : ME L T σ0 s a l W A E n fb σ) (h0 : ¬ tkK L (a + 1) = x → post 0 σ) (h1 : tkK L (a + 1) = x → post 1 σ) : wp_X9_isNext post x σ := by
  obtain ⟨i, e⟩ := me_in1 h
  have hk := tk_is h.1 (pb_name h.1 h.2.2.1.1 ha).1 hx
  unfold wp_X9_isNext
  rw [e]
  exact ⟨i, fun z1 => ⟨i, fun z2 => ⟨Or.inr rfl, h1 (hk.mp ⟨z1, z2⟩)⟩, fun z2 => ⟨Or.inl rfl, h0 (fun w => z2 (hk.mpr w).2)⟩⟩, fun z1 => ⟨Or.inl rfl, h0 (fun w => z1 (hk.mpr w).1)⟩⟩
theorem em_takes {x : Int32} (hx : isSg x) (h : ME L T σ0 s a l W A E n fb σ) (h0 : ¬ tkK L a = x → post 0 σ) (h1 : tkK L a = x → ME L T σ0 s (a + 1) l W A E n fb (wI σ 9 (mI σ 9 + 1)) → post 1 (wI σ 9 (mI σ 9 + 1))) : wp_X9_takes post x σ :=
  em_is hx h (fun q => ⟨fun _ => ⟨Or.inl rfl, h0 q⟩, fun z => absurd rfl z⟩) (fun q => ⟨fun z => absurd z (by decide), fun _ => ⟨Or.inr rfl, h1 q (me_adv h (by rw [q]; exact (sg_ne hx).1) (by rw [q]; exact (sg_ne hx).2.2.2))⟩⟩)
theorem em_want {x : Int32} (hx : isSg x) (h : ME L T σ0 s a l W A E n fb σ) (h0 : ¬ tkK L a = x → ∀ τ, MR σ0 s τ → post 0 τ) (h1 : tkK L a = x → ME L T σ0 s (a + 1) l W A E n fb (wI σ 9 (mI σ 9 + 1)) → post 1 (wI σ 9 (mI σ 9 + 1))) : wp_X9_want post x σ :=
  em_takes hx h (fun q => ⟨fun _ => em_refuse h (fun τ r => ⟨fun _ => ⟨Or.inl rfl, h0 q τ r⟩, fun z => absurd rfl z⟩), fun z => absurd rfl z⟩) (fun q g => ⟨fun z => absurd z (by decide), fun _ => ⟨Or.inr rfl, h1 q g⟩⟩)
theorem em_find {v : Int64} (hs : s < 2) (hN : MNm s n σ) (h0 : nFind n v = none → post (-1) σ) (h1 : ∀ j, nFind n v = some j → j < n.1 → post (nI (400 * (1 - s) + j)) σ) : wp_X9_find post (nI (1 - s)) v σ := by
  obtain ⟨hc, e, hn⟩ := hN
  intro x hx
  have hm : (400 : Int32) * nI (1 - s) = nI (400 * (1 - s)) := pk_mul 400 (1 - s)
  rw [hm] at hx
  have main : ∀ (d j : Nat), j + d = n.1 → nFind n v = nfF n.2.1 v d j → wL_X9_find_7 post (d + 1) (nI (1 - s)) v (nI (400 * (1 - s) + j)) σ := by
    intro d
    induction d with
    | zero =>
      intro j hj hq
      refine ⟨vp_in_nI (by omega) (by decide), fun _ => h0 hq, fun z => absurd ?_ z⟩
      rw [nI_clamp (by omega), e, hm, nI_add]
      exact nI_le (by omega) (by omega)
    | succ d ih =>
      intro j hj hq
      have ej : (nI (400 * (1 - s) + j)).toNatClampNeg = 400 * (1 - s) + j := nI_clamp (by omega)
      refine ⟨vp_in_nI (by omega) (by decide), fun z => absurd z ?_, fun _ => ⟨vp_in_nI (by omega) (by decide), fun z => ?_, fun z => fun y hy => ?_⟩⟩
      · rw [nI_clamp (by omega), e, hm, nI_add]
        exact nI_ge (by omega) (by omega)
      · rw [ej, (hn j (by omega)).1] at z
        exact h1 j (by rw [hq]; exact if_pos z) (by omega)
      · rw [ej, (hn j (by omega)).1] at z
        rw [hy, nI_1]
        exact ih (j + 1) (by omega) (by rw [hq]; exact if_neg z)
  rw [hx]
  exact ⟨n.1 + 1, main n.1 0 (by omega) rfl⟩
theorem me_one (hs : s < 2) (h : ME L T σ0 s a l W A E n fb σ) : (1 : Int32) - mI σ 14 = nI (1 - s) := by rw [h.2.1.1.1]; exact one_s hs
theorem tell_none {v x : Int64} (h : nFind n v = none) : tellS n v x = (n.1 + 1, vp_updL n.2.1 n.1 v, vp_updL n.2.2.1 n.1 x, n.2.2.2) := by unfold tellS; rw [h]; rfl
theorem tell_some {v x : Int64} {j : Nat} (h : nFind n v = some j) : tellS n v x = noteS n true := by unfold tellS; rw [h, noteS_true]; rfl
theorem em_tell {post : MS → Prop} {v x : Int64} {z : Int32} (hs : s < 2) (hc : n.1 < 350) (h : ME L T σ0 s a l W A E n fb σ) (k : ∀ τ, ME L T σ0 s a l W A E (tellS n v x) (fb || (nFind n v).isSome) τ → post τ) : wp_X9_tell post v z x σ := by
  have e := me_one hs h
  have hN := h.2.2.2.2.2.1
  unfold wp_X9_tell
  rw [e]
  refine em_find hs hN (fun hn => ⟨fun _ => ?_, fun q => absurd rfl q⟩) (fun j hj hlt => ⟨fun q => absurd q (nI_ne1 (by omega)), fun _ => em_note (by decide) (fun τ hτ => ?_)⟩)
  · rw [tell_none hn, hn] at k
    have k : ∀ τ, ME L T σ0 s a l W A E (n.1 + 1, vp_updL n.2.1 n.1 v, vp_updL n.2.2.1 n.1 x, n.2.2.2) fb τ → post τ := fun τ g => k τ (by rw [show (none : Option Nat).isSome = false from rfl, Bool.or_false]; exact g)
    unfold wB_X9_tell_21
    rw [e]
    refine ⟨vp_in_nI (by omega) (by decide), fun y hy => ?_⟩
    have hy : y = nI (400 * (1 - s) + n.1) := by
      rw [hy, nI_clamp (by omega), hN.2.1, show (400 : Int32) * nI (1 - s) = nI (400 * (1 - s)) from pk_mul 400 (1 - s), nI_add]
    have hi : vp_in y 800 := by rw [hy]; exact vp_in_nI (by omega) (by decide)
    have ey : y.toNatClampNeg = 400 * (1 - s) + n.1 := by rw [hy, nI_clamp (by omega)]
    have i1 : vp_in (1 - mI σ 14) 2 := by rw [e]; exact vp_in_nI (by omega) (by decide)
    refine em_find hs hN (fun _ => ⟨fun _ => ⟨hi, hi, i1, i1, k _ ?_⟩, fun q => absurd rfl q⟩) (fun j hj => by rw [hn] at hj; cases hj)
    rw [e, nI_clamp (by omega), ey, hN.2.1, nI_1]
    obtain ⟨g1, g2, g3, g4, g5, g6, g7, g8⟩ := h
    have eA15 : mA (wA (wL (wL σ 16 (400 * (1 - s) + n.1) v) 17 (400 * (1 - s) + n.1) x) 15 (1 - s) (nI (n.1 + 1))) 15 = upd (mA σ 15) (1 - s) (nI (n.1 + 1)) := by
      rw [mA_wA, if_pos rfl]; rfl
    have eL16 : mL (wA (wL (wL σ 16 (400 * (1 - s) + n.1) v) 17 (400 * (1 - s) + n.1) x) 15 (1 - s) (nI (n.1 + 1))) 16 = vp_updL (mL σ 16) (400 * (1 - s) + n.1) v := by
      rw [mL_wA, mL_wL, if_neg (by decide), mL_wL, if_pos rfl]
    have eL17 : mL (wA (wL (wL σ 16 (400 * (1 - s) + n.1) v) 17 (400 * (1 - s) + n.1) x) 15 (1 - s) (nI (n.1 + 1))) 17 = vp_updL (mL σ 17) (400 * (1 - s) + n.1) x := by
      rw [mL_wA, mL_wL, if_pos rfl]; rfl
    refine ⟨g1, ⟨⟨g2.1.1, g2.1.2.1, g2.1.2.2.1, g2.1.2.2.2.1, fun q hq => ?_⟩, g2.2.1, g2.2.2.1, ?_, fun i hi => ?_⟩, g3, g4, g5, ⟨by show n.1 + 1 ≤ 350; omega, ?_, fun i hi => ?_⟩, g7, g8⟩
    · rw [eA15]
      by_cases z : q = 1 - s
      · rw [z, pk_us]; exact ⟨n.1 + 1, by omega, rfl⟩
      · rw [pk_un z]; exact g2.1.2.2.2.2 q hq
    · rw [eA15, pk_un (by omega)]; exact g2.2.2.2.1
    · rw [eL16, eL17]
      unfold vp_updL
      rw [if_neg (by omega), if_neg (by omega)]
      exact g2.2.2.2.2 i hi
    · rw [eA15, pk_us]
    · rw [eL16, eL17]
      have hi : i < n.1 + 1 := hi
      show vp_updL (mL σ 16) (400 * (1 - s) + n.1) v (400 * (1 - s) + i) = vp_updL n.2.1 n.1 v i ∧ vp_updL (mL σ 17) (400 * (1 - s) + n.1) x (400 * (1 - s) + i) = vp_updL n.2.2.1 n.1 x i
      unfold vp_updL
      by_cases z : i = n.1
      · rw [if_pos (by omega), if_pos z, if_pos (by omega), if_pos z]; exact ⟨rfl, rfl⟩
      · rw [if_neg (by omega), if_neg z, if_neg (by omega), if_neg z]; exact g6.2.2 i (by omega)
  · have g := me_note h hτ
    rw [tell_some hj, hj] at k
    have k : ∀ τ, ME L T σ0 s a l W A E (noteS n true) true τ → post τ := fun τ g => k τ (by rw [show (some j : Option Nat).isSome = true from rfl, Bool.or_true]; exact g)
    have eτ := me_one hs g
    unfold wB_X9_tell_21
    rw [eτ]
    refine ⟨vp_in_nI (by omega) (by decide), fun y hy => em_find hs g.2.2.2.2.2.1 (fun hn => by rw [hj] at hn; cases hn) (fun j' _ _ => ⟨fun q => absurd q (nI_ne1 (by omega)), fun _ => k τ ?_⟩)⟩
    exact ⟨g.1, g.2.1, g.2.2.1, g.2.2.2.1, g.2.2.2.2.1, by rw [noteS_true]; exact g.2.2.2.2.2.1, g.2.2.2.2.2.2⟩
theorem em_readRegister {x : Int32} {m : Nat} (hx : (x = 114 ∧ m = 15) ∨ (x = 112 ∧ m = 3)) (h : ME L T σ0 s a l W A E n fb σ) (k0 : regS (tkK L) (tkV L) x m a = none → ∀ τ, MR σ0 s τ → post 0 τ) (k1 : ∀ i, regS (tkK L) (tkV L) x m a = some i → i ≤ m → tkK L a = 1 → post 1 (wI (wI σ 25 (nI i)) 9 (mI σ 9 + 1))) : wp_X9_readRegister post x σ := by
  obtain ⟨i9, e9⟩ := me_in h
  obtain ⟨hk1, hv⟩ := tk_12 h.1 h.2.2.1.1 (x := 1) (Or.inl rfl)
  have kbad : regS (tkK L) (tkV L) x m a = none → ∀ x4 x7, wB_X9_readRegister_142 post x4 x7 0 σ := fun q x4 x7 => ⟨fun _ => em_refuse h (fun τ r => ⟨Or.inl rfl, k0 q τ r⟩), fun z => absurd rfl z⟩
  have hreg : tkK L a = 1 → regS (tkK L) (tkV L) x m a = regF x (tkV L a) (m + 1) 0 := fun q => if_pos q
  have hky : ∀ i, i ≤ m → tkV L a = kyC x i → regF x (tkV L a) (m + 1) 0 = some i := by
    intro i hi e
    rw [e]
    rcases hx with ⟨e1, e2⟩ | ⟨e1, e2⟩
    · rw [e1, e2]; exact (rg_114 i (by omega)).1
    · rw [e1, e2]; exact (rg_112 i (by omega)).1
  unfold wp_X9_readRegister
  rw [e9]
  refine ⟨i9, fun v ev low el mid em => ?_⟩
  have fin : ∀ x6 t0 : Int32, (x6 = 0 ↔ ¬ rgOne x v) → (t0 = 0 ↔ ¬ rgTwo x v) → wB_X9_readRegister_100 post x low x6 t0 σ := by
    intro x6 t0 h6 ht
    unfold wB_X9_readRegister_100
    rw [e9]
    refine ⟨i9, fun q => ?_, fun q => kbad (by unfold regS; exact if_neg (fun z => q (hk1.mpr z))) _ _⟩
    have q1 := hk1.mp q
    have evV : v = tkV L a := by rw [ev]; exact hv q1
    have kgood : ∀ i, i ≤ m → tkV L a = kyC x i → (t0 = 0 → low = nI i) → (¬ t0 = 0 → 10 + low = nI i) → wB_X9_readRegister_137 post low t0 σ := fun i hi e c1 c2 =>
      ⟨fun z => absurd z (by decide), fun _ => ⟨fun z => by rw [c1 z]; exact k1 i (by rw [hreg q1]; exact hky i hi e) hi q1, fun z => by rw [c2 z]; exact k1 i (by rw [hreg q1]; exact hky i hi e) hi q1⟩⟩
    have ktwo : rgTwo x v → wB_X9_readRegister_137 post low t0 σ := fun w => by
      obtain ⟨w0, w1, w2, w3, w4⟩ := w
      rcases hx with ⟨e1, e2⟩ | ⟨e1, e2⟩
      · rw [e1] at w1
        obtain ⟨i, hi, ei, eli⟩ := reg_two w1 w2 w3 w4
        refine kgood i (by omega) (by rw [← evV, e1]; exact ei) (fun z => absurd ⟨w0, by rw [e1]; exact w1, w2, w3, w4⟩ (ht.mp z)) (fun _ => by rw [el]; exact eli)
      · rw [e1] at w0; exact absurd w0 (by decide)
    have k132 : ¬ rgTwo x v → ¬ (rgOne x v ∧ (x = 114 ∨ low < 4)) → regS (tkK L) (tkV L) x m a = none := by
      intro n2 n1
      rw [hreg q1]
      cases hr : regF x (tkV L a) (m + 1) 0 with
      | none => rfl
      | some i =>
        exfalso
        obtain ⟨ei, hi⟩ := regF_some _ _ hr
        rw [← evV] at ei
        rcases hx with ⟨e1, e2⟩ | ⟨e1, e2⟩
        · have := (rg_114 i (by omega)).2.1
          rw [e1] at ei n1 n2
          rw [← ei] at this
          exact this.elim (fun w => n1 ⟨w, Or.inl rfl⟩) n2
        · have := (rg_112 i (by omega)).2
          rw [e1] at ei n1
          rw [← ei] at this
          exact n1 ⟨this.1, Or.inr (by rw [el]; exact this.2)⟩
    have kone : rgOne x v → (x = 114 ∨ low < 4) → wB_X9_readRegister_137 post low t0 σ := by
      intro w c
      obtain ⟨i, hi, ei, eli⟩ := reg_one w.1 w.2.1 w.2.2
      by_cases w2 : rgTwo x v
      · exact ktwo w2
      · refine kgood i ?_ (by rw [← evV]; exact ei) (fun _ => by rw [el]; exact eli) (fun z => absurd (ht.mpr w2) z)
        rcases hx with ⟨e1, e2⟩ | ⟨e1, e2⟩
        · omega
        · rcases c with c | c
          · rw [e1] at c; exact absurd c (by decide)
          · rw [el, eli] at c
            have := (nI_ltI (a := i) (b := 4) (by omega) (by decide)).mp c
            omega
    have k132' : ¬ (rgOne x v ∧ (x = 114 ∨ low < 4)) → wB_X9_readRegister_132 post low t0 σ := fun n1 => ⟨fun z => kbad (k132 (ht.mp z) n1) _ _, fun z => ktwo (by
      by_cases w : rgTwo x v
      · exact w
      · exact absurd (ht.mpr w) z)⟩
    refine ⟨fun z => k132' (fun w => h6.mp z w.1), fun z => ⟨fun c => kone ?_ (Or.inl c), fun c => ⟨fun c2 => kone ?_ (Or.inr c2), fun c2 => k132' (fun w => w.2.elim c c2)⟩⟩⟩
    · by_cases w : rgOne x v
      · exact w
      · exact absurd (h6.mpr w) z
    · by_cases w : rgOne x v
      · exact w
      · exact absurd (h6.mpr w) z
  have k59 : ∀ x6 : Int32, (x6 = 0 ↔ ¬ rgOne x v) → wB_X9_readRegister_59 post x v low mid x6 σ := by
    intro x6 h6
    have no : ¬ rgTwo x v → wB_X9_readRegister_99 post x low x6 σ := fun w => fin x6 0 h6 ⟨fun _ => w, fun _ => rfl⟩
    refine ⟨fun c => ⟨fun c1 => ⟨fun c2 => ⟨fun c3 => no (fun w => w.2.2.2.1 (by rw [← el]; exact c3)), fun c3 => ⟨fun c4 => no (fun w => w.2.2.2.2 (by rw [← el]; exact c4)), fun c4 => fin x6 1 h6 ⟨fun z => absurd z (by decide), fun z => absurd ⟨c, c1, by rw [← em]; exact c2, by rw [← el]; exact c3, by rw [← el]; exact c4⟩ z⟩⟩⟩, fun c2 => no (fun w => c2 (by rw [em]; exact w.2.2.1))⟩, fun c1 => no (fun w => c1 w.2.1)⟩, fun c => no (fun w => c w.1)⟩
  have no1 : ¬ rgOne x v → wB_X9_readRegister_58 post x v low mid σ := fun w => k59 0 ⟨fun _ => w, fun _ => rfl⟩
  refine ⟨fun c1 => ⟨fun c2 => no1 (fun w => w.2.1 (by rw [← el]; exact c2)), fun c2 => ⟨fun c3 => no1 (fun w => w.2.2 (by rw [← el]; exact c3)), fun c3 => k59 1 ⟨fun z => absurd z (by decide), fun z => absurd ⟨c1, by rw [← el]; exact c2, by rw [← el]; exact c3⟩ z⟩⟩⟩, fun c1 => no1 (fun w => c1 w.1)⟩
end MPA
