/-! the class's parser makes what the TOKENS mean -/
def XV (L : List Tok) (σ : XS) : Prop := L.length ≤ 700 ∧ xI σ 4 = nI (L.length + 1) ∧ ∀ i, i ≤ L.length → xA σ 1 i = tkK L i ∧ (¬ tkK L i = 3 → xL σ 0 i = tkV L i)
def XX (σ : XS) : Prop := (∀ i e, xQ σ 0 i = some e → e < 53) ∧ ∀ i, xA σ 3 i = (-1) ∨ ∃ m, m ≤ 1000000 ∧ xA σ 3 i = nI m
def XFr (σ0 σ : XS) : Prop := xI σ 0 = xI σ0 0 ∧ xI σ 7 = xI σ0 7 ∧ xI σ 8 = xI σ0 8 ∧ xA σ 0 = xA σ0 0 ∧ xA σ 4 = xA σ0 4 ∧ xA σ 5 = xA σ0 5 ∧ xL σ 4 = xL σ0 4 ∧ xL σ 5 = xL σ0 5 ∧ xL σ 6 = xL σ0 6 ∧ xQ σ 1 = xQ σ0 1 ∧ XX σ
def XWd (l : Nat) (W : Nat → Int64) (A : Nat → Option Nat) (E : Nat → Nat) (σ : XS) : Prop := ∀ k, k < l → xL σ 3 k = W k ∧ xA σ 3 k = amI (A k) ∧ xQ σ 0 k = some (E k) ∧ E k < 53
def XNm (n : NS) (σ : XS) : Prop := n.1 ≤ 350 ∧ xI σ 6 = nI n.1 ∧ ∀ i, i < n.1 → xL σ 1 i = n.2.1 i ∧ xL σ 2 i = n.2.2.1 i
def XE (L : List Tok) (σ0 : XS) (a l : Nat) (W : Nat → Int64) (A : Nat → Option Nat) (E : Nat → Nat) (n : NS) (σ : XS) : Prop := XV L σ ∧ XFr σ0 σ ∧ (a ≤ L.length ∧ xI σ 5 = nI a) ∧ (l ≤ 64 ∧ xI σ 1 = nI l) ∧ XWd l W A E σ ∧ XNm n σ ∧ (xI σ 2 = 0 ↔ n.2.2.2 = false)
/-- refused: nothing but that a FAULT is told -/
def XR (σ0 : XS) (σ : XS) : Prop := XFr σ0 σ ∧ ¬ xI σ 2 = 0
theorem tk_lt {L : List Tok} {a : Nat} (h : ¬ tkK L a = 0) : a < L.length := by
  rcases Nat.lt_or_ge a L.length with q | q
  · exact q
  · exfalso
    apply h
    unfold tkK
    rw [getD_ge L q]
section XPE
variable {L : List Tok} {σ0 σ : XS} {a l : Nat} {W : Nat → Int64} {A : Nat → Option Nat} {E : Nat → Nat} {n : NS} {post : Int32 → XS → Prop}
theorem xe_at (h : XE L σ0 a l W A E n σ) : xI σ 5 = nI a ∧ a ≤ L.length ∧ L.length ≤ 700 := ⟨h.2.2.1.2, h.2.2.1.1, h.1.1⟩
theorem xe_kind (h : XE L σ0 a l W A E n σ) (k : post (tkK L a) σ) : wp_X6_kind post σ := by
  obtain ⟨e5, ha, hL⟩ := xe_at h
  refine ⟨fun z => absurd z ?_, fun _ => ⟨by rw [e5]; exact vp_in_nI (by omega) (by decide), ?_⟩⟩
  · rw [h.1.2.1, e5]; exact nI_ge (by omega) (by omega)
  · show post (xA σ 1 (xI σ 5).toNatClampNeg) σ
    rw [e5, nI_clamp (by omega), (h.1.2.2 a ha).1]
    exact k
theorem xe_follower (h : XE L σ0 a l W A E n σ) (k : post (tkK L (a + 1)) σ) : wp_X6_follower post σ := by
  obtain ⟨e5, ha, hL⟩ := xe_at h
  refine ⟨fun z => ?_, fun z => ?_⟩
  · rw [h.1.2.1, e5, nI_1] at z
    have hz : L.length ≤ a := by
      have := (nI_leI (by omega) (by omega)).mp z
      omega
    have : tkK L (a + 1) = 0 := by unfold tkK; rw [getD_ge L (by omega)]
    rw [this] at k
    exact k
  · rw [h.1.2.1, e5, nI_1] at z
    have hz := nI_nle' (by omega) z
    refine ⟨by rw [e5, nI_1]; exact vp_in_nI (by omega) (by decide), ?_⟩
    show post (xA σ 1 (xI σ 5 + 1).toNatClampNeg) σ
    rw [e5, nI_1, nI_clamp (by omega), (h.1.2.2 (a + 1) (by omega)).1]
    exact k
theorem xe_place (h : XE L σ0 a l W A E n σ) (k : ∀ r, post r σ) : wp_X6_place post σ := by
  obtain ⟨e5, ha, hL⟩ := xe_at h
  exact ⟨fun _ => k _, fun _ => ⟨by rw [e5]; exact vp_in_nI (by omega) (by decide), k _⟩⟩
theorem xe_value {post : Int64 → XS → Prop} (h : XE L σ0 a l W A E n σ) (h3 : ¬ tkK L a = 3) (k : post (tkV L a) σ) : wp_X6_value post σ := by
  obtain ⟨e5, ha, hL⟩ := xe_at h
  refine ⟨fun z => absurd z ?_, fun _ => ⟨by rw [e5]; exact vp_in_nI (by omega) (by decide), ?_⟩⟩
  · rw [h.1.2.1, e5]; exact nI_ge (by omega) (by omega)
  · show post (xL σ 0 (xI σ 5).toNatClampNeg) σ
    rw [e5, nI_clamp (by omega), (h.1.2.2 a ha).2 h3]
    exact k
theorem xe_go {v : Int32} {b : Nat} (h : XE L σ0 a l W A E n σ) (hb : b ≤ L.length) (hv : v = nI b) : XE L σ0 b l W A E n (yI σ 5 v) := ⟨h.1, h.2.1, ⟨hb, hv⟩, h.2.2.2⟩
theorem xe_advance {post : XS → Prop} (h : XE L σ0 a l W A E n σ) (hk : ¬ tkK L a = 0) (k : ∀ τ, XE L σ0 (a + 1) l W A E n τ → post τ) : wp_X6_advance post σ := by
  have := tk_lt hk
  exact k _ (xe_go h (by omega) (by rw [(xe_at h).1, nI_1]))
theorem xe_refuse (h : XE L σ0 a l W A E n σ) (k : ∀ τ, XR σ0 τ → post 0 τ) : wp_X3_refuse post σ := by
  obtain ⟨e5, ha, hL⟩ := xe_at h
  have hr : ∀ r, XR σ0 (yI (yI σ 2 1) 3 r) := fun r => ⟨h.2.1, by show ¬ (1 : Int32) = 0; decide⟩
  exact ⟨fun _ => k _ (hr _), fun _ => ⟨by show vp_in (xI σ 5) 701; rw [e5]; exact vp_in_nI (by omega) (by decide), k _ (hr _)⟩⟩
theorem noteS_true (n : NS) : noteS n true = (n.1, n.2.1, n.2.2.1, true) := by unfold noteS; rw [Bool.or_true]
theorem noteS_false (n : NS) : noteS n false = n := by
  obtain ⟨a, b, c, d⟩ := n
  unfold noteS
  rw [Bool.or_false]
theorem xe_note {post : XS → Prop} {x y : Int32} (hx : ¬ x = 0) (h : XE L σ0 a l W A E n σ) (k : ∀ τ, XE L σ0 a l W A E (noteS n true) τ → post τ) : wp_X3_noteFault post x y σ := by
  rw [noteS_true] at k
  have h1 : XE L σ0 a l W A E (n.1, n.2.1, n.2.2.1, true) (yI (yI σ 2 x) 3 y) := ⟨h.1, h.2.1, h.2.2.1, h.2.2.2.1, h.2.2.2.2.1, h.2.2.2.2.2.1, ⟨fun z => absurd z hx, fun z => by cases z⟩⟩
  refine ⟨fun _ => k _ h1, fun q => ⟨fun _ => k _ ⟨h.1, h.2.1, h.2.2.1, h.2.2.2.1, h.2.2.2.2.1, h.2.2.2.2.2.1, ⟨fun z => absurd z q, fun z => by cases z⟩⟩, fun _ => k _ h1⟩⟩
theorem xe_find {v : Int64} (h : XE L σ0 a l W A E n σ) (h0 : nFind n v = none → post (-1) σ) (h1 : ∀ j, nFind n v = some j → j < n.1 → post (nI j) σ) : wp_X1_find_told post v σ := by
  obtain ⟨hc, e6, hN⟩ := h.2.2.2.2.2.1
  have main : ∀ (d j : Nat), j + d = n.1 → nFind n v = nfF n.2.1 v d j → wL_X1_find_told_2 post (d + 1) v (nI j) σ := by
    intro d
    induction d with
    | zero => intro j hj hq; exact ⟨fun _ => h0 hq, fun z => absurd (by rw [e6]; exact nI_le (by omega) (by omega)) z⟩
    | succ d ih =>
      intro j hj hq
      have ej : (nI j).toNatClampNeg = j := nI_clamp (by omega)
      refine ⟨fun z => absurd z (by rw [e6]; exact nI_ge (by omega) (by omega)), fun _ => ⟨vp_in_nI (by omega) (by decide), fun e => ?_, fun e => fun x hx => ?_⟩⟩
      · rw [ej, (hN j (by omega)).1] at e
        exact h1 j (by rw [hq]; exact if_pos e) (by omega)
      · rw [ej, (hN j (by omega)).1] at e
        rw [hx, nI_1]
        exact ih (j + 1) (by omega) (by rw [hq]; exact if_neg e)
  exact ⟨n.1 + 1, main n.1 0 (by omega) rfl⟩
theorem xe_tellName {post : XS → Prop} {v x : Int64} {z : Int32} (h : XE L σ0 a l W A E n σ) (hc : n.1 < 350) (k : ∀ τ, XE L σ0 a l W A E (tellS n v x) τ → post τ) : wp_X3_tellName post v z x σ := by
  obtain ⟨hc', e6, hN⟩ := id h.2.2.2.2.2.1
  have hv : vp_in (xI σ 6) 350 := by rw [e6]; exact vp_in_nI hc (by decide)
  have ec : (xI σ 6).toNatClampNeg = n.1 := by rw [e6, nI_clamp (by omega)]
  refine xe_find h (fun hn => ⟨fun _ => ⟨fun _ => ⟨hv, hv, fun q => absurd q (by decide), fun _ => k _ ?_⟩, fun q => absurd (by rw [e6]; exact nI_lt (b := 350) hc (by decide)) q⟩, fun q => absurd rfl q⟩) (fun j hj hlt => ⟨fun q => absurd q (nI_ne1 (by omega)), fun _ => ⟨fun _ => xe_note (by decide) h (fun τ g => k τ ?_), fun q => absurd rfl q⟩⟩)
  · have et : tellS n v x = (n.1 + 1, vp_updL n.2.1 n.1 v, vp_updL n.2.2.1 n.1 x, n.2.2.2) := by unfold tellS; rw [hn]; rfl
    rw [et, ec]
    refine ⟨?_, ?_, h.2.2.1, h.2.2.2.1, ?_, ⟨by show n.1 + 1 ≤ 350; omega, by show xI σ 6 + 1 = _; rw [e6, nI_1], fun i hi => ?_⟩, h.2.2.2.2.2.2⟩
    · exact h.1
    · exact h.2.1
    · exact h.2.2.2.2.1
    · have e1 : xL (yI (yL (yL σ 1 n.1 v) 2 n.1 x) 6 (xI σ 6 + 1)) 1 = vp_updL (xL σ 1) n.1 v := by
        rw [xL_yI, xL_yL, if_neg (by decide), xL_yL, if_pos rfl]
      have e2 : xL (yI (yL (yL σ 1 n.1 v) 2 n.1 x) 6 (xI σ 6 + 1)) 2 = vp_updL (xL σ 2) n.1 x := by
        rw [xL_yI, xL_yL, if_pos rfl]; rfl
      rw [e1, e2]
      show vp_updL (xL σ 1) n.1 v i = vp_updL n.2.1 n.1 v i ∧ vp_updL (xL σ 2) n.1 x i = vp_updL n.2.2.1 n.1 x i
      unfold vp_updL
      by_cases q : i = n.1
      · rw [if_pos q, if_pos q, if_pos q, if_pos q]; exact ⟨rfl, rfl⟩
      · rw [if_neg q, if_neg q, if_neg q, if_neg q]; exact hN i (by have : i < n.1 + 1 := hi; omega)
  · have et : tellS n v x = noteS n true := by unfold tellS; rw [hj, noteS_true]; rfl
    rw [et]; exact g
theorem amA_le (K : Nat → Int32) (s : Nat) : s ≤ amA K s ∧ amA K s ≤ s + 1 := by
  unfold amA
  split <;> omega
theorem xe_valueOfName {post : Int64 → XS → Prop} (h : XE L σ0 a l W A E n σ) (h1 : tkK L a = 1) (k0 : nFind n (tkV L a) = none → ∀ τ, XE L σ0 a l W A E (noteS n true) τ → post 0 τ) (ks : ∀ j, nFind n (tkV L a) = some j → post (n.2.2.1 j) σ) : wp_X3_valueOfName post σ := by
  refine xe_value h (by rw [h1]; decide) (xe_find h (fun hn => ⟨fun _ => xe_place h (fun p => xe_note (by decide) h (fun τ g => k0 hn τ g)), fun q => absurd rfl q⟩) (fun j hj hlt => ⟨fun q => absurd q (nI_ne1 (by have := h.2.2.2.2.2.1.1; omega)), fun _ => ⟨vp_in_nI (by have := h.2.2.2.2.2.1.1; omega) (by decide), ?_⟩⟩))
  rw [nI_clamp (by have := h.2.2.2.2.2.1.1; omega), (h.2.2.2.2.2.1.2.2 j hlt).2]
  exact ks j hj
theorem leastC {post : Int32 → Prop} {c : Int32} (h : post (if c = 110 then (-2147483648) else 0)) : wp_X2_leastOf post c := ite_wp h
/-- the bounds of n and t -/
theorem mostNT {post : Int32 → Prop} {c : Int32} (hc : c = 110 ∨ c = 116) (h : post (if c = 116 then 63 else 2147483647)) : wp_X2_mostOf post c := by
  refine spx_isRegister ?_
  rw [bI_neg (by rcases hc with e | e <;> rw [e] <;> decide)]
  refine ⟨fun _ => spx_isPredicate ?_, fun q => absurd rfl q⟩
  rw [bI_neg (by rcases hc with e | e <;> rw [e] <;> decide)]
  exact ⟨fun _ => ite_wp h, fun q => absurd rfl q⟩
theorem noteS_or (n : NS) (b c : Bool) : noteS (noteS n b) c = noteS n (b || c) := by
  unfold noteS
  rw [Bool.or_assoc]
theorem xe_amountAt {post : Int64 → XS → Prop} {c : Int32} {s : Nat} (hc : c = 110 ∨ c = 116) (hs : s ≤ L.length) (hK : tkK L (amA (tkK L) s) = 1 ∨ tkK L (amA (tkK L) s) = 2) (h : XE L σ0 a l W A E n σ) (k : ∀ τ, XE L σ0 (amA (tkK L) s + 1) l W A E (noteS n (amBad (tkK L) (tkV L) (decide (c = 116)) n s)) τ → post (amVal (tkK L) (tkV L) n s) τ) : wp_X3_amountAt post (nI s) c σ := by
  have hL := h.1.1
  have g0 : XE L σ0 s l W A E n (yI σ 5 (nI s)) := xe_go h hs rfl
  have hne : ¬ tkK L (amA (tkK L) s) = 0 := by rcases hK with e | e <;> rw [e] <;> decide
  have hlt := tk_lt hne
  -- the bounds, then the end
  have k91 : ∀ (m : NS) (x3 : Int32) (v : Int64) τ, XE L σ0 (amA (tkK L) s + 1) l W A E m τ → (∀ τ, XE L σ0 (amA (tkK L) s + 1) l W A E (noteS m (!(inR (decide (c = 116)) v))) τ → post v τ) → wB_X3_amountAt_91 post c x3 v τ := by
    intro m x3 v τ g kk
    have k113 : inR (decide (c = 116)) v = false → wB_X3_amountAt_113 post x3 v τ := fun e => xe_note (by decide) g (fun τ g => kk τ (by rw [e]; exact g))
    have kok : inR (decide (c = 116)) v = true → wB_X3_amountAt_119 post v τ := fun e => kk τ (by rw [e]; show XE L σ0 _ l W A E (noteS m false) τ; rw [noteS_false]; exact g)
    refine leastC ?_
    rcases hc with e | e
    · rw [if_pos e]
      have hd : decide (c = 116) = false := decide_eq_false (by rw [e]; decide)
      rw [hd] at k113 kok
      refine ⟨fun q => k113 ?_, fun q => mostNT (Or.inl e) ?_⟩
      · show decide (¬ v < (-2147483648) ∧ v ≤ 2147483647) = false
        exact decide_eq_false (fun z => z.1 q)
      · rw [if_neg (by rw [e]; decide)]
        refine ⟨fun q2 => kok ?_, fun q2 => k113 ?_⟩
        · show decide (¬ v < (-2147483648) ∧ v ≤ 2147483647) = true
          exact decide_eq_true ⟨q, q2⟩
        · show decide (¬ v < (-2147483648) ∧ v ≤ 2147483647) = false
          exact decide_eq_false (fun z => q2 z.2)
    · rw [if_neg (by rw [e]; decide)]
      have hd : decide (c = 116) = true := decide_eq_true e
      rw [hd] at k113 kok
      refine ⟨fun q => k113 ?_, fun q => mostNT (Or.inr e) ?_⟩
      · show decide (¬ v < 0 ∧ v ≤ 63) = false
        exact decide_eq_false (fun z => z.1 q)
      · rw [if_pos e]
        refine ⟨fun q2 => kok ?_, fun q2 => k113 ?_⟩
        · show decide (¬ v < 0 ∧ v ≤ 63) = true
          exact decide_eq_true ⟨q, q2⟩
        · show decide (¬ v < 0 ∧ v ≤ 63) = false
          exact decide_eq_false (fun z => q2 z.2)
  -- the value, with what is known of it
  have k72 : ∀ (x3 x4 : Int32) (o : Option Int64) τ, amR (tkK L) (tkV L) n s = o → (x4 = 0 ↔ ¬ tkK L s = 45) → XE L σ0 (amA (tkK L) s) l W A E (noteS n o.isNone) τ → wB_X3_amountAt_72 post c x3 x4 (o.getD 0) τ := by
    intro x3 x4 o τ ho h4 g
    have eb : amBad (tkK L) (tkV L) (decide (c = 116)) n s = (o.isNone || !(inR (decide (c = 116)) (amVal (tkK L) (tkV L) n s))) := by unfold amBad; rw [ho]
    rw [eb, ← noteS_or] at k
    refine xe_advance g hne (fun τ g => ⟨fun q => ?_, fun q => fun u hu => ?_⟩)
    · have ev : amVal (tkK L) (tkV L) n s = o.getD 0 := by unfold amVal; rw [if_neg (h4.mp q), ho]
      rw [ev] at k
      exact k91 _ x3 _ τ g k
    · have ev : amVal (tkK L) (tkV L) n s = u := by
        rw [hu]
        unfold amVal
        rw [if_pos (by
          by_cases z : tkK L s = 45
          · exact z
          · exact absurd (h4.mpr z) q), ho]
      rw [ev] at k
      exact k91 _ x3 u τ g k
  have k47 : ∀ (x3 x4 : Int32) τ, (x4 = 0 ↔ ¬ tkK L s = 45) → XE L σ0 (amA (tkK L) s) l W A E n τ → wB_X3_amountAt_47 post c x3 x4 τ := by
    intro x3 x4 τ h4 g
    refine xe_kind g ⟨fun q => ?_, fun q => ?_⟩
    · refine xe_valueOfName g q (fun hn τ g => k72 x3 x4 none τ (by unfold amR; rw [if_pos q, hn]; rfl) h4 g) (fun j hj => k72 x3 x4 (some (n.2.2.1 j)) τ (by unfold amR; rw [if_pos q, hj]; rfl) h4 (by show XE L σ0 _ l W A E (noteS n false) τ; rw [noteS_false]; exact g))
    · exact xe_value g (by rcases hK with e | e <;> rw [e] <;> decide) (k72 x3 x4 (some (tkV L (amA (tkK L) s))) τ (by unfold amR; rw [if_neg q]) h4 (by show XE L σ0 _ l W A E (noteS n false) τ; rw [noteS_false]; exact g))
  refine ⟨fun q => absurd q (nI_pos (by omega)), fun _ => xe_place g0 (fun p => xe_kind g0 ⟨fun q => ?_, fun q => ?_⟩)⟩
  · refine ⟨fun z => absurd z (by decide), fun _ => xe_advance g0 (by rw [q]; decide) (fun τ g => k47 p 1 τ ⟨fun z => absurd z (by decide), fun z => absurd q z⟩ ?_)⟩
    have : amA (tkK L) s = s + 1 := if_pos q
    rw [this]; exact g
  · refine ⟨fun _ => k47 p 0 _ ⟨fun _ => q, fun _ => rfl⟩ ?_, fun z => absurd rfl z⟩
    have : amA (tkK L) s = s := if_neg q
    rw [this]; exact g0
end XPE
