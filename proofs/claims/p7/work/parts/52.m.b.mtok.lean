/-! the reference's TOKENS are these, as far as the first that is none -/
def kM (k : Int32) : Int32 := if k = 1 then 1 else if k = 2 then 2 else if k = 3 then 4 else 3
def corr (L : List Tok) (σ : MS) (i : Nat) : Prop := mA σ 6 i = kM (tkK L i) ∧ (tkK L i = 1 ∨ tkK L i = 2 → mL σ 8 i = tkV L i) ∧ (kM (tkK L i) = 3 → mL σ 8 i = (tkK L i).toInt64)
def TKM (L : List Tok) (σ : MS) : Prop := mI σ 5 = nI L.length ∧ ∀ i, i < L.length → corr L σ i
def MSame (σ0 σ : MS) : Prop := (∀ k, k ≠ 5 → mI σ k = mI σ0 k) ∧ (∀ k, mJ σ k = mJ σ0 k) ∧ (∀ k, k ≠ 6 → k ≠ 7 → mA σ k = mA σ0 k) ∧ ∀ k, k ≠ 8 → mL σ k = mL σ0 k
theorem sp_isSign {post : Int32 → Prop} {x : Int32} (h : post (bI (isSg x))) : wp_X9_isSign post x := by
  have y : isSg x → isB 1 ∧ post 1 := fun q => ⟨Or.inr rfl, by rw [bI_pos q] at h; exact h⟩
  exact ⟨fun c => y (Or.inl c), fun n1 => ⟨fun c => y (Or.inr (Or.inl c)), fun n2 => ⟨fun c => y (Or.inr (Or.inr (Or.inl c))), fun n3 => ⟨fun c => y (Or.inr (Or.inr (Or.inr (Or.inl c)))), fun n4 => ⟨fun c => y (Or.inr (Or.inr (Or.inr (Or.inr (Or.inl c))))), fun n5 => ⟨fun c => y (Or.inr (Or.inr (Or.inr (Or.inr (Or.inr (Or.inl c)))))), fun n6 => ⟨fun c => y (Or.inr (Or.inr (Or.inr (Or.inr (Or.inr (Or.inr (Or.inl c))))))), fun n7 => ⟨fun c => y (Or.inr (Or.inr (Or.inr (Or.inr (Or.inr (Or.inr (Or.inr (Or.inl c)))))))), fun n8 => ⟨fun c => y (Or.inr (Or.inr (Or.inr (Or.inr (Or.inr (Or.inr (Or.inr (Or.inr (Or.inl c))))))))), fun n9 => ⟨fun c => y (Or.inr (Or.inr (Or.inr (Or.inr (Or.inr (Or.inr (Or.inr (Or.inr (Or.inr c))))))))), fun n10 => ⟨Or.inl rfl, by
    rw [bI_neg (fun q => by
      rcases q with c | c | c | c | c | c | c | c | c | c
      · exact n1 c
      · exact n2 c
      · exact n3 c
      · exact n4 c
      · exact n5 c
      · exact n6 c
      · exact n7 c
      · exact n8 c
      · exact n9 c
      · exact n10 c)] at h
    exact h⟩⟩⟩⟩⟩⟩⟩⟩⟩⟩⟩
theorem dig_eq {c : Int32} (h : isDg c) (v : Int64) : ((10 * v) + c.toInt64) - 48 = v * 10 + (c - 48).toInt64 := by
  have h0 : ¬ c < 0 := fun z => h.1 (by
    rw [Int32.lt_iff_toInt_lt] at z ⊢
    have e0 : (0 : Int32).toInt = 0 := rfl
    have e1 : (48 : Int32).toInt = 48 := rfl
    omega)
  obtain ⟨m, hm, rfl⟩ := nI_of h0
  have h48 : 48 ≤ m := by
    rcases Nat.lt_or_ge m 48 with q | q
    · exact absurd (nI_lt q (by decide)) h.1
    · exact q
  rw [nI_l hm, show nI m - 48 = nI (m - 48) from pk_sub (b := 48) h48, nI_l (by omega), ← lN_sub h48, Int64.mul_comm, show (48 : Int64) = lN 48 from rfl, Int64.sub_eq_add_neg, Int64.sub_eq_add_neg, Int64.add_assoc]
theorem kM_sg {c : Int32} (h : isSg c) : kM c = 3 ∧ ¬ c = 1 ∧ ¬ c = 2 ∧ ¬ c = 3 := by
  rcases h with e | e | e | e | e | e | e | e | e | e <;> rw [e] <;> decide
section MTX
variable {σ0 σ : MS} {t : Nat} {L : List Tok}
theorem corr_app {x : Tok} {i : Nat} (hi : i < L.length) : corr (L ++ [x]) σ i ↔ corr L σ i := by
  unfold corr tkK tkV
  rw [getD_lt L x hi]
theorem spm_token {post : MS → Prop} {x y : Int32} {v : Int64} {k : Int32} {u : Int64} (hS : MSame σ0 σ) (h : TKM L σ) (hL : L.length ≤ 700) (hx : x = kM k) (hv : k = 1 ∨ k = 2 → v = u) (hs : kM k = 3 → v = k.toInt64) (kk : ∀ τ, MSame σ0 τ → TKM (L ++ [(k, u)]) τ → post τ) : wp_X9_token post x y v σ := by
  have e5 := h.1
  have i5 : vp_in (mI σ 5) 702 := by rw [e5]; exact vp_in_nI (by omega) (by decide)
  have ec : (mI σ 5).toNatClampNeg = L.length := by rw [e5, nI_clamp (by omega)]
  refine ⟨i5, i5, i5, ?_⟩
  rw [ec]
  refine kk _ ⟨fun j h5 => ?_, fun j => ?_, fun j h6 h7 => ?_, fun j h8 => ?_⟩ ⟨?_, fun i hi => ?_⟩
  · rw [mI_wI, if_neg h5, mI_wL, mI_wA, mI_wA]; exact hS.1 j h5
  · rw [mJ_wI, mJ_wL, mJ_wA, mJ_wA]; exact hS.2.1 j
  · rw [mA_wI, mA_wL, mA_wA, if_neg h7, mA_wA, if_neg h6]; exact hS.2.2.1 j h6 h7
  · rw [mL_wI, mL_wL, if_neg h8, mL_wA, mL_wA]; exact hS.2.2.2 j h8
  · show mI σ 5 + 1 = _
    rw [e5, nI_1, List.length_append]; rfl
  · have eA : mA (wI (wL (wA (wA σ 6 L.length x) 7 L.length y) 8 L.length v) 5 (mI σ 5 + 1)) 6 = upd (mA σ 6) L.length x := by
      rw [mA_wI, mA_wL, mA_wA, if_neg (by decide), mA_wA, if_pos rfl]
    have eL : mL (wI (wL (wA (wA σ 6 L.length x) 7 L.length y) 8 L.length v) 5 (mI σ 5 + 1)) 8 = vp_updL (mL σ 8) L.length v := by
      rw [mL_wI, mL_wL, if_pos rfl, mL_wA, mL_wA]
    have hi : i < L.length + 1 := by rw [List.length_append] at hi; exact hi
    unfold corr
    rw [eA, eL]
    unfold tkK tkV
    by_cases e : i = L.length
    · subst e
      rw [getD_eq, pk_us]
      unfold vp_updL
      rw [if_pos rfl]
      exact ⟨hx, hv, hs⟩
    · rw [getD_lt L _ (by omega), pk_un e]
      unfold vp_updL
      rw [if_neg e]
      exact h.2 i (by omega)
variable {f : Nat → Int32}
theorem spm_tokenize {post : MS → Prop} (ht : t ≤ 700) (h0 : mI σ 2 = nI t) (hf : ∀ i, i < t → mA σ 1 i = f i) (k : ∀ T τ, T ≤ 700 → T ≤ (toks f t).length → MSame σ τ → (∀ i, i < T → corr (toks f t) τ i) → mA τ 6 T = 0 → (T = (toks f t).length ∨ (0 < T ∧ tkK (toks f t) (T - 1) = 3)) → (∀ i, i + 1 < T → ¬ tkK (toks f t) i = 3) → post τ) : wp_X9_tokenize post σ := by
  have k289 : ∀ L τ, L.length ≤ 700 → (∃ r, L ++ r = toks f t ∧ (r = [] ∨ (0 < L.length ∧ tkK L (L.length - 1) = 3))) → (∀ i, i + 1 < L.length → ¬ tkK L i = 3) → MSame σ τ → TKM L τ → wB_X9_tokenize_289 post τ := by
    intro L τ hL hr hno hS h
    obtain ⟨r, he, hr⟩ := hr
    have hg : ∀ i, i < L.length → (toks f t).getD i (0, 0) = L.getD i (0, 0) := fun i hi => by
      rw [← he, List.getD_eq_getElem?_getD, List.getD_eq_getElem?_getD, List.getElem?_append_left hi]
    have e5 := h.1
    have i5 : vp_in (mI τ 5) 702 := by rw [e5]; exact vp_in_nI (by omega) (by decide)
    have ec : (mI τ 5).toNatClampNeg = L.length := by rw [e5, nI_clamp (by omega)]
    refine ⟨i5, i5, i5, ?_⟩
    rw [ec]
    refine k L.length _ hL (by rw [← he, List.length_append]; omega) ⟨fun j h5 => ?_, fun j => ?_, fun j h6 h7 => ?_, fun j h8 => ?_⟩ (fun i hi => ?_) ?_ ?_ (fun i hi => ?_)
    · rw [mI_wI, if_neg h5, mI_wL, mI_wA, mI_wA]; exact hS.1 j h5
    · rw [mJ_wI, mJ_wL, mJ_wA, mJ_wA]; exact hS.2.1 j
    · rw [mA_wI, mA_wL, mA_wA, if_neg h7, mA_wA, if_neg h6]; exact hS.2.2.1 j h6 h7
    · rw [mL_wI, mL_wL, if_neg h8, mL_wA, mL_wA]; exact hS.2.2.2 j h8
    · have hc := h.2 i hi
      unfold corr tkK tkV at hc ⊢
      rw [hg i hi]
      have eA : mA (wI (wL (wA (wA τ 6 L.length 0) 7 L.length (mI τ 2)) 8 L.length 0) 5 (mI τ 5 + 1)) 6 = upd (mA τ 6) L.length 0 := by
        rw [mA_wI, mA_wL, mA_wA, if_neg (by decide), mA_wA, if_pos rfl]
      have eL : mL (wI (wL (wA (wA τ 6 L.length 0) 7 L.length (mI τ 2)) 8 L.length 0) 5 (mI τ 5 + 1)) 8 = vp_updL (mL τ 8) L.length 0 := by
        rw [mL_wI, mL_wL, if_pos rfl, mL_wA, mL_wA]
      rw [eA, eL, pk_un (show i ≠ L.length by omega)]
      unfold vp_updL
      rw [if_neg (show ¬ i = L.length by omega)]
      exact hc
    · have eA : mA (wI (wL (wA (wA τ 6 L.length 0) 7 L.length (mI τ 2)) 8 L.length 0) 5 (mI τ 5 + 1)) 6 = upd (mA τ 6) L.length 0 := by
        rw [mA_wI, mA_wL, mA_wA, if_neg (by decide), mA_wA, if_pos rfl]
      rw [eA, pk_us]
    · rcases hr with e | ⟨h1, h2⟩
      · left; rw [← he, e, List.append_nil]
      · right
        refine ⟨h1, ?_⟩
        unfold tkK at h2 ⊢
        rw [hg _ (by omega)]
        exact h2
    · have := hno i hi
      unfold tkK at this ⊢
      rw [hg i (by omega)]
      exact this
  have main : ∀ (d p : Nat) (x2 : Int32) (L : List Tok) (τ : MS), p ≤ t → t ≤ p + d → L.length ≤ p → (∃ r, L ++ r = toks f t ∧ ((∃ e, t ≤ p + e ∧ r = toksS f t e p) ∨ x2 = 0)) → (x2 = 0 → 0 < L.length ∧ tkK L (L.length - 1) = 3) → (∀ i, i + 1 < L.length → ¬ tkK L i = 3) → (¬ x2 = 0 → ∀ i, i < L.length → ¬ tkK L i = 3) → MSame σ τ → TKM L τ → wL_X9_tokenize_9 post (d + 1) (nI p) x2 τ := by
    intro d
    induction d with
    | zero =>
      intro p x2 L τ hp hpd hL hr h3 hno hno2 hS h
      have e0 : mI τ 2 = nI t := by rw [hS.1 2 (by decide)]; exact h0
      obtain ⟨r, he, hr⟩ := hr
      refine ⟨fun q => k289 L τ (by omega) ⟨r, he, Or.inr (h3 q)⟩ hno hS h, fun q => ⟨fun _ => k289 L τ (by omega) ⟨r, he, ?_⟩ hno hS h, fun z => absurd (by rw [e0]; exact nI_le (by omega) (by omega)) z⟩⟩
      rcases hr with ⟨e, h1, rfl⟩ | e
      · left
        cases e with
        | zero => rfl
        | succ e => exact if_neg (by omega)
      · exact absurd e q
    | succ d ih =>
      intro p x2 L τ hp hpd hL hr h3 hno hno2 hS h
      have e0 : mI τ 2 = nI t := by rw [hS.1 2 (by decide)]; exact h0
      have ef : ∀ i, i < t → mA τ 1 i = f i := fun i hi => by rw [hS.2.2.1 1 (by decide) (by decide)]; exact hf i hi
      obtain ⟨r, he, hr⟩ := hr
      refine ⟨fun q => k289 L τ (by omega) ⟨r, he, Or.inr (h3 q)⟩ hno hS h, fun q => ⟨fun z => k289 L τ (by omega) ⟨r, he, ?_⟩ hno hS h, fun z => ?_⟩⟩
      · rw [e0] at z
        have hpt : t ≤ p := by
          rcases Nat.lt_or_ge p t with y | y
          · exact absurd z (nI_ge y (by omega))
          · exact y
        rcases hr with ⟨e, h1, rfl⟩ | e
        · left
          cases e with
          | zero => rfl
          | succ e => exact if_neg (by omega)
        · exact absurd e q
      · rw [e0] at z
        have hpt : p < t := nI_nle' (by omega) z
        have hno3 := hno2 q
        obtain ⟨e, h1, rfl⟩ : ∃ e, t ≤ p + e ∧ r = toksS f t e p := hr.elim id (fun e => absurd e q)
        obtain ⟨e, rfl⟩ : ∃ e', e = e' + 1 := ⟨e - 1, by omega⟩
        have hun : toksS f t (e + 1) p = (if isSm (f p) then tokN f t p :: toksS f t e (nmF f (t - p) p 0).1 else if isDg (f p) then tokD f t p :: toksS f t e (dgF f p (t - p) p 0).1 else if f p = 32 then toksS f t e (p + 1) else (if isSg (f p) then f p else 3, 0) :: toksS f t e (p + 1)) := if_pos hpt
        have ip : vp_in (nI p) 700 := vp_in_nI (by omega) (by decide)
        have ep : (nI p).toNatClampNeg = p := nI_clamp (by omega)
        have see1 : ∀ {P : Int32 → MS → Prop} {j : Nat}, j < t → P (f j) τ → wp_X9_see P (nI j) τ := fun {P} {j} hj hP => ⟨fun y => absurd y (by rw [e0]; exact nI_ge hj (by omega)), fun _ => ⟨vp_in_nI (by omega) (by decide), by
          show P (mA τ 1 (nI j).toNatClampNeg) τ
          rw [nI_clamp (by omega), ef j hj]
          exact hP⟩⟩
        have see0 : ∀ {P : Int32 → MS → Prop}, P 0 τ → wp_X9_see P (nI t) τ := fun {P} hP => ⟨fun _ => hP, fun y => absurd (by rw [e0]; exact Int32.le_refl _) y⟩
        -- behind a TOKEN
        have k258 : ∀ (p' : Nat) (x : Tok) (τ : MS), p < p' → p' ≤ t → (L ++ [x]) ++ toksS f t e p' = toks f t → MSame σ τ → TKM (L ++ [x]) τ → wB_X9_tokenize_258 post (wL_X9_tokenize_9 post (d + 1)) (nI p') τ := by
          intro p' x τ h1' h2' he' hS h
          have hlen : (L ++ [x]).length = L.length + 1 := by rw [List.length_append]; rfl
          have e5 : mI τ 5 = nI (L.length + 1) := by rw [h.1, hlen]
          have hold : ∀ i, i < L.length → ¬ tkK (L ++ [x]) i = 3 := fun i hi => by
            have := hno3 i hi
            unfold tkK at this ⊢
            rw [getD_lt L x hi]; exact this
          have hlast : tkK (L ++ [x]) L.length = x.1 := by unfold tkK; rw [getD_eq]
          refine ⟨fun y => absurd y (by rw [e5]; exact nI_ne0 (by omega) (by omega)), fun _ => ⟨by rw [e5, nI_pred]; exact vp_in_nI (by omega) (by decide), fun y => ?_, fun y => ?_⟩⟩
          · rw [e5, nI_pred, nI_clamp (by omega), (h.2 L.length (by omega)).1, hlast] at y
            have hx3 : x.1 = 3 := by
              unfold kM at y
              by_cases a1 : x.1 = 1
              · rw [if_pos a1] at y; exact absurd y (by decide)
              · rw [if_neg a1] at y
                by_cases a2 : x.1 = 2
                · rw [if_pos a2] at y; exact absurd y (by decide)
                · rw [if_neg a2] at y
                  by_cases a3 : x.1 = 3
                  · exact a3
                  · rw [if_neg a3] at y; exact absurd y (by decide)
            exact ih p' 0 (L ++ [x]) τ h2' (by omega) (by omega) ⟨_, he', Or.inr rfl⟩ (fun _ => ⟨by omega, by rw [hlen, Nat.add_sub_cancel, hlast]; exact hx3⟩) (fun i hi => hold i (by omega)) (fun y => absurd rfl y) hS h
          · rw [e5, nI_pred, nI_clamp (by omega), (h.2 L.length (by omega)).1, hlast] at y
            have hx3 : ¬ x.1 = 3 := fun a => y (by rw [a]; decide)
            exact ih p' 1 (L ++ [x]) τ h2' (by omega) (by omega) ⟨_, he', Or.inl ⟨e, by omega, rfl⟩⟩ (fun y => absurd y (by decide)) (fun i hi => hold i (by omega)) (fun _ i hi => by
              rcases Nat.lt_or_ge i L.length with a | a
              · exact hold i a
              · rw [show i = L.length by omega, hlast]; exact hx3) hS h
        refine ⟨ip, fun e32 y hy => ?_, fun n32 => ⟨ip, ?_⟩⟩
        · rw [ep, ef p hpt] at e32
          rw [hy, nI_1]
          have ns : ¬ isSm (f p) := by rw [e32]; decide
          have nd : ¬ isDg (f p) := by rw [e32]; decide
          rw [if_neg ns, if_neg nd, if_pos e32] at hun
          have e5 := h.1
          have nx : ∀ x2 : Int32, ¬ x2 = 0 → wL_X9_tokenize_9 post (d + 1) (nI (p + 1)) x2 τ := fun x2 hx2 => ih (p + 1) x2 L τ (by omega) (by omega) (by omega) ⟨_, by rw [← he, hun], Or.inl ⟨e, by omega, rfl⟩⟩ (fun y => absurd y hx2) hno (fun _ => hno3) hS h
          refine ⟨fun _ => nx 1 (by decide), fun y => ?_⟩
          rw [e5] at y
          have hpos : 0 < L.length := by
            rcases Nat.eq_zero_or_pos L.length with a | a
            · exact absurd (by rw [a]; rfl) y
            · exact a
          have ep1 : nI L.length - 1 = nI (L.length - 1) := by
            have := nI_pred (L.length - 1)
            rw [show L.length - 1 + 1 = L.length by omega] at this
            exact this
          refine ⟨by rw [e5, ep1]; exact vp_in_nI (by omega) (by decide), fun y2 => ?_, fun _ => nx 1 (by decide)⟩
          rw [e5, ep1, nI_clamp (by omega), (h.2 (L.length - 1) (by omega)).1] at y2
          have := hno3 (L.length - 1) (by omega)
          exfalso
          unfold kM at y2
          by_cases a1 : tkK L (L.length - 1) = 1
          · rw [if_pos a1] at y2; exact absurd y2 (by decide)
          · rw [if_neg a1] at y2
            by_cases a2 : tkK L (L.length - 1) = 2
            · rw [if_pos a2] at y2; exact absurd y2 (by decide)
            · rw [if_neg a2, if_neg this] at y2; exact absurd y2 (by decide)
        · rw [ep, ef p hpt] at n32 ⊢
          refine sp_isDigit ?_
          show (bI (isDg (f p)) = 0 → _) ∧ (¬ bI (isDg (f p)) = 0 → _)
          by_cases cd : isDg (f p)
          · rw [bI_pos cd]
            refine ⟨fun y => absurd y (by decide), fun _ => ?_⟩
            have ns : ¬ isSm (f p) := fun y => absurd cd.2 (fun w => w (by
              have := y.1
              rw [Int32.lt_iff_toInt_lt] at this ⊢
              have e1 : (97 : Int32).toInt = 97 := rfl
              have e2 : (57 : Int32).toInt = 57 := rfl
              omega))
            rw [if_neg ns, if_pos cd] at hun
            have h2 := dgF_ge f p (t - p) p 0
            have hgt := dgF_gt f p (d := t - p) (v := 0) (by omega) cd
            have he2 : (L ++ [tokD f t p]) ++ toksS f t e (dgF f p (t - p) p 0).1 = toks f t := by rw [← he, hun, List.append_assoc]; rfl
            have fin : ∀ (j : Nat) (v : Int64), p < j → j ≤ t → dgF f p (t - p) p 0 = (j, v) → (((10 < (nI j - nI p) → (wB_X9_tokenize_122 post (wL_X9_tokenize_9 post (d + 1)) (nI j) (nI p) v τ)) ∧ (¬ 10 < (nI j - nI p) → ((v ≤ 2147483648 → (wB_X9_tokenize_127 post (wL_X9_tokenize_9 post (d + 1)) (nI j) (nI p) v 2 τ)) ∧ (¬ v ≤ 2147483648 → (wB_X9_tokenize_122 post (wL_X9_tokenize_9 post (d + 1)) (nI j) (nI p) v τ)))))) := by
              intro j v hpj hjt hr
              have hd : nI j - nI p = nI (j - p) := pk_sub (by omega)
              rw [hr] at he2
              have kb : (10 < j - p ∨ 2147483648 < v) → wB_X9_tokenize_122 post (wL_X9_tokenize_9 post (d + 1)) (nI j) (nI p) v τ := fun a => by
                have et : tokD f t p = (3, 0) := by unfold tokD; rw [hr]; exact if_pos a
                rw [et] at he2
                exact spm_token (k := 3) (u := 0) hS h (by omega) rfl (fun b => b.elim (fun b => absurd b (by decide)) (fun b => absurd b (by decide))) (fun b => absurd b (by decide)) (fun τ hS h => k258 j _ τ hpj hjt he2 hS h)
              refine ⟨fun a => kb (Or.inl ?_), fun a => ⟨fun b => ?_, fun b => kb (Or.inr (Int64.not_le.mp b))⟩⟩
              · rw [hd] at a; exact (nI_ltI (a := 10) (by decide) (by omega)).mp a
              · rw [hd] at a
                have a : ¬ 10 < j - p := fun w => a ((nI_ltI (a := 10) (by decide) (by omega)).mpr w)
                have et : tokD f t p = (2, v) := by unfold tokD; rw [hr]; exact if_neg (fun w => w.elim a (fun w => absurd b (Int64.not_le.mpr w)))
                rw [et] at he2
                exact spm_token (k := 2) (u := v) hS h (by omega) rfl (fun _ => rfl) (fun b => absurd b (by decide)) (fun τ hS h => k258 j _ τ hpj hjt he2 hS h)
            have dig : ∀ (g j : Nat) (v : Int64), j + g = t → p ≤ j → (j = p → isDg (f j)) → dgF f p (t - p) p 0 = dgF f p g j v → wL_X9_tokenize_55 post (wL_X9_tokenize_9 post (d + 1)) (g + 1) (nI j) (nI p) v τ := by
              intro g
              induction g with
              | zero =>
                intro j v hj hpj hjp hq
                have ejt : j = t := by omega
                subst ejt
                exact see0 (sp_isDigit ⟨fun _ => fin j v (by omega) (by omega) hq, fun w => absurd rfl w⟩)
              | succ g ih2 =>
                intro j v hj hpj hjp hq
                have hd : nI j - nI p = nI (j - p) := pk_sub hpj
                refine see1 (by omega) (sp_isDigit ?_)
                show (bI (isDg (f j)) = 0 → _) ∧ (¬ bI (isDg (f j)) = 0 → _)
                by_cases c : isDg (f j)
                · rw [bI_pos c]
                  have hq2 : dgF f p (t - p) p 0 = dgF f p g (j + 1) (if j - p < 10 then v * 10 + (f j - 48).toInt64 else v) := by rw [hq]; exact if_pos c
                  have k96 : ∀ u, u = (if j - p < 10 then v * 10 + (f j - 48).toInt64 else v) → wB_X9_tokenize_96 post (wL_X9_tokenize_9 post (d + 1)) (wL_X9_tokenize_55 post (wL_X9_tokenize_9 post (d + 1)) (g + 1)) (nI j) (nI p) u τ := fun u hu y hy => by
                    rw [hy, nI_1]
                    exact ih2 (j + 1) u (by omega) (by omega) (fun w => by omega) (by rw [hu]; exact hq2)
                  refine ⟨fun w => absurd w (by decide), fun _ => ⟨fun w => k96 v (if_neg ?_).symm, fun w => see1 (by omega) (k96 _ ?_)⟩⟩
                  · rw [hd] at w
                    intro a
                    exact nI_ge (a := j - p) (b := 10) a (by decide) w
                  · rw [dig_eq c, if_pos]
                    rcases Nat.lt_or_ge (j - p) 10 with a | a
                    · exact a
                    · exact absurd (by rw [hd]; exact nI_le (a := 10) a (by omega)) w
                · rw [bI_neg c]
                  refine ⟨fun _ => fin j v ?_ (by omega) (by rw [hq]; exact if_neg c), fun w => absurd rfl w⟩
                  rcases Nat.lt_or_ge p j with a | a
                  · exact a
                  · exact absurd (hjp (by omega)) c
            exact ⟨t - p + 1, dig (t - p) p 0 (by omega) (Nat.le_refl p) (fun _ => cd) rfl⟩
          · rw [bI_neg cd]
            refine ⟨fun _ => ⟨ip, sp_isLetter ?_⟩, fun y => absurd rfl y⟩
            show (bI (isSm (f p)) = 0 → _) ∧ (¬ bI (isSm (f p)) = 0 → _)
            by_cases cs : isSm (f p)
            · rw [bI_pos cs]
              refine ⟨fun y => absurd y (by decide), fun _ => ?_⟩
              rw [if_pos cs] at hun
              have h2 := nmF_ge f (t - p) p 0
              have hgt := nmF_gt f (d := t - p) (v := 0) (by omega) cs
              have he2 : (L ++ [tokN f t p]) ++ toksS f t e (nmF f (t - p) p 0).1 = toks f t := by rw [← he, hun, List.append_assoc]; rfl
              have fin : ∀ (j : Nat) (v u : Int64), p < j → j ≤ t → (j - p ≤ 8 → v = u) → nmF f (t - p) p 0 = (j, u) → (((nI j - nI p) ≤ 8 → (wB_X9_tokenize_217 post (wL_X9_tokenize_9 post (d + 1)) (nI j) (nI p) v 1 τ)) ∧ (¬ (nI j - nI p) ≤ 8 → (wB_X9_tokenize_217 post (wL_X9_tokenize_9 post (d + 1)) (nI j) (nI p) v 4 τ))) := by
                intro j v u hpj hjt hvu hr
                have hd : nI j - nI p = nI (j - p) := pk_sub (by omega)
                rw [hr] at he2
                refine ⟨fun a => ?_, fun a => ?_⟩
                · rw [hd] at a
                  have a : j - p ≤ 8 := (nI_leI (b := 8) (by omega) (by decide)).mp a
                  have et : tokN f t p = (1, u) := by unfold tokN; rw [hr]; exact if_neg (by show ¬ 8 < j - p; omega)
                  rw [et] at he2
                  exact spm_token (k := 1) (u := u) hS h (by omega) rfl (fun _ => hvu a) (fun b => absurd b (by decide)) (fun τ hS h => k258 j _ τ hpj hjt he2 hS h)
                · rw [hd] at a
                  have a : ¬ j - p ≤ 8 := fun w => a ((nI_leI (b := 8) (by omega) (by decide)).mpr w)
                  have et : tokN f t p = (3, 0) := by unfold tokN; rw [hr]; exact if_pos (by show 8 < j - p; omega)
                  rw [et] at he2
                  exact spm_token (k := 3) (u := 0) hS h (by omega) rfl (fun b => b.elim (fun b => absurd b (by decide)) (fun b => absurd b (by decide))) (fun b => absurd b (by decide)) (fun τ hS h => k258 j _ τ hpj hjt he2 hS h)
              have ltr : ∀ (g j : Nat) (v u : Int64), j + g = t → p ≤ j → (j = p → isSm (f j)) → (j - p ≤ 8 → v = u) → nmF f (t - p) p 0 = nmF f g j u → wL_X9_tokenize_148 post (wL_X9_tokenize_9 post (d + 1)) (g + 1) (nI j) (nI p) v τ := by
                intro g
                induction g with
                | zero =>
                  intro j v u hj hpj hjp hvu hq
                  have ejt : j = t := by omega
                  subst ejt
                  exact see0 (sp_isLetter ⟨fun _ => see0 (sp_isDigit ⟨fun _ => fin j v u (by omega) (by omega) hvu hq, fun w => absurd rfl w⟩), fun w => absurd rfl w⟩)
                | succ g ih2 =>
                  intro j v u hj hpj hjp hvu hq
                  have hd : nI j - nI p = nI (j - p) := pk_sub hpj
                  have k170 : (isSm (f j) ∨ isDg (f j)) → wB_X9_tokenize_170 post (wL_X9_tokenize_9 post (d + 1)) (wL_X9_tokenize_148 post (wL_X9_tokenize_9 post (d + 1)) (g + 1)) (nI j) (nI p) v τ := by
                    intro c
                    have hq2 : nmF f (t - p) p 0 = nmF f g (j + 1) ((u <<< ((8 : Int32).toInt64 &&& 63)) ||| (f j).toInt64) := by rw [hq]; exact if_pos c
                    have k195 : ∀ v', (j + 1 - p ≤ 8 → v' = (u <<< ((8 : Int32).toInt64 &&& 63)) ||| (f j).toInt64) → wB_X9_tokenize_195 post (wL_X9_tokenize_9 post (d + 1)) (wL_X9_tokenize_148 post (wL_X9_tokenize_9 post (d + 1)) (g + 1)) (nI j) (nI p) v' τ := fun v' hv' y hy => by
                      rw [hy, nI_1]
                      exact ih2 (j + 1) v' _ (by omega) (by omega) (fun w => by omega) hv' hq2
                    refine ⟨fun w => k195 v (fun a => ?_), fun w => see1 (by omega) (k195 _ (fun a => by rw [hvu (by omega)]))⟩
                    rw [hd] at w
                    exact absurd w (nI_ge (a := j - p) (b := 8) (by omega) (by decide))
                  refine see1 (by omega) (sp_isLetter ?_)
                  show (bI (isSm (f j)) = 0 → _) ∧ (¬ bI (isSm (f j)) = 0 → _)
                  by_cases c : isSm (f j)
                  · rw [bI_pos c]; exact ⟨fun w => absurd w (by decide), fun _ => k170 (Or.inl c)⟩
                  · rw [bI_neg c]
                    refine ⟨fun _ => see1 (by omega) (sp_isDigit ?_), fun w => absurd rfl w⟩
                    show (bI (isDg (f j)) = 0 → _) ∧ (¬ bI (isDg (f j)) = 0 → _)
                    by_cases c2 : isDg (f j)
                    · rw [bI_pos c2]; exact ⟨fun w => absurd w (by decide), fun _ => k170 (Or.inr c2)⟩
                    · rw [bI_neg c2]
                      refine ⟨fun _ => fin j v u ?_ (by omega) hvu (by rw [hq]; exact if_neg (fun w => w.elim c c2)), fun w => absurd rfl w⟩
                      rcases Nat.lt_or_ge p j with a | a
                      · exact a
                      · exact absurd (hjp (by omega)) c
              exact ⟨t - p + 1, ltr (t - p) p 0 0 (by omega) (Nat.le_refl p) (fun _ => cs) (fun _ => rfl) rfl⟩
            · rw [bI_neg cs]
              refine ⟨fun _ => ⟨ip, sp_isSign ?_⟩, fun y => absurd rfl y⟩
              rw [if_neg cs, if_neg cd, if_neg n32] at hun
              have k244 : ∀ (x : Int32) (kk : Int32), x = kM kk → (kM kk = 3 → kk = f p) → kk = (if isSg (f p) then f p else 3) → wB_X9_tokenize_244 post (wL_X9_tokenize_9 post (d + 1)) (nI p) (nI p) x τ := by
                intro x kk hx hk3 hkk
                refine ⟨ip, ?_⟩
                rw [ep, ef p hpt]
                have hn12 : ¬ (kk = 1 ∨ kk = 2) := by
                  intro a
                  by_cases sg : isSg (f p)
                  · rw [if_pos sg] at hkk
                    have := kM_sg sg
                    rw [← hkk] at this
                    exact a.elim this.2.1 this.2.2.1
                  · rw [if_neg sg] at hkk
                    rw [hkk] at a
                    exact absurd a (by decide)
                refine spm_token (k := kk) (u := 0) hS h (by omega) hx (fun a => absurd a hn12) (fun a => by rw [hk3 a]) (fun τ hS h => fun y hy => ?_)
                rw [hy, nI_1]
                exact k258 (p + 1) _ τ (by omega) (by omega) (by rw [← he, hun, List.append_assoc, hkk]; rfl) hS h
              by_cases sg : isSg (f p)
              · rw [bI_pos sg]
                refine ⟨fun y => absurd y (by decide), fun _ => k244 3 (f p) (kM_sg sg).1.symm (fun _ => rfl) (if_pos sg).symm⟩
              · rw [bI_neg sg]
                exact ⟨fun _ => k244 4 3 rfl (fun a => absurd a (by decide)) (if_neg sg).symm, fun y => absurd rfl y⟩
  refine ⟨t + 1, main t 0 1 [] (wI σ 5 0) (by omega) (by omega) (Nat.le_refl 0) ⟨_, rfl, Or.inl ⟨700, by omega, rfl⟩⟩ (fun y => absurd y (by decide)) (fun i hi => absurd hi (Nat.not_lt_zero _)) (fun _ i hi => absurd hi (Nat.not_lt_zero i)) ⟨fun k h5 => ?_, fun k => rfl, fun k _ _ => rfl, fun k _ => rfl⟩ ⟨rfl, fun i hi => absurd hi (Nat.not_lt_zero i)⟩⟩
  rw [mI_wI, if_neg h5]
end MTX
