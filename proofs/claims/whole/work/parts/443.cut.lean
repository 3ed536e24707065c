/-! the class cuts the tape -/
def q_BS (C B : Nat → Int32) (N : Nat) : Prop := N ≤ 700 ∧ ∀ i, i < N → q_BY (C i) (B i)
section
variable {B : Nat → Int32} {N : Nat}
theorem q_kin {i : Nat} (h : i < 700) : k_inb (nI i) 700 = true := e_in h (by decide)
theorem s_cutWord_l (K a e : Nat) (hK : K < 700) (hR : q_RUN q_ltr B N a e) (hN : N ≤ 700) : ∀ (m n j : Nat) (σ : MSt), a + j + m = e → m < n → (∀ i, i < N → q_BY (σ.1 2 i) (B i)) → q_WD σ → σ.1 1 6 = nI N → σ.1 1 7 = nI K → σ.1 1 8 = nI (a + j) → ∃ s v σ', f_X9_cutWord_b7 n (nI a) (q_pk B a j) σ = some σ' ∧ q_ADD K s v a e σ σ' ∧ ((6 < e - a ∧ s = 1 ∧ v = 0) ∨ (e - a ≤ 6 ∧ v = q_pk B a (e - a) ∧ s = (if q_fw B a e q_wt 0 = -1 then 2 else 10 + q_fw B a e q_wt 0))) := by
  obtain ⟨r1, r2, r3, r4⟩ := hR
  intro m
  induction m with
  | zero =>
    intro n j σ h1 h2 hB W h6 h7 h8
    obtain ⟨n, rfl⟩ : ∃ z, n = z + 1 := ⟨n - 1, by omega⟩
    have ej : a + j = e := by omega
    have fin : ∃ s v σ', f_X9_cutWord_b85 (nI a) (q_pk B a j) σ = some σ' ∧ q_ADD K s v a e σ σ' ∧ ((6 < e - a ∧ s = 1 ∧ v = 0) ∨ (e - a ≤ 6 ∧ v = q_pk B a (e - a) ∧ s = (if q_fw B a e q_wt 0 = -1 then 2 else 10 + q_fw B a e q_wt 0))) := by
      unfold f_X9_cutWord_b85 f_X9_cutWord_b117
      rw [h8, pk_sub (by omega), show a + j - a = j by omega]
      by_cases c : j ≤ 6
      · rw [if_pos (show nI j ≤ (6 : Int32) from nI_le (a := j) (b := 6) c (by decide)), s_X9_sortOfWord B a j c (fun i hi => r3 (a + i) (by omega) (by omega)) σ W, e_bdS]
        obtain ⟨σ', y1, y2⟩ := s_X9_addToken K hK (if q_fw B a (a + j) q_wt 0 = -1 then 2 else 10 + q_fw B a (a + j) q_wt 0) (q_pk B a j) a e σ h7 (by rw [h8, ej])
        rw [y1, e_bvS]
        exact ⟨_, _, σ', rfl, y2, Or.inr ⟨by omega, by rw [show e - a = j by omega], by rw [ej]⟩⟩
      · rw [if_neg (show ¬ nI j ≤ (6 : Int32) from nI_ge (a := 6) (b := j) (by omega) (by omega))]
        obtain ⟨σ', y1, y2⟩ := s_X9_addToken K hK 1 0 a e σ h7 (by rw [h8, ej])
        rw [y1, e_bvS]
        exact ⟨_, _, σ', rfl, y2, Or.inl ⟨by omega, rfl, rfl⟩⟩
    show ∃ s v σ', f_X9_cutWord_b7_s (f_X9_cutWord_b7 n) (nI a) (q_pk B a j) σ = some σ' ∧ _
    unfold f_X9_cutWord_b7_s
    rw [h6, h8, ej]
    by_cases c : e = N
    · rw [if_pos (nI_le (by omega) (by omega))]; exact fin
    · rw [if_neg (nI_ge (by omega) (by omega)), e_ck (q_kin (by omega)), nI_clamp (by omega), s_X9_isLetter, e_bdS, (hB e (by omega)).ltr, r4 (by omega), if_pos q_if0]
      exact fin
  | succ m ih =>
    intro n j σ h1 h2 hB W h6 h7 h8
    obtain ⟨n, rfl⟩ : ∃ z, n = z + 1 := ⟨n - 1, by omega⟩
    have hl := r3 (a + j) (by omega) (by omega)
    have ec := (hB (a + j) (by omega)).eq_ltr hl
    show ∃ s v σ', f_X9_cutWord_b7_s (f_X9_cutWord_b7 n) (nI a) (q_pk B a j) σ = some σ' ∧ _
    unfold f_X9_cutWord_b7_s f_X9_cutWord_b72
    rw [h6, h8, if_neg (nI_ge (by omega) (by omega)), e_ck (q_kin (by omega)), nI_clamp (by omega), s_X9_isLetter, e_bdS, ec, hl, if_pos rfl, if_neg q_t10, h8, pk_sub (by omega), show a + j - a = j by omega, nI_1]
    have mv := q_MV.mI σ (a + j + 1)
    have nx : ∃ s v σ', f_X9_cutWord_b7 n (nI a) (q_pk B a (j + 1)) (mI σ 1 8 (nI (a + j + 1))) = some σ' ∧ q_ADD K s v a e σ σ' ∧ ((6 < e - a ∧ s = 1 ∧ v = 0) ∨ (e - a ≤ 6 ∧ v = q_pk B a (e - a) ∧ s = (if q_fw B a e q_wt 0 = -1 then 2 else 10 + q_fw B a e q_wt 0))) := by
      obtain ⟨s, v, σ', y1, y2, y3⟩ := ih n (j + 1) (mI σ 1 8 (nI (a + j + 1))) (by omega) (by omega) (by rw [mv.2.2.1 2 (by omega)]; exact hB) (W.eq (mv.2.2.1 6 (by omega))) (by rw [mv.2.1 6 (by omega)]; exact h6) (by rw [mv.2.1 7 (by omega)]; exact h7) (by rw [mv.1, Nat.add_assoc])
      exact ⟨s, v, σ', y1, mv.add y2, y3⟩
    by_cases c : 6 ≤ j
    · rw [if_pos (show (6 : Int32) ≤ nI j from nI_le (a := 6) (b := j) c (by omega)), e_nm]
      have : q_pk B a (j + 1) = q_pk B a j := by
        show (if j < 6 then _ else _) = _
        rw [if_neg (by omega)]
      rw [this] at nx
      exact nx
    · rw [if_neg (show ¬ (6 : Int32) ≤ nI j from nI_ge (a := j) (b := 6) (by omega) (by omega)), e_ck (q_kin (by omega)), nI_clamp (by omega), ec, e_nm, e_nm]
      have : q_pk B a (j + 1) = q_pk B a j ||| (((B (a + j) - 97) + 1) <<< ((5 * (5 - nI j)) &&& 31)) := by
        show (if j < 6 then _ else _) = _
        rw [if_pos (by omega)]
      rw [this] at nx
      exact nx
theorem s_cutNumber_l (K a e : Nat) (hK : K < 700) (hR : q_RUN q_dgt B N a e) (hN : N ≤ 700) : ∀ (m n j : Nat) (σ : MSt), a + j + m = e → m < n → (∀ i, i < N → q_BY (σ.1 2 i) (B i)) → σ.1 1 6 = nI N → σ.1 1 7 = nI K → σ.1 1 8 = nI (a + j) → ∃ σ', f_X9_cutNumber_b7 n (nI a) (q_nb B a j) σ = some σ' ∧ q_ADD K 3 (q_nb B a (e - a)) a e σ σ' := by
  obtain ⟨r1, r2, r3, r4⟩ := hR
  intro m
  induction m with
  | zero =>
    intro n j σ h1 h2 hB h6 h7 h8
    obtain ⟨n, rfl⟩ : ∃ z, n = z + 1 := ⟨n - 1, by omega⟩
    have ej : a + j = e := by omega
    obtain ⟨σ', y1, y2⟩ := s_X9_addToken K hK 3 (q_nb B a j) a e σ h7 (by rw [h8, ej])
    have fin : ∃ σ', f_X9_cutNumber_b69 (nI a) (q_nb B a j) σ = some σ' ∧ q_ADD K 3 (q_nb B a (e - a)) a e σ σ' := by
      unfold f_X9_cutNumber_b69
      rw [y1, e_bvS]
      exact ⟨σ', rfl, by rw [show e - a = j by omega]; exact y2⟩
    show ∃ σ', f_X9_cutNumber_b7_s (f_X9_cutNumber_b7 n) (nI a) (q_nb B a j) σ = some σ' ∧ _
    unfold f_X9_cutNumber_b7_s
    rw [h6, h8, ej]
    by_cases c : e = N
    · rw [if_pos (nI_le (by omega) (by omega))]; exact fin
    · rw [if_neg (nI_ge (by omega) (by omega)), e_ck (q_kin (by omega)), nI_clamp (by omega), s_X9_isDigit, e_bdS, (hB e (by omega)).dgt, r4 (by omega), if_pos q_if0]
      exact fin
  | succ m ih =>
    intro n j σ h1 h2 hB h6 h7 h8
    obtain ⟨n, rfl⟩ : ∃ z, n = z + 1 := ⟨n - 1, by omega⟩
    have hl := r3 (a + j) (by omega) (by omega)
    have ec := (hB (a + j) (by omega)).eq_dgt hl
    show ∃ σ', f_X9_cutNumber_b7_s (f_X9_cutNumber_b7 n) (nI a) (q_nb B a j) σ = some σ' ∧ _
    unfold f_X9_cutNumber_b7_s
    rw [h6, h8, if_neg (nI_ge (by omega) (by omega)), e_ck (q_kin (by omega)), nI_clamp (by omega), s_X9_isDigit, e_bdS, ec, hl, if_pos rfl, if_neg q_t10, h8, e_ck (q_kin (by omega)), nI_clamp (by omega), ec, e_nm, e_nm, nI_1]
    have mv := q_MV.mI σ (a + j + 1)
    obtain ⟨σ', y1, y2⟩ := ih n (j + 1) (mI σ 1 8 (nI (a + j + 1))) (by omega) (by omega) (by rw [mv.2.2.1 2 (by omega)]; exact hB) (by rw [mv.2.1 6 (by omega)]; exact h6) (by rw [mv.2.1 7 (by omega)]; exact h7) (by rw [mv.1, Nat.add_assoc])
    exact ⟨σ', y1, mv.add y2⟩
theorem s_cutSign (K a : Nat) (hK : K < 700) (ha : a < N) (hN : N ≤ 700) (σ : MSt) (hB : ∀ i, i < N → q_BY (σ.1 2 i) (B i)) (h6 : σ.1 1 6 = nI N) (h7 : σ.1 1 7 = nI K) (h8 : σ.1 1 8 = nI a) : ∃ s e σ', f_X9_cutSign (σ.1 2 a) σ = some σ' ∧ q_ADD K s 0 a e σ σ' ∧ ((q_pr (B a) (q_snd B N a) = 1 ∧ s = q_sg (B a) ∧ e = a + 1) ∨ (¬ q_pr (B a) (q_snd B N a) = 1 ∧ s = q_pr (B a) (q_snd B N a) ∧ e = a + 2)) := by
  have go : ∀ d, (q_BY d (q_snd B N a) ∨ (d = 0 ∧ q_snd B N a = 0)) → ∃ s e σ', f_X9_cutSign_b33 (σ.1 2 a) (nI a) d σ = some σ' ∧ q_ADD K s 0 a e σ σ' ∧ ((q_pr (B a) (q_snd B N a) = 1 ∧ s = q_sg (B a) ∧ e = a + 1) ∨ (¬ q_pr (B a) (q_snd B N a) = 1 ∧ s = q_pr (B a) (q_snd B N a) ∧ e = a + 2)) := by
    intro d hd
    have mv := q_MV.mI σ (a + 1)
    unfold f_X9_cutSign_b33 f_X9_cutSign_b76
    rw [h8, nI_1, e_nm, s_X9_sortOfPair, e_bdS, q_pr_by (hB a ha) hd]
    by_cases c : q_pr (B a) (q_snd B N a) = 1
    · rw [if_pos c, s_X9_sortOfSign, e_bdS, q_sg_by (hB a ha)]
      obtain ⟨σ', y1, y2⟩ := s_X9_addToken K hK (q_sg (B a)) 0 a (a + 1) (mI σ 1 8 (nI (a + 1))) (by rw [mv.2.1 7 (by omega)]; exact h7) mv.1
      rw [y1, e_bvS]
      exact ⟨_, _, σ', rfl, mv.add y2, Or.inl ⟨c, rfl, rfl⟩⟩
    · rw [if_neg c, mv.1, nI_1, e_nm]
      have mv2 := mv.trans (q_MV.mI (mI σ 1 8 (nI (a + 1))) (a + 1 + 1))
      obtain ⟨σ', y1, y2⟩ := s_X9_addToken K hK (q_pr (B a) (q_snd B N a)) 0 a (a + 2) (mI (mI σ 1 8 (nI (a + 1))) 1 8 (nI (a + 1 + 1))) (by rw [mv2.2.1 7 (by omega)]; exact h7) mv2.1
      rw [y1, e_bvS]
      exact ⟨_, _, σ', rfl, mv2.add y2, Or.inr ⟨c, rfl, rfl⟩⟩
  unfold f_X9_cutSign
  rw [e_nm, h6, h8, nI_1]
  by_cases c : a + 1 < N
  · rw [if_neg (nI_ge c (by omega)), e_ck (q_kin (by omega)), nI_clamp (by omega)]
    refine go _ (Or.inl ?_)
    unfold q_snd
    rw [if_pos c]
    exact hB (a + 1) c
  · rw [if_pos (nI_le (by omega) (by omega))]
    refine go _ (Or.inr ⟨rfl, ?_⟩)
    unfold q_snd
    rw [if_neg c]
/-- the tokens of the class, K of them: from ps t to en (t + 1) -/
def q_TKS (B : Nat → Int32) (N : Nat) (σ : MSt) (K a : Nat) (ps en : Nat → Nat) : Prop := K ≤ a ∧ a ≤ N ∧ σ.1 1 6 = nI N ∧ σ.1 1 7 = nI K ∧ en 0 = 0 ∧ en K ≤ a ∧ (∀ i, en K ≤ i → i < a → q_wht (B i) = true) ∧ ∀ t, t < K → en t ≤ ps t ∧ (∀ i, en t ≤ i → i < ps t → q_wht (B i) = true) ∧ σ.1 5 t = nI (ps t) ∧ q_LX B N (ps t) (σ.1 3 t) (σ.1 4 t) (en (t + 1))
theorem q_TKS.add {σ σ' : MSt} {K a e : Nat} {ps en : Nat → Nat} {s v : Int32} (h : q_TKS B N σ K a ps en) (hl : q_LX B N a s v e) (ad : q_ADD K s v a e σ σ') : q_TKS B N σ' (K + 1) e (fun t => if t = K then a else ps t) (fun t => if t = K + 1 then e else en t) := by
  obtain ⟨h1, h2, h3, h4, h5, h6, h7, h8⟩ := h
  obtain ⟨a1, a2, a3, a4, a5, a6, a7, a8, a9⟩ := ad
  obtain ⟨g1, g2, g3, g4⟩ := id hl
  refine ⟨by omega, g2, by rw [a7 6 (by omega) (by omega)]; exact h3, a5, ?_, ?_, fun i b c => ?_, fun t ht => ?_⟩
  · simp only [if_neg (show ¬ 0 = K + 1 by omega)]; exact h5
  · simp only [if_true]; omega
  · simp only [if_true] at b; omega
  · by_cases c : t = K
    · subst c
      simp only [if_true, if_neg (show ¬ t = t + 1 by omega)]
      exact ⟨h6, h7, a3, by rw [a1, a2]; exact hl⟩
    · have n1 : ¬ t = K + 1 := by omega
      have n2 : ¬ t + 1 = K + 1 := by omega
      simp only [if_neg c, if_neg n1, if_neg n2]
      obtain ⟨b1, b2, b3, b4⟩ := h8 t (by omega)
      exact ⟨b1, b2, by rw [a4 5 (by omega) (by omega) t c]; exact b3, by rw [a4 3 (by omega) (by omega) t c, a4 4 (by omega) (by omega) t c]; exact b4⟩
theorem q_cut_l (hN : N ≤ 700) : ∀ (m f i a K : Nat) (σ : MSt) (ps en : Nat → Nat), N ≤ a + m → m < f → i ≤ a → σ.1 1 8 = nI a → q_TKS B N σ K a ps en → (∀ i, i < N → q_BY (σ.1 2 i) (B i)) → q_WD σ → ∃ K' ps' en' σ', f_X9_cut_b29 f (nI i) σ = some σ' ∧ q_TKS B N σ' K' N ps' en' ∧ (∀ j, j < 6 → σ'.1 1 j = σ.1 1 j) ∧ (∀ r, r ≠ 1 → (r < 3 ∨ 5 < r) → σ'.1 r = σ.1 r) ∧ σ'.2 = σ.2 := by
  intro m
  induction m with
  | zero =>
    intro f i a K σ ps en h1 h2 h3 h8 TK hB W
    obtain ⟨f, rfl⟩ : ∃ z, f = z + 1 := ⟨f - 1, by omega⟩
    have ea : a = N := by have := TK.2.1; omega
    subst ea
    refine ⟨K, ps, en, σ, ?_, TK, fun _ _ => rfl, fun _ _ _ => rfl, rfl⟩
    show f_X9_cut_b29_s (f_X9_cut_b29 f) (nI i) σ = _
    unfold f_X9_cut_b29_s f_X9_cut_b121
    rw [TK.2.2.1, h8]
    split
    · rfl
    · rw [if_pos (nI_le (by omega) (by omega))]
  | succ m ih =>
    intro f i a K σ ps en h1 h2 h3 h8 TK hB W
    obtain ⟨f, rfl⟩ : ∃ z, f = z + 1 := ⟨f - 1, by omega⟩
    obtain ⟨t1, t2, t3, t4, t5, t6, t7, t8⟩ := id TK
    show ∃ K' ps' en' σ', f_X9_cut_b29_s (f_X9_cut_b29 f) (nI i) σ = some σ' ∧ _
    unfold f_X9_cut_b29_s f_X9_cut_b121 f_X9_cut_b69 f_X9_cut_b115
    rw [t3, h8]
    by_cases ca : a = N
    · refine ⟨K, ps, en, σ, ?_, by rw [← ca]; rw [← ca] at TK; exact TK, fun _ _ => rfl, fun _ _ _ => rfl, rfl⟩
      split
      · rfl
      · rw [if_pos (nI_le (by omega) (by omega))]
    · have haN : a < N := by omega
      rw [if_neg (show ¬ (700 : Int32) ≤ nI i from nI_ge (a := i) (b := 700) (by omega) (by decide)), if_neg (nI_ge haN (by omega)), e_ck (q_kin (by omega)), nI_clamp (by omega)]
      simp only [e_nm, nI_1]
      have by' := hB a haN
      have w10 : σ.1 2 a = 10 ↔ B a = 10 := by'.lit 10 (by omega)
      have w32 : σ.1 2 a = 32 ↔ B a = 32 := by'.lit 32 (by omega)
      -- a white sign
      have white : q_wht (B a) = true → ∃ K' ps' en' σ', f_X9_cut_b29 f (nI (i + 1)) (mI σ 1 8 (nI (a + 1))) = some σ' ∧ q_TKS B N σ' K' N ps' en' ∧ (∀ j, j < 6 → σ'.1 1 j = σ.1 1 j) ∧ (∀ r, r ≠ 1 → (r < 3 ∨ 5 < r) → σ'.1 r = σ.1 r) ∧ σ'.2 = σ.2 := by
        intro hw
        have mv := q_MV.mI σ (a + 1)
        have TK1 : q_TKS B N (mI σ 1 8 (nI (a + 1))) K (a + 1) ps en := by
          refine ⟨by omega, by omega, by rw [mv.2.1 6 (by omega)]; exact t3, by rw [mv.2.1 7 (by omega)]; exact t4, t5, by omega, fun j b c => ?_, ?_⟩
          · by_cases e : j = a
            · rw [e]; exact hw
            · exact t7 j b (by omega)
          · rw [mv.2.2.1 3 (by omega), mv.2.2.1 4 (by omega), mv.2.2.1 5 (by omega)]; exact t8
        obtain ⟨K', ps', en', σ', y1, y2, y3, y4, y5⟩ := ih f (i + 1) (a + 1) K (mI σ 1 8 (nI (a + 1))) ps en (by omega) (by omega) (by omega) mv.1 TK1 (by rw [mv.2.2.1 2 (by omega)]; exact hB) (W.eq (mv.2.2.1 6 (by omega)))
        exact ⟨K', ps', en', σ', y1, y2, fun j hj => by rw [y3 j hj, mv.2.1 j (by omega)], fun r b c => by rw [y4 r b c, mv.2.2.1 r b], by rw [y5, mv.2.2.2]⟩
      -- behind a token
      have tok : ∀ (s v : Int32) (e : Nat) (σ1 : MSt), q_LX B N a s v e → q_ADD K s v a e σ σ1 → ∃ K' ps' en' σ', f_X9_cut_b29 f (nI (i + 1)) σ1 = some σ' ∧ q_TKS B N σ' K' N ps' en' ∧ (∀ j, j < 6 → σ'.1 1 j = σ.1 1 j) ∧ (∀ r, r ≠ 1 → (r < 3 ∨ 5 < r) → σ'.1 r = σ.1 r) ∧ σ'.2 = σ.2 := by
        intro s v e σ1 hl ad
        have TK1 := TK.add hl ad
        obtain ⟨a1, a2, a3, a4, a5, a6, a7, a8, a9⟩ := ad
        obtain ⟨g1, g2, g3, -⟩ := id hl
        obtain ⟨K', ps', en', σ', y1, y2, y3, y4, y5⟩ := ih f (i + 1) e (K + 1) σ1 _ _ (by omega) (by omega) (by omega) a6 TK1 (by rw [a8 2 (by omega) (by omega)]; exact hB) (W.eq (a8 6 (by omega) (by omega)))
        exact ⟨K', ps', en', σ', y1, y2, fun j hj => by rw [y3 j hj, a7 j (by omega) (by omega)], fun r b c => by rw [y4 r b c, a8 r b c], by rw [y5, a9]⟩
      by_cases c10 : σ.1 2 a = 10
      · rw [if_pos c10]
        exact white (by unfold q_wht; exact decide_eq_true (Or.inl (w10.mp c10)))
      · rw [if_neg c10]
        by_cases c32 : σ.1 2 a = 32
        · rw [if_pos c32]
          exact white (by unfold q_wht; exact decide_eq_true (Or.inr (w32.mp c32)))
        · have nw : q_wht (B a) = false := by
            unfold q_wht
            exact decide_eq_false (fun q => q.elim (fun z => c10 (w10.mpr z)) (fun z => c32 (w32.mpr z)))
          rw [if_neg c32, s_X9_isLetter, e_bdS, by'.ltr]
          have hK : K < 700 := by omega
          cases hl : q_ltr (B a) with
          | true =>
            rw [if_pos rfl, if_neg q_t10]
            obtain ⟨e, hR⟩ := q_run_ex q_ltr B N (N - a) a (by omega) (by omega) hl
            obtain ⟨s, v, σ1, y1, y2, y3⟩ := s_cutWord_l K a e hK hR hN (e - a) FU 0 σ (by have := hR.1; omega) (by unfold FU; have := hR.2.1; omega) hB W t3 t4 h8
            unfold f_X9_cutWord
            have y1' : f_X9_cutWord_b7 FU (nI a) 0 σ = some σ1 := y1
            rw [h8, e_nm, y1', e_bvS]
            exact tok s v e σ1 ⟨haN, hR.2.1, hR.1, nw, Or.inl ⟨hR, y3⟩⟩ y2
          | false =>
            rw [if_pos q_if0, s_X9_isDigit, e_bdS, by'.dgt]
            cases hd : q_dgt (B a) with
            | true =>
              rw [if_pos rfl, if_neg q_t10]
              obtain ⟨e, hR⟩ := q_run_ex q_dgt B N (N - a) a (by omega) (by omega) hd
              obtain ⟨σ1, y1, y2⟩ := s_cutNumber_l K a e hK hR hN (e - a) FU 0 σ (by have := hR.1; omega) (by unfold FU; have := hR.2.1; omega) hB t3 t4 h8
              unfold f_X9_cutNumber
              have y1' : f_X9_cutNumber_b7 FU (nI a) 0 σ = some σ1 := y1
              rw [h8, e_nm, y1', e_bvS]
              exact tok 3 _ e σ1 ⟨haN, hR.2.1, hR.1, nw, Or.inr (Or.inl ⟨hl, hR, rfl, rfl⟩)⟩ y2
            | false =>
              rw [if_pos q_if0]
              obtain ⟨s, e, σ1, y1, y2, y3⟩ := s_cutSign K a hK haN hN σ hB t3 t4 h8
              rw [y1, e_bvS]
              have he : e ≤ N ∧ a < e := by
                rcases y3 with ⟨-, -, q⟩ | ⟨q1, q2, q⟩
                · omega
                · refine ⟨?_, by omega⟩
                  have : a + 1 < N := by
                    apply Nat.lt_of_not_le
                    intro z
                    apply q1
                    have e0 : q_snd B N a = 0 := by unfold q_snd; rw [if_neg (by omega)]
                    rw [e0]
                    unfold q_pr
                    rw [if_neg (fun w => absurd w.2 (by decide)), if_neg (fun w => absurd w.2 (by decide)), if_neg (fun w => absurd w.2 (by decide))]
                  omega
              exact tok s 0 e σ1 ⟨haN, he.1, he.2, nw, Or.inr (Or.inr ⟨hl, hd, rfl, y3⟩)⟩ y2
end
