/-- the reference's value of a sign and what stands behind it -/
def q_sv (c d : Int32) : Int32 := if c = 60 ∧ d = 61 then 256 else if c = 60 ∧ d = 62 then 257 else if c = 62 ∧ d = 61 then 258 else c
theorem s_X12_signtail {N : Nat} {μ : MSt} (hN : N ≤ 700) (p : Nat) (hp : p < N) (h18 : μ.1 0 18 = nI N) (h19 : μ.1 0 19 = nI (p + 1)) (h20 : μ.1 0 20 = nI p) (k : Nat) (hk : k < 256) (y1 : Int32) : ∃ μ', f_X12_sign_b76 (nI k) y1 μ = some μ' ∧ q_AT μ' p (if q_sv (nI k) (if p + 1 < N then μ.1 1 (p + 1) else -1) = nI k then p + 1 else p + 2) y1 (q_sv (nI k) (if p + 1 < N then μ.1 1 (p + 1) else -1)) ∧ FK μ μ' := by
  have go : ∀ (μ1 : MSt), FK μ μ1 → μ1.1 0 20 = nI p → μ1.1 0 19 = nI (p + 1) → μ1.1 0 21 = y1 → ∀ v, μ1.1 0 22 = v → (v < 256 → v = nI k) → (¬ v < 256 → ¬ v = nI k) → ∃ μ', f_X12_sign_b150 μ1 = some μ' ∧ q_AT μ' p (if v = nI k then p + 1 else p + 2) y1 v ∧ FK μ μ' := by
    intro μ1 fk g20 g19 g21 v g22 hv1 hv2
    unfold f_X12_sign_b150 f_X12_sign_b170
    rw [g22]
    by_cases c : v < 256
    · rw [if_pos c, if_pos (hv1 c)]; exact ⟨μ1, rfl, ⟨g20, g19, g21, g22⟩, fk⟩
    · rw [if_neg c, if_neg (hv2 c), g19, nI_1, e_nm]
      exact ⟨_, rfl, ⟨by rw [m_I, if_neg (by omega)]; exact g20, by simp [m_I], by rw [m_I, if_neg (by omega)]; exact g21, by rw [m_I, if_neg (by omega)]; exact g22⟩, fk.trans (FK.m _ _ _ (by omega))⟩
  have fk2 : FK μ (mI (mI μ 0 21 y1) 0 22 (nI k)) := (FK.m _ _ _ (by omega)).trans (FK.m _ _ _ (by omega))
  have w20 : (mI (mI μ 0 21 y1) 0 22 (nI k)).1 0 20 = nI p := by simp [m_I]; exact h20
  have w19 : (mI (mI μ 0 21 y1) 0 22 (nI k)).1 0 19 = nI (p + 1) := by simp [m_I]; exact h19
  have w18 : (mI (mI μ 0 21 y1) 0 22 (nI k)).1 0 18 = nI N := by simp [m_I]; exact h18
  have w21 : (mI (mI μ 0 21 y1) 0 22 (nI k)).1 0 21 = y1 := by simp [m_I]
  have w22 : (mI (mI μ 0 21 y1) 0 22 (nI k)).1 0 22 = nI k := by simp [m_I]
  have w1 : (mI (mI μ 0 21 y1) 0 22 (nI k)).1 1 = μ.1 1 := by rw [m_Ir _ _ _ _ (by omega), m_Ir _ _ _ _ (by omega)]
  unfold f_X12_sign_b76 f_X12_sign_b106 f_X12_sign_b128
  simp only [e_nm]
  generalize mI (mI μ 0 21 y1) 0 22 (nI k) = μ2 at *
  generalize hd : (if p + 1 < N then μ.1 1 (p + 1) else -1) = d
  have he : ∀ μ3 : MSt, FK μ2 μ3 → μ3.1 0 19 = nI (p + 1) → f_X12_here μ3 = some (d, μ3) := by
    intro μ3 f g
    rw [s_X12_here hN (p + 1) (by omega) (by rw [f.2 18 (by omega)]; exact w18) g, f.1 1 (by omega), w1, hd]
  have pl : nI k < 256 := nI_lt (a := k) (b := 256) hk (by decide)
  have e0 := he μ2 FK.rf w19
  have n256 : ∀ v : Int32, ¬ v < 256 → ¬ v = nI k := fun v hv q => hv (by rw [q]; exact pl)
  by_cases c60 : nI k = 60
  · have n62 : ¬ nI k = 62 := by rw [c60]; decide
    by_cases d61 : d = 61
    · have d62 : ¬ d = 62 := by rw [d61]; decide
      have ev : q_sv (nI k) d = 256 := by unfold q_sv; rw [if_pos ⟨c60, d61⟩]
      have f3 : FK μ2 (mI μ2 0 22 256) := FK.m _ _ _ (by omega)
      have e3 := he _ f3 (by rw [m_I, if_neg (by omega)]; exact w19)
      rw [ev]
      simp only [if_pos c60, e0, e_bdS, if_pos d61, if_neg n62, e3, if_neg d62]
      exact go _ (fk2.trans f3) (by rw [m_I, if_neg (by omega)]; exact w20) (by rw [m_I, if_neg (by omega)]; exact w19) (by rw [m_I, if_neg (by omega)]; exact w21) 256 (by simp [m_I]) (fun q => absurd q (by decide)) (n256 256)
    · by_cases d62 : d = 62
      · have ev : q_sv (nI k) d = 257 := by unfold q_sv; rw [if_neg (fun q => d61 q.2), if_pos ⟨c60, d62⟩]
        have f3 : FK μ2 (mI μ2 0 22 257) := FK.m _ _ _ (by omega)
        rw [ev]
        simp only [if_pos c60, e0, e_bdS, if_neg d61, if_neg n62, if_pos d62]
        exact go _ (fk2.trans f3) (by rw [m_I, if_neg (by omega)]; exact w20) (by rw [m_I, if_neg (by omega)]; exact w19) (by rw [m_I, if_neg (by omega)]; exact w21) 257 (by simp [m_I]) (fun q => absurd q (by decide)) (n256 257)
      · have ev : q_sv (nI k) d = nI k := by unfold q_sv; rw [if_neg (fun q => d61 q.2), if_neg (fun q => d62 q.2), if_neg (fun q => n62 q.1)]
        rw [ev]
        simp only [if_pos c60, e0, e_bdS, if_neg d61, if_neg n62, if_neg d62]
        have gg := go _ fk2 w20 w19 w21 _ w22 (fun _ => rfl) (n256 _)
        rw [if_pos rfl] at gg
        simp only [if_true]
        exact gg
  · by_cases c62 : nI k = 62
    · by_cases d61 : d = 61
      · have ev : q_sv (nI k) d = 258 := by unfold q_sv; rw [if_neg (fun q => c60 q.1), if_neg (fun q => c60 q.1), if_pos ⟨c62, d61⟩]
        have f3 : FK μ2 (mI μ2 0 22 258) := FK.m _ _ _ (by omega)
        rw [ev]
        simp only [if_neg c60, if_pos c62, e0, e_bdS, if_pos d61]
        exact go _ (fk2.trans f3) (by rw [m_I, if_neg (by omega)]; exact w20) (by rw [m_I, if_neg (by omega)]; exact w19) (by rw [m_I, if_neg (by omega)]; exact w21) 258 (by simp [m_I]) (fun q => absurd q (by decide)) (n256 258)
      · have ev : q_sv (nI k) d = nI k := by unfold q_sv; rw [if_neg (fun q => c60 q.1), if_neg (fun q => c60 q.1), if_neg (fun q => d61 q.2)]
        rw [ev]
        simp only [if_neg c60, if_pos c62, e0, e_bdS, if_neg d61]
        have gg := go _ fk2 w20 w19 w21 _ w22 (fun _ => rfl) (n256 _)
        rw [if_pos rfl] at gg
        simp only [if_true]
        exact gg
    · have ev : q_sv (nI k) d = nI k := by unfold q_sv; rw [if_neg (fun q => c60 q.1), if_neg (fun q => c60 q.1), if_neg (fun q => c62 q.1)]
      rw [ev]
      simp only [if_neg c60, if_neg c62]
      have gg := go _ fk2 w20 w19 w21 _ w22 (fun _ => rfl) (n256 _)
      rw [if_pos rfl] at gg
      simp only [if_true]
      exact gg
/-- is it a sign of the language? -/
def q_is (c : Int32) : Bool := decide (c = 59 ∨ c = 40 ∨ c = 41 ∨ c = 43 ∨ c = 45 ∨ c = 42 ∨ c = 47 ∨ c = 60 ∨ c = 61 ∨ c = 62)
theorem s_X12_sign0 (c : Int32) (μ : MSt) : f_X12_sign c μ = f_X12_sign_b76 c (if q_is c then 3 else 5) (mI μ 0 19 (μ.1 0 19 + 1)) := by
  unfold f_X12_sign f_X12_sign_b71 q_is
  rw [e_nm]
  by_cases h1 : c = 59
  · rw [if_pos h1, if_pos (decide_eq_true (Or.inl h1))]
  by_cases h2 : c = 40
  · rw [if_neg h1, if_pos h2, if_pos (by simp [h2])]
  by_cases h3 : c = 41
  · rw [if_neg h1, if_neg h2, if_pos h3, if_pos (by simp [h3])]
  by_cases h4 : c = 43
  · rw [if_neg h1, if_neg h2, if_neg h3, if_pos h4, if_pos (by simp [h4])]
  by_cases h5 : c = 45
  · rw [if_neg h1, if_neg h2, if_neg h3, if_neg h4, if_pos h5, if_pos (by simp [h5])]
  by_cases h6 : c = 42
  · rw [if_neg h1, if_neg h2, if_neg h3, if_neg h4, if_neg h5, if_pos h6, if_pos (by simp [h6])]
  by_cases h7 : c = 47
  · rw [if_neg h1, if_neg h2, if_neg h3, if_neg h4, if_neg h5, if_neg h6, if_pos h7, if_pos (by simp [h7])]
  by_cases h8 : c = 60
  · rw [if_neg h1, if_neg h2, if_neg h3, if_neg h4, if_neg h5, if_neg h6, if_neg h7, if_pos h8, if_pos (by simp [h8])]
  by_cases h9 : c = 61
  · rw [if_neg h1, if_neg h2, if_neg h3, if_neg h4, if_neg h5, if_neg h6, if_neg h7, if_neg h8, if_pos h9, if_pos (by simp [h9])]
  by_cases h10 : c = 62
  · rw [if_neg h1, if_neg h2, if_neg h3, if_neg h4, if_neg h5, if_neg h6, if_neg h7, if_neg h8, if_neg h9, if_pos h10, if_pos (by simp [h10])]
  rw [if_neg h1, if_neg h2, if_neg h3, if_neg h4, if_neg h5, if_neg h6, if_neg h7, if_neg h8, if_neg h9, if_neg h10, if_neg (by simp [h1, h2, h3, h4, h5, h6, h7, h8, h9, h10])]
theorem q_TRs {s v va : Int32} (h : q_SG s va) : q_TR s v 3 va := Or.inr (Or.inr (Or.inr (Or.inr ⟨h, rfl⟩)))
/-- the class's sign and the reference's -/
theorem q_sgn (c d d' : Int32) (hd : ∀ L : Int32, (L = 61 ∨ L = 62) → (d = L ↔ d' = L)) (k : Nat) (hk : k < 256) (ec : c = nI k) : ((q_pr c d = 1 ∧ q_sv c d' = c) ∧ q_TR (q_sg c) 0 (if q_is c then 3 else 5) (q_sv c d')) ∨ ((¬ q_pr c d = 1 ∧ ¬ q_sv c d' = c) ∧ q_TR (q_pr c d) 0 (if q_is c then 3 else 5) (q_sv c d')) := by
  have e61 := hd 61 (Or.inl rfl)
  have e62 := hd 62 (Or.inr rfl)
  by_cases a1 : c = 60 ∧ d = 61
  · right
    have p1 : q_pr c d = 48 := by unfold q_pr; rw [if_pos a1]
    have p2 : q_sv c d' = 256 := by unfold q_sv; rw [if_pos ⟨a1.1, e61.mp a1.2⟩]
    rw [p1, p2, a1.1]
    exact ⟨⟨by decide, by decide⟩, q_TRs (by unfold q_SG; decide)⟩
  · by_cases a2 : c = 60 ∧ d = 62
    · right
      have p1 : q_pr c d = 50 := by unfold q_pr; rw [if_neg a1, if_pos a2]
      have p2 : q_sv c d' = 257 := by unfold q_sv; rw [if_neg (fun q : c = 60 ∧ d' = 61 => a1 ⟨q.1, e61.mpr q.2⟩), if_pos ⟨a2.1, e62.mp a2.2⟩]
      rw [p1, p2, a2.1]
      exact ⟨⟨by decide, by decide⟩, q_TRs (by unfold q_SG; decide)⟩
    · by_cases a3 : c = 62 ∧ d = 61
      · right
        have p1 : q_pr c d = 51 := by unfold q_pr; rw [if_neg a1, if_neg a2, if_pos a3]
        have p2 : q_sv c d' = 258 := by unfold q_sv; rw [if_neg (fun q : c = 60 ∧ d' = 61 => a1 ⟨q.1, e61.mpr q.2⟩), if_neg (fun q : c = 60 ∧ d' = 62 => a2 ⟨q.1, e62.mpr q.2⟩), if_pos ⟨a3.1, e61.mp a3.2⟩]
        rw [p1, p2, a3.1]
        exact ⟨⟨by decide, by decide⟩, q_TRs (by unfold q_SG; decide)⟩
      · left
        have p1 : q_pr c d = 1 := by unfold q_pr; rw [if_neg a1, if_neg a2, if_neg a3]
        have p2 : q_sv c d' = c := by unfold q_sv; rw [if_neg (fun q : c = 60 ∧ d' = 61 => a1 ⟨q.1, e61.mpr q.2⟩), if_neg (fun q : c = 60 ∧ d' = 62 => a2 ⟨q.1, e62.mpr q.2⟩), if_neg (fun q : c = 62 ∧ d' = 61 => a3 ⟨q.1, e61.mpr q.2⟩)]
        rw [p1, p2]
        refine ⟨⟨rfl, rfl⟩, ?_⟩
        by_cases h1 : c = 59
        · rw [h1]; exact q_TRs (by unfold q_SG; decide)
        by_cases h2 : c = 40
        · rw [h2]; exact q_TRs (by unfold q_SG; decide)
        by_cases h3 : c = 41
        · rw [h3]; exact q_TRs (by unfold q_SG; decide)
        by_cases h4 : c = 43
        · rw [h4]; exact q_TRs (by unfold q_SG; decide)
        by_cases h5 : c = 45
        · rw [h5]; exact q_TRs (by unfold q_SG; decide)
        by_cases h6 : c = 42
        · rw [h6]; exact q_TRs (by unfold q_SG; decide)
        by_cases h7 : c = 47
        · rw [h7]; exact q_TRs (by unfold q_SG; decide)
        by_cases h8 : c = 60
        · rw [h8]; exact q_TRs (by unfold q_SG; decide)
        by_cases h9 : c = 61
        · rw [h9]; exact q_TRs (by unfold q_SG; decide)
        by_cases h10 : c = 62
        · rw [h10]; exact q_TRs (by unfold q_SG; decide)
        left
        refine ⟨?_, ?_⟩
        · unfold q_sg
          simp only [h1, h2, h3, h4, h5, h6, h7, h8, h9, h10, if_false]
        · rw [if_neg (by unfold q_is; simp [h1, h2, h3, h4, h5, h6, h7, h8, h9, h10])]
/-- the reference's bytes are bytes -/
def q_HB (B : Nat → Int32) (N : Nat) : Prop := N ≤ 700 ∧ ∀ i, i < N → ∃ k, k < 256 ∧ B i = nI k
theorem s_token_l {N : Nat} {μ : MSt} (HB : q_HB (μ.1 1) N) (p : Nat) (hp : p ≤ N) (hw : p = N ∨ q_wht (μ.1 1 p) = false) : ∀ (m n a : Nat) (μ1 : MSt), a + m = p → m < n → FK μ μ1 → μ1.1 0 18 = nI N → μ1.1 0 19 = nI a → (∀ i, a ≤ i → i < p → q_wht (μ.1 1 i) = true) → (p = N → ∃ μ' va, f_X12_token_b0 n μ1 = some μ' ∧ q_AT μ' N N 4 va ∧ FK μ μ') ∧ (∀ s v e, q_LX (μ.1 1) N p s v e → ∃ μ' so va, f_X12_token_b0 n μ1 = some μ' ∧ q_AT μ' p e so va ∧ q_TR s v so va ∧ FK μ μ') := by
  obtain ⟨hN, hb⟩ := HB
  intro m
  induction m with
  | zero =>
    intro n a μ1 h1 h2 fk h18 h19 hws
    obtain ⟨n, rfl⟩ : ∃ z, n = z + 1 := ⟨n - 1, by omega⟩
    have ea : a = p := by omega
    subst ea
    have e1 : μ1.1 1 = μ.1 1 := fk.1 1 (by omega)
    have fk2 : FK μ (mI μ1 0 20 (nI a)) := fk.trans (FK.m _ _ _ (by omega))
    have w18 : (mI μ1 0 20 (nI a)).1 0 18 = nI N := by rw [m_I, if_neg (by omega)]; exact h18
    have w19 : (mI μ1 0 20 (nI a)).1 0 19 = nI a := by rw [m_I, if_neg (by omega)]; exact h19
    have w20 : (mI μ1 0 20 (nI a)).1 0 20 = nI a := by simp [m_I]
    have w1 : (mI μ1 0 20 (nI a)).1 1 = μ.1 1 := by rw [m_Ir _ _ _ _ (by omega), e1]
    constructor
    · intro e
      subst e
      show ∃ μ' va, f_X12_token_b0_s (f_X12_token_b0 n) μ1 = some μ' ∧ _
      unfold f_X12_token_b0_s f_X12_token_b225
      rw [s_X12_here hN a (by omega) h18 h19, e_bdS, if_neg (show ¬ a < a by omega), if_neg (show ¬ (-1 : Int32) = 10 by decide), s_X12_here hN a (by omega) h18 h19, e_bdS, if_neg (show ¬ a < a by omega), if_neg (show ¬ (-1 : Int32) = 32 by decide), h19, e_nm, s_X12_here hN a (by omega) w18 w19, e_bdS, if_neg (show ¬ a < a by omega), if_pos rfl, e_nm]
      exact ⟨_, _, rfl, ⟨by rw [m_I, if_neg (by omega)]; exact w20, by rw [m_I, if_neg (by omega)]; exact w19, by simp [m_I], rfl⟩, fk2.trans (FK.m _ _ _ (by omega))⟩
    · intro s v e LX
      obtain ⟨g1, g2, g3, g4, g5⟩ := LX
      have nw : ¬ μ.1 1 a = 10 ∧ ¬ μ.1 1 a = 32 := by
        unfold q_wht at g4
        have := of_decide_eq_false g4
        exact ⟨fun q => this (Or.inl q), fun q => this (Or.inr q)⟩
      obtain ⟨k, hk, ek⟩ := hb a g1
      show ∃ μ' so va, f_X12_token_b0_s (f_X12_token_b0 n) μ1 = some μ' ∧ _
      unfold f_X12_token_b0_s f_X12_token_b225
      rw [s_X12_here hN a (by omega) h18 h19, e_bdS, if_pos g1, e1, if_neg nw.1, s_X12_here hN a (by omega) h18 h19, e_bdS, if_pos g1, e1, if_neg nw.2, h19, e_nm, s_X12_here hN a (by omega) w18 w19, e_bdS, if_pos g1, w1, if_neg (by rw [ek]; exact q_n1 (by omega)), s_X12_isSmall, e_bdS]
      generalize mI μ1 0 20 (nI a) = μ2 at *
      rcases g5 with ⟨hR, hs⟩ | ⟨hl, hR, hs, hv⟩ | ⟨hl, hd, hv, hs⟩
      · rw [hR.2.2.1 a (by omega) g3, if_pos rfl, if_neg q_t10]
        obtain ⟨μ', so, va, y1, y2, y3, y4⟩ := s_tok_word hN a e hR (e - a) FU 0 μ2 (by omega) (by unfold FU; omega) fk2 w18 w20 w19
        exact ⟨μ', so, va, y1, y2, y4 s v hs, y3⟩
      · rw [hl, if_pos q_if0, s_X12_isDigit, e_bdS, hR.2.2.1 a (by omega) g3, if_pos rfl, if_neg q_t10, e_nm, e_nm]
        obtain ⟨μ', y1, y2, y3⟩ := s_tok_num hN a e hR (e - a) FU 0 (mI (mI μ2 0 21 2) 0 22 0) (by omega) (by unfold FU; omega) ((fk2.trans (FK.m _ _ _ (by omega))).trans (FK.m _ _ _ (by omega))) (by simp [m_I]; exact w18) (by simp [m_I]; exact w20) (by simp [m_I]) (by simp [m_I]; exact w19) (by simp [m_I]; rfl)
        refine ⟨μ', 2, _, y1, y2, Or.inr (Or.inr (Or.inl ⟨hs, rfl, ?_⟩)), y3⟩
        rw [hv]
        exact q_nb_nv (μ.1 1) a (e - a) (fun i hi => hR.2.2.1 (a + i) (by omega) (by omega))
      · rw [hl, if_pos q_if0, s_X12_isDigit, e_bdS, hd, if_pos q_if0, s_X12_sign0, w19, nI_1]
        have z1 : (mI μ2 0 19 (nI (a + 1))).1 1 = μ.1 1 := by rw [m_Ir _ _ _ _ (by omega), w1]
        obtain ⟨μ', y1, y2, y3⟩ := s_X12_signtail (μ := mI μ2 0 19 (nI (a + 1))) hN a g1 (by rw [m_I, if_neg (by omega)]; exact w18) (by simp [m_I]) (by rw [m_I, if_neg (by omega)]; exact w20) k hk (if q_is (nI k) then 3 else 5)
        rw [z1] at y2
        rw [ek, y1, e_bvS]
        have fk3 : FK μ μ' := (fk2.trans (FK.m _ _ _ (by omega))).trans y3
        have sg := q_sgn (nI k) (q_snd (μ.1 1) N a) (if a + 1 < N then μ.1 1 (a + 1) else -1) (fun L hL => by
          unfold q_snd
          by_cases c : a + 1 < N
          · rw [if_pos c, if_pos c]
          · rw [if_neg c, if_neg c]
            rcases hL with rfl | rfl <;> decide) k hk rfl
        rw [ek] at hs
        subst hv
        rcases sg with ⟨⟨q1, q2⟩, q3⟩ | ⟨⟨q1, q2⟩, q3⟩
        · rw [if_pos q2] at y2
          rcases hs with ⟨-, x2, x3⟩ | ⟨x1, -, -⟩
          · subst x2; subst x3; exact ⟨μ', _, _, rfl, y2, q3, fk3⟩
          · exact absurd q1 x1
        · rw [if_neg q2] at y2
          rcases hs with ⟨x1, -, -⟩ | ⟨-, x2, x3⟩
          · exact absurd x1 q1
          · subst x2; subst x3; exact ⟨μ', _, _, rfl, y2, q3, fk3⟩
  | succ m ih =>
    intro n a μ1 h1 h2 fk h18 h19 hws
    obtain ⟨n, rfl⟩ : ∃ z, n = z + 1 := ⟨n - 1, by omega⟩
    have e1 : μ1.1 1 = μ.1 1 := fk.1 1 (by omega)
    have haN : a < N := by omega
    have hw1 := hws a (by omega) (by omega)
    have st : f_X12_token_b0 (n + 1) μ1 = f_X12_token_b0 n (mI μ1 0 19 (nI (a + 1))) := by
      show f_X12_token_b0_s (f_X12_token_b0 n) μ1 = _
      unfold f_X12_token_b0_s f_X12_token_b18
      unfold q_wht at hw1
      rw [s_X12_here hN a (by omega) h18 h19, e_bdS, if_pos haN, e1]
      by_cases c : μ.1 1 a = 10
      · rw [if_pos c, h19, nI_1, e_nm]
      · have c2 : μ.1 1 a = 32 := by
          rcases of_decide_eq_true hw1 with q | q
          · exact absurd q c
          · exact q
        rw [if_neg c, s_X12_here hN a (by omega) h18 h19, e_bdS, if_pos haN, e1, if_pos c2, h19, nI_1, e_nm]
    rw [st]
    exact ih n (a + 1) (mI μ1 0 19 (nI (a + 1))) (by omega) (by omega) (fk.trans (FK.m _ _ _ (by omega))) (by rw [m_I, if_neg (by omega)]; exact h18) (by simp [m_I]) (fun i b c => hws i (by omega) c)
