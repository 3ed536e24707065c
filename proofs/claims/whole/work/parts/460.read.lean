section
variable {X : q_X} {o : Nat} {σ μ : MSt}
theorem q_bt0 : ∀ i, q_bt 0 i = false := fun i => by
  unfold q_bt
  show (0#32).getLsbD i = false
  simp
theorem s_read (W : q_LAW) (M : q_CM X) (ho : o = 10 ∨ o = 30) (CT : q_CT X σ) (BG : q_BG X μ) : ∃ σ' μ' r, f_X7_read o σ = some (r, σ') ∧ q_lp FU μ = some μ' ∧ q_GC o σ σ' ∧ q_GM μ μ' ∧ ((∃ nb nl nd nw nk t ln, r = nI ln ∧ q_IV X o nb nl nd nw nk t ln σ' μ') ∨ (q_CB X o σ' ∧ q_zD X σ' μ')) := by
  obtain ⟨g1, g2, g3, g4, g5, g6, g7, g8⟩ := BG
  have kt : k_tg o = true := by rcases ho with rfl | rfl <;> decide
  have kc : k_ch (Int32.ofNat o) = true ∧ (Int32.ofNat o).toNatClampNeg = o ∧ Int32.ofNat o = nI o := by rcases ho with rfl | rfl <;> decide
  have e71 : (mI σ 7 1 (Int32.ofNat o)).1 7 1 = Int32.ofNat o := by simp [m_I]
  obtain ⟨σ6, c1, c2, c3, c4⟩ := s_X0_clear o (mI σ 7 1 (Int32.ofNat o))
  unfold f_X7_read
  rw [e_ck kt, e_nm, e71, e_ck kc.1, e_nm, kc.2.1, c1, e_bvS]
  simp only [e_nm]
  have fr : ∀ r, r ≠ 7 → (mI (mI (mI (mI σ6 7 2 0) 7 3 0) 7 4 0) 7 8 0).1 r = σ6.1 r := fun r hr => by rw [m_Ir _ _ _ _ hr, m_Ir _ _ _ _ hr, m_Ir _ _ _ _ hr, m_Ir _ _ _ _ hr]
  have fz : ∀ j, (j = 2 ∨ j = 3 ∨ j = 4 ∨ j = 8) → (mI (mI (mI (mI σ6 7 2 0) 7 3 0) 7 4 0) 7 8 0).1 7 j = 0 := fun j hj => by rcases hj with rfl | rfl | rfl | rfl <;> simp [m_I]
  have f1 : (mI (mI (mI (mI σ6 7 2 0) 7 3 0) 7 4 0) 7 8 0).1 7 1 = nI o := by
    rw [m_I, if_neg (by omega), m_I, if_neg (by omega), m_I, if_neg (by omega), m_I, if_neg (by omega), c3 7 (by omega), e71, kc.2.2]
  have f22 : (mI (mI (mI (mI σ6 7 2 0) 7 3 0) 7 4 0) 7 8 0).2 = σ.2 := by rw [m_I2, m_I2, m_I2, m_I2, c4, m_I2]
  generalize mI (mI (mI (mI σ6 7 2 0) 7 3 0) 7 4 0) 7 8 0 = σ7 at *
  have rr : ∀ r, r ≠ 7 → (r < o ∨ o + 12 < r) → σ7.1 r = σ.1 r := fun r a b => by rw [fr r a, c3 r b, m_Ir _ _ _ _ a]
  have gc : q_GC o σ σ7 := ⟨fun r a _ c => rr r a c, f22⟩
  obtain ⟨l1, l2, l3, l4, l5, l6, l7, l8, l9, l10, l11⟩ := c2
  have m2 : ∀ j, j < 9 → j ≠ 5 → j ≠ 6 → μ.1 2 (9 + j) = 0 := fun j a b c => by rw [g7 j a, if_neg b, if_neg c]
  have IV : q_IV X o 0 0 0 0 0 0 0 σ7 μ := by
    refine ⟨⟨CT.eq (rr 1 (by omega) (by omega)) (rr 3 (by omega) (by omega)) (rr 4 (by omega) (by omega)) (rr 5 (by omega) (by omega)), ho, f1, by omega, by rw [fr o (by omega), l4]; rfl, m2 0 (by omega) (by omega) (by omega), fun i hi => by omega⟩, ⟨fz 4 (by omega), g2, fz 2 (by omega), g1⟩, ⟨⟨⟨by omega, by omega, by omega, by omega⟩, ⟨by rw [fr o (by omega), l5]; rfl, by rw [fr o (by omega), l6]; rfl, by rw [fr o (by omega), l7]; rfl, by rw [fr (o + 7) (by omega), l2]; rfl⟩, ⟨m2 1 (by omega) (by omega) (by omega), m2 2 (by omega) (by omega) (by omega), m2 3 (by omega) (by omega) (by omega), m2 8 (by omega) (by omega) (by omega)⟩, fz 8 (by omega), g6, g5⟩, ⟨⟨fun _ => ⟨by rw [fr o (by omega), l8], m2 4 (by omega) (by omega) (by omega)⟩, fun q => by omega⟩, ⟨9, by omega, by omega, by rw [fr o (by omega), l9]; rfl, g7 5 (by omega)⟩, ⟨50, by omega, by omega, by rw [fr o (by omega), l10]; rfl, g7 6 (by omega)⟩, ⟨0, by omega, by omega, by rw [fr o (by omega), l11]; rfl, m2 7 (by omega) (by omega) (by omega)⟩⟩, ⟨fun a b ha hb => ?_, fun l hl => by omega⟩, fun i hi => by omega, fun i hi => by omega, ⟨fun r hr => ⟨0, 0, by omega, by omega, ?_, ?_, (g8 r hr).1, (g8 r hr).2, fun q => by omega⟩, fun j hj => by omega⟩, ?_⟩, g4, by omega⟩
    · rw [fr (o + 2) (by omega), l1 _ (by omega)]
      unfold q_lane
      rw [if_neg (by omega)]
    · rw [fr (o + 10) (by omega)]; exact (l3 r hr).1
    · rw [fr (o + 11) (by omega)]; exact (l3 r hr).2
    · rw [fz 3 (by omega), g3]
      exact ⟨fun w _ _ => by rw [q_bt0, q_bt0], fun k _ => by rw [q_bt0, q_bt0]⟩
  have hK := M.2.1
  have hN := M.1.1
  obtain ⟨σ', μ', r, z1, z2, z3, z4, z5⟩ := q_lines W M (xK X) FU FU 0 0 0 0 0 0 0 σ7 μ (by omega) (by unfold FU; omega) (by unfold FU; omega) IV
  exact ⟨σ', μ', r, z1, z2, gc.trans z3, z4, z5⟩
/-- the halves -/
theorem s_half_l (a N h : Nat) (hN : N = 2 * h) (hh : h ≤ 64) : ∀ (k n i : Nat) (μ : MSt), i + k = h → k < n → ∃ μ', f_X12_half_b7 a N n (nI h) (nI i) μ = some μ' ∧ (∀ j, i ≤ j → j < h → μ'.1 a j = μ.1 a (h + j)) ∧ (∀ j, (j < i ∨ h ≤ j) → μ'.1 a j = μ.1 a j) ∧ (∀ r, r ≠ a → μ'.1 r = μ.1 r) := by
  intro k
  induction k with
  | zero =>
    intro n i μ h1 h2
    obtain ⟨n, rfl⟩ : ∃ z, n = z + 1 := ⟨n - 1, by omega⟩
    have hi : i = h := by omega
    subst hi
    refine ⟨μ, ?_, fun j a b => by omega, fun _ _ => rfl, fun _ _ => rfl⟩
    show f_X12_half_b7_s a N (f_X12_half_b7 a N n) (nI i) (nI i) μ = _
    unfold f_X12_half_b7_s
    rw [if_pos (nI_le (Nat.le_refl _) (by omega))]
  | succ k ih =>
    intro n i μ h1 h2
    obtain ⟨n, rfl⟩ : ∃ z, n = z + 1 := ⟨n - 1, by omega⟩
    have st : f_X12_half_b7 a N (n + 1) (nI h) (nI i) μ = f_X12_half_b7 a N n (nI h) (nI (i + 1)) (mI μ a i (μ.1 a (h + i))) := by
      show f_X12_half_b7_s a N (f_X12_half_b7 a N n) (nI h) (nI i) μ = _
      unfold f_X12_half_b7_s
      rw [if_neg (nI_ge (by omega) (by omega)), nI_add, e_ck (e_in (by omega) (by omega)), e_ck (e_in (by omega) (by omega)), nI_clamp (by omega), nI_clamp (by omega), e_nm, nI_1, e_nm]
    obtain ⟨μ', y1, y2, y3, y4⟩ := ih n (i + 1) (mI μ a i (μ.1 a (h + i))) (by omega) (by omega)
    refine ⟨μ', st.trans y1, fun j p q => ?_, fun j p => ?_, fun r p => by rw [y4 r p, m_Ir _ _ _ _ p]⟩
    · by_cases c : j = i
      · subst c; rw [y3 j (by omega), m_I, if_pos ⟨rfl, rfl⟩]
      · rw [y2 j (by omega) q, m_I, if_neg (by omega)]
    · rw [y3 j (by omega), m_I, if_neg (by omega)]
theorem s_half (a N h : Nat) (hN : N = 2 * h) (hh : h ≤ 64) (μ : MSt) (he : Int32.ofNat N / 2 = nI h) : ∃ μ', f_X12_half a N μ = some μ' ∧ (∀ j, j < h → μ'.1 a j = μ.1 a (h + j)) ∧ (∀ r, r ≠ a → μ'.1 r = μ.1 r) := by
  obtain ⟨μ', y1, y2, -, y4⟩ := s_half_l a N h hN hh h FU 0 μ (by omega) (by unfold FU; omega)
  refine ⟨μ', ?_, fun j hj => y2 j (by omega) hj, y4⟩
  unfold f_X12_half
  rw [he, e_nm]
  exact y1
/-- all halves -/
theorem s_halves (μ : MSt) (G : MSt → Option (Int32 × MSt)) : ∃ μ', (k_bv (f_X12_half 2 18 μ) fun σ3 => k_bv (f_X12_half 3 16 σ3) fun σ4 => k_bv (f_X12_half 4 24 σ4) fun σ5 => k_bv (f_X12_half 5 24 σ5) fun σ6 => k_bv (f_X12_half 6 24 σ6) fun σ7 => k_bv (f_X12_half 7 24 σ7) fun σ8 => k_bv (f_X12_half 8 24 σ8) fun σ9 => k_bv (f_X12_half 9 24 σ9) fun σ10 => k_bv (f_X12_half 10 40 σ10) fun σ11 => k_bv (f_X12_half 11 6 σ11) fun σ12 => k_bv (f_X12_half 12 6 σ12) fun σ13 => k_bv (f_X12_half 13 128 σ13) fun σ14 => k_bv (f_X12_half 14 128 σ14) fun σ15 => G σ15) = G μ' ∧ (∀ r j, 2 ≤ r → r ≤ 14 → j < q_hf r → μ'.1 r j = μ.1 r (q_hf r + j)) ∧ (∀ r, (r < 2 ∨ 14 < r) → μ'.1 r = μ.1 r) := by
  obtain ⟨m2, a2, b2, c2⟩ := s_half 2 18 9 (by omega) (by omega) μ (by decide)
  obtain ⟨m3, a3, b3, c3⟩ := s_half 3 16 8 (by omega) (by omega) m2 (by decide)
  obtain ⟨m4, a4, b4, c4⟩ := s_half 4 24 12 (by omega) (by omega) m3 (by decide)
  obtain ⟨m5, a5, b5, c5⟩ := s_half 5 24 12 (by omega) (by omega) m4 (by decide)
  obtain ⟨m6, a6, b6, c6⟩ := s_half 6 24 12 (by omega) (by omega) m5 (by decide)
  obtain ⟨m7, a7, b7, c7⟩ := s_half 7 24 12 (by omega) (by omega) m6 (by decide)
  obtain ⟨m8, a8, b8, c8⟩ := s_half 8 24 12 (by omega) (by omega) m7 (by decide)
  obtain ⟨m9, a9, b9, c9⟩ := s_half 9 24 12 (by omega) (by omega) m8 (by decide)
  obtain ⟨m10, a10, b10, c10⟩ := s_half 10 40 20 (by omega) (by omega) m9 (by decide)
  obtain ⟨m11, a11, b11, c11⟩ := s_half 11 6 3 (by omega) (by omega) m10 (by decide)
  obtain ⟨m12, a12, b12, c12⟩ := s_half 12 6 3 (by omega) (by omega) m11 (by decide)
  obtain ⟨m13, a13, b13, c13⟩ := s_half 13 128 64 (by omega) (by omega) m12 (by decide)
  obtain ⟨m14, a14, b14, c14⟩ := s_half 14 128 64 (by omega) (by omega) m13 (by decide)
  rw [a2, e_bvS, a3, e_bvS, a4, e_bvS, a5, e_bvS, a6, e_bvS, a7, e_bvS, a8, e_bvS, a9, e_bvS, a10, e_bvS, a11, e_bvS, a12, e_bvS, a13, e_bvS, a14, e_bvS]
  refine ⟨m14, rfl, fun r j h1 h2 h3 => ?_, fun r hr => by rw [c14 r (by omega), c13 r (by omega), c12 r (by omega), c11 r (by omega), c10 r (by omega), c9 r (by omega), c8 r (by omega), c7 r (by omega), c6 r (by omega), c5 r (by omega), c4 r (by omega), c3 r (by omega), c2 r (by omega)]⟩
  have : r = 2 ∨ r = 3 ∨ r = 4 ∨ r = 5 ∨ r = 6 ∨ r = 7 ∨ r = 8 ∨ r = 9 ∨ r = 10 ∨ r = 11 ∨ r = 12 ∨ r = 13 ∨ r = 14 := by omega
  rcases this with rfl | rfl | rfl | rfl | rfl | rfl | rfl | rfl | rfl | rfl | rfl | rfl | rfl
  · rw [c14 2 (by omega), c13 2 (by omega), c12 2 (by omega), c11 2 (by omega), c10 2 (by omega), c9 2 (by omega), c8 2 (by omega), c7 2 (by omega), c6 2 (by omega), c5 2 (by omega), c4 2 (by omega), c3 2 (by omega)]; exact b2 j h3
  · rw [c14 3 (by omega), c13 3 (by omega), c12 3 (by omega), c11 3 (by omega), c10 3 (by omega), c9 3 (by omega), c8 3 (by omega), c7 3 (by omega), c6 3 (by omega), c5 3 (by omega), c4 3 (by omega), b3 j h3, c2 3 (by omega)]; rfl
  · rw [c14 4 (by omega), c13 4 (by omega), c12 4 (by omega), c11 4 (by omega), c10 4 (by omega), c9 4 (by omega), c8 4 (by omega), c7 4 (by omega), c6 4 (by omega), c5 4 (by omega), b4 j h3, c3 4 (by omega), c2 4 (by omega)]; rfl
  · rw [c14 5 (by omega), c13 5 (by omega), c12 5 (by omega), c11 5 (by omega), c10 5 (by omega), c9 5 (by omega), c8 5 (by omega), c7 5 (by omega), c6 5 (by omega), b5 j h3, c4 5 (by omega), c3 5 (by omega), c2 5 (by omega)]; rfl
  · rw [c14 6 (by omega), c13 6 (by omega), c12 6 (by omega), c11 6 (by omega), c10 6 (by omega), c9 6 (by omega), c8 6 (by omega), c7 6 (by omega), b6 j h3, c5 6 (by omega), c4 6 (by omega), c3 6 (by omega), c2 6 (by omega)]; rfl
  · rw [c14 7 (by omega), c13 7 (by omega), c12 7 (by omega), c11 7 (by omega), c10 7 (by omega), c9 7 (by omega), c8 7 (by omega), b7 j h3, c6 7 (by omega), c5 7 (by omega), c4 7 (by omega), c3 7 (by omega), c2 7 (by omega)]; rfl
  · rw [c14 8 (by omega), c13 8 (by omega), c12 8 (by omega), c11 8 (by omega), c10 8 (by omega), c9 8 (by omega), b8 j h3, c7 8 (by omega), c6 8 (by omega), c5 8 (by omega), c4 8 (by omega), c3 8 (by omega), c2 8 (by omega)]; rfl
  · rw [c14 9 (by omega), c13 9 (by omega), c12 9 (by omega), c11 9 (by omega), c10 9 (by omega), b9 j h3, c8 9 (by omega), c7 9 (by omega), c6 9 (by omega), c5 9 (by omega), c4 9 (by omega), c3 9 (by omega), c2 9 (by omega)]; rfl
  · rw [c14 10 (by omega), c13 10 (by omega), c12 10 (by omega), c11 10 (by omega), b10 j h3, c9 10 (by omega), c8 10 (by omega), c7 10 (by omega), c6 10 (by omega), c5 10 (by omega), c4 10 (by omega), c3 10 (by omega), c2 10 (by omega)]; rfl
  · rw [c14 11 (by omega), c13 11 (by omega), c12 11 (by omega), b11 j h3, c10 11 (by omega), c9 11 (by omega), c8 11 (by omega), c7 11 (by omega), c6 11 (by omega), c5 11 (by omega), c4 11 (by omega), c3 11 (by omega), c2 11 (by omega)]; rfl
  · rw [c14 12 (by omega), c13 12 (by omega), b12 j h3, c11 12 (by omega), c10 12 (by omega), c9 12 (by omega), c8 12 (by omega), c7 12 (by omega), c6 12 (by omega), c5 12 (by omega), c4 12 (by omega), c3 12 (by omega), c2 12 (by omega)]; rfl
  · rw [c14 13 (by omega), b13 j h3, c12 13 (by omega), c11 13 (by omega), c10 13 (by omega), c9 13 (by omega), c8 13 (by omega), c7 13 (by omega), c6 13 (by omega), c5 13 (by omega), c4 13 (by omega), c3 13 (by omega), c2 13 (by omega)]; rfl
  · rw [b14 j h3, c13 14 (by omega), c12 14 (by omega), c11 14 (by omega), c10 14 (by omega), c9 14 (by omega), c8 14 (by omega), c7 14 (by omega), c6 14 (by omega), c5 14 (by omega), c4 14 (by omega), c3 14 (by omega), c2 14 (by omega)]; rfl
end
