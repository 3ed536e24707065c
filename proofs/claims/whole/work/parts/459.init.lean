/-! how both begin to read -/
section
variable {X : q_X} {o : Nat} {σ μ : MSt}
theorem s_X4_clear_l (o : Nat) : ∀ (k n i : Nat) (σ : MSt), i + k = 3 → k < n → ∃ σ', f_X4_clear_b7 o n (nI i) σ = some σ' ∧ (∀ j, i ≤ j → j < 3 → σ'.1 (o + 3) j = 0 ∧ σ'.1 (o + 4) j = 0) ∧ (∀ j, j < i → σ'.1 (o + 3) j = σ.1 (o + 3) j ∧ σ'.1 (o + 4) j = σ.1 (o + 4) j) ∧ (∀ r, r ≠ o + 3 → r ≠ o + 4 → σ'.1 r = σ.1 r) ∧ σ'.2 = σ.2 := by
  intro k
  induction k with
  | zero =>
    intro n i σ h1 h2
    obtain ⟨n, rfl⟩ : ∃ z, n = z + 1 := ⟨n - 1, by omega⟩
    have hi : i = 3 := by omega
    subst hi
    exact ⟨σ, rfl, fun j a b => by omega, fun j a => ⟨rfl, rfl⟩, fun r a b => rfl, rfl⟩
  | succ k ih =>
    intro n i σ h1 h2
    obtain ⟨n, rfl⟩ : ∃ z, n = z + 1 := ⟨n - 1, by omega⟩
    have hk : k_inb (nI i) 3 = true := e_in (by omega) (by decide)
    have st : f_X4_clear_b7 o (n + 1) (nI i) σ = f_X4_clear_b7 o n (nI (i + 1)) (mI (mI σ (o + 3) i 0) (o + 4) i 0) := by
      show f_X4_clear_b7_s o (f_X4_clear_b7 o n) (nI i) σ = _
      unfold f_X4_clear_b7_s
      rw [if_neg (show ¬ (3 : Int32) ≤ nI i from nI_ge (a := i) (b := 3) (by omega) (by decide))]
      simp only [e_ck hk, e_nm, nI_clamp (show i < 2 ^ 31 by omega), nI_1]
    obtain ⟨σ', y1, y2, y3, y4, y5⟩ := ih n (i + 1) (mI (mI σ (o + 3) i 0) (o + 4) i 0) (by omega) (by omega)
    refine ⟨σ', st.trans y1, fun j a b => ?_, fun j a => ?_, fun r a b => by rw [y4 r a b, m_Ir _ _ _ _ b, m_Ir _ _ _ _ a], y5⟩
    · by_cases c : j = i
      · subst c
        obtain ⟨q1, q2⟩ := y3 j (by omega)
        rw [q1, q2]
        simp [m_I]
      · exact y2 j (by omega) b
    · obtain ⟨q1, q2⟩ := y3 j (by omega)
      rw [q1, q2, m_I, if_neg (by omega), m_I, if_neg (by omega), m_I, if_neg (by omega), m_I, if_neg (by omega)]
      exact ⟨rfl, rfl⟩
/-- an empty chart -/
def q_CL (o : Nat) (σ' : MSt) : Prop := (∀ j, j < 64 → σ'.1 (o + 2) j = 0) ∧ σ'.1 (o + 7) 5 = 0 ∧ (∀ j, j < 3 → σ'.1 (o + 10) j = 0 ∧ σ'.1 (o + 11) j = 0) ∧ σ'.1 o 7 = 0 ∧ σ'.1 o 8 = 0 ∧ σ'.1 o 9 = 0 ∧ σ'.1 o 10 = 0 ∧ σ'.1 o 11 = -1 ∧ σ'.1 o 12 = 9 ∧ σ'.1 o 13 = 50 ∧ σ'.1 o 14 = 0
theorem s_X0_clear_l (o : Nat) : ∀ (k n i : Nat) (σ : MSt), i + k = 64 → k < n → (∀ j, j < i → σ.1 (o + 2) j = 0) → ∃ σ', f_X0_clear_b2 o n (nI i) σ = some σ' ∧ q_CL o σ' ∧ (∀ r, (r < o ∨ o + 12 < r) → σ'.1 r = σ.1 r) ∧ σ'.2 = σ.2 := by
  intro k
  induction k with
  | zero =>
    intro n i σ h1 h2 h3
    obtain ⟨n, rfl⟩ : ∃ z, n = z + 1 := ⟨n - 1, by omega⟩
    have hi : i = 64 := by omega
    subst hi
    obtain ⟨σ', y1, y2, y3, y4, y5⟩ := s_X4_clear_l (o + 7) 3 FU 0 (mI σ (o + 7) 5 0) (by omega) (by decide)
    show ∃ σ', f_X0_clear_b2_s o (f_X0_clear_b2 o n) (nI 64) σ = some σ' ∧ _
    unfold f_X0_clear_b2_s f_X4_clear
    rw [if_pos (show (64 : Int32) ≤ nI 64 by decide), e_nm, show f_X4_clear_b7 (o + 7) FU 0 (mI σ (o + 7) 5 0) = some σ' from y1, e_bvS]
    simp only [e_nm]
    have g : ∀ r, r ≠ o → r ≠ o + 7 → r ≠ o + 7 + 3 → r ≠ o + 7 + 4 → (mI (mI (mI (mI (mI (mI (mI (mI σ' o 7 0) o 8 0) o 9 0) o 10 0) o 11 (-1)) o 12 9) o 13 50) o 14 0).1 r = σ.1 r := fun r a b c d => by
      simp only [m_Ir _ _ _ _ a]
      rw [y4 r c d, m_Ir _ _ _ _ b]
    have g2 : ∀ r, r ≠ o → (mI (mI (mI (mI (mI (mI (mI (mI σ' o 7 0) o 8 0) o 9 0) o 10 0) o 11 (-1)) o 12 9) o 13 50) o 14 0).1 r = σ'.1 r := fun r a => by
      simp only [m_Ir _ _ _ _ a]
    refine ⟨_, rfl, ⟨fun j hj => ?_, ?_, fun j hj => ?_, ?_, ?_, ?_, ?_, ?_, ?_, ?_, ?_⟩, fun r hr => g r (by omega) (by omega) (by omega) (by omega), y5⟩
    · rw [g (o + 2) (by omega) (by omega) (by omega) (by omega)]; exact h3 j hj
    · rw [g2 (o + 7) (by omega), y4 (o + 7) (by omega) (by omega), m_I, if_pos ⟨rfl, rfl⟩]
    · rw [g2 (o + 10) (by omega), g2 (o + 11) (by omega)]; exact y2 j (by omega) hj
    all_goals simp [m_I]
  | succ k ih =>
    intro n i σ h1 h2 h3
    obtain ⟨n, rfl⟩ : ∃ z, n = z + 1 := ⟨n - 1, by omega⟩
    have hk : k_inb (nI i) 64 = true := e_in (by omega) (by decide)
    have st : f_X0_clear_b2 o (n + 1) (nI i) σ = f_X0_clear_b2 o n (nI (i + 1)) (mI σ (o + 2) i 0) := by
      show f_X0_clear_b2_s o (f_X0_clear_b2 o n) (nI i) σ = _
      unfold f_X0_clear_b2_s
      rw [if_neg (show ¬ (64 : Int32) ≤ nI i from nI_ge (a := i) (b := 64) (by omega) (by decide)), e_ck hk, e_nm, nI_clamp (by omega), nI_1, e_nm]
    obtain ⟨σ', y1, y2, y3, y4⟩ := ih n (i + 1) (mI σ (o + 2) i 0) (by omega) (by omega) (fun j hj => by
      rw [m_I]
      by_cases c : j = i
      · rw [if_pos ⟨rfl, c⟩]
      · rw [if_neg (by omega)]; exact h3 j (by omega))
    exact ⟨σ', st.trans y1, y2, fun r hr => by rw [y3 r hr, m_Ir _ _ _ _ (by omega)], y4⟩
theorem s_X0_clear (o : Nat) (σ : MSt) : ∃ σ', f_X0_clear o σ = some σ' ∧ q_CL o σ' ∧ (∀ r, (r < o ∨ o + 12 < r) → σ'.1 r = σ.1 r) ∧ σ'.2 = σ.2 := s_X0_clear_l o 64 FU 0 σ (by omega) (by decide) (fun j hj => by omega)
/-- the reference's new text, empty -/
theorem s_b47 : ∀ (k n i : Nat) (μ : MSt), i + k = 9 → k < n → ∃ μ', f_X12_text_b47 n (nI i) μ = f_X12_text_b88 FU 3 μ' ∧ (∀ j, i ≤ j → j < 9 → μ'.1 2 (9 + j) = if j = 5 then 9 else if j = 6 then 50 else 0) ∧ (∀ j, j < 9 + i → μ'.1 2 j = μ.1 2 j) ∧ (∀ r, r ≠ 2 → μ'.1 r = μ.1 r) := by
  intro k
  induction k with
  | zero =>
    intro n i μ h1 h2
    obtain ⟨n, rfl⟩ : ∃ z, n = z + 1 := ⟨n - 1, by omega⟩
    have hi : i = 9 := by omega
    subst hi
    refine ⟨μ, ?_, fun j a b => by omega, fun _ _ => rfl, fun _ _ => rfl⟩
    show f_X12_text_b47_s (f_X12_text_b47 n) (nI 9) μ = _
    unfold f_X12_text_b47_s
    rw [if_pos (show (9 : Int32) ≤ nI 9 by decide)]
  | succ k ih =>
    intro n i μ h1 h2
    obtain ⟨n, rfl⟩ : ∃ z, n = z + 1 := ⟨n - 1, by omega⟩
    have w5 : (nI i = 5) ↔ i = 5 := q_nIe (b := 5) (by omega) (by decide)
    have w6 : (nI i = 6) ↔ i = 6 := q_nIe (b := 6) (by omega) (by decide)
    have st : f_X12_text_b47 (n + 1) (nI i) μ = f_X12_text_b47 n (nI (i + 1)) (mI μ 2 (9 + i) (if i = 5 then 9 else if i = 6 then 50 else 0)) := by
      show f_X12_text_b47_s (f_X12_text_b47 n) (nI i) μ = _
      unfold f_X12_text_b47_s f_X12_text_b77
      rw [if_neg (show ¬ (9 : Int32) ≤ nI i from nI_ge (a := i) (b := 9) (by omega) (by decide))]
      simp only [s_reads i (by omega), e_bvS, e_nm, nI_1, w5, w6]
      by_cases c5 : i = 5
      · rw [if_pos c5, if_pos c5]
      · rw [if_neg c5, if_neg c5]
        by_cases c6 : i = 6
        · rw [if_pos c6, if_pos c6]
        · rw [if_neg c6, if_neg c6]
    obtain ⟨μ', y1, y2, y3, y4⟩ := ih n (i + 1) (mI μ 2 (9 + i) (if i = 5 then 9 else if i = 6 then 50 else 0)) (by omega) (by omega)
    refine ⟨μ', st.trans y1, fun j a b => ?_, fun j a => ?_, fun r a => by rw [y4 r a, m_Ir _ _ _ _ a]⟩
    · by_cases c : j = i
      · subst c; rw [y3 (9 + j) (by omega), m_I, if_pos ⟨rfl, rfl⟩]
      · exact y2 j (by omega) b
    · rw [y3 j (by omega), m_I, if_neg (by omega)]
theorem s_b88 : ∀ (k n i : Nat) (μ : MSt), i + k = 6 → 3 ≤ i → k < n → ∃ μ', f_X12_text_b88 n (nI i) μ = (k_nm (mI μ' 0 16 (0 : Int32)) fun σ1 => k_nm (mI σ1 0 17 (0 : Int32)) fun σ2 => k_nm (mI σ2 0 27 (0 : Int32)) fun σ3 => k_nm (mI σ3 0 28 (0 : Int32)) fun σ4 => k_bv (f_X12_token σ4) fun σ5 => f_X12_text_b138 FU σ5) ∧ (∀ j, i ≤ j → j < 6 → μ'.1 11 j = 0 ∧ μ'.1 12 j = 0) ∧ (∀ j, j < i → μ'.1 11 j = μ.1 11 j ∧ μ'.1 12 j = μ.1 12 j) ∧ (∀ r, r ≠ 11 → r ≠ 12 → μ'.1 r = μ.1 r) := by
  intro k
  induction k with
  | zero =>
    intro n i μ h1 h0 h2
    obtain ⟨n, rfl⟩ : ∃ z, n = z + 1 := ⟨n - 1, by omega⟩
    have hi : i = 6 := by omega
    subst hi
    refine ⟨μ, ?_, fun j a b => by omega, fun _ _ => ⟨rfl, rfl⟩, fun _ _ _ => rfl⟩
    show f_X12_text_b88_s (f_X12_text_b88 n) (nI 6) μ = _
    unfold f_X12_text_b88_s
    rw [if_pos (show (6 : Int32) ≤ nI 6 by decide)]
  | succ k ih =>
    intro n i μ h1 h0 h2
    obtain ⟨n, rfl⟩ : ∃ z, n = z + 1 := ⟨n - 1, by omega⟩
    have hk : k_inb (nI i) 6 = true := e_in (by omega) (by decide)
    have st : f_X12_text_b88 (n + 1) (nI i) μ = f_X12_text_b88 n (nI (i + 1)) (mI (mI μ 11 i 0) 12 i 0) := by
      show f_X12_text_b88_s (f_X12_text_b88 n) (nI i) μ = _
      unfold f_X12_text_b88_s
      rw [if_neg (show ¬ (6 : Int32) ≤ nI i from nI_ge (a := i) (b := 6) (by omega) (by decide)), e_ck hk, nI_clamp (by omega), e_nm, e_ck hk, e_nm, nI_1, e_nm]
    obtain ⟨μ', y1, y2, y3, y4⟩ := ih n (i + 1) (mI (mI μ 11 i 0) 12 i 0) (by omega) (by omega) (by omega)
    refine ⟨μ', st.trans y1, fun j a b => ?_, fun j a => ?_, fun r a b => by rw [y4 r a b, m_Ir _ _ _ _ b, m_Ir _ _ _ _ a]⟩
    · by_cases c : j = i
      · subst c
        obtain ⟨q1, q2⟩ := y3 j (by omega)
        rw [q1, q2]
        simp [m_I]
      · exact y2 j (by omega) b
    · obtain ⟨q1, q2⟩ := y3 j (by omega)
      rw [q1, q2, m_I, if_neg (by omega), m_I, if_neg (by omega), m_I, if_neg (by omega), m_I, if_neg (by omega)]
      exact ⟨rfl, rfl⟩
/-- the reference as it begins -/
def q_BG (X : q_X) (μ : MSt) : Prop := q_RT X 0 μ ∧ μ.1 0 23 = 0 ∧ μ.1 0 16 = 0 ∧ μ.1 0 17 = 0 ∧ μ.1 0 27 = 0 ∧ μ.1 0 28 = 0 ∧ (∀ j, j < 9 → μ.1 2 (9 + j) = if j = 5 then 9 else if j = 6 then 50 else 0) ∧ ∀ j, j < 3 → μ.1 11 (3 + j) = 0 ∧ μ.1 12 (3 + j) = 0
theorem s_begin (M : q_CM X) (h1 : μ.1 1 = xB X) (h18 : μ.1 0 18 = nI (xN X)) (h19 : μ.1 0 19 = 0) (h23 : μ.1 0 23 = 0) (h24 : μ.1 0 24 = -1) : ∃ μ', f_X12_text_b47 FU 0 μ = f_X12_text_b138 FU μ' ∧ q_BG X μ' ∧ q_GM μ μ' ∧ μ'.1 0 24 = μ.1 0 24 := by
  obtain ⟨μ1, a1, a2, a3, a4⟩ := s_b47 9 FU 0 μ (by omega) (by decide)
  obtain ⟨μ2, b1, b2, b3, b4⟩ := s_b88 3 FU 3 μ1 (by omega) (by omega) (by decide)
  have e0 : μ2.1 0 = μ.1 0 := by rw [b4 0 (by omega) (by omega), a4 0 (by omega)]
  rw [show f_X12_text_b47 FU 0 μ = _ from a1, show f_X12_text_b88 FU 3 μ1 = _ from b1]
  simp only [e_nm]
  have f0 : ∀ j, j ≠ 16 → j ≠ 17 → j ≠ 27 → j ≠ 28 → (mI (mI (mI (mI μ2 0 16 0) 0 17 0) 0 27 0) 0 28 0).1 0 j = μ.1 0 j := fun j p q r s => by
    rw [m_I, if_neg (by omega), m_I, if_neg (by omega), m_I, if_neg (by omega), m_I, if_neg (by omega), e0]
  have f00 : ∀ j, (j = 16 ∨ j = 17 ∨ j = 27 ∨ j = 28) → (mI (mI (mI (mI μ2 0 16 0) 0 17 0) 0 27 0) 0 28 0).1 0 j = 0 := fun j hj => by
    rcases hj with rfl | rfl | rfl | rfl <;> simp [m_I]
  have fr : ∀ r, r ≠ 0 → (mI (mI (mI (mI μ2 0 16 0) 0 17 0) 0 27 0) 0 28 0).1 r = μ2.1 r := fun r hr => by
    rw [m_Ir _ _ _ _ hr, m_Ir _ _ _ _ hr, m_Ir _ _ _ _ hr, m_Ir _ _ _ _ hr]
  have ez : xE X 0 = 0 := M.2.2.1
  generalize mI (mI (mI (mI μ2 0 16 0) 0 17 0) 0 27 0) 0 28 0 = μ3 at *
  have r1 : μ2.1 1 = μ.1 1 := by rw [b4 1 (by omega) (by omega), a4 1 (by omega)]
  obtain ⟨μ4, c1, c2, c3⟩ := q_tok (μ := μ3) M 0 (by omega) (by rw [fr 1 (by omega), r1]; exact h1) (by rw [f0 24 (by omega) (by omega) (by omega) (by omega)]; exact h24) (by rw [f0 18 (by omega) (by omega) (by omega) (by omega)]; exact h18) (by rw [f0 19 (by omega) (by omega) (by omega) (by omega), h19, ez]; rfl)
  rw [c1, e_bvS]
  have g0 : ∀ j, (j < 19 ∨ 22 < j) → μ4.1 0 j = μ3.1 0 j := c3.2
  have gr : ∀ r, r ≠ 0 → μ4.1 r = μ2.1 r := fun r hr => by rw [c3.1 r hr, fr r hr]
  refine ⟨μ4, rfl, ⟨c2, by rw [g0 23 (by omega), f0 23 (by omega) (by omega) (by omega) (by omega)]; exact h23, by rw [g0 16 (by omega)]; exact f00 16 (by omega), by rw [g0 17 (by omega)]; exact f00 17 (by omega), by rw [g0 27 (by omega)]; exact f00 27 (by omega), by rw [g0 28 (by omega)]; exact f00 28 (by omega), fun j hj => ?_, fun j hj => ?_⟩, ⟨fun r hr => ?_, fun r i p q s => ?_, fun j hj => ?_⟩, by rw [g0 24 (by omega), f0 24 (by omega) (by omega) (by omega) (by omega)]⟩
  · rw [gr 2 (by omega), b4 2 (by omega) (by omega)]; exact a2 j (by omega) hj
  · rw [gr 11 (by omega), gr 12 (by omega)]; exact b2 (3 + j) (by omega) (by omega)
  · rw [gr r (by omega), b4 r (by omega) (by omega), a4 r (by omega)]
  · rw [gr r (by omega)]
    by_cases c : r = 2
    · subst c
      rw [b4 2 (by omega) (by omega)]
      exact a3 i (by unfold q_hf at s; simp at s; omega)
    · by_cases c11 : r = 11
      · subst c11
        rw [(b3 i (by unfold q_hf at s; simp at s; omega)).1, a4 11 (by omega)]
      · by_cases c12 : r = 12
        · subst c12
          rw [(b3 i (by unfold q_hf at s; simp at s; omega)).2, a4 12 (by omega)]
        · rw [b4 r c11 c12, a4 r c]
  · rw [g0 j (by omega), f0 j (by omega) (by omega) (by omega) (by omega)]
end
