section
variable {X : q_X} {o nb t k kn op : Nat} {st : List Int32} {nm : Int32} {σ μ : MSt}
theorem s_count71 {σ6 : MSt} (h : f_X7_countKnot σ = some σ6) : (∀ j, j ≠ 4 → j ≠ 5 → j ≠ 8 → σ6.1 7 j = σ.1 7 j) ∧ ∀ r, r ≠ 7 → σ6.1 r = σ.1 r := by
  unfold f_X7_countKnot f_X7_countKnot_b14 f_X7_fail f_X7_fail_b20 at h
  simp only [e_nm] at h
  by_cases c : σ.1 7 8 < 64
  · rw [if_pos c] at h
    have e := Option.some.inj h
    subst e
    exact ⟨fun j a b c => by rw [m_I, if_neg (by omega)], fun r hr => m_Ir _ _ _ _ hr⟩
  · rw [if_neg c] at h
    by_cases c4 : σ.1 7 4 = 0
    · rw [if_pos c4, e_bvS] at h
      have e := Option.some.inj h
      subst e
      exact ⟨fun j a b c => by rw [m_I, if_neg (by omega), m_I, if_neg (by omega), m_I, if_neg (by omega)], fun r hr => by rw [m_Ir _ _ _ _ hr, m_Ir _ _ _ _ hr, m_Ir _ _ _ _ hr]⟩
    · rw [if_neg c4, e_bvS] at h
      have e := Option.some.inj h
      subst e
      exact ⟨fun j a b c => by rw [m_I, if_neg (by omega)], fun r hr => m_Ir _ _ _ _ hr⟩
/-- the class's loop at a value, a bracket, a NOT -/
theorem p_step (M : q_CM X) (B : q_zB X o nb σ μ) (A : q_zA X t σ μ) (wo : σ.1 7 10 = 1) (n i : Nat) (hi : i ≤ 700) : f_X7_readExpression_b22 (n + 1) (nI i) σ = k_bv (f_X7_readOperand (xS X t) σ) fun σ3 => f_X7_readExpression_b104 (f_X7_readExpression_b22 n) (nI i) σ3 := by
  have tl : t < 2 ^ 31 := by have := A.2.2.2.1; have := M.1.1; have := M.2.1; omega
  show f_X7_readExpression_b22_s (f_X7_readExpression_b22 n) (nI i) σ = _
  unfold f_X7_readExpression_b22_s
  rw [if_neg (show ¬ (700 : Int32) < nI i from nI_nlt (a := 700) (b := i) (by omega) (by omega)), if_pos A.1, A.2.2.1, s_sortOf M B.1 t tl, e_bdS, wo, if_neg (by decide)]
/-- a name of the law -/
theorem p_nameC (M : q_CM X) (B : q_zB X o nb σ μ) (j : Nat) (hj : j < 7) : f_X7_readOperand (nI (25 + j)) σ = k_bv (f_X7_countKnot σ) fun σ1 => k_bv (f_X4_add (o + 7) (nI (25 + j)) 0 σ1) fun σ4 => k_nm (mI σ4 7 10 (0 : Int32)) fun σ5 => some σ5 := by
  have g : ∀ j : Nat, j < 7 → ¬ nI (25 + j) = 3 ∧ ¬ nI (25 + j) < 25 ∧ ¬ 31 < nI (25 + j) := by decide
  obtain ⟨g1, g2, g3⟩ := g j hj
  unfold f_X7_readOperand f_X7_readOperand_b168
  rw [if_neg g1, if_neg g2, if_neg g3]
  cases e : f_X7_countKnot σ with
  | none => rfl
  | some σ6 =>
    have h71 : σ6.1 7 1 = nI o := by rw [(s_count71 e).1 1 (by omega) (by omega) (by omega)]; exact B.2.2.1
    have kc : k_ch (nI o) = true ∧ (nI o).toNatClampNeg = o := by rcases B.2.1 with rfl | rfl <;> decide
    rw [e_bvS, e_bvS, h71, e_ck kc.1, e_nm, kc.2]
/-- a number of the law -/
theorem p_numC (M : q_CM X) (B : q_zB X o nb σ μ) (A : q_zA X t σ μ) : f_X7_readOperand_b27 σ = k_bv (f_X7_countKnot σ) fun σ1 => k_bv (f_X4_add (o + 7) 3 (xV X t) σ1) fun σ4 => k_nm (mI σ4 7 10 (0 : Int32)) fun σ5 => some σ5 := by
  have tl : t < 2 ^ 31 := by have := A.2.2.2.1; have := M.1.1; have := M.2.1; omega
  unfold f_X7_readOperand_b27 f_X7_readOperand_b168
  cases e : f_X7_countKnot σ with
  | none => rfl
  | some σ6 =>
    obtain ⟨a1, a2⟩ := s_count71 e
    have h71 : σ6.1 7 1 = nI o := by rw [a1 1 (by omega) (by omega) (by omega)]; exact B.2.2.1
    have h72 : σ6.1 7 2 = nI t := by rw [a1 2 (by omega) (by omega) (by omega)]; exact A.2.2.1
    have kc : k_ch (nI o) = true ∧ (nI o).toNatClampNeg = o := by rcases B.2.1 with rfl | rfl <;> decide
    have CT6 : q_CT X σ6 := B.1.eq (a2 1 (by omega)) (a2 3 (by omega)) (a2 4 (by omega)) (a2 5 (by omega))
    rw [e_bvS, e_bvS, h71, e_ck kc.1, e_nm, kc.2, h72, s_valueOf M CT6 t tl, e_bdS]
end
