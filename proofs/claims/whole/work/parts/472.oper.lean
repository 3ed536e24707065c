section
variable {X : q_X} {o nb t : Nat} {σ μ : MSt}
/-- the class's loop at a sign between values -/
theorem p_stepO (M : q_CM X) (B : q_zB X o nb σ μ) (A : q_zA X t σ μ) (wo : σ.1 7 10 = 0) (op : Nat) (ho : op ≤ 8) (o1 : σ.1 7 9 = nI op) (n i : Nat) (hi : i ≤ 700) (h40 : xS X t = 40 → ¬ op = 0) (h42 : xS X t = 42 → op = 0) : f_X7_readExpression_b22 (n + 1) (nI i) σ = k_bv (f_X7_readOperator (xS X t) σ) fun σ3 => f_X7_readExpression_b104 (f_X7_readExpression_b22 n) (nI i) σ3 := by
  have tl : t < 2 ^ 31 := by have := A.2.2.2.1; have := M.1.1; have := M.2.1; omega
  show f_X7_readExpression_b22_s (f_X7_readExpression_b22 n) (nI i) σ = _
  unfold f_X7_readExpression_b22_s f_X7_readExpression_b79 f_X7_readExpression_b99
  rw [if_neg (show ¬ (700 : Int32) < nI i from nI_nlt (a := 700) (b := i) (by omega) (by omega)), if_pos A.1, A.2.2.1, s_sortOf M B.1 t tl, e_bdS, wo, if_pos rfl, o1]
  by_cases c40 : xS X t = 40
  · have hz : ¬ nI op = 0 := fun q => h40 c40 ((q_nIe (a := op) (b := 0) (by omega) (by omega)).mp q)
    rw [if_pos c40, if_neg hz, if_neg (show ¬ xS X t = 42 by rw [c40]; decide)]
  · rw [if_neg c40]
    by_cases c42 : xS X t = 42
    · rw [if_pos c42, h42 c42, if_pos (by decide)]
    · rw [if_neg c42]
end
