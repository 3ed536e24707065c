section
variable {o : Nat} {σ : MSt}
/-- the class meets a sign that is no comparison -/
theorem p_oprC (s : Int32) (y : Nat) (hr : q_rk s = y) (hy : y = 1 ∨ y = 2 ∨ y = 5 ∨ y = 6) : f_X7_readOperator s σ = k_bv (f_X7_tellDownTo (nI y) σ) fun σ1 => f_X7_readOperator_b86 s σ1 := by
  have n24 : ¬ s = 24 := fun q => by
    have : q_rk 24 = 3 := by decide
    rw [q, this] at hr
    omega
  have r49 : q_rk 49 = 4 := by decide
  unfold f_X7_readOperator f_X7_readOperator_b35 f_X7_readOperator_b48
  rw [s_rankOf, e_bdS, hr, if_neg (fun q => by have := (q_nIe (a := y) (b := 0) (by omega) (by omega)).mp q; omega), if_neg n24, s_rankOf, e_bdS, r49, if_neg (fun q => by have := (q_nIe (a := y) (b := 4) (by omega) (by omega)).mp q; omega), if_pos rfl]
  simp only [if_true]
/-- the class meets what is no sign between values -/
theorem p_oprF (s : Int32) (hr : q_rk s = 0 ∨ s = 24) : f_X7_readOperator s σ = k_bv (f_X7_fail 1 σ) fun σ1 => some σ1 := by
  unfold f_X7_readOperator f_X7_readOperator_b15
  rw [s_rankOf, e_bdS]
  rcases hr with h | h
  · rw [h, if_pos (by decide)]
  · subst h
    rw [if_neg (by decide), if_pos rfl]
end
