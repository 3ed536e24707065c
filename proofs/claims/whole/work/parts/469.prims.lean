section
variable {X : q_X} {o nb t k kn op : Nat} {st : List Int32} {nm : Int32} {σ μ : MSt}
theorem s_knot22 {m : MSt} (h : f_X12_knot μ = some m) : m.1 0 22 = μ.1 0 22 := by
  unfold f_X12_knot f_X12_knot_b35 f_X12_wrong at h
  simp only [e_nm] at h
  by_cases c : μ.1 0 23 = 0
  · rw [if_pos c] at h
    by_cases c8 : μ.1 0 28 = 64
    · rw [if_pos c8, if_pos c, e_bvS] at h
      have e := Option.some.inj h
      subst e
      rw [m_I, if_neg (by omega), m_I, if_neg (by omega)]
    · rw [if_neg c8] at h
      have e := Option.some.inj h
      subst e
      rw [m_I, if_neg (by omega)]
  · rw [if_neg c] at h
    have e := Option.some.inj h
    subst e
    rfl
/-- a value is a piece of every level's end -/
theorem p_res (M : q_CM X) (E : q_EX X o nb t [] st k kn op 1 nm σ μ) (ht : t < xK X) (x v s' v' : Int32) (hk : q_KN x v s' v') (hg : q_kd x = 0) (n i : Nat) (hi : i ≤ 700) (hc : f_X7_readOperand (xS X t) σ = k_bv (f_X7_countKnot σ) fun σ1 => k_bv (f_X4_add (o + 7) x v σ1) fun σ4 => k_nm (mI σ4 7 10 (0 : Int32)) fun σ5 => some σ5) : ∃ μ', (k_bv (f_X12_knot μ) fun m1 => k_bv (f_X12_puts s' v' m1) fun m2 => k_bv (f_X12_goOn m2) fun m3 => some m3) = some μ' ∧ q_RES X o nb 5 (n + 2) i t k k op st σ μ μ' := by
  obtain ⟨B, A, -, -, -, -, wo, -⟩ := id E
  obtain ⟨μ', y1, y2, y3⟩ := p_opd M E ht x v s' v' hk hg n i
  have st1 := p_step M B A wo (n + 1) i hi
  rw [hc] at st1
  refine ⟨μ', y1, y2, ?_⟩
  rcases y3 with ⟨σ', z1, z2, z3, z4⟩ | ⟨σ', z1, z2, z3, z4⟩
  · refine Or.inl ⟨t + 1, [], k + 1, kn + 1, nm, σ', by omega, by omega, ?_, z2, by omega, fun x hx => absurd hx (by simp), ⟨fun q => by omega, fun q => by omega, fun q => by omega, fun q => by omega, fun q => by omega⟩, z3, by simp, fun d => ?_⟩
    · rw [st1, z1, show t + 1 - t = 1 by omega]
      rfl
    · have e1 : k + 1 + ([] : List Int32).length - k = 1 := by simp
      rw [e1, q_rn, if_pos z4]
      rfl
  · exact Or.inr ⟨σ', st1.trans z1, z2, z3, z4⟩
/-- a name, at the reference's primary -/
theorem p_name (M : q_CM X) (E : q_EX X o nb t [] st k kn op 1 nm σ μ) (j : Nat) (hj : j < 7) (hs : xS X t = nI (25 + j)) (n i d : Nat) (hi : i ≤ 700) : ∃ μ', f_rec (d + 1) 5 μ = some μ' ∧ q_RES X o nb 5 (n + 2) i t k k op st σ μ μ' := by
  obtain ⟨B, A, -⟩ := id E
  have TS := A.2.2.2.2.2.2.2.2
  have ht : t < xK X := A.2.2.2.lt M (by
    rw [hs]
    have : ∀ j : Nat, j < 7 → ¬ nI (25 + j) = 0 := by decide
    exact this j hj)
  obtain ⟨e1, e2⟩ := (TS.wd (15 + j) (by omega)).mp (by rw [hs]; congr 1; omega)
  have gk : ∀ j : Nat, j < 7 → q_kd (nI (25 + j)) = 0 ∧ ¬ nI (25 + j) = 41 ∧ (15 : Int32) ≤ nI (15 + j) ∧ nI (15 + j) - 15 = nI j := by decide
  obtain ⟨g1, g2, g3, g4⟩ := gk j hj
  obtain ⟨μ', y1, y2⟩ := p_res M E ht (nI (25 + j)) 0 1 (nI j) (Or.inr (Or.inl ⟨j, hj, rfl, rfl, rfl⟩)) g1 n i hi (by rw [hs]; exact p_nameC M B j hj)
  refine ⟨μ', ?_, y2⟩
  show f_X12_primary_r (f_rec d) μ = _
  unfold f_X12_primary_r f_X12_primary_b114 f_X12_primary_b137 f_X12_primary_b162 f_X12_primary_b176 f_X12_primary_b194
  rw [if_pos A.2.1, s_isSign A.2.1 TS (s0 := 41) (c0 := 40) (by unfold q_SG; decide), e_bdS, hs, if_neg g2, if_pos rfl, e1, if_neg (by decide), if_pos rfl, if_pos rfl, if_pos rfl, e2, if_pos g3]
  rw [← y1]
  cases e : f_X12_knot μ with
  | none => rfl
  | some m =>
    have e22 : m.1 0 22 = nI (15 + j) := by rw [s_knot22 e]; exact e2
    rw [e_bvS, e_bvS, if_pos rfl, if_pos rfl, e22, g4]
end
