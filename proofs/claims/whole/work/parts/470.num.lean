section
variable {X : q_X} {o nb t k kn op : Nat} {st : List Int32} {nm : Int32} {σ μ : MSt}
theorem d_count (h : q_CB X o σ) (d : ¬ σ.1 7 4 = 0) : ∃ σ', f_X7_countKnot σ = some σ' ∧ q_DD X o σ σ' ∧ σ'.1 7 7 = σ.1 7 7 := by
  unfold f_X7_countKnot f_X7_countKnot_b14
  rw [q_fail_d d, e_bvS, ite_self, e_nm]
  exact ⟨_, rfl, q_DD.m7 h 8 _ (by omega), by rw [m_I, if_neg (by omega)]⟩
theorem d_b27 (M : q_CM X) (h : q_CB X o σ) (d : ¬ σ.1 7 4 = 0) : ∃ σ', f_X7_readOperand_b27 σ = some σ' ∧ q_DD X o σ σ' ∧ σ'.1 7 7 = σ.1 7 7 := by
  obtain ⟨σ1, a1, a2, a3⟩ := d_count h d
  obtain ⟨c1, c2⟩ := a2.1.c
  obtain ⟨v, ev⟩ := x_valueOf M a2.1.1 (σ1.1 7 2)
  obtain ⟨σ2, b1, b2, b3, b4⟩ := d_add a2.1 3 v
  unfold f_X7_readOperand_b27 f_X7_readOperand_b168
  rw [a1, e_bvS, e_ck c1, e_nm, c2, ev, e_bdS, b1, e_bvS, e_nm]
  exact ⟨_, rfl, (a2.trans b2).trans (q_DD.m7 b2.1 10 0 (by omega)), by rw [m_I, if_neg (by omega), b3, a3]⟩
/-- the class's loop goes out behind a fault at a value -/
theorem d_out (n i w : Nat) {σ3 : MSt} (h : q_CB X o σ3) (d : ¬ σ3.1 7 4 = 0) (h7 : σ3.1 7 7 = nI w) (hw : w ≤ 72) : ∃ σ', f_X7_readExpression_b104 (f_X7_readExpression_b22 (n + 1)) (nI i) σ3 = some σ' ∧ q_DD X o σ3 σ' := by
  unfold f_X7_readExpression_b104 f_X7_readExpression_b121
  rw [if_neg d, e_nm, nI_1]
  exact d_loop n (i + 1) w h d h7 hw
theorem p_num (M : q_CM X) (E : q_EX X o nb t [] st k kn op 1 nm σ μ) (hs : xS X t = 3) (n i d : Nat) (hi : i ≤ 700) : ∃ μ', f_rec (d + 1) 5 μ = some μ' ∧ q_RES X o nb 5 (n + 2) i t k k op st σ μ μ' := by
  obtain ⟨B, A, ⟨w1, -⟩, ⟨k1, -⟩, -, -, wo, -, -, l1, l2, l3, l4⟩ := id E
  have ho := B.2.1
  have tl : t < 2 ^ 31 := by have := A.2.2.2.1; have := M.1.1; have := M.2.1; omega
  have TS := A.2.2.2.2.2.2.2.2
  have ht : t < xK X := A.2.2.2.lt M (by rw [hs]; decide)
  obtain ⟨-, -, n1, n2, -, -⟩ := q_TS.nm TS
  have e1 := n1.mp hs
  have ref : f_rec (d + 1) 5 μ = if μ.1 0 22 ≤ 9999 then f_X12_primary_b162 (f_rec d) 1 μ else k_bv (f_X12_wrong 2 μ) fun σ1 => f_X12_primary_b162 (f_rec d) 1 σ1 := by
    show f_X12_primary_r (f_rec d) μ = _
    unfold f_X12_primary_r f_X12_primary_b114 f_X12_primary_b137
    rw [if_pos A.2.1, s_isSign A.2.1 TS (s0 := 41) (c0 := 40) (by unfold q_SG; decide), e_bdS, hs, if_neg (show ¬ (3 : Int32) = 41 by decide), if_pos rfl, if_pos e1, if_neg (show ¬ (1 : Int32) = 0 by decide), if_neg (show ¬ (1 : Int32) = 0 by decide)]
  have cls : f_X7_readOperand (xS X t) σ = if xV X t ≤ 9999 then f_X7_readOperand_b27 σ else k_bv (f_X7_fail 2 σ) fun σ11 => f_X7_readOperand_b27 σ11 := by
    unfold f_X7_readOperand
    rw [hs, if_pos rfl, A.2.2.1, s_valueOf M B.1 t tl, e_bdS]
  have bad : ¬ xV X t ≤ 9999 → ¬ μ.1 0 22 ≤ 9999 → ∃ μ', f_rec (d + 1) 5 μ = some μ' ∧ q_RES X o nb 5 (n + 2) i t k k op st σ μ μ' := by
    intro h1 h2
    obtain ⟨σd, μd, y1, y2, y3, y4, y5, y6⟩ := q_flt B A 2 (by decide)
    have C : q_CB X o σd := y3.cb k (by simp at l4; omega) (by rw [y5.1 (o + 7) (by omega)]; exact k1)
    obtain ⟨σ1, a1, a2, a3⟩ := d_b27 M C y4.n.1
    have w7 : σ1.1 7 7 = nI st.length := by rw [a3, y5.2.1 7 (by omega) (by omega) (by omega)]; exact w1
    obtain ⟨σ2, b1, b2⟩ := d_out n i st.length a2.1 (by rw [a2.2.1]; exact y4.n.1) w7 (by simp at l4; omega)
    have s1 := a2.trans b2
    refine ⟨μd, ?_, y6.fn, Or.inr ⟨σ2, ?_, s1.1, y4.fr s1.2.1 s1.2.2.1 rfl rfl, y5.gc.trans s1.2.2.2⟩⟩
    · rw [ref, if_neg h2, y2, e_bvS]
      unfold f_X12_primary_b162 f_X12_primary_b176 f_X12_primary_b194 f_X12_knot
      rw [if_neg y4.n.2, e_bvS, if_neg (by decide), if_neg (by decide), s_putsD y4.n.2, e_bvS, s_goOnD y4.n.2, e_bvS]
    · rw [p_step M B A wo (n + 1) i hi, cls, if_neg h1, y1, e_bvS, a1, e_bvS]
      exact b1
  rcases n2 hs with ⟨q, hq, v1, v2⟩ | ⟨q, q', h1, h2, h3, h4, v1, v2⟩
  · rcases Nat.lt_or_ge 9999 q with c | c
    · exact bad (by rw [v1]; exact nI_ge (a := 9999) (b := q) c (by omega)) (by rw [v2]; exact nI_ge (a := 9999) (b := q) c (by omega))
    · have c1 : xV X t ≤ 9999 := by rw [v1]; exact nI_le (a := q) (b := 9999) c (by omega)
      have c2 : μ.1 0 22 ≤ 9999 := by rw [v2]; exact nI_le (a := q) (b := 9999) c (by omega)
      obtain ⟨μ', y1, y2⟩ := p_res M E ht 3 (xV X t) 0 (nI q) (Or.inl ⟨rfl, rfl, v1.symm⟩) (by decide) n i hi (by rw [cls, if_pos c1]; exact p_numC M B A)
      refine ⟨μ', ?_, y2⟩
      rw [ref, if_pos c2, ← y1]
      unfold f_X12_primary_b162 f_X12_primary_b176 f_X12_primary_b194
      cases e : f_X12_knot μ with
      | none => rfl
      | some m =>
        have e22 : m.1 0 22 = nI q := by rw [s_knot22 e]; exact v2
        rw [e_bvS, e_bvS, if_neg (by decide), if_neg (by decide), e22]
  · exact bad (by rw [v1]; exact nI_ge (a := 9999) (b := q) (by omega) (by omega)) (by rw [v2]; exact nI_ge (a := 9999) (b := q') (by omega) (by omega))
end
