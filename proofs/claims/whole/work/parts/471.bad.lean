section
variable {X : q_X} {o nb t k kn op : Nat} {st : List Int32} {nm : Int32} {σ μ : MSt}
theorem q_25 {s : Int32} (h1 : ¬ s < 25) (h2 : ¬ 31 < s) : ∃ j, j < 7 ∧ s = nI (25 + j) := by
  have a := Int32.le_iff_toInt_le.mp (Int32.not_lt.mp h1)
  have b := Int32.le_iff_toInt_le.mp (Int32.not_lt.mp h2)
  rw [show (25 : Int32).toInt = 25 by decide] at a
  rw [show (31 : Int32).toInt = 31 by decide] at b
  refine ⟨s.toInt.toNat - 25, by omega, ?_⟩
  apply Int32.toInt_inj.mp
  rw [nI_toInt (by omega)]
  omega
theorem p_bad (M : q_CM X) (E : q_EX X o nb t [] st k kn op 1 nm σ μ) (h3 : ¬ xS X t = 3) (h25 : ∀ j, j < 7 → ¬ xS X t = nI (25 + j)) (h41 : ¬ xS X t = 41) (h24 : xS X t = 24 → nm = 0) (n i d : Nat) (hi : i ≤ 700) : ∃ μ', f_rec (d + 1) 5 μ = some μ' ∧ q_RES X o nb 5 (n + 2) i t k k op st σ μ μ' := by
  obtain ⟨B, A, ⟨w1, -⟩, ⟨k1, -⟩, -, -, wo, nmE, -, l1, l2, l3, l4⟩ := id E
  have ho := B.2.1
  have TS := A.2.2.2.2.2.2.2.2
  obtain ⟨-, -, n1, -, -, -⟩ := q_TS.nm TS
  obtain ⟨σd, μd, y1, y2, y3, y4, y5, y6⟩ := q_flt B A 1 (by decide)
  have C : q_CB X o σd := y3.cb k (by simp at l4; omega) (by rw [y5.1 (o + 7) (by omega)]; exact k1)
  have w7 : σd.1 7 7 = nI st.length := by rw [y5.2.1 7 (by omega) (by omega) (by omega)]; exact w1
  obtain ⟨σ2, b1, b2⟩ := d_out n i st.length C y4.n.1 w7 (by simp at l4; omega)
  have cls : f_X7_readOperand (xS X t) σ = some σd := by
    have b97 : f_X7_readOperand_b97 (xS X t) σ = some σd := by
      unfold f_X7_readOperand_b97 f_X7_readOperand_b163 f_X7_readOperand_b168
      rw [if_neg h41, y1, e_bvS]
      by_cases c : xS X t = 24
      · rw [if_pos c, nmE, if_pos (h24 c)]
      · rw [if_neg c]
    unfold f_X7_readOperand
    rw [if_neg h3, b97]
    by_cases c1 : xS X t < 25
    · rw [if_pos c1]
    · by_cases c2 : 31 < xS X t
      · rw [if_neg c1, if_pos c2]
      · obtain ⟨j, hj, e⟩ := q_25 c1 c2
        exact absurd e (h25 j hj)
  refine ⟨μd, ?_, y6.fn, Or.inr ⟨σ2, ?_, b2.1, y4.fr b2.2.1 b2.2.2.1 rfl rfl, y5.gc.trans b2.2.2.2⟩⟩
  · have b157 : f_X12_primary_b157 (f_rec d) 0 μ = some μd := by
      unfold f_X12_primary_b157 f_X12_primary_b162 f_X12_primary_b176 f_X12_primary_b194 f_X12_knot
      rw [y2, e_bvS, if_neg y4.n.2, e_bvS, if_pos rfl, if_pos rfl, s_putsD y4.n.2, e_bvS, s_goOnD y4.n.2, e_bvS]
    show f_X12_primary_r (f_rec d) μ = _
    unfold f_X12_primary_r f_X12_primary_b114 f_X12_primary_b137
    rw [if_pos A.2.1, s_isSign A.2.1 TS (s0 := 41) (c0 := 40) (by unfold q_SG; decide), e_bdS, if_neg h41, if_pos rfl, if_neg (fun q => h3 (n1.mpr q)), if_pos rfl, if_pos rfl, b157]
    by_cases c : μ.1 0 21 = 0
    · obtain ⟨w, hw, e1, e2⟩ := TS.w0 c
      have lw : w < 15 := by
        rcases Nat.lt_or_ge w 15 with q | q
        · exact q
        · exact absurd (by rw [e1]; congr 1; omega) (h25 (w - 15) (by omega))
      rw [if_pos c, e2, if_neg (show ¬ (15 : Int32) ≤ nI w from nI_ge (a := w) (b := 15) lw (by decide))]
    · rw [if_neg c]
  · rw [p_step M B A wo (n + 1) i hi, cls, e_bvS]
    exact b1
end
