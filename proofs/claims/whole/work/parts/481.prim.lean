section
variable {X : q_X} {o nb t k kn op : Nat} {P st : List Int32} {wo nm : Int32} {σ μ σ1 μ1 σ' μ' : MSt}
theorem lv_prim (M : q_CM X) {d : Nat} (H : q_LVL X d 0) : q_LVL X (d + 1) 5 := by
  intro o nb t k kn op st nm σ μ n i E top c1 c2 hn hi hd
  obtain ⟨-, A, -, -, -, ⟨o1, o2⟩, -, -, -, l1, l2, l3, l4⟩ := id E
  have l5 : k + st.length = kn + op := by simpa using l4
  have tK := A.2.2.2.1
  have TS := A.2.2.2.2.2.2.2.2
  obtain ⟨n, rfl⟩ : ∃ z, n = z + 2 := ⟨n - 2, by omega⟩
  by_cases h3 : xS X t = 3
  · exact p_num M E h3 n i d (by omega)
  by_cases h25 : ∃ j, j < 7 ∧ xS X t = nI (25 + j)
  · obtain ⟨j, hj, e⟩ := h25
    exact p_name M E j hj e n i d (by omega)
  by_cases h41 : xS X t = 41
  · have g1 : q_SG 41 40 := by unfold q_SG; decide
    have S1 := s_isSign A.2.1 TS g1
    rw [if_pos h41] at S1
    have R : f_rec (d + 1) 5 μ = f_X12_primary_r (f_rec d) μ := rfl
    rw [R]
    unfold f_X12_primary_r
    rw [if_pos A.2.1, S1, e_bdS, if_neg (by decide), o2]
    rcases Nat.lt_or_ge op 8 with c | c
    · rw [if_neg (fun q => by have := (q_nIe (a := op) (b := 8) (by omega) (by omega)).mp q; omega)]
      unfold f_X12_primary_b31
      rw [if_pos A.2.1, o2, nI_1, e_nm]
      obtain ⟨μ1, σ1, y1, y2, y3, E1, F1⟩ := p_par M E h41 c n i (by omega)
      rw [y1, e_bvS]
      have ht : t < xK X := A.2.2.2.lt M (by rw [h41]; decide)
      obtain ⟨μ2, r1, r2, r3⟩ := H o nb (t + 1) k kn (op + 1) (41 :: st) 1 σ1 μ1 (n + 1) (i + 1) E1 (Or.inr ⟨41, st, rfl, Or.inl rfl⟩) (fun _ => rfl) (fun q => by omega) (by omega) (by omega) (by omega)
      rw [r1, e_bvS]
      rcases r3 with ⟨t', P', k', kn', nm', σ2, a1, a2, a3, a4, a5, a6, a7, a8, a9, a10⟩ | ⟨σ2, a1, a2, a3, a4⟩
      · obtain ⟨-, A', -, -, -, ⟨-, o2'⟩, -, -, -, m1, m2, m3, m4⟩ := id a4
        have m5 : k' + (P'.length + (st.length + 1)) = kn' + (op + 1) := by simpa using m4
        have tK' := A'.2.2.2.1
        have g2 : q_SG 42 41 := by unfold q_SG; decide
        have S2 := s_isSign A'.2.1 A'.2.2.2.2.2.2.2.2 g2
        have a6' : ∀ x, x ∈ P' → ¬ x = 41 ∧ 1 ≤ q_rk x := a6
        rw [if_pos A'.2.1]
        by_cases h42 : xS X t' = 42
        · rw [if_pos h42] at S2
          rw [S2, e_bdS, if_neg (by decide)]
          unfold f_X12_primary_b78
          rw [if_pos A'.2.1, o2', q_nIm op (by omega), e_nm]
          have ht' : t' < xK X := A'.2.2.2.lt M (by rw [h42]; decide)
          obtain ⟨z, ez⟩ : ∃ z, n + 1 - (t' - (t + 1)) = z + 1 := ⟨n - (t' - (t + 1)), by omega⟩
          obtain ⟨μ3, σ3, b1, b2, b3, b4, b5⟩ := p_cls M a4 a6' h42 l3 z (i + 1 + (t' - (t + 1))) (by omega)
          rw [b1, e_bvS]
          refine ⟨μ3, rfl, (y2.trans r2 (by omega)).trans b2 (by omega), Or.inl ⟨t' + 1, [], k' + P'.length, kn', nm', σ3, by omega, by omega, ?_, b4, by omega, fun x hx => absurd hx (by simp), ⟨fun q => by omega, fun q => by omega, fun q => by omega, fun q => by omega, fun q => by omega⟩, (F1.trans a8 (by omega)).trans b5 (by omega), by simpa using a9, fun d => ?_⟩⟩
          · rw [y3, a3, ez, b3, show n + 2 - (t' + 1 - t) = z by omega, show i + (t' + 1 - t) = i + 1 + (t' - (t + 1)) + 1 by omega]
          · have e0 : k' + P'.length + ([] : List Int32).length - k = k' + P'.length - k := by simp
            rw [e0, q_rn_cg (q_gk μ2) (q_gk μ3) _ _ _ (fun j h1 h2 => b2.gk j (by omega))]
            exact a10 d
        · rw [if_neg h42] at S2
          rw [S2, e_bdS, if_pos rfl]
          obtain ⟨z, ez⟩ : ∃ z, n + 1 - (t' - (t + 1)) = z + 2 := ⟨n - 1 - (t' - (t + 1)), by omega⟩
          obtain ⟨μd, σ3, b1, b2, b3, b4, b5, b6, -, -⟩ := p_stop M a4 a7 a6' (fun _ => by omega) (fun q => absurd q h42) z (i + 1 + (t' - (t + 1))) (by omega)
          rw [b1, e_bvS]
          unfold f_X12_primary_b78
          rw [if_neg b5.n.2]
          refine ⟨μd, rfl, (y2.trans r2 (by omega)).trans b2.fn (by omega), Or.inr ⟨σ3, by rw [y3, a3, ez, b3], b4, b5, (F1.gc.trans a8.gc).trans b6⟩⟩
      · rw [if_neg a3.n.2]
        unfold f_X12_primary_b78
        rw [if_neg a3.n.2]
        exact ⟨μ2, rfl, y2.trans r2 (by omega), Or.inr ⟨σ2, by rw [y3, a1], a2, a3, F1.gc.trans a4⟩⟩
    · have e8 : op = 8 := by omega
      obtain ⟨μd, σd, y1, y2, y3, y4, y5, y6⟩ := p_par8 M E h41 e8 n i (by omega)
      rw [e8, if_pos (show nI 8 = 8 from rfl), y1, e_bvS]
      unfold f_X12_primary_b31
      rw [if_neg y5.n.2]
      exact ⟨μd, rfl, y2, Or.inr ⟨σd, y3, y4, y5, y6⟩⟩
  · exact p_bad M E h3 (fun j hj e => h25 ⟨j, hj, e⟩) h41 (fun q => by
      rcases c2 (by omega) with h | h
      · exact h
      · exact absurd q h) n i d (by omega)
/-- every level -/
theorem lv_all (M : q_CM X) : ∀ d idx, idx ≤ 5 → q_LVL X d idx := by
  intro d
  induction d with
  | zero => intro idx _ o nb t k kn op st nm σ μ n i _ _ _ _ _ _ hd; omega
  | succ d ih =>
    intro idx h
    have : idx = 0 ∨ idx = 1 ∨ idx = 2 ∨ idx = 3 ∨ idx = 4 ∨ idx = 5 := by omega
    rcases this with rfl | rfl | rfl | rfl | rfl | rfl
    · exact lv_expr M (ih 1 (by omega))
    · exact lv_conj M (ih 2 (by omega))
    · exact lv_neg M (ih 2 (by omega)) (ih 3 (by omega))
    · exact lv_sum M (ih 4 (by omega))
    · exact lv_prod M (ih 5 (by omega))
    · exact lv_prim M (ih 0 (by omega))
end
