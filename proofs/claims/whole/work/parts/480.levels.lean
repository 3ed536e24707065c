section
variable {X : q_X} {o nb t k kn op : Nat} {P st : List Int32} {wo nm : Int32} {σ μ σ1 μ1 σ' μ' : MSt}
theorem lv_prod (M : q_CM X) {d : Nat} (H : q_LVL X d 5) : q_LVL X (d + 1) 4 := by
  refine p_lv M (by omega) H (f_X12_product_b4 (f_rec d)) ?_ ?_ (fun μ => rfl)
  · intro n μ s v a h
    have g1 : q_SG 45 42 := by unfold q_SG; decide
    have g2 : q_SG 46 47 := by unfold q_SG; decide
    have S1 := s_isSign a h g1
    have S2 := s_isSign a h g2
    have U : f_X12_product_b4 (f_rec d) (n + 1) μ = f_X12_product_b4_s (f_rec d) (f_X12_product_b4 (f_rec d) n) μ := rfl
    refine ⟨fun hr => ?_, fun hr => ?_⟩
    · have hr' : q_rk s = 6 := hr
      rcases (q_rk_i s).2.2.2.2.1 hr' with e | e
      · obtain ⟨-, e2⟩ := (h.sg g1).mp e
        refine ⟨42, by rw [e]; exact Or.inr (Or.inr (Or.inr ⟨by unfold q_BIN; decide, rfl⟩)), fun μ1 μ2 μ3 μ' h1 h2 h3 h4 => ?_⟩
        rw [if_pos e] at S1
        rw [U]
        unfold f_X12_product_b4_s f_X12_product_b22
        rw [S1, e_bdS, if_neg (by decide), e_nm, e2, h1, e_bvS, h2, e_bvS, h3, e_bvS, h4, e_bvS]
      · obtain ⟨-, e2⟩ := (h.sg g2).mp e
        refine ⟨47, by rw [e]; exact Or.inr (Or.inr (Or.inr ⟨by unfold q_BIN; decide, rfl⟩)), fun μ1 μ2 μ3 μ' h1 h2 h3 h4 => ?_⟩
        rw [if_neg (by rw [e]; decide)] at S1
        rw [if_pos e] at S2
        rw [U]
        unfold f_X12_product_b4_s f_X12_product_b22
        rw [S1, e_bdS, if_pos rfl, S2, e_bdS, if_neg (by decide), e_nm, e2, h1, e_bvS, h2, e_bvS, h3, e_bvS, h4, e_bvS]
    · have hr' : ¬ q_rk s = 6 := hr
      rw [if_neg (fun q => hr' (by rw [q]; decide))] at S1 S2
      rw [U]
      unfold f_X12_product_b4_s
      rw [S1, e_bdS, if_pos rfl, S2, e_bdS, if_pos rfl]
  · intro n μ d0
    show f_X12_product_b4_s (f_rec d) (f_X12_product_b4 (f_rec d) n) μ = _
    unfold f_X12_product_b4_s
    rw [s_isSignD d0, e_bdS, if_pos rfl, s_isSignD d0, e_bdS, if_pos rfl]
theorem lv_sum (M : q_CM X) {d : Nat} (H : q_LVL X d 4) : q_LVL X (d + 1) 3 := by
  refine p_lv M (by omega) H (f_X12_sum_b4 (f_rec d)) ?_ ?_ (fun μ => rfl)
  · intro n μ s v a h
    have g1 : q_SG 43 43 := by unfold q_SG; decide
    have g2 : q_SG 44 45 := by unfold q_SG; decide
    have S1 := s_isSign a h g1
    have S2 := s_isSign a h g2
    have U : f_X12_sum_b4 (f_rec d) (n + 1) μ = f_X12_sum_b4_s (f_rec d) (f_X12_sum_b4 (f_rec d) n) μ := rfl
    refine ⟨fun hr => ?_, fun hr => ?_⟩
    · have hr' : q_rk s = 5 := hr
      rcases (q_rk_i s).2.2.2.1 hr' with e | e
      · obtain ⟨-, e2⟩ := (h.sg g1).mp e
        refine ⟨43, by rw [e]; exact Or.inr (Or.inr (Or.inr ⟨by unfold q_BIN; decide, rfl⟩)), fun μ1 μ2 μ3 μ' h1 h2 h3 h4 => ?_⟩
        rw [if_pos e] at S1
        rw [U]
        unfold f_X12_sum_b4_s f_X12_sum_b22
        rw [S1, e_bdS, if_neg (by decide), e_nm, e2, h1, e_bvS, h2, e_bvS, h3, e_bvS, h4, e_bvS]
      · obtain ⟨-, e2⟩ := (h.sg g2).mp e
        refine ⟨45, by rw [e]; exact Or.inr (Or.inr (Or.inr ⟨by unfold q_BIN; decide, rfl⟩)), fun μ1 μ2 μ3 μ' h1 h2 h3 h4 => ?_⟩
        rw [if_neg (by rw [e]; decide)] at S1
        rw [if_pos e] at S2
        rw [U]
        unfold f_X12_sum_b4_s f_X12_sum_b22
        rw [S1, e_bdS, if_pos rfl, S2, e_bdS, if_neg (by decide), e_nm, e2, h1, e_bvS, h2, e_bvS, h3, e_bvS, h4, e_bvS]
    · have hr' : ¬ q_rk s = 5 := hr
      rw [if_neg (fun q => hr' (by rw [q]; decide))] at S1 S2
      rw [U]
      unfold f_X12_sum_b4_s
      rw [S1, e_bdS, if_pos rfl, S2, e_bdS, if_pos rfl]
  · intro n μ d0
    show f_X12_sum_b4_s (f_rec d) (f_X12_sum_b4 (f_rec d) n) μ = _
    unfold f_X12_sum_b4_s
    rw [s_isSignD d0, e_bdS, if_pos rfl, s_isSignD d0, e_bdS, if_pos rfl]
theorem lv_conj (M : q_CM X) {d : Nat} (H : q_LVL X d 2) : q_LVL X (d + 1) 1 := by
  refine p_lv M (by omega) H (f_X12_conjunction_b4 (f_rec d)) ?_ ?_ (fun μ => rfl)
  · intro n μ s v a h
    have S1 : f_X12_isWord 13 μ = some (if s = 23 then 1 else 0, μ) := s_isWord a h 13 (by omega)
    have U : f_X12_conjunction_b4 (f_rec d) (n + 1) μ = f_X12_conjunction_b4_s (f_rec d) (f_X12_conjunction_b4 (f_rec d) n) μ := rfl
    refine ⟨fun hr => ?_, fun hr => ?_⟩
    · have e := (q_rk_i s).2.1 hr
      refine ⟨261, by rw [e]; exact Or.inr (Or.inr (Or.inr ⟨by unfold q_BIN; decide, rfl⟩)), fun μ1 μ2 μ3 μ' h1 h2 h3 h4 => ?_⟩
      rw [if_pos e] at S1
      rw [U]
      unfold f_X12_conjunction_b4_s
      rw [S1, e_bdS, if_neg (by decide), h1, e_bvS, h2, e_bvS, h3, e_bvS, h4, e_bvS]
    · have hr' : ¬ q_rk s = 2 := hr
      rw [if_neg (fun q => hr' (by rw [q]; decide))] at S1
      rw [U]
      unfold f_X12_conjunction_b4_s
      rw [S1, e_bdS, if_pos rfl]
  · intro n μ d0
    show f_X12_conjunction_b4_s (f_rec d) (f_X12_conjunction_b4 (f_rec d) n) μ = _
    unfold f_X12_conjunction_b4_s
    rw [s_isWordD d0, e_bdS, if_pos rfl]
theorem lv_expr (M : q_CM X) {d : Nat} (H : q_LVL X d 1) : q_LVL X (d + 1) 0 := by
  refine p_lv M (by omega) H (f_X12_expression_b4 (f_rec d)) ?_ ?_ (fun μ => rfl)
  · intro n μ s v a h
    have S1 : f_X12_isWord 12 μ = some (if s = 22 then 1 else 0, μ) := s_isWord a h 12 (by omega)
    have U : f_X12_expression_b4 (f_rec d) (n + 1) μ = f_X12_expression_b4_s (f_rec d) (f_X12_expression_b4 (f_rec d) n) μ := rfl
    refine ⟨fun hr => ?_, fun hr => ?_⟩
    · have e := (q_rk_i s).1 hr
      refine ⟨262, by rw [e]; exact Or.inr (Or.inr (Or.inr ⟨by unfold q_BIN; decide, rfl⟩)), fun μ1 μ2 μ3 μ' h1 h2 h3 h4 => ?_⟩
      rw [if_pos e] at S1
      rw [U]
      unfold f_X12_expression_b4_s
      rw [S1, e_bdS, if_neg (by decide), h1, e_bvS, h2, e_bvS, h3, e_bvS, h4, e_bvS]
    · have hr' : ¬ q_rk s = 1 := hr
      rw [if_neg (fun q => hr' (by rw [q]; decide))] at S1
      rw [U]
      unfold f_X12_expression_b4_s
      rw [S1, e_bdS, if_pos rfl]
  · intro n μ d0
    show f_X12_expression_b4_s (f_rec d) (f_X12_expression_b4 (f_rec d) n) μ = _
    unfold f_X12_expression_b4_s
    rw [s_isWordD d0, e_bdS, if_pos rfl]
/-- a comparison, for the reference -/
theorem q_TS.cmp {s v so va : Int32} (h : q_TS s v so va) : (q_rk s = 4 → so = 3 ∧ q_KN s 0 2 va ∧ (va = 60 ∨ va = 62 ∨ va = 61 ∨ 256 ≤ va)) ∧ (¬ q_rk s = 4 → so = 3 → ¬ va = 60 ∧ ¬ va = 62 ∧ ¬ va = 61 ∧ ¬ 256 ≤ va) := by
  have g2 : ∀ w : Nat, w < 22 → ¬ q_rk (nI (10 + w)) = 4 := by decide
  rcases h with ⟨rfl, rfl⟩ | ⟨rfl, rfl⟩ | ⟨rfl, rfl, rfl⟩ | ⟨rfl, rfl, h⟩ | ⟨u, hu, rfl, rfl, rfl⟩ | ⟨h, rfl⟩
  · exact ⟨fun q => absurd q (by decide), fun _ q => absurd q (by decide)⟩
  · exact ⟨fun q => absurd q (by decide), fun _ q => absurd q (by decide)⟩
  · exact ⟨fun q => absurd q (by decide), fun _ q => absurd q (by decide)⟩
  · exact ⟨fun q => absurd q (by decide), fun _ q => absurd q (by decide)⟩
  · exact ⟨fun q => absurd q (g2 u hu), fun _ q => absurd q (by decide)⟩
  · have k : ∀ s c : Int32, q_BIN s c → q_KN s 0 2 c := fun s c q => Or.inr (Or.inr (Or.inr ⟨q, rfl⟩))
    rcases h with ⟨rfl, rfl⟩ | ⟨rfl, rfl⟩ | ⟨rfl, rfl⟩ | ⟨rfl, rfl⟩ | ⟨rfl, rfl⟩ | ⟨rfl, rfl⟩ | ⟨rfl, rfl⟩ | ⟨rfl, rfl⟩ | ⟨rfl, rfl⟩ | ⟨rfl, rfl⟩ | ⟨rfl, rfl⟩ | ⟨rfl, rfl⟩ | ⟨rfl, rfl⟩
    · exact ⟨fun q => absurd q (by decide), fun _ _ => by decide⟩
    · exact ⟨fun q => absurd q (by decide), fun _ _ => by decide⟩
    · exact ⟨fun q => absurd q (by decide), fun _ _ => by decide⟩
    · exact ⟨fun q => absurd q (by decide), fun _ _ => by decide⟩
    · exact ⟨fun q => absurd q (by decide), fun _ _ => by decide⟩
    · exact ⟨fun q => absurd q (by decide), fun _ _ => by decide⟩
    · exact ⟨fun q => absurd q (by decide), fun _ _ => by decide⟩
    · exact ⟨fun _ => ⟨rfl, k _ _ (by unfold q_BIN; decide), by decide⟩, fun q => absurd (by decide) q⟩
    · exact ⟨fun _ => ⟨rfl, k _ _ (by unfold q_BIN; decide), by decide⟩, fun q => absurd (by decide) q⟩
    · exact ⟨fun _ => ⟨rfl, k _ _ (by unfold q_BIN; decide), by decide⟩, fun q => absurd (by decide) q⟩
    · exact ⟨fun _ => ⟨rfl, k _ _ (by unfold q_BIN; decide), by decide⟩, fun q => absurd (by decide) q⟩
    · exact ⟨fun _ => ⟨rfl, k _ _ (by unfold q_BIN; decide), by decide⟩, fun q => absurd (by decide) q⟩
    · exact ⟨fun _ => ⟨rfl, k _ _ (by unfold q_BIN; decide), by decide⟩, fun q => absurd (by decide) q⟩
/-- NOT, a comparison -/
theorem lv_neg (M : q_CM X) {d : Nat} (H2 : q_LVL X d 2) (H3 : q_LVL X d 3) : q_LVL X (d + 1) 2 := by
  intro o nb t k kn op st nm σ μ n i E top c1 c2 hn hi hd
  obtain ⟨-, A, -, -, -, -, -, -, -, l1, l2, l3, l4⟩ := id E
  have l5 : k + st.length = kn + op := by simpa using l4
  have tK := A.2.2.2.1
  have enm : nm = 1 := c1 (by omega)
  subst enm
  have S1 : f_X12_isWord 14 μ = some (if xS X t = 24 then 1 else 0, μ) := s_isWord A.2.1 A.2.2.2.2.2.2.2.2 14 (by omega)
  have top4 : q_TOP st 4 := top
  have R : f_rec (d + 1) 2 μ = f_X12_negation_r (f_rec d) μ := rfl
  rw [R]
  unfold f_X12_negation_r f_X12_negation_b86
  by_cases hs : xS X t = 24
  · rw [if_pos hs] at S1
    obtain ⟨n, rfl⟩ : ∃ z, n = z + 2 := ⟨n - 2, by omega⟩
    have ht : t < xK X := A.2.2.2.lt M (by rw [hs]; decide)
    rw [S1, e_bdS, if_neg (by decide)]
    obtain ⟨μ1, μ2, y1, y2, y3, y4⟩ := p_not M E hs n i (by omega)
    rw [y1, e_bvS, y2, e_bvS]
    rcases y4 with ⟨σ', z1, E', F'⟩ | ⟨σ', z1, C', D', G'⟩
    · obtain ⟨-, -, -, -, -, -, -, -, -, l1', -⟩ := id E'
      obtain ⟨μ3, r1, r2, r3⟩ := H2 o nb (t + 1) k (kn + 1) op (24 :: st) 1 σ' μ2 (n + 1) (i + 1) E' (Or.inr ⟨24, st, rfl, Or.inr (by decide)⟩) (fun _ => rfl) (fun q => by omega) (by omega) (by omega) (by omega)
      rw [r1, e_bvS]
      rcases r3 with ⟨t', P', k', kn', nm', σ'', a1, a2, a3, a4, a5, a6, a7, a8, a9, a10⟩ | ⟨σ'', a1, a2, a3, a4⟩
      · obtain ⟨μ', b1, b2, b3, b4⟩ := p_aft a4 l3 (c := 260) (Or.inr (Or.inr (Or.inl ⟨rfl, rfl, rfl⟩)))
        rw [b1, e_bvS]
        have lenE : (P' ++ [(24 : Int32)]).length = P'.length + 1 := by simp
        refine ⟨μ', rfl, (y3.trans r2 (by omega)).trans b3 (by omega), Or.inl ⟨t', P' ++ [24], k', kn', nm', σ'', by omega, by omega, ?_, b2, by omega, fun x hx => ?_, a7.app _, F'.trans a8 (by omega), by rw [lenE]; omega, fun d => ?_⟩⟩
        · rw [z1, a3, show n + 1 - (t' - (t + 1)) = n + 2 - (t' - t) by omega, show i + 1 + (t' - (t + 1)) = i + (t' - t) by omega]
        · rcases List.mem_append.mp hx with h | h
          · exact a6 x h
          · have e : x = 24 := by simpa using h
            rw [e]
            decide
        · have e1 : q_rn (q_gk μ') (k' + P'.length - k) k d = some (d + 1) := by
            rw [q_rn_cg (q_gk μ3) (q_gk μ') _ _ _ (fun j h1 h2 => b3.gk j (by omega))]
            exact a10 d
          have e2 := q_rn_app (q_gk μ') _ 1 _ _ _ e1
          have g1 : q_gk μ' (k' + P'.length) = 1 := by rw [b4]; decide
          rw [lenE, show k' + (P'.length + 1) - k = k' + P'.length - k + 1 by omega, e2, show k + (k' + P'.length - k) = k' + P'.length by omega, q_rn, g1, if_neg (by decide), if_pos rfl, if_pos (by omega)]
          rfl
      · rw [s_putsD a3.n.2, e_bvS]
        exact ⟨μ3, rfl, y3.trans r2 (by omega), Or.inr ⟨σ'', by rw [z1, a1], a2, a3, F'.gc.trans a4⟩⟩
    · rw [s_recD d 2 μ2 (by omega) D'.n.2, e_bvS, s_putsD D'.n.2, e_bvS]
      exact ⟨μ2, rfl, y3, Or.inr ⟨σ', z1, C', D', G'⟩⟩
  · rw [if_neg hs] at S1
    rw [S1, e_bdS, if_pos rfl]
    obtain ⟨μ1, y1, y2, y3⟩ := H3 o nb t k kn op st 1 σ μ n i E (top4.mo (by decide)) (fun q => by omega) (fun _ => Or.inr hs) hn hi (by omega)
    rw [y1, e_bvS]
    rcases y3 with ⟨t', P, k', kn', nm', σ', a1, a2, a3, a4, a5, a6, a7, a8, a9, a10⟩ | ⟨σ', a1, a2, a3, a4⟩
    · obtain ⟨-, A', -, -, -, -, -, -, -, m1, m2, m3, m4⟩ := id a4
      have m5 : k' + (P.length + st.length) = kn' + op := by simpa using m4
      have tK' := A'.2.2.2.1
      obtain ⟨t1, t2⟩ := q_TS.cmp A'.2.2.2.2.2.2.2.2
      have a6' : ∀ x, x ∈ P → ¬ x = 41 ∧ 5 ≤ q_rk x := a6
      rw [if_pos A'.2.1]
      by_cases c4 : q_rk (xS X t') = 4
      · obtain ⟨t3, t4, t5⟩ := t1 c4
        have cnd : (if μ1.1 0 22 = 60 then f_X12_negation_b87 (f_rec d) μ1 else if μ1.1 0 22 = 62 then f_X12_negation_b87 (f_rec d) μ1 else if μ1.1 0 22 = 61 then f_X12_negation_b87 (f_rec d) μ1 else if 256 ≤ μ1.1 0 22 then f_X12_negation_b87 (f_rec d) μ1 else some μ1) = f_X12_negation_b87 (f_rec d) μ1 := by
          by_cases q1 : μ1.1 0 22 = 60
          · rw [if_pos q1]
          · by_cases q2 : μ1.1 0 22 = 62
            · rw [if_neg q1, if_pos q2]
            · by_cases q3 : μ1.1 0 22 = 61
              · rw [if_neg q1, if_neg q2, if_pos q3]
              · have q5 : 256 ≤ μ1.1 0 22 := by
                  rcases t5 with q | q | q | q
                  · exact absurd q q1
                  · exact absurd q q2
                  · exact absurd q q3
                  · exact q
                rw [if_neg q1, if_neg q2, if_neg q3, if_pos q5]
        rw [if_pos t3, cnd]
        unfold f_X12_negation_b87
        rw [e_nm]
        have h41 : ¬ xS X t' = 41 := fun q => by rw [q] at c4; revert c4; decide
        have hb : q_kd (xS X t') = 2 ∧ ¬ (xS X t' = 22 ∨ xS X t' = 23) := by
          rcases (q_rk_i (xS X t')).2.2.2.2.2 c4 with e | e | e | e | e | e <;> (rw [e]; decide)
        obtain ⟨μ2, μ3, μ4, μ', z1, z2, z3, z4, z5, z6⟩ := p_rnd M H3 (by omega) a4 (by omega) (fun x hx => by rw [if_pos c4]; exact a6' x hx) (by rw [c4]; exact top4) (by rw [c4]; decide) (Or.inr ⟨by omega, hb.2⟩) t4 hb.1 (n - (t' - t)) (i + (t' - t)) (by omega) (by omega) (by omega)
        rw [z1, e_bvS, z2, e_bvS, z3, e_bvS, z4, e_bvS]
        refine ⟨μ', rfl, ?_⟩
        have z5k : q_FN k μ1 μ' := (q_FN.rf (kb := k)).trans z5 (by omega)
        refine q_RW.res a1 a2 a3 a5 a8 y2 (k1 := k') ⟨z5k, ?_⟩
        rcases z6 with ⟨t2', P', k2, kn2, nm2, σ2, b1, b2, b3, b4, b5, b6, b7, b8, b9, b10, b11⟩ | ⟨σ2, b1, b2, b3, b4⟩
        · have lenE : (P' ++ [xS X t']).length = P'.length + 1 := by simp
          have b6' : ∀ x, x ∈ P' → ¬ x = 41 ∧ 5 ≤ q_rk x := b6
          obtain ⟨x1, x2, -, -, -⟩ := b7
          refine Or.inl ⟨t2', P' ++ [xS X t'], k2, kn2, nm2, σ2, by omega, b2, b3, b4, b5, fun x hx => ?_, ⟨fun _ => x1 (by omega), fun _ => x2 (by omega), fun _ _ => ⟨P', xS X t', [], rfl, fun y hy => (b6' y hy).2, c4⟩, fun q => by omega, fun q => by omega⟩, b8, by rw [lenE]; omega, fun d => ?_⟩
          · show ¬ x = 41 ∧ 3 ≤ q_rk x
            rcases List.mem_append.mp hx with h | h
            · exact ⟨(b6' x h).1, by have := (b6' x h).2; omega⟩
            · have e : x = xS X t' := by simpa using h
              rw [e]
              exact ⟨h41, by omega⟩
          · have e1 : q_rn (q_gk μ') (k' + P.length - k) k d = some (d + 1) := by
              rw [q_rn_cg (q_gk μ1) (q_gk μ') _ _ _ (fun j h1 h2 => z5.gk j (by omega))]
              exact a10 d
            have e2 := q_rn_app (q_gk μ') _ (k2 + P'.length + 1 - (k' + P.length)) _ _ _ e1
            rw [lenE, show k2 + (P'.length + 1) - k = k' + P.length - k + (k2 + P'.length + 1 - (k' + P.length)) by omega, e2, show k + (k' + P.length - k) = k' + P.length by omega]
            exact b11 d
        · exact Or.inr ⟨σ2, b1, b2, b3, b4⟩
      · have cnd : (if μ1.1 0 21 = 3 then (if μ1.1 0 22 = 60 then f_X12_negation_b87 (f_rec d) μ1 else if μ1.1 0 22 = 62 then f_X12_negation_b87 (f_rec d) μ1 else if μ1.1 0 22 = 61 then f_X12_negation_b87 (f_rec d) μ1 else if 256 ≤ μ1.1 0 22 then f_X12_negation_b87 (f_rec d) μ1 else some μ1) else some μ1) = some μ1 := by
          by_cases q0 : μ1.1 0 21 = 3
          · obtain ⟨q1, q2, q3, q4⟩ := t2 c4 q0
            rw [if_pos q0, if_neg q1, if_neg q2, if_neg q3, if_neg q4]
          · rw [if_neg q0]
        rw [cnd]
        obtain ⟨x1, x2, -, -, -⟩ := a7
        refine ⟨μ1, rfl, y2, Or.inl ⟨t', P, k', kn', nm', σ', a1, a2, a3, a4, a5, fun x hx => ⟨(a6' x hx).1, ?_⟩, ⟨fun _ => x1 (by omega), fun _ => x2 (by omega), fun _ q => absurd q c4, fun q => by omega, fun q => by omega⟩, a8, a9, a10⟩⟩
        have := (a6' x hx).2
        show 3 ≤ q_rk x
        omega
    · rw [if_neg a3.n.2]
      exact ⟨μ1, rfl, y2, Or.inr ⟨σ', a1, a2, a3, a4⟩⟩
end
