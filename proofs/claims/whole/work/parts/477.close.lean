section
variable {X : q_X} {o nb t k kn op : Nat} {P st : List Int32} {wo nm : Int32} {σ μ σ1 σ' μ' : MSt}
/-- a closing bracket, both sides -/
theorem p_cls (M : q_CM X) (E : q_EX X o nb t P (41 :: st) k kn (op + 1) 0 nm σ μ) (hP : ∀ x, x ∈ P → ¬ x = 41 ∧ 1 ≤ q_rk x) (hs : xS X t = 42) (hop : op ≤ st.length) (n i : Nat) (hi : i ≤ 700) : ∃ μ' σ', f_X12_token (mI μ 0 27 (nI op)) = some μ' ∧ q_FN (k + P.length) μ μ' ∧ f_X7_readExpression_b22 (n + 1) (nI i) σ = f_X7_readExpression_b22 n (nI (i + 1)) σ' ∧ q_EX X o nb (t + 1) [] st (k + P.length) kn op 0 nm σ' μ' ∧ q_FE o k σ σ' := by
  obtain ⟨σ1, y1, y2, y3⟩ := p_tellE E 1 (by omega) hP (Or.inr ⟨41, st, rfl, Or.inl rfl⟩)
  have E1 := y3.ex y2 E
  have stepE : f_X7_readExpression_b22 (n + 1) (nI i) σ = k_bv (f_X7_closeOne σ) fun σ1 => f_X7_readExpression_b104 (f_X7_readExpression_b22 n) (nI i) σ1 := by
    obtain ⟨B, A, -, -, -, ⟨o1, o2⟩, wE, -, -, l1, l2, l3, l4⟩ := id E
    have tl : t < 2 ^ 31 := by have := A.2.2.2.1; have := M.1.1; have := M.2.1; omega
    show f_X7_readExpression_b22_s (f_X7_readExpression_b22 n) (nI i) σ = _
    unfold f_X7_readExpression_b22_s f_X7_readExpression_b79
    rw [if_neg (show ¬ (700 : Int32) < nI i from nI_nlt (a := 700) (b := i) (by omega) (by omega)), if_pos A.1, A.2.2.1, s_sortOf M B.1 t tl, e_bdS, wE, if_pos rfl, hs, if_neg (by decide), if_pos rfl, o1, if_neg (show ¬ nI (op + 1) ≤ 0 from nI_ge (a := 0) (b := op + 1) (by omega) (by omega))]
  obtain ⟨B, A, ⟨w1, w2⟩, ⟨k1, k2⟩, ⟨n1, n2⟩, ⟨o1, o2⟩, wE, nmE, KO, l1, l2, l3, l4⟩ := id E1
  have ho := B.2.1
  have l5 : k + P.length + (st.length + 1) = kn + (op + 1) := by simpa using l4
  have ht : t < xK X := A.2.2.2.lt M (by rw [hs]; decide)
  have e7 : σ1.1 7 7 = nI (st.length + 1) := by rw [y2]; simp
  have em : nI (st.length + 1) - 1 = nI st.length := q_nIm _ (by omega)
  have eo : nI (op + 1) - 1 = nI op := q_nIm _ (by omega)
  obtain ⟨μ', z1, z2, z3⟩ := q_tok1 M (A.2.2.2.m 27 (nI op) (by omega)) ht
  have g3 : ∀ r, r ≠ 0 → μ'.1 r = μ.1 r := fun r hr => by rw [z3.1 r hr, m_Ir _ _ _ _ hr]
  have g4 : ∀ j, j ≠ 27 → (j < 19 ∨ 22 < j) → μ'.1 0 j = μ.1 0 j := fun j a b => by rw [z3.2 j b, m_I, if_neg (by omega)]
  have g5 : μ'.1 0 27 = nI op := by rw [z3.2 27 (by omega), m_I, if_pos ⟨rfl, rfl⟩]
  rw [stepE]
  unfold f_X7_closeOne f_X7_closeOne_b22
  have c9 : (mI σ1 7 7 (nI st.length)).1 7 9 = nI (op + 1) := by rw [m_I, if_neg (by omega)]; exact o1
  rw [show (1 : Int32) = nI 1 from rfl, y1, e_bvS, e7, if_neg (show ¬ nI (st.length + 1) ≤ 0 from nI_ge (a := 0) (b := st.length + 1) (by omega) (by omega)), show nI 1 = (1 : Int32) from rfl, em, e_nm, c9, eo, e_nm, e_bvS]
  have f7 : ∀ j, j ≠ 7 → j ≠ 9 → (mI (mI σ1 7 7 (nI st.length)) 7 9 (nI op)).1 7 j = σ1.1 7 j := fun j a b => by rw [m_I, if_neg (by omega), m_I, if_neg (by omega)]
  have f77 : (mI (mI σ1 7 7 (nI st.length)) 7 9 (nI op)).1 7 7 = nI st.length := by rw [m_I, if_neg (by omega), m_I, if_pos ⟨rfl, rfl⟩]
  have f79 : (mI (mI σ1 7 7 (nI st.length)) 7 9 (nI op)).1 7 9 = nI op := by rw [m_I, if_pos ⟨rfl, rfl⟩]
  have fr : ∀ r, r ≠ 7 → (mI (mI σ1 7 7 (nI st.length)) 7 9 (nI op)).1 r = σ1.1 r := fun r a => by rw [m_Ir _ _ _ _ a, m_Ir _ _ _ _ a]
  have fl : (mI (mI σ1 7 7 (nI st.length)) 7 9 (nI op)).2 = σ1.2 := rfl
  generalize mI (mI σ1 7 7 (nI st.length)) 7 9 (nI op) = σ2 at *
  unfold f_X7_readExpression_b104 f_X7_readExpression_b121
  rw [f7 4 (by omega) (by omega), if_pos A.1, f7 2 (by omega) (by omega), A.2.2.1, nI_1, e_nm, nI_1, e_nm]
  have h7 : ∀ j, j ≠ 2 → (mI σ2 7 2 (nI (t + 1))).1 7 j = σ2.1 7 j := fun j a => by rw [m_I, if_neg (by omega)]
  have hr' : ∀ r, r ≠ 7 → (mI σ2 7 2 (nI (t + 1))).1 r = σ2.1 r := fun r a => m_Ir _ _ _ _ a
  have h72 : (mI σ2 7 2 (nI (t + 1))).1 7 2 = nI (t + 1) := by rw [m_I, if_pos ⟨rfl, rfl⟩]
  have hl : (mI σ2 7 2 (nI (t + 1))).2 = σ2.2 := rfl
  generalize mI σ2 7 2 (nI (t + 1)) = σ3 at *
  refine ⟨μ', σ3, z1, ⟨fun r a _ _ _ => g3 r a, fun j a => g4 j (by omega) (by omega), fun j _ => by rw [g3 2 (by omega)], fun r a j _ => by rw [g3 r (by omega)]⟩, rfl, ⟨?_, ⟨by rw [h7 4 (by omega), f7 4 (by omega) (by omega)]; exact A.1, by rw [g4 23 (by omega) (by omega)]; exact A.2.1, h72, z2⟩, ⟨by rw [h7 7 (by omega)]; exact f77, by rw [hr' 8 (by omega), fr 8 (by omega)]; exact w2.2⟩, ⟨by rw [hr' (o + 7) (by omega), fr (o + 7) (by omega)]; exact k1, by rw [g3 2 (by omega)]; exact k2⟩, ⟨by rw [h7 8 (by omega), f7 8 (by omega) (by omega)]; exact n1, by rw [g4 28 (by omega) (by omega)]; exact n2⟩, ⟨by rw [h7 9 (by omega)]; exact f79, g5⟩, by rw [h7 10 (by omega), f7 10 (by omega) (by omega)]; exact wE, by rw [h7 11 (by omega), f7 11 (by omega) (by omega)]; exact nmE, ⟨fun j hj => ?_, fun j hj => absurd hj (by simp)⟩, l1, by omega, hop, by simp; omega⟩, y3.fe.trans (kc := k) (q_FE.fc (fun j a => by rw [h7 j (by omega), f7 j (by omega) (by omega)]) (fun r a b => by rw [hr' r a, fr r a]) ho (by rw [hl, fl])) (by omega)⟩
  · obtain ⟨b1, b2, b3, b4, b5, b6, b7⟩ := B
    refine ⟨b1.eq (by rw [hr' 1 (by omega), fr 1 (by omega)]) (by rw [hr' 3 (by omega), fr 3 (by omega)]) (by rw [hr' 4 (by omega), fr 4 (by omega)]) (by rw [hr' 5 (by omega), fr 5 (by omega)]), b2, by rw [h7 1 (by omega), f7 1 (by omega) (by omega)]; exact b3, b4, by rw [hr' o (by omega), fr o (by omega)]; exact b5, by rw [g3 2 (by omega)]; exact b6, fun i hi => ?_⟩
    rw [hr' (o + 1) (by omega), fr (o + 1) (by omega), g3 3 (by omega)]
    exact b7 i hi
  · rw [hr' (o + 8) (by omega), hr' (o + 9) (by omega), fr (o + 8) (by omega), fr (o + 9) (by omega), g3 13 (by omega), g3 14 (by omega)]
    exact KO.1 j hj
/-- the class stops where no law goes on -/
theorem p_stop (M : q_CM X) (E : q_EX X o nb t P st k kn op 0 nm σ μ) (hN : q_NX 0 (xS X t) P) (hP : ∀ x, x ∈ P → ¬ x = 41 ∧ 1 ≤ q_rk x) (h40 : xS X t = 40 → ¬ op = 0) (h42 : xS X t = 42 → op = 0) (n i : Nat) (hi : i ≤ 700) : ∃ μd σ', f_X12_wrong 1 μ = some μd ∧ q_FM μ μd ∧ f_X7_readExpression_b22 (n + 2) (nI i) σ = some σ' ∧ q_CB X o σ' ∧ q_zD X σ' μd ∧ q_GC o σ σ' ∧ σ'.1 7 4 = 1 ∧ σ'.1 7 5 = nI t := by
  obtain ⟨B, A, ⟨w1, w2⟩, ⟨k1, k2⟩, ⟨n1, n2⟩, ⟨o1, o2⟩, wE, nmE, KO, l1, l2, l3, l4⟩ := id E
  have ho := B.2.1
  have l5 : k + (P.length + st.length) = kn + op := by simpa using l4
  have stp := p_stepO M B A wE op l2 o1 (n + 1) i hi h40 h42
  have fin : ∀ σ1 : MSt, q_zB X o nb σ1 μ → q_zA X t σ1 μ → q_GC o σ σ1 → (∃ v, v ≤ 72 ∧ σ1.1 7 7 = nI v) → (∃ v, v ≤ 64 ∧ σ1.1 (o + 7) 5 = nI v) → f_X7_readOperator (xS X t) σ = k_bv (f_X7_fail 1 σ1) (fun s => some s) → ∃ μd σ', f_X12_wrong 1 μ = some μd ∧ q_FM μ μd ∧ f_X7_readExpression_b22 (n + 2) (nI i) σ = some σ' ∧ q_CB X o σ' ∧ q_zD X σ' μd ∧ q_GC o σ σ' ∧ σ'.1 7 4 = 1 ∧ σ'.1 7 5 = nI t := by
    intro σ1 B1 A1 G1 ⟨v, hv, ev⟩ ⟨u, hu, eu⟩ hop
    obtain ⟨σd, μd, z1, z2, z3, z4, z5, z6⟩ := q_flt B1 A1 1 (by decide)
    have C : q_CB X o σd := z3.cb u hu (by rw [z5.1 (o + 7) (by omega)]; exact eu)
    have e45 : σd.1 7 4 = 1 ∧ σd.1 7 5 = nI t := by
      unfold f_X7_fail f_X7_fail_b20 at z1
      rw [if_pos A1.1] at z1
      simp only [e_nm] at z1
      have e := Option.some.inj z1
      subst e
      exact ⟨by simp [m_I], by simp [m_I]; exact A1.2.2.1⟩
    obtain ⟨σ', b1, b2⟩ := d_out n i v C z4.n.1 (by rw [z5.2.1 7 (by omega) (by omega) (by omega)]; exact ev) hv
    refine ⟨μd, σ', z2, z6, ?_, b2.1, z4.fr b2.2.1 b2.2.2.1 rfl rfl, (G1.trans z5.gc).trans b2.2.2.2, by rw [b2.2.1]; exact e45.1, by rw [b2.2.2.1]; exact e45.2⟩
    rw [stp, hop, z1, e_bvS, e_bvS]
    exact b1
  have simple : (q_rk (xS X t) = 0 ∨ xS X t = 24) → ∃ μd σ', f_X12_wrong 1 μ = some μd ∧ q_FM μ μd ∧ f_X7_readExpression_b22 (n + 2) (nI i) σ = some σ' ∧ q_CB X o σ' ∧ q_zD X σ' μd ∧ q_GC o σ σ' ∧ σ'.1 7 4 = 1 ∧ σ'.1 7 5 = nI t := fun h => fin σ B A q_GC.rf ⟨(P ++ st).length, by simp; omega, w1⟩ ⟨k, by omega, k1⟩ (p_oprF (xS X t) h)
  obtain ⟨h6, h5, h4, h23, h22⟩ := hN
  by_cases c4 : q_rk (xS X t) = 4
  · obtain ⟨P1, x, P2, rfl, hP1, hx⟩ := h4 (by omega) c4
    have ea : P1 ++ x :: P2 ++ st = P1 ++ (x :: (P2 ++ st)) := by simp
    have ll : (P1 ++ (x :: (P2 ++ st))).length ≤ 72 := by rw [← ea]; simp at l5 ⊢; omega
    have l6 : k + (P1.length + (P2.length + 1) + st.length) = kn + op := by simpa using l5
    rw [ea] at w1 w2
    obtain ⟨σ1, y1, y2, y3⟩ := s_tell o 5 ho (by omega) (x :: (P2 ++ st)) (Or.inr ⟨x, P2 ++ st, rfl, Or.inr (by omega)⟩) P1 FU k σ (by unfold FU; omega) (fun y hy => ⟨(hP y (by simp [hy])).1, hP1 y hy⟩) ll (by omega) B.2.2.1 w1 w2 k1
    have n24 : ¬ xS X t = 24 := fun q => by
      have : q_rk 24 = 3 := by decide
      rw [q, this] at c4
      omega
    have r49 : q_rk 49 = 4 := by decide
    have f8 : σ1.1 8 = σ.1 8 := y3.2.2.2.2.1 8 (by omega) (by omega) (by omega) (by omega)
    have e7 : σ1.1 7 7 = nI ((P2 ++ st).length + 1) := by rw [y2]; simp
    have lq : (P2 ++ st).length + 1 ≤ 72 := by simp; omega
    have em : nI ((P2 ++ st).length + 1) - 1 = nI (P2 ++ st).length := q_nIm _ (by omega)
    have es : σ1.1 8 (P2 ++ st).length = x := by rw [f8]; exact (w2.app).1
    refine fin σ1 (y3.zB B) (y3.zA A) y3.fe.gc ⟨(P2 ++ st).length + 1, lq, e7⟩ ⟨k + P1.length, by omega, y3.1⟩ ?_
    have y1' : f_X7_tellDownTo (nI 5) σ = some σ1 := y1
    unfold f_X7_readOperator f_X7_readOperator_b35 f_X7_readOperator_b48
    rw [s_rankOf, e_bdS, c4, if_neg (by decide), if_neg n24, s_rankOf, e_bdS, r49, if_pos rfl, if_neg (by decide), show nI 4 + 1 = nI 5 by decide, y1', e_bvS, if_neg (by decide), e7, if_neg (show ¬ nI ((P2 ++ st).length + 1) ≤ 0 from nI_ge (a := 0) (b := (P2 ++ st).length + 1) (by omega) (by omega)), em, e_ck (e_in (by omega) (by decide)), nI_clamp (by omega), es, s_rankOf, e_bdS, hx, if_pos rfl]
  · have r3 : q_rk (xS X t) = 0 ∨ xS X t = 24 := by
      have h6' := h6 (by omega)
      have h5' := h5 (by omega)
      have h23' := h23 (by omega)
      have h22' := h22 rfl
      unfold q_rk at *
      by_cases a : xS X t = 24
      · exact Or.inr a
      · left
        rw [if_neg h22', if_neg h23', if_neg a] at *
        by_cases b5 : xS X t = 43 ∨ xS X t = 44
        · exact absurd (if_pos b5) h5'
        · rw [if_neg b5] at *
          by_cases b6 : xS X t = 45 ∨ xS X t = 46
          · exact absurd (if_pos b6) h6'
          · rw [if_neg b6] at *
            by_cases b4 : xS X t = 47 ∨ xS X t = 48 ∨ xS X t = 49 ∨ xS X t = 50 ∨ xS X t = 51 ∨ xS X t = 52
            · exact absurd (if_pos b4) c4
            · exact if_neg b4
    exact simple r3
/-- the sign behind its sides -/
theorem p_aft {x : Int32} (E : q_EX X o nb t P (x :: st) k kn op 0 nm σ μ) (hop : op ≤ st.length) {c : Int32} (hc : q_KN x 0 2 c) : ∃ μ', f_X12_puts 2 c μ = some μ' ∧ q_EX X o nb t (P ++ [x]) st k kn op 0 nm σ μ' ∧ q_FN (k + P.length) μ μ' ∧ q_gk μ' (k + P.length) = q_kd x := by
  obtain ⟨B, A, ⟨w1, w2⟩, ⟨k1, k2⟩, ⟨n1, n2⟩, ⟨o1, o2⟩, wE, nmE, KO, l1, l2, l3, l4⟩ := id E
  have l5 : k + (P.length + (st.length + 1)) = kn + op := by simpa using l4
  have hk : k + P.length < 64 := by omega
  have ea : P ++ x :: st = P ++ [x] ++ st := by simp
  rw [s_puts (k + P.length) hk A.2.1 k2]
  have r0 : (mI (mI (mI μ 13 (64 + (k + P.length)) 2) 14 (64 + (k + P.length)) c) 2 17 (nI (k + P.length + 1))).1 0 = μ.1 0 := by rw [m_Ir _ _ _ _ (by omega), m_Ir _ _ _ _ (by omega), m_Ir _ _ _ _ (by omega)]
  have r17 : (mI (mI (mI μ 13 (64 + (k + P.length)) 2) 14 (64 + (k + P.length)) c) 2 17 (nI (k + P.length + 1))).1 2 17 = nI (k + P.length + 1) := by rw [m_I, if_pos ⟨rfl, rfl⟩]
  have r2 : ∀ j, j ≠ 17 → (mI (mI (mI μ 13 (64 + (k + P.length)) 2) 14 (64 + (k + P.length)) c) 2 17 (nI (k + P.length + 1))).1 2 j = μ.1 2 j := fun j hj => by rw [m_I, if_neg (by omega), m_Ir _ _ _ _ (by omega), m_Ir _ _ _ _ (by omega)]
  have r13 : ∀ j, (mI (mI (mI μ 13 (64 + (k + P.length)) 2) 14 (64 + (k + P.length)) c) 2 17 (nI (k + P.length + 1))).1 13 j = if j = 64 + (k + P.length) then 2 else μ.1 13 j := fun j => by
    rw [m_Ir _ _ _ _ (by omega), m_Ir _ _ _ _ (by omega), m_I]; simp
  have r14 : ∀ j, (mI (mI (mI μ 13 (64 + (k + P.length)) 2) 14 (64 + (k + P.length)) c) 2 17 (nI (k + P.length + 1))).1 14 j = if j = 64 + (k + P.length) then c else μ.1 14 j := fun j => by
    rw [m_Ir _ _ _ _ (by omega), m_I, m_Ir _ _ _ _ (by omega)]; simp
  have rr : ∀ r, r ≠ 2 → r ≠ 13 → r ≠ 14 → (mI (mI (mI μ 13 (64 + (k + P.length)) 2) 14 (64 + (k + P.length)) c) 2 17 (nI (k + P.length + 1))).1 r = μ.1 r := fun r a b c => by rw [m_Ir _ _ _ _ a, m_Ir _ _ _ _ c, m_Ir _ _ _ _ b]
  generalize mI (mI (mI μ 13 (64 + (k + P.length)) 2) 14 (64 + (k + P.length)) c) 2 17 (nI (k + P.length + 1)) = μ1 at *
  have qk : q_KN x 0 (μ1.1 13 (64 + (k + P.length))) (μ1.1 14 (64 + (k + P.length))) := by
    rw [r13, r14, if_pos rfl, if_pos rfl]; exact hc
  refine ⟨μ1, rfl, ⟨?_, ⟨A.1, by rw [r0]; exact A.2.1, A.2.2.1, ?_⟩, ⟨by rw [← ea]; exact w1, by rw [← ea]; exact w2⟩, ⟨k1, by rw [r17]; simp; rfl⟩, ⟨n1, by rw [r0]; exact n2⟩, ⟨o1, by rw [r0]; exact o2⟩, wE, nmE, ⟨fun j hj => ?_, fun j hj => ?_⟩, l1, l2, hop, by rw [← ea]; exact l4⟩, ⟨fun r _ a b c => rr r a b c, fun j _ => by rw [r0], r2, fun r a j hj => ?_⟩, (q_KN_gk qk).symm⟩
  · obtain ⟨b1, b2, b3, b4, b5, b6, b7⟩ := B
    refine ⟨b1, b2, b3, b4, b5, by rw [r2 9 (by omega)]; exact b6, fun i hi => ?_⟩
    rw [rr 3 (by omega) (by omega) (by omega)]
    exact b7 i hi
  · have a4 := A.2.2.2
    unfold q_RT at a4 ⊢
    rw [rr 1 (by omega) (by omega) (by omega), r0]
    exact a4
  · rw [r13, r14, if_neg (by omega), if_neg (by omega)]
    exact KO.1 j hj
  · rcases Nat.lt_or_ge j P.length with c1 | c1
    · have e : (P ++ [x]).getD j 0 = P.getD j 0 := by
        simp [List.getElem?_append_left c1]
      rw [e, r13, r14, if_neg (by omega), if_neg (by omega)]
      exact KO.2 j c1
    · have ej : j = P.length := by simp at hj; omega
      subst ej
      have e : (P ++ [x]).getD P.length 0 = x := by simp
      rw [e]
      exact qk
  · rcases a with rfl | rfl
    · rw [r13, if_neg (by omega)]
    · rw [r14, if_neg (by omega)]
end
