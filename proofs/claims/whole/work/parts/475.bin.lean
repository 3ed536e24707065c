section
variable {X : q_X} {o nb t k kn op : Nat} {P st : List Int32} {wo nm : Int32} {σ μ σ1 σ' μ' : MSt}
/-- a knot is counted, the next token read -/
theorem p_kgo (M : q_CM X) (A : q_zA X t σ μ) (ht : t < xK X) (hk : kn < 64) (n2 : μ.1 0 28 = nI kn) : ∃ μ1 μ', f_X12_knot μ = some μ1 ∧ f_X12_goOn μ1 = some μ' ∧ (∀ r, r ≠ 0 → μ'.1 r = μ.1 r) ∧ (∀ j, j ≠ 28 → (j < 19 ∨ 22 < j) → μ'.1 0 j = μ.1 0 j) ∧ μ'.1 0 28 = nI (kn + 1) ∧ q_RT X (t + 1) μ' := by
  obtain ⟨μ', y1, y2, y3⟩ := q_tok1 M (A.2.2.2.m 28 (nI (kn + 1)) (by omega)) ht
  refine ⟨_, μ', s_knot kn hk A.2.1 n2, ?_, fun r hr => by rw [y3.1 r hr, m_Ir _ _ _ _ hr], fun j a b => by rw [y3.2 j b, m_I, if_neg (by omega)], by rw [y3.2 28 (by omega), m_I, if_pos ⟨rfl, rfl⟩], y2⟩
  unfold f_X12_goOn f_X12_goOn_b11
  rw [if_pos (show (mI μ 0 28 (nI (kn + 1))).1 0 23 = 0 by rw [m_I, if_neg (by omega)]; exact A.2.1), y1, e_bvS]
theorem p_kgoD (a : μ.1 0 23 = 0) (h8 : μ.1 0 28 = nI 64) {μd : MSt} (hd : f_X12_wrong 2 μ = some μd) (d : ¬ μd.1 0 23 = 0) : f_X12_knot μ = some μd ∧ f_X12_goOn μd = some μd := ⟨s_knotF a h8 hd, s_goOnD d⟩
/-- a sign between values, both sides -/
theorem p_bin (M : q_CM X) (E : q_EX X o nb t P st k kn op 0 nm σ μ) (ht : t < xK X) (hr : q_rk (xS X t) = 1 ∨ q_rk (xS X t) = 2 ∨ q_rk (xS X t) = 5 ∨ q_rk (xS X t) = 6 ∨ q_rk (xS X t) = 4) (hP : ∀ x, x ∈ P → ¬ x = 41 ∧ (if q_rk (xS X t) = 4 then 5 else q_rk (xS X t)) ≤ q_rk x) (hst : st = [] ∨ ∃ x s', st = x :: s' ∧ (x = 41 ∨ q_rk x < q_rk (xS X t))) (n i : Nat) (hi : i ≤ 700) : ∃ μ1 μ', f_X12_knot μ = some μ1 ∧ f_X12_goOn μ1 = some μ' ∧ q_FN (k + P.length) μ μ' ∧ ((∃ σ', f_X7_readExpression_b22 (n + 2) (nI i) σ = f_X7_readExpression_b22 (n + 1) (nI (i + 1)) σ' ∧ q_EX X o nb (t + 1) [] (xS X t :: st) (k + P.length) (kn + 1) op 1 (if xS X t = 22 ∨ xS X t = 23 then 1 else 0) σ' μ' ∧ q_FE o k σ σ') ∨ (∃ σ', f_X7_readExpression_b22 (n + 2) (nI i) σ = some σ' ∧ q_CB X o σ' ∧ q_zD X σ' μ' ∧ q_GC o σ σ')) := by
  obtain ⟨B, A, ⟨w1, w2⟩, ⟨k1, k2⟩, ⟨n1, n2⟩, ⟨o1, o2⟩, wE, nmE, KO, l1, l2, l3, l4⟩ := id E
  have ho := B.2.1
  have l5 : k + (P.length + st.length) = kn + op := by simpa using l4
  have z40 : q_rk 40 = 0 := by decide
  have z42 : q_rk 42 = 0 := by decide
  have stp := p_stepO M B A wE op l2 o1 (n + 1) i hi (fun q => by rw [q, z40] at hr; omega) (fun q => by rw [q, z42] at hr; omega)
  obtain ⟨σ1, y1, y2, y3⟩ := p_oprE E (xS X t) hr hP hst
  have E1 := y3.ex y2 E
  obtain ⟨B1, A1, ⟨w11, w12⟩, -, ⟨n11, -⟩, ⟨o11, -⟩, wE1, nmE1, -⟩ := id E1
  rw [stp, y1]
  unfold f_X7_readOperator_b86 f_X7_readOperator_b113 f_X7_readOperator_b118
  rcases Nat.lt_or_ge kn 64 with c | c
  · obtain ⟨μ1, μ', z1, z2, z3, z4, z5, z6⟩ := p_kgo M A ht c n2
    have h77 : (mI σ1 7 8 (nI (kn + 1))).1 7 7 = nI st.length := by rw [m_I, if_neg (by omega)]; exact y2
    have nmF : ∀ σ3 : MSt, (if xS X t = 22 then k_ck (k_bo 1) (k_nm (mI σ3 7 11 1) fun σ1 => some σ1) else (if xS X t = 23 then k_ck (k_bo 1) (k_nm (mI σ3 7 11 1) fun σ1 => some σ1) else k_ck (k_bo 0) (k_nm (mI σ3 7 11 0) fun σ1 => some σ1))) = some (mI σ3 7 11 (if xS X t = 22 ∨ xS X t = 23 then 1 else 0)) := by
      intro σ3
      have k0 : k_bo 0 = true := by decide
      have kk : k_bo 1 = true := by decide
      rw [e_ck k0, e_ck kk, e_nm, e_nm]
      by_cases c1 : xS X t = 22
      · rw [if_pos c1, if_pos (Or.inl c1)]
      · rw [if_neg c1]
        by_cases c2 : xS X t = 23
        · rw [if_pos c2, if_pos (Or.inr c2)]
        · rw [if_neg c2, if_neg (by rintro (q | q); exact c1 q; exact c2 q)]
    refine ⟨μ1, μ', z1, z2, ⟨fun r a _ _ _ => z3 r a, fun j a => z4 j (by omega) (by omega), fun j _ => by rw [z3 2 (by omega)], fun r a j _ => by rw [z3 r (by omega)]⟩, Or.inl ?_⟩
    rw [s_count kn c n11, e_bvS, s_wait st.length (by omega) h77, e_bvS, e_nm, nmF, e_bvS]
    generalize hN : (if xS X t = 22 ∨ xS X t = 23 then (1 : Int32) else 0) = nm' at *
    have f7 : ∀ j, j ≠ 7 → j ≠ 8 → j ≠ 10 → j ≠ 11 → (mI (mI (mI (mI (mI σ1 7 8 (nI (kn + 1))) 8 st.length (xS X t)) 7 7 (nI (st.length + 1))) 7 10 1) 7 11 nm').1 7 j = σ1.1 7 j := fun j a b c d => by rw [m_I, if_neg (by omega), m_I, if_neg (by omega), m_I, if_neg (by omega), m_Ir _ _ _ _ (by omega), m_I, if_neg (by omega)]
    have f77 : (mI (mI (mI (mI (mI σ1 7 8 (nI (kn + 1))) 8 st.length (xS X t)) 7 7 (nI (st.length + 1))) 7 10 1) 7 11 nm').1 7 7 = nI (st.length + 1) := by rw [m_I, if_neg (by omega), m_I, if_neg (by omega), m_I, if_pos ⟨rfl, rfl⟩]
    have f78 : (mI (mI (mI (mI (mI σ1 7 8 (nI (kn + 1))) 8 st.length (xS X t)) 7 7 (nI (st.length + 1))) 7 10 1) 7 11 nm').1 7 8 = nI (kn + 1) := by rw [m_I, if_neg (by omega), m_I, if_neg (by omega), m_I, if_neg (by omega), m_Ir _ _ _ _ (by omega), m_I, if_pos ⟨rfl, rfl⟩]
    have f710 : (mI (mI (mI (mI (mI σ1 7 8 (nI (kn + 1))) 8 st.length (xS X t)) 7 7 (nI (st.length + 1))) 7 10 1) 7 11 nm').1 7 10 = 1 := by rw [m_I, if_neg (by omega), m_I, if_pos ⟨rfl, rfl⟩]
    have f711 : (mI (mI (mI (mI (mI σ1 7 8 (nI (kn + 1))) 8 st.length (xS X t)) 7 7 (nI (st.length + 1))) 7 10 1) 7 11 nm').1 7 11 = nm' := by rw [m_I, if_pos ⟨rfl, rfl⟩]
    have f8 : ∀ j, (mI (mI (mI (mI (mI σ1 7 8 (nI (kn + 1))) 8 st.length (xS X t)) 7 7 (nI (st.length + 1))) 7 10 1) 7 11 nm').1 8 j = if j = st.length then xS X t else σ1.1 8 j := fun j => by
      rw [m_Ir _ _ _ _ (by omega), m_Ir _ _ _ _ (by omega), m_Ir _ _ _ _ (by omega), m_I, m_Ir _ _ _ _ (by omega)]; simp
    have fr : ∀ r, r ≠ 7 → r ≠ 8 → (mI (mI (mI (mI (mI σ1 7 8 (nI (kn + 1))) 8 st.length (xS X t)) 7 7 (nI (st.length + 1))) 7 10 1) 7 11 nm').1 r = σ1.1 r := fun r a b => by rw [m_Ir _ _ _ _ a, m_Ir _ _ _ _ a, m_Ir _ _ _ _ a, m_Ir _ _ _ _ b, m_Ir _ _ _ _ a]
    have fl : (mI (mI (mI (mI (mI σ1 7 8 (nI (kn + 1))) 8 st.length (xS X t)) 7 7 (nI (st.length + 1))) 7 10 1) 7 11 nm').2 = σ1.2 := rfl
    generalize mI (mI (mI (mI (mI σ1 7 8 (nI (kn + 1))) 8 st.length (xS X t)) 7 7 (nI (st.length + 1))) 7 10 1) 7 11 nm' = σ2 at *
    unfold f_X7_readExpression_b104 f_X7_readExpression_b121
    rw [f7 4 (by omega) (by omega) (by omega) (by omega), if_pos A1.1, f7 2 (by omega) (by omega) (by omega) (by omega), A1.2.2.1, nI_1, e_nm, nI_1, e_nm]
    have h7 : ∀ j, j ≠ 2 → (mI σ2 7 2 (nI (t + 1))).1 7 j = σ2.1 7 j := fun j a => by rw [m_I, if_neg (by omega)]
    have hr' : ∀ r, r ≠ 7 → (mI σ2 7 2 (nI (t + 1))).1 r = σ2.1 r := fun r a => m_Ir _ _ _ _ a
    have h72 : (mI σ2 7 2 (nI (t + 1))).1 7 2 = nI (t + 1) := by rw [m_I, if_pos ⟨rfl, rfl⟩]
    have hl : (mI σ2 7 2 (nI (t + 1))).2 = σ2.2 := rfl
    generalize mI σ2 7 2 (nI (t + 1)) = σ3 at *
    refine ⟨σ3, rfl, q_psh E1 (xS X t) (kn + 1) op nm' (fun j a => by rw [h7 j (by omega), f7 j (by omega) (by omega) (by omega) (by omega)]) h72 (by rw [h7 7 (by omega)]; exact f77) (by rw [h7 8 (by omega)]; exact f78) (by rw [h7 9 (by omega), f7 9 (by omega) (by omega) (by omega) (by omega)]; exact o11) (by rw [h7 10 (by omega)]; exact f710) (by rw [h7 11 (by omega)]; exact f711) (fun j a => by rw [hr' 8 (by omega), f8, if_neg (by omega)]) (by rw [hr' 8 (by omega), f8, if_pos rfl]) (fun r a b => by rw [hr' r a, fr r a b]) z3 (by rw [z4 23 (by omega) (by omega)]; exact A.2.1) z6 z5 (by rw [z4 27 (by omega) (by omega)]; exact o2) (by omega) l2 (by omega) (by omega), y3.fe.trans (σ1 := σ1) (kc := k) ⟨fun r a b _ _ _ => by rw [hr' r a, fr r a b], fun j a => by rw [h7 j (by omega), f7 j (by omega) (by omega) (by omega) (by omega)], fun j _ => by rw [hr' (o + 7) (by omega), fr (o + 7) (by omega) (by omega)], fun r a j _ => by rw [hr' r (by omega), fr r (by omega) (by omega)], by rw [hl, fl]⟩ (by omega)⟩
  · have ek : kn = 64 := by omega
    subst ek
    obtain ⟨σd, μd, z1, z2, z3, z4, z5, z6⟩ := q_flt B1 A1 2 (by decide)
    obtain ⟨v1, v2⟩ := p_kgoD A.2.1 n2 z2 z4.n.2
    refine ⟨μd, μd, v1, v2, z6.fn, Or.inr ?_⟩
    have C : q_CB X o σd := z3.cb (k + P.length) (by omega) (by rw [z5.1 (o + 7) (by omega)]; exact y3.1)
    have s1 := q_DD.m7 C 8 (σd.1 7 8 + 1) (by omega)
    have w7 : (mI σd 7 8 (σd.1 7 8 + 1)).1 7 7 = nI st.length := by rw [m_I, if_neg (by omega), z5.2.1 7 (by omega) (by omega) (by omega)]; exact y2
    obtain ⟨σ2, v, a1, a2, a3, a4⟩ := d_wait s1.1 st.length w7 (by omega) (xS X t)
    rw [s_countF n11 z1, e_bvS, a1, e_bvS, e_nm]
    have s2 := (s1.trans a2).trans (q_DD.m7 a2.1 10 1 (by omega))
    have k0 : k_bo 0 = true := by decide
    have kk : k_bo 1 = true := by decide
    have tl : ∀ u : Int32, ∃ σ', f_X7_readExpression_b104 (f_X7_readExpression_b22 (n + 1)) (nI i) (mI (mI σ2 7 10 1) 7 11 u) = some σ' ∧ q_CB X o σ' ∧ q_zD X σ' μd ∧ q_GC o σ σ' := by
      intro u
      have s3 := s2.trans (q_DD.m7 s2.1 11 u (by omega))
      obtain ⟨σ', b1, b2⟩ := d_out n i v s3.1 (by rw [s3.2.1]; exact z4.n.1) (by rw [m_I, if_neg (by omega), m_I, if_neg (by omega)]; exact a3) a4
      have s4 := s3.trans b2
      exact ⟨σ', b1, s4.1, z4.fr s4.2.1 s4.2.2.1 rfl rfl, (y3.fe.gc.trans z5.gc).trans s4.2.2.2⟩
    rw [e_ck k0, e_ck kk, e_nm, e_nm]
    by_cases c1 : xS X t = 22
    · rw [if_pos c1, e_bvS]; exact tl 1
    · rw [if_neg c1]
      by_cases c2 : xS X t = 23
      · rw [if_pos c2, e_bvS]; exact tl 1
      · rw [if_neg c2, e_bvS]; exact tl 0
end
