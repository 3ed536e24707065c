section
variable {X : q_X} {o nb t k kn op : Nat} {P st : List Int32} {wo nm : Int32} {σ μ σ1 σ' μ' : MSt}
theorem q_FE.fc (h7 : ∀ j, (j < 2 ∨ j = 3 ∨ j = 6 ∨ 11 < j) → σ'.1 7 j = σ.1 7 j) (fr : ∀ r, r ≠ 7 → r ≠ 8 → σ'.1 r = σ.1 r) (ho : o = 10 ∨ o = 30) (hl : σ'.2 = σ.2) : q_FE o k σ σ' := ⟨fun r a b _ _ _ => fr r a b, h7, fun j _ => by rw [fr (o + 7) (by omega) (by omega)], fun r a j _ => by rw [fr r (by omega) (by omega)], hl⟩
/-- NOT, both sides -/
theorem p_not (M : q_CM X) (E : q_EX X o nb t [] st k kn op 1 1 σ μ) (hs : xS X t = 24) (n i : Nat) (hi : i ≤ 700) : ∃ μ1 μ', f_X12_knot μ = some μ1 ∧ f_X12_goOn μ1 = some μ' ∧ q_FN k μ μ' ∧ ((∃ σ', f_X7_readExpression_b22 (n + 2) (nI i) σ = f_X7_readExpression_b22 (n + 1) (nI (i + 1)) σ' ∧ q_EX X o nb (t + 1) [] (24 :: st) k (kn + 1) op 1 1 σ' μ' ∧ q_FE o k σ σ') ∨ (∃ σ', f_X7_readExpression_b22 (n + 2) (nI i) σ = some σ' ∧ q_CB X o σ' ∧ q_zD X σ' μ' ∧ q_GC o σ σ')) := by
  obtain ⟨B, A, ⟨w1, w2⟩, ⟨k1, k2⟩, ⟨n1, n2⟩, ⟨o1, o2⟩, wE, nmE, KO, l1, l2, l3, l4⟩ := id E
  have ho := B.2.1
  have l5 : k + st.length = kn + op := by simpa using l4
  have ht : t < xK X := A.2.2.2.lt M (by rw [hs]; decide)
  have stp := p_step M B A wE (n + 1) i hi
  rw [hs] at stp
  have opd : f_X7_readOperand 24 σ = k_bv (f_X7_countKnot σ) fun σ1 => k_bv (f_X7_letWait 24 σ1) fun σ2 => some σ2 := by
    unfold f_X7_readOperand f_X7_readOperand_b97 f_X7_readOperand_b168
    rw [if_neg (by decide), if_pos (by decide), if_neg (by decide), if_pos rfl, nmE, if_neg (by decide)]
  rw [stp, opd]
  rcases Nat.lt_or_ge kn 64 with c | c
  · obtain ⟨μ1, μ', z1, z2, z3, z4, z5, z6⟩ := p_kgo M A ht c n2
    have h77 : (mI σ 7 8 (nI (kn + 1))).1 7 7 = nI st.length := by rw [m_I, if_neg (by omega)]; exact w1
    refine ⟨μ1, μ', z1, z2, ⟨fun r a _ _ _ => z3 r a, fun j a => z4 j (by omega) (by omega), fun j _ => by rw [z3 2 (by omega)], fun r a j _ => by rw [z3 r (by omega)]⟩, Or.inl ?_⟩
    rw [s_count kn c n1, e_bvS, s_wait st.length (by omega) h77, e_bvS, e_bvS]
    have f7 : ∀ j, j ≠ 7 → j ≠ 8 → (mI (mI (mI σ 7 8 (nI (kn + 1))) 8 st.length 24) 7 7 (nI (st.length + 1))).1 7 j = σ.1 7 j := fun j a b => by rw [m_I, if_neg (by omega), m_Ir _ _ _ _ (by omega), m_I, if_neg (by omega)]
    have f77 : (mI (mI (mI σ 7 8 (nI (kn + 1))) 8 st.length 24) 7 7 (nI (st.length + 1))).1 7 7 = nI (st.length + 1) := by rw [m_I, if_pos ⟨rfl, rfl⟩]
    have f78 : (mI (mI (mI σ 7 8 (nI (kn + 1))) 8 st.length 24) 7 7 (nI (st.length + 1))).1 7 8 = nI (kn + 1) := by rw [m_I, if_neg (by omega), m_Ir _ _ _ _ (by omega), m_I, if_pos ⟨rfl, rfl⟩]
    have f8 : ∀ j, (mI (mI (mI σ 7 8 (nI (kn + 1))) 8 st.length 24) 7 7 (nI (st.length + 1))).1 8 j = if j = st.length then 24 else σ.1 8 j := fun j => by
      rw [m_Ir _ _ _ _ (by omega), m_I, m_Ir _ _ _ _ (by omega)]; simp
    have fr : ∀ r, r ≠ 7 → r ≠ 8 → (mI (mI (mI σ 7 8 (nI (kn + 1))) 8 st.length 24) 7 7 (nI (st.length + 1))).1 r = σ.1 r := fun r a b => by rw [m_Ir _ _ _ _ a, m_Ir _ _ _ _ b, m_Ir _ _ _ _ a]
    have fl : (mI (mI (mI σ 7 8 (nI (kn + 1))) 8 st.length 24) 7 7 (nI (st.length + 1))).2 = σ.2 := rfl
    generalize mI (mI (mI σ 7 8 (nI (kn + 1))) 8 st.length 24) 7 7 (nI (st.length + 1)) = σ2 at *
    unfold f_X7_readExpression_b104 f_X7_readExpression_b121
    rw [f7 4 (by omega) (by omega), if_pos A.1, f7 2 (by omega) (by omega), A.2.2.1, nI_1, e_nm, nI_1, e_nm]
    have h7 : ∀ j, j ≠ 2 → (mI σ2 7 2 (nI (t + 1))).1 7 j = σ2.1 7 j := fun j a => by rw [m_I, if_neg (by omega)]
    have hr' : ∀ r, r ≠ 7 → (mI σ2 7 2 (nI (t + 1))).1 r = σ2.1 r := fun r a => m_Ir _ _ _ _ a
    have h72 : (mI σ2 7 2 (nI (t + 1))).1 7 2 = nI (t + 1) := by rw [m_I, if_pos ⟨rfl, rfl⟩]
    have hl : (mI σ2 7 2 (nI (t + 1))).2 = σ2.2 := rfl
    generalize mI σ2 7 2 (nI (t + 1)) = σ3 at *
    exact ⟨σ3, rfl, q_psh E 24 (kn + 1) op 1 (fun j a => by rw [h7 j (by omega), f7 j (by omega) (by omega)]) h72 (by rw [h7 7 (by omega)]; exact f77) (by rw [h7 8 (by omega)]; exact f78) (by rw [h7 9 (by omega), f7 9 (by omega) (by omega)]; exact o1) (by rw [h7 10 (by omega), f7 10 (by omega) (by omega)]; exact wE) (by rw [h7 11 (by omega), f7 11 (by omega) (by omega)]; exact nmE) (fun j a => by rw [hr' 8 (by omega), f8, if_neg (by omega)]) (by rw [hr' 8 (by omega), f8, if_pos rfl]) (fun r a b => by rw [hr' r a, fr r a b]) z3 (by rw [z4 23 (by omega) (by omega)]; exact A.2.1) z6 z5 (by rw [z4 27 (by omega) (by omega)]; exact o2) (by omega) l2 (by omega) (by omega), q_FE.fc (fun j a => by rw [h7 j (by omega), f7 j (by omega) (by omega)]) (fun r a b => by rw [hr' r a, fr r a b]) ho (by rw [hl, fl])⟩
  · have ek : kn = 64 := by omega
    subst ek
    obtain ⟨σd, μd, z1, z2, z3, z4, z5, z6⟩ := q_flt B A 2 (by decide)
    obtain ⟨v1, v2⟩ := p_kgoD A.2.1 n2 z2 z4.n.2
    refine ⟨μd, μd, v1, v2, z6.fn, Or.inr ?_⟩
    have C : q_CB X o σd := z3.cb k (by omega) (by rw [z5.1 (o + 7) (by omega)]; exact k1)
    have s1 := q_DD.m7 C 8 (σd.1 7 8 + 1) (by omega)
    have w7 : (mI σd 7 8 (σd.1 7 8 + 1)).1 7 7 = nI st.length := by rw [m_I, if_neg (by omega), z5.2.1 7 (by omega) (by omega) (by omega)]; exact w1
    obtain ⟨σ2, v, a1, a2, a3, a4⟩ := d_wait s1.1 st.length w7 (by omega) 24
    rw [s_countF n1 z1, e_bvS, a1, e_bvS, e_bvS]
    have s2 := s1.trans a2
    obtain ⟨σ', b1, b2⟩ := d_out n i v s2.1 (by rw [s2.2.1]; exact z4.n.1) a3 a4
    have s4 := s2.trans b2
    exact ⟨σ', b1, s4.1, z4.fr s4.2.1 s4.2.2.1 rfl rfl, z5.gc.trans s4.2.2.2⟩
/-- the class at an opening bracket -/
theorem p_parC (M : q_CM X) (B : q_zB X o nb σ μ) (A : q_zA X t σ μ) (wE : σ.1 7 10 = 1) (hs : xS X t = 41) (n i : Nat) (hi : i ≤ 700) : f_X7_readExpression_b22 (n + 2) (nI i) σ = k_bv (k_bv (f_X7_needRoom (σ.1 7 9) 8 σ) fun σ3 => k_nm (mI σ3 7 9 (σ3.1 7 9 + 1)) fun σ4 => k_bv (f_X7_letWait 41 σ4) fun σ5 => k_nm (mI σ5 7 11 1) fun σ6 => some σ6) fun σ3 => f_X7_readExpression_b104 (f_X7_readExpression_b22 (n + 1)) (nI i) σ3 := by
  have stp := p_step M B A wE (n + 1) i hi
  rw [hs] at stp
  rw [stp]
  unfold f_X7_readOperand f_X7_readOperand_b97 f_X7_readOperand_b168
  rw [if_neg (by decide), if_neg (by decide), if_pos (by decide), if_pos rfl]
/-- an opening bracket, both sides -/
theorem p_par (M : q_CM X) (E : q_EX X o nb t [] st k kn op 1 nm σ μ) (hs : xS X t = 41) (hop : op < 8) (n i : Nat) (hi : i ≤ 700) : ∃ μ' σ', f_X12_token (mI μ 0 27 (nI (op + 1))) = some μ' ∧ q_FN k μ μ' ∧ f_X7_readExpression_b22 (n + 2) (nI i) σ = f_X7_readExpression_b22 (n + 1) (nI (i + 1)) σ' ∧ q_EX X o nb (t + 1) [] (41 :: st) k kn (op + 1) 1 1 σ' μ' ∧ q_FE o k σ σ' := by
  obtain ⟨B, A, ⟨w1, w2⟩, ⟨k1, k2⟩, ⟨n1, n2⟩, ⟨o1, o2⟩, wE, nmE, KO, l1, l2, l3, l4⟩ := id E
  have ho := B.2.1
  have l5 : k + st.length = kn + op := by simpa using l4
  have ht : t < xK X := A.2.2.2.lt M (by rw [hs]; decide)
  obtain ⟨μ', y1, y2, y3⟩ := q_tok1 M (A.2.2.2.m 27 (nI (op + 1)) (by omega)) ht
  have z3 : ∀ r, r ≠ 0 → μ'.1 r = μ.1 r := fun r hr => by rw [y3.1 r hr, m_Ir _ _ _ _ hr]
  have z4 : ∀ j, j ≠ 27 → (j < 19 ∨ 22 < j) → μ'.1 0 j = μ.1 0 j := fun j a b => by rw [y3.2 j b, m_I, if_neg (by omega)]
  have z5 : μ'.1 0 27 = nI (op + 1) := by rw [y3.2 27 (by omega), m_I, if_pos ⟨rfl, rfl⟩]
  have h77 : (mI σ 7 9 (nI (op + 1))).1 7 7 = nI st.length := by rw [m_I, if_neg (by omega)]; exact w1
  rw [p_parC M B A wE hs n i hi]
  unfold f_X7_needRoom f_X7_needRoom_b10
  rw [o1, if_pos (show nI op < 8 from nI_lt (a := op) (b := 8) hop (by decide)), e_bvS, o1, nI_1, e_nm, s_wait st.length (by omega) h77, e_bvS, e_nm, e_bvS]
  have f7 : ∀ j, j ≠ 7 → j ≠ 9 → j ≠ 11 → (mI (mI (mI (mI σ 7 9 (nI (op + 1))) 8 st.length 41) 7 7 (nI (st.length + 1))) 7 11 1).1 7 j = σ.1 7 j := fun j a b c => by rw [m_I, if_neg (by omega), m_I, if_neg (by omega), m_Ir _ _ _ _ (by omega), m_I, if_neg (by omega)]
  have f77 : (mI (mI (mI (mI σ 7 9 (nI (op + 1))) 8 st.length 41) 7 7 (nI (st.length + 1))) 7 11 1).1 7 7 = nI (st.length + 1) := by rw [m_I, if_neg (by omega), m_I, if_pos ⟨rfl, rfl⟩]
  have f79 : (mI (mI (mI (mI σ 7 9 (nI (op + 1))) 8 st.length 41) 7 7 (nI (st.length + 1))) 7 11 1).1 7 9 = nI (op + 1) := by rw [m_I, if_neg (by omega), m_I, if_neg (by omega), m_Ir _ _ _ _ (by omega), m_I, if_pos ⟨rfl, rfl⟩]
  have f711 : (mI (mI (mI (mI σ 7 9 (nI (op + 1))) 8 st.length 41) 7 7 (nI (st.length + 1))) 7 11 1).1 7 11 = 1 := by rw [m_I, if_pos ⟨rfl, rfl⟩]
  have f8 : ∀ j, (mI (mI (mI (mI σ 7 9 (nI (op + 1))) 8 st.length 41) 7 7 (nI (st.length + 1))) 7 11 1).1 8 j = if j = st.length then 41 else σ.1 8 j := fun j => by
    rw [m_Ir _ _ _ _ (by omega), m_Ir _ _ _ _ (by omega), m_I, m_Ir _ _ _ _ (by omega)]; simp
  have fr : ∀ r, r ≠ 7 → r ≠ 8 → (mI (mI (mI (mI σ 7 9 (nI (op + 1))) 8 st.length 41) 7 7 (nI (st.length + 1))) 7 11 1).1 r = σ.1 r := fun r a b => by rw [m_Ir _ _ _ _ a, m_Ir _ _ _ _ a, m_Ir _ _ _ _ b, m_Ir _ _ _ _ a]
  have fl : (mI (mI (mI (mI σ 7 9 (nI (op + 1))) 8 st.length 41) 7 7 (nI (st.length + 1))) 7 11 1).2 = σ.2 := rfl
  generalize mI (mI (mI (mI σ 7 9 (nI (op + 1))) 8 st.length 41) 7 7 (nI (st.length + 1))) 7 11 1 = σ2 at *
  unfold f_X7_readExpression_b104 f_X7_readExpression_b121
  rw [f7 4 (by omega) (by omega) (by omega), if_pos A.1, f7 2 (by omega) (by omega) (by omega), A.2.2.1, nI_1, e_nm, nI_1, e_nm]
  have h7 : ∀ j, j ≠ 2 → (mI σ2 7 2 (nI (t + 1))).1 7 j = σ2.1 7 j := fun j a => by rw [m_I, if_neg (by omega)]
  have hr' : ∀ r, r ≠ 7 → (mI σ2 7 2 (nI (t + 1))).1 r = σ2.1 r := fun r a => m_Ir _ _ _ _ a
  have h72 : (mI σ2 7 2 (nI (t + 1))).1 7 2 = nI (t + 1) := by rw [m_I, if_pos ⟨rfl, rfl⟩]
  have hl : (mI σ2 7 2 (nI (t + 1))).2 = σ2.2 := rfl
  generalize mI σ2 7 2 (nI (t + 1)) = σ3 at *
  refine ⟨μ', σ3, y1, ⟨fun r a _ _ _ => z3 r a, fun j a => z4 j (by omega) (by omega), fun j _ => by rw [z3 2 (by omega)], fun r a j _ => by rw [z3 r (by omega)]⟩, rfl, q_psh E 41 kn (op + 1) 1 (fun j a => by rw [h7 j (by omega), f7 j (by omega) (by omega) (by omega)]) h72 (by rw [h7 7 (by omega)]; exact f77) (by rw [h7 8 (by omega), f7 8 (by omega) (by omega) (by omega)]; exact n1) (by rw [h7 9 (by omega)]; exact f79) (by rw [h7 10 (by omega), f7 10 (by omega) (by omega) (by omega)]; exact wE) (by rw [h7 11 (by omega)]; exact f711) (fun j a => by rw [hr' 8 (by omega), f8, if_neg (by omega)]) (by rw [hr' 8 (by omega), f8, if_pos rfl]) (fun r a b => by rw [hr' r a, fr r a b]) z3 (by rw [z4 23 (by omega) (by omega)]; exact A.2.1) y2 (by rw [z4 28 (by omega) (by omega)]; exact n2) z5 l1 (by omega) (by omega) (by omega), q_FE.fc (fun j a => by rw [h7 j (by omega), f7 j (by omega) (by omega) (by omega)]) (fun r a b => by rw [hr' r a, fr r a b]) ho (by rw [hl, fl])⟩
/-- one bracket too many -/
theorem p_par8 (M : q_CM X) (E : q_EX X o nb t [] st k kn op 1 nm σ μ) (hs : xS X t = 41) (hop : op = 8) (n i : Nat) (hi : i ≤ 700) : ∃ μd σ', f_X12_wrong 2 μ = some μd ∧ q_FN k μ μd ∧ f_X7_readExpression_b22 (n + 2) (nI i) σ = some σ' ∧ q_CB X o σ' ∧ q_zD X σ' μd ∧ q_GC o σ σ' := by
  obtain ⟨B, A, ⟨w1, w2⟩, ⟨k1, k2⟩, ⟨n1, n2⟩, ⟨o1, o2⟩, wE, nmE, KO, l1, l2, l3, l4⟩ := id E
  have ho := B.2.1
  have l5 : k + st.length = kn + op := by simpa using l4
  obtain ⟨σd, μd, z1, z2, z3, z4, z5, z6⟩ := q_flt B A 2 (by decide)
  have C : q_CB X o σd := z3.cb k (by omega) (by rw [z5.1 (o + 7) (by omega)]; exact k1)
  have s1 := q_DD.m7 C 9 (σd.1 7 9 + 1) (by omega)
  have w7 : (mI σd 7 9 (σd.1 7 9 + 1)).1 7 7 = nI st.length := by rw [m_I, if_neg (by omega), z5.2.1 7 (by omega) (by omega) (by omega)]; exact w1
  obtain ⟨σ2, v, a1, a2, a3, a4⟩ := d_wait s1.1 st.length w7 (by omega) 41
  have s2 := (s1.trans a2).trans (q_DD.m7 a2.1 11 1 (by omega))
  obtain ⟨σ', b1, b2⟩ := d_out n i v s2.1 (by rw [s2.2.1]; exact z4.n.1) (by rw [m_I, if_neg (by omega)]; exact a3) a4
  have s4 := s2.trans b2
  refine ⟨μd, σ', z2, z6.fn, ?_, s4.1, z4.fr s4.2.1 s4.2.2.1 rfl rfl, z5.gc.trans s4.2.2.2⟩
  rw [p_parC M B A wE hs n i hi]
  unfold f_X7_needRoom f_X7_needRoom_b10
  rw [o1, hop, if_neg (by decide), z1, e_bvS, e_bvS, e_nm, a1, e_bvS, e_nm, e_bvS]
  exact b1
end
