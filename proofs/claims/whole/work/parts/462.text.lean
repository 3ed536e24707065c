/-! the call of a text, but for the line of a law -/
theorem RR_flt {σ σ' μ μ' : MSt} (h : RR σ μ) (c : ∀ r, ¬ r = 0 → ¬ r = 1 → (r < 3 ∨ 5 < r) → ¬ r = 7 → ¬ r = 8 → (r < 30 ∨ 42 < r) → σ'.1 r = σ.1 r) (c0 : ∀ j, j ≠ 12 → j ≠ 13 → σ'.1 0 j = σ.1 0 j) (c2 : σ'.2 = σ.2) (c5 : σ'.1 1 5 = 0) (u : ∀ r, 14 < r → μ'.1 r = μ.1 r) (uh : ∀ r i, 2 ≤ r → r ≤ 14 → i < q_hf r → μ'.1 r i = μ.1 r i) (u0 : ∀ j, 28 < j → μ'.1 0 j = μ.1 0 j) (u02 : μ'.1 0 2 = 0) (f : q_FT σ' μ'.1) : RR σ' μ' := by
  obtain ⟨nb, nl, nd, nw, nk, dn, T, hdn, A, I, N, O, P, F, W, hr⟩ := h
  refine ⟨nb, nl, nd, nw, nk, dn, T.cg (fun r a b => c r (by omega) (by omega) (by omega) (by omega) (by omega) (by omega)) uh, hdn, ?_, ?_, ?_, ?_, ⟨0, by omega, c5, u02, fun i hi => by omega⟩, f, W.eq (c 6 (by omega) (by omega) (by omega) (by omega) (by omega) (by omega)), hr.eq (u0 46 (by omega)) (u0 47 (by omega)) (u0 48 (by omega)) (u0 50 (by omega))⟩
  · exact A.eq (fun r a b => c r (by omega) (by omega) (by omega) (by omega) (by omega) (by omega)) (by rw [c2]) (fun r a b => by rw [u r (by omega)]) (fun r a b i hi => by rw [u r (by omega)])
  · exact I.eq (c0 11 (by omega) (by omega)) (fun r a b => c r (by omega) (by omega) (by omega) (by omega) (by omega) (by omega)) (by rw [c2]) (u0 44 (by omega)) (fun r a b => by rw [u r (by omega)]) (fun r a b i hi => by rw [u r (by omega)])
  · exact N.eq (by rw [c 62 (by omega) (by omega) (by omega) (by omega) (by omega) (by omega)]) (fun r a b => c r (by omega) (by omega) (by omega) (by omega) (by omega) (by omega)) (fun r a b => c r (by omega) (by omega) (by omega) (by omega) (by omega) (by omega)) (by rw [c2]) (u0 45 (by omega)) (fun r a b i hi => by rw [u r (by omega)]) (fun r a b i hi => by rw [u r (by omega)])
  · exact O.eq (by rw [c 78 (by omega) (by omega) (by omega) (by omega) (by omega) (by omega)]) (by rw [c 78 (by omega) (by omega) (by omega) (by omega) (by omega) (by omega)]) (fun r a b => c r (by omega) (by omega) (by omega) (by omega) (by omega) (by omega)) (u0 59 (by omega)) (u0 60 (by omega)) (fun r a b => u r (by omega))
theorem sim_text (W : q_LAW) : Sim_text RR := by
  intro σ μ a0 h
  have h' := h.thr
  unfold f_X11_text f_X12_text f_X11_text_b15 f_X12_text_b17
  rw [e_nm]
  generalize mI μ 0 0 0 = μ0 at *
  by_cases c : a0 < 0
  · rw [if_pos c, if_pos c]
    exact ⟨_, _, _, rfl, rfl, h'⟩
  rw [if_neg c, if_neg c]
  obtain ⟨nb, nl, nd, nw, nk, dn, T, hdn, A, I, Nn, O, P, F, WD, hr⟩ := id h'
  obtain ⟨n, hn, h5, h2, hB⟩ := P
  obtain ⟨N, hN7, rfl⟩ := q_pI c
  rw [h5, h2]
  rcases Nat.lt_or_ge n N with c3 | c2
  · rw [if_neg (nI_ge (by omega) (by omega)), if_neg (nI_ge (by omega) (by omega))]
    exact ⟨_, _, _, rfl, rfl, h'⟩
  rw [if_pos (nI_le c2 (by omega)), if_pos (nI_le c2 (by omega))]
  obtain ⟨X, σ1, y1, M, CT, xn, xb, y5, yr, y2⟩ := s_cut c2 hn h5 hB WD
  simp only [e_nm]
  have g1 : (mI (mI (mI (mI (mI μ0 0 18 (nI N)) 0 2 0) 0 19 0) 0 23 0) 0 24 (-1)).1 1 = xB X := by
    rw [m_Ir _ _ _ _ (by omega), m_Ir _ _ _ _ (by omega), m_Ir _ _ _ _ (by omega), m_Ir _ _ _ _ (by omega), m_Ir _ _ _ _ (by omega), xb]
  have g18 : (mI (mI (mI (mI (mI μ0 0 18 (nI N)) 0 2 0) 0 19 0) 0 23 0) 0 24 (-1)).1 0 18 = nI (xN X) := by rw [xn]; simp [m_I]
  have g19 : (mI (mI (mI (mI (mI μ0 0 18 (nI N)) 0 2 0) 0 19 0) 0 23 0) 0 24 (-1)).1 0 19 = 0 := by simp [m_I]
  have g23 : (mI (mI (mI (mI (mI μ0 0 18 (nI N)) 0 2 0) 0 19 0) 0 23 0) 0 24 (-1)).1 0 23 = 0 := by simp [m_I]
  have g24 : (mI (mI (mI (mI (mI μ0 0 18 (nI N)) 0 2 0) 0 19 0) 0 23 0) 0 24 (-1)).1 0 24 = -1 := by simp [m_I]
  have g02 : (mI (mI (mI (mI (mI μ0 0 18 (nI N)) 0 2 0) 0 19 0) 0 23 0) 0 24 (-1)).1 0 2 = 0 := by simp [m_I]
  have gr : ∀ r, r ≠ 0 → (mI (mI (mI (mI (mI μ0 0 18 (nI N)) 0 2 0) 0 19 0) 0 23 0) 0 24 (-1)).1 r = μ0.1 r := fun r q => by
    rw [m_Ir _ _ _ _ q, m_Ir _ _ _ _ q, m_Ir _ _ _ _ q, m_Ir _ _ _ _ q, m_Ir _ _ _ _ q]
  have g0 : ∀ j, 28 < j → (mI (mI (mI (mI (mI μ0 0 18 (nI N)) 0 2 0) 0 19 0) 0 23 0) 0 24 (-1)).1 0 j = μ0.1 0 j := fun j q => by
    rw [m_I, if_neg (by omega), m_I, if_neg (by omega), m_I, if_neg (by omega), m_I, if_neg (by omega), m_I, if_neg (by omega)]
  generalize mI (mI (mI (mI (mI μ0 0 18 (nI N)) 0 2 0) 0 19 0) 0 23 0) 0 24 (-1) = μ1 at *
  obtain ⟨μ2, b1, BG, GM2, b24⟩ := s_begin M g1 g18 g19 g23 g24
  obtain ⟨σ2, μ3, r, z1, z2, z3, z4, z5⟩ := s_read W M (Or.inr rfl : (30 : Nat) = 10 ∨ (30 : Nat) = 30) CT BG
  have GM3 := GM2.trans z4
  have uF : ∀ r, 14 < r → μ3.1 r = μ0.1 r := fun r q => by rw [GM3.1 r (by omega), gr r (by omega)]
  have uH : ∀ r i, 2 ≤ r → r ≤ 14 → i < q_hf r → μ3.1 r i = μ0.1 r i := fun r i p q s => by rw [GM3.2.1 r i p q s, gr r (by omega)]
  have u0 : ∀ j, 28 < j → μ3.1 0 j = μ0.1 0 j := fun j q => by rw [GM3.2.2 j (by omega), g0 j q]
  have u02 : μ3.1 0 2 = 0 := by rw [GM3.2.2 2 (by omega)]; exact g02
  have s2r : ∀ r, ¬ r = 1 → (r < 3 ∨ 5 < r) → ¬ r = 7 → ¬ r = 8 → (r < 30 ∨ 42 < r) → σ2.1 r = σ.1 r := fun r p q s t u => by rw [z3.1 r s t u, yr r p q]
  have s15 : σ2.1 1 5 = 0 := by rw [z3.1 1 (by omega) (by omega) (by omega)]; exact y5
  rw [y1, e_bvS, z1, e_bdS, b1, q_lp_eq, z2, e_bvS]
  unfold f_X12_text_b160
  simp only [e_nm]
  have v25 : (mI (mI μ3 0 25 (μ3.1 0 23)) 0 26 ((mI μ3 0 25 (μ3.1 0 23)).1 0 24)).1 0 25 = μ3.1 0 23 := by simp [m_I]
  have v26 : (mI (mI μ3 0 25 (μ3.1 0 23)) 0 26 ((mI μ3 0 25 (μ3.1 0 23)).1 0 24)).1 0 26 = μ3.1 0 24 := by simp [m_I]
  have vr : ∀ r, r ≠ 0 → (mI (mI μ3 0 25 (μ3.1 0 23)) 0 26 ((mI μ3 0 25 (μ3.1 0 23)).1 0 24)).1 r = μ3.1 r := fun r q => by rw [m_Ir _ _ _ _ q, m_Ir _ _ _ _ q]
  have v0 : ∀ j, j ≠ 25 → j ≠ 26 → (mI (mI μ3 0 25 (μ3.1 0 23)) 0 26 ((mI μ3 0 25 (μ3.1 0 23)).1 0 24)).1 0 j = μ3.1 0 j := fun j p q => by rw [m_I, if_neg (by omega), m_I, if_neg (by omega)]
  generalize mI (mI μ3 0 25 (μ3.1 0 23)) 0 26 ((mI μ3 0 25 (μ3.1 0 23)).1 0 24) = μ4 at *
  have w7 : (mI σ2 0 12 (σ2.1 7 4)).1 7 = σ2.1 7 := m_Ir _ _ _ _ (by omega)
  rcases z5 with ⟨nb', nl', nd', nw', nk', t', ln', er, IV⟩ | ⟨CB, D⟩
  · -- the text is right
    have al := IV.2.1.1
    have fp : f_X7_faultPlace (mI σ2 0 12 (σ2.1 7 4)) = some (-1, mI σ2 0 12 (σ2.1 7 4)) := by
      unfold f_X7_faultPlace f_X7_faultPlace_b22
      rw [w7, if_pos al]
    rw [fp, e_bdS, al]
    have q12 : (mI (mI σ2 0 12 0) 0 13 (-1)).1 0 12 = 0 := by simp [m_I]
    have q13 : (mI (mI σ2 0 12 0) 0 13 (-1)).1 0 13 = -1 := by simp [m_I]
    have qr : ∀ r, r ≠ 0 → (mI (mI σ2 0 12 0) 0 13 (-1)).1 r = σ2.1 r := fun r p => by rw [m_Ir _ _ _ _ p, m_Ir _ _ _ _ p]
    rw [q12, if_pos rfl, v0 23 (by omega) (by omega), IV.2.1.2.1, if_pos rfl]
    generalize mI (mI σ2 0 12 0) 0 13 (-1) = σ3 at *
    have CT3 : q_CT X σ3 := IV.1.1.eq (qr 1 (by omega)) (qr 3 (by omega)) (qr 4 (by omega)) (qr 5 (by omega))
    obtain ⟨σ4, μ3', r', x1, x2, x3, x4, x5⟩ := s_read W M (Or.inl rfl : (10 : Nat) = 10 ∨ (10 : Nat) = 30) CT3 BG
    have em : μ3' = μ3 := Option.some.inj (x2.symm.trans z2)
    subst em
    rw [x1, e_bdS]
    obtain ⟨nb, nl, nd, nw, nk, t, ln, er2, IV2⟩ : ∃ nb nl nd nw nk t ln, r' = nI ln ∧ q_IV X 10 nb nl nd nw nk t ln σ4 μ3' := by
      rcases x5 with q | ⟨-, D⟩
      · exact q
      · exact absurd IV.2.1.2.1 D.n.2
    have TX := IV2.tx
    have hnb := TX.le.1
    obtain ⟨σ5, p1, p2, p3, p4, p5⟩ := s_X5_begin_l 8 FU 0 σ4 (by omega) (by decide) (fun b hb => by omega)
    unfold f_X5_begin f_X6_clear f_X2_clear
    rw [show f_X5_begin_b2 50 10 FU 0 σ4 = some σ5 from p1, e_bvS]
    simp only [e_nm, e_bvS]
    obtain ⟨μ5, k1, k2, k3⟩ := s_halves μ4 (fun σ15 => k_nm (mI σ15 0 59 (0 : Int32)) fun σ16 => k_nm (mI σ16 0 60 (-1 : Int32)) fun σ17 => k_nm (mI σ17 0 44 (0 : Int32)) fun σ18 => k_nm (mI σ18 0 45 (0 : Int32)) fun σ19 => k_bv (f_X12_starts (0 : Int32) σ19) fun σ20 => some ((σ20.1 0 17), σ20))
    have k1' := k1
    simp only [e_nm] at k1'
    rw [k1']
    clear k1 k1'
    have j0 : ∀ j, j ≠ 59 → j ≠ 60 → j ≠ 44 → j ≠ 45 → (mI (mI (mI (mI μ5 0 59 0) 0 60 (-1)) 0 44 0) 0 45 0).1 0 j = μ4.1 0 j := fun j a b c d => by
      rw [m_I, if_neg (by omega), m_I, if_neg (by omega), m_I, if_neg (by omega), m_I, if_neg (by omega), k3 0 (by omega)]
    have j59 : (mI (mI (mI (mI μ5 0 59 0) 0 60 (-1)) 0 44 0) 0 45 0).1 0 59 = 0 := by simp [m_I]
    have j60 : (mI (mI (mI (mI μ5 0 59 0) 0 60 (-1)) 0 44 0) 0 45 0).1 0 60 = -1 := by simp [m_I]
    have j44 : (mI (mI (mI (mI μ5 0 59 0) 0 60 (-1)) 0 44 0) 0 45 0).1 0 44 = 0 := by simp [m_I]
    have j45 : (mI (mI (mI (mI μ5 0 59 0) 0 60 (-1)) 0 44 0) 0 45 0).1 0 45 = 0 := by simp [m_I]
    have jr : ∀ r, r ≠ 0 → (mI (mI (mI (mI μ5 0 59 0) 0 60 (-1)) 0 44 0) 0 45 0).1 r = μ5.1 r := fun r q => by rw [m_Ir _ _ _ _ q, m_Ir _ _ _ _ q, m_Ir _ _ _ _ q, m_Ir _ _ _ _ q]
    have jh : ∀ r i, 2 ≤ r → r ≤ 14 → i < q_hf r → (mI (mI (mI (mI μ5 0 59 0) 0 60 (-1)) 0 44 0) 0 45 0).1 r i = μ3'.1 r (q_hf r + i) := fun r i a b d => by
      rw [jr r (by omega), k2 r i a b d, vr r (by omega)]
    generalize mI (mI (mI (mI μ5 0 59 0) 0 60 (-1)) 0 44 0) 0 45 0 = μ6 at *
    have TX6 : q_TX nb nl nd nw nk σ4.1 μ6.1 := TX.cg (fun _ _ _ => rfl) jh
    obtain ⟨μ7, s1, s17, s18, s19, s20, s21, s22, s23, s24, s25, sb, fa⟩ := s_X12_starts 0 (by omega) μ6 nb hnb TX6.nbM
    rw [show f_X12_starts 0 μ6 = some μ7 from s1, e_bvS]
    have m0 : ∀ j, j ≠ 59 → j ≠ 60 → j ≠ 44 → j ≠ 45 → j ≠ 25 → j ≠ 26 → μ7.1 0 j = μ3'.1 0 j := fun j a b c d e f => by rw [fa.1 0 (by omega), j0 j a b c d, v0 j e f]
    have n0 : ∀ j, j ≠ 11 → (mI (mI (mI (mI σ5 78 7 0) 78 8 (-1)) 62 5 0) 0 11 0).1 0 j = σ3.1 0 j := fun j a => by
      rw [m_I, if_neg (by omega), m_Ir _ _ _ _ (by omega), m_Ir _ _ _ _ (by omega), m_Ir _ _ _ _ (by omega), p5 0 (by omega), x3.1 0 (by omega) (by omega) (by omega)]
    have nr : ∀ r, r ≠ 0 → r ≠ 62 → r ≠ 78 → (mI (mI (mI (mI σ5 78 7 0) 78 8 (-1)) 62 5 0) 0 11 0).1 r = σ5.1 r := fun r a b c => by
      rw [m_Ir _ _ _ _ a, m_Ir _ _ _ _ b, m_Ir _ _ _ _ c, m_Ir _ _ _ _ c]
    have n11 : (mI (mI (mI (mI σ5 78 7 0) 78 8 (-1)) 62 5 0) 0 11 0).1 0 11 = 0 := by simp [m_I]
    have n62 : (mI (mI (mI (mI σ5 78 7 0) 78 8 (-1)) 62 5 0) 0 11 0).1 62 5 = 0 := by simp [m_I]
    have n787 : (mI (mI (mI (mI σ5 78 7 0) 78 8 (-1)) 62 5 0) 0 11 0).1 78 7 = 0 := by simp [m_I]
    have n788 : (mI (mI (mI (mI σ5 78 7 0) 78 8 (-1)) 62 5 0) 0 11 0).1 78 8 = -1 := by simp [m_I]
    have nl2 : (mI (mI (mI (mI σ5 78 7 0) 78 8 (-1)) 62 5 0) 0 11 0).2 = σ5.2 := rfl
    generalize mI (mI (mI (mI σ5 78 7 0) 78 8 (-1)) 62 5 0) 0 11 0 = σ6 at *
    have e17 : μ7.1 0 17 = r := by rw [m0 17 (by omega) (by omega) (by omega) (by omega) (by omega) (by omega), IV.2.2.2.1, er]
    rw [e17]
    have TXF : q_TX nb nl nd nw nk σ6.1 μ7.1 := TX6.cg (fun r a b => by rw [nr r (by omega) (by omega) (by omega), p5 r (by omega)]) (fun r i a b _ => by rw [fa.1 r (by omega)])
    obtain ⟨q3, q4, q5, q6, q7, q9, q10, q11⟩ := p3
    refine ⟨_, _, _, rfl, rfl, nb, nl, nd, nw, nk, 0, TXF, by omega, ?_, ⟨by rw [n11, fa.1 0 (by omega), j44], Or.inl n11⟩, q_UN.nil n62 (by rw [fa.1 0 (by omega)]; exact j45), ⟨0, by omega, n787, by rw [fa.1 0 (by omega)]; exact j59, by rw [n788, fa.1 0 (by omega), j60], Or.inl n788, fun i hi => by omega⟩, ⟨0, by omega, ?_, ?_, fun i hi => by omega⟩, ⟨?_, ?_⟩, ?_, ?_⟩
    · unfold q_A
      rw [nr 50 (by omega) (by omega) (by omega), nr (50 + 1) (by omega) (by omega) (by omega), nr (50 + 2) (by omega) (by omega) (by omega), nr (50 + 3) (by omega) (by omega) (by omega), nl2]
      have jb : q_JB 0 := by unfold q_JB; decide
      have lb : q_LB (-1) := by unfold q_LB; decide
      refine ⟨⟨q3, s17⟩, fun b hb => ?_, fun b hb => ?_, fun b hb => ?_, ⟨by rw [q5, s19], by rw [q6, s20]⟩, ⟨by rw [q7, s21], Or.inl q7⟩, ⟨by rw [q9, s22], by rw [q10, s23], by rw [q11, s24]⟩, ?_, Or.inl ⟨q5, q6, ?_, ?_⟩⟩
      · rw [(p2 b hb).1, (sb b hb).1]; exact ⟨rfl, jb⟩
      · rw [(p2 b hb).2.1, (sb b hb).2.1]
      · rw [(p2 b hb).2.2, (sb b hb).2.2]; exact ⟨rfl, lb⟩
      · obtain ⟨k, k9, e1, e2⟩ := TX6.seed
        exact ⟨k, by omega, by rw [s25]; exact e2, by rw [p4, e1]; exact nI_l (by omega)⟩
      · rw [q4, s18]
        by_cases cn : nb = 0
        · rw [if_pos cn, (TX6.ship.1 cn), if_pos rfl, TX6.nbC, cn, if_pos (by decide)]
        · rw [if_neg cn]
          obtain ⟨b, b1, b2, b3⟩ := TX6.ship.2 (by omega)
          rcases b3 with b3 | ⟨b3, b4⟩
          · rw [b3, if_neg (q_n1 (by omega)), b2]
          · rw [b3, if_pos rfl, TX6.nbC, if_neg (show ¬ nI nb ≤ 0 from nI_ge (a := 0) (b := nb) (by omega) (by omega)), b2, b4]
            rfl
      · rw [q4]
        by_cases cn : nb = 0
        · left
          rw [(TX6.ship.1 cn), if_pos rfl, TX6.nbC, cn, if_pos (by decide)]
          exact ⟨rfl, rfl⟩
        · right
          obtain ⟨b, b1, b2, b3⟩ := TX6.ship.2 (by omega)
          rcases b3 with b3 | ⟨b3, b4⟩
          · exact ⟨b, b1, by rw [b3, if_neg (q_n1 (by omega))]⟩
          · refine ⟨0, by omega, ?_⟩
            rw [b3, if_pos rfl, TX6.nbC, if_neg (show ¬ nI nb ≤ 0 from nI_ge (a := 0) (b := nb) (by omega) (by omega))]
            rfl
    · rw [nr 1 (by omega) (by omega) (by omega), p5 1 (by omega), x3.1 1 (by omega) (by omega) (by omega), qr 1 (by omega)]; exact s15
    · rw [m0 2 (by omega) (by omega) (by omega) (by omega) (by omega) (by omega)]; exact u02
    · rw [n0 12 (by omega), q12, fa.1 0 (by omega), j0 25 (by omega) (by omega) (by omega) (by omega), v25, IV.2.1.2.1]
    · rw [n0 13 (by omega), q13, fa.1 0 (by omega), j0 26 (by omega) (by omega) (by omega) (by omega), v26, IV.2.1.2.2.2.2.1.2]
    · exact WD.eq (by rw [nr 6 (by omega) (by omega) (by omega), p5 6 (by omega), x3.1 6 (by omega) (by omega) (by omega), qr 6 (by omega), s2r 6 (by omega) (by omega) (by omega) (by omega) (by omega)])
    · exact hr.eq (by rw [m0 46 (by omega) (by omega) (by omega) (by omega) (by omega) (by omega), u0 46 (by omega)]) (by rw [m0 47 (by omega) (by omega) (by omega) (by omega) (by omega) (by omega), u0 47 (by omega)]) (by rw [m0 48 (by omega) (by omega) (by omega) (by omega) (by omega) (by omega), u0 48 (by omega)]) (by rw [m0 50 (by omega) (by omega) (by omega) (by omega) (by omega) (by omega), u0 50 (by omega)])
  · -- the text is wrong
    obtain ⟨a, d1, d2, d3, d4, d5⟩ := id D
    have CT2 : q_CT X (mI σ2 0 12 (σ2.1 7 4)) := CB.1.eq (m_Ir _ _ _ _ (by omega)) (m_Ir _ _ _ _ (by omega)) (m_Ir _ _ _ _ (by omega)) (m_Ir _ _ _ _ (by omega))
    have fp : f_X7_faultPlace (mI σ2 0 12 (σ2.1 7 4)) = some (nI (xP X a), mI σ2 0 12 (σ2.1 7 4)) := by
      unfold f_X7_faultPlace f_X7_faultPlace_b22
      have hN := M.1.1
      have hK := M.2.1
      rw [w7, if_neg d1, d3, s_placeOf M CT2 a (by omega), e_bdS]
    rw [fp, e_bdS]
    have q12 : (mI (mI σ2 0 12 (σ2.1 7 4)) 0 13 (nI (xP X a))).1 0 12 = σ2.1 7 4 := by simp [m_I]
    have q13 : (mI (mI σ2 0 12 (σ2.1 7 4)) 0 13 (nI (xP X a))).1 0 13 = nI (xP X a) := by simp [m_I]
    have qr : ∀ r, r ≠ 0 → (mI (mI σ2 0 12 (σ2.1 7 4)) 0 13 (nI (xP X a))).1 r = σ2.1 r := fun r p => by rw [m_Ir _ _ _ _ p, m_Ir _ _ _ _ p]
    have q0 : ∀ j, j ≠ 12 → j ≠ 13 → (mI (mI σ2 0 12 (σ2.1 7 4)) 0 13 (nI (xP X a))).1 0 j = σ2.1 0 j := fun j p q => by rw [m_I, if_neg (by omega), m_I, if_neg (by omega)]
    rw [q12, if_neg d1, v0 23 (by omega) (by omega), if_neg D.n.2]
    refine ⟨_, _, _, rfl, rfl, RR_flt h' (fun r e1 e2 e3 e4 e5 e6 => by rw [qr r e1]; exact s2r r e2 e3 e4 e5 e6) (fun j e1 e2 => by rw [q0 j e1 e2, s2r 0 (by omega) (by omega) (by omega) (by omega) (by omega)]) (by rw [m_I2, m_I2, z3.2, y2]) (by rw [qr 1 (by omega)]; exact s15) (fun r q => by rw [vr r (by omega)]; exact uF r q) (fun r i p q s => by rw [vr r (by omega)]; exact uH r i p q s) (fun j q => by rw [v0 j (by omega) (by omega)]; exact u0 j q) (by rw [v0 2 (by omega) (by omega)]; exact u02) ⟨?_, ?_⟩⟩
    · rw [q12, v25, d2]
    · rw [q13, v26, d5]
