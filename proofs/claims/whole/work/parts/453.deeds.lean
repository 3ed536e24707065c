section
variable {X : q_X} {o nb nl nd nw nk t ln : Nat} {σ μ σ' μ' : MSt}
/-- a bay is named and passed -/
theorem q_aheadB (M : q_CM X) (h : q_zJ X o nb t σ μ) : ∃ x y σ' μ', f_X7_toldBay σ = some (x, σ') ∧ f_X12_bayAhead μ = some (y, μ') ∧ q_zJ X o nb (t + 1) (mI σ' 7 2 (σ'.1 7 2 + 1)) μ' ∧ q_FC σ (mI σ' 7 2 (σ'.1 7 2 + 1)) ∧ q_FM μ μ' ∧ ((mI σ' 7 2 (σ'.1 7 2 + 1)).1 7 4 = 0 → ∃ b, b < nb ∧ x = nI b ∧ y = nI b) := by
  obtain ⟨x, y, σ1, μ1, a1, a2, a3, a4, a5, a6⟩ := q_told M h
  obtain ⟨μ2, b1, b2, b3, b4, b5⟩ := q_adv M a3 (fun q => (a6 q).1)
  refine ⟨x, y, σ1, μ2, a1, ?_, b2, a4.trans b3, a5.trans b4, fun q => (a6 (by rw [b5] at q; exact q)).2⟩
  unfold f_X12_bayAhead
  rw [a2, e_bdS, b1, e_bvS]
theorem l_deed (M : q_CM X) (h : q_IV X o nb nl nd nw nk t ln σ μ) (hs : xS X t = nI (10 + 2)) : ∃ σ' μ', f_X7_readLine σ = some σ' ∧ f_X12_line μ = some μ' ∧ q_OUT X o t ln σ μ σ' μ' := by
  obtain ⟨B, A, P, h17, hln⟩ := id h
  have tl := q_IV.tl M h
  obtain ⟨c1, c2⟩ := B.c
  have ho := B.2.1
  have hw := P.1.1.2.1
  have cw := P.1.2.1.2.1
  unfold f_X7_readLine
  rw [A.2.2.1, s_sortOf M B.1 t tl.1, e_bdS, hs, if_neg (show ¬ nI (10 + 2) = 10 by decide), if_neg (show ¬ nI (10 + 2) = 11 by decide), if_pos (show nI (10 + 2) = 12 from rfl), q_line0 h 2 (by omega) hs]
  by_cases c : nd = 12
  · rw [if_pos (by omega)]
    obtain ⟨σd, μd, y1, y2, y3, y4, y5, y6⟩ := q_flt B A 2 (by decide)
    rw [y2, e_bvS, q_b71d y4.n.2]
    have e : f_X7_readDeed σ = f_X7_readDeed σd := by
      obtain ⟨d1, d2⟩ := y3.c
      unfold f_X7_readDeed
      rw [e_ck c1, e_ck d1, e_nm, e_nm, c2, d2, cw, c, d_needRoom y4.n.1, show f_X7_needRoom (nI 12) 12 σ = some σd from s_roomF 12 (by omega) y1]
    rw [e]
    exact q_dl M P.k y3 y4 y5 y6 _ (fun C => d_deed M C y4.n.1)
  · rw [if_neg (by omega), if_pos (by omega)]
    obtain ⟨μ2, z1, B1, A1, P1, z17, gm, gc⟩ := q_st M h 2 0 (by omega) hs (σ.1 7 3) (P.2.2.2.2.2.2.l 2 (by omega))
    rw [mI_same] at B1 A1 P1 gc
    unfold f_X7_readDeed f_X12_line_b71 f_X7_readDeed_b71
    rw [e_ck c1, e_nm, c2, cw, show f_X7_needRoom (nI nd) 12 σ = some σ from s_room nd 12 (by omega) (by omega), e_bvS, e_nm, A.2.2.1, nI_1, if_pos A.2.1, e_nm, z1, e_bvS, if_neg (show ¬ nI 2 = 0 by decide), if_neg (show ¬ nI 2 = 1 by decide), if_pos (show nI 2 = 2 from rfl)]
    generalize mI σ 7 2 (nI (t + 1)) = σ1 at *
    clear z1
    have fr : ∀ ν : MSt, f_X12_fresher 2 ν = some (ν.1 2 11, ν) := fun ν => s_fresher 2 (by omega) ν
    have rd : ∀ (ν : MSt) v, f_X12_reads 2 v ν = some (mI ν 2 11 v) := fun ν v => s_reads 2 (by omega) v ν
    have inb : k_inb ((12 : Int32) + nI nd) 24 = true ∧ ((12 : Int32) + nI nd).toNatClampNeg = 12 + nd := by
      have : ∀ n : Nat, n < 12 → k_inb ((12 : Int32) + nI n) 24 = true ∧ ((12 : Int32) + nI n).toNatClampNeg = 12 + n := by decide
      exact this nd (by omega)
    obtain ⟨x1, y1, σa, μ3, m1, m2, m3, m4, m5, m6⟩ := q_aheadB M (show q_zJ X o nb (t + 1) σ1 μ2 from ⟨B1, Or.inl A1⟩)
    rw [m1, e_bdS, fr, e_bdS, P1.1.2.2.1.2.1, e_nm, e_nm, m2, e_bdS, e_ck inb.1, inb.2]
    generalize mI σa 7 2 (σa.1 7 2 + 1) = σ2 at *
    obtain ⟨x2, y2, σ3, μ4, r1, r2, r3, r4, r5, r6⟩ := q_num M (m3.w 7 (12 + nd) y1 (by omega)) 0 99 (by omega) (by omega)
    rw [show f_X7_takeNumber 0 99 σ2 = _ from r1, e_bdS]
    obtain ⟨x3, y3, σ4, μ5, s1, s2, s3, s4, s5, s6⟩ := q_num M (r3.w 8 (12 + nd) y2 (by omega)) 0 9 (by omega) (by omega)
    rw [show f_X7_takeNumber 0 9 σ3 = _ from s1, e_bdS]
    have fc : q_FC σ1 σ4 := (m4.trans r4).trans s4
    have q11 : (mI μ5 9 (12 + nd) y3).1 2 11 = nI nd := by
      rw [m_Ir _ _ _ _ (by omega), s5.1 2 (by omega), m_Ir _ _ _ _ (by omega), r5.1 2 (by omega), m_Ir _ _ _ _ (by omega), m5.1 2 (by omega)]
      exact P1.1.2.2.1.2.1
    have er : ∀ r, r ≠ 0 → r ≠ 2 → r ≠ 7 → r ≠ 8 → r ≠ 9 → (mI (mI μ5 9 (12 + nd) y3) 2 11 (nI (nd + 1))).1 r = μ2.1 r := fun r p q u v w => by
      rw [m_Ir _ _ _ _ q, m_Ir _ _ _ _ w, s5.1 r p, m_Ir _ _ _ _ v, r5.1 r p, m_Ir _ _ _ _ u, m5.1 r p]
    have e0 : (mI (mI μ5 9 (12 + nd) y3) 2 11 (nI (nd + 1))).1 0 = μ5.1 0 := by rw [m_Ir _ _ _ _ (by omega), m_Ir _ _ _ _ (by omega)]
    have e00 : ∀ j, (j < 19 ∨ 24 < j) → μ5.1 0 j = μ2.1 0 j := fun j hj => by
      rw [s5.2 j hj, m_Ir _ _ _ _ (by omega), r5.2 j hj, m_Ir _ _ _ _ (by omega), m5.2 j hj]
    have e2 : ∀ j, j ≠ 11 → (mI (mI μ5 9 (12 + nd) y3) 2 11 (nI (nd + 1))).1 2 j = μ2.1 2 j := fun j p => by
      rw [m_I, if_neg (by omega), m_Ir _ _ _ _ (by omega), s5.1 2 (by omega), m_Ir _ _ _ _ (by omega), r5.1 2 (by omega), m_Ir _ _ _ _ (by omega), m5.1 2 (by omega)]
    have e211 : (mI (mI μ5 9 (12 + nd) y3) 2 11 (nI (nd + 1))).1 2 11 = nI (nd + 1) := by rw [m_I, if_pos ⟨rfl, rfl⟩]
    have e7 : ∀ j, (mI (mI μ5 9 (12 + nd) y3) 2 11 (nI (nd + 1))).1 7 j = if j = 12 + nd then y1 else μ2.1 7 j := fun j => by
      rw [m_Ir _ _ _ _ (by omega), m_Ir _ _ _ _ (by omega), s5.1 7 (by omega), m_Ir _ _ _ _ (by omega), r5.1 7 (by omega), m_I, m5.1 7 (by omega)]
      simp
    have e8 : ∀ j, (mI (mI μ5 9 (12 + nd) y3) 2 11 (nI (nd + 1))).1 8 j = if j = 12 + nd then y2 else μ2.1 8 j := fun j => by
      rw [m_Ir _ _ _ _ (by omega), m_Ir _ _ _ _ (by omega), s5.1 8 (by omega), m_I, r5.1 8 (by omega), m_Ir _ _ _ _ (by omega), m5.1 8 (by omega)]
      simp
    have e9 : ∀ j, (mI (mI μ5 9 (12 + nd) y3) 2 11 (nI (nd + 1))).1 9 j = if j = 12 + nd then y3 else μ2.1 9 j := fun j => by
      rw [m_Ir _ _ _ _ (by omega), m_I, s5.1 9 (by omega), m_Ir _ _ _ _ (by omega), r5.1 9 (by omega), m_Ir _ _ _ _ (by omega), m5.1 9 (by omega)]
      simp
    have hf : ∀ r, (r = 7 ∨ r = 8 ∨ r = 9) → q_hf r ≤ 12 + nd := fun r hr => by rcases hr with rfl | rfl | rfl <;> (unfold q_hf; simp)
    have gm2 : q_GM μ2 (mI (mI μ5 9 (12 + nd) y3) 2 11 (nI (nd + 1))) := ((((((m5.gm.trans (q_GM.mh _ 7 _ _ (by omega) (hf 7 (by omega)))).trans r5.gm).trans (q_GM.mh _ 8 _ _ (by omega) (hf 8 (by omega)))).trans s5.gm).trans (q_GM.mh _ 9 _ _ (by omega) (hf 9 (by omega))))).trans (q_GM.mh _ 2 _ _ (by omega) (by unfold q_hf; simp))
    have e4 : σ4.1 7 4 = 0 → (σ3.1 7 4 = 0 ∧ σ2.1 7 4 = 0) := by
      intro q
      have a3 : σ3.1 7 4 = 0 := by
        by_cases z : σ3.1 7 4 = 0
        · exact z
        · have D := r3.de z
          have := (s3.al q).1
          obtain ⟨w, ew⟩ := d_num M (show q_CB X o σ3 from r3.1.cb nk P1.1.1.2.2.2 (by rw [(m4.trans r4).1 (o + 7) (by omega)]; exact P1.1.2.1.2.2.2)) z 0 9
          have h2 := s1.symm.trans ew
          have h3 : σ4 = mI σ3 7 2 (σ3.1 7 2 + 1) := congrArg Prod.snd (Option.some.inj h2)
          rw [h3, m_I, if_neg (by omega)] at q
          exact absurd q z
      refine ⟨a3, ?_⟩
      by_cases z : σ2.1 7 4 = 0
      · exact z
      · obtain ⟨w, ew⟩ := d_num M (show q_CB X o σ2 from m3.1.cb nk P1.1.1.2.2.2 (by rw [m4.1 (o + 7) (by omega)]; exact P1.1.2.1.2.2.2)) z 0 99
        have h2 := r1.symm.trans ew
        have h3 : σ3 = mI σ2 7 2 (σ2.1 7 2 + 1) := congrArg Prod.snd (Option.some.inj h2)
        rw [h3, m_I, if_neg (by omega)] at a3
        exact absurd a3 z
    have ref : (k_nm (mI μ3 7 (12 + nd) y1) fun σ21 => k_bd (f_X12_numeral (0 : Int32) (99 : Int32) σ21) fun q23 σ22 => k_ck (k_inb ((12 : Int32) + nI nd) 24) <| k_nm (mI σ22 8 (12 + nd) q23) fun σ24 => k_bd (f_X12_numeral (0 : Int32) (9 : Int32) σ24) fun q26 σ25 => k_ck (k_inb ((12 : Int32) + nI nd) 24) <| k_nm (mI σ25 9 (12 + nd) q26) fun σ27 => k_bd (f_X12_fresher (2 : Int32) σ27) fun q29 σ28 => k_bv (f_X12_reads (2 : Int32) (q29 + (1 : Int32)) σ28) fun σ30 => f_X12_line_b360 σ30) = f_X12_line_b360 (mI (mI μ5 9 (12 + nd) y3) 2 11 (nI (nd + 1))) := by
      rw [e_nm, show f_X12_numeral 0 99 (mI μ3 7 (12 + nd) y1) = _ from r2, e_bdS, e_ck inb.1, e_nm, show f_X12_numeral 0 9 (mI μ4 8 (12 + nd) y2) = _ from s2, e_bdS, e_ck inb.1, e_nm, fr, e_bdS, rd, e_bvS, q11, nI_1]
    rw [ref]
    clear ref
    by_cases al : σ4.1 7 4 = 0
    · obtain ⟨al3, al2⟩ := e4 al
      obtain ⟨b, hb, eb1, eb2⟩ := m6 al2
      obtain ⟨kd, -, kd9, ed1, ed2⟩ := r6 al3
      obtain ⟨kj, -, kj9, ej1, ej2⟩ := s6 al
      obtain ⟨k1, k2⟩ := s3.1.c
      have A2 := s3.al al
      have o9 : σ4.1 o 9 = nI nd := by rw [fc.1 o (by omega)]; exact P1.1.2.1.2.1
      unfold f_X0_addDeed f_X0_addDeed_b49
      rw [if_pos al, e_ck k1, e_nm, k2, o9, if_neg (show ¬ (12 : Int32) ≤ nI nd from nI_ge (a := nd) (b := 12) (by omega) (by decide)), e_ck (e_in (by omega) (by decide)), nI_clamp (by omega), e_nm]
      have o91 : (mI σ4 (o + 3) nd x1).1 o 9 = nI nd := by rw [m_Ir _ _ _ _ (by omega)]; exact o9
      have o92 : (mI (mI σ4 (o + 3) nd x1) (o + 4) nd x2).1 o 9 = nI nd := by rw [m_Ir _ _ _ _ (by omega)]; exact o91
      have o93 : (mI (mI (mI σ4 (o + 3) nd x1) (o + 4) nd x2) (o + 5) nd x3).1 o 9 = nI nd := by rw [m_Ir _ _ _ _ (by omega)]; exact o92
      rw [o91, e_ck (e_in (by omega) (by decide)), nI_clamp (by omega), e_nm, o92, e_ck (e_in (by omega) (by decide)), nI_clamp (by omega), e_nm, o93, nI_1, e_nm, e_bvS, e_bvS]
      have fr1 : ∀ r, r ≠ 7 → r ≠ o → r ≠ o + 3 → r ≠ o + 4 → r ≠ o + 5 → (mI (mI (mI (mI σ4 (o + 3) nd x1) (o + 4) nd x2) (o + 5) nd x3) o 9 (nI (nd + 1))).1 r = σ1.1 r := fun r p q u v w => by rw [m_Ir _ _ _ _ q, m_Ir _ _ _ _ w, m_Ir _ _ _ _ v, m_Ir _ _ _ _ u, fc.1 r p]
      have f7 : (mI (mI (mI (mI σ4 (o + 3) nd x1) (o + 4) nd x2) (o + 5) nd x3) o 9 (nI (nd + 1))).1 7 = σ4.1 7 := by rw [m_Ir _ _ _ _ (by omega), m_Ir _ _ _ _ (by omega), m_Ir _ _ _ _ (by omega), m_Ir _ _ _ _ (by omega)]
      have fo : ∀ j, j ≠ 9 → (mI (mI (mI (mI σ4 (o + 3) nd x1) (o + 4) nd x2) (o + 5) nd x3) o 9 (nI (nd + 1))).1 o j = σ1.1 o j := fun j p => by rw [m_I, if_neg (by omega), m_Ir _ _ _ _ (by omega), m_Ir _ _ _ _ (by omega), m_Ir _ _ _ _ (by omega), fc.1 o (by omega)]
      have fo9 : (mI (mI (mI (mI σ4 (o + 3) nd x1) (o + 4) nd x2) (o + 5) nd x3) o 9 (nI (nd + 1))).1 o 9 = nI (nd + 1) := by rw [m_I, if_pos ⟨rfl, rfl⟩]
      have fa : ∀ j, (mI (mI (mI (mI σ4 (o + 3) nd x1) (o + 4) nd x2) (o + 5) nd x3) o 9 (nI (nd + 1))).1 (o + 3) j = if j = nd then x1 else σ1.1 (o + 3) j := fun j => by
        rw [m_Ir _ _ _ _ (by omega), m_Ir _ _ _ _ (by omega), m_Ir _ _ _ _ (by omega), m_I, fc.1 (o + 3) (by omega)]
        simp
      have fb : ∀ j, (mI (mI (mI (mI σ4 (o + 3) nd x1) (o + 4) nd x2) (o + 5) nd x3) o 9 (nI (nd + 1))).1 (o + 4) j = if j = nd then x2 else σ1.1 (o + 4) j := fun j => by
        rw [m_Ir _ _ _ _ (by omega), m_Ir _ _ _ _ (by omega), m_I, m_Ir _ _ _ _ (by omega), fc.1 (o + 4) (by omega)]
        simp
      have fd : ∀ j, (mI (mI (mI (mI σ4 (o + 3) nd x1) (o + 4) nd x2) (o + 5) nd x3) o 9 (nI (nd + 1))).1 (o + 5) j = if j = nd then x3 else σ1.1 (o + 5) j := fun j => by
        rw [m_Ir _ _ _ _ (by omega), m_I, m_Ir _ _ _ _ (by omega), m_Ir _ _ _ _ (by omega), fc.1 (o + 5) (by omega)]
        simp
      have gc2 : q_GC o σ4 (mI (mI (mI (mI σ4 (o + 3) nd x1) (o + 4) nd x2) (o + 5) nd x3) o 9 (nI (nd + 1))) := (((q_GC.m _ _ _ _ _ (by omega)).trans (q_GC.m _ _ _ _ _ (by omega))).trans (q_GC.m _ _ _ _ _ (by omega))).trans (q_GC.m _ _ _ _ _ (by omega))
      have e1 : (mI (mI μ5 9 (12 + nd) y3) 2 11 (nI (nd + 1))).1 1 = μ5.1 1 := by rw [m_Ir _ _ _ _ (by omega), m_Ir _ _ _ _ (by omega)]
      generalize mI (mI (mI (mI σ4 (o + 3) nd x1) (o + 4) nd x2) (o + 5) nd x3) o 9 (nI (nd + 1)) = σ6 at *
      generalize mI (mI μ5 9 (12 + nd) y3) 2 11 (nI (nd + 1)) = μ6 at *
      have B4 : q_zB X o nb σ6 μ6 := by
        obtain ⟨g1, g2, g3, g4, g5, g6, g7⟩ := B1
        refine ⟨g1.eq (fr1 1 (by omega) (by omega) (by omega) (by omega) (by omega)) (fr1 3 (by omega) (by omega) (by omega) (by omega) (by omega)) (fr1 4 (by omega) (by omega) (by omega) (by omega) (by omega)) (fr1 5 (by omega) (by omega) (by omega) (by omega) (by omega)), g2, by rw [f7, fc.2.1 1 (by omega) (by omega) (by omega)]; exact g3, g4, by rw [fo 7 (by omega)]; exact g5, by rw [e2 9 (by omega)]; exact g6, ?_⟩
        rw [fr1 (o + 1) (by omega) (by omega) (by omega) (by omega) (by omega), er 3 (by omega) (by omega) (by omega) (by omega) (by omega)]
        exact g7
      have A4 : q_zA X (t + 1 + 1 + 1 + 1) σ6 μ6 := A2.up f7 e0 e1
      have P4 : q_pr2 o nb nl (nd + 1) nw nk σ6 μ6 := by
        unfold q_pr2 r_pc at P1 ⊢
        rw [fo9, e211, fo 8 (by omega), fo 10 (by omega), fo 11 (by omega), fo 12 (by omega), fo 13 (by omega), fo 14 (by omega), fr1 (o + 2) (by omega) (by omega) (by omega) (by omega) (by omega), fr1 (o + 6) (by omega) (by omega) (by omega) (by omega) (by omega), fr1 (o + 7) (by omega) (by omega) (by omega) (by omega) (by omega), fr1 (o + 8) (by omega) (by omega) (by omega) (by omega) (by omega), fr1 (o + 9) (by omega) (by omega) (by omega) (by omega) (by omega), fr1 (o + 10) (by omega) (by omega) (by omega) (by omega) (by omega), fr1 (o + 11) (by omega) (by omega) (by omega) (by omega) (by omega), f7, fc.2.1 3 (by omega) (by omega) (by omega), fc.2.1 8 (by omega) (by omega) (by omega), e2 10 (by omega), e2 12 (by omega), e2 13 (by omega), e2 14 (by omega), e2 15 (by omega), e2 16 (by omega), e2 17 (by omega), er 4 (by omega) (by omega) (by omega) (by omega) (by omega), er 5 (by omega) (by omega) (by omega) (by omega) (by omega), er 6 (by omega) (by omega) (by omega) (by omega) (by omega), er 10 (by omega) (by omega) (by omega) (by omega) (by omega), er 11 (by omega) (by omega) (by omega) (by omega) (by omega), er 12 (by omega) (by omega) (by omega) (by omega) (by omega), er 13 (by omega) (by omega) (by omega) (by omega) (by omega), er 14 (by omega) (by omega) (by omega) (by omega) (by omega), e0, e00 16 (by omega), e00 27 (by omega), e00 28 (by omega)]
        obtain ⟨⟨p1, p2, p3, p4⟩, q2, q3, q4, q5, q6⟩ := P1
        refine ⟨⟨⟨p1.1, by omega, p1.2.2⟩, ⟨p2.1, rfl, p2.2.2⟩, ⟨p3.1, rfl, p3.2.2⟩, p4⟩, q2, q3, fun i hi => ?_, q5, q6⟩
        rw [fa, fb, fd, e7, e8, e9]
        by_cases ci : i = nd
        · rw [if_pos ci, if_pos ci, if_pos ci, if_pos (by omega), if_pos (by omega), if_pos (by omega)]
          exact ⟨⟨b, hb, eb1, eb2⟩, ⟨kd, kd9, ed1, ed2⟩, kj, kj9, ej1, ej2⟩
        · rw [if_neg ci, if_neg ci, if_neg ci, if_neg (by omega), if_neg (by omega), if_neg (by omega)]; exact q4 i (by omega)
      exact q_ouA M ((gc.trans fc.gc).trans gc2) (gm.trans gm2) (t + 1 + 1 + 1 + 1) (by omega) B4 A4 P4 (by rw [e0, e00 17 (by omega)]; exact z17) (by omega)
    · rw [if_neg al, e_bvS]
      have D2 := s3.de al
      exact q_outD M (gc.trans fc.gc) (gm.trans gm2) (s3.1.cb nk P1.1.1.2.2.2 (by rw [fc.1 (o + 7) (by omega)]; exact P1.1.2.1.2.2.2)) (D2.up rfl e0)
end
