section
variable {X : q_X} {o nb nl nd nw nk t ln : Nat} {σ μ σ' μ' : MSt}
theorem s_onceN (i : Nat) (hi : i < 32) (h : q_bt (σ.1 7 3) i = false) : f_X7_needOnce (nI i) σ = some (mI σ 7 3 (σ.1 7 3 ||| ((1 : Int32) <<< (nI i &&& 31)))) := by
  unfold f_X7_needOnce f_X7_needOnce_b18
  rw [e_nm, if_pos ((b_and _ i hi).mpr h), e_nm]
theorem s_onceF (i : Nat) (hi : i < 32) (h : q_bt (σ.1 7 3) i = true) {σd : MSt} (hd : f_X7_fail 3 σ = some σd) : f_X7_needOnce (nI i) σ = some (mI σd 7 3 (σd.1 7 3 ||| ((1 : Int32) <<< (nI i &&& 31)))) := by
  unfold f_X7_needOnce f_X7_needOnce_b18
  rw [e_nm, if_neg (fun q => by rw [(b_and _ i hi).mp q] at h; exact absurd h (by decide)), hd, e_bvS, e_nm]
theorem q_pr2.set (P : q_pr2 o nb nl nd nw nk σ μ) (ho : o = 10 ∨ o = 30) (w : Nat) (hw : 4 ≤ w ∧ w ≤ 7) (x y : Int32) (h4 : w = 4 → r_ps nb x y) (h5 : w = 5 → r_pg 1 9 x y) (h6 : w = 6 → r_pg 0 100 x y) (h7 : w = 7 → r_pg 0 99999 x y) : q_pr2 o nb nl nd nw nk (mI σ o (7 + w) x) (mI μ 2 (9 + w) y) := by
  have fr : ∀ r, r ≠ o → (mI σ o (7 + w) x).1 r = σ.1 r := fun r p => m_Ir _ _ _ _ p
  have fo : ∀ j, j ≠ 7 + w → (mI σ o (7 + w) x).1 o j = σ.1 o j := fun j p => by rw [m_I, if_neg (by omega)]
  have fw : ∀ j, j = 7 + w → (mI σ o (7 + w) x).1 o j = x := fun j p => by rw [m_I, if_pos ⟨rfl, p⟩]
  have er : ∀ r, r ≠ 2 → (mI μ 2 (9 + w) y).1 r = μ.1 r := fun r p => m_Ir _ _ _ _ p
  have e2 : ∀ j, j ≠ 9 + w → (mI μ 2 (9 + w) y).1 2 j = μ.1 2 j := fun j p => by rw [m_I, if_neg (by omega)]
  have ew : ∀ j, j = 9 + w → (mI μ 2 (9 + w) y).1 2 j = y := fun j p => by rw [m_I, if_pos ⟨rfl, p⟩]
  unfold q_pr2 r_pc at P ⊢
  rw [fo 8 (by omega), fo 9 (by omega), fo 10 (by omega), fr (o + 2) (by omega), fr (o + 3) (by omega), fr (o + 4) (by omega), fr (o + 5) (by omega), fr (o + 6) (by omega), fr (o + 7) (by omega), fr (o + 8) (by omega), fr (o + 9) (by omega), fr (o + 10) (by omega), fr (o + 11) (by omega), fr 7 (by omega), e2 10 (by omega), e2 11 (by omega), e2 12 (by omega), e2 17 (by omega), er 4 (by omega), er 5 (by omega), er 6 (by omega), er 7 (by omega), er 8 (by omega), er 9 (by omega), er 10 (by omega), er 11 (by omega), er 12 (by omega), er 13 (by omega), er 14 (by omega), er 0 (by omega)]
  obtain ⟨p1, ⟨q1, q2, q3, q4⟩, p3⟩ := P
  refine ⟨p1, ⟨?_, ?_, ?_, ?_⟩, p3⟩
  · by_cases c : w = 4
    · rw [fw 11 (by omega), ew 13 (by omega)]; exact h4 c
    · rw [fo 11 (by omega), e2 13 (by omega)]; exact q1
  · by_cases c : w = 5
    · rw [fw 12 (by omega), ew 14 (by omega)]; exact h5 c
    · rw [fo 12 (by omega), e2 14 (by omega)]; exact q2
  · by_cases c : w = 6
    · rw [fw 13 (by omega), ew 15 (by omega)]; exact h6 c
    · rw [fo 13 (by omega), e2 15 (by omega)]; exact q3
  · by_cases c : w = 7
    · rw [fw 14 (by omega), ew 16 (by omega)]; exact h7 c
    · rw [fo 14 (by omega), e2 16 (by omega)]; exact q4
/-- a number that is set -/
theorem l_setc (M : q_CM X) {σ1 μ2 : MSt} (gc : q_GC o σ σ1) (gm : q_GM μ μ2) (B1 : q_zB X o nb σ1 μ2) (A1 : q_zA X (t + 1) σ1 μ2) (P1 : q_pr2 o nb nl nd nw nk σ1 μ2) (z17 : μ2.1 0 17 = nI ln) (hln : ln ≤ t) (w lo hi : Nat) (hw : 5 ≤ w ∧ w ≤ 7) (hl : (w = 5 → lo = 1 ∧ hi = 9) ∧ (w = 6 → lo = 0 ∧ hi = 100) ∧ (w = 7 → lo = 0 ∧ hi = 99999)) : ∃ σ' μ', (k_bv (k_ck (k_ch (σ1.1 7 1)) <| k_nm (σ1.1 7 1).toNatClampNeg fun o1022 => k_bd (f_X7_takeNumber (nI lo) (nI hi) σ1) fun q10 σ9 => k_nm (mI σ9 o1022 (7 + w) q10) fun σ11 => some σ11) fun σ3 => f_X7_readLine_b125 σ3) = some σ' ∧ (k_bd (f_X12_numeral (nI lo) (nI hi) μ2) fun q43 σ42 => k_bv (f_X12_reads (nI w) q43 σ42) fun σ44 => f_X12_line_b360 σ44) = some μ' ∧ q_OUT X o t ln σ μ σ' μ' := by
  have ho := B1.2.1
  obtain ⟨k1, k2⟩ := B1.c
  obtain ⟨x, y, σ2, μ3, n1, n2, n3, n4, n5, n6⟩ := q_num M (show q_zJ X o nb (t + 1) σ1 μ2 from ⟨B1, Or.inl A1⟩) lo hi (by omega) (by omega)
  have P2 := P1.fr ho n4 n5.f7
  rw [e_ck k1, e_nm, k2, n1, e_bdS, e_nm, e_bvS, n2, e_bdS, s_reads w (by omega), e_bvS]
  have gm2 : q_GM μ3 (mI μ3 2 (9 + w) y) := q_GM.mh _ _ _ _ (by omega) (by unfold q_hf; simp)
  have gc2 : q_GC o σ2 (mI σ2 o (7 + w) x) := q_GC.m _ _ _ _ _ (by omega)
  have f7 : (mI σ2 o (7 + w) x).1 7 = σ2.1 7 := m_Ir _ _ _ _ (by omega)
  have e0 : (mI μ3 2 (9 + w) y).1 0 = μ3.1 0 := m_Ir _ _ _ _ (by omega)
  have B4 : q_zB X o nb (mI σ2 o (7 + w) x) (mI μ3 2 (9 + w) y) := n3.1.up (m_Ir _ _ _ _ (by omega)) (m_Ir _ _ _ _ (by omega)) (m_Ir _ _ _ _ (by omega)) (m_Ir _ _ _ _ (by omega)) f7 (by rw [m_I, if_neg (by omega)]) (m_Ir _ _ _ _ (by omega)) (by rw [m_I, if_neg (by omega)]) (m_Ir _ _ _ _ (by omega))
  by_cases al : σ2.1 7 4 = 0
  · obtain ⟨k, k0, k9, ex, ey⟩ := n6 al
    have A4 := (n3.al al).up f7 e0 (show (mI μ3 2 (9 + w) y).1 1 = μ3.1 1 from m_Ir _ _ _ _ (by omega))
    have pg : r_pg lo hi x y := ⟨k, k0, k9, ex, ey⟩
    have P4 := P2.set ho w (by omega) x y (fun q => by omega) (fun q => by rw [(hl.1 q).1, (hl.1 q).2] at pg; exact pg) (fun q => by rw [(hl.2.1 q).1, (hl.2.1 q).2] at pg; exact pg) (fun q => by rw [(hl.2.2 q).1, (hl.2.2 q).2] at pg; exact pg)
    exact q_ouA M ((gc.trans n4.gc).trans gc2) ((gm.trans n5.gm).trans gm2) (t + 1 + 1) (by omega) B4 A4 P4 (by rw [e0, n5.2 17 (by omega)]; exact z17) (by omega)
  · have D2 := (n3.de al).up f7 e0
    exact q_outD M ((gc.trans n4.gc).trans gc2) ((gm.trans n5.gm).trans gm2) (B4.cb nk P2.1.1.2.2.2 (by rw [m_Ir _ _ _ _ (by omega)]; exact P2.1.2.1.2.2.2)) D2
/-- told twice: what is behind it -/
theorem q_dl2 (M : q_CM X) (h : q_IV X o nb nl nd nw nk t ln σ μ) (v : MSt → Int32) (G : MSt → Option MSt) (hG : ∀ σ0, q_CB X o σ0 → ¬ σ0.1 7 4 = 0 → ∃ σ1, G σ0 = some σ1 ∧ q_DD X o σ0 σ1) : ∃ σd μd, f_X7_fail 3 σ = some σd ∧ f_X12_wrong 3 μ = some μd ∧ ¬ μd.1 0 23 = 0 ∧ ∃ σ' μ', (k_bv (G (mI σd 7 3 (v σd))) fun σ6 => f_X7_readLine_b125 σ6) = some σ' ∧ some μd = some μ' ∧ q_OUT X o t ln σ μ σ' μ' := by
  obtain ⟨B, A, P, h17, hln⟩ := id h
  have ho := B.2.1
  obtain ⟨σd, μd, y1, y2, y3, y4, y5, y6⟩ := q_flt B A 3 (by decide)
  refine ⟨σd, μd, y1, y2, y4.n.2, ?_⟩
  have C : q_CB X o σd := y3.cb nk P.1.1.2.2.2 (by rw [y5.1 (o + 7) (by omega)]; exact P.1.2.1.2.2.2)
  have s1 := q_DD.m7 C 3 (v σd) (by omega)
  obtain ⟨σ1, g1, g2⟩ := hG _ s1.1 (by rw [s1.2.1]; exact y4.n.1)
  have g3 := s1.trans g2
  obtain ⟨σ2, e1, e2⟩ := d_end M g3.1 (by rw [g3.2.1]; exact y4.n.1)
  rw [g1, e_bvS, e1]
  exact ⟨_, _, rfl, rfl, (y5.gc.trans g3.2.2.2).trans e2.2.2.2, y6.gm, Or.inr ⟨e2.1, y4.fr (e2.2.1.trans g3.2.1) (e2.2.2.1.trans g3.2.2.1) rfl rfl⟩⟩
theorem l_ship (M : q_CM X) (h : q_IV X o nb nl nd nw nk t ln σ μ) (hs : xS X t = nI (10 + 4)) : ∃ σ' μ', f_X7_readLine σ = some σ' ∧ f_X12_line μ = some μ' ∧ q_OUT X o t ln σ μ σ' μ' := by
  obtain ⟨B, A, P, h17, hln⟩ := id h
  have tl := q_IV.tl M h
  have ho := B.2.1
  have td := P.2.2.2.2.2.2.1 4 (by omega) (by omega)
  unfold f_X7_readLine
  rw [A.2.2.1, s_sortOf M B.1 t tl.1, e_bdS, hs, if_neg (show ¬ nI (10 + 4) = 10 by decide), if_neg (show ¬ nI (10 + 4) = 11 by decide), if_neg (show ¬ nI (10 + 4) = 12 by decide), if_neg (show ¬ nI (10 + 4) = 13 by decide), if_pos (show nI (10 + 4) = 14 from rfl), q_line0 h 4 (by omega) hs, if_neg (by omega), if_neg (by omega)]
  unfold f_X7_readShip
  by_cases c : q_bt (μ.1 0 16) 4 = true
  · rw [if_pos c]
    obtain ⟨σd, μd, y1, y2, y3, y4⟩ := q_dl2 M h (fun s => s.1 7 3 ||| ((1 : Int32) <<< (nI (10 + 4) &&& 31))) _ (fun σ0 C d => d_ship M C d)
    rw [y2, e_bvS, q_b71d y3, show f_X7_needOnce 14 σ = _ from s_onceF (10 + 4) (by omega) (td.trans c) y1, e_bvS]
    exact y4
  · have c' : q_bt (μ.1 0 16) 4 = false := by cases q : q_bt (μ.1 0 16) 4 with | false => rfl | true => exact absurd q c
    obtain ⟨μ2, z1, B1, A1, P1, z17, gm, gc⟩ := q_st M h 4 0 (by omega) hs (σ.1 7 3 ||| ((1 : Int32) <<< (nI (10 + 4) &&& 31))) (P.2.2.2.2.2.2.s 4 (by omega))
    have q2 : (mI σ 7 3 (σ.1 7 3 ||| ((1 : Int32) <<< (nI (10 + 4) &&& 31)))).1 7 2 = nI t := by rw [m_I, if_neg (by omega)]; exact A.2.2.1
    unfold f_X12_line_b71
    rw [if_neg c, show f_X7_needOnce 14 σ = _ from s_onceN (10 + 4) (by omega) (td.trans c'), e_bvS, q2, nI_1, e_nm, if_pos A.2.1, e_nm, e_nm, z1, e_bvS, if_neg (show ¬ nI 4 = 0 by decide), if_neg (show ¬ nI 4 = 1 by decide), if_neg (show ¬ nI 4 = 2 by decide), if_neg (show ¬ nI 4 = 3 by decide), if_pos (show nI 4 = 4 from rfl)]
    generalize mI (mI σ 7 3 (σ.1 7 3 ||| ((1 : Int32) <<< (nI (10 + 4) &&& 31)))) 7 2 (nI (t + 1)) = σ1 at *
    clear z1
    obtain ⟨k1, k2⟩ := B1.c
    obtain ⟨x, y, σa, μa, m1, m2, m3, m4, m5, m6⟩ := q_told M (show q_zJ X o nb (t + 1) σ1 μ2 from ⟨B1, Or.inl A1⟩)
    have f7 : (mI σa o 11 x).1 7 = σa.1 7 := m_Ir _ _ _ _ (by omega)
    have J1 : q_zJ X o nb (t + 1) (mI σa o 11 x) μa := ⟨m3.1.up (m_Ir _ _ _ _ (by omega)) (m_Ir _ _ _ _ (by omega)) (m_Ir _ _ _ _ (by omega)) (m_Ir _ _ _ _ (by omega)) f7 (by rw [m_I, if_neg (by omega)]) (m_Ir _ _ _ _ (by omega)) rfl rfl, m3.2.imp (fun Q => Q.up f7 rfl rfl) (fun Q => Q.up f7 rfl)⟩
    obtain ⟨μb, n1, n2, n3, n4, n5⟩ := q_adv M J1 (fun q => (m6 (by rw [f7] at q; exact q)).1)
    unfold f_X12_bayAhead
    rw [e_ck k1, k2, m1, e_bdS, e_nm, e_nm, e_bvS, m2, e_bdS, n1, e_bvS, e_bdS, show f_X12_reads 4 y μb = _ from s_reads 4 (by omega) y μb, e_bvS]
    have fr : ∀ r, r ≠ 7 → r ≠ o → (mI (mI σa o 11 x) 7 2 ((mI σa o 11 x).1 7 2 + 1)).1 r = σ1.1 r := fun r p q => by rw [m_Ir _ _ _ _ p, m_Ir _ _ _ _ q, m4.1 r p]
    have e0 : (mI μb 2 (9 + 4) y).1 0 = μb.1 0 := m_Ir _ _ _ _ (by omega)
    have gm2 : q_GM μb (mI μb 2 (9 + 4) y) := q_GM.mh _ _ _ _ (by omega) (by unfold q_hf; simp)
    have gc2 : q_GC o σa (mI (mI σa o 11 x) 7 2 ((mI σa o 11 x).1 7 2 + 1)) := (q_GC.m _ _ _ _ _ (by omega)).trans (q_GC.m _ _ _ _ _ (by omega))
    have B4 : q_zB X o nb (mI (mI σa o 11 x) 7 2 ((mI σa o 11 x).1 7 2 + 1)) (mI μb 2 (9 + 4) y) := n2.1.up rfl rfl rfl rfl rfl rfl rfl (by rw [m_I, if_neg (by omega)]) (m_Ir _ _ _ _ (by omega))
    by_cases al : (mI (mI σa o 11 x) 7 2 ((mI σa o 11 x).1 7 2 + 1)).1 7 4 = 0
    · have A4 := (n2.al al).up (σ' := mI (mI σa o 11 x) 7 2 ((mI σa o 11 x).1 7 2 + 1)) rfl e0 (show (mI μb 2 (9 + 4) y).1 1 = μb.1 1 from m_Ir _ _ _ _ (by omega))
      obtain ⟨-, b, hb, ex, ey⟩ := m6 (by rw [n5, f7] at al; exact al)
      have Pa := P1.fr ho m4 m5.f7
      have Pb := Pa.set ho 4 (by omega) x y (fun _ => ⟨fun q => by omega, fun _ => ⟨b, hb, ey, Or.inl ex⟩⟩) (fun q => by omega) (fun q => by omega) (fun q => by omega)
      have P4 : q_pr2 o nb nl nd nw nk (mI (mI σa o 11 x) 7 2 ((mI σa o 11 x).1 7 2 + 1)) (mI μb 2 (9 + 4) y) := by
        refine Pb.fr ho n3 ⟨fun r hr => ?_, fun j _ hj => ?_⟩
        · by_cases c2 : r = 2
          · subst c2
            funext j
            rw [m_I, m_I, n4.1 2 (by omega)]
          · rw [m_Ir _ _ _ _ c2, m_Ir _ _ _ _ c2, n4.1 r hr]
        · rw [e0, m_Ir _ _ _ _ (by omega), n4.2 j hj]
      exact q_ouA M ((gc.trans m4.gc).trans gc2) (((gm.trans m5.gm).trans n4.gm).trans gm2) (t + 1 + 1) (by omega) B4 A4 P4 (by rw [e0, n4.2 17 (by omega), m5.2 17 (by omega)]; exact z17) (by omega)
    · have D2 := (n2.de al).up (σ' := mI (mI σa o 11 x) 7 2 ((mI σa o 11 x).1 7 2 + 1)) rfl e0
      exact q_outD M ((gc.trans m4.gc).trans gc2) (((gm.trans m5.gm).trans n4.gm).trans gm2) (B4.cb nk P1.1.1.2.2.2 (by rw [fr (o + 7) (by omega) (by omega)]; exact P1.1.2.1.2.2.2)) D2
end
