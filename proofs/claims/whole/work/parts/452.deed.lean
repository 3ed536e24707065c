section
variable {X : q_X} {o nb nl nd nw nk t ln : Nat} {σ μ σ' μ' : MSt}
theorem q_zJ.al (h : q_zJ X o nb t σ μ) (a : σ.1 7 4 = 0) : q_zA X t σ μ := by
  rcases h.2 with A | D
  · exact A
  · exact absurd a D.n.1
theorem q_zJ.de (h : q_zJ X o nb t σ μ) (a : ¬ σ.1 7 4 = 0) : q_zD X σ μ := by
  rcases h.2 with A | D
  · exact absurd A.1 a
  · exact D
theorem q_zA.up (A : q_zA X t σ μ) (h7 : σ'.1 7 = σ.1 7) (h0 : μ'.1 0 = μ.1 0) (h1 : μ'.1 1 = μ.1 1) : q_zA X t σ' μ' := by
  unfold q_zA q_RT at A ⊢
  rw [h7, h0, h1]
  exact A
theorem q_zD.up (A : q_zD X σ μ) (h7 : σ'.1 7 = σ.1 7) (h0 : μ'.1 0 = μ.1 0) : q_zD X σ' μ' := by
  unfold q_zD at A ⊢
  rw [h7, h0]
  exact A
theorem q_zB.up (B : q_zB X o nb σ μ) (h1 : σ'.1 1 = σ.1 1) (h3 : σ'.1 3 = σ.1 3) (h4 : σ'.1 4 = σ.1 4) (h5 : σ'.1 5 = σ.1 5) (h7 : σ'.1 7 = σ.1 7) (ho : σ'.1 o 7 = σ.1 o 7) (ho1 : σ'.1 (o + 1) = σ.1 (o + 1)) (g2 : μ'.1 2 9 = μ.1 2 9) (g3 : μ'.1 3 = μ.1 3) : q_zB X o nb σ' μ' := by
  obtain ⟨a1, a2, a3, a4, a5, a6, a7⟩ := B
  refine ⟨a1.eq h1 h3 h4 h5, a2, by rw [h7]; exact a3, a4, by rw [ho]; exact a5, by rw [g2]; exact a6, ?_⟩
  rw [ho1, g3]
  exact a7
/-- a write of the reference into a row of the new text -/
theorem q_zJ.w (h : q_zJ X o nb t σ μ) (r j : Nat) (v : Int32) (hr : 3 < r) : q_zJ X o nb t σ (mI μ r j v) := by
  refine ⟨h.1.up rfl rfl rfl rfl rfl rfl rfl (by rw [m_Ir _ _ _ _ (by omega)]) (m_Ir _ _ _ _ (by omega)), h.2.imp (fun A => A.up rfl (m_Ir _ _ _ _ (by omega)) (m_Ir _ _ _ _ (by omega))) (fun D => D.up rfl (m_Ir _ _ _ _ (by omega)))⟩
theorem q_FM.f7 {ν ν' : MSt} (h : q_FM ν ν') : q_FM7 ν ν' := ⟨h.1, fun j _ a => h.2 j a⟩
theorem q_ouA (M : q_CM X) {σ1 μ2 : MSt} (gc : q_GC o σ σ1) (gm : q_GM μ μ2) (t' : Nat) (ht : t < t' + 1) (B : q_zB X o nb σ1 μ2) (A : q_zA X t' σ1 μ2) (P : q_pr2 o nb nl nd nw nk σ1 μ2) (h17 : μ2.1 0 17 = nI ln) (hl : ln ≤ t') : ∃ σ' μ', f_X7_readLine_b125 σ1 = some σ' ∧ f_X12_line_b360 μ2 = some μ' ∧ q_OUT X o t ln σ μ σ' μ' := by
  obtain ⟨σ', μ', v1, v2, v3, v4, v5⟩ := q_fin M B A P h17 hl
  refine ⟨_, _, v1, v2, gc.trans v3, gm.trans v4, ?_⟩
  rcases v5 with v5 | v5
  · exact Or.inl ⟨_, _, _, _, _, _, ht, v5⟩
  · exact Or.inr v5
theorem q_outD (M : q_CM X) {σ1 μ2 : MSt} (gc : q_GC o σ σ1) (gm : q_GM μ μ2) (C : q_CB X o σ1) (D : q_zD X σ1 μ2) : ∃ σ' μ', f_X7_readLine_b125 σ1 = some σ' ∧ f_X12_line_b360 μ2 = some μ' ∧ q_OUT X o t ln σ μ σ' μ' := by
  obtain ⟨σ', w1, w2, w3, w4, w5⟩ := q_finD M C D
  exact ⟨_, _, w1, w2, gc.trans w3, gm, Or.inr ⟨w4, w5⟩⟩
theorem l_wind (M : q_CM X) (h : q_IV X o nb nl nd nw nk t ln σ μ) (hs : xS X t = nI (10 + 3)) : ∃ σ' μ', f_X7_readLine σ = some σ' ∧ f_X12_line μ = some μ' ∧ q_OUT X o t ln σ μ σ' μ' := by
  obtain ⟨B, A, P, h17, hln⟩ := id h
  have tl := q_IV.tl M h
  obtain ⟨c1, c2⟩ := B.c
  have ho := B.2.1
  have hw := P.1.1.2.2.1
  have cw := P.1.2.1.2.2.1
  unfold f_X7_readLine
  rw [A.2.2.1, s_sortOf M B.1 t tl.1, e_bdS, hs, if_neg (show ¬ nI (10 + 3) = 10 by decide), if_neg (show ¬ nI (10 + 3) = 11 by decide), if_neg (show ¬ nI (10 + 3) = 12 by decide), if_pos (show nI (10 + 3) = 13 from rfl), q_line0 h 3 (by omega) hs]
  by_cases c : nw = 20
  · rw [if_pos (by omega)]
    obtain ⟨σd, μd, y1, y2, y3, y4, y5, y6⟩ := q_flt B A 2 (by decide)
    rw [y2, e_bvS, q_b71d y4.n.2]
    have e : f_X7_readWind σ = f_X7_readWind σd := by
      obtain ⟨d1, d2⟩ := y3.c
      unfold f_X7_readWind
      rw [e_ck c1, e_ck d1, e_nm, e_nm, c2, d2, cw, c, d_needRoom y4.n.1, show f_X7_needRoom (nI 20) 20 σ = some σd from s_roomF 20 (by omega) y1]
    rw [e]
    exact q_dl M P.k y3 y4 y5 y6 _ (fun C => d_wind M C y4.n.1)
  · rw [if_neg (by omega), if_pos (by omega)]
    obtain ⟨μ2, z1, B1, A1, P1, z17, gm, gc⟩ := q_st M h 3 0 (by omega) hs (σ.1 7 3) (P.2.2.2.2.2.2.l 3 (by omega))
    rw [mI_same] at B1 A1 P1 gc
    unfold f_X7_readWind f_X12_line_b71 f_X7_readWind_b46
    rw [e_ck c1, e_nm, c2, cw, show f_X7_needRoom (nI nw) 20 σ = some σ from s_room nw 20 (by omega) (by omega), e_bvS, e_nm, A.2.2.1, nI_1, if_pos A.2.1, e_nm, z1, e_bvS, if_neg (show ¬ nI 3 = 0 by decide), if_neg (show ¬ nI 3 = 1 by decide), if_neg (show ¬ nI 3 = 2 by decide), if_pos (show nI 3 = 3 from rfl)]
    generalize mI σ 7 2 (nI (t + 1)) = σ1 at *
    clear z1
    have fr : ∀ ν : MSt, f_X12_fresher 3 ν = some (ν.1 2 12, ν) := fun ν => s_fresher 3 (by omega) ν
    have rd : ∀ (ν : MSt) v, f_X12_reads 3 v ν = some (mI ν 2 12 v) := fun ν v => s_reads 3 (by omega) v ν
    have inb : k_inb ((20 : Int32) + nI nw) 40 = true ∧ ((20 : Int32) + nI nw).toNatClampNeg = 20 + nw := by
      have : ∀ n : Nat, n < 20 → k_inb ((20 : Int32) + nI n) 40 = true ∧ ((20 : Int32) + nI n).toNatClampNeg = 20 + n := by decide
      exact this nw (by omega)
    obtain ⟨x, y, σ2, μ3, n1, n2, n3, n4, n5, n6⟩ := q_num M (show q_zJ X o nb (t + 1) σ1 μ2 from ⟨B1, Or.inl A1⟩) 0 9 (by omega) (by omega)
    have P2 := P1.fr ho n4 n5.f7
    rw [show f_X7_takeNumber 0 9 σ1 = _ from n1, e_bdS, fr, e_bdS, P1.1.2.2.1.2.2.1, show f_X12_numeral 0 9 μ2 = _ from n2, e_bdS, e_ck inb.1, inb.2, e_nm, e_nm, fr, e_bdS, rd, e_bvS]
    have q12 : (mI μ3 10 (20 + nw) y).1 2 12 = nI nw := by rw [m_Ir _ _ _ _ (by omega)]; exact P2.1.2.2.1.2.2.1
    rw [q12, nI_1]
    have gm2 : q_GM μ3 (mI (mI μ3 10 (20 + nw) y) 2 12 (nI (nw + 1))) := (q_GM.mh _ _ _ _ (by omega) (by unfold q_hf; simp)).trans (q_GM.mh _ _ _ _ (by omega) (by unfold q_hf; simp))
    have e0 : (mI (mI μ3 10 (20 + nw) y) 2 12 (nI (nw + 1))).1 0 = μ3.1 0 := by rw [m_Ir _ _ _ _ (by omega), m_Ir _ _ _ _ (by omega)]
    by_cases al : σ2.1 7 4 = 0
    · obtain ⟨k, k0, k9, ex, ey⟩ := n6 al
      obtain ⟨k1, k2⟩ := n3.1.c
      have A2 := n3.al al
      unfold f_X0_addWind f_X0_addWind_b29
      rw [if_pos al, e_ck k1, k2, P2.1.2.1.2.2.1, if_neg (show ¬ (20 : Int32) ≤ nI nw from nI_ge (a := nw) (b := 20) (by omega) (by decide)), e_ck (e_in (by omega) (by decide)), nI_clamp (by omega), e_nm, e_nm, e_bvS, e_bvS]
      have q10 : (mI σ2 (o + 6) nw x).1 o 10 = nI nw := by rw [m_Ir _ _ _ _ (by omega)]; exact P2.1.2.1.2.2.1
      rw [q10, nI_1]
      have fr1 : ∀ r, r ≠ o → r ≠ o + 6 → (mI (mI σ2 (o + 6) nw x) o 10 (nI (nw + 1))).1 r = σ2.1 r := fun r p q => by rw [m_Ir _ _ _ _ p, m_Ir _ _ _ _ q]
      have fo : ∀ j, j ≠ 10 → (mI (mI σ2 (o + 6) nw x) o 10 (nI (nw + 1))).1 o j = σ2.1 o j := fun j p => by rw [m_I, if_neg (by omega), m_Ir _ _ _ _ (by omega)]
      have fo10 : (mI (mI σ2 (o + 6) nw x) o 10 (nI (nw + 1))).1 o 10 = nI (nw + 1) := by rw [m_I, if_pos ⟨rfl, rfl⟩]
      have fo6 : ∀ j, (mI (mI σ2 (o + 6) nw x) o 10 (nI (nw + 1))).1 (o + 6) j = if j = nw then x else σ2.1 (o + 6) j := fun j => by
        rw [m_Ir _ _ _ _ (by omega), m_I]
        simp
      have er : ∀ r, r ≠ 2 → r ≠ 10 → (mI (mI μ3 10 (20 + nw) y) 2 12 (nI (nw + 1))).1 r = μ3.1 r := fun r p q => by rw [m_Ir _ _ _ _ p, m_Ir _ _ _ _ q]
      have e2 : ∀ j, j ≠ 12 → (mI (mI μ3 10 (20 + nw) y) 2 12 (nI (nw + 1))).1 2 j = μ3.1 2 j := fun j p => by rw [m_I, if_neg (by omega), m_Ir _ _ _ _ (by omega)]
      have e212 : (mI (mI μ3 10 (20 + nw) y) 2 12 (nI (nw + 1))).1 2 12 = nI (nw + 1) := by rw [m_I, if_pos ⟨rfl, rfl⟩]
      have e10 : ∀ j, (mI (mI μ3 10 (20 + nw) y) 2 12 (nI (nw + 1))).1 10 j = if j = 20 + nw then y else μ3.1 10 j := fun j => by
        rw [m_Ir _ _ _ _ (by omega), m_I]
        simp
      have gc2 : q_GC o σ2 (mI (mI σ2 (o + 6) nw x) o 10 (nI (nw + 1))) := (q_GC.m _ _ _ _ _ (by omega)).trans (q_GC.m _ _ _ _ _ (by omega))
      generalize mI (mI σ2 (o + 6) nw x) o 10 (nI (nw + 1)) = σ4 at *
      generalize mI (mI μ3 10 (20 + nw) y) 2 12 (nI (nw + 1)) = μ4 at *
      have B4 : q_zB X o nb σ4 μ4 := n3.1.up (fr1 1 (by omega) (by omega)) (fr1 3 (by omega) (by omega)) (fr1 4 (by omega) (by omega)) (fr1 5 (by omega) (by omega)) (fr1 7 (by omega) (by omega)) (fo 7 (by omega)) (fr1 (o + 1) (by omega) (by omega)) (e2 9 (by omega)) (er 3 (by omega) (by omega))
      have A4 : q_zA X (t + 1 + 1) σ4 μ4 := A2.up (fr1 7 (by omega) (by omega)) e0 (er 1 (by omega) (by omega))
      have P4 : q_pr2 o nb nl nd (nw + 1) nk σ4 μ4 := by
        unfold q_pr2 r_pc at P2 ⊢
        rw [fo10, e212, fo 8 (by omega), fo 9 (by omega), fo 11 (by omega), fo 12 (by omega), fo 13 (by omega), fo 14 (by omega), fr1 (o + 2) (by omega) (by omega), fr1 (o + 3) (by omega) (by omega), fr1 (o + 4) (by omega) (by omega), fr1 (o + 5) (by omega) (by omega), fr1 (o + 7) (by omega) (by omega), fr1 (o + 8) (by omega) (by omega), fr1 (o + 9) (by omega) (by omega), fr1 (o + 10) (by omega) (by omega), fr1 (o + 11) (by omega) (by omega), fr1 7 (by omega) (by omega), e2 10 (by omega), e2 11 (by omega), e2 13 (by omega), e2 14 (by omega), e2 15 (by omega), e2 16 (by omega), e2 17 (by omega), er 4 (by omega) (by omega), er 5 (by omega) (by omega), er 6 (by omega) (by omega), er 7 (by omega) (by omega), er 8 (by omega) (by omega), er 9 (by omega) (by omega), er 11 (by omega) (by omega), er 12 (by omega) (by omega), er 13 (by omega) (by omega), er 14 (by omega) (by omega), e0]
        obtain ⟨⟨p1, p2, p3, p4⟩, q2, q3, q4, q5, q6⟩ := P2
        refine ⟨⟨⟨p1.1, p1.2.1, by omega, p1.2.2.2⟩, ⟨p2.1, p2.2.1, rfl, p2.2.2.2⟩, ⟨p3.1, p3.2.1, rfl, p3.2.2.2⟩, p4⟩, q2, q3, q4, fun i hi => ?_, q6⟩
        rw [fo6, e10]
        by_cases ci : i = nw
        · rw [if_pos ci, if_pos (by omega)]; exact ⟨k, k9, ex, ey⟩
        · rw [if_neg ci, if_neg (by omega)]; exact q5 i (by omega)
      exact q_ouA M ((gc.trans n4.gc).trans gc2) ((gm.trans n5.gm).trans gm2) (t + 1 + 1) (by omega) B4 A4 P4 (by rw [e0, n5.2 17 (by omega)]; exact z17) (by omega)
    · rw [if_neg al, e_bvS]
      have D2 := n3.de al
      exact q_outD M (gc.trans n4.gc) ((gm.trans n5.gm).trans gm2) (n3.1.cb nk P2.1.1.2.2.2 P2.1.2.1.2.2.2) (D2.up rfl e0)
end
