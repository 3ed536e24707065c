section
variable {X : q_X} {o nb nl nd nw nk t ln : Nat} {σ μ σ' μ' : MSt}
theorem q_b65d {μ : MSt} (d : ¬ μ.1 0 23 = 0) (x : Int32) : f_X12_lawLine_b65 x μ = some μ := by
  unfold f_X12_lawLine_b65
  rw [if_neg d]
theorem q_b30d {μ : MSt} (d : ¬ μ.1 0 23 = 0) : f_X12_lawLine_b30 μ = some μ := by
  unfold f_X12_lawLine_b30
  rw [e_nm, if_neg d, q_b65d d]
theorem q_law : q_LAW := by
  intro X o nb nl nd nw nk t ln σ μ M h hs
  obtain ⟨B, A, P, h17, hln⟩ := id h
  have tl := q_IV.tl M h
  have ho := B.2.1
  obtain ⟨μ2, z1, B1, A1, P1, z17, gm, gc⟩ := q_st M h 8 0 (by omega) hs (σ.1 7 3) (P.2.2.2.2.2.2.l 8 (by omega))
  rw [mI_same] at B1 A1 P1 gc
  unfold f_X7_readLine f_X7_readLaw
  rw [A.2.2.1, s_sortOf M B.1 t tl.1, e_bdS, hs, if_neg (show ¬ nI (10 + 8) = 10 by decide), if_neg (show ¬ nI (10 + 8) = 11 by decide), if_neg (show ¬ nI (10 + 8) = 12 by decide), if_neg (show ¬ nI (10 + 8) = 13 by decide), if_neg (show ¬ nI (10 + 8) = 14 by decide), if_neg (show ¬ nI (10 + 8) = 15 by decide), if_neg (show ¬ nI (10 + 8) = 16 by decide), if_neg (show ¬ nI (10 + 8) = 17 by decide), if_pos (show nI (10 + 8) = 18 from rfl), q_line0 h 8 (by omega) hs, if_neg (by omega), if_pos (by omega), A.2.2.1, nI_1, e_nm]
  unfold f_X12_line_b71
  rw [if_pos A.2.1, e_nm, z1, e_bvS, if_neg (show ¬ nI 8 = 0 by decide), if_neg (show ¬ nI 8 = 1 by decide), if_neg (show ¬ nI 8 = 2 by decide), if_neg (show ¬ nI 8 = 3 by decide), if_neg (show ¬ nI 8 = 4 by decide), if_neg (show ¬ nI 8 = 5 by decide), if_neg (show ¬ nI 8 = 6 by decide), if_neg (show ¬ nI 8 = 7 by decide)]
  generalize mI σ 7 2 (nI (t + 1)) = σ1 at *
  clear z1
  have tl1 : t + 1 < 2 ^ 31 := by omega
  have TS := A1.2.2.2.2.2.2.2.2
  rw [A1.2.2.1, s_sortOf M B1.1 (t + 1) tl1, e_bdS, e_nm, A1.2.2.1, s_sortOf M B1.1 (t + 1) tl1, e_bdS]
  rcases TS.lw with ⟨r, hr, e1, e2, e3⟩ | ⟨e1, e2⟩
  · have g : ∀ r : Nat, r < 3 → nI (19 + r) - 19 = nI r ∧ ¬ nI r < 0 ∧ nI r ≤ 2 ∧ ¬ nI (9 + r) < 9 ∧ nI (9 + r) ≤ 11 ∧ nI (9 + r) - 9 = nI r ∧ (16 : Int32) + nI r = nI (16 + r) := by decide
    obtain ⟨g1, g2, g3, g4, g5, g6, g7⟩ := g r hr
    unfold f_X12_lawLine f_X12_lawLine_b30
    rw [e1, g1, if_neg g2, if_pos g3, if_pos e2, e3, if_neg g4, if_pos g5, g6, e_nm, if_pos A1.2.1, g7]
    have tdk := P1.2.2.2.2.2.2.2 r hr
    by_cases c : q_bt (μ2.1 0 16) (16 + r) = true
    · obtain ⟨σd, μd, y1, y2, y3, y4, y5, y6⟩ := q_flt B1 A1 3 (by decide)
      rw [if_pos ((b_shr _ (16 + r) (by omega)).mpr c), y2, e_bvS, q_b65d y4.n.2, e_bvS, s_onceF (19 + r) (by omega) (tdk.trans c) y1, e_bvS, e_nm]
      have C : q_CB X o σd := y3.cb nk P1.1.1.2.2.2 (by rw [y5.1 (o + 7) (by omega)]; exact P1.1.2.1.2.2.2)
      have s1 := q_DD.m7 C 3 (σd.1 7 3 ||| ((1 : Int32) <<< (nI (19 + r) &&& 31))) (by omega)
      have s2 := s1.trans (q_DD.m7 s1.1 2 ((mI σd 7 3 (σd.1 7 3 ||| ((1 : Int32) <<< (nI (19 + r) &&& 31)))).1 7 2 + 1) (by omega))
      obtain ⟨σ3, a1, a2⟩ := d_law s2.1 (by rw [s2.2.1]; exact y4.n.1) r hr
      rw [a1, e_bvS]
      have s3 := s2.trans a2
      exact q_outD M ((gc.trans y5.gc).trans s3.2.2.2) (gm.trans y6.gm) s3.1 (y4.fr s3.2.1 s3.2.2.1 rfl rfl)
    · have c' : q_bt (μ2.1 0 16) (16 + r) = false := by cases q : q_bt (μ2.1 0 16) (16 + r) with | false => rfl | true => exact absurd q c
      have q2 : (mI σ1 7 3 (σ1.1 7 3 ||| ((1 : Int32) <<< (nI (19 + r) &&& 31)))).1 7 2 = nI (t + 1) := by rw [m_I, if_neg (by omega)]; exact A1.2.2.1
      have ht1 : t + 1 < xK X := A1.2.2.2.lt M (by
        rw [e1]
        have : ∀ r : Nat, r < 3 → ¬ nI (19 + r) = 0 := by decide
        exact this r hr)
      rw [if_neg (fun q => c ((b_shr _ (16 + r) (by omega)).mp q)), s_onceN (19 + r) (by omega) (tdk.trans c'), e_bvS, q2, nI_1, e_nm]
      unfold f_X12_lawLine_b65
      have nmE : ∀ f : MSt → Option MSt, k_nm (mI μ2 0 16 (μ2.1 0 16 ||| ((1 : Int32) <<< (nI (16 + r) &&& 31)))) f = f (mI μ2 0 16 (μ2.1 0 16 ||| ((1 : Int32) <<< (nI (16 + r) &&& 31)))) := fun f => by rw [e_nm]
      rw [if_pos A1.2.1, g7, nmE]
      have rt : q_RT X (t + 1) (mI μ2 0 16 (μ2.1 0 16 ||| ((1 : Int32) <<< (nI (16 + r) &&& 31)))) := by
        have a4 := A1.2.2.2
        unfold q_RT at a4 ⊢
        rw [m_Ir _ _ _ _ (by omega)]
        simp only [m_I]
        simp
        exact a4
      obtain ⟨μ3, y1, y2, y3⟩ := q_tok1 M rt ht1
      rw [y1, e_bvS]
      have er : ∀ q, q ≠ 0 → μ3.1 q = μ2.1 q := fun q p => by rw [y3.1 q p, m_Ir _ _ _ _ p]
      have ej : ∀ j, j ≠ 16 → (j < 19 ∨ 22 < j) → μ3.1 0 j = μ2.1 0 j := fun j p q => by rw [y3.2 j q, m_I, if_neg (by omega)]
      have e16 : μ3.1 0 16 = μ2.1 0 16 ||| ((1 : Int32) <<< (nI (16 + r) &&& 31)) := by rw [y3.2 16 (by omega), m_I, if_pos ⟨rfl, rfl⟩]
      have fr : ∀ q, q ≠ 7 → (mI (mI σ1 7 3 (σ1.1 7 3 ||| ((1 : Int32) <<< (nI (19 + r) &&& 31)))) 7 2 (nI (t + 1 + 1))).1 q = σ1.1 q := fun q p => by rw [m_Ir _ _ _ _ p, m_Ir _ _ _ _ p]
      have f7 : ∀ j, j ≠ 2 → j ≠ 3 → (mI (mI σ1 7 3 (σ1.1 7 3 ||| ((1 : Int32) <<< (nI (19 + r) &&& 31)))) 7 2 (nI (t + 1 + 1))).1 7 j = σ1.1 7 j := fun j p q => by rw [m_I, if_neg (by omega), m_I, if_neg (by omega)]
      have f3 : (mI (mI σ1 7 3 (σ1.1 7 3 ||| ((1 : Int32) <<< (nI (19 + r) &&& 31)))) 7 2 (nI (t + 1 + 1))).1 7 3 = σ1.1 7 3 ||| ((1 : Int32) <<< (nI (19 + r) &&& 31)) := by simp [m_I]
      have f2 : (mI (mI σ1 7 3 (σ1.1 7 3 ||| ((1 : Int32) <<< (nI (19 + r) &&& 31)))) 7 2 (nI (t + 1 + 1))).1 7 2 = nI (t + 1 + 1) := by simp [m_I]
      have gc2 : q_GC o σ1 (mI (mI σ1 7 3 (σ1.1 7 3 ||| ((1 : Int32) <<< (nI (19 + r) &&& 31)))) 7 2 (nI (t + 1 + 1))) := (q_GC.m _ _ _ _ _ (by omega)).trans (q_GC.m _ _ _ _ _ (by omega))
      generalize mI (mI σ1 7 3 (σ1.1 7 3 ||| ((1 : Int32) <<< (nI (19 + r) &&& 31)))) 7 2 (nI (t + 1 + 1)) = σ2 at *
      have B2 : q_zB X o nb σ2 μ3 := by
        obtain ⟨b1, b2, b3, b4, b5, b6, b7⟩ := B1
        refine ⟨b1.eq (fr 1 (by omega)) (fr 3 (by omega)) (fr 4 (by omega)) (fr 5 (by omega)), b2, by rw [f7 1 (by omega) (by omega)]; exact b3, b4, by rw [fr o (by omega)]; exact b5, by rw [er 2 (by omega)]; exact b6, fun i hi => ?_⟩
        rw [fr (o + 1) (by omega), er 3 (by omega)]
        exact b7 i hi
      have A2 : q_zA X (t + 1 + 1) σ2 μ3 := ⟨by rw [f7 4 (by omega) (by omega)]; exact A1.1, by rw [ej 23 (by omega) (by omega)]; exact A1.2.1, f2, y2⟩
      have P2 : q_pr2 o nb nl nd nw nk σ2 μ3 := by
        have td2 := P1.2.2.2.2.2.2.k r hr
        unfold q_pr2 r_pc at P1 ⊢
        rw [f3, e16, fr o (by omega), fr (o + 2) (by omega), fr (o + 3) (by omega), fr (o + 4) (by omega), fr (o + 5) (by omega), fr (o + 6) (by omega), fr (o + 7) (by omega), fr (o + 8) (by omega), fr (o + 9) (by omega), fr (o + 10) (by omega), fr (o + 11) (by omega), f7 8 (by omega) (by omega), er 2 (by omega), er 4 (by omega), er 5 (by omega), er 6 (by omega), er 7 (by omega), er 8 (by omega), er 9 (by omega), er 10 (by omega), er 11 (by omega), er 12 (by omega), er 13 (by omega), er 14 (by omega), ej 27 (by omega) (by omega), ej 28 (by omega) (by omega)]
        exact ⟨P1.1, P1.2.1, P1.2.2.1, P1.2.2.2.1, P1.2.2.2.2.1, P1.2.2.2.2.2.1, td2⟩
      have gm2 : q_GM μ2 μ3 := ⟨fun q p => er q (by omega), fun q i p s u => by rw [er q (by omega)], fun j p => ej j (by omega) (by omega)⟩
      exact l_lawE M (gc.trans gc2) (gm.trans gm2) (by omega) B2 A2 P2 (by rw [ej 17 (by omega) (by omega)]; exact z17) (by omega) r hr
  · obtain ⟨σd, μd, y1, y2, y3, y4, y5, y6⟩ := q_flt B1 A1 1 (by decide)
    have C : q_CB X o σd := y3.cb nk P1.1.1.2.2.2 (by rw [y5.1 (o + 7) (by omega)]; exact P1.1.2.1.2.2.2)
    have ref : f_X12_lawLine μ2 = some μd := by
      unfold f_X12_lawLine f_X12_lawLine_b25
      rw [y2, e_bvS, q_b30d y4.n.2]
      by_cases c0 : μ2.1 0 21 = 0
      · rw [if_pos c0]
        rcases e2 c0 with q | q
        · rw [if_pos q]
        · rw [if_neg q, ite_self]
      · rw [if_neg c0]
    rw [ref, e_bvS]
    unfold f_X7_readLaw_b34
    rw [y1, e_bvS]
    have fin := q_outD (t := t) (ln := ln) (σ := σ) (μ := μ) M (gc.trans y5.gc) (gm.trans y6.gm) C y4
    by_cases q : xS X (t + 1) - 19 < 0
    · rw [if_pos q, e_bvS]; exact fin
    · have q' : ¬ xS X (t + 1) - 19 ≤ 2 := by
        rcases e1 with u | u
        · exact absurd u q
        · exact u
      rw [if_neg q, if_neg q', e_bvS]; exact fin
end
