theorem mI_same (σ : MSt) (r j : Nat) : mI σ r j (σ.1 r j) = σ := by
  have e : (mI σ r j (σ.1 r j)).1 = σ.1 := by
    funext a b
    rw [m_I]
    by_cases c : a = r ∧ b = j
    · rw [if_pos c, c.1, c.2]
    · rw [if_neg c]
  exact Prod.ext e rfl
theorem s_room {σ : MSt} (c m : Nat) (hc : c < m) (hm : m < 2 ^ 31) : f_X7_needRoom (nI c) (nI m) σ = some σ := by
  unfold f_X7_needRoom f_X7_needRoom_b10
  rw [if_pos (nI_lt hc hm)]
theorem s_roomF {σ σd : MSt} (m : Nat) (hm : m < 2 ^ 31) (h : f_X7_fail 2 σ = some σd) : f_X7_needRoom (nI m) (nI m) σ = some σd := by
  unfold f_X7_needRoom f_X7_needRoom_b10
  rw [if_neg (nI_nlt (Nat.le_refl _) hm), h, e_bvS]
section
variable {X : q_X} {o nb nl nd nw nk t ln : Nat} {σ μ : MSt}
/-- a line that failed -/
theorem q_dl (M : q_CM X) {σd μd : MSt} (hk : ∃ k, k ≤ 64 ∧ σ.1 (o + 7) 5 = nI k) (B : q_zB X o nb σd μd) (D : q_zD X σd μd) (fc : q_FC σ σd) (fm : q_FM μ μd) (G : Option MSt) (hG : q_CB X o σd → ∃ σ1, G = some σ1 ∧ q_DD X o σd σ1) : ∃ σ' μ', (k_bv G fun σ6 => f_X7_readLine_b125 σ6) = some σ' ∧ some μd = some μ' ∧ q_OUT X o t ln σ μ σ' μ' := by
  have ho := B.2.1
  obtain ⟨k, k1, k2⟩ := hk
  have C : q_CB X o σd := B.cb k k1 (by rw [fc.1 (o + 7) (by omega)]; exact k2)
  obtain ⟨σ1, g1, g2⟩ := hG C
  obtain ⟨σ2, e1, e2⟩ := d_end M g2.1 (by rw [g2.2.1]; exact D.n.1)
  rw [g1, e_bvS, e1]
  exact ⟨_, _, rfl, rfl, (fc.gc.trans g2.2.2.2).trans e2.2.2.2, fm.gm, Or.inr ⟨e2.1, D.fr (e2.2.1.trans g2.2.1) (e2.2.2.1.trans g2.2.2.1) rfl rfl⟩⟩
theorem q_pr2.k (P : q_pr2 o nb nl nd nw nk σ μ) : ∃ k, k ≤ 64 ∧ σ.1 (o + 7) 5 = nI k := ⟨nk, P.1.1.2.2.2, P.1.2.1.2.2.2⟩
theorem l_bay (M : q_CM X) (h : q_IV X o nb nl nd nw nk t ln σ μ) (hs : xS X t = nI (10 + 0)) : ∃ σ' μ', f_X7_readLine σ = some σ' ∧ f_X12_line μ = some μ' ∧ q_OUT X o t ln σ μ σ' μ' := by
  obtain ⟨B, A, P, h17, hln⟩ := id h
  have tl := q_IV.tl M h
  obtain ⟨c1, c2⟩ := B.c
  have b5 := B.2.2.2.2.1
  have b4 := B.2.2.2.1
  have ho := B.2.1
  unfold f_X7_readLine
  rw [A.2.2.1, s_sortOf M B.1 t tl.1, e_bdS, hs, if_pos (show nI (10 + 0) = 10 from rfl), q_line0 h 0 (by omega) hs]
  by_cases c : nb = 8
  · rw [if_pos (Or.inl ⟨rfl, c⟩)]
    obtain ⟨σd, μd, y1, y2, y3, y4, y5, y6⟩ := q_flt B A 2 (by decide)
    rw [y2, e_bvS, q_b71d y4.n.2]
    have e : f_X7_readBay σ = f_X7_readBay σd := by
      obtain ⟨d1, d2⟩ := y3.c
      unfold f_X7_readBay
      rw [e_ck c1, e_ck d1, e_nm, e_nm, c2, d2, b5, c, d_needRoom y4.n.1, show (8 : Int32) = nI 8 from rfl, s_roomF 8 (by omega) y1]
    rw [e]
    exact q_dl M P.k y3 y4 y5 y6 _ (fun C => d_bay M C y4.n.1)
  · rw [if_neg (by omega), if_pos (by omega)]
    obtain ⟨μ2, z1, B1, A1, P1, z17, gm, gc⟩ := q_st M h 0 0 (by omega) hs (σ.1 7 3) (P.2.2.2.2.2.2.l 0 (by omega))
    rw [mI_same] at B1 A1 P1 gc
    unfold f_X7_readBay f_X12_line_b71
    rw [e_ck c1, e_nm, c2, b5, show f_X7_needRoom (nI nb) 8 σ = some σ from s_room nb 8 (by omega) (by omega), e_bvS, e_nm, A.2.2.1, nI_1, if_pos A.2.1, e_nm, z1, e_bvS, if_pos (show nI 0 = 0 from rfl)]
    generalize mI σ 7 2 (nI (t + 1)) = σ1 at *
    clear z1
    obtain ⟨k1, k2⟩ := B1.c
    have m9 := B1.2.2.2.2.2.1
    have fr : ∀ ν : MSt, f_X12_fresher 0 ν = some (ν.1 2 9, ν) := fun ν => s_fresher 0 (by omega) ν
    have rd : ∀ (ν : MSt) v, f_X12_reads 0 v ν = some (mI ν 2 9 v) := fun ν v => s_reads 0 (by omega) v ν
    have tl1 : t + 1 < 2 ^ 31 := by omega
    have inb : k_inb ((8 : Int32) + nI nb) 16 = true ∧ ((8 : Int32) + nI nb).toNatClampNeg = 8 + nb := by
      have : ∀ n : Nat, n < 8 → k_inb ((8 : Int32) + nI n) 16 = true ∧ ((8 : Int32) + nI n).toNatClampNeg = 8 + n := by decide
      exact this nb (by omega)
    rw [fr, e_bdS, fr, e_bdS, m9, A1.2.2.1, s_sortOf M B1.1 (t + 1) tl1, e_bdS]
    obtain ⟨n1, n2, -, -, -, -⟩ := q_TS.nm A1.2.2.2.2.2.2.2.2
    -- the end where it fails
    have bad : ∀ p : Int32, ¬ p = 0 → ∃ σ' μ', (k_bv (k_bv (f_X7_fail p σ1) fun σ12 => f_X7_readBay_b73 σ12) fun σ6 => f_X7_readLine_b125 σ6) = some σ' ∧ (k_bd (k_bv (f_X12_wrong p μ2) fun σ6 => f_X12_fresh_b44 3 16 σ6) fun q8 σ7 => k_ck (k_inb ((8 : Int32) + nI nb) 16) <| k_nm (mI σ7 3 (((8 : Int32) + nI nb)).toNatClampNeg q8) fun σ9 => k_bd (f_X12_fresher (0 : Int32) σ9) fun q11 σ10 => k_bv (f_X12_reads (0 : Int32) (q11 + (1 : Int32)) σ10) fun σ12 => f_X12_line_b360 σ12) = some μ' ∧ q_OUT X o t ln σ μ σ' μ' := by
      intro p hp
      obtain ⟨σd, μd, y1, y2, y3, y4, y5, y6⟩ := q_flt B1 A1 p hp
      have C : q_CB X o σd := y3.cb nk P1.1.1.2.2.2 (by rw [y5.1 (o + 7) (by omega)]; exact P1.1.2.1.2.2.2)
      unfold f_X12_fresh_b44 f_X7_readBay_b73 f_X7_readBay_b98
      rw [y1, y2, e_bvS, e_bvS, if_neg y4.n.1, if_neg y4.n.2, e_bdS, e_ck inb.1, inb.2, e_nm, e_bvS, e_nm, fr, e_bdS, rd, e_bvS]
      have s1 := q_DD.m7 C 2 (σd.1 7 2 + 1) (by omega)
      have D1 : q_zD X (mI σd 7 2 (σd.1 7 2 + 1)) (mI (mI μd 3 (8 + nb) 0) 2 9 ((mI μd 3 (8 + nb) 0).1 2 9 + 1)) := y4.fr s1.2.1 s1.2.2.1 (by rw [m_Ir _ _ _ _ (by omega), m_Ir _ _ _ _ (by omega)]) (by rw [m_Ir _ _ _ _ (by omega), m_Ir _ _ _ _ (by omega)])
      obtain ⟨σ', w1, w2, w3, w4, w5⟩ := q_finD M s1.1 D1
      rw [w1, w2]
      exact ⟨_, _, rfl, rfl, ((gc.trans y5.gc).trans s1.2.2.2).trans w3, ((gm.trans y6.gm).trans (q_GM.mh _ _ _ _ (by omega) (by unfold q_hf; simp))).trans (q_GM.mh _ _ _ _ (by omega) (by unfold q_hf; simp)), Or.inr ⟨w4, w5⟩⟩
    unfold f_X12_fresh
    rw [if_pos A1.2.1]
    by_cases s2 : xS X (t + 1) = 2
    · have fe : q_find (fun j => μ2.1 3 (8 + j)) (xV X (t + 1)) nb 9 0 = q_find (σ1.1 (o + 1)) (xV X (t + 1)) nb 9 0 := q_find_cong _ _ _ nb (fun i hi => (B1.2.2.2.2.2.2 i hi).symm) 9 0
      rw [if_pos s2, if_pos (n1.mp s2), e_ck k1, e_nm, k2, A1.2.2.1, s_valueOf M B1.1 (t + 1) tl1, e_bdS, s_X0_find o _ σ1 nb B1.2.2.2.2.1 B1.2.2.2.1, e_bdS, n2 s2, show f_X12_found 3 16 8 (nI nb) (xV X (t + 1)) μ2 = _ from s_X12_found 3 16 (by omega) 8 _ μ2 nb (by omega) b4, e_bdS, fe]
      rcases q_fb (σ1.1 (o + 1)) (xV X (t + 1)) nb 9 0 with e | ⟨j, hj, e, -⟩
      · rw [e, if_pos rfl, if_pos rfl]
        obtain ⟨μ3, w1, w2, w3⟩ := q_tok1 M A1.2.2.2 (A1.2.2.2.lt M (by rw [s2]; decide))
        unfold f_X12_fresh_b44 f_X7_readBay_b73 f_X7_readBay_b98 f_X0_addBay f_X0_addBay_b29
        rw [if_pos A1.1, if_pos A1.2.1, e_ck k1, e_nm, k2, A1.2.2.1, s_valueOf M B1.1 (t + 1) tl1, e_bdS, B1.2.2.2.2.1, if_neg (show ¬ (8 : Int32) ≤ nI nb from nI_ge (a := nb) (b := 8) (by omega) (by decide)), e_ck (e_in (by omega) (by decide)), nI_clamp (by omega), e_nm, e_nm, e_bvS, e_nm, e_bvS, e_nm, n2 s2, w1, e_bvS, e_bdS, e_ck inb.1, inb.2, e_nm, fr, e_bdS, rd, e_bvS]
        have q9 : (mI μ3 3 (8 + nb) (xV X (t + 1))).1 2 9 = nI nb := by rw [m_Ir _ _ _ _ (by omega), w3.1 2 (by omega)]; exact m9
        have q7 : (mI σ1 (o + 1) nb (xV X (t + 1))).1 o 7 = nI nb := by rw [m_Ir _ _ _ _ (by omega)]; exact B1.2.2.2.2.1
        have q2 : (mI (mI σ1 (o + 1) nb (xV X (t + 1))) o 7 (nI (nb + 1))).1 7 2 = nI (t + 1) := by rw [m_Ir _ _ _ _ (by omega), m_Ir _ _ _ _ (by omega)]; exact A1.2.2.1
        rw [q9, q7, nI_1, q2, nI_1]
        have fr1 : ∀ r, r ≠ 7 → r ≠ o → r ≠ o + 1 → (mI (mI (mI σ1 (o + 1) nb (xV X (t + 1))) o 7 (nI (nb + 1))) 7 2 (nI (t + 1 + 1))).1 r = σ1.1 r := fun r p q s => by rw [m_Ir _ _ _ _ p, m_Ir _ _ _ _ q, m_Ir _ _ _ _ s]
        have f7 : ∀ j, j ≠ 2 → (mI (mI (mI σ1 (o + 1) nb (xV X (t + 1))) o 7 (nI (nb + 1))) 7 2 (nI (t + 1 + 1))).1 7 j = σ1.1 7 j := fun j p => by rw [m_I, if_neg (by omega), m_Ir _ _ _ _ (by omega), m_Ir _ _ _ _ (by omega)]
        have fo : ∀ j, j ≠ 7 → (mI (mI (mI σ1 (o + 1) nb (xV X (t + 1))) o 7 (nI (nb + 1))) 7 2 (nI (t + 1 + 1))).1 o j = σ1.1 o j := fun j p => by rw [m_Ir _ _ _ _ (by omega), m_I, if_neg (by omega), m_Ir _ _ _ _ (by omega)]
        have fo7 : (mI (mI (mI σ1 (o + 1) nb (xV X (t + 1))) o 7 (nI (nb + 1))) 7 2 (nI (t + 1 + 1))).1 o 7 = nI (nb + 1) := by rw [m_Ir _ _ _ _ (by omega), m_I, if_pos ⟨rfl, rfl⟩]
        have fo1 : ∀ j, (mI (mI (mI σ1 (o + 1) nb (xV X (t + 1))) o 7 (nI (nb + 1))) 7 2 (nI (t + 1 + 1))).1 (o + 1) j = if j = nb then xV X (t + 1) else σ1.1 (o + 1) j := fun j => by
          rw [m_Ir _ _ _ _ (by omega), m_Ir _ _ _ _ (by omega), m_I]
          simp
        have f72 : (mI (mI (mI σ1 (o + 1) nb (xV X (t + 1))) o 7 (nI (nb + 1))) 7 2 (nI (t + 1 + 1))).1 7 2 = nI (t + 1 + 1) := by rw [m_I, if_pos ⟨rfl, rfl⟩]
        have er : ∀ r, r ≠ 0 → r ≠ 2 → r ≠ 3 → (mI (mI μ3 3 (8 + nb) (xV X (t + 1))) 2 9 (nI (nb + 1))).1 r = μ2.1 r := fun r p q s => by rw [m_Ir _ _ _ _ q, m_Ir _ _ _ _ s, w3.1 r p]
        have e0 : (mI (mI μ3 3 (8 + nb) (xV X (t + 1))) 2 9 (nI (nb + 1))).1 0 = μ3.1 0 := by rw [m_Ir _ _ _ _ (by omega), m_Ir _ _ _ _ (by omega)]
        have e2 : ∀ j, j ≠ 9 → (mI (mI μ3 3 (8 + nb) (xV X (t + 1))) 2 9 (nI (nb + 1))).1 2 j = μ2.1 2 j := fun j p => by rw [m_I, if_neg (by omega), m_Ir _ _ _ _ (by omega), w3.1 2 (by omega)]
        have e29 : (mI (mI μ3 3 (8 + nb) (xV X (t + 1))) 2 9 (nI (nb + 1))).1 2 9 = nI (nb + 1) := by rw [m_I, if_pos ⟨rfl, rfl⟩]
        have e3 : ∀ j, (mI (mI μ3 3 (8 + nb) (xV X (t + 1))) 2 9 (nI (nb + 1))).1 3 j = if j = 8 + nb then xV X (t + 1) else μ2.1 3 j := fun j => by
          rw [m_Ir _ _ _ _ (by omega), m_I, w3.1 3 (by omega)]
          simp
        have gm2 : q_GM μ2 (mI (mI μ3 3 (8 + nb) (xV X (t + 1))) 2 9 (nI (nb + 1))) := (w3.fm.gm.trans (q_GM.mh _ _ _ _ (by omega) (by unfold q_hf; simp))).trans (q_GM.mh _ _ _ _ (by omega) (by unfold q_hf; simp))
        have gc2 : q_GC o σ1 (mI (mI (mI σ1 (o + 1) nb (xV X (t + 1))) o 7 (nI (nb + 1))) 7 2 (nI (t + 1 + 1))) := ((q_GC.m _ _ _ _ _ (by omega)).trans (q_GC.m _ _ _ _ _ (by omega))).trans (q_GC.m _ _ _ _ _ (by omega))
        generalize mI (mI (mI σ1 (o + 1) nb (xV X (t + 1))) o 7 (nI (nb + 1))) 7 2 (nI (t + 1 + 1)) = σ4 at *
        generalize mI (mI μ3 3 (8 + nb) (xV X (t + 1))) 2 9 (nI (nb + 1)) = μ4 at *
        have B4 : q_zB X o (nb + 1) σ4 μ4 := by
          obtain ⟨h1, h2, h3, h4, h5, h6, h7⟩ := B1
          refine ⟨h1.eq (fr1 1 (by omega) (by omega) (by omega)) (fr1 3 (by omega) (by omega) (by omega)) (fr1 4 (by omega) (by omega) (by omega)) (fr1 5 (by omega) (by omega) (by omega)), h2, by rw [f7 1 (by omega)]; exact h3, by omega, fo7, e29, fun i hi => ?_⟩
          rw [fo1, e3]
          by_cases ci : i = nb
          · rw [if_pos ci, if_pos (by omega)]
          · rw [if_neg ci, if_neg (by omega)]; exact h7 i (by omega)
        have A4 : q_zA X (t + 1 + 1) σ4 μ4 := by
          refine ⟨by rw [f7 4 (by omega)]; exact A1.1, by rw [e0, w3.2 23 (by omega)]; exact A1.2.1, f72, ?_⟩
          unfold q_RT
          rw [e0, er 1 (by omega) (by omega) (by omega), ← w3.1 1 (by omega)]
          exact w2
        have P4 : q_pr2 o (nb + 1) nl nd nw nk σ4 μ4 := by
          unfold q_pr2 r_pc at P1 ⊢
          rw [fo 8 (by omega), fo 9 (by omega), fo 10 (by omega), fo 11 (by omega), fo 12 (by omega), fo 13 (by omega), fo 14 (by omega), fr1 (o + 2) (by omega) (by omega) (by omega), fr1 (o + 3) (by omega) (by omega) (by omega), fr1 (o + 4) (by omega) (by omega) (by omega), fr1 (o + 5) (by omega) (by omega) (by omega), fr1 (o + 6) (by omega) (by omega) (by omega), fr1 (o + 7) (by omega) (by omega) (by omega), fr1 (o + 8) (by omega) (by omega) (by omega), fr1 (o + 9) (by omega) (by omega) (by omega), fr1 (o + 10) (by omega) (by omega) (by omega), fr1 (o + 11) (by omega) (by omega) (by omega), f7 3 (by omega), f7 8 (by omega), e2 10 (by omega), e2 11 (by omega), e2 12 (by omega), e2 13 (by omega), e2 14 (by omega), e2 15 (by omega), e2 16 (by omega), e2 17 (by omega), er 4 (by omega) (by omega) (by omega), er 5 (by omega) (by omega) (by omega), er 6 (by omega) (by omega) (by omega), er 7 (by omega) (by omega) (by omega), er 8 (by omega) (by omega) (by omega), er 9 (by omega) (by omega) (by omega), er 10 (by omega) (by omega) (by omega), er 11 (by omega) (by omega) (by omega), er 12 (by omega) (by omega) (by omega), er 13 (by omega) (by omega) (by omega), er 14 (by omega) (by omega) (by omega), e0, w3.2 16 (by omega), w3.2 27 (by omega), w3.2 28 (by omega)]
          obtain ⟨p1, ⟨p2, p3⟩, p4, p5, p6⟩ := P1
          refine ⟨p1, ⟨⟨fun q => by omega, fun _ => ?_⟩, p3⟩, p4, fun i hi => ?_, p6⟩
          · by_cases cn : nb = 0
            · obtain ⟨u1, u2⟩ := p2.1 cn
              exact ⟨0, by omega, u2, Or.inr ⟨u1, rfl⟩⟩
            · obtain ⟨b, u1, u2, u3⟩ := p2.2 (by omega)
              exact ⟨b, by omega, u2, u3⟩
          · obtain ⟨⟨x, u1, u2⟩, u3⟩ := p5 i hi
            exact ⟨⟨x, by omega, u2⟩, u3⟩
        obtain ⟨σ', μ', v1, v2, v3, v4, v5⟩ := q_fin M B4 A4 P4 (by rw [e0, w3.2 17 (by omega)]; exact z17) (by omega)
        rw [v1, v2]
        refine ⟨_, _, rfl, rfl, (gc.trans gc2).trans v3, (gm.trans gm2).trans v4, ?_⟩
        rcases v5 with v5 | v5
        · exact Or.inl ⟨_, _, _, _, _, _, by omega, v5⟩
        · exact Or.inr v5
      · rw [e, if_neg (q_n1 (by omega)), if_neg (q_n1 (by omega))]
        exact bad 3 (by decide)
    · rw [if_neg s2, if_neg (fun q => s2 (n1.mpr q))]
      exact bad 1 (by decide)
end
