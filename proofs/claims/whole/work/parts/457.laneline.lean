section
variable {X : q_X} {o nb nl nd nw nk t ln : Nat} {σ μ σ' μ' : MSt}
theorem q_lm_c {A B : Nat → Int32} {a b : Int32} {l : Nat} : q_lm A B a b l ↔ q_lm A B b a l := by
  unfold q_lm
  exact Or.comm
/-- the lanes with one more -/
theorem r_pl.add (h : r_pl nl (σ.1 (o + 2)) (μ.1 4) (μ.1 5) (μ.1 6)) (hl : nl < 12) (a b k : Nat) (ha : a < 8) (hb : b < 8) (hab : ¬ a = b) (hk : 1 ≤ k ∧ k ≤ 9) (nm : ∀ l, l < nl → ¬ q_lm (fun l => μ.1 4 (12 + l)) (fun l => μ.1 5 (12 + l)) (nI a) (nI b) l) (L A B D : Nat → Int32) (eL : ∀ j, L j = if j = b * 8 + a then nI k else if j = a * 8 + b then nI k else σ.1 (o + 2) j) (eA : ∀ j, A j = if j = 12 + nl then nI a else μ.1 4 j) (eB : ∀ j, B j = if j = 12 + nl then nI b else μ.1 5 j) (eD : ∀ j, D j = if j = 12 + nl then nI k else μ.1 6 j) : r_pl (nl + 1) L A B D := by
  have hA : ∀ l, l < nl → A (12 + l) = μ.1 4 (12 + l) ∧ B (12 + l) = μ.1 5 (12 + l) ∧ D (12 + l) = μ.1 6 (12 + l) := fun l h1 => by
    rw [eA, eB, eD, if_neg (by omega), if_neg (by omega), if_neg (by omega)]
    exact ⟨rfl, rfl, rfl⟩
  have nA : A (12 + nl) = nI a := by rw [eA, if_pos rfl]
  have nB : B (12 + nl) = nI b := by rw [eB, if_pos rfl]
  have nD : D (12 + nl) = nI k := by rw [eD, if_pos rfl]
  have hD : ∀ l, l < nl → ¬ μ.1 6 (12 + l) = 0 := fun l h3 => by
    obtain ⟨⟨k, k1, k2, e⟩, -⟩ := h.2 l h3
    rw [e]
    exact fun q => by have := (q_nIe (a := k) (b := 0) (by omega) (by omega)).mp q; omega
  refine ⟨fun c d hc hd => ?_, fun l h1 => ?_⟩
  · obtain ⟨s1, s2⟩ := q_lane_s (fun l => μ.1 4 (12 + l)) (fun l => μ.1 5 (12 + l)) (fun l => μ.1 6 (12 + l)) (fun l => A (12 + l)) (fun l => B (12 + l)) (fun l => D (12 + l)) (nI c) (nI d) nl hA 12 0 (by omega) (by omega)
    have hcd := h.1 c d hc hd
    rw [q_lane_f _ _ _ _ _ nl 12 0 (by omega)] at hcd
    have zz := q_lane_z (fun l => μ.1 4 (12 + l)) (fun l => μ.1 5 (12 + l)) (fun l => μ.1 6 (12 + l)) (nI c) (nI d) nl hD 12 0 (by omega)
    rw [eL]
    by_cases e1 : c = b ∧ d = a
    · obtain ⟨rfl, rfl⟩ := e1
      rw [if_pos rfl, s2 (fun i _ h2 q => nm i h2 (q_lm_c.mp q)), if_pos (Or.inr ⟨nA, nB⟩), nD]
    · rw [if_neg (by omega)]
      by_cases e2 : c = a ∧ d = b
      · obtain ⟨rfl, rfl⟩ := e2
        rw [if_pos rfl, s2 (fun i _ h2 q => nm i h2 q), if_pos (Or.inl ⟨nA, nB⟩), nD]
      · rw [if_neg (by omega)]
        by_cases m : ∀ i, 0 ≤ i → i < nl → ¬ q_lm (fun l => μ.1 4 (12 + l)) (fun l => μ.1 5 (12 + l)) (nI c) (nI d) i
        · rw [s2 m, hcd, zz.mpr m, if_neg]
          rw [nA, nB]
          rintro (⟨q1, q2⟩ | ⟨q1, q2⟩)
          · exact e2 ⟨((q_nIe (by omega) (by omega)).mp q1).symm, ((q_nIe (by omega) (by omega)).mp q2).symm⟩
          · exact e1 ⟨((q_nIe (by omega) (by omega)).mp q2).symm, ((q_nIe (by omega) (by omega)).mp q1).symm⟩
        · rw [s1 m, hcd]
  · by_cases e : l = nl
    · subst e
      rw [nA, nB, nD]
      exact ⟨⟨k, hk.1, hk.2, rfl⟩, fun q => hab ((q_nIe (by omega) (by omega)).mp q)⟩
    · obtain ⟨e1, e2, e3⟩ := hA l (by omega)
      rw [e1, e2, e3]
      exact h.2 l (by omega)
theorem l_lane (M : q_CM X) (h : q_IV X o nb nl nd nw nk t ln σ μ) (hs : xS X t = nI (10 + 1)) : ∃ σ' μ', f_X7_readLine σ = some σ' ∧ f_X12_line μ = some μ' ∧ q_OUT X o t ln σ μ σ' μ' := by
  obtain ⟨B, A, P, h17, hln⟩ := id h
  have tl := q_IV.tl M h
  obtain ⟨c1, c2⟩ := B.c
  have ho := B.2.1
  have hw := P.1.1.1
  have cw := P.1.2.1.1
  unfold f_X7_readLine
  rw [A.2.2.1, s_sortOf M B.1 t tl.1, e_bdS, hs, if_neg (show ¬ nI (10 + 1) = 10 by decide), if_pos (show nI (10 + 1) = 11 from rfl), q_line0 h 1 (by omega) hs]
  by_cases c : nl = 12
  · rw [if_pos (by omega)]
    obtain ⟨σd, μd, y1, y2, y3, y4, y5, y6⟩ := q_flt B A 2 (by decide)
    rw [y2, e_bvS, q_b71d y4.n.2]
    have e : f_X7_readLane σ = f_X7_readLane σd := by
      obtain ⟨d1, d2⟩ := y3.c
      unfold f_X7_readLane
      rw [e_ck c1, e_ck d1, e_nm, e_nm, c2, d2, cw, c, d_needRoom y4.n.1, show f_X7_needRoom (nI 12) 12 σ = some σd from s_roomF 12 (by omega) y1]
    rw [e]
    exact q_dl M P.k y3 y4 y5 y6 _ (fun C => d_lane M C y4.n.1)
  · rw [if_neg (by omega), if_pos (by omega)]
    obtain ⟨μ2, z1, B1, A1, P1, z17, gm, gc⟩ := q_st M h 1 0 (by omega) hs (σ.1 7 3) (P.2.2.2.2.2.2.l 1 (by omega))
    rw [mI_same] at B1 A1 P1 gc
    unfold f_X7_readLane f_X12_line_b71
    rw [e_ck c1, e_nm, c2, cw, show f_X7_needRoom (nI nl) 12 σ = some σ from s_room nl 12 (by omega) (by omega), e_bvS, e_nm, A.2.2.1, nI_1, if_pos A.2.1, e_nm, z1, e_bvS, if_neg (show ¬ nI 1 = 0 by decide), if_pos (show nI 1 = 1 from rfl)]
    generalize mI σ 7 2 (nI (t + 1)) = σ1 at *
    clear z1
    have fr : ∀ ν : MSt, f_X12_fresher 1 ν = some (ν.1 2 10, ν) := fun ν => s_fresher 1 (by omega) ν
    have rd : ∀ (ν : MSt) v, f_X12_reads 1 v ν = some (mI ν 2 10 v) := fun ν v => s_reads 1 (by omega) v ν
    have inb : (12 : Int32) + nI nl = nI (12 + nl) := by
      have : ∀ n : Nat, n < 12 → (12 : Int32) + nI n = nI (12 + n) := by decide
      exact this nl (by omega)
    have ik : k_inb (nI (12 + nl)) 24 = true := e_in (by omega) (by decide)
    have ic : (nI (12 + nl)).toNatClampNeg = 12 + nl := nI_clamp (by omega)
    obtain ⟨x1, y1, σa, μ3, m1, m2, m3, m4, m5, m6⟩ := q_aheadB M (show q_zJ X o nb (t + 1) σ1 μ2 from ⟨B1, Or.inl A1⟩)
    unfold f_X12_laneLine
    rw [m1, e_bdS, fr, e_bdS, P1.1.2.2.1.1, inb, e_nm, m2, e_bdS]
    generalize mI σa 7 2 (σa.1 7 2 + 1) = σ2 at *
    obtain ⟨x2, y2, σ3, μ4, r1, r2, r3, r4, r5, r6⟩ := q_told M m3
    rw [r1, e_bdS, r2, e_bdS]
    have kk : ∀ s : MSt, q_FC σ1 s → s.1 (o + 7) 5 = nI nk := fun s f => by rw [f.1 (o + 7) (by omega)]; exact P1.1.2.1.2.2.2
    have pl4 : r_pl nl (σ3.1 (o + 2)) (μ4.1 4) (μ4.1 5) (μ4.1 6) := by
      rw [(m4.trans r4).1 (o + 2) (by omega), (m5.trans r5).1 4 (by omega), (m5.trans r5).1 5 (by omega), (m5.trans r5).1 6 (by omega)]
      exact P1.2.2.1
    have C2 : q_CB X o σ2 := m3.1.cb nk P1.1.1.2.2.2 (kk _ m4)
    obtain ⟨σ5, μ5, u1, u2, u3, u4, u5, u6⟩ := q_mid M r3 (show nl < 12 by omega) pl4 x1 x2 y1 y2 (fun q => by
      obtain ⟨b, hb, eb1, eb2⟩ := (r6 q).2
      obtain ⟨a, ha, ea1, ea2⟩ := m6 (q_toldd M C2 r1 q)
      exact ⟨a, b, ha, hb, ea1, ea2, eb1, eb2⟩)
    rw [u1, u2]
    have ht5 : σ5.1 7 4 = 0 → t + 1 + 1 < xK X := fun q => (r6 (u6 q).1).1
    obtain ⟨μ6, v1, v2, v3, v4, v5⟩ := q_adv M u3 ht5
    unfold f_X7_readLane_b73 f_X12_laneLine_b99 f_X7_readLane_b108
    rw [e_nm, v1, e_bvS, e_ck ik, ic, e_nm, e_ck ik]
    generalize mI σ5 7 2 (σ5.1 7 2 + 1) = σ6 at *
    obtain ⟨x3, y3, σ7, μ7, s1, s2, s3, s4, s5, s6⟩ := q_num M ((v2.w 4 (12 + nl) y1 (by omega)).w 5 (12 + nl) y2 (by omega)) 1 9 (by omega) (by omega)
    have fc : q_FC σ1 σ7 := (((m4.trans r4).trans u4).trans v3).trans s4
    have fm6 : q_FM μ2 μ6 := ((m5.trans r5).trans u5).trans v4
    have er : ∀ r, r ≠ 0 → r ≠ 2 → r ≠ 4 → r ≠ 5 → r ≠ 6 → (mI (mI μ7 6 (12 + nl) y3) 2 10 (nI (nl + 1))).1 r = μ2.1 r := fun r p q u v w => by
      rw [m_Ir _ _ _ _ q, m_Ir _ _ _ _ w, s5.1 r p, m_Ir _ _ _ _ v, m_Ir _ _ _ _ u, fm6.1 r p]
    have q10 : (mI μ7 6 (12 + nl) y3).1 2 10 = nI nl := by
      rw [m_Ir _ _ _ _ (by omega), s5.1 2 (by omega), m_Ir _ _ _ _ (by omega), m_Ir _ _ _ _ (by omega), fm6.1 2 (by omega)]
      exact P1.1.2.2.1.1
    have e0 : (mI (mI μ7 6 (12 + nl) y3) 2 10 (nI (nl + 1))).1 0 = μ7.1 0 := by rw [m_Ir _ _ _ _ (by omega), m_Ir _ _ _ _ (by omega)]
    have e1 : (mI (mI μ7 6 (12 + nl) y3) 2 10 (nI (nl + 1))).1 1 = μ7.1 1 := by rw [m_Ir _ _ _ _ (by omega), m_Ir _ _ _ _ (by omega)]
    have e00 : ∀ j, (j < 19 ∨ 24 < j) → μ7.1 0 j = μ2.1 0 j := fun j hj => by
      rw [s5.2 j hj, m_Ir _ _ _ _ (by omega), m_Ir _ _ _ _ (by omega), fm6.2 j hj]
    have e2 : ∀ j, j ≠ 10 → (mI (mI μ7 6 (12 + nl) y3) 2 10 (nI (nl + 1))).1 2 j = μ2.1 2 j := fun j p => by
      rw [m_I, if_neg (by omega), m_Ir _ _ _ _ (by omega), s5.1 2 (by omega), m_Ir _ _ _ _ (by omega), m_Ir _ _ _ _ (by omega), fm6.1 2 (by omega)]
    have e210 : (mI (mI μ7 6 (12 + nl) y3) 2 10 (nI (nl + 1))).1 2 10 = nI (nl + 1) := by rw [m_I, if_pos ⟨rfl, rfl⟩]
    have e4 : ∀ j, (mI (mI μ7 6 (12 + nl) y3) 2 10 (nI (nl + 1))).1 4 j = if j = 12 + nl then y1 else μ2.1 4 j := fun j => by
      rw [m_Ir _ _ _ _ (by omega), m_Ir _ _ _ _ (by omega), s5.1 4 (by omega), m_Ir _ _ _ _ (by omega), m_I, fm6.1 4 (by omega)]
      simp
    have e5 : ∀ j, (mI (mI μ7 6 (12 + nl) y3) 2 10 (nI (nl + 1))).1 5 j = if j = 12 + nl then y2 else μ2.1 5 j := fun j => by
      rw [m_Ir _ _ _ _ (by omega), m_Ir _ _ _ _ (by omega), s5.1 5 (by omega), m_I, m_Ir _ _ _ _ (by omega), fm6.1 5 (by omega)]
      simp
    have e6 : ∀ j, (mI (mI μ7 6 (12 + nl) y3) 2 10 (nI (nl + 1))).1 6 j = if j = 12 + nl then y3 else μ2.1 6 j := fun j => by
      rw [m_Ir _ _ _ _ (by omega), m_I, s5.1 6 (by omega), m_Ir _ _ _ _ (by omega), m_Ir _ _ _ _ (by omega), fm6.1 6 (by omega)]
      simp
    have hf : ∀ r, (r = 4 ∨ r = 5 ∨ r = 6) → q_hf r ≤ 12 + nl := fun r hr => by rcases hr with rfl | rfl | rfl <;> (unfold q_hf; simp)
    have gm2 : q_GM μ2 (mI (mI μ7 6 (12 + nl) y3) 2 10 (nI (nl + 1))) := ((((fm6.gm.trans (q_GM.mh _ 4 _ _ (by omega) (hf 4 (by omega)))).trans (q_GM.mh _ 5 _ _ (by omega) (hf 5 (by omega)))).trans s5.gm).trans (q_GM.mh _ 6 _ _ (by omega) (hf 6 (by omega)))).trans (q_GM.mh _ 2 _ _ (by omega) (by unfold q_hf; simp))
    have ref : (k_bv (k_nm (mI (mI μ6 4 (12 + nl) y1) 5 (12 + nl) y2) fun σ3 => k_bd (f_X12_numeral (1 : Int32) (9 : Int32) σ3) fun q5 σ4 => k_ck (k_inb (nI (12 + nl)) 24) <| k_nm (mI σ4 6 (12 + nl) q5) fun σ6 => k_bd (f_X12_fresher (1 : Int32) σ6) fun q8 σ7 => k_bv (f_X12_reads (1 : Int32) (q8 + (1 : Int32)) σ7) fun σ9 => some σ9) fun σ15 => f_X12_line_b360 σ15) = f_X12_line_b360 (mI (mI μ7 6 (12 + nl) y3) 2 10 (nI (nl + 1))) := by
      rw [e_nm, show f_X12_numeral 1 9 (mI (mI μ6 4 (12 + nl) y1) 5 (12 + nl) y2) = _ from s2, e_bdS, e_ck ik, e_nm, fr, e_bdS, rd, e_bvS, e_bvS, q10, nI_1]
    rw [ref, show f_X7_takeNumber 1 9 σ6 = _ from s1, e_bdS]
    clear ref
    by_cases al : σ7.1 7 4 = 0
    · have C6 : q_CB X o σ6 := v2.1.cb nk P1.1.1.2.2.2 (kk _ (((m4.trans r4).trans u4).trans v3))
      have al5 : σ5.1 7 4 = 0 := by rw [← v5]; exact q_numd M C6 s1 al
      obtain ⟨al3, ne, nm⟩ := u6 al5
      obtain ⟨-, b, hb, eb1, eb2⟩ := r6 al3
      obtain ⟨a, ha, ea1, ea2⟩ := m6 (q_toldd M C2 r1 al3)
      obtain ⟨k, k1, k9, ek1, ek2⟩ := s6 al
      subst ea1; subst ea2; subst eb1; subst eb2; subst ek1; subst ek2
      obtain ⟨kc1, kc2⟩ := s3.1.c
      have A2 := s3.al al
      have b4 := B1.2.2.2.1
      have b7 : σ7.1 o 7 = nI nb := by rw [fc.1 o (by omega)]; exact B1.2.2.2.2.1
      have o8 : σ7.1 o 8 = nI nl := by rw [fc.1 o (by omega)]; exact P1.1.2.1.1
      have ta : (nI a).toInt = a := nI_toInt (by omega)
      have tb : (nI b).toInt = b := nI_toInt (by omega)
      have ix0 : ∀ c : Nat, c < 8 → ∀ d : Nat, d < 8 → k_inb ((nI c * (8 : Int32)) + nI d) 64 = true ∧ ((nI c * (8 : Int32)) + nI d).toNatClampNeg = c * 8 + d := by decide +kernel
      have ix : ∀ c d : Nat, c < 8 → d < 8 → k_inb ((nI c * (8 : Int32)) + nI d) 64 = true ∧ ((nI c * (8 : Int32)) + nI d).toNatClampNeg = c * 8 + d := fun c d h1 h2 => ix0 c h1 d h2
      unfold f_X0_addLane f_X0_addLane_b50
      rw [if_pos al, e_ck kc1, e_nm, kc2, s_X0_hasBay o (nI a) σ7 nb b7 b4, e_bdS, if_pos (show 0 ≤ (nI a).toInt ∧ (nI a).toInt < nb by omega), if_neg q_t10, s_X0_hasBay o (nI b) σ7 nb b7 b4, e_bdS, if_pos (show 0 ≤ (nI b).toInt ∧ (nI b).toInt < nb by omega), if_neg q_t10, e_ck (ix a b (by omega) (by omega)).1, (ix a b (by omega) (by omega)).2, e_nm, e_ck (ix b a (by omega) (by omega)).1, (ix b a (by omega) (by omega)).2, e_nm]
      have o82 : (mI (mI σ7 (o + 2) (a * 8 + b) (nI k)) (o + 2) (b * 8 + a) (nI k)).1 o 8 = nI nl := by rw [m_Ir _ _ _ _ (by omega), m_Ir _ _ _ _ (by omega)]; exact o8
      rw [o82, nI_1, e_nm, e_bvS, e_bvS]
      have fr1 : ∀ r, r ≠ 7 → r ≠ o → r ≠ o + 2 → (mI (mI (mI σ7 (o + 2) (a * 8 + b) (nI k)) (o + 2) (b * 8 + a) (nI k)) o 8 (nI (nl + 1))).1 r = σ1.1 r := fun r p q u => by rw [m_Ir _ _ _ _ q, m_Ir _ _ _ _ u, m_Ir _ _ _ _ u, fc.1 r p]
      have f7 : (mI (mI (mI σ7 (o + 2) (a * 8 + b) (nI k)) (o + 2) (b * 8 + a) (nI k)) o 8 (nI (nl + 1))).1 7 = σ7.1 7 := by rw [m_Ir _ _ _ _ (by omega), m_Ir _ _ _ _ (by omega), m_Ir _ _ _ _ (by omega)]
      have fo : ∀ j, j ≠ 8 → (mI (mI (mI σ7 (o + 2) (a * 8 + b) (nI k)) (o + 2) (b * 8 + a) (nI k)) o 8 (nI (nl + 1))).1 o j = σ1.1 o j := fun j p => by rw [m_I, if_neg (by omega), m_Ir _ _ _ _ (by omega), m_Ir _ _ _ _ (by omega), fc.1 o (by omega)]
      have fo8 : (mI (mI (mI σ7 (o + 2) (a * 8 + b) (nI k)) (o + 2) (b * 8 + a) (nI k)) o 8 (nI (nl + 1))).1 o 8 = nI (nl + 1) := by rw [m_I, if_pos ⟨rfl, rfl⟩]
      have fa : ∀ j, (mI (mI (mI σ7 (o + 2) (a * 8 + b) (nI k)) (o + 2) (b * 8 + a) (nI k)) o 8 (nI (nl + 1))).1 (o + 2) j = if j = b * 8 + a then nI k else if j = a * 8 + b then nI k else σ1.1 (o + 2) j := fun j => by
        rw [m_Ir _ _ _ _ (by omega), m_I, m_I, fc.1 (o + 2) (by omega)]
        simp
      have gc2 : q_GC o σ7 (mI (mI (mI σ7 (o + 2) (a * 8 + b) (nI k)) (o + 2) (b * 8 + a) (nI k)) o 8 (nI (nl + 1))) := ((q_GC.m _ _ _ _ _ (by omega)).trans (q_GC.m _ _ _ _ _ (by omega))).trans (q_GC.m _ _ _ _ _ (by omega))
      generalize mI (mI (mI σ7 (o + 2) (a * 8 + b) (nI k)) (o + 2) (b * 8 + a) (nI k)) o 8 (nI (nl + 1)) = σ8 at *
      generalize mI (mI μ7 6 (12 + nl) (nI k)) 2 10 (nI (nl + 1)) = μ8 at *
      have B4 : q_zB X o nb σ8 μ8 := by
        obtain ⟨g1, g2, g3, g4, g5, g6, g7⟩ := B1
        refine ⟨g1.eq (fr1 1 (by omega) (by omega) (by omega)) (fr1 3 (by omega) (by omega) (by omega)) (fr1 4 (by omega) (by omega) (by omega)) (fr1 5 (by omega) (by omega) (by omega)), g2, by rw [f7, fc.2.1 1 (by omega) (by omega) (by omega)]; exact g3, g4, by rw [fo 7 (by omega)]; exact g5, by rw [e2 9 (by omega)]; exact g6, ?_⟩
        rw [fr1 (o + 1) (by omega) (by omega) (by omega), er 3 (by omega) (by omega) (by omega) (by omega) (by omega)]
        exact g7
      have A4 : q_zA X (t + 1 + 1 + 1 + 1) σ8 μ8 := A2.up f7 e0 e1
      have nm2 : ∀ l, l < nl → ¬ q_lm (fun l => μ2.1 4 (12 + l)) (fun l => μ2.1 5 (12 + l)) (nI a) (nI b) l := by
        have z4 := (m5.trans r5).1 4 (by omega)
        have z5 := (m5.trans r5).1 5 (by omega)
        rw [← z4, ← z5]
        exact nm
      have PLn := P1.2.2.1.add (show nl < 12 by omega) a b k (by omega) (by omega) (fun q => ne (by rw [q])) ⟨k1, k9⟩ nm2 (σ8.1 (o + 2)) (μ8.1 4) (μ8.1 5) (μ8.1 6) fa e4 e5 e6
      have P4 : q_pr2 o nb (nl + 1) nd nw nk σ8 μ8 := by
        unfold q_pr2 r_pc at P1 ⊢
        rw [fo8, e210, fo 9 (by omega), fo 10 (by omega), fo 11 (by omega), fo 12 (by omega), fo 13 (by omega), fo 14 (by omega), fr1 (o + 3) (by omega) (by omega) (by omega), fr1 (o + 4) (by omega) (by omega) (by omega), fr1 (o + 5) (by omega) (by omega) (by omega), fr1 (o + 6) (by omega) (by omega) (by omega), fr1 (o + 7) (by omega) (by omega) (by omega), fr1 (o + 8) (by omega) (by omega) (by omega), fr1 (o + 9) (by omega) (by omega) (by omega), fr1 (o + 10) (by omega) (by omega) (by omega), fr1 (o + 11) (by omega) (by omega) (by omega), f7, fc.2.1 3 (by omega) (by omega) (by omega), fc.2.1 8 (by omega) (by omega) (by omega), e2 11 (by omega), e2 12 (by omega), e2 13 (by omega), e2 14 (by omega), e2 15 (by omega), e2 16 (by omega), e2 17 (by omega), er 7 (by omega) (by omega) (by omega) (by omega) (by omega), er 8 (by omega) (by omega) (by omega) (by omega) (by omega), er 9 (by omega) (by omega) (by omega) (by omega) (by omega), er 10 (by omega) (by omega) (by omega) (by omega) (by omega), er 11 (by omega) (by omega) (by omega) (by omega) (by omega), er 12 (by omega) (by omega) (by omega) (by omega) (by omega), er 13 (by omega) (by omega) (by omega) (by omega) (by omega), er 14 (by omega) (by omega) (by omega) (by omega) (by omega), e0, e00 16 (by omega), e00 27 (by omega), e00 28 (by omega)]
        obtain ⟨⟨p1, p2, p3, p4⟩, q2, q3, q4⟩ := P1
        exact ⟨⟨⟨by omega, p1.2⟩, ⟨rfl, p2.2⟩, ⟨rfl, p3.2⟩, p4⟩, q2, PLn, q4⟩
      exact q_ouA M ((gc.trans fc.gc).trans gc2) (gm.trans gm2) (t + 1 + 1 + 1 + 1) (by omega) B4 A4 P4 (by rw [e0, e00 17 (by omega)]; exact z17) (by omega)
    · rw [if_neg al, e_bvS]
      have D2 := s3.de al
      exact q_outD M (gc.trans fc.gc) (gm.trans gm2) (s3.1.cb nk P1.1.1.2.2.2 (kk _ fc)) (D2.up rfl e0)
end
