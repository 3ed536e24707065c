theorem q_mood_eq4 {R R' : Nat → Nat → Int32} (h18 : R' 18 = R 18) (h19 : R' 19 = R 19) (h20 : R' 20 = R 20) (h21 : R' 21 = R 21) (J M L d g h : Int32) : q_mood R' J M L d g h = q_mood R J M L d g h := by
  unfold q_mood
  rw [q_val_eq h18 h19 h20 h21]
theorem q_hold_eq4 {R R' : Nat → Nat → Int32} (h18 : R' 18 = R 18) (h19 : R' 19 = R 19) (h20 : R' 20 = R 20) (h21 : R' 21 = R 21) (J M L d g h : Int32) : q_hold R' J M L d g h = q_hold R J M L d g h := by
  unfold q_hold
  rw [q_mood_eq4 h18 h19 h20 h21, q_val_eq h18 h19 h20 h21]
theorem q_gain_eq4 {R R' : Nat → Nat → Int32} (h18 : R' 18 = R 18) (h19 : R' 19 = R 19) (h20 : R' 20 = R 20) (h21 : R' 21 = R 21) (J M L d g h : Int32) : q_gain R' J M L d g h = q_gain R J M L d g h := by
  unfold q_gain
  rw [q_mood_eq4 h18 h19 h20 h21, q_val_eq h18 h19 h20 h21]
theorem q_gM_FN {a : Nat} {μ μ' : MSt} (h : FN a μ μ') (d : Nat) : q_gM μ' d = q_gM μ d := by
  unfold q_gM
  rw [h.2.2.2 46 (by omega) (by omega), h.2.2.2 50 (by omega) (by omega), h.1 2 (by omega) (by omega), h.1 10 (by omega) (by omega)]
theorem q_A_draw {nb d o a : Nat} {σ μ : MSt} (A : q_A nb d o σ a μ.1) (w : Nat) (hw : w < 2 ^ 31) : q_A nb d o (mJ σ o 8 (lN w)) a (mI μ 25 a (nI w)).1 := by
  obtain ⟨a1, a2, a3, a4, a5, a6, a7, a8, a9⟩ := A
  have t1 : ∀ q, q ≠ 25 → (mI μ 25 a (nI w)).1 q = μ.1 q := fun q hq => m_Ir _ _ _ _ hq
  unfold q_A q_AN
  rw [m_J1, m_Js, t1 17 (by omega), t1 18 (by omega), t1 19 (by omega), t1 20 (by omega), t1 21 (by omega), t1 22 (by omega), t1 23 (by omega), t1 24 (by omega), t1 26 (by omega), t1 27 (by omega), t1 28 (by omega)]
  exact ⟨a1, a2, a3, a4, a5, a6, a7, ⟨w, hw, by rw [m_I]; simp, rfl⟩, a9⟩
section
variable {nb nl nd nw nk o a d : Nat} {σ μ : MSt}
theorem q_anchor (ho : 50 ≤ o ∧ o ≤ 58) (ha : a < 24) (hd : d ≤ 20000) (T : q_TX nb nl nd nw nk σ.1 μ.1) (A : q_A nb d o σ a μ.1) (b : Nat) (hb : b < 8) (h4 : σ.1 o 4 = nI b) (h18 : μ.1 18 a = nI b) (c7 : ¬ μ.1 21 a = 1) (g : Int32) (hg : q_gM μ d = g) (p : Int32) : ∃ σ' μ', f_X1_lieByAnchor o g σ = some σ' ∧ f_X12_night (nI a) p μ = some μ' ∧ q_A nb d o σ' a μ'.1 ∧ FP o σ σ' ∧ FN a μ μ' ∧ σ'.1 o 5 = σ.1 o 5 ∧ σ'.1 o 6 = σ.1 o 6 := by
  have ka : k_inb (nI a) 24 = true := e_in ha (by decide)
  have kx : k_inb (nI (8 * a + b)) 192 = true := e_in (by omega) (by decide)
  have ex : (8 : Int32) * nI a + nI b = nI (8 * a + b) := by rw [show (8 : Int32) = nI 8 from rfl, pk_mul, nI_add]
  obtain ⟨A1, A2, A3, A4, -⟩ := id A
  have JB := (A2 b hb).2
  have LB := (A4 b hb).2
  -- the class
  obtain ⟨σ1, p1, p2, p3, p4, p5⟩ := s_X8_recall 72 o b hb (by omega) (by omega) (by omega) σ
  have d1 : σ1.1 o 3 = nI d := by rw [p5.1 o (by omega)]; exact A1.1
  obtain ⟨σ2, s1, s2, s3, s4, s5, s6, s7, s8, s9⟩ := s_X8_set 72 (nI d) g 1 σ1
  have sc : q_SC σ2 72 (σ.1 (o + 1) b) (σ.1 (o + 2) b) (σ.1 (o + 3) b) (nI d) g 1 := ⟨by rw [s2, p2], by rw [s3, p3], by rw [s4, p4], by rw [s5, p4], s6, s7, s8⟩
  have k2 : FO 72 σ σ2 := (FO.ofQ p5).trans (FO.ofQ s9)
  obtain ⟨σ3, v1, v2, v3, v4⟩ := s_X4_feel μ.1 72 (by decide) σ2 (T.law.C (fun r hr => k2.1 r (by omega))) sc
  have k3 := k2.trans v4
  rw [q_mood_eq4 (k2.1 18 (by omega)) (k2.1 19 (by omega)) (k2.1 20 (by omega)) (k2.1 21 (by omega))] at v3
  obtain ⟨σ4, w1, w2⟩ := s_X4_grips μ.1 72 σ3 (T.law.C (fun r hr => k3.1 r (by omega))) v2 (by rw [v3, q_mood_eq4 (k3.1 18 (by omega)) (k3.1 19 (by omega)) (k3.1 20 (by omega)) (k3.1 21 (by omega))])
  rw [q_hold_eq4 (k3.1 18 (by omega)) (k3.1 19 (by omega)) (k3.1 20 (by omega)) (k3.1 21 (by omega))] at w1
  have k4 : FO 72 σ σ4 := k3.trans (FO.ofS w2)
  -- the reference
  obtain ⟨μ1, r1, r2⟩ := s_X12_holdsBy σ.1 (σ.1 (o + 1) b) (σ.1 (o + 2) b) (σ.1 (o + 3) b) d hd 1 μ nw T.nwM T.le.2.2.2.1 T.law JB LB
  rw [hg] at r1
  have B : q_A nb d o σ4 a μ1.1 := A.eq (fun r _ _ => k4.1 r (by omega)) (by rw [k4.2 o (by omega)]) (fun r _ _ => by rw [r2.1 r (by omega)]) (fun r _ _ b _ => by rw [r2.1 r (by omega)])
  unfold f_X1_lieByAnchor f_X12_night f_X1_lieByAnchor_b109 f_X12_night_b194
  simp only [e_ck ka, e_nm, nI_clamp (show a < 2 ^ 31 by omega), h18, ex, e_ck kx, nI_clamp (show 8 * a + b < 2 ^ 31 by omega)]
  rw [h4, p1, e_bvS, d1, s1, e_bvS, v1, e_bvS, w1, e_bdS, if_neg c7, ← (A2 b hb).1, ← A3 b hb, ← (A4 b hb).1, A1.2, r1, e_bdS]
  by_cases z : q_hold σ.1 (σ.1 (o + 1) b) (σ.1 (o + 2) b) (σ.1 (o + 3) b) (nI d) g 1 = 0
  · rw [if_pos z, if_pos z]
    have B1 := q_A_cnt B 10 23 (by omega)
    have h4' : (mI σ4 o 10 (σ4.1 o 10 + 1)).1 o 4 = nI b := by rw [m_I, if_neg (by omega), k4.1 o (by omega)]; exact h4
    rw [h4', s_X5_drag o b hb, e_bvS]
    have B2 := q_A_drag B1 b hb
    refine ⟨_, _, rfl, rfl, B2, ?_, ?_, ?_, ?_⟩
    · exact ((FP.of72 k4).trans (FP.mI o _ o _ _ (by omega))).trans (FP.mI o _ (o + 1) _ _ (by omega))
    · exact ((FN.ofM r2).trans (FN.m1 a _ 23 _ (by omega))).trans (FN.m2 a b hb _ 26 _ (by omega))
    · unfold q_drag; rw [m_Ir _ _ _ _ (by omega), m_I, if_neg (by omega), k4.1 o (by omega)]
    · unfold q_drag; rw [m_Ir _ _ _ _ (by omega), m_I, if_neg (by omega), k4.1 o (by omega)]
  · rw [if_neg z, if_neg z]
    have B1 := q_A_cnt B 9 22 (by omega)
    have f8 : ∀ r, r ≠ o → (mI σ4 o 9 (σ4.1 o 9 + 1)).1 r = σ4.1 r := fun r hr => m_Ir _ _ _ _ hr
    have g8 : ∀ r, r ≠ 72 → r ≠ o → (mI σ4 o 9 (σ4.1 o 9 + 1)).1 r = σ.1 r := fun r h1 h2 => by rw [f8 r h2, k4.1 r h1]
    have h4' : (mI σ4 o 9 (σ4.1 o 9 + 1)).1 o 4 = nI b := by rw [m_I, if_neg (by omega), k4.1 o (by omega)]; exact h4
    have e72 : (mI σ4 o 9 (σ4.1 o 9 + 1)).1 72 = σ3.1 72 := by rw [f8 72 (by omega), w2.1]
    have sc8 : q_SC (mI σ4 o 9 (σ4.1 o 9 + 1)) 72 (σ.1 (o + 1) b) (σ.1 (o + 2) b) (σ.1 (o + 3) b) (nI d) g 1 := by
      unfold q_SC
      rw [e72]
      exact v2
    obtain ⟨σ9, x1, x2⟩ := s_X4_gain μ.1 72 (mI σ4 o 9 (σ4.1 o 9 + 1)) (q_TL_eq T.law (g8 18 (by omega) (by omega)) (g8 19 (by omega) (by omega)) (g8 20 (by omega) (by omega)) (g8 21 (by omega) (by omega)) rfl rfl rfl rfl) sc8 (by rw [e72, v3, q_mood_eq4 (g8 18 (by omega) (by omega)) (g8 19 (by omega) (by omega)) (g8 20 (by omega) (by omega)) (g8 21 (by omega) (by omega))])
    rw [q_gain_eq4 (g8 18 (by omega) (by omega)) (g8 19 (by omega) (by omega)) (g8 20 (by omega) (by omega)) (g8 21 (by omega) (by omega))] at x1
    have fn1 : FN a μ (mI μ1 22 a (μ1.1 22 a + 1)) := (FN.ofM r2).trans (FN.m1 a _ 22 _ (by omega))
    have u1 : ∀ r, 0 < r → r ≠ 22 → (mI μ1 22 a (μ1.1 22 a + 1)).1 r = μ.1 r := fun r h0 hr => by rw [m_Ir _ _ _ _ hr, r2.1 r (by omega)]
    obtain ⟨μ2, y1, y2⟩ := s_X12_gainOf σ.1 a b ha hb d hd (mI μ1 22 a (μ1.1 22 a + 1)) nw (by rw [u1 2 (by omega) (by omega)]; exact T.nwM) T.le.2.2.2.1 (q_TL_eq T.law rfl rfl rfl rfl (u1 11 (by omega) (by omega)) (u1 12 (by omega) (by omega)) (u1 13 (by omega) (by omega)) (u1 14 (by omega) (by omega))) (by rw [u1 17 (by omega) (by omega)]; exact A1.2) (by rw [u1 26 (by omega) (by omega), ← (A2 b hb).1]; exact JB) (by rw [u1 28 (by omega) (by omega), ← (A4 b hb).1]; exact LB)
    rw [q_gM_FN fn1, hg, u1 26 (by omega) (by omega), u1 27 (by omega) (by omega), u1 28 (by omega) (by omega), ← (A2 b hb).1, ← A3 b hb, ← (A4 b hb).1] at y1
    obtain ⟨kk, hkk, ek⟩ := q_gain_b σ.1 (σ.1 (o + 1) b) (σ.1 (o + 2) b) (σ.1 (o + 3) b) (nI d) g 1
    rw [ek] at x1 y1
    rw [x1, e_bdS, h4', s_X5_remember o b hb, e_bvS, y1, e_bdS, s_X12_remembers a b ha hb, e_bvS]
    have B2 : q_A nb d o σ9 a μ2.1 := B1.eq (fun r _ _ => by rw [x2.1]) (by rw [x2.2 o (by omega)]) (fun r _ _ => by rw [y2.1 r (by omega)]) (fun r _ _ b _ => by rw [y2.1 r (by omega)])
    have B3 := q_A_rem B2 hd b kk hb hkk
    obtain ⟨m1, m2, m3, m4, m5⟩ := q_rem_r o b (nI kk) σ9
    obtain ⟨n1, n2, n3, n4, n5, n6⟩ := q_remM_r a b hb (nI kk) μ2
    refine ⟨_, _, rfl, rfl, B3, ?_, ?_, ?_, ?_⟩
    · exact (((FP.of72 k4).trans (FP.mI o _ o _ _ (by omega))).trans (FP.of72 (FO.ofS x2))).trans (FP.ofD ⟨fun r hr => m4 r (by omega), m5⟩)
    · exact (fn1.trans (FN.ofM y2)).trans (FN.ofA n6)
    · rw [m4 o (by omega), x2.1, m_I, if_neg (by omega), k4.1 o (by omega)]
    · rw [m4 o (by omega), x2.1, m_I, if_neg (by omega), k4.1 o (by omega)]
theorem q_copyNight (ho : 50 ≤ o ∧ o ≤ 58) (ha : a < 24) (T : q_TX nb nl nd nw nk σ.1 μ.1) (A : q_A nb d o σ a μ.1) (c7 : μ.1 21 a = 1) (p : Int32) (hp : σ.1 71 4 = p) : ∃ σ' μ', f_X1_lieByCopy o σ = some σ' ∧ f_X12_night (nI a) p μ = some μ' ∧ q_A nb d o σ' a μ'.1 ∧ FP o σ σ' ∧ FN a μ μ' ∧ σ'.1 o 5 = σ.1 o 5 ∧ σ'.1 o 6 = σ.1 o 6 := by
  have ka : k_inb (nI a) 24 = true := e_in ha (by decide)
  have k6 : k_inb (6 : Int32) 18 = true := by decide
  have d6 : ((6 : Int32)).toNatClampNeg = 6 := by decide
  obtain ⟨tr, htr, t1, t2⟩ := T.trust
  have fin : ∀ (y : Int32) (σ1 μ1 : MSt), q_A nb d o σ1 a μ1.1 → FP o σ σ1 → FN a μ μ1 → σ1.1 o = σ.1 o → ∃ σ' μ', f_X1_lieByCopy_b49 o y σ1 = some σ' ∧ f_X12_night_b71 (nI a) y μ1 = some μ' ∧ q_A nb d o σ' a μ'.1 ∧ FP o σ σ' ∧ FN a μ μ' ∧ σ'.1 o 5 = σ.1 o 5 ∧ σ'.1 o 6 = σ.1 o 6 := by
    intro y σ1 μ1 B f1 f2 f3
    unfold f_X1_lieByCopy_b49 f_X12_night_b71 f_X1_lieByCopy_b77 f_X12_night_b101 f_X12_night_b194
    simp only [e_ck ka, e_nm, nI_clamp (show a < 2 ^ 31 by omega)]
    by_cases z : y = 0
    · rw [if_pos z, if_pos z]
      refine ⟨_, _, rfl, rfl, q_A_cnt B 10 23 (by omega), f1.trans (FP.mI o _ o _ _ (by omega)), f2.trans (FN.m1 a _ 23 _ (by omega)), ?_, ?_⟩
      · rw [m_I, if_neg (by omega), f3]
      · rw [m_I, if_neg (by omega), f3]
    · rw [if_neg z, if_neg z]
      refine ⟨_, _, rfl, rfl, q_A_cnt B 9 22 (by omega), f1.trans (FP.mI o _ o _ _ (by omega)), f2.trans (FN.m1 a _ 22 _ (by omega)), ?_, ?_⟩
      · rw [m_I, if_neg (by omega), f3]
      · rw [m_I, if_neg (by omega), f3]
  unfold f_X1_lieByCopy f_X12_night
  simp only [e_ck ka, e_nm, nI_clamp (show a < 2 ^ 31 by omega)]
  rw [if_pos c7, hp, t1, e_ck k6, d6, t2]
  by_cases cp : p = 0
  · rw [if_pos cp, if_pos cp]
    by_cases c : nI tr < 50
    · rw [if_pos c, if_pos c]; exact fin 0 σ μ A FP.rf FN.rf rfl
    · rw [if_neg c, if_neg c]; exact fin 1 σ μ A FP.rf FN.rf rfl
  · rw [if_neg cp, if_neg cp]
    obtain ⟨w, hw, w1, w2⟩ := A.2.2.2.2.2.2.2.1
    obtain ⟨w', hw', x1, x2⟩ := q_draw2 (w := w)
    have hM := q_drawM a ha 100 (by omega) (by omega) μ hw' w1 x2
    rw [q_drawC o σ hw' w2 x1, e_bdS, show (100 : Int32) = nI 100 from rfl, hM, e_bdS, q_remN (by omega) (by omega) (by omega), m_J1, t1, e_ck k6, m_Ir _ _ _ _ (by omega), t2]
    have B := q_A_draw A w' hw'
    have f1 : FP o σ (mJ σ o 8 (lN w')) := FP.mJ o σ 8 _
    have f2 : FN a μ (mI μ 25 a (nI w')) := FN.m1 a _ 25 _ (by omega)
    by_cases c : nI tr ≤ nI (w' / 65536 % 100)
    · rw [if_pos c, if_pos c]; exact fin 0 _ _ B f1 f2 rfl
    · rw [if_neg c, if_neg c]; exact fin 1 _ _ B f1 f2 rfl
theorem q_night (ho : 50 ≤ o ∧ o ≤ 58) (ha : a < 24) (hd : d ≤ 20000) (T : q_TX nb nl nd nw nk σ.1 μ.1) (A : q_A nb d o σ a μ.1) (g : Int32) (hg : q_gM μ d = g) (p : Int32) (hp : σ.1 71 4 = p) (hs : σ.1 o 5 = -1 ∨ ∃ e, e ≤ 8 ∧ σ.1 o 6 = nI (d + 1 + e)) : ∃ σ' μ', f_X1_pass_b149 o g σ = some σ' ∧ f_X12_passes_b116 (nI a) p μ = some μ' ∧ q_A nb (d + 1) o σ' a μ'.1 ∧ FP o σ σ' ∧ FN a μ μ' := by
  have ka : k_inb (nI a) 24 = true := e_in ha (by decide)
  have l1 := T.le.1
  have tick : ∀ (σ1 μ1 : MSt), q_A nb d o σ1 a μ1.1 → FP o σ σ1 → FN a μ μ1 → (σ1.1 o 5 = σ.1 o 5 ∧ σ1.1 o 6 = σ.1 o 6) → ∃ σ' μ', f_X1_pass_b208 o σ1 = some σ' ∧ f_X12_passes_b155 (nI a) μ1 = some μ' ∧ q_A nb (d + 1) o σ' a μ'.1 ∧ FP o σ σ' ∧ FN a μ μ' := by
    intro σ1 μ1 B f1 f2 f3
    unfold f_X1_pass_b208 f_X12_passes_b155
    simp only [e_ck ka, e_nm, nI_clamp (show a < 2 ^ 31 by omega)]
    exact ⟨_, _, rfl, rfl, q_A_tick B (by rw [f3.1, f3.2]; exact hs) l1, f1.trans (FP.mI o _ o _ _ (by omega)), f2.trans (FN.m1 a _ 17 _ (by omega))⟩
  obtain ⟨a1, a2, a3, a4, a5, a6, a7, a8, a9⟩ := id A
  unfold f_X1_pass_b149 f_X12_passes_b116
  simp only [e_ck ka, e_nm, nI_clamp (show a < 2 ^ 31 by omega)]
  rw [← a5.1]
  by_cases c5 : σ.1 o 5 = -1
  · obtain ⟨h6, h4, h4'⟩ := q_heads A l1 c5
    rw [if_pos c5, if_pos c5, ← h4]
    by_cases c4 : σ.1 o 4 = -1
    · rw [if_pos c4, if_pos c4]
      unfold f_X1_pass_b194
      rw [if_pos c4]
      exact tick σ μ A FP.rf FN.rf ⟨rfl, rfl⟩
    · rw [if_neg c4, if_neg c4]
      obtain ⟨b, hb, eb⟩ : ∃ b, b < nb ∧ σ.1 o 4 = nI b := by
        rcases h4' with q | q
        · exact absurd q.2 c4
        · exact q
      by_cases c7 : σ.1 o 7 = 0
      · rw [if_pos c7]
        unfold f_X1_pass_b194
        rw [if_neg c4]
        obtain ⟨σ1, μ1, x1, x2, x3, x4, x5, x6⟩ := q_anchor ho ha hd T A b (by omega) eb (by rw [← h4]; exact eb) (by rw [← a6.1, c7]; decide) g hg p
        rw [x1, e_bvS, x2, e_bvS]
        exact tick σ1 μ1 x3 x4 x5 x6
      · rw [if_neg c7]
        have c71 : σ.1 o 7 = 1 := by
          rcases a6.2 with q | q
          · exact absurd q c7
          · exact q
        obtain ⟨σ1, μ1, x1, x2, x3, x4, x5, x6⟩ := q_copyNight ho ha T A (by rw [← a6.1]; exact c71) p hp
        rw [x1, e_bvS, x2, e_bvS]
        exact tick σ1 μ1 x3 x4 x5 x6
  · rw [if_neg c5, if_neg c5]
    refine tick _ _ (q_A_cnt A 11 24 (by omega)) (FP.mI o _ o _ _ (by omega)) (FN.m1 a _ 24 _ (by omega)) ⟨?_, ?_⟩
    · rw [m_I, if_neg (by omega)]
    · rw [m_I, if_neg (by omega)]
/-- a whole day, the winds as told -/
theorem q_pass (ho : 50 ≤ o ∧ o ≤ 58) (ha : a < 24) (hd : d ≤ 20000) (T : q_TX nb nl nd nw nk σ.1 μ.1) (A : q_A nb d o σ a μ.1) (OP : q_OP nd σ μ) (p : Int32) (hp : σ.1 71 4 = p) (h5 : σ.1 71 5 = 0) (hg : q_gM μ d = if σ.1 71 6 = 0 then q_gC σ.1 nw d else 0) : ∃ σ' μ', f_X1_pass o σ = some σ' ∧ f_X12_passes (nI a) p μ = some μ' ∧ q_A nb (d + 1) o σ' a μ'.1 ∧ FP o σ σ' ∧ FN a μ μ' := by
  obtain ⟨σ1, μ1, x1, x2, x3, x4, x5⟩ := q_deeds ho ha hd (σ.2 o 8) p 13 FU FU 0 σ μ (by have := T.le.2.2.1; omega) (by omega) (by unfold FU; omega) (by unfold FU; omega) T A OP
  obtain ⟨σ2, μ2, y1, y2, y3, y4, y5, y6⟩ := q_arrive ha hd (σ.2 o 8) p σ1 μ1 T.le.1 x3
  have f1 := x4.trans y4
  have f2 := x5.trans y5
  have x1' : f_X1_pass o σ = _ := x1
  have x2' : f_X12_passes (nI a) p μ = _ := x2
  rw [x1', x2', y1, y2]
  have T2 : q_TX nb nl nd nw nk σ2.1 μ2.1 := T.eq (fun r _ _ => f1.1 r (by omega)) (fun r _ _ => f2.1 r (by omega))
  have A2 : q_A nb d o σ2 a μ2.1 := by unfold q_A; rw [f1.2]; exact y3
  have e71 : σ2.1 71 = σ.1 71 := f1.1 71 (by omega)
  unfold f_X1_pass_b110
  rw [e71, h5, if_pos rfl, A2.1.1, s_X0_galeOf 10 d (by omega) σ2 nw T2.nwC T2.le.2.2.2.1]
  have hg2 : q_gM μ2 d = if σ.1 71 6 = 0 then q_gC σ.1 nw d else 0 := by rw [q_gM_FN (FN.ofA f2), hg]
  have fin : ∀ g, q_gM μ2 d = g → ∃ σ' μ', f_X1_pass_b149 o g σ2 = some σ' ∧ f_X12_passes_b116 (nI a) p μ2 = some μ' ∧ q_A nb (d + 1) o σ' a μ'.1 ∧ FP o σ σ' ∧ FN a μ μ' := by
    intro g hg'
    obtain ⟨σ', μ', z1, z2, z3, z4, z5⟩ := q_night ho ha hd T2 A2 g hg' p (by rw [e71]; exact hp) y6
    exact ⟨σ', μ', z1, z2, z3, (FP.ofD f1).trans z4, (FN.ofA f2).trans z5⟩
  by_cases c : σ.1 71 6 = 0
  · rw [if_pos c, e_bdS]
    rw [if_pos c] at hg2
    refine fin _ ?_
    rw [hg2]
    unfold q_gC
    rw [← f1.1 16 (by omega)]
  · rw [if_neg c]
    rw [if_neg c] at hg2
    exact fin 0 hg2
/-- a whole day by chance: the reference has drawn the wind before -/
theorem q_passC (ho : 50 ≤ o ∧ o ≤ 58) (ha : a < 24) (hd : d ≤ 20000) (T : q_TX nb nl nd nw nk σ.1 μ.1) (A : q_A nb d o σ a μ.1) (OP : q_OP nd σ μ) (p : Int32) (hp : σ.1 71 4 = p) (h5 : σ.1 71 5 = 1) (h46 : ¬ μ.1 0 46 = 1) : ∃ σ' μ' q μ1, f_X1_pass o σ = some σ' ∧ f_X12_draw (nI a) 10 μ = some (q, μ1) ∧ f_X12_passes (nI a) p (mI μ1 0 50 q) = some μ' ∧ q_A nb (d + 1) o σ' a μ'.1 ∧ FP o σ σ' ∧ FN a (mI μ 0 50 q) μ' := by
  obtain ⟨w, hw, w1, w2⟩ := A.2.2.2.2.2.2.2.1
  obtain ⟨w', hw', dx1, dx2⟩ := q_draw2 (w := w)
  have hM : f_X12_draw (nI a) 10 μ = _ := q_drawM a ha 10 (by omega) (by omega) μ hw' w1 dx2
  have A0 : q_Ad nb d o σ (lN w') a (mI (mI μ 25 a (nI w')) 0 50 (nI (w' / 65536 % 10))).1 := by
    have B := q_A_draw A w' hw'
    have B' : q_Ad nb d o σ (lN w') a (mI μ 25 a (nI w')).1 := by
      unfold q_A at B
      rw [m_Js] at B
      exact B
    exact B'.eq (fun r _ _ => by rw [m_Ir _ _ _ _ (by omega)]) (fun r _ _ b _ => by rw [m_Ir _ _ _ _ (by omega)])
  generalize hμ0 : mI (mI μ 25 a (nI w')) 0 50 (nI (w' / 65536 % 10)) = μ0 at A0
  have u1 : ∀ r, 0 < r → r ≠ 25 → μ0.1 r = μ.1 r := fun r h0 hr => by rw [← hμ0, m_Ir _ _ _ _ (by omega), m_Ir _ _ _ _ hr]
  have u0 : ∀ j, j ≠ 50 → μ0.1 0 j = μ.1 0 j := fun j hj => by rw [← hμ0, m_I, if_neg (by omega), m_Ir _ _ _ _ (by omega)]
  have T0 : q_TX nb nl nd nw nk σ.1 μ0.1 := T.eq (fun _ _ _ => rfl) (fun r _ _ => u1 r (by omega) (by omega))
  obtain ⟨σ1, μ1, x1, x2, x3, x4, x5⟩ := q_deeds ho ha hd (lN w') p 13 FU FU 0 σ μ0 (by have := T.le.2.2.1; omega) (by omega) (by unfold FU; omega) (by unfold FU; omega) T0 A0 (OP.fr rfl rfl (fun j _ _ => u0 j (by omega)) (u1 9 (by omega) (by omega)))
  obtain ⟨σ2, μ2, y1, y2, y3, y4, y5, y6⟩ := q_arrive ha hd (lN w') p σ1 μ1 T.le.1 x3
  have f1 := x4.trans y4
  have f2 := x5.trans y5
  have x1' : f_X1_pass o σ = _ := x1
  have x2' : f_X12_passes (nI a) p μ0 = _ := x2
  have T2 : q_TX nb nl nd nw nk (mJ σ2 o 8 (lN w')).1 μ2.1 := T0.eq (fun r _ _ => f1.1 r (by omega)) (fun r _ _ => f2.1 r (by omega))
  have A2 : q_A nb d o (mJ σ2 o 8 (lN w')) a μ2.1 := by unfold q_A; rw [m_Js]; exact y3
  have e71 : σ2.1 71 = σ.1 71 := f1.1 71 (by omega)
  have hg2 : q_gM μ2 d = nI (w' / 65536 % 10) := by
    rw [q_gM_FN (FN.ofA f2)]
    unfold q_gM
    rw [if_neg (by rw [u0 46 (by omega)]; exact h46)]
    have e50 : μ0.1 0 50 = nI (w' / 65536 % 10) := by rw [← hμ0, m_I]; simp
    rw [e50, if_neg (q_n1 (by omega))]
  obtain ⟨σ', μ', z1, z2, z3, z4, z5⟩ := q_night ho ha hd T2 A2 _ hg2 p (by rw [m_J1, e71]; exact hp) y6
  refine ⟨σ', μ', nI (w' / 65536 % 10), mI μ 25 a (nI w'), ?_, hM, ?_, z3, ((FP.ofD f1).trans (FP.mJ o _ 8 _)).trans z4, ?_⟩
  · rw [x1', y1]
    unfold f_X1_pass_b110
    rw [e71, h5, if_neg q_t10, q_drawC o σ2 hw' (by rw [f1.2]; exact w2) dx1, e_bdS, show (10 : Int32) = nI 10 from rfl, q_remN (by omega) (by omega) (by omega)]
    exact z1
  · rw [hμ0, x2', y2]; exact z2
  · refine FN.trans ?_ ((FN.ofA f2).trans z5)
    rw [← hμ0]
    refine ⟨fun r _ _ => ?_, fun r x y i hi => ?_, fun r x y i hi => ?_, fun j _ _ => ?_⟩
    · rw [m_Ir _ _ _ _ (by omega), m_Ir _ _ _ _ (by omega), m_Ir _ _ _ _ (by omega)]
    · rw [m_Ir _ _ _ _ (by omega), m_I, if_neg (by omega), m_Ir _ _ _ _ (by omega)]
    · rw [m_Ir _ _ _ _ (by omega), m_Ir _ _ _ _ (by omega), m_Ir _ _ _ _ (by omega)]
    · by_cases c : j = 50
      · rw [m_I, if_pos ⟨rfl, c⟩, m_I, if_pos ⟨rfl, c⟩]
      · rw [m_I, if_neg (fun q => c q.2), m_Ir _ _ _ _ (by omega), m_I, if_neg (fun q => c q.2)]
end
