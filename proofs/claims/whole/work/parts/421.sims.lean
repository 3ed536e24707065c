theorem s_X11_canForesee {nb nl nd nw nk dn : Nat} {σ : MSt} {U : Nat → Nat → Int32} (T : q_TX nb nl nd nw nk σ.1 U) (a0 a1 : Int32) : f_X11_canForesee a0 a1 σ = some (if (0 ≤ a0.toInt ∧ a0.toInt < nb) ∧ ¬ a1 < σ.1 50 3 ∧ ¬ σ.1 50 3 + 99 < a1 then 1 else 0, σ) := by
  have z0 : k_bo 0 = true := rfl
  have z1 : k_bo 1 = true := rfl
  unfold f_X11_canForesee f_X11_canForesee_b40 f_X11_canForesee_b41
  rw [s_X0_hasBay 10 a0 σ nb T.nbC T.le.1, e_bdS, e_ck z0, e_ck z1]
  by_cases c : 0 ≤ a0.toInt ∧ a0.toInt < nb
  · rw [if_pos c, if_neg q_t10]
    by_cases c1 : a1 < σ.1 50 3
    · rw [if_pos c1, if_neg (fun q => q.2.1 c1)]
    · by_cases c2 : σ.1 50 3 + 99 < a1
      · rw [if_neg c1, if_pos c2, if_neg (fun q => q.2.2 c2)]
      · rw [if_neg c1, if_neg c2, if_pos ⟨c, c1, c2⟩]
  · rw [if_neg c, if_pos rfl, if_neg (fun q => c q.1)]
theorem s_X12_isAhead (a1 : Int32) (μ : MSt) : f_X12_isAhead a1 μ = some (if ¬ a1 < μ.1 17 0 ∧ ¬ μ.1 17 0 + 99 < a1 then 1 else 0, μ) := by
  have z0 : k_bo 0 = true := rfl
  have z1 : k_bo 1 = true := rfl
  have i0 : k_inb (0 : Int32) 24 = true := by decide
  unfold f_X12_isAhead f_X12_isAhead_b27 f_X12_isAhead_b28
  rw [e_ck i0, e_ck i0, c_0, e_ck z0, e_ck z1]
  by_cases c1 : a1 < μ.1 17 0
  · rw [if_pos c1, if_neg (fun q => q.1 c1)]
  · by_cases c2 : μ.1 17 0 + 99 < a1
    · rw [if_neg c1, if_pos c2, if_neg (fun q => q.2 c2)]
    · rw [if_neg c1, if_neg c2, if_pos ⟨c1, c2⟩]
theorem q_ahead {a1 : Int32} {dn : Nat} (hd : dn ≤ 9900) (h1 : ¬ a1 < nI dn) (h2 : ¬ nI dn + 99 < a1) : ∃ d, dn ≤ d ∧ d ≤ dn + 99 ∧ a1 = nI d := by
  have e : nI dn + 99 = nI (dn + 99) := nI_add dn 99
  rw [e, Int32.lt_iff_toInt_lt, nI_toInt (by omega)] at h2
  rw [Int32.lt_iff_toInt_lt, nI_toInt (by omega)] at h1
  obtain ⟨b, hb, rfl⟩ := q_of (x := a1) (n := dn + 100) ⟨by omega, by omega⟩ (by omega)
  rw [nI_toInt (by omega)] at h1 h2
  exact ⟨b, by omega, by omega, rfl⟩
theorem q_i01 : k_inb (0 : Int32) 24 = true := by decide
theorem sim_holds : Sim_holds RR := by
  intro σ μ a0 a1 h
  have h' : RR σ (mI μ 0 0 0) := h.fr FL.rf (FX.thrown μ 0)
  have hk := h'
  obtain ⟨nb, nl, nd, nw, nk, dn, T, hdn, A, -, -, -, -, -, -, hr⟩ := h'
  unfold f_X11_holds f_X12_holds f_X11_holds_b28 f_X12_holds_b21 f_X12_holds_b39
  rw [e_nm, s_X11_canForesee (dn := dn) T, e_bdS, s_X12_isBay a0 _ nb T.nbM T.le.1, e_bdS, s_X12_isAhead, e_bdS, A.1.1, A.1.2]
  by_cases c : 0 ≤ a0.toInt ∧ a0.toInt < nb
  · by_cases c1 : ¬ a1 < nI dn ∧ ¬ nI dn + 99 < a1
    · obtain ⟨b, hb, rfl⟩ := q_of c (by have := T.le.1; omega)
      obtain ⟨d, hd1, hd2, rfl⟩ := q_ahead hdn c1.1 c1.2
      have hb8 : b < 8 := by have := T.le.1; omega
      have cc : (0 ≤ (nI b).toInt ∧ (nI b).toInt < nb) ∧ ¬ nI d < nI dn ∧ ¬ nI dn + 99 < nI d := ⟨c, c1⟩
      rw [if_pos cc, if_pos c, if_pos c1, if_neg q_t10, if_neg q_t10, if_neg q_t10]
      obtain ⟨σ1, p1, p2⟩ := s_X3_sees T b d hb8 (by omega)
      obtain ⟨μ1, r1, r2⟩ := s_X12_willHold T A (by omega) hr b d hb8 (by omega) (-1) (Or.inl rfl)
      rw [p1, r1, e_bdS, e_bdS, if_pos rfl]
      have hk2 := hk.fr (FL.of70 p2) (FX.of r2)
      by_cases z : q_hs σ.1 nw d (q_fse σ.1 nd b d (q_tri σ.1 b)) = 0
      · rw [if_pos z, if_pos z]; exact ⟨_, _, _, rfl, rfl, hk2⟩
      · rw [if_neg z, if_neg z]; exact ⟨_, _, _, rfl, rfl, hk2⟩
    · have cc : ¬ ((0 ≤ a0.toInt ∧ a0.toInt < nb) ∧ ¬ a1 < nI dn ∧ ¬ nI dn + 99 < a1) := fun q => c1 q.2
      rw [if_neg cc, if_pos c, if_neg c1, if_pos rfl, if_neg q_t10, if_pos rfl]
      exact ⟨_, _, _, rfl, rfl, hk⟩
  · have cc : ¬ ((0 ≤ a0.toInt ∧ a0.toInt < nb) ∧ ¬ a1 < nI dn ∧ ¬ nI dn + 99 < a1) := fun q => c q.1
    rw [if_neg cc, if_neg c, if_pos rfl, if_pos rfl]
    exact ⟨_, _, _, rfl, rfl, hk⟩
theorem sim_mood : Sim_mood RR := by
  intro σ μ a0 a1 h
  have h' : RR σ (mI μ 0 0 0) := h.fr FL.rf (FX.thrown μ 0)
  have hk := h'
  obtain ⟨nb, nl, nd, nw, nk, dn, T, hdn, A, -, -, -, -, -, -, hr⟩ := h'
  unfold f_X11_mood f_X12_mood f_X12_mood_b21
  rw [e_nm, s_X11_canForesee (dn := dn) T, e_bdS, s_X12_isBay a0 _ nb T.nbM T.le.1, e_bdS, s_X12_isAhead, e_bdS, A.1.1, A.1.2]
  by_cases c : 0 ≤ a0.toInt ∧ a0.toInt < nb
  · by_cases c1 : ¬ a1 < nI dn ∧ ¬ nI dn + 99 < a1
    · obtain ⟨b, hb, rfl⟩ := q_of c (by have := T.le.1; omega)
      obtain ⟨d, hd1, hd2, rfl⟩ := q_ahead hdn c1.1 c1.2
      have hb8 : b < 8 := by have := T.le.1; omega
      have cc : (0 ≤ (nI b).toInt ∧ (nI b).toInt < nb) ∧ ¬ nI d < nI dn ∧ ¬ nI dn + 99 < nI d := ⟨c, c1⟩
      rw [if_pos cc, if_pos c, if_pos c1, if_neg q_t10, if_neg q_t10, if_neg q_t10]
      obtain ⟨σ1, p1, p2⟩ := s_X3_moodOf T b d hb8 (by omega)
      obtain ⟨μ1, r1, r2, r3⟩ := s_X12_foresees T A hr b d hb8 (-1)
      rw [if_pos rfl] at r2
      have tb := q_tri_b T A (by omega) b d hb8 _ (Or.inl rfl)
      generalize ht : q_fse σ.1 nd b d (q_tri σ.1 b) = t at p1 r2 tb
      have e1 : μ1.1 0 51 = t.1 := by rw [← r2]
      have e2 : μ1.1 0 52 = t.2.1 := by rw [← r2]
      have e3 : μ1.1 0 53 = t.2.2 := by rw [← r2]
      have hT : q_TL σ.1 μ1.1 := q_TL_eq T.law rfl rfl rfl rfl (r3.1 11 (by decide)) (r3.1 12 (by decide)) (r3.1 13 (by decide)) (r3.1 14 (by decide))
      obtain ⟨μ2, w1, w2⟩ := s_X12_moodBy σ.1 t.1 t.2.1 t.2.2 d (by omega) 0 μ1 nw (by rw [r3.1 2 (by decide)]; exact T.nwM) T.le.2.2.2.1 hT tb.1 tb.2
      rw [p1, r1, e_bdS, e_bvS, e1, e2, e3, w1, e_bdS, q_gM_FM r3, q_gM_rest T hr d (by omega)]
      exact ⟨_, _, _, rfl, rfl, hk.fr (FL.of70 p2) (FX.of (r3.trans w2))⟩
    · have cc : ¬ ((0 ≤ a0.toInt ∧ a0.toInt < nb) ∧ ¬ a1 < nI dn ∧ ¬ nI dn + 99 < a1) := fun q => c1 q.2
      rw [if_neg cc, if_pos c, if_neg c1, if_pos rfl, if_neg q_t10, if_pos rfl]
      exact ⟨_, _, _, rfl, rfl, hk⟩
  · have cc : ¬ ((0 ≤ a0.toInt ∧ a0.toInt < nb) ∧ ¬ a1 < nI dn ∧ ¬ nI dn + 99 < a1) := fun q => c q.1
    rw [if_neg cc, if_neg c, if_pos rfl, if_pos rfl]
    exact ⟨_, _, _, rfl, rfl, hk⟩
theorem q_kindness_l (b d : Nat) (hb8 : b < 8) (hd : d ≤ 20000) (nb nl nd nw nk dn : Nat) (hdn : dn ≤ 9900) : ∀ (k j n1 n2 : Nat) (σ μ : MSt), q_TX nb nl nd nw nk σ.1 μ.1 → q_A nb dn 50 σ 0 μ.1 → q_rest μ.1 → j + k = 11 → k ≤ n1 → k ≤ n2 → 0 < k → ∃ r σ' μ', f_X11_kindness_b13 n1 (nI b) (nI d) (nI j) σ = some (r, σ') ∧ f_X12_kindness_b25 n2 (nI b) (nI d) (nI j) μ = some (r, μ') ∧ FL σ σ' ∧ FX μ μ' := by
  intro k
  induction k with
  | zero => intro j n1 n2 σ μ _ _ _ _ _ _ h; omega
  | succ k ih =>
    intro j n1 n2 σ μ T A hr hjk h1 h2 _
    obtain ⟨n1, rfl⟩ : ∃ z, n1 = z + 1 := ⟨n1 - 1, by omega⟩
    obtain ⟨n2, rfl⟩ : ∃ z, n2 = z + 1 := ⟨n2 - 1, by omega⟩
    show ∃ r σ' μ', f_X11_kindness_b13_s (f_X11_kindness_b13 n1) (nI b) (nI d) (nI j) σ = some (r, σ') ∧ f_X12_kindness_b25_s (f_X12_kindness_b25 n2) (nI b) (nI d) (nI j) μ = some (r, μ') ∧ _
    unfold f_X11_kindness_b13_s f_X12_kindness_b25_s
    by_cases c : 9 < j
    · have c' : (9 : Int32) < nI j := nI_lt (a := 9) (b := j) c (by omega)
      rw [if_pos c', if_pos c']
      exact ⟨_, _, _, rfl, rfl, FL.rf, FX.rf⟩
    · have c' : ¬ (9 : Int32) < nI j := nI_nlt (a := 9) (b := j) (by omega) (by decide)
      rw [if_neg c', if_neg c']
      obtain ⟨σ1, p1, p2⟩ := s_X3_seesWithKindness T b d (nI j) hb8 (by omega)
      have hj1 : ¬ nI j = -1 := by
        intro e
        have := congrArg Int32.toInt e
        rw [nI_toInt (by omega), show (-1 : Int32).toInt = -1 from by decide] at this
        omega
      obtain ⟨μ1, r1, r2⟩ := s_X12_willHold T A (by omega) hr b d hb8 hd (nI j) (Or.inr ⟨j, by omega, rfl⟩)
      rw [if_neg hj1] at r1
      rw [p1, r1, e_bdS, e_bdS]
      by_cases z : q_hs σ.1 nw d (q_fse σ.1 nd b d (q_trik σ.1 b (nI j))) = 0
      · rw [if_pos z, if_pos z, e_nm, e_nm, nI_1]
        obtain ⟨r, σ', μ', q1, q2, q3, q4⟩ := ih (j + 1) n1 n2 σ1 μ1 (T.fr (FL.of70 p2) (FX.of r2)) (A.fr (FL.of70 p2) (FX.of r2)) (hr.FX (FX.of r2)) (by omega) (by omega) (by omega) (by omega)
        exact ⟨r, σ', μ', q1, q2, (FL.of70 p2).trans q3, (FX.of r2).trans q4⟩
      · rw [if_neg z, if_neg z]
        exact ⟨_, _, _, rfl, rfl, FL.of70 p2, FX.of r2⟩
theorem sim_kindness : Sim_kindness RR := by
  intro σ μ a0 a1 h
  have h' : RR σ (mI μ 0 0 0) := h.fr FL.rf (FX.thrown μ 0)
  have hk := h'
  obtain ⟨nb, nl, nd, nw, nk, dn, T, hdn, A, -, -, -, -, -, -, hr⟩ := h'
  unfold f_X11_kindness f_X12_kindness f_X12_kindness_b21
  rw [e_nm, s_X11_canForesee (dn := dn) T, e_bdS, s_X12_isBay a0 _ nb T.nbM T.le.1, e_bdS, s_X12_isAhead, e_bdS, A.1.1, A.1.2]
  by_cases c : 0 ≤ a0.toInt ∧ a0.toInt < nb
  · by_cases c1 : ¬ a1 < nI dn ∧ ¬ nI dn + 99 < a1
    · obtain ⟨b, hb, rfl⟩ := q_of c (by have := T.le.1; omega)
      obtain ⟨d, hd1, hd2, rfl⟩ := q_ahead hdn c1.1 c1.2
      have hb8 : b < 8 := by have := T.le.1; omega
      have cc : (0 ≤ (nI b).toInt ∧ (nI b).toInt < nb) ∧ ¬ nI d < nI dn ∧ ¬ nI dn + 99 < nI d := ⟨c, c1⟩
      rw [if_pos cc, if_pos c, if_pos c1, if_neg q_t10, if_neg q_t10, if_neg q_t10]
      obtain ⟨r, σ', μ', q1, q2, q3, q4⟩ := q_kindness_l b d hb8 (by omega) nb nl nd nw nk dn hdn 11 0 FU FU σ _ T A hr (by omega) (by unfold FU; omega) (by unfold FU; omega) (by omega)
      exact ⟨r, σ', μ', q1, q2, hk.fr q3 q4⟩
    · have cc : ¬ ((0 ≤ a0.toInt ∧ a0.toInt < nb) ∧ ¬ a1 < nI dn ∧ ¬ nI dn + 99 < a1) := fun q => c1 q.2
      rw [if_neg cc, if_pos c, if_neg c1, if_pos rfl, if_neg q_t10, if_pos rfl]
      exact ⟨_, _, _, rfl, rfl, hk⟩
  · have cc : ¬ ((0 ≤ a0.toInt ∧ a0.toInt < nb) ∧ ¬ a1 < nI dn ∧ ¬ nI dn + 99 < a1) := fun q => c q.1
    rw [if_neg cc, if_neg c, if_pos rfl, if_pos rfl]
    exact ⟨_, _, _, rfl, rfl, hk⟩
theorem q_lies {nb d : Nat} {lo jo ma la : Nat → Int32} {dr : Int64} {U : Nat → Nat → Int32} {a : Nat} (A : q_AN nb d lo jo ma la dr a U) (hnb : nb ≤ 8) (x : Nat) (hx : x < 2 ^ 31) : (lo 4 = nI x ↔ (U 19 a = -1 ∧ U 18 a = nI x)) := by
  obtain ⟨-, -, -, -, ⟨h5, -⟩, -, -, -, h9⟩ := A
  have n1 : ∀ y : Nat, y < 2 ^ 31 → ¬ (-1 : Int32) = nI y := by
    intro y hy e
    have := congrArg Int32.toInt e
    rw [nI_toInt hy, show (-1 : Int32).toInt = -1 from by decide] at this
    omega
  rcases h9 with ⟨p1, p2, p3, p4⟩ | ⟨b, e, p1, p2, p3, p4, p5⟩
  · rw [← h5, p1, ← p3]
    exact ⟨fun q => ⟨rfl, q⟩, fun q => q.2⟩
  · rw [← h5, p2, p5]
    constructor
    · intro q; exact absurd q (n1 x hx)
    · intro q
      exact absurd q.1.symm (n1 b (by omega))
