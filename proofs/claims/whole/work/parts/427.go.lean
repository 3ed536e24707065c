theorem q_rest.FN {a : Nat} {μ μ' : MSt} (h : q_rest μ.1) (f : FN a μ μ') : q_rest μ'.1 := h.eq (f.2.2.2 46 (by omega) (by omega)) (f.2.2.2 47 (by omega) (by omega)) (f.2.2.2 48 (by omega) (by omega)) (f.2.2.2 50 (by omega) (by omega))
theorem q_TX.FP {nb nl nd nw nk o a : Nat} {σ σ' μ μ' : MSt} (ho : 50 ≤ o) (h : q_TX nb nl nd nw nk σ.1 μ.1) (f : FP o σ σ') (g : FN a μ μ') : q_TX nb nl nd nw nk σ'.1 μ'.1 := h.eq (fun r _ _ => f.1 r (by omega) (by omega)) (fun r _ _ => g.1 r (by omega) (by omega))
theorem q_OP.FP {nd o a : Nat} {σ σ' μ μ' : MSt} (ho : 50 ≤ o ∧ o ≤ 58) (h : q_OP nd σ μ) (f : FP o σ σ') (g : FN a μ μ') : q_OP nd σ' μ' := h.fr (f.1 71 (by omega) (by omega)) (f.1 15 (by omega) (by omega)) (fun j _ _ => g.2.2.2 j (by omega) (by omega)) (g.1 9 (by omega) (by omega))
theorem FL.ofP {σ σ' : MSt} (h : FP 58 σ σ') : FL σ σ' := ⟨fun r hr => h.1 r (by omega) (by omega), fun r x y => h.2 r x y⟩
theorem FX.ofN {μ μ' : MSt} (h : FN 1 μ μ') : FX μ μ' := ⟨fun r hr => h.1 r (by omega) (by omega), fun r x y i p q => h.2.1 r x y i p, fun r x y i p => h.2.2.1 r x y i (by omega), fun j a b c d => h.2.2.2 j b d⟩
theorem FX.ofA {μ μ' : MSt} (h : FA 1 μ μ') : FX μ μ' := FX.ofN (FN.ofA h)
/-- as told: the trial is the log -/
theorem s_X1_asTold (σ : MSt) (h7 : σ.1 50 7 = 0 ∨ σ.1 50 7 = 1) : ∃ σ', f_X1_asTold σ = some σ' ∧ (∀ j, 2 < j → j < 12 → j ≠ 8 → σ'.1 58 j = σ.1 50 j) ∧ (∀ b, b < 8 → σ'.1 (58 + 1) b = σ.1 (50 + 1) b ∧ σ'.1 (58 + 2) b = σ.1 (50 + 2) b ∧ σ'.1 (58 + 3) b = σ.1 (50 + 3) b) ∧ σ'.2 58 8 = σ.2 50 8 ∧ (∀ r, r ≠ 71 → (r < 58 ∨ 61 < r) → σ'.1 r = σ.1 r) ∧ (∀ r, r ≠ 58 → σ'.2 r = σ.2 r) ∧ σ'.1 71 4 = 1 ∧ σ'.1 71 5 = 0 ∧ σ'.1 71 6 = 0 ∧ σ'.1 71 7 = 0 ∧ σ'.1 71 8 = -1 := by
  obtain ⟨σ1, e1, p1, p2, p3, p4, p5⟩ := s_X5_take 58 50 (by omega) σ h7
  unfold f_X1_asTold
  rw [e1, e_bvS]
  simp only [e_nm]
  have f : ∀ r, r ≠ 71 → (mI (mI (mI (mI (mI σ1 71 4 1) 71 5 0) 71 6 0) 71 7 0) 71 8 (-1)).1 r = σ1.1 r := fun r hr => by rw [m_Ir _ _ _ _ hr, m_Ir _ _ _ _ hr, m_Ir _ _ _ _ hr, m_Ir _ _ _ _ hr, m_Ir _ _ _ _ hr]
  refine ⟨_, rfl, ?_, ?_, p3, ?_, p5, ?_, ?_, ?_, ?_, ?_⟩
  · intro j a b c; rw [f 58 (by omega)]; exact p1 j a b c
  · intro b hb; rw [f (58 + 1) (by omega), f (58 + 2) (by omega), f (58 + 3) (by omega)]; exact p2 b hb
  · intro r h1 h2; rw [f r h1, p4 r (by omega)]
  · simp [m_I]
  · simp [m_I]
  · simp [m_I]
  · simp [m_I]
  · simp [m_I]
theorem q_OP_told {nb nl nd nw nk : Nat} {σ σ1 μ : MSt} (T : q_TX nb nl nd nw nk σ.1 μ.1) (hr : q_rest μ.1) (h15 : σ1.1 15 = σ.1 15) (h7 : σ1.1 71 7 = 0) (h8 : σ1.1 71 8 = -1) : q_OP nd σ1 μ := by
  obtain ⟨r1, r2, r3, r4⟩ := hr
  have l := T.le.2.2.1
  refine ⟨fun i hi => ?_, fun i hi => ?_⟩
  · unfold q_joy
    rw [r1, if_neg (by decide), r3, if_neg (q_n1 (by omega)), h7, if_pos rfl, h15]
    obtain ⟨-, -, k, -, p, q⟩ := T.deed i hi
    rw [p, q]
  · rw [h8, r1]
    exact ⟨fun q => absurd q (q_n1 (by omega)), fun q => absurd q.1 (by decide)⟩
theorem q_go_l {nb nl nd nw nk : Nat} (N : Nat) (hN : N ≤ 99) : ∀ (k n1 n2 i d : Nat) (σ μ : MSt), i + k = N → k < n1 → k < n2 → d + k ≤ 20000 → q_TX nb nl nd nw nk σ.1 μ.1 → q_A nb d 50 σ 0 μ.1 → q_OP nd σ μ → q_rest μ.1 → σ.1 71 4 = 1 → σ.1 71 5 = 0 → σ.1 71 6 = 0 → ∃ r σ' μ', f_X11_go_b47 n1 (nI N) (nI i) σ = some (r, σ') ∧ f_X12_go_b42 n2 (nI N) (nI i) μ = some (r, μ') ∧ q_A nb (d + k) 50 σ' 0 μ'.1 ∧ FP 50 σ σ' ∧ FN 0 μ μ' ∧ (k = 0 → σ' = σ ∧ μ' = μ) := by
  intro k
  induction k with
  | zero =>
    intro n1 n2 i d σ μ h1 h2 h3 hd T A OP hr o4 o5 o6
    obtain ⟨n1, rfl⟩ : ∃ z, n1 = z + 1 := ⟨n1 - 1, by omega⟩
    obtain ⟨n2, rfl⟩ : ∃ z, n2 = z + 1 := ⟨n2 - 1, by omega⟩
    show ∃ r σ' μ', f_X11_go_b47_s (f_X11_go_b47 n1) (nI N) (nI i) σ = some (r, σ') ∧ f_X12_go_b42_s (f_X12_go_b42 n2) (nI N) (nI i) μ = some (r, μ') ∧ _
    unfold f_X11_go_b47_s f_X12_go_b42_s
    rw [if_pos (nI_le (by omega) (by omega)), if_pos (nI_le (by omega) (by omega)), e_ck (by decide), c_0, A.1.1, A.1.2]
    exact ⟨_, _, _, rfl, rfl, A, FP.rf, FN.rf, fun _ => ⟨rfl, rfl⟩⟩
  | succ k ih =>
    intro n1 n2 i d σ μ h1 h2 h3 hd T A OP hr o4 o5 o6
    obtain ⟨n1, rfl⟩ : ∃ z, n1 = z + 1 := ⟨n1 - 1, by omega⟩
    obtain ⟨n2, rfl⟩ : ∃ z, n2 = z + 1 := ⟨n2 - 1, by omega⟩
    show ∃ r σ' μ', f_X11_go_b47_s (f_X11_go_b47 n1) (nI N) (nI i) σ = some (r, σ') ∧ f_X12_go_b42_s (f_X12_go_b42 n2) (nI N) (nI i) μ = some (r, μ') ∧ _
    unfold f_X11_go_b47_s f_X12_go_b42_s
    rw [if_neg (nI_ge (by omega) (by omega)), if_neg (nI_ge (by omega) (by omega))]
    obtain ⟨σ1, μ1, x1, x2, x3, x4, x5⟩ := q_pass (o := 50) (a := 0) (by omega) (by omega) (by omega) T A OP 1 o4 o5 (by rw [o6, if_pos rfl]; exact q_gM_rest T hr d (by omega))
    have x2' : f_X12_passes 0 1 μ = some μ1 := x2
    rw [x1, e_bvS, e_nm, x2', e_bvS, e_nm, nI_1]
    have e71 : σ1.1 71 = σ.1 71 := x4.1 71 (by omega) (by omega)
    obtain ⟨r, σ', μ', y1, y2, y3, y4, y5, -⟩ := ih n1 n2 (i + 1) (d + 1) σ1 μ1 (by omega) (by omega) (by omega) (by omega) (T.FP (by omega) x4 x5) x3 (OP.FP (by omega) x4 x5) (hr.FN x5) (by rw [e71]; exact o4) (by rw [e71]; exact o5) (by rw [e71]; exact o6)
    refine ⟨r, σ', μ', y1, y2, ?_, x4.trans y4, x5.trans y5, fun q => by omega⟩
    rw [show d + (k + 1) = d + 1 + k by omega]
    exact y3
theorem sim_go : Sim_go RR := by
  intro σ μ a0 h
  have hk := h.thr
  unfold f_X11_go f_X12_go f_X11_go_b25 f_X12_go_b29
  rw [e_nm]
  generalize mI μ 0 0 0 = μ0 at hk
  obtain ⟨nb, nl, nd, nw, nk, dn, T, hdn, A, I, N, O, P, F, W, hr⟩ := id hk
  rw [e_ck (by decide), c_0, A.1.1, A.1.2]
  by_cases c1 : a0 < 0
  · rw [if_pos c1, if_pos c1]; exact ⟨_, _, _, rfl, rfl, hk⟩
  rw [if_neg c1, if_neg c1]
  by_cases c2 : 99 < a0
  · rw [if_pos c2, if_pos c2]; exact ⟨_, _, _, rfl, rfl, hk⟩
  rw [if_neg c2, if_neg c2]
  obtain ⟨n, hn, rfl⟩ := nI_of2 (M := 99) (n := 99) (by decide) c1 (Int32.not_lt.mp c2)
  by_cases c3 : nI dn + nI n ≤ 9900
  · rw [if_pos c3, if_pos c3]
    have hsum : dn + n ≤ 9900 := by
      rw [nI_add, show (9900 : Int32) = nI 9900 from rfl, nI_leI (by omega) (by omega)] at c3
      exact c3
    unfold f_X11_go_b38 f_X12_go_b40 f_X2_clear
    by_cases c4 : nI n ≤ 0
    · rw [if_pos c4, if_pos c4]
      have n0 : n = 0 := by
        rw [show (0 : Int32) = nI 0 from rfl, nI_leI (by omega) (by omega)] at c4
        omega
      subst n0
      obtain ⟨σ1, p0, p1, p2, p3, p4, p5, o4, o5, o6, o7, o8⟩ := s_X1_asTold σ A.s7
      rw [p0, e_bvS]
      have fl : FL σ σ1 := ⟨fun r hr => p4 r (by omega) (by omega), fun r _ y => p5 r y⟩
      obtain ⟨r, σ', μ', y1, y2, y3, y4, y5, y6⟩ := q_go_l 0 (by omega) 0 FU FU 0 dn σ1 μ0 (by omega) (by unfold FU; omega) (by unfold FU; omega) (by omega) (T.fr fl FX.rf) (A.fr fl FX.rf) (q_OP_told T hr (p4 15 (by omega) (by omega)) o7 o8) hr o4 o5 o6
      obtain ⟨rfl, rfl⟩ := y6 rfl
      exact ⟨r, _, _, y1, y2, hk.fr fl FX.rf⟩
    · rw [if_neg c4, if_neg c4, e_nm, e_bvS, e_nm]
      have q0 : ∀ r, r ≠ 62 → (mI σ 62 5 0).1 r = σ.1 r := fun r hr => m_Ir _ _ _ _ hr
      have q1 : ∀ r, r ≠ 0 → (mI μ0 0 45 0).1 r = μ0.1 r := fun r hr => m_Ir _ _ _ _ hr
      have q2 : ∀ j, j ≠ 45 → (mI μ0 0 45 0).1 0 j = μ0.1 0 j := fun j hj => by rw [m_I, if_neg (by omega)]
      obtain ⟨σ1, p0, p1, p2, p3, p4, p5, o4, o5, o6, o7, o8⟩ := s_X1_asTold (mI σ 62 5 0) (by rw [q0 50 (by omega)]; exact A.s7)
      rw [p0, e_bvS]
      have f1 : ∀ r, r ≠ 62 → r ≠ 71 → (r < 58 ∨ 61 < r) → σ1.1 r = σ.1 r := fun r a b c => by rw [p4 r b c, q0 r a]
      have T1 : q_TX nb nl nd nw nk σ1.1 (mI μ0 0 45 0).1 := T.eq (fun r _ _ => f1 r (by omega) (by omega) (by omega)) (fun r _ _ => q1 r (by omega))
      have A1 : q_A nb dn 50 σ1 0 (mI μ0 0 45 0).1 := A.eq (fun r _ _ => f1 r (by omega) (by omega) (by omega)) (by rw [p5 50 (by omega)]; rfl) (fun r _ _ => by rw [q1 r (by omega)]) (fun r _ _ b _ => by rw [q1 r (by omega)])
      have hr1 : q_rest (mI μ0 0 45 0).1 := hr.eq (q2 46 (by omega)) (q2 47 (by omega)) (q2 48 (by omega)) (q2 50 (by omega))
      obtain ⟨r, σ', μ', y1, y2, y3, y4, y5, -⟩ := q_go_l n hn n FU FU 0 dn σ1 (mI μ0 0 45 0) (by omega) (by unfold FU; omega) (by unfold FU; omega) (by omega) T1 A1 (q_OP_told T1 hr1 rfl o7 o8) hr1 o4 o5 o6
      refine ⟨r, _, _, y1, y2, RR_log T hsum I O P F W hr ?_ ?_ ?_ ?_ ?_ ?_ y3 ?_⟩
      · intro r hr'; rw [y4.1 r (by omega) (by omega), f1 r (by omega) (by omega) (by omega)]
      · rw [y4.2 54 (by omega) (by omega), p5 54 (by omega)]; rfl
      · intro r h0 hr'; rw [y5.1 r h0 (by omega), q1 r (by omega)]
      · intro j h1 h2; rw [y5.2.2.2 j (by omega) (by omega), q2 j h2]
      · intro r x y; rw [y5.2.1 r x y 3 (by omega), q1 r (by omega)]
      · intro r x y b hb; rw [y5.2.2.1 r x y _ (by omega), q1 r (by omega)]
      · refine q_UN.nil ?_ ?_
        · rw [y4.1 62 (by omega) (by omega), p4 62 (by omega) (by omega), m_I]; simp
        · rw [y5.2.2.2 45 (by omega) (by omega), m_I]; simp
  · rw [if_neg c3, if_neg c3]; exact ⟨_, _, _, rfl, rfl, hk⟩
theorem q_first_l {nb nl nd nw nk : Nat} (N : Nat) (hN : N ≤ 99) (x2 : Int32) : ∀ (k n1 n2 i d : Nat) (σ μ : MSt), i + k = N + 1 → k < n1 → k < n2 → d + k ≤ 20000 → q_TX nb nl nd nw nk σ.1 μ.1 → q_A nb d 58 σ 1 μ.1 → q_OP nd σ μ → q_rest μ.1 → σ.1 71 4 = 0 → σ.1 71 5 = 0 → σ.1 71 6 = 0 → μ.1 23 0 = x2 → ∃ r σ' μ', f_X1_firstAdriftOf_b10 n1 (nI N) x2 (nI i) σ = some (r, σ') ∧ f_X12_firstAdrift_b26 n2 (nI N) (nI i) μ = some (r, μ') ∧ FP 58 σ σ' ∧ FN 1 μ μ' := by
  intro k
  induction k with
  | zero =>
    intro n1 n2 i d σ μ h1 h2 h3 hd T A OP hr o4 o5 o6 hx
    obtain ⟨n1, rfl⟩ : ∃ z, n1 = z + 1 := ⟨n1 - 1, by omega⟩
    obtain ⟨n2, rfl⟩ : ∃ z, n2 = z + 1 := ⟨n2 - 1, by omega⟩
    show ∃ r σ' μ', f_X1_firstAdriftOf_b10_s (f_X1_firstAdriftOf_b10 n1) (nI N) x2 (nI i) σ = some (r, σ') ∧ f_X12_firstAdrift_b26_s (f_X12_firstAdrift_b26 n2) (nI N) (nI i) μ = some (r, μ') ∧ _
    unfold f_X1_firstAdriftOf_b10_s f_X12_firstAdrift_b26_s
    rw [if_pos (nI_lt (by omega) (by omega)), if_pos (nI_lt (by omega) (by omega))]
    exact ⟨_, _, _, rfl, rfl, FP.rf, FN.rf⟩
  | succ k ih =>
    intro n1 n2 i d σ μ h1 h2 h3 hd T A OP hr o4 o5 o6 hx
    obtain ⟨n1, rfl⟩ : ∃ z, n1 = z + 1 := ⟨n1 - 1, by omega⟩
    obtain ⟨n2, rfl⟩ : ∃ z, n2 = z + 1 := ⟨n2 - 1, by omega⟩
    show ∃ r σ' μ', f_X1_firstAdriftOf_b10_s (f_X1_firstAdriftOf_b10 n1) (nI N) x2 (nI i) σ = some (r, σ') ∧ f_X12_firstAdrift_b26_s (f_X12_firstAdrift_b26 n2) (nI N) (nI i) μ = some (r, μ') ∧ _
    unfold f_X1_firstAdriftOf_b10_s f_X12_firstAdrift_b26_s
    rw [if_neg (nI_nlt (by omega) (by omega)), if_neg (nI_nlt (by omega) (by omega))]
    obtain ⟨σ1, μ1, z1, z2, z3, z4, z5⟩ := q_pass (o := 58) (a := 1) (by omega) (by omega) (by omega) T A OP 0 o4 o5 (by rw [o6, if_pos rfl]; exact q_gM_rest T hr d (by omega))
    have z2' : f_X12_passes 1 0 μ = some μ1 := z2
    have hx1 : μ1.1 23 0 = x2 := by rw [z5.2.1 23 (by omega) (by omega) 0 (by omega)]; exact hx
    have c1 : ((1 : Int32)).toNatClampNeg = 1 := by decide
    rw [z1, e_bvS, z2', e_bvS, e_ck (by decide), e_ck (by decide), c_0, c1, hx1, ← z3.2.2.2.2.2.2.1.2.1]
    by_cases c : σ1.1 58 10 ≤ x2
    · rw [if_pos c, if_pos c, e_nm, e_nm, nI_1]
      have e71 : σ1.1 71 = σ.1 71 := z4.1 71 (by omega) (by omega)
      obtain ⟨r, σ', μ', y1, y2, y4, y5⟩ := ih n1 n2 (i + 1) (d + 1) σ1 μ1 (by omega) (by omega) (by omega) (by omega) (T.FP (by omega) z4 z5) z3 (OP.FP (by omega) z4 z5) (hr.FN z5) (by rw [e71]; exact o4) (by rw [e71]; exact o5) (by rw [e71]; exact o6) hx1
      exact ⟨r, σ', μ', y1, y2, z4.trans y4, z5.trans y5⟩
    · rw [if_neg c, if_neg c]
      exact ⟨_, _, _, rfl, rfl, z4, z5⟩
/-- the trial begins, in both -/
theorem q_trial {nb nl nd nw nk dn : Nat} {σ μ : MSt} (T : q_TX nb nl nd nw nk σ.1 μ.1) (A : q_A nb dn 50 σ 0 μ.1) : ∃ σ' μ', f_X1_asTold σ = some σ' ∧ f_X12_takes 1 0 μ = some μ' ∧ FL σ σ' ∧ FA 1 μ μ' ∧ q_A nb dn 58 σ' 1 μ'.1 ∧ σ'.1 15 = σ.1 15 ∧ μ'.1 23 0 = σ'.1 58 10 ∧ σ'.1 71 4 = 1 ∧ σ'.1 71 5 = 0 ∧ σ'.1 71 6 = 0 ∧ σ'.1 71 7 = 0 ∧ σ'.1 71 8 = -1 := by
  obtain ⟨σ1, p0, p1, p2, p3, p4, p5, o4, o5, o6, o7, o8⟩ := s_X1_asTold σ A.s7
  obtain ⟨μ1, g1, w1, w2, w3⟩ := s_X12_takes 1 0 (by omega) (by omega) (by omega) μ
  refine ⟨σ1, μ1, p0, g1, ⟨fun r hr => p4 r (by omega) (by omega), fun r _ y => p5 r y⟩, w3, q_A_take A p1 p2 p3 w1 w2, p4 15 (by omega) (by omega), ?_, o4, o5, o6, o7, o8⟩
  rw [p1 10 (by omega) (by omega) (by omega), w3.2.1 23 (by omega) (by omega) 0 (by omega), A.2.2.2.2.2.2.1.2.1]
theorem sim_firstAdrift : Sim_firstAdrift RR := by
  intro σ μ a0 h
  have hk := h.thr
  unfold f_X11_firstAdrift f_X12_firstAdrift f_X11_firstAdrift_b11 f_X12_firstAdrift_b16
  rw [e_nm]
  generalize mI μ 0 0 0 = μ0 at hk
  obtain ⟨nb, nl, nd, nw, nk, dn, T, hdn, A, I, N, O, P, F, W, hr⟩ := id hk
  by_cases c1 : a0 < 1
  · rw [if_pos c1, if_pos c1]; exact ⟨_, _, _, rfl, rfl, hk⟩
  rw [if_neg c1, if_neg c1]
  by_cases c2 : a0 ≤ 99
  · rw [if_pos c2, if_pos c2]
    have c0 : ¬ a0 < 0 := by
      intro q
      exact c1 (Int32.lt_iff_toInt_lt.mpr (by have := Int32.lt_iff_toInt_lt.mp q; rw [t_0] at this; rw [t_1]; omega))
    obtain ⟨n, hn, rfl⟩ := nI_of2 (M := 99) (n := 99) (by decide) c0 c2
    obtain ⟨σ1, μ1, p1, p2, p3, p4, p5, p6, p7, o4, o5, o6, o7, o8⟩ := q_trial T A
    unfold f_X1_asItGoes
    rw [p1, e_bvS, e_nm, e_bvS, p2, e_bvS]
    have q0 : ∀ r, r ≠ 71 → (mI σ1 71 4 0).1 r = σ1.1 r := fun r hr => m_Ir _ _ _ _ hr
    have fl : FL σ (mI σ1 71 4 0) := p3.trans (FL.mI _ _ _ _ (by omega))
    have fx : FX μ0 μ1 := FX.ofA p4
    have T1 := T.fr fl fx
    have A1 : q_A nb dn 58 (mI σ1 71 4 0) 1 μ1.1 := p5.eq (fun r _ _ => q0 r (by omega)) rfl (fun _ _ _ => rfl) (fun _ _ _ _ _ => rfl)
    have hr1 := hr.FX fx
    unfold f_X1_firstAdriftOf
    rw [e_nm, q0 58 (by omega)]
    obtain ⟨r, σ', μ', y1, y2, y4, y5⟩ := q_first_l n hn (σ1.1 58 10) n FU FU 1 dn (mI σ1 71 4 0) μ1 (by omega) (by unfold FU; omega) (by unfold FU; omega) (by omega) T1 A1 (q_OP_told T1 hr1 rfl (by rw [m_I, if_neg (by omega)]; exact o7) (by rw [m_I, if_neg (by omega)]; exact o8)) hr1 (by rw [m_I]; simp) (by rw [m_I, if_neg (by omega)]; exact o5) (by rw [m_I, if_neg (by omega)]; exact o6) p7
    have y1' : f_X1_firstAdriftOf_b10 FU (nI n) (σ1.1 58 10) 1 (mI σ1 71 4 0) = some (r, σ') := y1
    rw [y1', e_bdS]
    exact ⟨r, _, _, rfl, y2, hk.fr (fl.trans (FL.ofP y4)) (fx.trans (FX.ofN y5))⟩
  · rw [if_neg c2, if_neg c2]; exact ⟨_, _, _, rfl, rfl, hk⟩
