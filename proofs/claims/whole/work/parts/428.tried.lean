theorem q_adrift_l {nb nl nd nw nk : Nat} (N : Nat) (hN : N ≤ 99) (x2 : Int32) : ∀ (k n1 n2 i d : Nat) (σ μ : MSt), i + k = N → k < n1 → k < n2 → d + k ≤ 20000 → q_TX nb nl nd nw nk σ.1 μ.1 → q_A nb d 58 σ 1 μ.1 → q_OP nd σ μ → σ.1 71 4 = 0 → σ.1 71 5 = 0 → (∀ e, e < 2 ^ 30 → q_gM μ e = if σ.1 71 6 = 0 then q_gC σ.1 nw e else 0) → ∃ σ' μ', f_X1_adriftOf_b10 n1 (nI N) x2 (nI i) σ = some (σ'.1 58 10 - x2, σ') ∧ f_X12_tried_b95 n2 (nI N) (nI i) μ = some (μ'.1 23 1 - μ'.1 23 0, mI (mI μ' 0 46 0) 0 47 (-1)) ∧ q_A nb (d + k) 58 σ' 1 μ'.1 ∧ FP 58 σ σ' ∧ FN 1 μ μ' := by
  intro k
  induction k with
  | zero =>
    intro n1 n2 i d σ μ h1 h2 h3 hd T A OP o4 o5 hg
    obtain ⟨n1, rfl⟩ : ∃ z, n1 = z + 1 := ⟨n1 - 1, by omega⟩
    obtain ⟨n2, rfl⟩ : ∃ z, n2 = z + 1 := ⟨n2 - 1, by omega⟩
    show ∃ σ' μ', f_X1_adriftOf_b10_s (f_X1_adriftOf_b10 n1) (nI N) x2 (nI i) σ = some (σ'.1 58 10 - x2, σ') ∧ f_X12_tried_b95_s (f_X12_tried_b95 n2) (nI N) (nI i) μ = some (μ'.1 23 1 - μ'.1 23 0, mI (mI μ' 0 46 0) 0 47 (-1)) ∧ _
    have c1 : ((1 : Int32)).toNatClampNeg = 1 := by decide
    unfold f_X1_adriftOf_b10_s f_X12_tried_b95_s
    rw [if_pos (nI_le (by omega) (by omega)), if_pos (nI_le (by omega) (by omega)), e_nm, e_nm, e_ck (by decide), e_ck (by decide), c_0, c1, m_Ir _ _ _ _ (by omega), m_Ir _ _ _ _ (by omega)]
    exact ⟨_, _, rfl, rfl, A, FP.rf, FN.rf⟩
  | succ k ih =>
    intro n1 n2 i d σ μ h1 h2 h3 hd T A OP o4 o5 hg
    obtain ⟨n1, rfl⟩ : ∃ z, n1 = z + 1 := ⟨n1 - 1, by omega⟩
    obtain ⟨n2, rfl⟩ : ∃ z, n2 = z + 1 := ⟨n2 - 1, by omega⟩
    show ∃ σ' μ', f_X1_adriftOf_b10_s (f_X1_adriftOf_b10 n1) (nI N) x2 (nI i) σ = some (σ'.1 58 10 - x2, σ') ∧ f_X12_tried_b95_s (f_X12_tried_b95 n2) (nI N) (nI i) μ = some (μ'.1 23 1 - μ'.1 23 0, mI (mI μ' 0 46 0) 0 47 (-1)) ∧ _
    unfold f_X1_adriftOf_b10_s f_X12_tried_b95_s
    rw [if_neg (nI_ge (by omega) (by omega)), if_neg (nI_ge (by omega) (by omega))]
    obtain ⟨σ1, μ1, x1, x2', x3, x4, x5⟩ := q_pass (o := 58) (a := 1) (by omega) (by omega) (by omega) T A OP 0 o4 o5 (hg d (by omega))
    have x2' : f_X12_passes 1 0 μ = some μ1 := x2'
    rw [x1, e_bvS, e_nm, x2', e_bvS, e_nm, nI_1]
    have e71 : σ1.1 71 = σ.1 71 := x4.1 71 (by omega) (by omega)
    have e16 : σ1.1 16 = σ.1 16 := x4.1 16 (by omega) (by omega)
    obtain ⟨σ', μ', y1, y2, y3, y4, y5⟩ := ih n1 n2 (i + 1) (d + 1) σ1 μ1 (by omega) (by omega) (by omega) (by omega) (T.FP (by omega) x4 x5) x3 (OP.FP (by omega) x4 x5) (by rw [e71]; exact o4) (by rw [e71]; exact o5) (fun e he => by unfold q_gC; rw [q_gM_FN x5, e71, e16]; exact hg e he)
    refine ⟨σ', μ', y1, y2, ?_, x4.trans y4, x5.trans y5⟩
    rw [show d + (k + 1) = d + 1 + k by omega]
    exact y3
/-- otherwise: six ways -/
theorem s_X1_otherwise (w : Nat) (hw : w ≤ 5) (x : Int32) (σ : MSt) : ∃ σ', f_X1_otherwise (nI w) x σ = some σ' ∧ σ'.1 71 6 = (if w = 1 then 1 else 0) ∧ σ'.1 71 7 = (if w = 3 then 1 else 0) ∧ σ'.1 71 8 = (if w = 2 then x else -1) ∧ σ'.1 71 4 = σ.1 71 4 ∧ σ'.1 71 5 = σ.1 71 5 ∧ σ'.1 58 7 = (if w = 4 then 1 else if w = 5 then 0 else σ.1 58 7) ∧ (∀ r, r ≠ 71 → r ≠ 58 → σ'.1 r = σ.1 r) ∧ (∀ j, j ≠ 7 → σ'.1 58 j = σ.1 58 j) ∧ σ'.2 = σ.2 := by
  have hc : w = 0 ∨ w = 1 ∨ w = 2 ∨ w = 3 ∨ w = 4 ∨ w = 5 := by omega
  rcases hc with rfl | rfl | rfl | rfl | rfl | rfl <;>
  · refine ⟨_, rfl, ?_, ?_, ?_, ?_, ?_, ?_, ?_, ?_, rfl⟩
    · simp [m_I]
    · simp [m_I]
    · simp [m_I]
    · simp [m_I]
    · simp [m_I]
    · simp [m_I]
    · intro r h1 h2
      simp only [m_Ir _ _ _ _ h1, m_Ir _ _ _ _ h2]
    · intro j hj
      simp [m_I, hj]
theorem q_A_cp {nb d : Nat} {σ σ' μ : MSt} (A : q_A nb d 58 σ 1 μ.1) (v : Int32) (hv : v = 0 ∨ v = 1) (c7 : σ'.1 58 7 = v) (c8 : ∀ j, j ≠ 7 → σ'.1 58 j = σ.1 58 j) (c : ∀ r, 58 < r → r < 62 → σ'.1 r = σ.1 r) (c2 : σ'.2 = σ.2) : q_A nb d 58 σ' 1 (mI μ 21 1 v).1 := by
  obtain ⟨a1, a2, a3, a4, a5, a6, a7, a8, a9⟩ := A
  have t1 : ∀ q, q ≠ 21 → (mI μ 21 1 v).1 q = μ.1 q := fun q hq => m_Ir _ _ _ _ hq
  unfold q_A q_AN
  rw [c (58 + 1) (by omega) (by omega), c (58 + 2) (by omega) (by omega), c (58 + 3) (by omega) (by omega), c2, c8 3 (by omega), c8 4 (by omega), c8 5 (by omega), c8 6 (by omega), c8 9 (by omega), c8 10 (by omega), c8 11 (by omega), c7, t1 17 (by omega), t1 18 (by omega), t1 19 (by omega), t1 20 (by omega), t1 22 (by omega), t1 23 (by omega), t1 24 (by omega), t1 25 (by omega), t1 26 (by omega), t1 27 (by omega), t1 28 (by omega)]
  exact ⟨a1, a2, a3, a4, a5, ⟨by rw [m_I]; simp, hv⟩, a7, a8, a9⟩
theorem sim_tried : Sim_tried RR := by
  intro σ μ a0 a1 a2 h
  have hk := h.thr
  unfold f_X11_tried f_X12_tried
  rw [e_nm]
  generalize mI μ 0 0 0 = μ0 at hk
  obtain ⟨nb, nl, nd, nw, nk, dn, T, hdn, A, I, N, O, P, F, W, hr⟩ := id hk
  have hnd := T.le.2.2.1
  -- all refusals
  have no : ∀ X Y : Option (Int32 × MSt), X = some (-1, σ) → Y = some (-1, μ0) → ∃ r σ1 μ1, X = some (r, σ1) ∧ Y = some (r, μ1) ∧ RR σ1 μ1 := fun X Y hX hY => ⟨-1, σ, μ0, hX, hY, hk⟩
  have good : ∀ (w n : Nat), w ≤ 5 → n ≤ 60 → (w = 2 → ∃ x, x < nd ∧ a1 = nI x) → ∃ r σ1 μ1, (k_bv (f_X1_asItGoes σ) fun σ1 => k_bv (f_X1_otherwise (nI w) a1 σ1) fun σ2 => k_bd (f_X1_adriftOf (nI n) σ2) fun q4 σ3 => some (q4, σ3)) = some (r, σ1) ∧ (k_nm (mI μ0 0 46 (nI w)) fun σ1 => k_nm (mI σ1 0 47 a1) fun σ2 => k_bv (f_X12_takes 1 0 σ2) fun σ3 => if nI w < 4 then f_X12_tried_b92 (nI n) σ3 else if nI w = 4 then f_X12_tried_b91 (nI n) 1 1 σ3 else f_X12_tried_b91 (nI n) 1 0 σ3) = some (r, μ1) ∧ RR σ1 μ1 := by
    intro w n hw hn hx
    rw [e_nm, e_nm]
    have u1 : ∀ r, r ≠ 0 → (mI (mI μ0 0 46 (nI w)) 0 47 a1).1 r = μ0.1 r := fun r hr => by rw [m_Ir _ _ _ _ hr, m_Ir _ _ _ _ hr]
    have u0 : ∀ j, j ≠ 46 → j ≠ 47 → (mI (mI μ0 0 46 (nI w)) 0 47 a1).1 0 j = μ0.1 0 j := fun j h1 h2 => by rw [m_I, if_neg (by omega), m_I, if_neg (by omega)]
    have u46 : (mI (mI μ0 0 46 (nI w)) 0 47 a1).1 0 46 = nI w := by simp [m_I]
    have u47 : (mI (mI μ0 0 46 (nI w)) 0 47 a1).1 0 47 = a1 := by simp [m_I]
    generalize mI (mI μ0 0 46 (nI w)) 0 47 a1 = μ1 at *
    have T1 : q_TX nb nl nd nw nk σ.1 μ1.1 := T.eq (fun _ _ _ => rfl) (fun r _ _ => u1 r (by omega))
    have A1 : q_A nb dn 50 σ 0 μ1.1 := A.eq (fun _ _ _ => rfl) rfl (fun r _ _ => by rw [u1 r (by omega)]) (fun r _ _ b _ => by rw [u1 r (by omega)])
    obtain ⟨σ1, μ2, p1, p2, p3, p4, p5, p6, p7, o4, o5, o6, o7, o8⟩ := q_trial T1 A1
    unfold f_X1_asItGoes
    rw [p1, e_bvS, e_nm, e_bvS, p2, e_bvS]
    have q0 : ∀ r, r ≠ 71 → (mI σ1 71 4 0).1 r = σ1.1 r := fun r hr => m_Ir _ _ _ _ hr
    have q71 : ∀ j, j ≠ 4 → (mI σ1 71 4 0).1 71 j = σ1.1 71 j := fun j hj => by rw [m_I, if_neg (by omega)]
    have q4 : (mI σ1 71 4 0).1 71 4 = 0 := by simp [m_I]
    have fl1 : FL σ (mI σ1 71 4 0) := p3.trans (FL.mI _ _ _ _ (by omega))
    have A2 : q_A nb dn 58 (mI σ1 71 4 0) 1 μ2.1 := p5.eq (fun r _ _ => q0 r (by omega)) rfl (fun _ _ _ => rfl) (fun _ _ _ _ _ => rfl)
    have b10 : (mI σ1 71 4 0).1 58 10 = σ1.1 58 10 := by rw [q0 58 (by omega)]
    have h15 : (mI σ1 71 4 0).1 15 = σ.1 15 := by rw [q0 15 (by omega), p6]
    generalize mI σ1 71 4 0 = σ2 at *
    obtain ⟨σ3, s1, s6, s7, s8, s4, s5, s587, sr, s58, s2⟩ := s_X1_otherwise w hw a1 σ2
    rw [s1, e_bvS]
    have fl2 : FL σ σ3 := fl1.trans ⟨fun r hr => sr r (by omega) (by omega), fun r _ _ => by rw [s2]⟩
    -- the reference behind the trial
    have key : ∀ μ3 : MSt, q_A nb dn 58 σ3 1 μ3.1 → FN 1 μ2 μ3 → ∃ r σ1 μ1, (k_bd (f_X1_adriftOf (nI n) σ3) fun q4 σ3 => some (q4, σ3)) = some (r, σ1) ∧ f_X12_tried_b92 (nI n) μ3 = some (r, μ1) ∧ RR σ1 μ1 := by
      intro μ3 A3 fn
      have fn1 : FN 1 μ1 μ3 := (FN.ofA p4).trans fn
      have T3 : q_TX nb nl nd nw nk σ3.1 μ3.1 := T1.eq (fun r _ _ => fl2.1 r (by omega)) (fun r _ _ => fn1.1 r (by omega) (by omega))
      have v46 : μ3.1 0 46 = nI w := by rw [fn1.2.2.2 46 (by omega) (by omega)]; exact u46
      have v47 : μ3.1 0 47 = a1 := by rw [fn1.2.2.2 47 (by omega) (by omega)]; exact u47
      have v48 : μ3.1 0 48 = -1 := by rw [fn1.2.2.2 48 (by omega) (by omega), u0 48 (by omega) (by omega)]; exact hr.2.2.1
      have v50 : μ3.1 0 50 = -1 := by rw [fn1.2.2.2 50 (by omega) (by omega), u0 50 (by omega) (by omega)]; exact hr.2.2.2
      have wn : ∀ k, k < 2 ^ 31 → (nI w = nI k ↔ w = k) := fun k hk => nI_eq (by omega) hk
      have OP : q_OP nd σ3 μ3 := by
        refine ⟨fun i hi => ?_, fun i hi => ?_⟩
        · unfold q_joy
          obtain ⟨-, -, k, -, p, q⟩ := T3.deed i hi
          rw [v46, v48, if_neg (q_n1 (show i < 2 ^ 31 by omega)), s7, p, q]
          by_cases c : w = 3
          · subst c; rfl
          · rw [if_neg (show ¬ nI w = (3 : Int32) from fun q => c ((wn 3 (by omega)).mp q)), if_neg c, if_pos rfl]
        · rw [s8, v46, v47]
          by_cases c : w = 2
          · subst c; rw [if_pos rfl]; exact ⟨fun q => ⟨rfl, q⟩, fun q => q.2⟩
          · rw [if_neg c]
            exact ⟨fun q => absurd q (q_n1 (by omega)), fun q => absurd ((wn 2 (by omega)).mp q.1) c⟩
      have hg : ∀ e, e < 2 ^ 30 → q_gM μ3 e = if σ3.1 71 6 = 0 then q_gC σ3.1 nw e else 0 := by
        intro e he
        rw [s6]
        unfold q_gM
        rw [v46, v50]
        by_cases c : w = 1
        · subst c; rfl
        · rw [if_neg (show ¬ nI w = (1 : Int32) from fun q => c ((wn 1 (by omega)).mp q)), if_pos rfl, if_neg c, if_pos rfl]
          have l4 := T3.le.2.2.2.1
          unfold q_gC
          rw [T3.nwM]
          by_cases c : e < nw
          · obtain ⟨k, -, e1, e2⟩ := T3.wind e c
            rw [if_pos (nI_lt c (by omega)), if_pos c, e1, e2]
          · rw [if_neg (nI_nlt (by omega) (by omega)), if_neg c]
      obtain ⟨σ', μ', y1, y2, y3, y4, y5⟩ := q_adrift_l n (by omega) (σ3.1 58 10) n FU FU 0 dn σ3 μ3 (by omega) (by unfold FU; omega) (by unfold FU; omega) (by omega) T3 A3 OP (by rw [s4]; exact q4) (by rw [s5, q71 5 (by omega)]; exact o5) hg
      unfold f_X1_adriftOf f_X12_tried_b92
      have y1' : f_X1_adriftOf_b10 FU (nI n) (σ3.1 58 10) 0 σ3 = _ := y1
      have y2' : f_X12_tried_b95 FU (nI n) 0 μ3 = _ := y2
      rw [e_nm, y1', e_bdS, y2']
      have fn2 : FN 1 μ1 μ' := fn1.trans y5
      refine ⟨_, _, mI (mI μ' 0 46 0) 0 47 (-1), rfl, ?_, hk.fr (fl2.trans (FL.ofP y4)) ?_⟩
      · have z0 : μ'.1 23 0 = σ3.1 58 10 := by rw [y5.2.1 23 (by omega) (by omega) 0 (by omega), fn.2.1 23 (by omega) (by omega) 0 (by omega), p7, ← b10, s58 10 (by omega)]
        rw [z0, y3.2.2.2.2.2.2.1.2.1]
      · refine ⟨fun r hr' => ?_, fun r x y i p q => ?_, fun r x y i p => ?_, fun j h1 h2 h3 h4 => ?_⟩
        · rw [m_Ir _ _ _ _ (by omega), m_Ir _ _ _ _ (by omega), fn2.1 r (by omega) (by omega), u1 r (by omega)]
        · rw [m_Ir _ _ _ _ (by omega), m_Ir _ _ _ _ (by omega), fn2.2.1 r x y i (by omega), u1 r (by omega)]
        · rw [m_Ir _ _ _ _ (by omega), m_Ir _ _ _ _ (by omega), fn2.2.2.1 r x y i (by omega), u1 r (by omega)]
        · by_cases c : j = 46
          · subst c; rw [hr.1]; simp [m_I]
          · by_cases c' : j = 47
            · subst c'; rw [hr.2.1]; simp [m_I]
            · rw [m_I, if_neg (by omega), m_I, if_neg (by omega), fn2.2.2.2 j h2 h4, u0 j c c']
    by_cases c4 : w < 4
    · rw [if_pos (show nI w < (4 : Int32) from nI_lt (a := w) (b := 4) c4 (by decide))]
      refine key μ2 ?_ FN.rf
      unfold q_A
      rw [s2]
      refine q_AN.cg A2 ?_ ?_ (fun _ _ _ => rfl) (fun _ _ _ _ _ => rfl)
      · intro j h1 h2 h3
        by_cases c : j = 7
        · subst c; rw [s587, if_neg (by omega), if_neg (by omega)]
        · exact s58 j c
      · intro b hb; rw [sr (58 + 1) (by omega) (by omega), sr (58 + 2) (by omega) (by omega), sr (58 + 3) (by omega) (by omega)]; exact ⟨rfl, rfl, rfl⟩
    · rw [if_neg (show ¬ nI w < (4 : Int32) from nI_nlt (a := w) (b := 4) (by omega) (by omega))]
      unfold f_X12_tried_b91
      have c1 : ((1 : Int32)).toNatClampNeg = 1 := by decide
      simp only [e_ck (show k_inb (1 : Int32) 24 = true by decide), e_nm, c1]
      by_cases c : w = 4
      · subst c
        rw [if_pos (show nI 4 = (4 : Int32) from rfl)]
        exact key _ (q_A_cp A2 1 (Or.inr rfl) (by rw [s587]; rfl) s58 (fun r _ _ => sr r (by omega) (by omega)) s2) (FN.m1 1 _ 21 _ (by omega))
      · have c5 : w = 5 := by omega
        subst c5
        rw [if_neg (by decide)]
        exact key _ (q_A_cp A2 0 (Or.inl rfl) (by rw [s587]; rfl) s58 (fun r _ _ => sr r (by omega) (by omega)) s2) (FN.m1 1 _ 21 _ (by omega))
  -- the tests
  have rng : ∀ (w : Nat), w ≤ 5 → (w = 2 → ∃ x, x < nd ∧ a1 = nI x) → ∃ r σ1 μ1, (if nI w < 0 then f_X11_tried_b51 σ else if (5 : Int32) < nI w then f_X11_tried_b51 σ else if (1 : Int32) = 0 then f_X11_tried_b51 σ else if a2 < 0 then f_X11_tried_b51 σ else if a2 ≤ 60 then (k_bv (f_X1_asItGoes σ) fun σ1 => k_bv (f_X1_otherwise (nI w) a1 σ1) fun σ2 => k_bd (f_X1_adriftOf a2 σ2) fun q4 σ3 => some (q4, σ3)) else f_X11_tried_b51 σ) = some (r, σ1) ∧ f_X12_tried_b36 (nI w) a1 a2 1 μ0 = some (r, μ1) ∧ RR σ1 μ1 := by
    intro w hw hx
    unfold f_X12_tried_b36
    rw [if_neg (nI_pos (by omega)), if_neg (show ¬ (5 : Int32) < nI w from nI_nlt (a := 5) (b := w) (by omega) (by decide)), if_neg q_t10, if_neg q_t10]
    by_cases c1 : a2 < 0
    · rw [if_pos c1, if_pos c1]; exact no _ _ rfl rfl
    · rw [if_neg c1, if_neg c1]
      by_cases c2 : a2 ≤ 60
      · rw [if_pos c2, if_pos c2]
        obtain ⟨n, hn, rfl⟩ := nI_of2 (M := 60) (n := 60) (by decide) c1 c2
        exact good w n hw hn hx
      · rw [if_neg c2, if_neg c2]; exact no _ _ rfl rfl
  have bad : ∀ w : Int32, f_X11_tried_b25 w a1 a2 0 σ = some (-1, σ) := by
    intro w
    unfold f_X11_tried_b25 f_X11_tried_b51
    split
    · rfl
    · split
      · rfl
      · rw [if_pos rfl]
  by_cases c2 : a0 = 2
  · subst c2
    rw [if_pos rfl, if_pos rfl, s_X0_hasDeed 10 a1 σ nd T.ndC hnd, s_X12_isDeed a1 _ nd T.ndM hnd, e_bdS, e_bdS]
    by_cases c : 0 ≤ a1.toInt ∧ a1.toInt < nd
    · rw [if_pos c]
      unfold f_X11_tried_b25
      exact rng 2 (by omega) (fun _ => q_of c (by omega))
    · rw [if_neg c, bad]
      unfold f_X12_tried_b36
      rw [if_pos rfl]
      exact no _ _ rfl rfl
  · rw [if_neg c2, if_neg c2]
    by_cases d1 : a0 < 0
    · rw [if_pos d1]
      refine no _ _ ?_ rfl
      unfold f_X11_tried_b25
      rw [if_pos d1]
      split
      · rfl
      · rfl
    · rw [if_neg d1]
      by_cases d2 : 5 < a0
      · rw [if_pos d2]
        refine no _ _ ?_ rfl
        unfold f_X11_tried_b25
        rw [if_neg d1, if_pos d2]
        split
        · rfl
        · rfl
      · rw [if_neg d2]
        obtain ⟨w, hw, rfl⟩ := nI_of2 (M := 5) (n := 5) (by decide) d1 (Int32.not_lt.mp d2)
        by_cases d3 : a1 = 0
        · rw [if_pos d3, if_pos d3]
          unfold f_X11_tried_b25
          exact rng w hw (fun e => absurd (by rw [e]; rfl) c2)
        · rw [if_neg d3, if_neg d3, bad]
          exact no _ _ rfl rfl
