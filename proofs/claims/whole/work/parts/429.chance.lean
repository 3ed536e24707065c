/-- frame of days by chance: as FN 1, the wind drawn set apart -/
def FW (μ μ' : MSt) : Prop := (∀ r, 0 < r → (r < 17 ∨ 28 < r) → μ'.1 r = μ.1 r) ∧ (∀ r, 16 < r → r < 26 → ∀ i, i ≠ 1 → μ'.1 r i = μ.1 r i) ∧ (∀ r, 25 < r → r < 29 → ∀ i, (i < 8 ∨ 15 < i) → μ'.1 r i = μ.1 r i) ∧ ∀ j, j ≠ 31 → j ≠ 50 → (j < 51 ∨ 53 < j) → μ'.1 0 j = μ.1 0 j
theorem FW.rf {μ : MSt} : FW μ μ := ⟨fun _ _ _ => rfl, fun _ _ _ _ _ => rfl, fun _ _ _ _ _ => rfl, fun _ _ _ _ => rfl⟩
theorem FW.trans {μ μ1 μ2 : MSt} (h : FW μ μ1) (h2 : FW μ1 μ2) : FW μ μ2 := ⟨fun r x y => (h2.1 r x y).trans (h.1 r x y), fun r x y i p => (h2.2.1 r x y i p).trans (h.2.1 r x y i p), fun r x y i p => (h2.2.2.1 r x y i p).trans (h.2.2.1 r x y i p), fun j x y z => (h2.2.2.2 j x y z).trans (h.2.2.2 j x y z)⟩
theorem FW.ofN {μ μ' : MSt} {v : Int32} (h : FN 1 (mI μ 0 50 v) μ') : FW μ μ' := by
  refine ⟨fun r x y => ?_, fun r x y i p => ?_, fun r x y i p => ?_, fun j x y z => ?_⟩
  · rw [h.1 r x y, m_Ir _ _ _ _ (by omega)]
  · rw [h.2.1 r x y i p, m_Ir _ _ _ _ (by omega)]
  · rw [h.2.2.1 r x y i (by omega), m_Ir _ _ _ _ (by omega)]
  · rw [h.2.2.2 j x z, m_I, if_neg (by omega)]
theorem q_chance_i {nb nl nd nw nk : Nat} (N : Nat) (hN : N ≤ 60) (x2 x3 x5 x6 : Int32) (r41 : Int32 → Int32 → Int32 → Int32 → Int32 → MSt → Option (Int32 × MSt)) : ∀ (k n1 n2 i d : Nat) (σ μ : MSt), i + k = N → k < n1 → k < n2 → d + k ≤ 20000 → q_TX nb nl nd nw nk σ.1 μ.1 → q_A nb d 58 σ 1 μ.1 → q_OP nd σ μ → σ.1 71 4 = 1 → σ.1 71 5 = 1 → ¬ μ.1 0 46 = 1 → ∃ σ' μ', f_X1_adriftOf_b10 n1 (nI N) x2 (nI i) σ = some (σ'.1 58 10 - x2, σ') ∧ f_X12_chance_b65 r41 n2 (nI N) x3 x5 x6 (nI i) μ = (if x3 < μ'.1 23 1 - μ'.1 23 0 then f_X12_chance_b131 r41 (nI N) x3 (μ'.1 25 1) x6 x5 0 (mI μ' 0 50 (-1)) else f_X12_chance_b131 r41 (nI N) x3 (μ'.1 25 1) x6 x5 1 (mI μ' 0 50 (-1))) ∧ q_A nb (d + k) 58 σ' 1 μ'.1 ∧ FP 58 σ σ' ∧ FW μ μ' := by
  intro k
  induction k with
  | zero =>
    intro n1 n2 i d σ μ h1 h2 h3 hd T A OP o4 o5 h46
    obtain ⟨n1, rfl⟩ : ∃ z, n1 = z + 1 := ⟨n1 - 1, by omega⟩
    obtain ⟨n2, rfl⟩ : ∃ z, n2 = z + 1 := ⟨n2 - 1, by omega⟩
    have c1 : ((1 : Int32)).toNatClampNeg = 1 := by decide
    refine ⟨σ, μ, ?_, ?_, A, FP.rf, FW.rf⟩
    · show f_X1_adriftOf_b10_s (f_X1_adriftOf_b10 n1) (nI N) x2 (nI i) σ = _
      unfold f_X1_adriftOf_b10_s
      rw [if_pos (nI_le (by omega) (by omega))]
    · show f_X12_chance_b65_s r41 (f_X12_chance_b65 r41 n2) (nI N) x3 x5 x6 (nI i) μ = _
      unfold f_X12_chance_b65_s
      simp only [e_nm]
      rw [if_pos (nI_le (by omega) (by omega)), e_ck (by decide), e_ck (by decide), e_ck (by decide), c_0, c1, m_Ir _ _ _ _ (by omega), m_Ir _ _ _ _ (by omega)]
  | succ k ih =>
    intro n1 n2 i d σ μ h1 h2 h3 hd T A OP o4 o5 h46
    obtain ⟨n1, rfl⟩ : ∃ z, n1 = z + 1 := ⟨n1 - 1, by omega⟩
    obtain ⟨n2, rfl⟩ : ∃ z, n2 = z + 1 := ⟨n2 - 1, by omega⟩
    obtain ⟨σ1, μ1, q, μa, x1, xd, x2', x3', x4, x5'⟩ := q_passC (o := 58) (a := 1) (by omega) (by omega) (by omega) T A OP 1 o4 o5 h46
    have xd' : f_X12_draw 1 10 μ = some (q, μa) := xd
    have x2' : f_X12_passes 1 1 (mI μa 0 50 q) = some μ1 := x2'
    have fw : FW μ μ1 := FW.ofN x5'
    have e71 : σ1.1 71 = σ.1 71 := x4.1 71 (by omega) (by omega)
    obtain ⟨σ', μ', y1, y2, y3, y4, y5⟩ := ih n1 n2 (i + 1) (d + 1) σ1 μ1 (by omega) (by omega) (by omega) (by omega) (T.eq (fun r _ _ => x4.1 r (by omega) (by omega)) (fun r _ _ => fw.1 r (by omega) (by omega))) x3' (OP.fr e71 (x4.1 15 (by omega) (by omega)) (fun j _ _ => fw.2.2.2 j (by omega) (by omega) (by omega)) (fw.1 9 (by omega) (by omega))) (by rw [e71]; exact o4) (by rw [e71]; exact o5) (by rw [fw.2.2.2 46 (by omega) (by omega) (by omega)]; exact h46)
    refine ⟨σ', μ', ?_, ?_, ?_, x4.trans y4, fw.trans y5⟩
    · show f_X1_adriftOf_b10_s (f_X1_adriftOf_b10 n1) (nI N) x2 (nI i) σ = _
      unfold f_X1_adriftOf_b10_s
      rw [if_neg (nI_ge (by omega) (by omega)), x1, e_bvS, e_nm, nI_1]
      exact y1
    · show f_X12_chance_b65_s r41 (f_X12_chance_b65 r41 n2) (nI N) x3 x5 x6 (nI i) μ = _
      unfold f_X12_chance_b65_s
      rw [if_neg (nI_ge (by omega) (by omega)), xd', e_bdS, e_nm, x2', e_bvS, e_nm, nI_1]
      exact y2
    · rw [show d + (k + 1) = d + 1 + k by omega]
      exact y3
theorem q_chance_l {nb nl nd nw nk dn : Nat} (hdn : dn ≤ 9900) (N : Nat) (hN : N ≤ 60) (x3 : Int32) : ∀ (k n1 n2 t w : Nat) (g : Int32) (σ μ : MSt), t + k = 10 → k < n1 → k < n2 → w < 2 ^ 31 → q_TX nb nl nd nw nk σ.1 μ.1 → q_A nb dn 50 σ 0 μ.1 → q_rest μ.1 → ∃ r σ' μ', f_X11_chance_b37 n1 (nI N) x3 g (lN w) (nI t) σ = some (r, σ') ∧ f_X12_chance_b41 n2 (nI N) x3 (nI w) g (nI t) μ = some (r, μ') ∧ FL σ σ' ∧ FX μ μ' := by
  intro k
  induction k with
  | zero =>
    intro n1 n2 t w g σ μ h1 h2 h3 hw T A hr
    obtain ⟨n1, rfl⟩ : ∃ z, n1 = z + 1 := ⟨n1 - 1, by omega⟩
    obtain ⟨n2, rfl⟩ : ∃ z, n2 = z + 1 := ⟨n2 - 1, by omega⟩
    have ht : t = 10 := by omega
    subst ht
    exact ⟨g, σ, μ, rfl, rfl, FL.rf, FX.rf⟩
  | succ k ih =>
    intro n1 n2 t w g σ μ h1 h2 h3 hw T A hr
    obtain ⟨n1, rfl⟩ : ∃ z, n1 = z + 1 := ⟨n1 - 1, by omega⟩
    obtain ⟨n2, rfl⟩ : ∃ z, n2 = z + 1 := ⟨n2 - 1, by omega⟩
    show ∃ r σ' μ', f_X11_chance_b37_s (f_X11_chance_b37 n1) (nI N) x3 g (lN w) (nI t) σ = some (r, σ') ∧ f_X12_chance_b41_s (f_X12_chance_b41 n2) (nI N) x3 (nI w) g (nI t) μ = some (r, μ') ∧ _
    unfold f_X11_chance_b37_s f_X12_chance_b41_s
    rw [if_neg (show ¬ (10 : Int32) ≤ nI t from nI_ge (a := t) (b := 10) (by omega) (by decide)), if_neg (show ¬ (10 : Int32) ≤ nI t from nI_ge (a := t) (b := 10) (by omega) (by decide))]
    obtain ⟨σ1, μ1, p1, p2, p3, p4, p5, p6, p7, o4, o5, o6, o7, o8⟩ := q_trial T A
    unfold f_X1_byChance
    rw [p1, e_bvS, e_nm, e_nm, e_bvS, p2, e_bvS, e_ck (by decide), e_nm]
    have c1 : ((1 : Int32)).toNatClampNeg = 1 := by decide
    rw [c1]
    have q0 : ∀ r, r ≠ 71 → (mJ (mI σ1 71 5 1) 58 8 (lN w)).1 r = σ1.1 r := fun r hr => m_Ir _ _ _ _ hr
    have q71 : ∀ j, j ≠ 5 → (mJ (mI σ1 71 5 1) 58 8 (lN w)).1 71 j = σ1.1 71 j := fun j hj => by rw [m_J1, m_I, if_neg (by omega)]
    have q5 : (mJ (mI σ1 71 5 1) 58 8 (lN w)).1 71 5 = 1 := by rw [m_J1, m_I]; simp
    have fl : FL σ (mJ (mI σ1 71 5 1) 58 8 (lN w)) := (p3.trans (FL.mI _ _ _ _ (by omega))).trans ⟨fun _ _ => rfl, fun r _ y => m_Jr _ _ _ _ y⟩
    have A2 : q_A nb dn 58 (mJ (mI σ1 71 5 1) 58 8 (lN w)) 1 (mI μ1 25 1 (nI w)).1 := by
      have B : q_A nb dn 58 (mI σ1 71 5 1) 1 μ1.1 := p5.eq (fun r _ _ => m_Ir _ _ _ _ (by omega)) rfl (fun _ _ _ => rfl) (fun _ _ _ _ _ => rfl)
      exact q_A_draw B w hw
    generalize mJ (mI σ1 71 5 1) 58 8 (lN w) = σ2 at *
    have fx1 : FX μ (mI μ1 25 1 (nI w)) := (FX.ofA p4).trans (FX.ofN (FN.m1 1 _ 25 _ (by omega)))
    have v23 : (mI μ1 25 1 (nI w)).1 23 0 = σ2.1 58 10 := by rw [m_Ir _ _ _ _ (by omega), p7, q0 58 (by omega)]
    generalize mI μ1 25 1 (nI w) = μ2 at *
    have T2 := T.fr fl fx1
    have hr2 := hr.FX fx1
    obtain ⟨σ', μ', y1, y2, y3, y4, y5⟩ := q_chance_i N hN (σ2.1 58 10) x3 g (nI t) (f_X12_chance_b41 n2) N FU FU 0 dn σ2 μ2 (by omega) (by unfold FU; omega) (by unfold FU; omega) (by omega) T2 A2 (q_OP_told T2 hr2 rfl (by rw [q71 7 (by omega)]; exact o7) (by rw [q71 8 (by omega)]; exact o8)) (by rw [q71 4 (by omega)]; exact o4) q5 (by rw [hr2.1]; decide)
    have y1' : f_X1_adriftOf_b10 FU (nI N) (σ2.1 58 10) 0 σ2 = _ := y1
    have y2' : f_X12_chance_b65 (f_X12_chance_b41 n2) FU (nI N) x3 g (nI t) 0 μ2 = _ := y2
    unfold f_X1_adriftOf
    rw [e_nm, y1', e_bdS, y2', y5.2.1 23 (by omega) (by omega) 0 (by omega), v23, ← y3.2.2.2.2.2.2.1.2.1]
    obtain ⟨w', hw', z1, z2⟩ := y3.2.2.2.2.2.2.2.1
    have fl2 : FL σ σ' := fl.trans (FL.ofP y4)
    have fx2 : FX μ (mI μ' 0 50 (-1)) := by
      refine fx1.trans ⟨fun r hr' => ?_, fun r x y i p q => ?_, fun r x y i p => ?_, fun j h1 h2 h3 h4 => ?_⟩
      · rw [m_Ir _ _ _ _ (by omega), y5.1 r (by omega) (by omega)]
      · rw [m_Ir _ _ _ _ (by omega), y5.2.1 r x y i p]
      · rw [m_Ir _ _ _ _ (by omega), y5.2.2.1 r x y i (by omega)]
      · by_cases c : j = 50
        · subst c; rw [hr2.2.2.2]; simp [m_I]
        · rw [m_I, if_neg (by omega), y5.2.2.2 j h2 c h4]
    have nx : ∀ g', ∃ r σ'' μ'', f_X11_chance_b68 (f_X11_chance_b37 n1) (nI N) x3 g' (nI t) σ' = some (r, σ'') ∧ f_X12_chance_b41 n2 (nI N) x3 (μ'.1 25 1) g' (nI (t + 1)) (mI μ' 0 50 (-1)) = some (r, μ'') ∧ FL σ σ'' ∧ FX μ μ'' := by
      intro g'
      unfold f_X11_chance_b68
      rw [e_nm, e_nm, nI_1, z2, z1]
      obtain ⟨r, σ'', μ'', a1, a2, a3, a4⟩ := ih n1 n2 (t + 1) w' g' σ' (mI μ' 0 50 (-1)) (by omega) (by omega) (by omega) hw' (T.fr fl2 fx2) (A.fr fl2 fx2) (hr.FX fx2)
      exact ⟨r, σ'', μ'', a1, a2, fl2.trans a3, fx2.trans a4⟩
    unfold f_X12_chance_b131
    by_cases c : x3 < σ'.1 58 10 - σ2.1 58 10
    · rw [if_pos c, if_pos c, e_nm, e_nm, nI_1, Int32.add_zero]
      exact nx g
    · rw [if_neg c, if_neg c]
      simp only [e_nm]
      rw [nI_1]
      exact nx (g + 1)
theorem sim_chance : Sim_chance RR := by
  intro σ μ a0 a1 a2 h
  have hk := h.thr
  unfold f_X11_chance f_X12_chance f_X11_chance_b25 f_X12_chance_b30
  simp only [e_nm]
  generalize mI μ 0 0 0 = μ0 at hk
  obtain ⟨nb, nl, nd, nw, nk, dn, T, hdn, A, I, N, O, P, F, W, hr⟩ := id hk
  by_cases c1 : a0 < 0
  · rw [if_pos c1, if_pos c1]; exact ⟨_, _, _, rfl, rfl, hk⟩
  rw [if_neg c1, if_neg c1]
  by_cases c2 : a1 < 1
  · rw [if_pos c2, if_pos c2]; exact ⟨_, _, _, rfl, rfl, hk⟩
  rw [if_neg c2, if_neg c2]
  by_cases c3 : 60 < a1
  · rw [if_pos c3, if_pos c3]; exact ⟨_, _, _, rfl, rfl, hk⟩
  rw [if_neg c3, if_neg c3]
  by_cases c4 : a2 < 0
  · rw [if_pos c4, if_pos c4]; exact ⟨_, _, _, rfl, rfl, hk⟩
  rw [if_neg c4, if_neg c4]
  by_cases c5 : a2 ≤ 60
  · rw [if_pos c5, if_pos c5]
    obtain ⟨w, hw, rfl⟩ := nI_of c1
    have c0 : ¬ a1 < 0 := by
      intro q
      exact c2 (Int32.lt_iff_toInt_lt.mpr (by have := Int32.lt_iff_toInt_lt.mp q; rw [t_0] at this; rw [t_1]; omega))
    obtain ⟨n, hn, rfl⟩ := nI_of2 (M := 60) (n := 60) (by decide) c0 (Int32.not_lt.mp c3)
    obtain ⟨r, σ', μ', y1, y2, y3, y4⟩ := q_chance_l hdn n hn a2 10 FU FU 0 w 0 σ μ0 (by omega) (by unfold FU; omega) (by unfold FU; omega) hw T A hr
    rw [nI_l hw]
    exact ⟨r, σ', μ', y1, y2, hk.fr y3 y4⟩
  · rw [if_neg c5, if_neg c5]; exact ⟨_, _, _, rfl, rfl, hk⟩
