theorem q_some2 {a b : Int32} {s s' : MSt} (h : some (a, s) = some (b, s')) : a = b := (Prod.mk.inj (Option.some.inj h)).1
theorem q_pl_1 : ∀ (k n i : Nat) (σ : MSt), i + k = 488 → k < n → ∃ σ', f_X10_plan_b2 n (nI i) σ = f_X10_plan_b35 FU 0 σ' ∧ (∀ j, i ≤ j → j < 488 → σ'.1 76 j = 1000 ∧ σ'.1 77 j = 0) ∧ (∀ j, j < i → σ'.1 76 j = σ.1 76 j ∧ σ'.1 77 j = σ.1 77 j) ∧ (∀ r, r ≠ 76 → r ≠ 77 → σ'.1 r = σ.1 r) ∧ σ'.2 = σ.2 := by
  intro k
  induction k with
  | zero =>
    intro n i σ h1 h2
    obtain ⟨n, rfl⟩ : ∃ z, n = z + 1 := ⟨n - 1, by omega⟩
    have hi : i = 488 := by omega
    subst hi
    exact ⟨σ, rfl, fun j a b => by omega, fun _ _ => ⟨rfl, rfl⟩, fun _ _ _ => rfl, rfl⟩
  | succ k ih =>
    intro n i σ h1 h2
    obtain ⟨n, rfl⟩ : ∃ z, n = z + 1 := ⟨n - 1, by omega⟩
    have ki : k_inb (nI i) 488 = true := e_in (by omega) (by decide)
    show ∃ σ', f_X10_plan_b2_s (f_X10_plan_b2 n) (nI i) σ = _ ∧ _
    unfold f_X10_plan_b2_s
    rw [if_neg (show ¬ (488 : Int32) ≤ nI i from nI_ge (a := i) (b := 488) (by omega) (by decide)), e_ck ki, e_nm, e_ck ki, e_nm, e_nm, nI_1, nI_clamp (by omega)]
    obtain ⟨σ', y1, y2, y3, y4, y5⟩ := ih n (i + 1) (mI (mI σ 76 i 1000) 77 i 0) (by omega) (by omega)
    refine ⟨σ', y1, fun j a b => ?_, fun j hj => ?_, fun r a b => by rw [y4 r a b, m_Ir _ _ _ _ b, m_Ir _ _ _ _ a], by rw [y5]; rfl⟩
    · by_cases e : j = i
      · subst e; rw [(y3 j (by omega)).1, (y3 j (by omega)).2]; simp [m_I]
      · exact y2 j (by omega) b
    · rw [(y3 j (by omega)).1, (y3 j (by omega)).2]
      constructor
      · rw [m_Ir _ _ _ _ (by omega), m_I, if_neg (by omega)]
      · rw [m_I, if_neg (by omega), m_Ir _ _ _ _ (by omega)]
theorem q_pl_2 : ∀ (k n i : Nat) (σ : MSt), i + k = 8 → k < n → ∃ σ', f_X10_plan_b35 n (nI i) σ = (if σ'.1 50 5 = -1 then f_X10_plan_b97 0 σ' else f_X10_plan_b97 (k_max 0 (σ'.1 50 6 - σ'.1 50 3)) σ') ∧ (∀ j, i ≤ j → j < 8 → σ'.1 74 j = -1) ∧ (∀ j, j < i → σ'.1 74 j = σ.1 74 j) ∧ (∀ r, r ≠ 74 → r ≠ 75 → σ'.1 r = σ.1 r) ∧ σ'.2 = σ.2 := by
  intro k
  induction k with
  | zero =>
    intro n i σ h1 h2
    obtain ⟨n, rfl⟩ : ∃ z, n = z + 1 := ⟨n - 1, by omega⟩
    have hi : i = 8 := by omega
    subst hi
    refine ⟨σ, ?_, fun j a b => by omega, fun _ _ => rfl, fun _ _ _ => rfl, rfl⟩
    show f_X10_plan_b35_s (f_X10_plan_b35 n) (nI 8) σ = _
    unfold f_X10_plan_b35_s
    rw [if_pos (show (8 : Int32) ≤ nI 8 by decide)]
  | succ k ih =>
    intro n i σ h1 h2
    obtain ⟨n, rfl⟩ : ∃ z, n = z + 1 := ⟨n - 1, by omega⟩
    have ki : k_inb (nI i) 8 = true := e_in (by omega) (by decide)
    show ∃ σ', f_X10_plan_b35_s (f_X10_plan_b35 n) (nI i) σ = _ ∧ _
    unfold f_X10_plan_b35_s
    rw [if_neg (show ¬ (8 : Int32) ≤ nI i from nI_ge (a := i) (b := 8) (by omega) (by decide)), e_ck ki, e_nm, e_ck ki, e_nm, e_nm, nI_1, nI_clamp (by omega)]
    obtain ⟨σ', y1, y2, y3, y4, y5⟩ := ih n (i + 1) (mI (mI σ 74 i (-1)) 75 i 1000) (by omega) (by omega)
    refine ⟨σ', y1, fun j a b => ?_, fun j hj => ?_, fun r a b => by rw [y4 r a b, m_Ir _ _ _ _ b, m_Ir _ _ _ _ a], by rw [y5]; rfl⟩
    · by_cases e : j = i
      · subst e; rw [y3 j (by omega)]; simp [m_I]
      · exact y2 j (by omega) b
    · rw [y3 j (by omega), m_Ir _ _ _ _ (by omega), m_I, if_neg (by omega)]
theorem q_lw_1 : ∀ (k n i : Nat) (μ : MSt), i + k = 504 → k < n → ∃ μ', f_X12_layWays_b2 n (nI i) μ = f_X12_layWays_b2 1 (nI 504) μ' ∧ (∀ j, i ≤ j → j < 504 → μ'.1 29 j = -1 ∧ μ'.1 30 j = -1) ∧ (∀ j, j < i → μ'.1 29 j = μ.1 29 j ∧ μ'.1 30 j = μ.1 30 j) ∧ (∀ r, r ≠ 29 → r ≠ 30 → μ'.1 r = μ.1 r) := by
  intro k
  induction k with
  | zero =>
    intro n i μ h1 h2
    obtain ⟨n, rfl⟩ : ∃ z, n = z + 1 := ⟨n - 1, by omega⟩
    have hi : i = 504 := by omega
    subst hi
    refine ⟨μ, ?_, fun j a b => by omega, fun _ _ => ⟨rfl, rfl⟩, fun _ _ _ => rfl⟩
    show f_X12_layWays_b2_s (f_X12_layWays_b2 n) (nI 504) μ = f_X12_layWays_b2_s (f_X12_layWays_b2 0) (nI 504) μ
    unfold f_X12_layWays_b2_s
    rw [if_pos (show (504 : Int32) ≤ nI 504 by decide), if_pos (show (504 : Int32) ≤ nI 504 by decide)]
  | succ k ih =>
    intro n i μ h1 h2
    obtain ⟨n, rfl⟩ : ∃ z, n = z + 1 := ⟨n - 1, by omega⟩
    have ki : k_inb (nI i) 504 = true := e_in (by omega) (by decide)
    show ∃ μ', f_X12_layWays_b2_s (f_X12_layWays_b2 n) (nI i) μ = _ ∧ _
    unfold f_X12_layWays_b2_s
    rw [if_neg (show ¬ (504 : Int32) ≤ nI i from nI_ge (a := i) (b := 504) (by omega) (by decide)), e_ck ki, e_nm, e_ck ki, e_nm, e_nm, nI_1, nI_clamp (by omega)]
    obtain ⟨μ', y1, y2, y3, y4⟩ := ih n (i + 1) (mI (mI μ 29 i (-1)) 30 i (-1)) (by omega) (by omega)
    refine ⟨μ', y1, fun j a b => ?_, fun j hj => ?_, fun r a b => by rw [y4 r a b, m_Ir _ _ _ _ b, m_Ir _ _ _ _ a]⟩
    · by_cases e : j = i
      · subst e; rw [(y3 j (by omega)).1, (y3 j (by omega)).2]; simp [m_I]
      · exact y2 j (by omega) b
    · rw [(y3 j (by omega)).1, (y3 j (by omega)).2]
      constructor
      · rw [m_Ir _ _ _ _ (by omega), m_I, if_neg (by omega)]
      · rw [m_I, if_neg (by omega), m_Ir _ _ _ _ (by omega)]
section
variable {nb nl nd nw nk dn : Nat} {σ μ : MSt}
theorem q_plan (T : q_TX nb nl nd nw nk σ.1 μ.1) (A : q_A nb dn 50 σ 0 μ.1) (hr : q_rest μ.1) (hdn : dn ≤ 9900) : ∃ σ' μ', f_X10_plan σ = some σ' ∧ f_X12_layWays μ = some μ' ∧ q_WR nb nd nw dn σ μ σ' μ' := by
  have l := T.le.1
  obtain ⟨σ1, a1, a2, a3, a4, a5⟩ := q_pl_1 488 FU 0 σ (by omega) (by unfold FU; omega)
  obtain ⟨σ2, b1, b2, b3, b4, b5⟩ := q_pl_2 8 FU 0 σ1 (by omega) (by unfold FU; omega)
  obtain ⟨μ1, c1, c2, c3, c4⟩ := q_lw_1 504 FU 0 μ (by omega) (by unfold FU; omega)
  have a1' : f_X10_plan σ = f_X10_plan_b35 FU 0 σ1 := a1
  have b1' : f_X10_plan_b35 FU 0 σ1 = _ := b1
  have c1' : f_X12_layWays μ = f_X12_layWays_b2_s (f_X12_layWays_b2 0) (nI 504) μ1 := c1
  have fr : ∀ r, (r < 74 ∨ 77 < r) → σ2.1 r = σ.1 r := fun r hr' => by rw [b4 r (by omega) (by omega), a4 r (by omega) (by omega)]
  have fl : FL σ σ2 := ⟨fun r hr' => fr r (by omega), fun r _ _ => by rw [b5, a5]⟩
  have fx : FX μ μ1 := ⟨fun r hr' => c4 r (by omega) (by omega), fun r _ _ i _ _ => by rw [c4 r (by omega) (by omega)], fun r _ _ i _ => by rw [c4 r (by omega) (by omega)], fun j _ _ _ _ => by rw [c4 0 (by omega) (by omega)]⟩
  have W0 : q_WR nb nd nw dn σ μ σ2 μ1 := by
    refine ⟨fl, fx, fun d b hd hb => Or.inl ⟨?_, (c2 _ (by omega) (by omega)).1⟩, fun b hb => Or.inl ⟨b2 b (by omega) (by omega), fun d hd => (c2 _ (by omega) (by omega)).2⟩, fun d b hd hb => Or.inl (c2 _ (by omega) (by omega)).2, fun d b hd hb => Or.inl ?_⟩
    · rw [b4 76 (by omega) (by omega)]; exact (a2 _ (by omega) (by omega)).1
    · rw [b4 77 (by omega) (by omega)]; exact (a2 _ (by omega) (by omega)).2
  have e50 : σ2.1 50 = σ.1 50 := fr 50 (by omega)
  rw [a1', b1', c1', e50]
  unfold f_X12_layWays_b2_s
  rw [if_pos (show (504 : Int32) ≤ nI 504 by decide), e_ck q_i18, c_0, c4 2 (by omega) (by omega), T.nbM]
  by_cases h0 : nb = 0
  · subst h0
    rw [if_pos (show nI 0 = 0 from rfl)]
    obtain ⟨-, -, -, -, -, -, -, -, a9⟩ := id A
    have p1 : σ.1 50 5 = -1 ∧ σ.1 50 4 = -1 := by
      rcases a9 with ⟨p1, p2, p3, p4⟩ | ⟨b, e, p1, -⟩
      · refine ⟨p1, ?_⟩
        rcases p4 with q | ⟨b, hb, -⟩
        · exact q.2
        · omega
      · omega
    obtain ⟨σ', μ', y1, -, y3⟩ := q_day_o T A hr hdn 61 FU FU 0 σ2 μ1 (by omega) (by unfold FU; omega) (by unfold FU; omega) W0
    have y1' : f_X10_plan_b120 FU 0 σ2 = some σ' := y1
    refine ⟨σ', μ1, ?_, rfl, y3.1, fx, fun d b _ hb => by omega, fun b hb => by omega, fun d b _ hb => by omega, fun d b _ hb => by omega⟩
    rw [if_pos p1.1]
    unfold f_X10_plan_b97 f_X10_startBay f_X10_startBay_b28
    rw [e50, p1.1, p1.2, if_pos rfl, e_bdS]
    have e1 : f_X10_reach (-1) 0 0 σ2 = some σ2 := rfl
    have e2 : f_X10_wake (-1) 0 0 σ2 = some σ2 := rfl
    rw [e1, e_bvS, e50, p1.1, p1.2, if_pos rfl, e_bdS, e2, e_bvS, y1']
  · rw [if_neg (nI_ne0 (by omega) (by omega))]
    have k24 : k_inb (0 : Int32) 24 = true := by decide
    obtain ⟨st, hst, hs, -⟩ := q_start T A (by omega)
    -- from the first day on
    have fin : ∀ (e : Nat), e ≤ 9 → ∃ σ' μ', f_X10_plan_b97 (nI e) σ2 = some σ' ∧ f_X12_layWays_b134 (mI (mI μ1 30 (8 * e + st) 0) 29 (8 * e + st) 0) = some μ' ∧ q_WR nb nd nw dn σ μ σ' μ' := by
      intro e he
      obtain ⟨σ3, r1, W1⟩ := q_reach l hdn W0 (by rw [e50]; exact A.1.1) st e 0 hst (by omega) (by omega)
      rw [if_pos (c2 _ (by omega) (by omega)).2] at W1
      obtain ⟨σ4, r2, W2⟩ := q_wake l W1 st e 0 hst (by omega) (by omega)
      have e29 : (mI μ1 30 (8 * e + st) (nI 0)).1 29 (8 * e + st) = -1 := by rw [m_Ir _ _ _ _ (by omega)]; exact (c2 _ (by omega) (by omega)).1
      rw [if_pos e29] at W2
      obtain ⟨σ', μ', y1, y2, y3⟩ := q_day_o T A hr hdn (61 - e) FU (FU - e) e σ4 _ (by omega) (by unfold FU; omega) (by unfold FU; omega) W2
      have sk := q_skip_o (nb := nb) e (by omega) (mI (mI μ1 30 (8 * e + st) (nI 0)) 29 (8 * e + st) (nI 0)) l (by rw [m_Ir _ _ _ _ (by omega), m_Ir _ _ _ _ (by omega), c4 2 (by omega) (by omega)]; exact T.nbM) (fun d b hd hb => by rw [m_I, if_neg (by omega), m_Ir _ _ _ _ (by omega)]; exact (c2 _ (by omega) (by omega)).1) e FU 0 (by omega) (by unfold FU; omega)
      have sk' : f_X12_layWays_b134 (mI (mI μ1 30 (8 * e + st) 0) 29 (8 * e + st) 0) = _ := sk
      refine ⟨σ', μ', ?_, by rw [sk', y2], y3⟩
      have r1' : f_X10_reach (nI st) (nI e) 0 σ2 = some σ3 := r1
      have r2' : f_X10_wake (nI st) (nI e) 0 σ3 = some σ4 := r2
      unfold f_X10_plan_b97
      rw [hs σ2 e50, e_bdS, r1', e_bvS, hs σ3 (by rw [W1.1.1 50 (by omega)]), e_bdS, r2', e_bvS, y1]
    have u : ∀ r, 16 < r → r < 26 → μ1.1 r 0 = μ.1 r 0 := fun r h1 h2 => by rw [c4 r (by omega) (by omega)]
    obtain ⟨x1, x2, x3, x4, x5, x6, x7, x8, x9⟩ := id A
    simp only [e_ck k24]
    rw [u 19 (by omega) (by omega), u 18 (by omega) (by omega), u 20 (by omega) (by omega), u 17 (by omega) (by omega), ← x5.1, ← x5.2, x1.2]
    rcases x9 with ⟨p1, p2, p3, p4⟩ | ⟨b, e, p1, p2, p3, p4, p5⟩
    · have est : μ.1 18 0 = nI st := by
        have := hs σ rfl
        unfold f_X10_startBay f_X10_startBay_b28 at this
        rw [if_pos p1] at this
        rw [← p3, q_some2 this]
      rw [if_pos p1, if_pos p1, est, e_ck (e_in (show st < 504 by omega) (by decide)), nI_clamp (by omega), e_nm, m_Ir _ _ _ _ (show 18 ≠ 30 by omega), u 18 (by omega) (by omega), est, e_ck (e_in (show st < 504 by omega) (by decide)), nI_clamp (by omega), e_nm]
      have := fin 0 (by omega)
      rw [show 8 * 0 + st = st by omega] at this
      exact this
    · have h5 : ¬ σ.1 50 5 = -1 := by rw [p2]; exact q_n1 (by omega)
      have est : nI b = nI st := by
        have := hs σ rfl
        unfold f_X10_startBay f_X10_startBay_b28 at this
        rw [if_neg h5] at this
        rw [← p2, q_some2 this]
      have es : nI (dn + e) - nI dn = nI e := by rw [pk_sub (by omega), show dn + e - dn = e by omega]
      rw [if_neg h5, if_neg h5, p3, x1.1, es, p2, est, q_ix2, e_ck (e_in (show 8 * e + st < 504 by omega) (by decide)), nI_clamp (by omega), e_nm, m_Ir _ _ _ _ (show 20 ≠ 30 by omega), m_Ir _ _ _ _ (show 17 ≠ 30 by omega), m_Ir _ _ _ _ (show 19 ≠ 30 by omega), u 19 (by omega) (by omega), u 20 (by omega) (by omega), u 17 (by omega) (by omega), ← x5.1, ← x5.2, x1.2, p3, es, p2, est, q_ix2, e_ck (e_in (show 8 * e + st < 504 by omega) (by decide)), nI_clamp (by omega), e_nm]
      have em : k_max 0 (nI e) = nI e := by
        unfold k_max
        by_cases z : e = 0
        · subst z; rfl
        · rw [if_pos (show (0 : Int32) < nI e from nI_lt (a := 0) (b := e) (by omega) (by omega))]
      rw [em]
      exact fin e (by omega)
theorem q_first_d (μ : MSt) (b : Nat) (hb : b < 8) (D : Nat) (hD : D ≤ 61) (hlow : ∀ d, d < D → μ.1 30 (8 * d + b) = -1) (hat : D ≤ 60 → ¬ μ.1 30 (8 * D + b) = -1) : ∀ (k n d : Nat), d + k = D → k < n → f_X12_firstDay_b2 n (nI b) (nI d) μ = some (if D ≤ 60 then nI D else -1, μ) := by
  intro k
  induction k with
  | zero =>
    intro n d h1 h2
    obtain ⟨n, rfl⟩ : ∃ z, n = z + 1 := ⟨n - 1, by omega⟩
    have e : d = D := by omega
    subst e
    show f_X12_firstDay_b2_s (f_X12_firstDay_b2 n) (nI b) (nI d) μ = _
    unfold f_X12_firstDay_b2_s
    by_cases c : d ≤ 60
    · rw [if_neg (show ¬ (60 : Int32) < nI d from nI_nlt (a := 60) (b := d) (by omega) (by decide)), q_ix2, e_ck (e_in (by omega) (by decide)), nI_clamp (by omega), if_neg (hat c), if_pos c]
    · rw [if_pos (show (60 : Int32) < nI d from nI_lt (a := 60) (b := d) (by omega) (by omega)), if_neg c]
  | succ k ih =>
    intro n d h1 h2
    obtain ⟨n, rfl⟩ : ∃ z, n = z + 1 := ⟨n - 1, by omega⟩
    show f_X12_firstDay_b2_s (f_X12_firstDay_b2 n) (nI b) (nI d) μ = _
    unfold f_X12_firstDay_b2_s
    rw [if_neg (show ¬ (60 : Int32) < nI d from nI_nlt (a := 60) (b := d) (by omega) (by decide)), q_ix2, e_ck (e_in (by omega) (by decide)), nI_clamp (by omega), if_pos (hlow d (by omega)), e_nm, nI_1]
    exact ih n (d + 1) (by omega) (by omega)
theorem q_fday {σ0 μ0 : MSt} (hnb : nb ≤ 8) (hdn : dn ≤ 9900) (W : q_WR nb nd nw dn σ0 μ0 σ μ) (b : Nat) (hb : b < nb) : (σ.1 74 b = -1 ∧ f_X12_firstDay (nI b) μ = some (-1, μ)) ∨ ∃ d0 m, d0 ≤ 60 ∧ σ.1 74 b = nI (dn + d0) ∧ σ.1 75 b = nI m ∧ μ.1 30 (8 * d0 + b) = nI m ∧ f_X12_firstDay (nI b) μ = some (nI d0, μ) ∧ ¬ σ.1 74 b = -1 := by
  rcases W.2.2.2.1 b hb with ⟨q1, q2⟩ | ⟨d0, m, q0, qm, q1, q2, q3, q4⟩
  · left
    refine ⟨q1, ?_⟩
    have := q_first_d μ b (by omega) 61 (by omega) (fun d hd => q2 d (by omega)) (fun h => by omega) 61 FU 0 (by omega) (by unfold FU; omega)
    exact this
  · right
    refine ⟨d0, m, q0, q1, q2, q3, ?_, by rw [q1]; exact q_n1 (by omega)⟩
    have := q_first_d μ b (by omega) d0 (by omega) q4 (fun _ => by rw [q3]; exact q_n1 (by omega)) d0 FU 0 (by omega) (by unfold FU; omega)
    rw [if_pos q0] at this
    exact this
theorem q_never_l {σ0 μ0 : MSt} (hdn : dn ≤ 9900) (T : q_TX nb nl nd nw nk σ.1 μ.1) (W : q_WR nb nd nw dn σ0 μ0 σ μ) : ∀ (k n1 n2 b : Nat) (x : Int32), b + k = nb → k < n1 → k < n2 → ∃ r, f_X11_never_b11 n1 x (nI b) σ = some (r, σ) ∧ f_X12_never_b13 n2 x (nI b) μ = some (r, μ) := by
  have l := T.le.1
  intro k
  induction k with
  | zero =>
    intro n1 n2 b x h1 h2 h3
    obtain ⟨n1, rfl⟩ : ∃ z, n1 = z + 1 := ⟨n1 - 1, by omega⟩
    obtain ⟨n2, rfl⟩ : ∃ z, n2 = z + 1 := ⟨n2 - 1, by omega⟩
    show ∃ r, f_X11_never_b11_s (f_X11_never_b11 n1) x (nI b) σ = _ ∧ f_X12_never_b13_s (f_X12_never_b13 n2) x (nI b) μ = _
    unfold f_X11_never_b11_s f_X12_never_b13_s f_X11_never_b53
    rw [T.nbC, if_pos (nI_le (by omega) (by omega)), e_ck q_i18, c_0, T.nbM, if_pos (nI_le (by omega) (by omega))]
    exact ⟨x, rfl, rfl⟩
  | succ k ih =>
    intro n1 n2 b x h1 h2 h3
    obtain ⟨n1, rfl⟩ : ∃ z, n1 = z + 1 := ⟨n1 - 1, by omega⟩
    obtain ⟨n2, rfl⟩ : ∃ z, n2 = z + 1 := ⟨n2 - 1, by omega⟩
    have kb : k_inb (nI b) 8 = true := e_in (by omega) (by decide)
    show ∃ r, f_X11_never_b11_s (f_X11_never_b11 n1) x (nI b) σ = _ ∧ f_X12_never_b13_s (f_X12_never_b13 n2) x (nI b) μ = _
    unfold f_X11_never_b11_s f_X12_never_b13_s f_X11_never_b47 f_X12_never_b40
    rw [T.nbC, if_neg (nI_ge (by omega) (by omega)), if_neg (show ¬ (8 : Int32) ≤ nI b from nI_ge (a := b) (b := 8) (by omega) (by decide)), e_ck kb, nI_clamp (by omega), e_ck q_i18, c_0, T.nbM, if_neg (nI_ge (by omega) (by omega))]
    simp only [e_nm, nI_1]
    rcases q_fday l hdn W b (by omega) with ⟨q1, q2⟩ | ⟨d0, m, q0, q1, q2, q3, q4, z⟩
    · rw [if_pos q1, q2, e_bdS, if_pos rfl]
      exact ih n1 n2 (b + 1) _ (by omega) (by omega) (by omega)
    · rw [if_neg z, q4, e_bdS, if_neg (q_n1 (by omega)), show x ||| (0 : Int32) = x from by simp]
      exact ih n1 n2 (b + 1) x (by omega) (by omega) (by omega)
end
theorem sim_way : Sim_way RR := by
  intro σ μ a0 a1 h
  have hk := h.thr
  unfold f_X11_way f_X12_way f_X11_way_b20 f_X12_way_b22 f_X11_way_b70 f_X12_way_b70
  rw [e_nm]
  generalize mI μ 0 0 0 = μ0 at hk
  obtain ⟨nb, nl, nd, nw, nk, dn, T, hdn, A, I, N, O, P, F, W, hr⟩ := id hk
  have l := T.le.1
  rw [s_X0_hasBay 10 a0 σ nb T.nbC l, s_X12_isBay a0 _ nb T.nbM l, e_bdS, e_bdS]
  by_cases c : 0 ≤ a0.toInt ∧ a0.toInt < nb
  · rw [if_pos c, if_neg q_t10, if_neg q_t10]
    by_cases c1 : a1 < 0
    · rw [if_pos c1, if_pos c1]; exact ⟨_, _, _, rfl, rfl, hk⟩
    · rw [if_neg c1, if_neg c1]
      by_cases c2 : a1 ≤ 1
      · rw [if_pos c2, if_pos c2]
        obtain ⟨b, hb, rfl⟩ := q_of c (by omega)
        obtain ⟨σ1, μ1, y1, y2, W1⟩ := q_plan T A hr hdn
        have kb : k_inb (nI b) 8 = true := e_in (by omega) (by decide)
        have k24 : k_inb (0 : Int32) 24 = true := by decide
        rw [y1, e_bvS, y2, e_bvS]
        simp only [e_ck kb, e_ck k24, c_0, nI_clamp (show b < 2 ^ 31 by omega)]
        have hk1 := hk.fr W1.1 W1.2.1
        have d17 : μ1.1 17 0 = nI dn := by rw [W1.2.1.2.1 17 (by omega) (by omega) 0 (by omega) (by omega)]; exact A.1.2
        rcases q_fday l hdn W1 b hb with ⟨q1, q2⟩ | ⟨d0, m, q0, q1, q2, q3, q4, z⟩
        · rw [if_pos q1, q2, e_bdS, if_pos rfl]; exact ⟨_, _, _, rfl, rfl, hk1⟩
        · rw [if_neg z, q4, e_bdS, if_neg (q_n1 (by omega)), q_ix2, e_ck (e_in (by omega) (by decide)), nI_clamp (by omega), q1, q2, q3, d17, nI_add]
          by_cases z0 : a1 = 0
          · rw [if_pos z0, if_pos z0]; exact ⟨_, _, _, rfl, rfl, hk1⟩
          · rw [if_neg z0, if_neg z0]; exact ⟨_, _, _, rfl, rfl, hk1⟩
      · rw [if_neg c2, if_neg c2]; exact ⟨_, _, _, rfl, rfl, hk⟩
  · rw [if_neg c, if_pos rfl, if_pos rfl]; exact ⟨_, _, _, rfl, rfl, hk⟩
theorem sim_never : Sim_never RR := by
  intro σ μ h
  have hk := h.thr
  unfold f_X11_never f_X12_never
  rw [e_nm]
  generalize mI μ 0 0 0 = μ0 at hk
  obtain ⟨nb, nl, nd, nw, nk, dn, T, hdn, A, I, N, O, P, F, W, hr⟩ := id hk
  obtain ⟨σ1, μ1, y1, y2, W1⟩ := q_plan T A hr hdn
  obtain ⟨r, z1, z2⟩ := q_never_l hdn (T.fr W1.1 W1.2.1) W1 nb FU FU 0 0 (by omega) (by unfold FU; have := T.le.1; omega) (by unfold FU; have := T.le.1; omega)
  have z1' : f_X11_never_b11 FU 0 0 σ1 = _ := z1
  have z2' : f_X12_never_b13 FU 0 0 μ1 = _ := z2
  rw [y1, e_bvS, y2, e_bvS, z1', z2']
  exact ⟨r, _, _, rfl, rfl, hk.fr W1.1 W1.2.1⟩
