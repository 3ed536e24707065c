def q_V (nb nl nd nw nk : Nat) (σ μ : MSt) : Prop := q_TX nb nl nd nw nk σ.1 μ.1 ∧ q_S2 μ.1 ∧ μ.1 0 46 = 0 ∧ μ.1 0 50 = -1
theorem q_V.fr {nb nl nd nw nk : Nat} {σ σ' μ μ' : MSt} (h : q_V nb nl nd nw nk σ μ) (f : FO 70 σ σ') (g : FT μ μ') : q_V nb nl nd nw nk σ' μ' := by
  obtain ⟨T, S, a, b⟩ := h
  refine ⟨T.eq (fun r _ _ => f.1 r (by omega)) (fun r _ _ => g.1 r (by omega)), ?_, ?_, ?_⟩
  · unfold q_S2 at S ⊢; rw [g.1 17 (by omega), g.1 26 (by omega), g.1 27 (by omega), g.1 28 (by omega)]; exact S
  · rw [g.2 46 (by omega) (by omega) (by omega) (by omega)]; exact a
  · rw [g.2 50 (by omega) (by omega) (by omega) (by omega)]; exact b
section
variable {nb nl nd nw nk : Nat}
theorem q_lean_l (dx : Nat) (hdx : dx < nd) (bits : Int32) (d : Nat) (hd : d ≤ 20000) : ∀ (k n1 n2 j : Nat) (s : Int32) (σ μ : MSt), j + k = 10 → k < n1 → k < n2 → (-(j : Int) ≤ s.toInt ∧ s.toInt ≤ j) → q_V nb nl nd nw nk σ μ → μ.1 0 48 = nI dx → ∃ s' σ' μ', f_X6_lean_b6 n1 (nI dx) bits (nI d) s (nI j) σ = some (s', σ') ∧ f_X12_unlikeOn_b11 n2 (nI dx) bits (nI d) s (nI j) μ = some (k_abs s', mI μ' 0 48 (-1)) ∧ (-10 ≤ s'.toInt ∧ s'.toInt ≤ 10) ∧ FO 70 σ σ' ∧ FT μ μ' := by
  intro k
  induction k with
  | zero =>
    intro n1 n2 j s σ μ h1 h2 h3 hs hV h48
    obtain ⟨n1, rfl⟩ : ∃ z, n1 = z + 1 := ⟨n1 - 1, by omega⟩
    obtain ⟨n2, rfl⟩ : ∃ z, n2 = z + 1 := ⟨n2 - 1, by omega⟩
    have hj : j = 10 := by omega
    subst hj
    exact ⟨s, σ, μ, rfl, rfl, by omega, FO.rf, FT.rf⟩
  | succ k ih =>
    intro n1 n2 j s σ μ h1 h2 h3 hs hV h48
    obtain ⟨n1, rfl⟩ : ∃ z, n1 = z + 1 := ⟨n1 - 1, by omega⟩
    obtain ⟨n2, rfl⟩ : ∃ z, n2 = z + 1 := ⟨n2 - 1, by omega⟩
    have l3 := hV.1.le.2.2.1
    have k1 : k_inb (nI dx) 12 = true := e_in (by omega) (by decide)
    have k2 : k_inb (nI dx) 24 = true := e_in (by omega) (by decide)
    show ∃ s' σ' μ', f_X6_lean_b6_s (f_X6_lean_b6 n1) (nI dx) bits (nI d) s (nI j) σ = some (s', σ') ∧ f_X12_unlikeOn_b11_s (f_X12_unlikeOn_b11 n2) (nI dx) bits (nI d) s (nI j) μ = some (k_abs s', mI μ' 0 48 (-1)) ∧ _
    unfold f_X6_lean_b6_s f_X12_unlikeOn_b11_s f_X6_lean_b53 f_X6_lean_b56 f_X12_unlikeOn_b57 f_X12_unlikeOn_b60
    rw [if_neg (show ¬ (9 : Int32) < nI j from nI_nlt (a := 9) (b := j) (by omega) (by decide)), if_neg (show ¬ (9 : Int32) < nI j from nI_nlt (a := 9) (b := j) (by omega) (by decide))]
    simp only [e_nm, nI_1, e_ck k1, e_ck k2, nI_clamp (show dx < 2 ^ 31 by omega)]
    have f0 : FT μ (mI μ 0 49 (nI j)) := FT.m μ 49 _ (by omega)
    have hV0 := hV.fr FO.rf f0
    have w48 : (mI μ 0 49 (nI j)).1 0 48 = nI dx := by rw [m_I, if_neg (by omega)]; exact h48
    have w49 : (mI μ 0 49 (nI j)).1 0 49 = nI j := by rw [m_I]; simp
    generalize mI μ 0 49 (nI j) = μ0 at *
    have nx : ∀ (s2 : Int32) (σ1 μ1 : MSt), (-((j + 1 : Nat) : Int) ≤ s2.toInt ∧ s2.toInt ≤ ((j + 1 : Nat) : Int)) → FO 70 σ σ1 → FT μ μ1 → μ1.1 0 48 = nI dx → ∃ s' σ' μ', f_X6_lean_b6 n1 (nI dx) bits (nI d) s2 (nI (j + 1)) σ1 = some (s', σ') ∧ f_X12_unlikeOn_b11 n2 (nI dx) bits (nI d) s2 (nI (j + 1)) μ1 = some (k_abs s', mI μ' 0 48 (-1)) ∧ (-10 ≤ s'.toInt ∧ s'.toInt ≤ 10) ∧ FO 70 σ σ' ∧ FT μ μ' := by
      intro s2 σ1 μ1 hs2 f g g48
      obtain ⟨s', σ', μ', y1, y2, y3, y4, y5⟩ := ih n1 n2 (j + 1) s2 σ1 μ1 (by omega) (by omega) (by omega) hs2 (hV.fr f g) g48
      exact ⟨s', σ', μ', y1, y2, y3, f.trans y4, g.trans y5⟩
    by_cases c : (bits >>> (nI j &&& 31)) &&& 1 = 1
    · rw [if_pos c, if_pos c]
      obtain ⟨T, S, a46, a50⟩ := id hV0
      obtain ⟨⟨b, hb, p1, q1⟩, -⟩ := T.deed dx hdx
      obtain ⟨σ1, y1, y2⟩ := s_X3_sft μ0.1 b d (by omega) (nI dx) (nI j) σ T
      obtain ⟨μ1, z1, z2⟩ := s_X12_wh2 T S a46 a50 b d (by have := T.le.1; omega) hd j (by omega) w49
      rw [w48] at z1
      rw [p1, q1, y1, e_bdS, z1, e_bdS]
      have g1 : FT μ μ1 := f0.trans (FT.ofM z2)
      have g48 : μ1.1 0 48 = nI dx := by rw [z2.2 48 (by omega) (by omega)]; exact w48
      have em : (-1 : Int32).toInt = -1 := by decide
      have bb : ∀ v : Int32, (v.toInt = 1 ∨ v.toInt = -1) → (s + v).toInt = s.toInt + v.toInt := by
        intro v hv
        rw [Int32.toInt_add]
        exact Int.bmod_eq_of_le (by omega) (by omega)
      by_cases z : q_ft σ.1 nd nw b d (nI dx) (nI j) = 0
      · rw [if_pos z, if_pos z]
        refine nx (s + -1) σ1 μ1 ?_ y2 g1 g48
        rw [bb _ (Or.inr em), em]
        omega
      · rw [if_neg z, if_neg z]
        refine nx (s + 1) σ1 μ1 ?_ y2 g1 g48
        rw [bb _ (Or.inl t_1), t_1]
        omega
    · rw [if_neg c, if_neg c]
      exact nx s σ μ0 (by omega) FO.rf f0 w48
theorem q_lean {σ μ : MSt} (dx : Nat) (hdx : dx < nd) (bits : Int32) (d : Nat) (hd : d ≤ 20000) (hV : q_V nb nl nd nw nk σ μ) : ∃ s' σ' μ', f_X6_lean (nI dx) bits (nI d) σ = some (s', σ') ∧ f_X12_unlikeOn (nI dx) bits (nI d) μ = some (k_abs s', μ') ∧ (-10 ≤ s'.toInt ∧ s'.toInt ≤ 10) ∧ FO 70 σ σ' ∧ FT μ μ' ∧ μ'.1 0 48 = -1 := by
  have f0 : FT μ (mI μ 0 48 (nI dx)) := FT.m μ 48 _ (by omega)
  obtain ⟨s', σ', μ', y1, y2, y3, y4, y5⟩ := q_lean_l dx hdx bits d hd 10 FU FU 0 0 σ (mI μ 0 48 (nI dx)) (by omega) (by unfold FU; omega) (by unfold FU; omega) (by rw [t_0]; omega) (hV.fr FO.rf f0) (by rw [m_I]; simp)
  have y1' : f_X6_lean (nI dx) bits (nI d) σ = some (s', σ') := y1
  have y2a : f_X12_unlikeOn_b11 FU (nI dx) bits (nI d) 0 0 (mI μ 0 48 (nI dx)) = some (k_abs s', mI μ' 0 48 (-1)) := y2
  have y2' : f_X12_unlikeOn (nI dx) bits (nI d) μ = some (k_abs s', mI μ' 0 48 (-1)) := by
    unfold f_X12_unlikeOn
    rw [e_nm]
    exact y2a
  exact ⟨s', σ', _, y1', y2', y3, y4, (f0.trans y5).trans (FT.m _ 48 _ (by omega)), by rw [m_I]; simp⟩
theorem q_abs_b {s : Int32} (h : -10 ≤ s.toInt ∧ s.toInt ≤ 10) : (k_abs s).toInt ≤ 10 := by
  unfold k_abs
  by_cases c : 0 ≤ s
  · rw [if_pos c]; exact h.2
  · rw [if_neg c, Int32.toInt_sub, t_0]
    rw [Int.bmod_eq_of_le (by omega) (by omega)]
    omega
theorem q_tell_l (dx : Nat) (hdx : dx < nd) (bits : Int32) (f : Nat) (hf : f ≤ 99) : ∀ (k n1 n2 i : Nat) (best least : Int32) (σ μ : MSt), i + k = 20 → k < n1 → k < n2 → q_V nb nl nd nw nk σ μ → μ.1 8 dx = nI f → ∃ r σ' μ', f_X6_tellingDate_b33 n1 (nI dx) bits (nI f) best least (nI (f + i)) σ = some (r, σ') ∧ f_X12_tells_b49 n2 (nI dx) bits best least (nI (f + i)) μ = some (r, μ') ∧ FO 70 σ σ' ∧ FT μ μ' ∧ (μ.1 0 48 = -1 → μ'.1 0 48 = -1) := by
  intro k
  induction k with
  | zero =>
    intro n1 n2 i best least σ μ h1 h2 h3 hV h8
    obtain ⟨n1, rfl⟩ : ∃ z, n1 = z + 1 := ⟨n1 - 1, by omega⟩
    obtain ⟨n2, rfl⟩ : ∃ z, n2 = z + 1 := ⟨n2 - 1, by omega⟩
    have l3 := hV.1.le.2.2.1
    have e20 : nI f + 20 = nI (f + 20) := nI_add f 20
    show ∃ r σ' μ', f_X6_tellingDate_b33_s (f_X6_tellingDate_b33 n1) (nI dx) bits (nI f) best least (nI (f + i)) σ = some (r, σ') ∧ f_X12_tells_b49_s (f_X12_tells_b49 n2) (nI dx) bits best least (nI (f + i)) μ = some (r, μ') ∧ _
    unfold f_X6_tellingDate_b33_s f_X12_tells_b49_s
    rw [e_ck (e_in (show dx < 24 by omega) (by decide)), nI_clamp (by omega), h8, e20, if_pos (nI_le (by omega) (by omega)), if_pos (nI_le (by omega) (by omega))]
    exact ⟨_, _, _, rfl, rfl, FO.rf, FT.rf, id⟩
  | succ k ih =>
    intro n1 n2 i best least σ μ h1 h2 h3 hV h8
    obtain ⟨n1, rfl⟩ : ∃ z, n1 = z + 1 := ⟨n1 - 1, by omega⟩
    obtain ⟨n2, rfl⟩ : ∃ z, n2 = z + 1 := ⟨n2 - 1, by omega⟩
    have l3 := hV.1.le.2.2.1
    have e20 : nI f + 20 = nI (f + 20) := nI_add f 20
    obtain ⟨s', σ1, μ1, y1, y2, y3, y4, y5, y6⟩ := q_lean dx hdx bits (f + i) (by omega) hV
    show ∃ r σ' μ', f_X6_tellingDate_b33_s (f_X6_tellingDate_b33 n1) (nI dx) bits (nI f) best least (nI (f + i)) σ = some (r, σ') ∧ f_X12_tells_b49_s (f_X12_tells_b49 n2) (nI dx) bits best least (nI (f + i)) μ = some (r, μ') ∧ _
    unfold f_X6_tellingDate_b33_s f_X12_tells_b49_s f_X6_tellingDate_b70 f_X12_tells_b90
    rw [e_ck (e_in (show dx < 24 by omega) (by decide)), nI_clamp (by omega), h8, e20, if_neg (nI_ge (by omega) (by omega)), if_neg (nI_ge (by omega) (by omega)), y1, e_bdS, y2, e_bdS]
    simp only [e_nm, nI_1]
    have nx : ∀ b' l', ∃ r σ' μ', f_X6_tellingDate_b33 n1 (nI dx) bits (nI f) b' l' (nI (f + i + 1)) σ1 = some (r, σ') ∧ f_X12_tells_b49 n2 (nI dx) bits b' l' (nI (f + i + 1)) μ1 = some (r, μ') ∧ FO 70 σ σ' ∧ FT μ μ' ∧ (μ.1 0 48 = -1 → μ'.1 0 48 = -1) := by
      intro b' l'
      obtain ⟨r, σ', μ', z1, z2, z3, z4, z5⟩ := ih n1 n2 (i + 1) b' l' σ1 μ1 (by omega) (by omega) (by omega) (hV.fr y4 y5) (by rw [y5.1 8 (by omega)]; exact h8)
      exact ⟨r, σ', μ', z1, z2, y4.trans z3, y5.trans z4, fun _ => z5 y6⟩
    by_cases c : least ≤ k_abs s'
    · rw [if_pos c, if_neg (Int32.not_lt.mpr c)]; exact nx best least
    · rw [if_neg c, if_pos (Int32.not_le.mp c)]; exact nx _ _
end
theorem sim_tells : Sim_tells RR := by
  intro σ μ a0 h
  have hk := h.thr
  unfold f_X11_tells f_X12_tells f_X11_tells_b40
  rw [e_nm]
  generalize mI μ 0 0 0 = μ0 at hk
  obtain ⟨nb, nl, nd, nw, nk, dn, T, hdn, A, I, N, O, P, F, W, hr⟩ := id hk
  have l3 := T.le.2.2.1
  rw [s_X0_hasDeed 10 a0 σ nd T.ndC l3, s_X12_isDeed a0 _ nd T.ndM l3, e_bdS, e_bdS]
  by_cases c : 0 ≤ a0.toInt ∧ a0.toInt < nd
  · rw [if_pos c, if_neg q_t10, if_neg q_t10]
    obtain ⟨r, σ1, μ1, y1, y2, y3, y4, S⟩ := q_was T O hr a0
    rw [y1, e_bdS, y2, e_bdS]
    by_cases z : r = 0
    · rw [if_pos z, if_pos z]; exact ⟨_, _, _, rfl, rfl, hk.fr y3 y4⟩
    · rw [if_neg z, if_neg z]
      have T1 := T.fr y3 y4
      have hr1 := hr.FX y4
      have hV : q_V nb nl nd nw nk σ1 μ1 := ⟨T1, S, hr1.1, hr1.2.2.2⟩
      obtain ⟨dx, hdx, rfl⟩ := q_of c (by omega)
      obtain ⟨-, ⟨f, hf, p1, q1⟩, -⟩ := T1.deed dx hdx
      have k1 : k_inb (nI dx) 12 = true := e_in (by omega) (by decide)
      have k2 : k_inb (nI dx) 24 = true := e_in (by omega) (by decide)
      unfold f_X6_tellingDate
      rw [s_X0_hasDeed 10 (nI dx) σ1 nd T1.ndC l3, e_bdS, if_pos c, if_neg q_t10, e_ck k1, e_nm, e_ck k2, e_nm, nI_clamp (by omega), p1, q1]
      obtain ⟨s', σ2, μ2, z1, z2, z3, z4, z5, z6⟩ := q_lean dx hdx r f (by omega) hV
      have st : f_X6_tellingDate_b33 FU (nI dx) r (nI f) (nI f) 11 (nI f) σ1 = f_X6_tellingDate_b33 1023 (nI dx) r (nI f) (nI f) (k_abs s') (nI (f + 1)) σ2 := by
        show f_X6_tellingDate_b33_s (f_X6_tellingDate_b33 1023) (nI dx) r (nI f) (nI f) 11 (nI f) σ1 = _
        unfold f_X6_tellingDate_b33_s f_X6_tellingDate_b70
        have e20 : nI f + 20 = nI (f + 20) := nI_add f 20
        have n11 : ¬ (11 : Int32) ≤ k_abs s' := by
          rw [Int32.le_iff_toInt_le, show (11 : Int32).toInt = 11 from by decide]
          have := q_abs_b z3
          omega
        rw [e20, if_neg (nI_ge (by omega) (by omega)), z1, e_bdS, e_nm, if_neg n11, e_nm, nI_1]
      rw [z2, e_bdS, e_nm, nI_1, st]
      obtain ⟨r', σ', μ', w1, w2, w3, w4, w5⟩ := q_tell_l dx hdx r f hf 19 1023 FU 1 (nI f) (k_abs s') σ2 μ2 (by omega) (by omega) (by unfold FU; omega) (hV.fr z4 z5) (by rw [z5.1 8 (by omega)]; exact q1)
      rw [w1, e_bdS, w2]
      have ft := z5.trans w4
      refine ⟨r', σ', μ', rfl, rfl, hk.fr (y3.trans (FL.of70 (z4.trans w3))) (y4.trans ⟨fun q hq => ft.1 q (by omega), fun q a b i _ _ => by rw [ft.1 q (by omega)], fun q a b i _ => by rw [ft.1 q (by omega)], fun j a b c d => ?_⟩)⟩
      by_cases e : j = 48
      · subst e; rw [w5 z6, hr1.2.2.1]
      · exact ft.2 j b e c d
  · rw [if_neg c, if_pos rfl, if_pos rfl]; exact ⟨_, _, _, rfl, rfl, hk⟩
