/-! NIGHTS COUNTED: winter, rests, rest -/
def q_cnt (h : Nat → Int32) : Nat → Nat
  | 0 => 0
  | k + 1 => q_cnt h k + (if h k = 0 then 0 else 1)
theorem q_cnt_le (h : Nat → Int32) : ∀ k, q_cnt h k ≤ k := by
  intro k
  induction k with
  | zero => exact Nat.le_refl 0
  | succ k ih => unfold q_cnt; split <;> omega
def q_hv (R : Nat → Nat → Int32) (nd nw dn b i : Nat) : Int32 := q_hs R nw (dn + i) (q_fse R nd b (dn + i) (q_tri R b))
theorem q_hv_eq {R R' : Nat → Nat → Int32} (f : ∀ r, r < 58 → R' r = R r) (nd nw dn b : Nat) : q_hv R' nd nw dn b = q_hv R nd nw dn b := by
  funext i
  unfold q_hv
  rw [q_tri_eq f, q_fse_eq f, q_hs_eq f]
theorem q_cnt_s (h : Nat → Int32) (k : Nat) : q_cnt h (k + 1) = q_cnt h k + (if h k = 0 then 0 else 1) := rfl
theorem q_i18 : k_inb (0 : Int32) 18 = true := by decide
section
variable {nb nl nd nw nk dn : Nat}
theorem q_cn_i (hdn : dn ≤ 9900) (N : Nat) (hN : N ≤ 60) (b : Nat) (hb : b < 8) (r2 : Int32 → Int32 → MSt → Option MSt) (U : Nat → Nat → Int32) (R : Nat → Nat → Int32) : ∀ (k n i : Nat) (σ : MSt), i + k = N → k < n → q_TX nb nl nd nw nk σ.1 U → σ.1 50 3 = nI dn → (∀ r, r < 58 → σ.1 r = R r) → σ.1 68 b = nI (q_cnt (q_hv R nd nw dn b) i) → ∃ σ', f_X3_countNights_b28 r2 n (nI N) (nI b) (nI i) σ = r2 (nI N) (nI (b + 1)) σ' ∧ σ'.1 68 b = nI (q_cnt (q_hv R nd nw dn b) N) ∧ (∀ c, c ≠ b → σ'.1 68 c = σ.1 68 c) ∧ FL σ σ' := by
  have kb : k_inb (nI b) 8 = true := e_in hb (by decide)
  intro k
  induction k with
  | zero =>
    intro n i σ h1 h2 T hd hR h68
    obtain ⟨n, rfl⟩ : ∃ z, n = z + 1 := ⟨n - 1, by omega⟩
    have hi : i = N := by omega
    subst hi
    refine ⟨σ, ?_, h68, fun _ _ => rfl, FL.rf⟩
    show f_X3_countNights_b28_s r2 (f_X3_countNights_b28 r2 n) (nI i) (nI b) (nI i) σ = _
    unfold f_X3_countNights_b28_s
    rw [if_pos (nI_le (by omega) (by omega)), e_nm, nI_1]
  | succ k ih =>
    intro n i σ h1 h2 T hd hR h68
    obtain ⟨n, rfl⟩ : ∃ z, n = z + 1 := ⟨n - 1, by omega⟩
    show ∃ σ', f_X3_countNights_b28_s r2 (f_X3_countNights_b28 r2 n) (nI N) (nI b) (nI i) σ = _ ∧ _
    unfold f_X3_countNights_b28_s f_X3_countNights_b60
    rw [if_neg (nI_ge (by omega) (by omega)), hd, nI_add]
    obtain ⟨σ1, p1, p2⟩ := s_X3_sees T b (dn + i) hb (by omega)
    have fl := FL.of70 p2
    have ev : q_hs σ.1 nw (dn + i) (q_fse σ.1 nd b (dn + i) (q_tri σ.1 b)) = q_hv R nd nw dn b i := by
      have := congrFun (q_hv_eq hR nd nw dn b) i
      exact this
    rw [p1, e_bdS, ev]
    have e68 : σ1.1 68 = σ.1 68 := p2.1 68 (by omega)
    have stp : ∀ σ2 : MSt, FL σ σ2 → σ2.1 68 b = nI (q_cnt (q_hv R nd nw dn b) (i + 1)) → (∀ c, c ≠ b → σ2.1 68 c = σ.1 68 c) → ∃ σ', f_X3_countNights_b28 r2 n (nI N) (nI b) (nI i + 1) σ2 = r2 (nI N) (nI (b + 1)) σ' ∧ σ'.1 68 b = nI (q_cnt (q_hv R nd nw dn b) N) ∧ (∀ c, c ≠ b → σ'.1 68 c = σ.1 68 c) ∧ FL σ σ' := by
      intro σ2 f2 g1 g2
      rw [nI_1]
      obtain ⟨σ', q1, q2, q3, q4⟩ := ih n (i + 1) σ2 (by omega) (by omega) (T.eq (fun r _ _ => f2.1 r (by omega)) (fun _ _ _ => rfl)) (by rw [f2.1 50 (by omega)]; exact hd) (fun r hr => by rw [f2.1 r (by omega)]; exact hR r hr) g1
      exact ⟨σ', q1, q2, fun c hc => (q3 c hc).trans (g2 c hc), f2.trans q4⟩
    by_cases z : q_hv R nd nw dn b i = 0
    · rw [if_pos z, e_nm]
      refine stp σ1 fl ?_ (fun c _ => by rw [e68])
      rw [e68, h68, q_cnt_s, if_pos z]
      rfl
    · rw [if_neg z]
      simp only [e_ck kb, e_nm, nI_clamp (show b < 2 ^ 31 by omega)]
      refine stp _ (fl.trans (FL.mI _ _ _ _ (by omega))) ?_ (fun c hc => by rw [m_I, if_neg (by omega), e68])
      rw [m_I, if_pos ⟨rfl, rfl⟩, e68, h68, nI_1]
      refine congrArg nI ?_
      show _ = q_cnt (q_hv R nd nw dn b) i + _
      rw [if_neg z]
theorem q_cn_o (hdn : dn ≤ 9900) (N : Nat) (hN : N ≤ 60) (U : Nat → Nat → Int32) (R : Nat → Nat → Int32) : ∀ (k n b : Nat) (σ : MSt), b + k = nb → k < n → q_TX nb nl nd nw nk σ.1 U → σ.1 50 3 = nI dn → (∀ r, r < 58 → σ.1 r = R r) → ∃ σ', f_X3_countNights_b2 n (nI N) (nI b) σ = some σ' ∧ (∀ c, c < nb → b ≤ c → σ'.1 68 c = nI (q_cnt (q_hv R nd nw dn c) N)) ∧ (∀ c, c < b → σ'.1 68 c = σ.1 68 c) ∧ FL σ σ' := by
  intro k
  induction k with
  | zero =>
    intro n b σ h1 h2 T hd hR
    obtain ⟨n, rfl⟩ : ∃ z, n = z + 1 := ⟨n - 1, by omega⟩
    have l := T.le.1
    refine ⟨σ, ?_, fun c h1 h2 => by omega, fun _ _ => rfl, FL.rf⟩
    show f_X3_countNights_b2_s (f_X3_countNights_b2 n) (nI N) (nI b) σ = _
    unfold f_X3_countNights_b2_s
    rw [T.nbC, if_pos (nI_le (by omega) (by omega))]
    rfl
  | succ k ih =>
    intro n b σ h1 h2 T hd hR
    obtain ⟨n, rfl⟩ : ∃ z, n = z + 1 := ⟨n - 1, by omega⟩
    have l := T.le.1
    have kb : k_inb (nI b) 8 = true := e_in (by omega) (by decide)
    show ∃ σ', f_X3_countNights_b2_s (f_X3_countNights_b2 n) (nI N) (nI b) σ = _ ∧ _
    unfold f_X3_countNights_b2_s
    rw [T.nbC, if_neg (nI_ge (by omega) (by omega)), if_neg (show ¬ (8 : Int32) ≤ nI b from nI_ge (a := b) (b := 8) (by omega) (by decide)), e_ck kb, e_nm, nI_clamp (by omega)]
    have f0 : FL σ (mI σ 68 b 0) := FL.mI _ _ _ _ (by omega)
    obtain ⟨σ1, p1, p2, p3, p4⟩ := q_cn_i hdn N hN b (by omega) (f_X3_countNights_b2 n) U R N FU 0 (mI σ 68 b 0) (by omega) (by unfold FU; omega) (T.eq (fun r _ _ => f0.1 r (by omega)) (fun _ _ _ => rfl)) (by rw [f0.1 50 (by omega)]; exact hd) (fun r hr => by rw [f0.1 r (by omega)]; exact hR r hr) (by rw [m_I]; simp; rfl)
    have p1' : f_X3_countNights_b28 (f_X3_countNights_b2 n) FU (nI N) (nI b) 0 (mI σ 68 b 0) = _ := p1
    have f1 := f0.trans p4
    rw [p1']
    obtain ⟨σ', q1, q2, q3, q4⟩ := ih n (b + 1) σ1 (by omega) (by omega) (T.eq (fun r _ _ => f1.1 r (by omega)) (fun _ _ _ => rfl)) (by rw [f1.1 50 (by omega)]; exact hd) (fun r hr => by rw [f1.1 r (by omega)]; exact hR r hr)
    refine ⟨σ', q1, ?_, ?_, f1.trans q4⟩
    · intro c h1 h2
      by_cases e : c = b
      · subst e; rw [q3 c (by omega)]; exact p2
      · exact q2 c h1 (by omega)
    · intro c hc
      rw [q3 c (by omega), p3 c (by omega), m_I, if_neg (by omega)]
theorem q_ni_l {σ : MSt} (hdn : dn ≤ 9900) (N : Nat) (hN : N ≤ 60) (b : Nat) (hb : b < 8) : ∀ (k n i : Nat) (μ : MSt), i + k = N → k < n → q_TX nb nl nd nw nk σ.1 μ.1 → q_A nb dn 50 σ 0 μ.1 → q_rest μ.1 → ∃ μ', f_X12_nightsIn_b5 n (nI b) (nI N) (nI (q_cnt (q_hv σ.1 nd nw dn b) i)) (nI i) μ = some (nI (q_cnt (q_hv σ.1 nd nw dn b) N), μ') ∧ FM μ μ' := by
  intro k
  induction k with
  | zero =>
    intro n i μ h1 h2 T A hr
    obtain ⟨n, rfl⟩ : ∃ z, n = z + 1 := ⟨n - 1, by omega⟩
    have hi : i = N := by omega
    subst hi
    refine ⟨μ, ?_, FM.rf⟩
    show f_X12_nightsIn_b5_s (f_X12_nightsIn_b5 n) (nI b) (nI i) _ (nI i) μ = _
    unfold f_X12_nightsIn_b5_s
    rw [if_pos (nI_le (by omega) (by omega))]
  | succ k ih =>
    intro n i μ h1 h2 T A hr
    obtain ⟨n, rfl⟩ : ∃ z, n = z + 1 := ⟨n - 1, by omega⟩
    show ∃ μ', f_X12_nightsIn_b5_s (f_X12_nightsIn_b5 n) (nI b) (nI N) _ (nI i) μ = _ ∧ _
    unfold f_X12_nightsIn_b5_s f_X12_nightsIn_b36
    obtain ⟨μ1, r1, r2⟩ := s_X12_willHold T A (by omega) hr b (dn + i) hb (by omega) (-1) (Or.inl rfl)
    rw [if_pos rfl] at r1
    have fx := FX.of r2
    rw [if_neg (nI_ge (by omega) (by omega)), e_ck (by decide), c_0, A.1.2, nI_add, r1, e_bdS]
    have ev : q_hs σ.1 nw (dn + i) (q_fse σ.1 nd b (dn + i) (q_tri σ.1 b)) = q_hv σ.1 nd nw dn b i := rfl
    rw [ev]
    have nx := ih n (i + 1) μ1 (by omega) (by omega) (T.fr FL.rf fx) (A.fr FL.rf fx) (hr.FX fx)
    obtain ⟨μ', y1, y2⟩ := nx
    by_cases z : q_hv σ.1 nd nw dn b i = 0
    · rw [if_pos z, e_nm, e_nm, nI_1, Int32.add_zero]
      refine ⟨μ', ?_, r2.trans y2⟩
      rw [q_cnt_s, if_pos z] at y1
      exact y1
    · rw [if_neg z, e_nm, e_nm, nI_1, nI_1]
      refine ⟨μ', ?_, r2.trans y2⟩
      rw [← y1]
      show _ = f_X12_nightsIn_b5 n (nI b) (nI N) (nI (q_cnt (q_hv σ.1 nd nw dn b) i + (if q_hv σ.1 nd nw dn b i = 0 then 0 else 1))) (nI (i + 1)) μ1
      rw [if_neg z]
theorem q_ni {σ μ : MSt} (hdn : dn ≤ 9900) (N : Nat) (hN : N ≤ 60) (b : Nat) (hb : b < 8) (T : q_TX nb nl nd nw nk σ.1 μ.1) (A : q_A nb dn 50 σ 0 μ.1) (hr : q_rest μ.1) : ∃ μ', f_X12_nightsIn (nI b) (nI N) μ = some (nI (q_cnt (q_hv σ.1 nd nw dn b) N), μ') ∧ FM μ μ' := q_ni_l hdn N hN b hb N FU 0 μ (by omega) (by unfold FU; omega) T A hr
theorem q_share {σ μ : MSt} (T : q_TX nb nl nd nw nk σ.1 μ.1) (a0 : Int32) : (f_X11_isShare a0 σ = some (0, σ) ∧ f_X12_isNights a0 μ = some (0, μ)) ∨ (f_X11_isShare a0 σ = some (1, σ) ∧ f_X12_isNights a0 μ = some (1, μ) ∧ 0 < nb ∧ ∃ N, N ≤ 60 ∧ a0 = nI N) := by
  have z0 : k_bo 0 = true := rfl
  have z1 : k_bo 1 = true := rfl
  unfold f_X11_isShare f_X12_isNights f_X11_isShare_b25 f_X12_isNights_b24 f_X11_isShare_b26 f_X12_isNights_b25
  rw [e_ck z0, e_ck z0, e_ck z1, e_ck z1, e_ck (by decide), c_0, T.nbC, T.nbM]
  have l := T.le.1
  by_cases c1 : a0 < 1
  · rw [if_pos c1, if_pos c1]; exact Or.inl ⟨rfl, rfl⟩
  · rw [if_neg c1, if_neg c1]
    by_cases c2 : 60 < a0
    · rw [if_pos c2, if_pos c2]; exact Or.inl ⟨rfl, rfl⟩
    · rw [if_neg c2, if_neg c2]
      by_cases c3 : nI nb ≤ 0
      · rw [if_pos c3, if_pos c3]; exact Or.inl ⟨rfl, rfl⟩
      · rw [if_neg c3, if_neg c3]
        have c0 : ¬ a0 < 0 := by
          intro q
          exact c1 (Int32.lt_iff_toInt_lt.mpr (by have := Int32.lt_iff_toInt_lt.mp q; rw [t_0] at this; rw [t_1]; omega))
        refine Or.inr ⟨rfl, rfl, ?_, nI_of2 (M := 60) (n := 60) (by decide) c0 (Int32.not_lt.mp c2)⟩
        apply Nat.pos_of_ne_zero
        intro e
        subst e
        exact c3 (by decide)
theorem q_winter_l {σ0 : MSt} (hdn : dn ≤ 9900) (N : Nat) (hN : N ≤ 60) (a1 : Int32) (h1a : a1 = 0 ∨ a1 = 1) : ∀ (k n1 n2 i best : Nat) (σ μ : MSt), i + k = nb → best < nb → k < n1 → k < n2 → q_TX nb nl nd nw nk σ0.1 μ.1 → q_A nb dn 50 σ0 0 μ.1 → q_rest μ.1 → σ.1 10 7 = nI nb → nb ≤ 8 → (∀ c, c < nb → σ.1 68 c = nI (q_cnt (q_hv σ0.1 nd nw dn c) N)) → ∃ r μ', f_X11_winter_b32 n1 a1 (nI best) (nI i) σ = some (r, σ) ∧ f_X12_winter_b32 n2 (nI N) a1 (nI best) (nI (q_cnt (q_hv σ0.1 nd nw dn best) N)) (nI i) μ = some (r, μ') ∧ FM μ μ' := by
  intro k
  induction k with
  | zero =>
    intro n1 n2 i best σ μ h1 hb h2 h3 T A hr s7 l8 h68
    obtain ⟨n1, rfl⟩ : ∃ z, n1 = z + 1 := ⟨n1 - 1, by omega⟩
    obtain ⟨n2, rfl⟩ : ∃ z, n2 = z + 1 := ⟨n2 - 1, by omega⟩
    show ∃ r μ', f_X11_winter_b32_s (f_X11_winter_b32 n1) a1 (nI best) (nI i) σ = some (r, σ) ∧ f_X12_winter_b32_s (f_X12_winter_b32 n2) (nI N) a1 (nI best) _ (nI i) μ = some (r, μ') ∧ _
    unfold f_X11_winter_b32_s f_X12_winter_b32_s f_X11_winter_b82 f_X11_winter_b99 f_X12_winter_b85
    rw [s7, if_pos (nI_le (by omega) (by omega)), e_ck q_i18, c_0, T.nbM, if_pos (nI_le (by omega) (by omega)), e_ck (e_in (by omega) (by decide)), nI_clamp (by omega), h68 best hb]
    rcases h1a with e | e
    · rw [if_pos e, if_pos e]; exact ⟨_, _, rfl, rfl, FM.rf⟩
    · rw [if_neg (by rw [e]; decide), if_neg (by rw [e]; decide)]; exact ⟨_, _, rfl, rfl, FM.rf⟩
  | succ k ih =>
    intro n1 n2 i best σ μ h1 hb h2 h3 T A hr s7 l8 h68
    obtain ⟨n1, rfl⟩ : ∃ z, n1 = z + 1 := ⟨n1 - 1, by omega⟩
    obtain ⟨n2, rfl⟩ : ∃ z, n2 = z + 1 := ⟨n2 - 1, by omega⟩
    have ki : k_inb (nI i) 8 = true := e_in (by omega) (by decide)
    have kb : k_inb (nI best) 8 = true := e_in (by omega) (by decide)
    have cb := fun c => q_cnt_le (q_hv σ0.1 nd nw dn c) N
    show ∃ r μ', f_X11_winter_b32_s (f_X11_winter_b32 n1) a1 (nI best) (nI i) σ = some (r, σ) ∧ f_X12_winter_b32_s (f_X12_winter_b32 n2) (nI N) a1 (nI best) _ (nI i) μ = some (r, μ') ∧ _
    unfold f_X11_winter_b32_s f_X12_winter_b32_s f_X11_winter_b76 f_X12_winter_b69
    obtain ⟨μ1, y1, y2⟩ := q_ni hdn N hN i (by omega) T A hr
    have fx := FX.of y2
    rw [s7, if_neg (nI_ge (by omega) (by omega)), e_ck q_i18, c_0, T.nbM, if_neg (nI_ge (by omega) (by omega)), if_neg (show ¬ (8 : Int32) ≤ nI i from nI_ge (a := i) (b := 8) (by omega) (by decide)), e_ck ki, e_ck kb, nI_clamp (by omega), nI_clamp (by omega), h68 best hb, h68 i (by omega), y1, e_bdS]
    by_cases c : q_cnt (q_hv σ0.1 nd nw dn i) N ≤ q_cnt (q_hv σ0.1 nd nw dn best) N
    · rw [if_pos (nI_le c (by have := cb best; omega)), if_neg (nI_nlt c (by have := cb best; omega)), e_nm, e_nm, nI_1]
      obtain ⟨r, μ', z1, z2, z3⟩ := ih n1 n2 (i + 1) best σ μ1 (by omega) hb (by omega) (by omega) (T.fr FL.rf fx) (A.fr FL.rf fx) (hr.FX fx) s7 l8 h68
      exact ⟨r, μ', z1, z2, y2.trans z3⟩
    · rw [if_neg (nI_ge (by omega) (by have := cb i; omega)), if_pos (nI_lt (by omega) (by have := cb i; omega)), e_nm, e_nm, nI_1]
      obtain ⟨r, μ', z1, z2, z3⟩ := ih n1 n2 (i + 1) i σ μ1 (by omega) (by omega) (by omega) (by omega) (T.fr FL.rf fx) (A.fr FL.rf fx) (hr.FX fx) s7 l8 h68
      exact ⟨r, μ', z1, z2, y2.trans z3⟩
end
theorem sim_winter : Sim_winter RR := by
  intro σ μ a0 a1 h
  have hk := h.thr
  unfold f_X11_winter f_X12_winter f_X11_winter_b17 f_X12_winter_b22
  rw [e_nm]
  generalize mI μ 0 0 0 = μ0 at hk
  obtain ⟨nb, nl, nd, nw, nk, dn, T, hdn, A, I, N, O, P, F, W, hr⟩ := id hk
  rcases q_share T a0 with ⟨e1, e2⟩ | ⟨e1, e2, hnb, n, hn, rfl⟩
  · rw [e1, e2, e_bdS, e_bdS, if_pos rfl, if_pos rfl]; exact ⟨_, _, _, rfl, rfl, hk⟩
  · rw [e1, e2, e_bdS, e_bdS, if_neg q_t10, if_neg q_t10]
    by_cases c1 : a1 < 0
    · rw [if_pos c1, if_pos c1]; exact ⟨_, _, _, rfl, rfl, hk⟩
    · rw [if_neg c1, if_neg c1]
      by_cases c2 : a1 ≤ 1
      · rw [if_pos c2, if_pos c2]
        have l8 := T.le.1
        obtain ⟨j, hj, ej⟩ := nI_of2 (M := 1) (n := 1) (by decide) c1 c2
        have h1a : a1 = 0 ∨ a1 = 1 := by
          have : j = 0 ∨ j = 1 := by omega
          rcases this with rfl | rfl
          · exact Or.inl ej
          · exact Or.inr ej
        obtain ⟨σ1, p1, p2, p3, p4⟩ := q_cn_o hdn n hn μ0.1 σ.1 nb FU 0 σ (by omega) (by unfold FU; omega) T A.1.1 (fun _ _ => rfl)
        have p1' : f_X3_countNights (nI n) σ = some σ1 := p1
        have h68 : ∀ c, c < nb → σ1.1 68 c = nI (q_cnt (q_hv σ.1 nd nw dn c) n) := fun c hc => p2 c hc (by omega)
        rw [p1', e_bvS]
        obtain ⟨μ1, y1, y2⟩ := q_ni hdn n hn 0 (by omega) T A hr
        have fx := FX.of y2
        have st : f_X12_winter_b32 FU (nI n) a1 0 (-1) 0 μ0 = f_X12_winter_b32 1023 (nI n) a1 (nI 0) (nI (q_cnt (q_hv σ.1 nd nw dn 0) n)) (nI 1) μ1 := by
          show f_X12_winter_b32_s (f_X12_winter_b32 1023) (nI n) a1 (nI 0) (-1) (nI 0) μ0 = _
          unfold f_X12_winter_b32_s f_X12_winter_b69
          have cb := q_cnt_le (q_hv σ.1 nd nw dn 0) n
          have ng : (-1 : Int32) < nI (q_cnt (q_hv σ.1 nd nw dn 0) n) := by rw [Int32.lt_iff_toInt_lt, nI_toInt (by omega), show (-1 : Int32).toInt = -1 from by decide]; omega
          rw [e_ck (by decide), c_0, T.nbM, if_neg (nI_ge (by omega) (by omega)), y1, e_bdS, if_pos ng, e_nm, nI_1]
        obtain ⟨r, μ', z1, z2, z3⟩ := q_winter_l (σ0 := σ) hdn n hn a1 h1a (nb - 1) FU 1023 1 0 σ1 μ1 (by omega) (by omega) (by unfold FU; omega) (by omega) (T.fr FL.rf fx) (A.fr FL.rf fx) (hr.FX fx) (by rw [p4.1 10 (by omega)]; exact T.nbC) l8 h68
        rw [st]
        exact ⟨r, σ1, μ', z1, z2, hk.fr p4 (fx.trans (FX.of z3))⟩
      · rw [if_neg c2, if_neg c2]; exact ⟨_, _, _, rfl, rfl, hk⟩
