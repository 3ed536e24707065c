theorem q_wf_cg (ks ks' : Nat → Int32) : ∀ (n i d : Nat), (∀ j, i ≤ j → j < i + n → ks' j = ks j) → q_wf ks n i d → q_wf ks' n i d := by
  intro n
  induction n with
  | zero => intro i d _ h; exact h
  | succ n ih =>
    intro i d h q
    have hi := h i (by omega) (by omega)
    have ht : ∀ j, i + 1 ≤ j → j < i + 1 + n → ks' j = ks j := fun j a b => h j (by omega) (by omega)
    have q' : if q_kd (ks i) = 0 then q_wf ks n (i + 1) (d + 1) else if q_kd (ks i) = 1 then 1 ≤ d ∧ q_wf ks n (i + 1) d else 2 ≤ d ∧ q_wf ks n (i + 1) (d - 1) := q
    show if q_kd (ks' i) = 0 then q_wf ks' n (i + 1) (d + 1) else if q_kd (ks' i) = 1 then 1 ≤ d ∧ q_wf ks' n (i + 1) d else 2 ≤ d ∧ q_wf ks' n (i + 1) (d - 1)
    rw [hi]
    by_cases c0 : q_kd (ks i) = 0
    · rw [if_pos c0] at q' ⊢; exact ih _ _ ht q'
    · rw [if_neg c0] at q' ⊢
      by_cases c1 : q_kd (ks i) = 1
      · rw [if_pos c1] at q' ⊢; exact ⟨q'.1, ih _ _ ht q'.2⟩
      · rw [if_neg c1] at q' ⊢; exact ⟨q'.1, ih _ _ ht q'.2⟩
theorem q_TS.lw {s v so va : Int32} (h : q_TS s v so va) : (∃ r, r < 3 ∧ s = nI (19 + r) ∧ so = 0 ∧ va = nI (9 + r)) ∨ ((s - 19 < 0 ∨ ¬ s - 19 ≤ 2) ∧ (so = 0 → va < 9 ∨ ¬ va ≤ 11)) := by
  have g : ∀ u : Nat, u < 22 → (u < 9 ∨ 11 < u) → (nI (10 + u) - 19 < 0 ∨ ¬ nI (10 + u) - 19 ≤ 2) ∧ (nI u < 9 ∨ ¬ nI u ≤ 11) := by decide
  rcases h with ⟨rfl, rfl⟩ | ⟨rfl, rfl⟩ | ⟨rfl, rfl, rfl⟩ | ⟨rfl, rfl, h⟩ | ⟨u, hu, rfl, rfl, rfl⟩ | ⟨h, rfl⟩
  · exact Or.inr ⟨by decide, fun q => absurd q (by decide)⟩
  · exact Or.inr ⟨by decide, fun q => absurd q (by decide)⟩
  · exact Or.inr ⟨by decide, fun q => absurd q (by decide)⟩
  · exact Or.inr ⟨by decide, fun q => absurd q (by decide)⟩
  · by_cases c : u < 9 ∨ 11 < u
    · exact Or.inr ⟨(g u hu c).1, fun _ => (g u hu c).2⟩
    · refine Or.inl ⟨u - 9, by omega, ?_, rfl, ?_⟩
      · congr 1; omega
      · congr 1; omega
  · refine Or.inr ⟨?_, fun q => absurd q (by decide)⟩
    rcases h with ⟨rfl, rfl⟩ | ⟨rfl, rfl⟩ | ⟨rfl, rfl⟩ | ⟨rfl, rfl⟩ | ⟨rfl, rfl⟩ | ⟨rfl, rfl⟩ | ⟨rfl, rfl⟩ | ⟨rfl, rfl⟩ | ⟨rfl, rfl⟩ | ⟨rfl, rfl⟩ | ⟨rfl, rfl⟩ | ⟨rfl, rfl⟩ | ⟨rfl, rfl⟩ <;> decide
section
variable {X : q_X} {o nb nl nd nw nk t ln : Nat} {σ μ σ' μ' : MSt}
theorem s_X4begin (o r : Nat) (hr : r < 3) (σ : MSt) : f_X4_begin o (nI r) σ = some (mI σ (o + 3) r (σ.1 o 5)) := by
  have g : ∀ r : Nat, r < 3 → ¬ nI r < 0 ∧ ¬ (3 : Int32) ≤ nI r ∧ k_inb (nI r) 3 = true ∧ (nI r).toNatClampNeg = r := by decide
  obtain ⟨g1, g2, g3, g4⟩ := g r hr
  unfold f_X4_begin f_X4_begin_b19
  rw [if_neg g1, if_neg g2, e_ck g3, g4, e_nm]
theorem s_X4end (o r : Nat) (hr : r < 3) (σ : MSt) : f_X4_end o (nI r) σ = some (mI σ (o + 4) r (σ.1 o 5)) := by
  have g : ∀ r : Nat, r < 3 → ¬ nI r < 0 ∧ ¬ (3 : Int32) ≤ nI r ∧ k_inb (nI r) 3 = true ∧ (nI r).toNatClampNeg = r := by decide
  obtain ⟨g1, g2, g3, g4⟩ := g r hr
  unfold f_X4_end f_X4_end_b19
  rw [if_neg g1, if_neg g2, e_ck g3, g4, e_nm]
/-- the class's law behind a fault -/
theorem d_law (h : q_CB X o σ) (d : ¬ σ.1 7 4 = 0) (r : Nat) (hr : r < 3) : ∃ σ', (k_ck (k_ch (σ.1 7 1)) <| k_nm (σ.1 7 1).toNatClampNeg fun o1066 => k_bv (f_X4_begin (o1066 + 7) (nI r) σ) fun σ10 => k_bv (f_X7_readExpression σ10) fun σ11 => k_ck (k_ch (σ11.1 7 1)) <| k_nm (σ11.1 7 1).toNatClampNeg fun o1081 => k_bv (f_X4_end (o1081 + 7) (nI r) σ11) fun σ12 => some σ12) = some σ' ∧ q_DD X o σ σ' := by
  obtain ⟨k1, k2⟩ := h.c
  have s1 := q_DD.mo h (o + 7 + 3) r (σ.1 (o + 7) 5) (by omega) (by omega)
  obtain ⟨σ2, a1, a2⟩ := d_expr s1.1 (by rw [s1.2.1]; exact d)
  have s2 := s1.trans a2
  obtain ⟨k3, k4⟩ := s2.1.c
  have s3 := s2.trans (q_DD.mo s2.1 (o + 7 + 4) r (σ2.1 (o + 7) 5) (by omega) (by omega))
  rw [e_ck k1, e_nm, k2, s_X4begin _ r hr, e_bvS, a1, e_bvS, e_ck k3, e_nm, k4, s_X4end _ r hr, e_bvS]
  exact ⟨_, rfl, s3⟩
/-- the law itself, both sides -/
theorem l_lawE (M : q_CM X) {σ0 μ0 : MSt} {t0 : Nat} (gc : q_GC o σ0 σ) (gm : q_GM μ0 μ) (ht0 : t0 < t) (B : q_zB X o nb σ μ) (A : q_zA X t σ μ) (P : q_pr2 o nb nl nd nw nk σ μ) (h17 : μ.1 0 17 = nI ln) (hln : ln ≤ t) (r : Nat) (hr : r < 3) : ∃ σ' μ', (k_bv (k_ck (k_ch (σ.1 7 1)) <| k_nm (σ.1 7 1).toNatClampNeg fun o1066 => k_bv (f_X4_begin (o1066 + 7) (nI r) σ) fun σ10 => k_bv (f_X7_readExpression σ10) fun σ11 => k_ck (k_ch (σ11.1 7 1)) <| k_nm (σ11.1 7 1).toNatClampNeg fun o1081 => k_bv (f_X4_end (o1081 + 7) (nI r) σ11) fun σ12 => some σ12) fun σ3 => f_X7_readLine_b125 σ3) = some σ' ∧ (k_bv (k_bd (f_X12_fresher 8 μ) fun q4 σ3 => k_ck (k_inb (3 + nI r) 6) <| k_nm (mI σ3 11 (3 + nI r).toNatClampNeg q4) fun σ5 => k_bv (f_X12_expression σ5) fun σ6 => k_bd (f_X12_fresher 8 σ6) fun q8 σ7 => k_ck (k_inb (3 + nI r) 6) <| k_nm (mI σ7 12 (3 + nI r).toNatClampNeg q8) fun σ9 => some σ9) fun s => f_X12_line_b360 s) = some μ' ∧ q_OUT X o t0 ln σ0 μ0 σ' μ' := by
  have ho := B.2.1
  obtain ⟨k1, k2⟩ := B.c
  obtain ⟨⟨⟨c1, c2, c3, c4⟩, ⟨d1, d2, d3, d4⟩, ⟨e1, e2, e3, e4⟩, g1, g2, g3⟩, ⟨s1, s2, s3, s4⟩, pl, pd, pw, pL, td⟩ := id P
  have hK : xK X ≤ 700 := by have := M.1.1; have := M.2.1; omega
  have tK := A.2.2.2.1
  have in3 : k_inb ((3 : Int32) + nI r) 6 = true ∧ ((3 : Int32) + nI r).toNatClampNeg = 3 + r := by
    have : ∀ r : Nat, r < 3 → k_inb ((3 : Int32) + nI r) 6 = true ∧ ((3 : Int32) + nI r).toNatClampNeg = 3 + r := by decide
    exact this r hr
  have fr8 : ∀ ν : MSt, f_X12_fresher 8 ν = some (ν.1 2 17, ν) := fun ν => s_fresher 8 (by omega) ν
  rw [e_ck k1, e_nm, k2, s_X4begin _ r hr, e_bvS, d4, fr8, e_bdS, e_ck in3.1, in3.2, e4, e_nm]
  unfold f_X7_readExpression f_X12_expression
  rw [e_nm, e_nm, e_nm, e_nm]
  -- the states at its begin
  have a7 : ∀ j, j ≠ 7 → j ≠ 9 → j ≠ 10 → j ≠ 11 → (mI (mI (mI (mI (mI σ (o + 7 + 3) r (nI nk)) 7 7 0) 7 9 0) 7 10 1) 7 11 1).1 7 j = σ.1 7 j := fun j p q s u => by rw [m_I, if_neg (by omega), m_I, if_neg (by omega), m_I, if_neg (by omega), m_I, if_neg (by omega), m_Ir _ _ _ _ (by omega)]
  have a77 : (mI (mI (mI (mI (mI σ (o + 7 + 3) r (nI nk)) 7 7 0) 7 9 0) 7 10 1) 7 11 1).1 7 7 = 0 := by rw [m_I, if_neg (by omega), m_I, if_neg (by omega), m_I, if_neg (by omega), m_I, if_pos ⟨rfl, rfl⟩]
  have a79 : (mI (mI (mI (mI (mI σ (o + 7 + 3) r (nI nk)) 7 7 0) 7 9 0) 7 10 1) 7 11 1).1 7 9 = 0 := by rw [m_I, if_neg (by omega), m_I, if_neg (by omega), m_I, if_pos ⟨rfl, rfl⟩]
  have a710 : (mI (mI (mI (mI (mI σ (o + 7 + 3) r (nI nk)) 7 7 0) 7 9 0) 7 10 1) 7 11 1).1 7 10 = 1 := by rw [m_I, if_neg (by omega), m_I, if_pos ⟨rfl, rfl⟩]
  have a711 : (mI (mI (mI (mI (mI σ (o + 7 + 3) r (nI nk)) 7 7 0) 7 9 0) 7 10 1) 7 11 1).1 7 11 = 1 := by rw [m_I, if_pos ⟨rfl, rfl⟩]
  have ar : ∀ q, q ≠ 7 → q ≠ o + 10 → (mI (mI (mI (mI (mI σ (o + 7 + 3) r (nI nk)) 7 7 0) 7 9 0) 7 10 1) 7 11 1).1 q = σ.1 q := fun q p s => by rw [m_Ir _ _ _ _ p, m_Ir _ _ _ _ p, m_Ir _ _ _ _ p, m_Ir _ _ _ _ p, m_Ir _ _ _ _ (by omega)]
  have a10 : ∀ j, (mI (mI (mI (mI (mI σ (o + 7 + 3) r (nI nk)) 7 7 0) 7 9 0) 7 10 1) 7 11 1).1 (o + 10) j = if j = r then nI nk else σ.1 (o + 10) j := fun j => by
    rw [m_Ir _ _ _ _ (by omega), m_Ir _ _ _ _ (by omega), m_Ir _ _ _ _ (by omega), m_Ir _ _ _ _ (by omega), m_I]; simp
  have al : (mI (mI (mI (mI (mI σ (o + 7 + 3) r (nI nk)) 7 7 0) 7 9 0) 7 10 1) 7 11 1).2 = σ.2 := rfl
  generalize mI (mI (mI (mI (mI σ (o + 7 + 3) r (nI nk)) 7 7 0) 7 9 0) 7 10 1) 7 11 1 = σ2 at *
  have br : ∀ q, q ≠ 11 → (mI μ 11 (3 + r) (nI nk)).1 q = μ.1 q := fun q p => m_Ir _ _ _ _ p
  have b11 : ∀ j, (mI μ 11 (3 + r) (nI nk)).1 11 j = if j = 3 + r then nI nk else μ.1 11 j := fun j => by rw [m_I]; simp
  have gmb : q_GM μ (mI μ 11 (3 + r) (nI nk)) := q_GM.mh _ _ _ _ (by omega) (by unfold q_hf; simp)
  generalize mI μ 11 (3 + r) (nI nk) = μ1 at *
  have gc2 : q_GC o σ σ2 := ⟨fun q p _ s => ar q p (by omega), al⟩
  have E : q_EX X o nb t [] [] nk nk 0 1 1 σ2 μ1 := by
    refine ⟨?_, ⟨by rw [a7 4 (by omega) (by omega) (by omega) (by omega)]; exact A.1, by rw [br 0 (by omega)]; exact A.2.1, by rw [a7 2 (by omega) (by omega) (by omega) (by omega)]; exact A.2.2.1, ?_⟩, ⟨a77, trivial⟩, ⟨by rw [ar (o + 7) (by omega) (by omega)]; exact d4, by rw [br 2 (by omega)]; exact e4⟩, ⟨by rw [a7 8 (by omega) (by omega) (by omega) (by omega)]; exact g1, by rw [br 0 (by omega)]; exact g2⟩, ⟨a79, by rw [br 0 (by omega)]; exact g3⟩, a710, a711, ⟨fun j hj => ?_, fun j hj => absurd hj (by simp)⟩, c4, by omega, by simp, by simp⟩
    · obtain ⟨b1, b2, b3, b4, b5, b6, b7⟩ := B
      refine ⟨b1.eq (ar 1 (by omega) (by omega)) (ar 3 (by omega) (by omega)) (ar 4 (by omega) (by omega)) (ar 5 (by omega) (by omega)), b2, by rw [a7 1 (by omega) (by omega) (by omega) (by omega)]; exact b3, b4, by rw [ar o (by omega) (by omega)]; exact b5, by rw [br 2 (by omega)]; exact b6, fun i hi => ?_⟩
      rw [ar (o + 1) (by omega) (by omega), br 3 (by omega)]
      exact b7 i hi
    · have a4 := A.2.2.2
      unfold q_RT at a4 ⊢
      rw [br 1 (by omega), br 0 (by omega)]
      exact a4
    · rw [ar (o + 8) (by omega) (by omega), ar (o + 9) (by omega) (by omega), br 13 (by omega), br 14 (by omega)]
      exact pL.2 j hj
  obtain ⟨μ2, y1, y2, y3⟩ := lv_all M 150 0 (by omega) o nb t nk nk 0 [] 1 σ2 μ1 FU 0 E (Or.inl rfl) (fun _ => rfl) (fun q => by omega) (by unfold FU; omega) (by omega) (by omega)
  rw [y1, e_bvS, fr8, e_bdS, e_ck in3.1, e_nm, e_bvS]
  have z12 : ∀ q, q ≠ 12 → (mI μ2 12 (3 + r) (μ2.1 2 17)).1 q = μ2.1 q := fun q p => m_Ir _ _ _ _ p
  have w12 : ∀ j, (mI μ2 12 (3 + r) (μ2.1 2 17)).1 12 j = if j = 3 + r then μ2.1 2 17 else μ2.1 12 j := fun j => by rw [m_I]; simp
  have gmc : q_GM μ0 (mI μ2 12 (3 + r) (μ2.1 2 17)) := ((gm.trans gmb).trans y2.gm).trans (q_GM.mh _ _ _ _ (by omega) (by unfold q_hf; simp))
  have z1 : (0 : Int32) = nI 0 := rfl
  rw [z1]
  -- behind a fault of the class
  have dead : ∀ σ3 : MSt, q_CB X o σ3 → (k_bv (k_bv (some σ3) fun σ11 => k_ck (k_ch (σ11.1 7 1)) <| k_nm (σ11.1 7 1).toNatClampNeg fun o1081 => k_bv (f_X4_end (o1081 + 7) (nI r) σ11) fun σ12 => some σ12) fun σ3 => f_X7_readLine_b125 σ3) = f_X7_readLine_b125 (mI σ3 (o + 7 + 4) r (σ3.1 (o + 7) 5)) ∧ q_DD X o σ3 (mI σ3 (o + 7 + 4) r (σ3.1 (o + 7) 5)) := by
    intro σ3 C
    obtain ⟨k3, k4⟩ := C.c
    rw [e_bvS, e_ck k3, e_nm, k4, s_X4end _ r hr, e_bvS, e_bvS]
    exact ⟨rfl, q_DD.mo C (o + 7 + 4) r (σ3.1 (o + 7) 5) (by omega) (by omega)⟩
  rcases y3 with ⟨t', P', k', kn', nm', σ3, a1, a2, a3, a4, a5, a6, a7', a8, a9, a10'⟩ | ⟨σ3, a1, a2, a3, a4⟩
  · obtain ⟨B', A', -, -, -, ⟨o1', -⟩, wE', -, -, m1, m2, m3, m4⟩ := id a4
    have m5 : k' + P'.length = kn' := by simpa using m4
    have tK' := A'.2.2.2.1
    have tl' : t' < 2 ^ 31 := by omega
    have a6' : ∀ x, x ∈ P' → ¬ x = 41 ∧ 1 ≤ q_rk x := a6
    by_cases c40 : xS X t' = 40
    · obtain ⟨σ4, u1, u2, u3⟩ := p_tellE a4 0 (by omega) (fun x hx => ⟨(a6' x hx).1, by omega⟩) (Or.inl rfl)
      have E4 := u3.ex u2 a4
      have loop : f_X7_readExpression_b22 FU (nI 0) σ2 = some σ4 := by
        obtain ⟨z, ez⟩ : ∃ z, FU - (t' - t) = z + 1 := ⟨FU - (t' - t) - 1, by unfold FU; omega⟩
        rw [a3, ez]
        show f_X7_readExpression_b22_s (f_X7_readExpression_b22 z) (nI (0 + (t' - t))) σ3 = _
        unfold f_X7_readExpression_b22_s f_X7_readExpression_b127
        rw [if_neg (show ¬ (700 : Int32) < nI (0 + (t' - t)) from nI_nlt (a := 700) (b := 0 + (t' - t)) (by omega) (by omega)), if_pos A'.1, A'.2.2.1, s_sortOf M B'.1 t' tl', e_bdS, wE', if_pos rfl, c40, if_pos rfl, o1', if_pos (show nI 0 = 0 from rfl), show f_X7_tellDownTo 0 σ3 = some σ4 from u1, e_bvS]
      rw [loop]
      obtain ⟨B4, A4, -, ⟨k14, k24⟩, ⟨n14, n24⟩, ⟨-, o24⟩, -, -, KO4, q1, -, -, q4⟩ := id E4
      obtain ⟨D1, D2⟩ := dead σ4 (B4.cb (k' + P'.length) (by omega) k14)
      rw [D1]
      have FE4 : q_FE o nk σ2 σ4 := a8.trans u3.fe (by omega)
      have e17 : μ2.1 2 17 = nI (k' + P'.length) := by simpa using k24
      rw [k14] at D2 ⊢
      rw [e17] at z12 w12 gmc ⊢
      have x12 : ∀ q, q ≠ o + 11 → (mI σ4 (o + 7 + 4) r (nI (k' + P'.length))).1 q = σ4.1 q := fun q p => m_Ir _ _ _ _ (by omega)
      have y12 : ∀ j, (mI σ4 (o + 7 + 4) r (nI (k' + P'.length))).1 (o + 11) j = if j = r then nI (k' + P'.length) else σ4.1 (o + 11) j := fun j => by rw [m_I]; simp
      generalize mI σ4 (o + 7 + 4) r (nI (k' + P'.length)) = σ5 at *
      generalize mI μ2 12 (3 + r) (nI (k' + P'.length)) = μ3 at *
      have cr : ∀ q, q ≠ 7 → q ≠ 8 → q ≠ o + 7 → q ≠ o + 8 → q ≠ o + 9 → q ≠ o + 10 → q ≠ o + 11 → σ5.1 q = σ.1 q := fun q p1 p2 p3 p4 p5 p6 p7 => by rw [x12 q p7, FE4.1 q p1 p2 p3 p4 p5, ar q p1 p6]
      have mr : ∀ q, q ≠ 0 → q ≠ 2 → q ≠ 11 → q ≠ 12 → q ≠ 13 → q ≠ 14 → μ3.1 q = μ.1 q := fun q p1 p2 p3 p4 p5 p6 => by rw [z12 q p4, y2.1 q p1 p2 p5 p6, br q p3]
      have m2r : ∀ j, j ≠ 17 → μ3.1 2 j = μ.1 2 j := fun j p => by rw [z12 2 (by omega), y2.2.2.1 j p, br 2 (by omega)]
      have B5 : q_zB X o nb σ5 μ3 := B4.up (x12 1 (by omega)) (x12 3 (by omega)) (x12 4 (by omega)) (x12 5 (by omega)) (x12 7 (by omega)) (by rw [x12 o (by omega)]) (x12 (o + 1) (by omega)) (by rw [z12 2 (by omega)]) (z12 3 (by omega))
      have A5 : q_zA X t' σ5 μ3 := A4.up (x12 7 (by omega)) (z12 0 (by omega)) (z12 1 (by omega))
      have r8 : ∀ q, q = o + 8 ∨ q = o + 9 → ∀ j, j < nk → σ5.1 q j = σ.1 q j := fun q p j hj => by rw [x12 q (by omega), FE4.2.2.2.1 q p j hj, ar q (by omega) (by omega)]
      have r10 : ∀ j, σ5.1 (o + 10) j = if j = r then nI nk else σ.1 (o + 10) j := fun j => by rw [x12 (o + 10) (by omega), FE4.1 (o + 10) (by omega) (by omega) (by omega) (by omega) (by omega), a10]
      have r11 : ∀ j, σ5.1 (o + 11) j = if j = r then nI (k' + P'.length) else σ.1 (o + 11) j := fun j => by rw [y12, FE4.1 (o + 11) (by omega) (by omega) (by omega) (by omega) (by omega), ar (o + 11) (by omega) (by omega)]
      have t11 : ∀ j, μ3.1 11 j = if j = 3 + r then nI nk else μ.1 11 j := fun j => by rw [z12 11 (by omega), y2.1 11 (by omega) (by omega) (by omega) (by omega), b11]
      have t12 : ∀ j, μ3.1 12 j = if j = 3 + r then nI (k' + P'.length) else μ.1 12 j := fun j => by rw [w12, y2.1 12 (by omega) (by omega) (by omega) (by omega), br 12 (by omega)]
      have KN5 : ∀ j, j < k' + P'.length → q_KN (σ5.1 (o + 8) j) (σ5.1 (o + 9) j) (μ3.1 13 (64 + j)) (μ3.1 14 (64 + j)) := fun j hj => by
        rw [x12 (o + 8) (by omega), x12 (o + 9) (by omega), z12 13 (by omega), z12 14 (by omega)]
        exact KO4.1 j hj
      have wf5 : q_wf (σ5.1 (o + 8)) (k' + P'.length - nk) nk 0 := by
        refine q_rn_wf (σ5.1 (o + 8)) (q_gk μ3) _ _ _ (fun j h1 h2 => q_KN_gk (KN5 j (by omega))) ?_
        rw [q_rn_cg (q_gk μ2) (q_gk μ3) _ _ _ (fun j h1 h2 => by unfold q_gk; rw [z12 13 (by omega), z12 14 (by omega)])]
        exact a10' 0
      have P5 : q_pr2 o nb nl nd nw (k' + P'.length) σ5 μ3 := by
        refine ⟨⟨⟨c1, c2, c3, by omega⟩, ⟨?_, ?_, ?_, ?_⟩, ⟨?_, ?_, ?_, ?_⟩, ?_, ?_, ?_⟩, ⟨?_, ?_, ?_, ?_⟩, ?_, ?_, ?_, ⟨?_, KN5⟩, ?_⟩
        · rw [cr o (by omega) (by omega) (by omega) (by omega) (by omega) (by omega) (by omega)]; exact d1
        · rw [cr o (by omega) (by omega) (by omega) (by omega) (by omega) (by omega) (by omega)]; exact d2
        · rw [cr o (by omega) (by omega) (by omega) (by omega) (by omega) (by omega) (by omega)]; exact d3
        · rw [x12 (o + 7) (by omega)]; exact k14
        · rw [m2r 10 (by omega)]; exact e1
        · rw [m2r 11 (by omega)]; exact e2
        · rw [m2r 12 (by omega)]; exact e3
        · rw [z12 2 (by omega)]; exact e17
        · rw [x12 7 (by omega), n14]; congr 1; omega
        · rw [z12 0 (by omega), n24]; congr 1; omega
        · rw [z12 0 (by omega)]; exact o24
        · rw [cr o (by omega) (by omega) (by omega) (by omega) (by omega) (by omega) (by omega), m2r 13 (by omega)]; exact s1
        · rw [cr o (by omega) (by omega) (by omega) (by omega) (by omega) (by omega) (by omega), m2r 14 (by omega)]; exact s2
        · rw [cr o (by omega) (by omega) (by omega) (by omega) (by omega) (by omega) (by omega), m2r 15 (by omega)]; exact s3
        · rw [cr o (by omega) (by omega) (by omega) (by omega) (by omega) (by omega) (by omega), m2r 16 (by omega)]; exact s4
        · rw [cr (o + 2) (by omega) (by omega) (by omega) (by omega) (by omega) (by omega) (by omega), mr 4 (by omega) (by omega) (by omega) (by omega) (by omega) (by omega), mr 5 (by omega) (by omega) (by omega) (by omega) (by omega) (by omega), mr 6 (by omega) (by omega) (by omega) (by omega) (by omega) (by omega)]; exact pl
        · rw [cr (o + 3) (by omega) (by omega) (by omega) (by omega) (by omega) (by omega) (by omega), cr (o + 4) (by omega) (by omega) (by omega) (by omega) (by omega) (by omega) (by omega), cr (o + 5) (by omega) (by omega) (by omega) (by omega) (by omega) (by omega) (by omega), mr 7 (by omega) (by omega) (by omega) (by omega) (by omega) (by omega), mr 8 (by omega) (by omega) (by omega) (by omega) (by omega) (by omega), mr 9 (by omega) (by omega) (by omega) (by omega) (by omega) (by omega)]; exact pd
        · rw [cr (o + 6) (by omega) (by omega) (by omega) (by omega) (by omega) (by omega) (by omega), mr 10 (by omega) (by omega) (by omega) (by omega) (by omega) (by omega)]; exact pw
        · intro r' hr'
          by_cases er : r' = r
          · subst er
            refine ⟨nk, k' + P'.length, by omega, by omega, by rw [r10, if_pos rfl], by rw [r11, if_pos rfl], by rw [t11, if_pos rfl], by rw [t12, if_pos rfl], fun _ => wf5⟩
          · obtain ⟨f, e, f1, f2, f3, f4, f5, f6, f7⟩ := pL.1 r' hr'
            refine ⟨f, e, f1, by omega, by rw [r10, if_neg er]; exact f3, by rw [r11, if_neg er]; exact f4, by rw [t11, if_neg (by omega)]; exact f5, by rw [t12, if_neg (by omega)]; exact f6, fun q => ?_⟩
            exact q_wf_cg _ _ _ _ _ (fun j h1 h2 => r8 (o + 8) (Or.inl rfl) j (by omega)) (f7 q)
        · rw [x12 7 (by omega), FE4.2.1 3 (by omega), a7 3 (by omega) (by omega) (by omega) (by omega), z12 0 (by omega), y2.2.1 16 (by omega), br 0 (by omega)]; exact td
      exact q_ouA M (((gc.trans gc2).trans FE4.gc).trans D2.2.2.2) gmc t' (by omega) B5 A5 P5 (by rw [z12 0 (by omega), y2.2.1 17 (by omega), br 0 (by omega)]; exact h17) (by omega)
    · obtain ⟨z, ez⟩ : ∃ z, FU - (t' - t) = z + 2 := ⟨FU - (t' - t) - 2, by unfold FU; omega⟩
      obtain ⟨μd, σd, b1, b2, b3, b4, b5, b6, b7, b8⟩ := p_stop M a4 a7' a6' (fun q => absurd q c40) (fun _ => rfl) z (0 + (t' - t)) (by omega)
      rw [a3, ez, b3]
      obtain ⟨D1, D2⟩ := dead σd b4
      rw [D1]
      obtain ⟨σe, e1', e2'⟩ := d_end M D2.1 (by rw [D2.2.1]; exact b5.n.1)
      have TS' := A'.2.2.2.2.2.2.2.2
      have g40 : q_SG 40 59 := by unfold q_SG; decide
      have zA23 : (mI μ2 12 (3 + r) (μ2.1 2 17)).1 0 23 = 0 := by rw [z12 0 (by omega)]; exact A'.2.1
      have TS2 : q_TS (xS X t') (xV X t') ((mI μ2 12 (3 + r) (μ2.1 2 17)).1 0 21) ((mI μ2 12 (3 + r) (μ2.1 2 17)).1 0 22) := by rw [z12 0 (by omega)]; exact TS'
      have S := s_isSign zA23 TS2 g40
      rw [if_neg c40] at S
      have p20 : (mI μ2 12 (3 + r) (μ2.1 2 17)).1 0 20 = nI (xP X t') := by rw [z12 0 (by omega)]; exact A'.2.2.2.2.2.2.1
      generalize mI μ2 12 (3 + r) (μ2.1 2 17) = μ3 at *
      have ref : f_X12_line_b360 μ3 = some (mI (mI (mI μ3 0 23 1) 0 24 (nI (xP X t'))) 0 17 (μ3.1 0 17 + 1)) := by
        unfold f_X12_line_b360 f_X12_line_b389 f_X12_wrong
        have q20 : (mI μ3 0 23 1).1 0 20 = nI (xP X t') := by rw [m_I, if_neg (by omega)]; exact p20
        have q17 : (mI (mI μ3 0 23 1) 0 24 (nI (xP X t'))).1 0 17 = μ3.1 0 17 := by rw [m_I, if_neg (by omega), m_I, if_neg (by omega)]
        rw [if_pos zA23, S, e_bdS, if_pos rfl, if_pos zA23, e_nm, q20, e_nm, e_bvS, q17, e_nm]
      refine ⟨σe, _, e1', ref, ((((gc.trans gc2).trans a8.gc).trans b6).trans D2.2.2.2).trans e2'.2.2.2, ((gmc.trans (q_GM.m0 _ 23 _ (by omega))).trans (q_GM.m0 _ 24 _ (by omega))).trans (q_GM.m0 _ 17 _ (by omega)), Or.inr ⟨e2'.1, t', ?_, ?_, ?_, tK', ?_⟩⟩
      · rw [e2'.2.1, D2.2.1, b7]; decide
      · rw [e2'.2.1, D2.2.1, b7, m_I, if_neg (by omega), m_I, if_neg (by omega), m_I, if_pos ⟨rfl, rfl⟩]
      · rw [e2'.2.2.1, D2.2.2.1, b8]
      · rw [m_I, if_neg (by omega), m_I, if_pos ⟨rfl, rfl⟩]
  · rw [a1]
    obtain ⟨D1, D2⟩ := dead σ3 a2
    rw [D1]
    have DD : q_zD X (mI σ3 (o + 7 + 4) r (σ3.1 (o + 7) 5)) (mI μ2 12 (3 + r) (μ2.1 2 17)) := a3.fr D2.2.1 D2.2.2.1 (by rw [z12 0 (by omega)]) (by rw [z12 0 (by omega)])
    exact q_outD M (((gc.trans gc2).trans a4).trans D2.2.2.2) gmc D2.1 DD
end
