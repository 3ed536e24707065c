theorem q_n1 {y : Nat} (hy : y < 2 ^ 31) : ¬ nI y = -1 := by
  intro e
  have := congrArg Int32.toInt e
  rw [nI_toInt hy, show (-1 : Int32).toInt = -1 from by decide] at this
  omega
def q_nt (nb : Nat) (σ : MSt) (U : Nat → Nat → Int32) (i : Nat) : Prop := σ.1 82 i = U 37 i ∧ ((σ.1 82 i = -1 ∧ (∃ b, b < nb ∧ σ.1 79 i = nI b ∧ U 34 i = nI b) ∧ (∃ k, k ≤ 99 ∧ σ.1 80 i = nI k ∧ U 35 i = nI k) ∧ σ.1 81 i = U 36 i ∧ (σ.1 81 i = 0 ∨ σ.1 81 i = 1)) ∨ ∃ k, k < i ∧ σ.1 82 i = nI k)
theorem s_known {nb : Nat} {σ μ : MSt} (h : q_NO nb σ μ.1) : ∃ kn, kn ≤ 24 ∧ f_X6_knownBy σ = some (nI kn, σ) ∧ f_X12_knownMany μ = some (nI kn, μ) ∧ ∀ i, i < kn → q_nt nb σ μ.1 i := by
  obtain ⟨m, hm, h1, h2, h3, h4, h5⟩ := h
  unfold f_X6_knownBy f_X12_knownMany f_X6_knownBy_b26 f_X12_knownMany_b19
  rw [h1, h2, ← h3]
  rcases h4 with e | ⟨k, hk, e⟩
  · rw [e, if_pos rfl, if_pos rfl]
    exact ⟨m, hm, rfl, rfl, h5⟩
  · rw [e, if_neg (q_n1 (by omega)), if_neg (q_n1 (by omega))]
    refine ⟨k, by omega, ?_, rfl, fun i hi => h5 i (by omega)⟩
    unfold k_min
    rw [if_neg (nI_nlt hk (by omega))]
theorem q_heads {nb d : Nat} {lo jo ma la : Nat → Int32} {dr : Int64} {U : Nat → Nat → Int32} {a : Nat} (A : q_AN nb d lo jo ma la dr a U) (hnb : nb ≤ 8) (h : lo 5 = -1) : lo 6 = -1 ∧ lo 4 = U 18 a ∧ ((nb = 0 ∧ lo 4 = -1) ∨ ∃ b, b < nb ∧ lo 4 = nI b) := by
  obtain ⟨-, -, -, -, -, -, -, -, h9⟩ := A
  rcases h9 with ⟨p1, p2, p3, p4⟩ | ⟨b, e, p1, p2, p3, p4, p5⟩
  · exact ⟨p2, p3, p4⟩
  · rw [h] at p2
    exact absurd p2.symm (q_n1 (by omega))
theorem sim_count : Sim_count RR := by
  intro σ μ a0 h
  have hk := h.thr
  obtain ⟨nb, nl, nd, nw, nk, dn, T, hdn, A, -, N, O, -, -, -, hr⟩ := h.thr
  obtain ⟨n, hn1, hn2, hn3, -⟩ := N
  obtain ⟨m, hm1, hm2, hm3, -⟩ := id O
  obtain ⟨kn, hkn, kk1, kk2, -⟩ := s_known O
  have fin : ∀ v, f_X11_count a0 σ = some (v, σ) → f_X12_count a0 μ = some (v, mI μ 0 0 0) → ∃ r σ1 μ1, f_X11_count a0 σ = some (r, σ1) ∧ f_X12_count a0 μ = some (r, μ1) ∧ RR σ1 μ1 := fun v a b => ⟨v, _, _, a, b, hk⟩
  by_cases c0 : a0 = 0
  · subst c0; exact fin (nI nb) (by rw [← T.nbC]; rfl) (by rw [← T.nbM]; rfl)
  by_cases c1 : a0 = 1
  · subst c1; exact fin (nI nl) (by rw [← T.nlC]; rfl) (by rw [← T.nlM]; rfl)
  by_cases c2 : a0 = 2
  · subst c2; exact fin (nI nd) (by rw [← T.ndC]; rfl) (by rw [← T.ndM]; rfl)
  by_cases c3 : a0 = 3
  · subst c3; exact fin (nI nw) (by rw [← T.nwC]; rfl) (by rw [← T.nwM]; rfl)
  by_cases c4 : a0 = 4
  · subst c4; exact fin (nI nk) (by rw [← T.nkC]; rfl) (by rw [← T.nkM]; rfl)
  by_cases c5 : a0 = 5
  · subst c5; exact fin (nI dn) (by rw [← A.1.1]; rfl) (by rw [← A.1.2]; rfl)
  by_cases c6 : a0 = 6
  · subst c6
    have e1 : f_X11_count 6 σ = if σ.1 50 5 = -1 then some (σ.1 50 4, σ) else some (-2, σ) := by
      have : f_X11_count 6 σ = k_bd (if σ.1 50 5 = -1 then some (σ.1 50 4, σ) else some (-2, σ)) (fun q2 σ1 => some (q2, σ1)) := rfl
      rw [this]; split <;> rfl
    have e2 : f_X12_count 6 μ = if (mI μ 0 0 0).1 19 0 = -1 then some ((mI μ 0 0 0).1 18 0, mI μ 0 0 0) else some (-2, mI μ 0 0 0) := rfl
    rw [← A.2.2.2.2.1.1] at e2
    by_cases z : σ.1 50 5 = -1
    · rw [if_pos z] at e1 e2
      rw [← (q_heads A T.le.1 z).2.1] at e2
      exact fin _ e1 e2
    · rw [if_neg z] at e1 e2
      exact fin _ e1 e2
  by_cases c7 : a0 = 7
  · subst c7; exact fin (σ.1 50 5) rfl (by rw [A.2.2.2.2.1.1]; rfl)
  by_cases c8 : a0 = 8
  · subst c8; exact fin (σ.1 50 6) rfl (by rw [A.2.2.2.2.1.2]; rfl)
  by_cases c9 : a0 = 9
  · subst c9; exact fin (σ.1 50 9) rfl (by rw [A.2.2.2.2.2.2.1.1]; rfl)
  by_cases c10 : a0 = 10
  · subst c10; exact fin (σ.1 50 10) rfl (by rw [A.2.2.2.2.2.2.1.2.1]; rfl)
  by_cases c11 : a0 = 11
  · subst c11; exact fin (σ.1 50 11) rfl (by rw [A.2.2.2.2.2.2.1.2.2]; rfl)
  by_cases c12 : a0 = 12
  · subst c12
    have e1 : f_X11_count 12 σ = if σ.1 50 7 = 0 then some (0, σ) else some (1, σ) := by
      have : f_X11_count 12 σ = k_bd (if σ.1 50 7 = 0 then some (0, σ) else some (1, σ)) (fun q2 σ1 => some (q2, σ1)) := rfl
      rw [this]; split <;> rfl
    have e2 : f_X12_count 12 μ = some ((mI μ 0 0 0).1 21 0, mI μ 0 0 0) := rfl
    rw [← A.2.2.2.2.2.1.1] at e2
    rcases A.2.2.2.2.2.1.2 with z | z
    · rw [if_pos z] at e1; rw [z] at e2; exact fin _ e1 e2
    · rw [if_neg (by rw [z]; decide)] at e1; rw [z] at e2; exact fin _ e1 e2
  by_cases c13 : a0 = 13
  · subst c13; exact fin (nI m) (by rw [← hm2]; rfl) (by rw [← hm3]; rfl)
  by_cases c14 : a0 = 14
  · subst c14
    have e1 : f_X11_count 14 σ = k_bd (f_X6_knownBy σ) (fun q4 σ3 => some (q4, σ3)) := rfl
    have e2 : f_X12_count 14 μ = k_bd (f_X12_knownMany (mI μ 0 0 0)) (fun q4 σ3 => some (q4, σ3)) := rfl
    rw [kk1, e_bdS] at e1
    rw [kk2, e_bdS] at e2
    exact fin _ e1 e2
  by_cases c15 : a0 = 15
  · subst c15; exact fin (nI n) (by rw [← hn2]; rfl) (by rw [← hn3]; rfl)
  refine fin (-1) ?_ ?_
  · unfold f_X11_count f_X11_count_b147 f_X11_countOfLog
    simp only [c0, c1, c2, c3, c4, c5, c6, c7, c8, c9, c10, c11, c12, c13, c14, c15, if_false]
    rfl
  · unfold f_X12_count
    simp only [e_nm, c0, c1, c2, c3, c4, c5, c6, c7, c8, c9, c10, c11, c12, c13, c14, c15, if_false]
theorem sim_known : Sim_known RR := by
  intro σ μ a0 h
  have hk := h.thr
  obtain ⟨nb, nl, nd, nw, nk, dn, T, hdn, A, I, N, O, P, F, W, hr⟩ := h.thr
  obtain ⟨m, hm, h1, h2, h3, h4, h5⟩ := id O
  unfold f_X11_known f_X12_known f_X11_known_b16 f_X12_known_b18
  simp only [e_nm]
  rw [h1, h2]
  by_cases c : a0 < -1
  · rw [if_pos c, if_pos c]; exact ⟨_, _, _, rfl, rfl, hk⟩
  · rw [if_neg c, if_neg c]
    by_cases c2 : a0 ≤ nI m
    · rw [if_pos c2, if_pos c2]
      have r1 : ∀ r, r ≠ 78 → (mI σ 78 8 a0).1 r = σ.1 r := fun r hr => m_Ir _ _ _ _ hr
      have r2 : ∀ r, r ≠ 0 → (mI (mI μ 0 0 0) 0 60 a0).1 r = (mI μ 0 0 0).1 r := fun r hr => m_Ir _ _ _ _ hr
      have r3 : ∀ j, j ≠ 60 → (mI (mI μ 0 0 0) 0 60 a0).1 0 j = (mI μ 0 0 0).1 0 j := fun j hj => by rw [m_I, if_neg (by omega)]
      refine ⟨_, _, _, rfl, rfl, nb, nl, nd, nw, nk, dn, T.eq (fun r _ _ => r1 r (by omega)) (fun r _ _ => r2 r (by omega)), hdn, ?_, ?_, ?_, ?_, ?_, ?_, ?_, ?_⟩
      · exact A.eq (fun r _ _ => r1 r (by omega)) rfl (fun r _ _ => by rw [r2 r (by omega)]) (fun r _ _ b _ => by rw [r2 r (by omega)])
      · exact I.eq (by rw [r1 0 (by omega)]) (fun r _ _ => r1 r (by omega)) rfl (r3 44 (by omega)) (fun r _ _ => by rw [r2 r (by omega)]) (fun r _ _ b _ => by rw [r2 r (by omega)])
      · exact N.eq (by rw [r1 62 (by omega)]) (fun r _ _ => r1 r (by omega)) (fun r _ _ => r1 r (by omega)) rfl (r3 45 (by omega)) (fun r _ _ b _ => by rw [r2 r (by omega)]) (fun r _ _ b _ => by rw [r2 r (by omega)])
      · refine ⟨m, hm, by rw [m_I, if_neg (by omega)]; exact h1, by rw [r3 59 (by omega)]; exact h2, by rw [m_I, m_I]; simp, ?_, ?_⟩
        · rw [show (mI σ 78 8 a0).1 78 8 = a0 from by rw [m_I]; simp]
          have hm1 : (-1 : Int32).toInt = -1 := by decide
          rw [Int32.lt_iff_toInt_lt, hm1] at c
          rw [Int32.le_iff_toInt_le, nI_toInt (by omega)] at c2
          by_cases z : a0.toInt = -1
          · left; apply Int32.toInt_inj.mp; rw [z, hm1]
          · right
            obtain ⟨b, hb, e⟩ := q_of (x := a0) (n := m + 1) ⟨by omega, by omega⟩ (by omega)
            exact ⟨b, by omega, e⟩
        · rw [r1 79 (by omega), r1 80 (by omega), r1 81 (by omega), r1 82 (by omega), r2 34 (by omega), r2 35 (by omega), r2 36 (by omega), r2 37 (by omega)]
          exact h5
      · exact P.eq (by rw [r1 1 (by omega)]) (r1 2 (by omega)) (r3 2 (by omega)) (r2 1 (by omega))
      · exact F.eq (by rw [r1 0 (by omega)]) (by rw [r1 0 (by omega)]) (r3 25 (by omega)) (r3 26 (by omega))
      · exact W.eq (r1 6 (by omega))
      · exact hr.eq (r3 46 (by omega)) (r3 47 (by omega)) (r3 48 (by omega)) (r3 50 (by omega))
    · rw [if_neg c2, if_neg c2]; exact ⟨_, _, _, rfl, rfl, hk⟩
theorem q_nar {x : Int32} (h : x = 0 ∨ x = 1) : vp_nar .boolean x = x := by rcases h with rfl | rfl <;> rfl
/-- a call that touches the notes alone -/
theorem RR_notes {σ σ' μ μ' : MSt} (h : RR σ μ) (c : ∀ r, (r < 78 ∨ 82 < r) → σ'.1 r = σ.1 r) (c2 : σ'.2 = σ.2) (u : ∀ r, 0 < r → (r < 34 ∨ 37 < r) → μ'.1 r = μ.1 r) (u0 : ∀ j, j < 59 → μ'.1 0 j = μ.1 0 j) (hN : ∀ nb, nb ≤ 8 → σ.1 10 7 = nI nb → q_NO nb σ μ.1 → q_NO nb σ' μ'.1) : RR σ' μ' := by
  obtain ⟨nb, nl, nd, nw, nk, dn, T, hdn, A, I, N, O, P, F, W, hr⟩ := h
  have hN := hN nb T.le.1 T.nbC O
  refine ⟨nb, nl, nd, nw, nk, dn, T.eq (fun r _ _ => c r (by omega)) (fun r _ _ => u r (by omega) (by omega)), hdn, ?_, ?_, ?_, hN, ?_, ?_, ?_, ?_⟩
  · exact A.eq (fun r _ _ => c r (by omega)) (by rw [c2]) (fun r _ _ => by rw [u r (by omega) (by omega)]) (fun r _ _ b _ => by rw [u r (by omega) (by omega)])
  · exact I.eq (by rw [c 0 (by omega)]) (fun r _ _ => c r (by omega)) (by rw [c2]) (u0 44 (by omega)) (fun r _ _ => by rw [u r (by omega) (by omega)]) (fun r _ _ b _ => by rw [u r (by omega) (by omega)])
  · exact N.eq (by rw [c 62 (by omega)]) (fun r _ _ => c r (by omega)) (fun r _ _ => c r (by omega)) (by rw [c2]) (u0 45 (by omega)) (fun r _ _ b _ => by rw [u r (by omega) (by omega)]) (fun r _ _ b _ => by rw [u r (by omega) (by omega)])
  · exact P.eq (by rw [c 1 (by omega)]) (c 2 (by omega)) (u0 2 (by omega)) (u 1 (by omega) (by omega))
  · exact F.eq (by rw [c 0 (by omega)]) (by rw [c 0 (by omega)]) (u0 25 (by omega)) (u0 26 (by omega))
  · exact W.eq (c 6 (by omega))
  · exact hr.eq (u0 46 (by omega)) (u0 47 (by omega)) (u0 48 (by omega)) (u0 50 (by omega))
theorem q_lt24 {m : Nat} (hm : m ≤ 24) : (nI m < 24) ↔ ¬ nI m = 24 := by
  rw [show (24 : Int32) = nI 24 from rfl, nI_ltI (by omega) (by omega), nI_eq (by omega) (by omega)]
  omega
theorem sim_note : Sim_note RR := by
  intro σ μ a0 a1 a2 h01 h
  have hk := h.thr
  obtain ⟨nb, nl, nd, nw, nk, dn, T, hdn, A, I, N, O, P, F, W, hr⟩ := h.thr
  obtain ⟨m, hm, h1, h2, h3, h4, h5⟩ := id O
  unfold f_X11_note f_X12_note f_X11_note_b33 f_X12_note_b32
  rw [e_nm, s_X0_hasBay 10 a0 σ nb T.nbC T.le.1, s_X12_isBay a0 _ nb T.nbM T.le.1, e_bdS, e_bdS, h1, h2]
  by_cases c : 0 ≤ a0.toInt ∧ a0.toInt < nb
  · rw [if_pos c, if_neg q_t10, if_neg q_t10]
    by_cases c1 : a1 < 0
    · rw [if_pos c1, if_pos c1]; exact ⟨_, _, _, rfl, rfl, hk⟩
    · rw [if_neg c1, if_neg c1]
      by_cases c2 : 99 < a1
      · rw [if_pos c2, if_pos c2]; exact ⟨_, _, _, rfl, rfl, hk⟩
      · rw [if_neg c2, if_neg c2]
        by_cases c3 : nI m = 24
        · rw [if_pos c3, if_neg (fun q => (q_lt24 hm).mp q c3)]; exact ⟨_, _, _, rfl, rfl, hk⟩
        · have c4 := (q_lt24 hm).mpr c3
          have hm24 : m < 24 := by rw [show (24 : Int32) = nI 24 from rfl, nI_ltI (by omega) (by omega)] at c4; exact c4
          have km : k_inb (nI m) 24 = true := e_in hm24 (by decide)
          obtain ⟨x, hx, rfl⟩ := q_of c (by have := T.le.1; omega)
          obtain ⟨y, hy, rfl⟩ := nI_of2 (M := 99) (n := 99) (by decide) c1 (Int32.not_lt.mp c2)
          rw [if_neg c3, if_pos c4]
          unfold f_X6_addSight
          rw [h1, if_pos c4]
          have q1 : ∀ (s : MSt) (r j : Nat) (v : Int32), r ≠ 78 → s.1 78 7 = nI m → (mI s r j v).1 78 7 = nI m := fun s r j v hr hs => by rw [m_Ir _ _ _ _ (by omega)]; exact hs
          have q2 : ∀ (s : MSt) (r j : Nat) (v : Int32), r ≠ 0 → s.1 0 59 = nI m → (mI s r j v).1 0 59 = nI m := fun s r j v hr hs => by rw [m_Ir _ _ _ _ (by omega)]; exact hs
          simp only [e_nm, e_ck km, nI_clamp (show m < 2 ^ 31 by omega), q_nar h01]
          rw [q1 _ 79 m (nI x) (by omega) h1, e_ck km, nI_clamp (show m < 2 ^ 31 by omega), q1 _ 80 m (nI y) (by omega) (q1 _ 79 m (nI x) (by omega) h1), e_ck km, nI_clamp (show m < 2 ^ 31 by omega), q1 _ 81 m a2 (by omega) (q1 _ 80 m (nI y) (by omega) (q1 _ 79 m (nI x) (by omega) h1)), e_ck km, nI_clamp (show m < 2 ^ 31 by omega), q1 _ 82 m (-1) (by omega) (q1 _ 81 m a2 (by omega) (q1 _ 80 m (nI y) (by omega) (q1 _ 79 m (nI x) (by omega) h1)))]
          rw [q2 _ 34 m (nI x) (by omega) h2, e_ck km, nI_clamp (show m < 2 ^ 31 by omega), q2 _ 35 m (nI y) (by omega) (q2 _ 34 m (nI x) (by omega) h2), e_ck km, nI_clamp (show m < 2 ^ 31 by omega), q2 _ 36 m a2 (by omega) (q2 _ 35 m (nI y) (by omega) (q2 _ 34 m (nI x) (by omega) h2)), e_ck km, nI_clamp (show m < 2 ^ 31 by omega), q2 _ 37 m (-1) (by omega) (q2 _ 36 m a2 (by omega) (q2 _ 35 m (nI y) (by omega) (q2 _ 34 m (nI x) (by omega) h2)))]
          rw [nI_1, e_bdS]
          refine ⟨nI m, _, _, congrArg (fun z => some (z, _)) (by rw [m_I]; simp; exact nI_pred m), congrArg (fun z => some (z, _)) (by rw [m_I]; simp; exact nI_pred m), RR_notes hk ?_ rfl ?_ ?_ ?_⟩
          · intro r hr
            rw [m_Ir _ _ _ _ (by omega), m_Ir _ _ _ _ (by omega), m_Ir _ _ _ _ (by omega), m_Ir _ _ _ _ (by omega), m_Ir _ _ _ _ (by omega)]
          · intro r h0 hr
            rw [m_Ir _ _ _ _ (by omega), m_Ir _ _ _ _ (by omega), m_Ir _ _ _ _ (by omega), m_Ir _ _ _ _ (by omega), m_Ir _ _ _ _ (by omega)]
          · intro j hj
            rw [m_I, if_neg (by omega), m_Ir _ _ _ _ (by omega), m_Ir _ _ _ _ (by omega), m_Ir _ _ _ _ (by omega), m_Ir _ _ _ _ (by omega)]
          · intro nb' hnb' enb _
            have eb : nb' = nb := (nI_eq (by omega) (by have := T.le.1; omega)).mp (by rw [← enb, ← T.nbC])
            subst eb
            refine ⟨m + 1, by omega, by rw [m_I]; simp, by rw [m_I]; simp, ?_, ?_, ?_⟩
            · simp only [m_I]; simp; exact h3
            · have e8 : (mI (mI (mI (mI (mI σ 79 m (nI x)) 80 m (nI y)) 81 m a2) 82 m (-1)) 78 7 (nI (m + 1))).1 78 8 = σ.1 78 8 := by simp [m_I]
              rw [e8]
              rcases h4 with e | ⟨k, hk, e⟩
              · exact Or.inl e
              · exact Or.inr ⟨k, by omega, e⟩
            · intro i hi
              by_cases ci : i = m
              · subst ci
                simp only [m_I]
                simp
                exact Or.inl ⟨⟨x, hx, rfl⟩, ⟨y, hy, rfl⟩, h01⟩
              · have := h5 i (by omega)
                simp only [m_I]
                simp [ci]
                exact this
  · rw [if_neg c, if_pos rfl, if_pos rfl]; exact ⟨_, _, _, rfl, rfl, hk⟩
theorem sim_out : Sim_out RR := by
  intro σ μ a0 h
  have hk := h.thr
  obtain ⟨nb, nl, nd, nw, nk, dn, T, hdn, A, I, N, O, P, F, W, hr⟩ := h.thr
  obtain ⟨m, hm, h1, h2, h3, h4, h5⟩ := id O
  unfold f_X11_out f_X12_out f_X11_out_b27 f_X12_out_b26
  rw [e_nm, h1, h2]
  by_cases c : a0 < 0
  · rw [if_pos c, if_pos c]; exact ⟨_, _, _, rfl, rfl, hk⟩
  · rw [if_neg c, if_neg c]
    by_cases c2 : nI m ≤ a0
    · rw [if_pos c2, if_pos c2]; exact ⟨_, _, _, rfl, rfl, hk⟩
    · rw [if_neg c2, if_neg c2]
      by_cases c3 : nI m = 24
      · rw [if_pos c3, if_neg (fun q => (q_lt24 hm).mp q c3)]; exact ⟨_, _, _, rfl, rfl, hk⟩
      · have c4 := (q_lt24 hm).mpr c3
        have hm24 : m < 24 := by rw [show (24 : Int32) = nI 24 from rfl, nI_ltI (by omega) (by omega)] at c4; exact c4
        have km : k_inb (nI m) 24 = true := e_in hm24 (by decide)
        obtain ⟨x, hx, rfl⟩ : ∃ x, x < m ∧ a0 = nI x := by
          rcases pk_ix a0 (n := m) (by omega) with q | q | q
          · exact absurd q c
          · exact absurd q c2
          · exact q
        rw [if_neg c3, if_pos c4]
        unfold f_X6_addStrike f_X6_addSight f_X6_addStrike_b25
        rw [h1, if_pos c4]
        have q1 : ∀ (s : MSt) (r j : Nat) (v : Int32), r ≠ 78 → s.1 78 7 = nI m → (mI s r j v).1 78 7 = nI m := fun s r j v hr hs => by rw [m_Ir _ _ _ _ (by omega)]; exact hs
        have q2 : ∀ (s : MSt) (r j : Nat) (v : Int32), r ≠ 0 → s.1 0 59 = nI m → (mI s r j v).1 0 59 = nI m := fun s r j v hr hs => by rw [m_Ir _ _ _ _ (by omega)]; exact hs
        simp only [e_nm, e_ck km, nI_clamp (show m < 2 ^ 31 by omega), q_nar (Or.inl rfl)]
        rw [q1 _ 79 m 0 (by omega) h1, e_ck km, nI_clamp (show m < 2 ^ 31 by omega), q1 _ 80 m 0 (by omega) (q1 _ 79 m 0 (by omega) h1), e_ck km, nI_clamp (show m < 2 ^ 31 by omega), q1 _ 81 m 0 (by omega) (q1 _ 80 m 0 (by omega) (q1 _ 79 m 0 (by omega) h1)), e_ck km, nI_clamp (show m < 2 ^ 31 by omega), q1 _ 82 m (-1) (by omega) (q1 _ 81 m 0 (by omega) (q1 _ 80 m 0 (by omega) (q1 _ 79 m 0 (by omega) h1))), q2 _ 37 m (nI x) (by omega) h2, nI_1, e_bdS]
        have e9 : (mI (mI (mI (mI (mI σ 79 m 0) 80 m 0) 81 m 0) 82 m (-1)) 78 7 (nI (m + 1))).1 78 7 - 1 = nI m := by rw [m_I]; simp; exact nI_pred m
        rw [e9, if_neg (nI_pos (by omega)), if_neg (show ¬ (24 : Int32) ≤ nI m from nI_ge (a := m) (b := 24) (by omega) (by decide)), e_ck km, nI_clamp (show m < 2 ^ 31 by omega), e_bdS]
        refine ⟨nI m, _, _, rfl, congrArg (fun z => some (z, _)) (by rw [m_I]; simp; exact nI_pred m), RR_notes hk ?_ rfl ?_ ?_ ?_⟩
        · intro r hr
          rw [m_Ir _ _ _ _ (by omega), m_Ir _ _ _ _ (by omega), m_Ir _ _ _ _ (by omega), m_Ir _ _ _ _ (by omega), m_Ir _ _ _ _ (by omega), m_Ir _ _ _ _ (by omega)]
        · intro r h0 hr
          rw [m_Ir _ _ _ _ (by omega), m_Ir _ _ _ _ (by omega)]
        · intro j hj
          rw [m_I, if_neg (by omega), m_Ir _ _ _ _ (by omega)]
        · intro nb' hnb' enb _
          have eb : nb' = nb := (nI_eq (by omega) (by have := T.le.1; omega)).mp (by rw [← enb, ← T.nbC])
          subst eb
          refine ⟨m + 1, by omega, by simp [m_I], by rw [m_I]; simp, ?_, ?_, ?_⟩
          · simp only [m_I]; simp; exact h3
          · have e8 : (mI (mI (mI (mI (mI (mI σ 79 m 0) 80 m 0) 81 m 0) 82 m (-1)) 78 7 (nI (m + 1))) 82 m (nI x)).1 78 8 = σ.1 78 8 := by simp [m_I]
            rw [e8]
            rcases h4 with e | ⟨k, hk, e⟩
            · exact Or.inl e
            · exact Or.inr ⟨k, by omega, e⟩
          · intro i hi
            by_cases ci : i = m
            · subst ci
              refine ⟨by simp [m_I], Or.inr ⟨x, hx, by simp [m_I]⟩⟩
            · have := h5 i (by omega)
              simp only [m_I]
              simp [ci]
              exact this
theorem sim_keep : Sim_keep RR := by
  intro σ μ h
  obtain ⟨nb, nl, nd, nw, nk, dn, T, hdn, A, I, N, O, P, F, W, hr⟩ := h.thr
  unfold f_X11_keep f_X12_keep
  rw [e_nm]
  obtain ⟨σ1, e1, p1, p2, p3, p4, p5⟩ := s_X5_take 54 50 (by omega) σ A.s7
  obtain ⟨μ1, g1, w1, w2, w3⟩ := s_X12_takes 3 0 (by omega) (by omega) (by omega) (mI μ 0 0 0)
  have i0 : k_inb (0 : Int32) 24 = true := by decide
  have g1' : f_X12_takes 3 0 (mI μ 0 0 0) = some μ1 := g1
  rw [e1, e_bvS, e_nm, g1', e_bvS, e_nm, e_ck i0, c_0]
  have r1 : ∀ r, r ≠ 0 → (mI σ1 0 11 1).1 r = σ1.1 r := fun r hr => m_Ir _ _ _ _ hr
  have r0 : ∀ j, j ≠ 11 → (mI σ1 0 11 1).1 0 j = σ.1 0 j := fun j hj => by rw [m_I, if_neg (by omega), p4 0 (by omega)]
  have t1 : ∀ r, r ≠ 0 → (mI μ1 0 44 1).1 r = μ1.1 r := fun r hr => m_Ir _ _ _ _ hr
  have t0 : ∀ j, j ≠ 44 → (mI μ1 0 44 1).1 0 j = (mI μ 0 0 0).1 0 j := fun j hj => by rw [m_I, if_neg (by omega), w3.1 0 (by omega)]
  have x1 : ∀ r, 0 < r → (r < 54 ∨ 57 < r) → (mI σ1 0 11 1).1 r = σ.1 r := fun r h0 hr => by rw [r1 r (by omega), p4 r (by omega)]
  have y1 : ∀ r, 0 < r → (r < 17 ∨ 28 < r) → (mI μ1 0 44 1).1 r = (mI μ 0 0 0).1 r := fun r h0 hr => by rw [t1 r (by omega), w3.1 r (by omega)]
  have y2 : ∀ r, 16 < r → r < 26 → ∀ i, i ≠ 3 → (mI μ1 0 44 1).1 r i = (mI μ 0 0 0).1 r i := fun r a b i hi => by rw [t1 r (by omega), w3.2.1 r a b i hi]
  have y3 : ∀ r, 25 < r → r < 29 → ∀ i, (i < 24 ∨ 31 < i) → (mI μ1 0 44 1).1 r i = (mI μ 0 0 0).1 r i := fun r a b i hi => by rw [t1 r (by omega), w3.2.2 r a b i (by omega)]
  refine ⟨_, _, _, rfl, ?_, nb, nl, nd, nw, nk, dn, T.eq (fun r _ _ => x1 r (by omega) (by omega)) (fun r _ _ => y1 r (by omega) (by omega)), hdn, ?_, ?_, ?_, ?_, ?_, ?_, ?_, ?_⟩
  · rw [x1 50 (by omega) (by omega), y2 17 (by omega) (by omega) 0 (by omega), A.1.1, A.1.2]
  · exact A.eq (fun r _ _ => x1 r (by omega) (by omega)) (by show σ1.2 50 8 = _; rw [p5 50 (by omega)]) (fun r a b => y2 r a b 0 (by omega)) (fun r a b i hi => y3 r a b _ (by omega))
  · refine ⟨by rw [m_I, m_I]; simp, Or.inr ⟨by rw [m_I]; simp, dn, hdn, ?_⟩⟩
    refine q_A_take A ?_ ?_ ?_ ?_ ?_
    · intro j a b c; rw [r1 54 (by omega)]; exact p1 j a b c
    · intro b hb; rw [r1 (54 + 1) (by omega), r1 (54 + 2) (by omega), r1 (54 + 3) (by omega)]; exact p2 b hb
    · exact p3
    · intro r a b; rw [t1 r (by omega)]; exact w1 r a b
    · intro r a b i hi; rw [t1 r (by omega)]; exact w2 r a b i hi
  · exact N.eq (by rw [x1 62 (by omega) (by omega)]) (fun r _ _ => x1 r (by omega) (by omega)) (fun r _ _ => x1 r (by omega) (by omega)) (by show σ1.2 50 8 = _; rw [p5 50 (by omega)]) (t0 45 (by omega)) (fun r a b i hi => y2 r a b i (by omega)) (fun r a b i hi => y3 r a b i (by omega))
  · exact O.eq (by rw [x1 78 (by omega) (by omega)]) (by rw [x1 78 (by omega) (by omega)]) (fun r _ _ => x1 r (by omega) (by omega)) (t0 59 (by omega)) (t0 60 (by omega)) (fun r _ _ => y1 r (by omega) (by omega))
  · exact P.eq (by rw [x1 1 (by omega) (by omega)]) (x1 2 (by omega) (by omega)) (t0 2 (by omega)) (y1 1 (by omega) (by omega))
  · exact F.eq (r0 12 (by omega)) (r0 13 (by omega)) (t0 25 (by omega)) (t0 26 (by omega))
  · exact W.eq (x1 6 (by omega) (by omega))
  · exact hr.eq (t0 46 (by omega)) (t0 47 (by omega)) (t0 48 (by omega)) (t0 50 (by omega))
theorem sim_back : Sim_back RR := by
  intro σ μ h
  have hk := h.thr
  obtain ⟨nb, nl, nd, nw, nk, dn, T, hdn, A, I, N, O, P, F, W, hr⟩ := h.thr
  unfold f_X11_back f_X12_back
  rw [e_nm, ← I.1]
  by_cases c : σ.1 0 11 = 0
  · rw [if_pos c, if_pos c]; exact ⟨_, _, _, rfl, rfl, hk⟩
  · rw [if_neg c, if_neg c]
    obtain ⟨i1, i2⟩ := id I
    rcases i2 with q | ⟨q, d, hd, B⟩
    · exact absurd q c
    obtain ⟨σ1, e1, p1, p2, p3, p4, p5⟩ := s_X5_take 50 54 (by omega) σ B.s7
    obtain ⟨μ1, g1, w1, w2, w3⟩ := s_X12_takes 0 3 (by omega) (by omega) (by omega) (mI μ 0 0 0)
    unfold f_X2_clear
    have g1' : f_X12_takes 0 3 (mI μ 0 0 0) = some μ1 := g1
    rw [e1, e_bvS, e_nm, e_bvS, g1', e_bvS, e_nm, e_ck (by decide), c_0]
    have r1 : ∀ r, r ≠ 62 → (mI σ1 62 5 0).1 r = σ1.1 r := fun r hr => m_Ir _ _ _ _ hr
    have t1 : ∀ r, r ≠ 0 → (mI μ1 0 45 0).1 r = μ1.1 r := fun r hr => m_Ir _ _ _ _ hr
    have t0 : ∀ j, j ≠ 45 → (mI μ1 0 45 0).1 0 j = (mI μ 0 0 0).1 0 j := fun j hj => by rw [m_I, if_neg (by omega), w3.1 0 (by omega)]
    have x1 : ∀ r, r ≠ 62 → (r < 50 ∨ 53 < r) → (mI σ1 62 5 0).1 r = σ.1 r := fun r h0 hr => by rw [r1 r (by omega), p4 r (by omega)]
    have y1 : ∀ r, 0 < r → (r < 17 ∨ 28 < r) → (mI μ1 0 45 0).1 r = (mI μ 0 0 0).1 r := fun r h0 hr => by rw [t1 r (by omega), w3.1 r (by omega)]
    have y2 : ∀ r, 16 < r → r < 26 → ∀ i, i ≠ 0 → (mI μ1 0 45 0).1 r i = (mI μ 0 0 0).1 r i := fun r a b i hi => by rw [t1 r (by omega), w3.2.1 r a b i hi]
    have y3 : ∀ r, 25 < r → r < 29 → ∀ i, 7 < i → (mI μ1 0 45 0).1 r i = (mI μ 0 0 0).1 r i := fun r a b i hi => by rw [t1 r (by omega), w3.2.2 r a b i (by omega)]
    have B' : q_A nb d 50 (mI σ1 62 5 0) 0 (mI μ1 0 45 0).1 := by
      refine q_A_take B ?_ ?_ ?_ ?_ ?_
      · intro j a b c; rw [r1 50 (by omega)]; exact p1 j a b c
      · intro b hb; rw [r1 (50 + 1) (by omega), r1 (50 + 2) (by omega), r1 (50 + 3) (by omega)]; exact p2 b hb
      · exact p3
      · intro r a b; rw [t1 r (by omega)]; exact w1 r a b
      · intro r a b i hi; rw [t1 r (by omega)]; exact w2 r a b i hi
    refine ⟨_, _, _, rfl, ?_, nb, nl, nd, nw, nk, d, T.eq (fun r _ _ => x1 r (by omega) (by omega)) (fun r _ _ => y1 r (by omega) (by omega)), hd, B', ?_, ?_, ?_, ?_, ?_, ?_, ?_⟩
    · rw [B'.1.1, B'.1.2]
    · exact I.eq (by rw [x1 0 (by omega) (by omega)]) (fun r _ _ => x1 r (by omega) (by omega)) (by show σ1.2 54 8 = _; rw [p5 54 (by omega)]) (t0 44 (by omega)) (fun r a b => y2 r a b 3 (by omega)) (fun r a b i hi => y3 r a b _ (by omega))
    · exact q_UN.nil (by rw [m_I]; simp) (by rw [m_I]; simp)
    · exact O.eq (by rw [x1 78 (by omega) (by omega)]) (by rw [x1 78 (by omega) (by omega)]) (fun r _ _ => x1 r (by omega) (by omega)) (t0 59 (by omega)) (t0 60 (by omega)) (fun r _ _ => y1 r (by omega) (by omega))
    · exact P.eq (by rw [x1 1 (by omega) (by omega)]) (x1 2 (by omega) (by omega)) (t0 2 (by omega)) (y1 1 (by omega) (by omega))
    · exact F.eq (by rw [x1 0 (by omega) (by omega)]) (by rw [x1 0 (by omega) (by omega)]) (t0 25 (by omega)) (t0 26 (by omega))
    · exact W.eq (x1 6 (by omega) (by omega))
    · exact hr.eq (t0 46 (by omega)) (t0 47 (by omega)) (t0 48 (by omega)) (t0 50 (by omega))
theorem sim_law : Sim_law RR := by
  intro σ μ a0 a1 h
  have hk := h.thr
  obtain ⟨nb, nl, nd, nw, nk, dn, T, hdn, A, -, -, -, -, -, -, hr⟩ := h.thr
  unfold f_X11_law f_X12_law f_X11_law_b20 f_X12_law_b30
  rw [e_nm]
  rcases pk_ix a0 (n := 3) (by decide) with c | c | ⟨r, hr3, rfl⟩
  · rw [if_pos c, if_pos c]; exact ⟨_, _, _, rfl, rfl, hk⟩
  · have c' : (3 : Int32) ≤ a0 := c
    have e3 : (3 : Int32).toInt = 3 := by decide
    have e2 : (2 : Int32).toInt = 2 := by decide
    rw [Int32.le_iff_toInt_le, e3] at c'
    have z1 : ¬ a0 < 0 := by rw [Int32.lt_iff_toInt_lt, t_0]; omega
    have z2 : (2 : Int32) < a0 := by rw [Int32.lt_iff_toInt_lt, e2]; omega
    have z3 : (3 : Int32) ≤ a0 := c
    rw [if_neg z1, if_neg z1, if_pos z3, if_pos z2]
    exact ⟨_, _, _, rfl, rfl, hk⟩
  · rw [if_neg (nI_pos (by omega)), if_neg (nI_pos (by omega)), if_neg (show ¬ (3 : Int32) ≤ nI r from nI_ge (a := r) (b := 3) (by omega) (by decide)), if_neg (show ¬ (2 : Int32) < nI r from nI_nlt (a := 2) (b := r) (by omega) (by decide))]
    rw [s_X0_hasBay 10 a1 σ nb T.nbC T.le.1, e_bdS, s_X12_hasLaw σ.1 r hr3 _ T.law, e_bdS, s_X12_isBay a1 _ nb T.nbM T.le.1, e_bdS]
    by_cases c : 0 ≤ a1.toInt ∧ a1.toInt < nb
    · obtain ⟨b, hb, rfl⟩ := q_of c (by have := T.le.1; omega)
      have hb8 : b < 8 := by have := T.le.1; omega
      rw [if_pos c, if_neg q_t10, if_neg q_t10]
      have hl := q_lies A T.le.1 b (by omega)
      have i0 : k_inb (0 : Int32) 24 = true := by decide
      have i0' : k_inb (0 : Int32) 64 = true := by decide
      have ib : k_inb (nI b) 192 = true := e_in (by omega) (by decide)
      -- the class
      obtain ⟨σ1, p1, p2, p3, p4, p5⟩ := s_X8_recall 70 50 b hb8 (by decide) (by decide) (by decide) σ
      have hg := s_X0_galeOf 10 dn (by omega) σ1 nw (by rw [p5.1 10 (by decide)]; exact T.nwC) T.le.2.2.2.1
      have d1 : σ1.1 50 3 = nI dn := by rw [p5.1 50 (by decide)]; exact A.1.1
      have d2 : σ1.1 50 4 = σ.1 50 4 := by rw [p5.1 50 (by decide)]
      have d3 : (if dn < nw then σ1.1 (10 + 6) dn else 0) = q_gC σ.1 nw dn := by unfold q_gC; rw [p5.1 16 (by decide)]
      rw [p1, e_bvS, d1, hg, e_bdS, d2, d3]
      -- the rows of bay b
      obtain ⟨A1, A2, A3, A4, -⟩ := id A
      have j0 : (mI μ 0 0 0).1 26 b = σ.1 51 b := by have := (A2 b hb8).1; rw [show 8 * 0 + b = b by omega] at this; exact this.symm
      have m0 : (mI μ 0 0 0).1 27 b = σ.1 52 b := by have := A3 b hb8; rw [show 8 * 0 + b = b by omega] at this; exact this.symm
      have t0 : (mI μ 0 0 0).1 28 b = σ.1 53 b := by have := (A4 b hb8).1; rw [show 8 * 0 + b = b by omega] at this; exact this.symm
      have n0 : (mI μ 0 0 0).1 17 0 = nI dn := A1.2
      have key : ∀ hh : Int32, ∃ v σ' μ', f_X11_law_b79 (nI r) (nI dn) (q_gC σ.1 nw dn) hh σ1 = some (v, σ') ∧ FL σ σ' ∧ FX (mI μ 0 0 0) μ' ∧ (σ.1 20 r < σ.1 21 r → f_X12_law_b59 (nI r) (nI b) hh (mI μ 0 0 0) = some (v, μ')) ∧ (¬ σ.1 20 r < σ.1 21 r → v = -9223372036854775808) := by
        intro hh
        obtain ⟨σ2, s1, s2, s3, s4, s5, s6, s7, s8, s9⟩ := s_X8_set 70 (nI dn) (q_gC σ.1 nw dn) hh σ1
        have sc : q_SC σ2 70 (σ.1 51 b) (σ.1 52 b) (σ.1 53 b) (nI dn) (q_gC σ.1 nw dn) hh := ⟨by rw [s2, p2], by rw [s3, p3], by rw [s4, p4], by rw [s5, p4], s6, s7, s8⟩
        have k2 : FO 70 σ σ2 := (FO.ofQ p5).trans (FO.ofQ s9)
        -- what the class answers with mood mm
        have cls : ∀ (mm : Int32) (σ3 : MSt), q_SC σ3 70 (σ.1 51 b) (σ.1 52 b) (σ.1 53 b) (nI dn) (q_gC σ.1 nw dn) hh → σ3.1 70 7 = mm → FO 70 σ σ3 → ∃ σ', f_X11_law_b105 (nI r) σ3 = some (q_val σ.1 r (q_en (σ.1 51 b) (q_ago (nI dn) (σ.1 53 b)) (σ.1 52 b) (q_gC σ.1 nw dn) (nI dn) mm hh), σ') ∧ FL σ σ' := by
          intro mm σ3 sc3 hm3 k3
          obtain ⟨σ4, w1, w2⟩ := s_X4_worth (mI μ 0 0 0).1 70 r hr3 σ3 (T.law.C k3.lt)
          unfold f_X11_law_b105
          rw [w1, e_blS, sc3.env, hm3, q_val_eq (k3.lt 18 (by decide)) (k3.lt 19 (by decide)) (k3.lt 20 (by decide)) (k3.lt 21 (by decide))]
          exact ⟨σ4, rfl, FL.of70 (k3.trans (FO.ofS w2))⟩
        -- what the reference answers with mood mm
        have ref : ∀ (mm : Int32) (μ1 : MSt), FM (mI μ 0 0 0) μ1 → σ.1 20 r < σ.1 21 r → ∃ μ', f_X12_law_b97 (nI r) (nI b) hh mm μ1 = some (q_val σ.1 r (q_en (σ.1 51 b) (q_ago (nI dn) (σ.1 53 b)) (σ.1 52 b) (q_gC σ.1 nw dn) (nI dn) mm hh), μ') ∧ FX (mI μ 0 0 0) μ' := by
          intro mm μ1 f1 hlt
          unfold f_X12_law_b97 f_X12_law_b150
          simp only [e_ck ib, e_ck i0, e_ck i0', c_0, nI_clamp (show b < 2 ^ 31 by omega)]
          rw [f1.1 26 (by decide), f1.1 27 (by decide), f1.1 28 (by decide), f1.1 17 (by decide), j0, m0, t0, n0]
          obtain ⟨μ2, g1, g2, g3⟩ := s_X12_calls (σ.1 51 b) (σ.1 52 b) (σ.1 53 b) dn (by omega) mm hh μ1 nw (by rw [f1.1 2 (by decide)]; exact T.nwM) T.le.2.2.2.1
          rw [q_gM_FM f1, q_gM_rest T hr dn (by omega)] at g3
          have f2 := f1.trans g2
          have hT : q_TL σ.1 μ2.1 := q_TL_eq T.law rfl rfl rfl rfl (f2.1 11 (by decide)) (f2.1 12 (by decide)) (f2.1 13 (by decide)) (f2.1 14 (by decide))
          obtain ⟨μ3, w1, w2, w3⟩ := s_X12_goes σ.1 _ (q_en_bd _ _ _ _ _ _ _) r hr3 μ2 hT g3 hlt
          rw [g1, e_bvS, w1, e_bdS]
          by_cases z : q_val σ.1 r (q_en (σ.1 51 b) (q_ago (nI dn) (σ.1 53 b)) (σ.1 52 b) (q_gC σ.1 nw dn) (nI dn) mm hh) = -9223372036854775808
          · rw [if_pos z, if_pos rfl, z]; exact ⟨μ3, rfl, FX.of (f2.trans w2)⟩
          · rw [if_neg z, if_neg q_t10, w3 z]; exact ⟨μ3, rfl, FX.of (f2.trans w2)⟩
        unfold f_X11_law_b79
        rw [s1, e_bvS]
        by_cases cr : r = 0
        · subst cr
          rw [if_pos (show nI 0 = 0 from rfl), e_nm]
          have k3 : FO 70 σ (mI σ2 70 7 0) := k2.trans (FO.ofQ (q_only.mI _ _ _ _))
          have sc3 : q_SC (mI σ2 70 7 0) 70 (σ.1 51 b) (σ.1 52 b) (σ.1 53 b) (nI dn) (q_gC σ.1 nw dn) hh := by
            obtain ⟨a0, a1, a2, a3, a4, a5, a6⟩ := sc
            exact ⟨by simp [m_I, a0], by simp [m_I, a1], by simp [m_I, a2], by simp [m_I, a3], by simp [m_I, a4], by simp [m_I, a5], by simp [m_I, a6]⟩
          obtain ⟨σ', z1, z2⟩ := cls 0 _ sc3 (by simp [m_I]) k3
          by_cases hlt : σ.1 20 0 < σ.1 21 0
          · obtain ⟨μ', y1, y2⟩ := ref 0 _ FM.rf hlt
            refine ⟨_, σ', μ', z1, z2, y2, fun _ => ?_, fun q => absurd hlt q⟩
            unfold f_X12_law_b59
            rw [if_pos (show nI 0 = 0 from rfl)]
            exact y1
          · exact ⟨_, σ', _, z1, z2, FX.rf, fun q => absurd q hlt, fun _ => if_neg hlt⟩
        · have nz : ¬ nI r = 0 := nI_ne0 (by omega) (by omega)
          rw [if_neg nz]
          obtain ⟨σ3, v1, v2, v3, v4⟩ := s_X4_feel (mI μ 0 0 0).1 70 (by decide) σ2 (T.law.C k2.lt) sc
          rw [q_mood_eq k2.lt] at v3
          rw [v1, e_bvS]
          obtain ⟨σ', z1, z2⟩ := cls _ _ v2 v3 (k2.trans v4)
          by_cases hlt : σ.1 20 r < σ.1 21 r
          · obtain ⟨μ1, x1, x2⟩ := s_X12_moodBy σ.1 (σ.1 51 b) (σ.1 52 b) (σ.1 53 b) dn (by omega) hh (mI μ 0 0 0) nw T.nwM T.le.2.2.2.1 T.law (A2 b hb8).2 (A4 b hb8).2
            rw [q_gM_rest T hr dn (by omega)] at x1
            obtain ⟨μ', y1, y2⟩ := ref _ _ x2 hlt
            refine ⟨_, σ', μ', z1, z2, y2, fun _ => ?_, fun q => absurd hlt q⟩
            unfold f_X12_law_b59
            rw [if_neg nz]
            simp only [e_ck ib, e_ck i0, c_0, nI_clamp (show b < 2 ^ 31 by omega)]
            rw [j0, m0, t0, n0, x1, e_bdS]
            exact y1
          · exact ⟨_, σ', _, z1, z2, FX.rf, fun q => absurd q hlt, fun _ => if_neg hlt⟩
      unfold f_X12_law_b58
      rw [e_ck i0, e_ck i0, c_0]
      have fin : ∀ (hh : Int32) (X : Option (Int64 × MSt)), (X = f_X12_law_b59 (nI r) (nI b) hh (mI μ 0 0 0)) → ∃ v σ' μ', f_X11_law_b79 (nI r) (nI dn) (q_gC σ.1 nw dn) hh σ1 = some (v, σ') ∧ (if (if σ.1 20 r < σ.1 21 r then (1 : Int32) else 0) = 0 then some (-9223372036854775808, mI μ 0 0 0) else X) = some (v, μ') ∧ RR σ' μ' := by
        intro hh X hX
        obtain ⟨v, σ', μ', z1, z2, z3, z4, z5⟩ := key hh
        by_cases hlt : σ.1 20 r < σ.1 21 r
        · rw [if_pos hlt, if_neg q_t10, hX]
          exact ⟨v, σ', μ', z1, z4 hlt, hk.fr z2 z3⟩
        · rw [if_neg hlt, if_pos rfl]
          exact ⟨v, σ', _, z1, by rw [z5 hlt], hk.fr z2 FX.rf⟩
      by_cases cl : σ.1 50 4 = nI b
      · have := hl.mp cl
        rw [if_pos cl]
        refine fin 1 _ ?_
        rw [if_pos this.1, if_pos this.2]
      · rw [if_neg cl]
        refine fin 0 _ ?_
        by_cases x1 : (mI μ 0 0 0).1 19 0 = -1
        · rw [if_pos x1, if_neg (fun x2 => cl (hl.mpr ⟨x1, x2⟩))]
        · rw [if_neg x1]
    · rw [if_neg c, if_pos rfl, if_pos rfl]
      split <;> exact ⟨_, _, _, rfl, rfl, hk⟩
