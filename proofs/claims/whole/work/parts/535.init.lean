/-! the relation holds of the two first states -/
def y_ck (o : Option MSt) : Bool := match o with
  | some σ => (List.range 22).all (fun i => decide (σ.1 6 i = q_wrd.getD i 0))
  | none => false
theorem y_of {o : Option MSt} (h : y_ck o = true) : ∃ σ, o = some σ ∧ ∀ i, i < 22 → σ.1 6 i = q_wrd.getD i 0 := by
  cases o with
  | none => exact absurd h (by decide)
  | some σ => exact ⟨σ, rfl, fun i hi => decide_eq_true_eq.mp (List.all_eq_true.mp h i (List.mem_range.mpr hi))⟩
set_option maxRecDepth 100000 in
theorem y_chk : y_ck (f_X9_init_t z0) = true := by decide +kernel
theorem y_fr : ∀ (n : Nat) (x1 x2 x3 x4 : Int32) (σ σ' : MSt), f_X9_init_b57 n x1 x2 x3 x4 σ = some σ' → (∀ r, r ≠ 6 → σ'.1 r = σ.1 r) ∧ σ'.2 = σ.2 := by
  intro n
  induction n with
  | zero => intro x1 x2 x3 x4 σ σ' h; cases h
  | succ n ih =>
    intro x1 x2 x3 x4 σ σ' h
    have h : f_X9_init_b57_s (f_X9_init_b57 n) x1 x2 x3 x4 σ = some σ' := h
    unfold f_X9_init_b57_s f_X9_init_b128 f_X9_init_b134 at h
    simp only [e_nm] at h
    have fin : some σ = some σ' → (∀ r, r ≠ 6 → σ'.1 r = σ.1 r) ∧ σ'.2 = σ.2 := fun e => by cases e; exact ⟨fun _ _ => rfl, rfl⟩
    by_cases c1 : (106 : Int32) ≤ x4
    · rw [if_pos c1] at h; exact fin h
    · rw [if_neg c1] at h
      by_cases c2 : (22 : Int32) ≤ x1
      · rw [if_pos c2] at h; exact fin h
      · rw [if_neg c2] at h
        obtain ⟨-, h⟩ := k_ckE h
        by_cases c3 : k_chr x4 = 32
        · rw [if_pos c3] at h
          obtain ⟨-, h⟩ := k_ckE h
          obtain ⟨q1, q2⟩ := ih _ _ _ _ _ _ h
          exact ⟨fun r hr => by rw [q1 r hr, m_Ir _ _ _ _ hr], q2⟩
        · rw [if_neg c3] at h
          exact ih _ _ _ _ _ _ h
theorem rr_init : ∃ σT σ10 σ30 σ1 μ1, f_X9_init_t z0 = some σT ∧ f_X0_init_t 10 z0 = some σ10 ∧ f_X0_init_t 30 z0 = some σ30 ∧ f_X11_init_t (sC0 σT σ10 σ30) = some σ1 ∧ f_X12_init_t sM0 = some μ1 ∧ RR σ1 μ1 := by
  obtain ⟨σT, hT, wT⟩ := y_of y_chk
  obtain ⟨t1, -⟩ := y_fr FU 0 0 0 0 z0 σT hT
  obtain ⟨σ10, h10, c10, -, -⟩ := s_X0_clear 10 z0
  obtain ⟨σ30, h30, -, -, -⟩ := s_X0_clear 30 z0
  obtain ⟨σ5, p1, p2, p3, p4, p5⟩ := s_X5_begin_l 8 FU 0 (sC0 σT σ10 σ30) (by omega) (by decide) (fun b hb => by omega)
  obtain ⟨q3, q4, q5, q6, q7, q9, q10, q11⟩ := p3
  obtain ⟨μ7, s1, s17, s18, s19, s20, s21, s22, s23, s24, s25, sb, fa⟩ := s_X12_starts 0 (by omega) sM0 0 (by omega) (by decide +kernel)
  refine ⟨σT, σ10, σ30, mI (mI (mI σ5 0 11 0) 0 12 0) 0 13 (-1), μ7, hT, ?_, ?_, ?_, ?_, ?_⟩
  · unfold f_X0_init_t
    rw [h10, e_bvS]
  · unfold f_X0_init_t
    rw [h30, e_bvS]
  · unfold f_X11_init_t f_X5_begin
    rw [show f_X5_begin_b2 50 10 FU 0 (sC0 σT σ10 σ30) = some σ5 from p1, e_bvS, e_nm, e_nm, e_nm]
  · unfold f_X12_init_t f_X12_begins
    rw [show f_X12_starts 0 sM0 = some μ7 from s1, e_bvS, e_bvS]
  have n0 : (mI (mI (mI σ5 0 11 0) 0 12 0) 0 13 (-1)).1 0 11 = 0 ∧ (mI (mI (mI σ5 0 11 0) 0 12 0) 0 13 (-1)).1 0 12 = 0 ∧ (mI (mI (mI σ5 0 11 0) 0 12 0) 0 13 (-1)).1 0 13 = -1 := by simp [m_I]
  have nr : ∀ r, r ≠ 0 → (mI (mI (mI σ5 0 11 0) 0 12 0) 0 13 (-1)).1 r = σ5.1 r := fun r hr => by rw [m_Ir _ _ _ _ hr, m_Ir _ _ _ _ hr, m_Ir _ _ _ _ hr]
  have n2 : (mI (mI (mI σ5 0 11 0) 0 12 0) 0 13 (-1)).2 = σ5.2 := rfl
  generalize mI (mI (mI σ5 0 11 0) 0 12 0) 0 13 (-1) = σ1 at *
  have cr : ∀ r, r ≠ 0 → (r < 50 ∨ 53 < r) → σ1.1 r = (sC0 σT σ10 σ30).1 r := fun r a b => by rw [nr r a, p5 r b]
  have r10 : σ1.1 10 = σ10.1 10 := cr 10 (by omega) (by omega)
  have r17 : σ1.1 17 = σ10.1 17 := cr 17 (by omega) (by omega)
  have r20 : σ1.1 20 = σ10.1 20 := cr 20 (by omega) (by omega)
  have r21 : σ1.1 21 = σ10.1 21 := cr 21 (by omega) (by omega)
  have r6 : σ1.1 6 = σT.1 6 := cr 6 (by omega) (by omega)
  have r1 : σ1.1 1 = σT.1 1 := cr 1 (by omega) (by omega)
  have u0 : μ7.1 0 = sM0.1 0 := fa.1 0 (by omega)
  have u2 : μ7.1 2 = sM0.1 2 := fa.1 2 (by omega)
  have u11 : μ7.1 11 = sM0.1 11 := fa.1 11 (by omega)
  have u12 : μ7.1 12 = sM0.1 12 := fa.1 12 (by omega)
  obtain ⟨-, c5, cl, c7, c8, c9, ca, cb, cc, cd, ce⟩ := c10
  have jb : q_JB 0 := by unfold q_JB; decide
  have lb : q_LB (-1) := by unfold q_LB; decide
  refine ⟨0, 0, 0, 0, 0, 0, ⟨by omega, ⟨?_, ?_, ?_, ?_, ?_⟩, ⟨?_, ?_, ?_, ?_, ?_⟩, ⟨fun _ => ?_, fun q => by omega⟩, ⟨9, by omega, by omega, ?_, ?_⟩, ⟨50, by omega, ?_, ?_⟩, ⟨0, by omega, ?_, ?_⟩, fun i hi => by omega, fun a b ha => by omega, fun i hi => by omega, fun i hi => by omega, fun r hr => ⟨0, 0, by omega, by omega, ?_, ?_, ?_, ?_, fun q => by omega, fun j hj => by omega⟩⟩, by omega, ?_, ⟨?_, Or.inl n0.1⟩, q_UN.nil ?_ ?_, ⟨0, by omega, ?_, ?_, ?_, Or.inl ?_, fun i hi => by omega⟩, ⟨0, by omega, ?_, ?_, fun i hi => by omega⟩, ⟨?_, ?_⟩, ?_, ⟨?_, ?_, ?_, ?_⟩⟩
  · rw [r10]; exact c7
  · rw [r10]; exact c8
  · rw [r10]; exact c9
  · rw [r10]; exact ca
  · rw [r17]; exact c5
  · rw [u2]; decide +kernel
  · rw [u2]; decide +kernel
  · rw [u2]; decide +kernel
  · rw [u2]; decide +kernel
  · rw [u2]; decide +kernel
  · rw [r10]; exact cb
  · rw [r10]; exact cc
  · rw [u2]; decide +kernel
  · rw [r10]; exact cd
  · rw [u2]; decide +kernel
  · rw [r10]; exact ce
  · rw [u2]; decide +kernel
  · rw [r20]; exact (cl r hr).1
  · rw [r21]; exact (cl r hr).2
  · rw [u11]; rfl
  · rw [u12]; rfl
  · unfold q_A
    rw [nr 50 (by omega), nr (50 + 1) (by omega), nr (50 + 2) (by omega), nr (50 + 3) (by omega), n2]
    have e14 : (sC0 σT σ10 σ30).1 10 14 = nI 0 := ce
    have e11 : (sC0 σT σ10 σ30).1 10 11 = -1 := cb
    have e7 : (sC0 σT σ10 σ30).1 10 7 = 0 := c7
    have q4' : σ5.1 50 4 = -1 := by rw [q4, e11, if_pos rfl, e7, if_pos (by decide)]
    refine ⟨⟨q3, s17⟩, fun b hb => ?_, fun b hb => ?_, fun b hb => ?_, ⟨by rw [q5, s19], by rw [q6, s20]⟩, ⟨by rw [q7, s21], Or.inl q7⟩, ⟨by rw [q9, s22], by rw [q10, s23], by rw [q11, s24]⟩, ?_, Or.inl ⟨q5, q6, by rw [q4', s18, if_pos rfl], Or.inl ⟨rfl, q4'⟩⟩⟩
    · rw [(p2 b hb).1, (sb b hb).1]; exact ⟨rfl, jb⟩
    · rw [(p2 b hb).2.1, (sb b hb).2.1]
    · rw [(p2 b hb).2.2, (sb b hb).2.2]; exact ⟨rfl, lb⟩
    · refine ⟨0, by omega, by rw [s25]; decide +kernel, ?_⟩
      rw [p4, e14]
      exact nI_l (by omega)
  · rw [n0.1, u0]; decide +kernel
  · rw [cr 62 (by omega) (by omega)]; rfl
  · rw [u0]; decide +kernel
  · rw [cr 78 (by omega) (by omega)]
    show sN.1 78 7 = nI 0
    decide +kernel
  · rw [u0]; decide +kernel
  · rw [cr 78 (by omega) (by omega), u0]
    show sN.1 78 8 = sM0.1 0 60
    decide +kernel
  · rw [cr 78 (by omega) (by omega)]
    show sN.1 78 8 = -1
    decide +kernel
  · rw [r1, t1 1 (by omega)]; rfl
  · rw [u0]; decide +kernel
  · rw [n0.2.1, u0]; decide +kernel
  · rw [n0.2.2, u0]; decide +kernel
  · intro i hi
    rw [r6]
    exact wT i hi
  · rw [u0]; decide +kernel
  · rw [u0]; decide +kernel
  · rw [u0]; decide +kernel
  · rw [u0]; decide +kernel
/-- every call -/
theorem all_sims : AllSims RR := ⟨sim_feed, sim_text q_law, sim_fault, sim_named, sim_lane, sim_deed, sim_wind, sim_mood, sim_holds, sim_law, sim_sail, sim_kind, sim_copy, sim_go, sim_firstAdrift, sim_way, sim_never, sim_kindness, sim_winter, sim_copies, sim_bids, sim_rests, sim_rest, sim_note, sim_out, sim_known, sim_was, sim_tells, sim_chance, sim_tried, sim_undo, sim_keep, sim_back, sim_count⟩
