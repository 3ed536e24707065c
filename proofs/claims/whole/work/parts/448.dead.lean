/-! the class reads on behind a fault -/
def q_GC (o : Nat) (σ σ' : MSt) : Prop := (∀ r, r ≠ 7 → r ≠ 8 → (r < o ∨ o + 12 < r) → σ'.1 r = σ.1 r) ∧ σ'.2 = σ.2
theorem q_GC.rf {o : Nat} {σ : MSt} : q_GC o σ σ := ⟨fun _ _ _ _ => rfl, rfl⟩
theorem q_GC.trans {o : Nat} {σ σ1 σ2 : MSt} (h : q_GC o σ σ1) (g : q_GC o σ1 σ2) : q_GC o σ σ2 := ⟨fun r a b c => (g.1 r a b c).trans (h.1 r a b c), g.2.trans h.2⟩
theorem q_GC.m (o : Nat) (σ : MSt) (r j : Nat) (v : Int32) (h : r = 7 ∨ r = 8 ∨ (o ≤ r ∧ r ≤ o + 12)) : q_GC o σ (mI σ r j v) := ⟨fun x a b c => m_Ir _ _ _ _ (by omega), rfl⟩
theorem q_FC.gc {o : Nat} {σ σ' : MSt} (h : q_FC σ σ') : q_GC o σ σ' := ⟨fun r a _ _ => h.1 r a, h.2.2⟩
def q_CB (X : q_X) (o : Nat) (σ : MSt) : Prop := q_CT X σ ∧ (o = 10 ∨ o = 30) ∧ σ.1 7 1 = nI o ∧ (∃ nb, nb ≤ 8 ∧ σ.1 o 7 = nI nb) ∧ ∃ k, k ≤ 64 ∧ σ.1 (o + 7) 5 = nI k
def q_DD (X : q_X) (o : Nat) (σ σ' : MSt) : Prop := q_CB X o σ' ∧ σ'.1 7 4 = σ.1 7 4 ∧ σ'.1 7 5 = σ.1 7 5 ∧ q_GC o σ σ'
section
variable {X : q_X} {o : Nat} {σ : MSt}
theorem q_DD.rf (h : q_CB X o σ) : q_DD X o σ σ := ⟨h, rfl, rfl, q_GC.rf⟩
theorem q_DD.trans {σ1 σ2 : MSt} (h : q_DD X o σ σ1) (g : q_DD X o σ1 σ2) : q_DD X o σ σ2 := ⟨g.1, g.2.1.trans h.2.1, g.2.2.1.trans h.2.2.1, h.2.2.2.trans g.2.2.2⟩
theorem q_CB.c (h : q_CB X o σ) : k_ch (σ.1 7 1) = true ∧ (σ.1 7 1).toNatClampNeg = o := by
  obtain ⟨-, h2, h3, -⟩ := h
  rw [h3]
  rcases h2 with rfl | rfl <;> decide
theorem q_DD.m7 (h : q_CB X o σ) (j : Nat) (v : Int32) (hj : ¬ j = 1 ∧ ¬ j = 4 ∧ ¬ j = 5) : q_DD X o σ (mI σ 7 j v) := by
  obtain ⟨h1, h2, h3, h4, h5⟩ := h
  refine ⟨⟨h1.eq (m_Ir _ _ _ _ (by omega)) (m_Ir _ _ _ _ (by omega)) (m_Ir _ _ _ _ (by omega)) (m_Ir _ _ _ _ (by omega)), h2, by rw [m_I, if_neg (by omega)]; exact h3, by rw [m_Ir _ _ _ _ (by omega)]; exact h4, by rw [m_Ir _ _ _ _ (by omega)]; exact h5⟩, by rw [m_I, if_neg (by omega)], by rw [m_I, if_neg (by omega)], q_GC.m _ _ _ _ _ (by omega)⟩
theorem q_DD.mo (h : q_CB X o σ) (r j : Nat) (v : Int32) (hr : o ≤ r ∧ r ≤ o + 12) (hj : ¬ (r = o ∧ j = 7) ∧ ¬ (r = o + 7 ∧ j = 5)) : q_DD X o σ (mI σ r j v) := by
  obtain ⟨h1, h2, h3, h4, h5⟩ := h
  refine ⟨⟨h1.eq (m_Ir _ _ _ _ (by omega)) (m_Ir _ _ _ _ (by omega)) (m_Ir _ _ _ _ (by omega)) (m_Ir _ _ _ _ (by omega)), h2, by rw [m_Ir _ _ _ _ (by omega)]; exact h3, by rw [m_I, if_neg (by omega)]; exact h4, by rw [m_I, if_neg (by omega)]; exact h5⟩, by rw [m_Ir _ _ _ _ (by omega)], by rw [m_Ir _ _ _ _ (by omega)], q_GC.m _ _ _ _ _ (by omega)⟩
theorem d_needRoom (d : ¬ σ.1 7 4 = 0) (a b : Int32) : f_X7_needRoom a b σ = some σ := by
  unfold f_X7_needRoom f_X7_needRoom_b10
  rw [q_fail_d d, e_bvS, ite_self]
theorem d_needOnce (h : q_CB X o σ) (d : ¬ σ.1 7 4 = 0) (p : Int32) : ∃ σ', f_X7_needOnce p σ = some σ' ∧ q_DD X o σ σ' := by
  unfold f_X7_needOnce f_X7_needOnce_b18
  rw [q_fail_d d]
  simp only [e_nm, e_bvS, ite_self]
  exact ⟨_, rfl, q_DD.m7 h 3 _ (by omega)⟩
theorem d_told (M : q_CM X) (h : q_CB X o σ) (d : ¬ σ.1 7 4 = 0) : ∃ x, f_X7_toldBay σ = some (x, σ) := by
  obtain ⟨c1, c2⟩ := h.c
  obtain ⟨h1, h2, h3, ⟨nb, b4, b5⟩, h5⟩ := h
  obtain ⟨s, es⟩ := x_sortOf M h1 (σ.1 7 2)
  obtain ⟨v, ev⟩ := x_valueOf M h1 (σ.1 7 2)
  unfold f_X7_toldBay f_X7_toldBay_b51
  rw [es, e_bdS, q_fail_d d, e_bvS, e_ck c1, e_nm, c2, ev, e_bdS, s_X0_find o _ σ nb b5 b4, e_bdS, q_fail_d d, e_bvS, ite_self]
  by_cases q : s = 2
  · rw [if_pos q]; exact ⟨_, rfl⟩
  · rw [if_neg q]; exact ⟨_, rfl⟩
theorem d_num (M : q_CM X) (h : q_CB X o σ) (d : ¬ σ.1 7 4 = 0) (a b : Int32) : ∃ x, f_X7_takeNumber a b σ = some (x, mI σ 7 2 (σ.1 7 2 + 1)) := by
  obtain ⟨s, es⟩ := x_sortOf M h.1 (σ.1 7 2)
  obtain ⟨v, ev⟩ := x_valueOf M h.1 (σ.1 7 2)
  unfold f_X7_takeNumber f_X7_takeNumber_b45 f_X7_takeNumber_b50
  rw [ev, e_bdS, es, e_bdS, q_fail_d d, e_bvS, q_fail_d d, e_bvS, ite_self, ite_self, ite_self]
  exact ⟨v, rfl⟩
theorem d_bay (M : q_CM X) (h : q_CB X o σ) (d : ¬ σ.1 7 4 = 0) : ∃ σ', f_X7_readBay σ = some σ' ∧ q_DD X o σ σ' := by
  obtain ⟨c1, c2⟩ := h.c
  have s1 := q_DD.m7 h 2 (σ.1 7 2 + 1) (by omega)
  unfold f_X7_readBay
  rw [e_ck c1, e_nm, d_needRoom d, e_bvS, e_nm]
  have d1 : ¬ (mI σ 7 2 (σ.1 7 2 + 1)).1 7 4 = 0 := by rw [s1.2.1]; exact d
  generalize mI σ 7 2 (σ.1 7 2 + 1) = σ1 at *
  obtain ⟨k1, k2⟩ := s1.1.c
  obtain ⟨s, es⟩ := x_sortOf M s1.1.1 (σ1.1 7 2)
  obtain ⟨v, ev⟩ := x_valueOf M s1.1.1 (σ1.1 7 2)
  obtain ⟨nb, b4, b5⟩ := s1.1.2.2.2.1
  rw [es, e_bdS, q_fail_d d1, e_bvS, e_ck k1, e_nm, k2, ev, e_bdS, s_X0_find o _ σ1 nb b5 b4, e_bdS, q_fail_d d1, e_bvS, ite_self, ite_self]
  unfold f_X7_readBay_b73 f_X7_readBay_b98
  rw [if_neg d1, e_nm]
  exact ⟨_, rfl, s1.trans (q_DD.m7 s1.1 2 _ (by omega))⟩
theorem x_daysBetween (a b : Int32) (nb : Nat) (h4 : nb ≤ 8) (h5 : σ.1 o 7 = nI nb) : ∃ x, f_X0_daysBetween o a b σ = some (x, σ) := by
  by_cases c : 0 ≤ a.toInt ∧ a.toInt < nb
  · by_cases c1 : 0 ≤ b.toInt ∧ b.toInt < nb
    · obtain ⟨x, hx, rfl⟩ := q_of c (by omega)
      obtain ⟨y, hy, rfl⟩ := q_of c1 (by omega)
      exact ⟨_, s_X0_daysBetween o x y σ nb h5 h4 hx hy⟩
    · unfold f_X0_daysBetween f_X0_daysBetween_b30 f_X0_daysBetween_b31
      rw [s_X0_hasBay o a σ nb h5 h4, e_bdS, if_pos c, if_neg (by decide), s_X0_hasBay o b σ nb h5 h4, e_bdS, if_neg c1, if_pos rfl]
      exact ⟨_, rfl⟩
  · unfold f_X0_daysBetween f_X0_daysBetween_b30 f_X0_daysBetween_b31
    rw [s_X0_hasBay o a σ nb h5 h4, e_bdS, if_neg c, if_pos rfl]
    exact ⟨_, rfl⟩
theorem d_lane1 (M : q_CM X) (h : q_CB X o σ) (d : ¬ σ.1 7 4 = 0) (a b : Int32) : ∃ σ', f_X7_readLane_b73 a b σ = some σ' ∧ q_DD X o σ σ' := by
  have s1 := q_DD.m7 h 2 (σ.1 7 2 + 1) (by omega)
  unfold f_X7_readLane_b73 f_X7_readLane_b108
  have d1 : ¬ (mI σ 7 2 (σ.1 7 2 + 1)).1 7 4 = 0 := by rw [s1.2.1]; exact d
  rw [e_nm]
  generalize mI σ 7 2 (σ.1 7 2 + 1) = σ1 at *
  obtain ⟨x, ex⟩ := d_num M s1.1 d1 1 9
  have s2 := q_DD.m7 s1.1 2 (σ1.1 7 2 + 1) (by omega)
  rw [ex, e_bdS, if_neg (by rw [s2.2.1]; exact d1)]
  exact ⟨_, rfl, s1.trans s2⟩
theorem d_lane (M : q_CM X) (h : q_CB X o σ) (d : ¬ σ.1 7 4 = 0) : ∃ σ', f_X7_readLane σ = some σ' ∧ q_DD X o σ σ' := by
  obtain ⟨c1, c2⟩ := h.c
  have s1 := q_DD.m7 h 2 (σ.1 7 2 + 1) (by omega)
  unfold f_X7_readLane
  rw [e_ck c1, e_nm, d_needRoom d, e_bvS, e_nm]
  have d1 : ¬ (mI σ 7 2 (σ.1 7 2 + 1)).1 7 4 = 0 := by rw [s1.2.1]; exact d
  generalize mI σ 7 2 (σ.1 7 2 + 1) = σ1 at *
  obtain ⟨x, ex⟩ := d_told M s1.1 d1
  have s2 := q_DD.m7 s1.1 2 (σ1.1 7 2 + 1) (by omega)
  rw [ex, e_bdS, e_nm]
  have d2 : ¬ (mI σ1 7 2 (σ1.1 7 2 + 1)).1 7 4 = 0 := by rw [s2.2.1]; exact d1
  generalize mI σ1 7 2 (σ1.1 7 2 + 1) = σ2 at *
  obtain ⟨y, ey⟩ := d_told M s2.1 d2
  obtain ⟨k1, k2⟩ := s2.1.c
  obtain ⟨nb, b4, b5⟩ := s2.1.2.2.2.1
  obtain ⟨z, ez⟩ := x_daysBetween (o := o) x y nb b4 b5
  rw [ey, e_bdS, q_fail_d d2, e_bvS, e_ck k1, e_nm, k2, ez, e_bdS, q_fail_d d2, e_bvS, ite_self, ite_self]
  obtain ⟨σ', y1, y2⟩ := d_lane1 M s2.1 d2 x y
  exact ⟨σ', y1, (s1.trans s2).trans y2⟩
theorem d_deed (M : q_CM X) (h : q_CB X o σ) (d : ¬ σ.1 7 4 = 0) : ∃ σ', f_X7_readDeed σ = some σ' ∧ q_DD X o σ σ' := by
  obtain ⟨c1, c2⟩ := h.c
  have s1 := q_DD.m7 h 2 (σ.1 7 2 + 1) (by omega)
  unfold f_X7_readDeed f_X7_readDeed_b71
  rw [e_ck c1, e_nm, d_needRoom d, e_bvS, e_nm]
  have d1 : ¬ (mI σ 7 2 (σ.1 7 2 + 1)).1 7 4 = 0 := by rw [s1.2.1]; exact d
  generalize mI σ 7 2 (σ.1 7 2 + 1) = σ1 at *
  obtain ⟨x, ex⟩ := d_told M s1.1 d1
  have s2 := q_DD.m7 s1.1 2 (σ1.1 7 2 + 1) (by omega)
  rw [ex, e_bdS, e_nm]
  have d2 : ¬ (mI σ1 7 2 (σ1.1 7 2 + 1)).1 7 4 = 0 := by rw [s2.2.1]; exact d1
  generalize mI σ1 7 2 (σ1.1 7 2 + 1) = σ2 at *
  obtain ⟨y, ey⟩ := d_num M s2.1 d2 0 99
  have s3 := q_DD.m7 s2.1 2 (σ2.1 7 2 + 1) (by omega)
  rw [ey, e_bdS]
  have d3 : ¬ (mI σ2 7 2 (σ2.1 7 2 + 1)).1 7 4 = 0 := by rw [s3.2.1]; exact d2
  generalize mI σ2 7 2 (σ2.1 7 2 + 1) = σ3 at *
  obtain ⟨z, ez⟩ := d_num M s3.1 d3 0 9
  have s4 := q_DD.m7 s3.1 2 (σ3.1 7 2 + 1) (by omega)
  rw [ez, e_bdS, if_neg (by rw [s4.2.1]; exact d3)]
  exact ⟨_, rfl, ((s1.trans s2).trans s3).trans s4⟩
theorem d_wind (M : q_CM X) (h : q_CB X o σ) (d : ¬ σ.1 7 4 = 0) : ∃ σ', f_X7_readWind σ = some σ' ∧ q_DD X o σ σ' := by
  obtain ⟨c1, c2⟩ := h.c
  have s1 := q_DD.m7 h 2 (σ.1 7 2 + 1) (by omega)
  unfold f_X7_readWind f_X7_readWind_b46
  rw [e_ck c1, e_nm, d_needRoom d, e_bvS, e_nm]
  have d1 : ¬ (mI σ 7 2 (σ.1 7 2 + 1)).1 7 4 = 0 := by rw [s1.2.1]; exact d
  generalize mI σ 7 2 (σ.1 7 2 + 1) = σ1 at *
  obtain ⟨z, ez⟩ := d_num M s1.1 d1 0 9
  have s4 := q_DD.m7 s1.1 2 (σ1.1 7 2 + 1) (by omega)
  rw [ez, e_bdS, if_neg (by rw [s4.2.1]; exact d1)]
  exact ⟨_, rfl, s1.trans s4⟩
/-- the end of a line -/
theorem d_end (M : q_CM X) (h : q_CB X o σ) (d : ¬ σ.1 7 4 = 0) : ∃ σ', f_X7_readLine_b125 σ = some σ' ∧ q_DD X o σ σ' := by
  obtain ⟨s, es⟩ := x_sortOf M h.1 (σ.1 7 2)
  unfold f_X7_readLine_b125 f_X7_readLine_b146
  rw [es, e_bdS, q_fail_d d, e_bvS, ite_self, e_nm]
  exact ⟨_, rfl, q_DD.m7 h 2 _ (by omega)⟩
theorem d_ship (M : q_CM X) (h : q_CB X o σ) (d : ¬ σ.1 7 4 = 0) : ∃ σ', (k_nm (mI σ 7 2 ((σ.1 7 2) + (1 : Int32))) fun σ2 => k_ck (k_ch (σ2.1 7 1)) <| k_nm (σ2.1 7 1).toNatClampNeg fun o1017 => k_bd (f_X7_toldBay σ2) fun q4 σ3 => k_nm (mI σ3 o1017 11 q4) fun σ5 => k_nm (mI σ5 7 2 ((σ5.1 7 2) + (1 : Int32))) fun σ6 => some σ6) = some σ' ∧ q_DD X o σ σ' := by
  have s1 := q_DD.m7 h 2 (σ.1 7 2 + 1) (by omega)
  rw [e_nm]
  have d1 : ¬ (mI σ 7 2 (σ.1 7 2 + 1)).1 7 4 = 0 := by rw [s1.2.1]; exact d
  generalize mI σ 7 2 (σ.1 7 2 + 1) = σ1 at *
  obtain ⟨k1, k2⟩ := s1.1.c
  obtain ⟨x, ex⟩ := d_told M s1.1 d1
  rw [e_ck k1, e_nm, k2, ex, e_bdS, e_nm, e_nm]
  have s2 := q_DD.mo s1.1 o 11 x (by omega) (by omega)
  exact ⟨_, rfl, (s1.trans s2).trans (q_DD.m7 s2.1 2 _ (by omega))⟩
theorem d_set (M : q_CM X) (h : q_CB X o σ) (d : ¬ σ.1 7 4 = 0) (a b : Int32) (j : Nat) (hj : ¬ j = 7) : ∃ σ', (k_ck (k_ch (σ.1 7 1)) <| k_nm (σ.1 7 1).toNatClampNeg fun o1022 => k_bd (f_X7_takeNumber a b σ) fun q10 σ9 => k_nm (mI σ9 o1022 j q10) fun σ11 => some σ11) = some σ' ∧ q_DD X o σ σ' := by
  obtain ⟨k1, k2⟩ := h.c
  obtain ⟨x, ex⟩ := d_num M h d a b
  rw [e_ck k1, e_nm, k2, ex, e_bdS, e_nm]
  have s1 := q_DD.m7 h 2 (σ.1 7 2 + 1) (by omega)
  exact ⟨_, rfl, s1.trans (q_DD.mo s1.1 o j x (by omega) (by omega))⟩
end
