section
variable {X : q_X} {o : Nat} {σ μ : MSt}
/-- adding a knot, whatever there is -/
theorem d_add (h : q_CB X o σ) (x v : Int32) : ∃ σ', f_X4_add (o + 7) x v σ = some σ' ∧ q_DD X o σ σ' ∧ σ'.1 7 = σ.1 7 ∧ σ'.1 8 = σ.1 8 := by
  have ho := h.2.1
  obtain ⟨k, hk, e5⟩ := h.2.2.2.2
  by_cases c : k < 64
  · rw [s_X4_add (o + 7) k c x v σ e5]
    have s1 := q_DD.mo h (o + 7 + 1) k x (by omega) (by omega)
    have s2 := s1.trans (q_DD.mo s1.1 (o + 7 + 2) k v (by omega) (by omega))
    generalize e : mI (mI σ (o + 7 + 1) k x) (o + 7 + 2) k v = σ2 at *
    have f7 : σ2.1 7 = σ.1 7 := by rw [← e, m_Ir _ _ _ _ (by omega), m_Ir _ _ _ _ (by omega)]
    have f8 : σ2.1 8 = σ.1 8 := by rw [← e, m_Ir _ _ _ _ (by omega), m_Ir _ _ _ _ (by omega)]
    refine ⟨_, rfl, s2.trans ?_, by rw [m_Ir _ _ _ _ (by omega)]; exact f7, by rw [m_Ir _ _ _ _ (by omega)]; exact f8⟩
    obtain ⟨h1, h2, h3, h4, h5⟩ := s2.1
    exact ⟨⟨h1.eq (m_Ir _ _ _ _ (by omega)) (m_Ir _ _ _ _ (by omega)) (m_Ir _ _ _ _ (by omega)) (m_Ir _ _ _ _ (by omega)), h2, by rw [m_Ir _ _ _ _ (by omega)]; exact h3, by rw [m_Ir _ _ _ _ (by omega)]; exact h4, k + 1, by omega, by rw [m_I, if_pos ⟨rfl, rfl⟩]⟩, by rw [m_Ir _ _ _ _ (by omega)], by rw [m_Ir _ _ _ _ (by omega)], q_GC.m _ _ _ _ _ (by omega)⟩
  · unfold f_X4_add f_X4_add_b39
    rw [e5, if_pos (show (64 : Int32) ≤ nI k from nI_le (a := 64) (b := k) (by omega) (by omega))]
    exact ⟨σ, rfl, q_DD.rf h, rfl, rfl⟩
/-- telling, whatever waits -/
theorem d_tell (y : Int32) : ∀ (w n : Nat) (σ : MSt), q_CB X o σ → σ.1 7 7 = nI w → w ≤ 72 → w < n → ∃ σ', f_X7_tellDownTo_b0 n y σ = some σ' ∧ q_DD X o σ σ' ∧ (∃ v, v ≤ w ∧ σ'.1 7 7 = nI v) ∧ ∀ j, j ≠ 7 → σ'.1 7 j = σ.1 7 j := by
  intro w
  induction w with
  | zero =>
    intro n σ h h7 _ hn
    obtain ⟨n, rfl⟩ : ∃ z, n = z + 1 := ⟨n - 1, by omega⟩
    refine ⟨σ, ?_, q_DD.rf h, ⟨0, by omega, h7⟩, fun _ _ => rfl⟩
    show f_X7_tellDownTo_b0_s (f_X7_tellDownTo_b0 n) y σ = _
    unfold f_X7_tellDownTo_b0_s f_X7_tellDownTo_b74
    rw [h7, if_pos (by decide)]
  | succ w ih =>
    intro n σ h h7 hw hn
    obtain ⟨n, rfl⟩ : ∃ z, n = z + 1 := ⟨n - 1, by omega⟩
    have ho := h.2.1
    have em : nI (w + 1) - 1 = nI w := q_nIm _ (by omega)
    have i1 : k_inb (nI w) 72 = true := e_in (by omega) (by decide)
    show ∃ σ', f_X7_tellDownTo_b0_s (f_X7_tellDownTo_b0 n) y σ = some σ' ∧ _
    unfold f_X7_tellDownTo_b0_s f_X7_tellDownTo_b74
    rw [h7, if_neg (show ¬ nI (w + 1) ≤ 0 from nI_ge (a := 0) (b := w + 1) (by omega) (by omega)), em, e_ck i1, nI_clamp (by omega)]
    have same : ∃ σ', some σ = some σ' ∧ q_DD X o σ σ' ∧ (∃ v, v ≤ w + 1 ∧ σ'.1 7 7 = nI v) ∧ ∀ j, j ≠ 7 → σ'.1 7 j = σ.1 7 j := ⟨σ, rfl, q_DD.rf h, ⟨w + 1, by omega, h7⟩, fun _ _ => rfl⟩
    by_cases c : σ.1 8 w = 41
    · rw [if_pos c]; exact same
    · rw [if_neg c, e_ck i1, s_rankOf, e_bdS]
      by_cases c2 : nI (q_rk (σ.1 8 w)) < y
      · rw [if_pos c2]; exact same
      · rw [if_neg c2, h7, em, e_nm]
        have s1 := q_DD.m7 h 7 (nI w) (by omega)
        obtain ⟨k1, k2⟩ := s1.1.c
        have f77 : (mI σ 7 7 (nI w)).1 7 7 = nI w := by simp [m_I]
        rw [e_ck k1, e_nm, k2, f77, e_ck i1, nI_clamp (by omega)]
        obtain ⟨σ2, a1, a2, a3, a4⟩ := d_add s1.1 ((mI σ 7 7 (nI w)).1 8 w) 0
        rw [a1, e_bvS]
        obtain ⟨σ', y1, y2, ⟨v, v1, v2⟩, y4⟩ := ih n σ2 a2.1 (by rw [a3]; exact f77) (by omega) (by omega)
        exact ⟨σ', y1, (s1.trans a2).trans y2, ⟨v, by omega, v2⟩, fun j hj => by rw [y4 j hj, a3, m_I, if_neg (by omega)]⟩
/-- the class's loop behind a fault -/
theorem d_loop (n i w : Nat) (h : q_CB X o σ) (d : ¬ σ.1 7 4 = 0) (h7 : σ.1 7 7 = nI w) (hw : w ≤ 72) : ∃ σ', f_X7_readExpression_b22 (n + 1) (nI i) σ = some σ' ∧ q_DD X o σ σ' := by
  obtain ⟨σ', y1, y2, -, -⟩ := d_tell 0 w FU σ h h7 hw (by unfold FU; omega)
  refine ⟨σ', ?_, y2⟩
  show f_X7_readExpression_b22_s (f_X7_readExpression_b22 n) (nI i) σ = _
  unfold f_X7_readExpression_b22_s f_X7_readExpression_b127 f_X7_tellDownTo
  rw [if_neg d, y1, e_bvS, ite_self]
theorem d_expr (h : q_CB X o σ) (d : ¬ σ.1 7 4 = 0) : ∃ σ', f_X7_readExpression σ = some σ' ∧ q_DD X o σ σ' := by
  unfold f_X7_readExpression
  simp only [e_nm]
  have s1 := q_DD.m7 h 7 0 (by omega)
  have s2 := s1.trans (q_DD.m7 s1.1 9 0 (by omega))
  have s3 := s2.trans (q_DD.m7 s2.1 10 1 (by omega))
  have s4 := s3.trans (q_DD.m7 s3.1 11 1 (by omega))
  obtain ⟨z, ez⟩ : ∃ z, FU = z + 1 := ⟨FU - 1, by unfold FU; omega⟩
  have f7 : (mI (mI (mI (mI σ 7 7 0) 7 9 0) 7 10 1) 7 11 1).1 7 7 = nI 0 := by simp [m_I]; rfl
  obtain ⟨σ', y1, y2⟩ := d_loop (σ := mI (mI (mI (mI σ 7 7 0) 7 9 0) 7 10 1) 7 11 1) z 0 0 s4.1 (by rw [s4.2.1]; exact d) f7 (by omega)
  rw [ez]
  exact ⟨σ', y1, s4.trans y2⟩
/-- a sign begins to wait -/
theorem s_wait (w : Nat) (hw : w < 72) (h7 : σ.1 7 7 = nI w) (x : Int32) : f_X7_letWait x σ = some (mI (mI σ 8 w x) 7 7 (nI (w + 1))) := by
  unfold f_X7_letWait f_X7_letWait_b32
  have e1 : (mI σ 8 w x).1 7 7 = nI w := by rw [m_Ir _ _ _ _ (by omega)]; exact h7
  rw [h7, if_neg (show ¬ (72 : Int32) ≤ nI w from nI_ge (a := w) (b := 72) hw (by decide)), e_ck (e_in hw (by decide)), nI_clamp (by omega), e_nm, e1, nI_1, e_nm]
theorem s_count (kn : Nat) (hk : kn < 64) (h8 : σ.1 7 8 = nI kn) : f_X7_countKnot σ = some (mI σ 7 8 (nI (kn + 1))) := by
  unfold f_X7_countKnot f_X7_countKnot_b14
  rw [h8, if_pos (show nI kn < 64 from nI_lt (a := kn) (b := 64) hk (by decide)), nI_1, e_nm]
theorem s_countF (h8 : σ.1 7 8 = nI 64) {σd : MSt} (hd : f_X7_fail 2 σ = some σd) : f_X7_countKnot σ = some (mI σd 7 8 (σd.1 7 8 + 1)) := by
  unfold f_X7_countKnot f_X7_countKnot_b14
  rw [h8, if_neg (by decide), hd, e_bvS, e_nm]
/-- the reference counts a knot -/
theorem s_knot (kn : Nat) (hk : kn < 64) (a : μ.1 0 23 = 0) (h8 : μ.1 0 28 = nI kn) : f_X12_knot μ = some (mI μ 0 28 (nI (kn + 1))) := by
  unfold f_X12_knot f_X12_knot_b35
  rw [if_pos a, h8, if_neg (fun q => by have := (q_nIe (a := kn) (b := 64) (by omega) (by omega)).mp q; omega), nI_1, e_nm]
theorem s_knotF (a : μ.1 0 23 = 0) (h8 : μ.1 0 28 = nI 64) {μd : MSt} (hd : f_X12_wrong 2 μ = some μd) : f_X12_knot μ = some μd := by
  unfold f_X12_knot f_X12_knot_b35
  rw [if_pos a, h8, if_pos (show nI 64 = 64 from rfl), hd, e_bvS]
/-- the reference puts a knot -/
theorem s_puts (k : Nat) (hk : k < 64) (a : μ.1 0 23 = 0) (h8 : μ.1 2 17 = nI k) (x v : Int32) : f_X12_puts x v μ = some (mI (mI (mI μ 13 (64 + k) x) 14 (64 + k) v) 2 17 (nI (k + 1))) := by
  have fr : ∀ ν : MSt, f_X12_fresher 8 ν = some (ν.1 2 17, ν) := fun ν => s_fresher 8 (by omega) ν
  have rd : ∀ (ν : MSt) v, f_X12_reads 8 v ν = some (mI ν 2 17 v) := fun ν v => s_reads 8 (by omega) v ν
  have ea : (64 : Int32) + nI k = nI (64 + k) := nI_add 64 k
  have ik : k_inb (nI (64 + k)) 128 = true := e_in (by omega) (by decide)
  unfold f_X12_puts
  have e1 : (mI μ 13 (64 + k) x).1 2 17 = nI k := by rw [m_Ir _ _ _ _ (by omega)]; exact h8
  have e2 : (mI (mI μ 13 (64 + k) x) 14 (64 + k) v).1 2 17 = nI k := by rw [m_Ir _ _ _ _ (by omega)]; exact e1
  rw [if_pos a, fr, e_bdS, h8, ea, e_ck ik, nI_clamp (by omega), e_nm, fr, e_bdS, e1, ea, e_ck ik, nI_clamp (by omega), e_nm, fr, e_bdS, e2, nI_1, rd, e_bvS]
theorem s_putsD (a : ¬ μ.1 0 23 = 0) (x v : Int32) : f_X12_puts x v μ = some μ := by
  unfold f_X12_puts
  rw [if_neg a]
end
