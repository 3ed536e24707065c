/-! the signs of a law, as both meet them -/
theorem q_SG_f {s c s' c' : Int32} (h : q_SG s c) (h' : q_SG s' c') : s = s' ↔ c = c' := by
  rcases h with ⟨rfl, rfl⟩ | ⟨rfl, rfl⟩ | ⟨rfl, rfl⟩ | ⟨rfl, rfl⟩ | ⟨rfl, rfl⟩ | ⟨rfl, rfl⟩ | ⟨rfl, rfl⟩ | ⟨rfl, rfl⟩ | ⟨rfl, rfl⟩ | ⟨rfl, rfl⟩ | ⟨rfl, rfl⟩ | ⟨rfl, rfl⟩ | ⟨rfl, rfl⟩ <;> rcases h' with ⟨rfl, rfl⟩ | ⟨rfl, rfl⟩ | ⟨rfl, rfl⟩ | ⟨rfl, rfl⟩ | ⟨rfl, rfl⟩ | ⟨rfl, rfl⟩ | ⟨rfl, rfl⟩ | ⟨rfl, rfl⟩ | ⟨rfl, rfl⟩ | ⟨rfl, rfl⟩ | ⟨rfl, rfl⟩ | ⟨rfl, rfl⟩ | ⟨rfl, rfl⟩ <;> decide
theorem q_SG_40 {s c : Int32} (h : q_SG s c) : ¬ s < 40 := by
  rcases h with ⟨rfl, -⟩ | ⟨rfl, -⟩ | ⟨rfl, -⟩ | ⟨rfl, -⟩ | ⟨rfl, -⟩ | ⟨rfl, -⟩ | ⟨rfl, -⟩ | ⟨rfl, -⟩ | ⟨rfl, -⟩ | ⟨rfl, -⟩ | ⟨rfl, -⟩ | ⟨rfl, -⟩ | ⟨rfl, -⟩ <;> decide
theorem q_TS.sg {s v so va : Int32} (h : q_TS s v so va) {s0 c0 : Int32} (h0 : q_SG s0 c0) : s = s0 ↔ (so = 3 ∧ va = c0) := by
  have g2 : ∀ w : Nat, w < 22 → nI (10 + w) < 40 := by decide
  have n0 := q_SG_40 h0
  have ne : s < 40 → ¬ s = s0 := fun q e => n0 (e ▸ q)
  rcases h with ⟨rfl, rfl⟩ | ⟨rfl, rfl⟩ | ⟨rfl, rfl, rfl⟩ | ⟨rfl, rfl, h⟩ | ⟨u, hu, rfl, rfl, rfl⟩ | ⟨h, rfl⟩
  · exact ⟨fun q => absurd q (ne (by decide)), fun q => absurd q.1 (by decide)⟩
  · exact ⟨fun q => absurd q (ne (by decide)), fun q => absurd q.1 (by decide)⟩
  · exact ⟨fun q => absurd q (ne (by decide)), fun q => absurd q.1 (by decide)⟩
  · exact ⟨fun q => absurd q (ne (by decide)), fun q => absurd q.1 (by decide)⟩
  · exact ⟨fun q => absurd q (ne (g2 u hu)), fun q => absurd q.1 (by decide)⟩
  · exact ⟨fun q => ⟨rfl, (q_SG_f h h0).mp q⟩, fun q => (q_SG_f h h0).mpr q.2⟩
/-- is it this sign, for the reference -/
theorem s_isSign {μ : MSt} (a : μ.1 0 23 = 0) {s v : Int32} (h : q_TS s v (μ.1 0 21) (μ.1 0 22)) {s0 c0 : Int32} (h0 : q_SG s0 c0) : f_X12_isSign c0 μ = some (if s = s0 then 1 else 0, μ) := by
  have e := h.sg h0
  have k0 : k_bo 0 = true := by decide
  have k1 : k_bo 1 = true := by decide
  unfold f_X12_isSign f_X12_isSign_b27 f_X12_isSign_b28
  rw [if_pos a]
  by_cases c : s = s0
  · obtain ⟨e1, e2⟩ := e.mp c
    rw [if_pos e1, if_pos e2, if_pos c, e_ck k1]
  · rw [if_neg c, e_ck k0]
    by_cases c1 : μ.1 0 21 = 3
    · rw [if_pos c1, if_neg (fun q => c (e.mpr ⟨c1, q⟩))]
    · rw [if_neg c1]
/-- is it this word, for the reference -/
theorem s_isWord {μ : MSt} (a : μ.1 0 23 = 0) {s v : Int32} (h : q_TS s v (μ.1 0 21) (μ.1 0 22)) (w : Nat) (hw : w < 22) : f_X12_isWord (nI w) μ = some (if s = nI (10 + w) then 1 else 0, μ) := by
  have e := h.wd w hw
  have k0 : k_bo 0 = true := by decide
  have k1 : k_bo 1 = true := by decide
  unfold f_X12_isWord f_X12_isWord_b26 f_X12_isWord_b27
  rw [if_pos a]
  by_cases c : s = nI (10 + w)
  · obtain ⟨e1, e2⟩ := e.mp c
    rw [if_pos e1, if_pos e2, if_pos c, e_ck k1]
  · rw [if_neg c, e_ck k0]
    by_cases c1 : μ.1 0 21 = 0
    · rw [if_pos c1, if_neg (fun q => c (e.mpr ⟨c1, q⟩))]
    · rw [if_neg c1]
theorem s_isSignD {μ : MSt} (a : ¬ μ.1 0 23 = 0) (c0 : Int32) : f_X12_isSign c0 μ = some (0, μ) := by
  unfold f_X12_isSign f_X12_isSign_b27 f_X12_isSign_b28
  rw [if_neg a, e_ck (by decide)]
theorem s_isWordD {μ : MSt} (a : ¬ μ.1 0 23 = 0) (c0 : Int32) : f_X12_isWord c0 μ = some (0, μ) := by
  unfold f_X12_isWord f_X12_isWord_b26 f_X12_isWord_b27
  rw [if_neg a, e_ck (by decide)]
theorem s_goOnD {μ : MSt} (a : ¬ μ.1 0 23 = 0) : f_X12_goOn μ = some μ := by
  unfold f_X12_goOn f_X12_goOn_b11
  rw [if_neg a]
/-- behind a fault the reference's descent changes nothing -/
theorem s_recD : ∀ (d idx : Nat) (μ : MSt), 6 - idx < d → ¬ μ.1 0 23 = 0 → f_rec d idx μ = some μ := by
  intro d
  induction d with
  | zero => intro idx μ h _; omega
  | succ d ih =>
    intro idx μ h a
    obtain ⟨z, ez⟩ : ∃ z, FU = z + 1 := ⟨FU - 1, by unfold FU; omega⟩
    match idx with
    | 0 =>
      show f_X12_expression_r (f_rec d) μ = _
      unfold f_X12_expression_r
      rw [ih 1 μ (by omega) a, e_bvS, ez]
      show f_X12_expression_b4_s _ _ μ = _
      unfold f_X12_expression_b4_s
      rw [s_isWordD a, e_bdS, if_pos rfl]
    | 1 =>
      show f_X12_conjunction_r (f_rec d) μ = _
      unfold f_X12_conjunction_r
      rw [ih 2 μ (by omega) a, e_bvS, ez]
      show f_X12_conjunction_b4_s _ _ μ = _
      unfold f_X12_conjunction_b4_s
      rw [s_isWordD a, e_bdS, if_pos rfl]
    | 2 =>
      show f_X12_negation_r (f_rec d) μ = _
      unfold f_X12_negation_r f_X12_negation_b86
      rw [s_isWordD a, e_bdS, if_pos rfl, ih 3 μ (by omega) a, e_bvS, if_neg a]
    | 3 =>
      show f_X12_sum_r (f_rec d) μ = _
      unfold f_X12_sum_r
      rw [ih 4 μ (by omega) a, e_bvS, ez]
      show f_X12_sum_b4_s _ _ μ = _
      unfold f_X12_sum_b4_s
      rw [s_isSignD a, e_bdS, if_pos rfl, s_isSignD a, e_bdS, if_pos rfl]
    | 4 =>
      show f_X12_product_r (f_rec d) μ = _
      unfold f_X12_product_r
      rw [ih 5 μ (by omega) a, e_bvS, ez]
      show f_X12_product_b4_s _ _ μ = _
      unfold f_X12_product_b4_s
      rw [s_isSignD a, e_bdS, if_pos rfl, s_isSignD a, e_bdS, if_pos rfl]
    | k + 5 =>
      show f_X12_primary_r (f_rec d) μ = _
      unfold f_X12_primary_r
      rw [if_neg a]
