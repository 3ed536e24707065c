/-! the tokens as both sides meet them -/
abbrev q_X : Type := (Nat × Nat) × (Nat → Int32) × (Nat → Int32) × (Nat → Nat) × (Nat → Nat) × (Nat → Int32)
abbrev xN (X : q_X) : Nat := X.1.1
abbrev xK (X : q_X) : Nat := X.1.2
abbrev xS (X : q_X) : Nat → Int32 := X.2.1
abbrev xV (X : q_X) : Nat → Int32 := X.2.2.1
abbrev xP (X : q_X) : Nat → Nat := X.2.2.2.1
abbrev xE (X : q_X) : Nat → Nat := X.2.2.2.2.1
abbrev xB (X : q_X) : Nat → Int32 := X.2.2.2.2.2
/-- what the text is -/
def q_CM (X : q_X) : Prop := q_HB (xB X) (xN X) ∧ xK X ≤ xN X ∧ xE X 0 = 0 ∧ (∀ t, t < xK X → xE X t ≤ xP X t ∧ (∀ i, xE X t ≤ i → i < xP X t → q_wht (xB X i) = true) ∧ q_LX (xB X) (xN X) (xP X t) (xS X t) (xV X t) (xE X (t + 1))) ∧ xE X (xK X) ≤ xN X ∧ (∀ i, xE X (xK X) ≤ i → i < xN X → q_wht (xB X i) = true) ∧ (∀ t, xK X ≤ t → xS X t = 0 ∧ xV X t = 0 ∧ xP X t = xN X)
/-- the class holds its tokens -/
def q_CT (X : q_X) (σ : MSt) : Prop := σ.1 1 6 = nI (xN X) ∧ σ.1 1 7 = nI (xK X) ∧ ∀ t, t < xK X → σ.1 3 t = xS X t ∧ σ.1 4 t = xV X t ∧ σ.1 5 t = nI (xP X t)
def q_TS (s v so va : Int32) : Prop := (s = 0 ∧ so = 4) ∨ q_TR s v so va
/-- the reference stands at token t -/
def q_RT (X : q_X) (t : Nat) (μ : MSt) : Prop := t ≤ xK X ∧ (μ.1 1 = xB X ∧ μ.1 0 24 = -1) ∧ μ.1 0 18 = nI (xN X) ∧ μ.1 0 20 = nI (xP X t) ∧ (t < xK X → μ.1 0 19 = nI (xE X (t + 1))) ∧ q_TS (xS X t) (xV X t) (μ.1 0 21) (μ.1 0 22)
section
variable {X : q_X} {σ μ : MSt}
theorem q_CT.eq {σ' : MSt} (h : q_CT X σ) (h1 : σ'.1 1 = σ.1 1) (h3 : σ'.1 3 = σ.1 3) (h4 : σ'.1 4 = σ.1 4) (h5 : σ'.1 5 = σ.1 5) : q_CT X σ' := by
  unfold q_CT at h ⊢
  rw [h1, h3, h4, h5]
  exact h
theorem s_sortOf (M : q_CM X) (h : q_CT X σ) (t : Nat) (ht : t < 2 ^ 31) : f_X9_sortOf (nI t) σ = some (xS X t, σ) := by
  have hN := M.1.1
  have hK := M.2.1
  unfold f_X9_sortOf f_X9_sortOf_b21 f_X9_sortOf_b22
  rw [if_neg (nI_pos ht), h.2.1]
  by_cases c : t < xK X
  · rw [if_neg (nI_ge c (by omega)), e_ck (q_kin (by omega)), nI_clamp ht, (h.2.2 t c).1]
  · rw [if_pos (nI_le (by omega) ht), (M.2.2.2.2.2.2 t (by omega)).1]
theorem s_valueOf (M : q_CM X) (h : q_CT X σ) (t : Nat) (ht : t < 2 ^ 31) : f_X9_valueOf (nI t) σ = some (xV X t, σ) := by
  have hN := M.1.1
  have hK := M.2.1
  unfold f_X9_valueOf f_X9_valueOf_b21 f_X9_valueOf_b22
  rw [if_neg (nI_pos ht), h.2.1]
  by_cases c : t < xK X
  · rw [if_neg (nI_ge c (by omega)), e_ck (q_kin (by omega)), nI_clamp ht, (h.2.2 t c).2.1]
  · rw [if_pos (nI_le (by omega) ht), (M.2.2.2.2.2.2 t (by omega)).2.1]
theorem s_placeOf (M : q_CM X) (h : q_CT X σ) (t : Nat) (ht : t < 2 ^ 31) : f_X9_placeOf (nI t) σ = some (nI (xP X t), σ) := by
  have hN := M.1.1
  have hK := M.2.1
  unfold f_X9_placeOf f_X9_placeOf_b21 f_X9_placeOf_b25
  rw [if_neg (nI_pos ht), h.2.1]
  by_cases c : t < xK X
  · rw [if_neg (nI_ge c (by omega)), e_ck (q_kin (by omega)), nI_clamp ht, (h.2.2 t c).2.2]
  · rw [if_pos (nI_le (by omega) ht), h.1, (M.2.2.2.2.2.2 t (by omega)).2.2]
theorem q_pI {p : Int32} (h : ¬ p < 0) : ∃ n, n < 2 ^ 31 ∧ p = nI n := by
  have h0 : 0 ≤ p.toInt := by
    have q := Int32.le_iff_toInt_le.mp (Int32.not_lt.mp h)
    rw [t_0] at q
    exact q
  have h1 := Int32.toInt_lt p
  refine ⟨p.toInt.toNat, by omega, ?_⟩
  apply Int32.toInt_inj.mp
  rw [nI_toInt (by omega)]
  omega
theorem x_sortOf (M : q_CM X) (h : q_CT X σ) (p : Int32) : ∃ s, f_X9_sortOf p σ = some (s, σ) := by
  by_cases c : p < 0
  · exact ⟨0, by unfold f_X9_sortOf f_X9_sortOf_b21 f_X9_sortOf_b22; rw [if_pos c]⟩
  · obtain ⟨n, hn, rfl⟩ := q_pI c
    exact ⟨_, s_sortOf M h n hn⟩
theorem x_valueOf (M : q_CM X) (h : q_CT X σ) (p : Int32) : ∃ s, f_X9_valueOf p σ = some (s, σ) := by
  by_cases c : p < 0
  · exact ⟨0, by unfold f_X9_valueOf f_X9_valueOf_b21 f_X9_valueOf_b22; rw [if_pos c]⟩
  · obtain ⟨n, hn, rfl⟩ := q_pI c
    exact ⟨_, s_valueOf M h n hn⟩
/-- the reference reads token t -/
theorem q_tok (M : q_CM X) (t : Nat) (ht : t ≤ xK X) (h1 : μ.1 1 = xB X) (h24 : μ.1 0 24 = -1) (h18 : μ.1 0 18 = nI (xN X)) (h19 : μ.1 0 19 = nI (xE X t)) : ∃ μ', f_X12_token μ = some μ' ∧ q_RT X t μ' ∧ FK μ μ' := by
  have hN := M.1.1
  have hB := M.1
  rw [← h1] at hB
  unfold f_X12_token
  by_cases c : t < xK X
  · obtain ⟨a1, a2, a3⟩ := M.2.2.2.1 t c
    rw [← h1] at a2 a3
    have hp : xP X t < xN X := a3.1
    obtain ⟨μ', so, va, y1, y2, y3, y4⟩ := (s_token_l hB (xP X t) (by omega) (Or.inr a3.2.2.2.1) (xP X t - xE X t) FU (xE X t) μ (by omega) (by unfold FU; omega) FK.rf h18 h19 a2).2 _ _ _ a3
    refine ⟨μ', y1, ⟨ht, ⟨by rw [y4.1 1 (by omega)]; exact h1, by rw [y4.2 24 (by omega)]; exact h24⟩, by rw [y4.2 18 (by omega)]; exact h18, y2.1, fun _ => y2.2.1, ?_⟩, y4⟩
    rw [y2.2.2.1, y2.2.2.2]
    exact Or.inr y3
  · have e : t = xK X := by omega
    have e0 := M.2.2.2.2.2.2 t (by omega)
    have hw : ∀ i, xE X t ≤ i → i < xN X → q_wht (μ.1 1 i) = true := by rw [h1, e]; exact M.2.2.2.2.2.1
    have he : xE X t ≤ xN X := by rw [e]; exact M.2.2.2.2.1
    obtain ⟨μ', va, y1, y2, y4⟩ := (s_token_l hB (xN X) (by omega) (Or.inl rfl) (xN X - xE X t) FU (xE X t) μ (by omega) (by unfold FU; omega) FK.rf h18 h19 hw).1 rfl
    refine ⟨μ', y1, ⟨ht, ⟨by rw [y4.1 1 (by omega)]; exact h1, by rw [y4.2 24 (by omega)]; exact h24⟩, by rw [y4.2 18 (by omega)]; exact h18, by rw [e0.2.2]; exact y2.1, fun q => absurd q c, Or.inl ⟨e0.1, y2.2.2.1⟩⟩, y4⟩
theorem q_tok1 (M : q_CM X) {t : Nat} (h : q_RT X t μ) (ht : t < xK X) : ∃ μ', f_X12_token μ = some μ' ∧ q_RT X (t + 1) μ' ∧ FK μ μ' := q_tok M (t + 1) ht h.2.1.1 h.2.1.2 h.2.2.1 (h.2.2.2.2.1 ht)
end
