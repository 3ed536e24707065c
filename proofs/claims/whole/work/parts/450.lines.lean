/-! one line, both sides -/
theorem q_TS.wd {s v so va : Int32} (h : q_TS s v so va) (w : Nat) (hw : w < 22) : s = nI (10 + w) ↔ (so = 0 ∧ va = nI w) := by
  have g : ∀ w : Nat, w < 22 → ¬ 0 = nI (10 + w) ∧ ¬ 1 = nI (10 + w) ∧ ¬ 2 = nI (10 + w) ∧ ¬ 3 = nI (10 + w) := by decide
  have g2 : ∀ w : Nat, w < 22 → nI (10 + w) < 40 := by decide
  obtain ⟨g0, g1, g3, g4⟩ := g w hw
  rcases h with ⟨rfl, rfl⟩ | ⟨rfl, rfl⟩ | ⟨rfl, rfl, rfl⟩ | ⟨rfl, rfl, h⟩ | ⟨u, hu, rfl, rfl, rfl⟩ | ⟨h, rfl⟩
  · exact ⟨fun q => absurd q g0, fun q => absurd q.1 (by decide)⟩
  · exact ⟨fun q => absurd q g1, fun q => absurd q.1 (by decide)⟩
  · exact ⟨fun q => absurd q g3, fun q => absurd q.1 (by decide)⟩
  · exact ⟨fun q => absurd q g4, fun q => absurd q.1 (by decide)⟩
  · constructor
    · intro q
      have e := congrArg Int32.toInt q
      rw [nI_toInt (by omega), nI_toInt (by omega)] at e
      exact ⟨rfl, by rw [show u = w by omega]⟩
    · rintro ⟨-, q⟩
      have e := congrArg Int32.toInt q
      rw [nI_toInt (by omega), nI_toInt (by omega)] at e
      rw [show u = w by omega]
  · have h2 : ¬ s < 40 := by
      rcases h with ⟨rfl, -⟩ | ⟨rfl, -⟩ | ⟨rfl, -⟩ | ⟨rfl, -⟩ | ⟨rfl, -⟩ | ⟨rfl, -⟩ | ⟨rfl, -⟩ | ⟨rfl, -⟩ | ⟨rfl, -⟩ | ⟨rfl, -⟩ | ⟨rfl, -⟩ | ⟨rfl, -⟩ | ⟨rfl, -⟩ <;> decide
    exact ⟨fun q => absurd (q ▸ g2 w hw) h2, fun q => absurd q.1 (by decide)⟩
theorem s_fresher (w : Nat) (hw : w < 9) (μ : MSt) : f_X12_fresher (nI w) μ = some (μ.1 2 (9 + w), μ) := by
  unfold f_X12_fresher
  have i0 : ∀ w : Nat, w < 9 → k_inb ((9 : Int32) + nI w) 18 = true ∧ ((9 : Int32) + nI w).toNatClampNeg = 9 + w := by decide
  rw [e_ck (i0 w hw).1, (i0 w hw).2]
theorem s_reads (w : Nat) (hw : w < 9) (v : Int32) (μ : MSt) : f_X12_reads (nI w) v μ = some (mI μ 2 (9 + w) v) := by
  unfold f_X12_reads
  have i0 : ∀ w : Nat, w < 9 → k_inb ((9 : Int32) + nI w) 18 = true ∧ ((9 : Int32) + nI w).toNatClampNeg = 9 + w := by decide
  rw [e_ck (i0 w hw).1, (i0 w hw).2, e_nm]
theorem q_nIe {a b : Nat} (ha : a < 2 ^ 31) (hb : b < 2 ^ 31) : nI a = nI b ↔ a = b := by
  constructor
  · intro q
    have e := congrArg Int32.toInt q
    rw [nI_toInt ha, nI_toInt hb] at e
    omega
  · rintro rfl; rfl
theorem s_isFull (w : Nat) (hw : w < 9) (nb nl nd nw : Nat) (μ : MSt) (h0 : μ.1 2 9 = nI nb) (h1 : μ.1 2 10 = nI nl) (h2 : μ.1 2 11 = nI nd) (h3 : μ.1 2 12 = nI nw) (hb : nb ≤ 8 ∧ nl ≤ 12 ∧ nd ≤ 12 ∧ nw ≤ 20) : f_X12_isFull (nI w) μ = some (if (w = 0 ∧ nb = 8) ∨ (w = 1 ∧ nl = 12) ∨ (w = 2 ∧ nd = 12) ∨ (w = 3 ∧ nw = 20) then 1 else 0, μ) := by
  have f0 : f_X12_fresher 0 μ = some (nI nb, μ) := by have := s_fresher 0 (by omega) μ; rw [h0] at this; exact this
  have f1 : f_X12_fresher 1 μ = some (nI nl, μ) := by have := s_fresher 1 (by omega) μ; rw [h1] at this; exact this
  have f2 : f_X12_fresher 2 μ = some (nI nd, μ) := by have := s_fresher 2 (by omega) μ; rw [h2] at this; exact this
  have f3 : f_X12_fresher 3 μ = some (nI nw, μ) := by have := s_fresher 3 (by omega) μ; rw [h3] at this; exact this
  have e0 : (nI nb = 8) ↔ nb = 8 := q_nIe (b := 8) (by omega) (by decide)
  have e1 : (nI nl = 12) ↔ nl = 12 := q_nIe (b := 12) (by omega) (by decide)
  have e2 : (nI nd = 12) ↔ nd = 12 := q_nIe (b := 12) (by omega) (by decide)
  have e3 : (nI nw = 20) ↔ nw = 20 := q_nIe (b := 20) (by omega) (by decide)
  have w0 : (nI w = 0) ↔ w = 0 := q_nIe (b := 0) (by omega) (by decide)
  have w1 : (nI w = 1) ↔ w = 1 := q_nIe (b := 1) (by omega) (by decide)
  have w2 : (nI w = 2) ↔ w = 2 := q_nIe (b := 2) (by omega) (by decide)
  have w3 : (nI w = 3) ↔ w = 3 := q_nIe (b := 3) (by omega) (by decide)
  have k0 : k_bo 0 = true := by decide
  have k1 : k_bo 1 = true := by decide
  unfold f_X12_isFull f_X12_isFull_b14 f_X12_isFull_b29 f_X12_isFull_b44 f_X12_isFull_b59 f_X12_isFull_b63 f_X12_isFull_b64
  simp only [f0, f1, f2, f3, e_bdS, e0, e1, e2, e3, w0, w1, w2, w3, e_ck k0, e_ck k1]
  by_cases a0 : w = 0
  · subst a0; by_cases c : nb = 8 <;> simp [c]
  · by_cases a1 : w = 1
    · subst a1; by_cases c : nl = 12 <;> simp [c]
    · by_cases a2 : w = 2
      · subst a2; by_cases c : nd = 12 <;> simp [c]
      · by_cases a3 : w = 3
        · subst a3; by_cases c : nw = 20 <;> simp [c]
        · simp [a0, a1, a2, a3]
theorem q_b71d {μ : MSt} (d : ¬ μ.1 0 23 = 0) (x : Int32) : f_X12_line_b71 x μ = some μ := by
  unfold f_X12_line_b71
  rw [if_neg d]
section
variable {X : q_X} {o nb nl nd nw nk t ln : Nat} {σ μ : MSt}
theorem q_IV.tl (M : q_CM X) (h : q_IV X o nb nl nd nw nk t ln σ μ) : t < 2 ^ 31 ∧ t ≤ 700 := by
  have := h.2.1.2.2.2.1; have := M.1.1; have := M.2.1; omega
/-- the reference's line up to its word -/
theorem q_line0 (h : q_IV X o nb nl nd nw nk t ln σ μ) (w : Nat) (hw : w < 9) (hs : xS X t = nI (10 + w)) : f_X12_line μ = (if (w = 0 ∧ nb = 8) ∨ (w = 1 ∧ nl = 12) ∨ (w = 2 ∧ nd = 12) ∨ (w = 3 ∧ nw = 20) then k_bv (f_X12_wrong 2 μ) fun σ6 => f_X12_line_b71 (nI w) σ6 else if w < 4 ∨ 7 < w then f_X12_line_b71 (nI w) μ else if q_bt (μ.1 0 16) w = true then k_bv (f_X12_wrong 3 μ) fun σ5 => f_X12_line_b71 (nI w) σ5 else f_X12_line_b71 (nI w) μ) := by
  obtain ⟨B, A, ⟨⟨C1, C2, C3, -⟩, -⟩, -⟩ := h
  obtain ⟨e1, e2⟩ := (A.2.2.2.2.2.2.2.2.wd w (by omega)).mp hs
  unfold f_X12_line
  rw [if_pos e1, e2, if_pos (show nI w ≤ 8 from nI_le (a := w) (b := 8) (by omega) (by decide)), e_nm, s_isFull w hw nb nl nd nw μ B.2.2.2.2.2.1 C3.1 C3.2.1 C3.2.2.1 ⟨B.2.2.2.1, C1.1, C1.2.1, C1.2.2.1⟩, e_bdS]
  by_cases c : (w = 0 ∧ nb = 8) ∨ (w = 1 ∧ nl = 12) ∨ (w = 2 ∧ nd = 12) ∨ (w = 3 ∧ nw = 20)
  · rw [if_pos c, if_pos c, if_neg (by decide)]
  · rw [if_neg c, if_neg c, if_pos rfl]
    by_cases c1 : w < 4
    · rw [if_pos (show nI w < 4 from nI_lt (a := w) (b := 4) (by omega) (by decide)), if_pos (Or.inl c1)]
    · rw [if_neg (show ¬ nI w < 4 from nI_nlt (a := w) (b := 4) (by omega) (by omega))]
      by_cases c2 : 7 < w
      · rw [if_pos (show 7 < nI w from nI_lt (a := 7) (b := w) (by omega) (by omega)), if_pos (Or.inr c2)]
      · rw [if_neg (show ¬ 7 < nI w from nI_nlt (a := 7) (b := w) (by omega) (by omega)), if_neg (show ¬ (w < 4 ∨ 7 < w) by omega)]
        by_cases c3 : q_bt (μ.1 0 16) w = true
        · rw [if_pos c3, if_pos ((b_shr _ w (by omega)).mpr c3)]
        · rw [if_neg c3, if_neg (fun q => c3 ((b_shr _ w (by omega)).mp q))]
/-- behind the word -/
theorem q_st (M : q_CM X) (h : q_IV X o nb nl nd nw nk t ln σ μ) (w x : Nat) (hw : w < 9) (hs : xS X t = nI (10 + w)) (v3 : Int32) (htd : q_td v3 (μ.1 0 16 ||| ((1 : Int32) <<< (nI w &&& 31)))) : ∃ μ2, f_X12_token (mI μ 0 16 (μ.1 0 16 ||| ((1 : Int32) <<< (nI w &&& 31)))) = some μ2 ∧ q_zB X o nb (mI (mI σ 7 3 v3) 7 2 (nI (t + 1))) μ2 ∧ q_zA X (t + 1) (mI (mI σ 7 3 v3) 7 2 (nI (t + 1))) μ2 ∧ q_pr2 o nb nl nd nw nk (mI (mI σ 7 3 v3) 7 2 (nI (t + 1))) μ2 ∧ μ2.1 0 17 = nI ln ∧ q_GM μ μ2 ∧ q_GC o σ (mI (mI σ 7 3 v3) 7 2 (nI (t + 1))) := by
  obtain ⟨B, A, P, h17, hln⟩ := id h
  obtain ⟨a1, a2, a3, a4⟩ := A
  have ht : t < xK X := a4.lt M (by
    rw [hs]
    have : ∀ w : Nat, w < 9 → ¬ nI (10 + w) = 0 := by decide
    exact this w hw)
  have g : ∀ v, q_RT X t (mI μ 0 16 v) := fun v => by
    unfold q_RT
    rw [m_Ir _ _ _ _ (by omega)]
    simp only [m_I]
    simp
    exact a4
  obtain ⟨μ2, y1, y2, y3⟩ := q_tok1 M (g (μ.1 0 16 ||| ((1 : Int32) <<< (nI w &&& 31)))) ht
  have er : ∀ r, r ≠ 0 → μ2.1 r = μ.1 r := fun r hr => by rw [y3.1 r hr, m_Ir _ _ _ _ hr]
  have ej : ∀ j, j ≠ 16 → (j < 19 ∨ 22 < j) → μ2.1 0 j = μ.1 0 j := fun j hj h => by rw [y3.2 j h, m_I, if_neg (by omega)]
  have e16 : μ2.1 0 16 = μ.1 0 16 ||| ((1 : Int32) <<< (nI w &&& 31)) := by rw [y3.2 16 (by omega), m_I, if_pos ⟨rfl, rfl⟩]
  have fr : ∀ r, r ≠ 7 → (mI (mI σ 7 3 v3) 7 2 (nI (t + 1))).1 r = σ.1 r := fun r hr => by rw [m_Ir _ _ _ _ hr, m_Ir _ _ _ _ hr]
  have f7 : ∀ j, j ≠ 2 → j ≠ 3 → (mI (mI σ 7 3 v3) 7 2 (nI (t + 1))).1 7 j = σ.1 7 j := fun j h1 h2 => by rw [m_I, if_neg (by omega), m_I, if_neg (by omega)]
  have f3 : (mI (mI σ 7 3 v3) 7 2 (nI (t + 1))).1 7 3 = v3 := by simp [m_I]
  have f2 : (mI (mI σ 7 3 v3) 7 2 (nI (t + 1))).1 7 2 = nI (t + 1) := by simp [m_I]
  refine ⟨μ2, y1, ?_, ⟨by rw [f7 4 (by omega) (by omega)]; exact a1, by rw [ej 23 (by omega) (by omega)]; exact a2, f2, y2⟩, ?_, by rw [ej 17 (by omega) (by omega)]; exact h17, ⟨fun r hr => er r (by omega), fun r i p q s => by rw [er r (by omega)], fun j hj => ej j (by omega) (by omega)⟩, ⟨fun r p _ _ => fr r p, rfl⟩⟩
  · obtain ⟨h1, h2, h3, h4, h5, h6, h7⟩ := B
    refine ⟨h1.eq (fr 1 (by omega)) (fr 3 (by omega)) (fr 4 (by omega)) (fr 5 (by omega)), h2, by rw [f7 1 (by omega) (by omega)]; exact h3, h4, by rw [fr o (by omega)]; exact h5, by rw [er 2 (by omega)]; exact h6, fun i hi => ?_⟩
    rw [fr (o + 1) (by omega), er 3 (by omega)]
    exact h7 i hi
  · have ho := B.2.1
    unfold q_pr2 r_pc at P ⊢
    rw [f3, e16]
    rw [fr o (by omega), fr (o + 2) (by omega), fr (o + 3) (by omega), fr (o + 4) (by omega), fr (o + 5) (by omega), fr (o + 6) (by omega), fr (o + 7) (by omega), fr (o + 8) (by omega), fr (o + 9) (by omega), fr (o + 10) (by omega), fr (o + 11) (by omega), f7 8 (by omega) (by omega), er 2 (by omega), er 4 (by omega), er 5 (by omega), er 6 (by omega), er 7 (by omega), er 8 (by omega), er 9 (by omega), er 10 (by omega), er 11 (by omega), er 12 (by omega), er 13 (by omega), er 14 (by omega), ej 27 (by omega) (by omega), ej 28 (by omega) (by omega)]
    exact ⟨P.1, P.2.1, P.2.2.1, P.2.2.2.1, P.2.2.2.2.1, P.2.2.2.2.2.1, htd⟩
theorem q_zB.cb (h : q_zB X o nb σ μ) (k : Nat) (hk : k ≤ 64) (e : σ.1 (o + 7) 5 = nI k) : q_CB X o σ := ⟨h.1, h.2.1, h.2.2.1, ⟨nb, h.2.2.2.1, h.2.2.2.2.1⟩, k, hk, e⟩
/-- the line's end, alive -/
theorem q_fin (M : q_CM X) (B : q_zB X o nb σ μ) (A : q_zA X t σ μ) (P : q_pr2 o nb nl nd nw nk σ μ) (h17 : μ.1 0 17 = nI ln) (hl : ln ≤ t) : ∃ σ' μ', f_X7_readLine_b125 σ = some σ' ∧ f_X12_line_b360 μ = some μ' ∧ q_GC o σ σ' ∧ q_GM μ μ' ∧ (q_IV X o nb nl nd nw nk (t + 1) (ln + 1) σ' μ' ∨ (q_CB X o σ' ∧ q_zD X σ' μ')) := by
  obtain ⟨σ', μ', y1, y2, y3, y4, y5, y6⟩ := q_eol M ⟨B, Or.inl A⟩
  refine ⟨σ', μ', y1, y2, y3.gc, y4.gm, ?_⟩
  have P' := P.fr B.2.1 y3 y4
  rcases y6 with ⟨-, z1, z2⟩ | D
  · exact Or.inl ⟨y5, z1, P', by rw [z2, h17, nI_1], by omega⟩
  · exact Or.inr ⟨y5.cb nk P'.1.1.2.2.2 P'.1.2.1.2.2.2, D⟩
/-- the line's end behind a fault -/
theorem q_finD (M : q_CM X) (C : q_CB X o σ) (D : q_zD X σ μ) : ∃ σ', f_X7_readLine_b125 σ = some σ' ∧ f_X12_line_b360 μ = some μ ∧ q_GC o σ σ' ∧ q_CB X o σ' ∧ q_zD X σ' μ := by
  obtain ⟨σ', y1, y2⟩ := d_end M C D.n.1
  refine ⟨σ', y1, ?_, y2.2.2.2, y2.1, D.fr y2.2.1 y2.2.2.1 rfl rfl⟩
  unfold f_X12_line_b360
  rw [if_neg D.n.2]
end
