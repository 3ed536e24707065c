/-! both sides read on together, or both have met the same fault -/
def q_FC (σ σ' : MSt) : Prop := (∀ r, r ≠ 7 → σ'.1 r = σ.1 r) ∧ (∀ j, j ≠ 2 → j ≠ 4 → j ≠ 5 → σ'.1 7 j = σ.1 7 j) ∧ σ'.2 = σ.2
def q_FM (μ μ' : MSt) : Prop := (∀ r, r ≠ 0 → μ'.1 r = μ.1 r) ∧ ∀ j, (j < 19 ∨ 24 < j) → μ'.1 0 j = μ.1 0 j
theorem q_FC.rf {σ : MSt} : q_FC σ σ := ⟨fun _ _ => rfl, fun _ _ _ _ => rfl, rfl⟩
theorem q_FC.trans {σ σ1 σ2 : MSt} (h : q_FC σ σ1) (g : q_FC σ1 σ2) : q_FC σ σ2 := ⟨fun r hr => (g.1 r hr).trans (h.1 r hr), fun j a b c => (g.2.1 j a b c).trans (h.2.1 j a b c), g.2.2.trans h.2.2⟩
theorem q_FC.m (σ : MSt) (j : Nat) (v : Int32) (h : j = 2 ∨ j = 4 ∨ j = 5) : q_FC σ (mI σ 7 j v) := ⟨fun r hr => m_Ir _ _ _ _ hr, fun i a b c => by rw [m_I, if_neg (by omega)], rfl⟩
theorem q_FM.rf {μ : MSt} : q_FM μ μ := ⟨fun _ _ => rfl, fun _ _ => rfl⟩
theorem q_FM.trans {μ μ1 μ2 : MSt} (h : q_FM μ μ1) (g : q_FM μ1 μ2) : q_FM μ μ2 := ⟨fun r hr => (g.1 r hr).trans (h.1 r hr), fun j a => (g.2 j a).trans (h.2 j a)⟩
theorem q_FM.m (μ : MSt) (j : Nat) (v : Int32) (h : 18 < j ∧ j < 25) : q_FM μ (mI μ 0 j v) := ⟨fun r hr => m_Ir _ _ _ _ hr, fun i a => by rw [m_I, if_neg (by omega)]⟩
theorem FK.fm {μ μ' : MSt} (h : FK μ μ') : q_FM μ μ' := ⟨h.1, fun j hj => h.2 j (by omega)⟩
/-- alive at token t -/
def q_zA (X : q_X) (t : Nat) (σ μ : MSt) : Prop := σ.1 7 4 = 0 ∧ μ.1 0 23 = 0 ∧ σ.1 7 2 = nI t ∧ q_RT X t μ
/-- the same fault -/
def q_zD (X : q_X) (σ μ : MSt) : Prop := ∃ a, ¬ σ.1 7 4 = 0 ∧ μ.1 0 23 = σ.1 7 4 ∧ σ.1 7 5 = nI a ∧ a ≤ xK X ∧ μ.1 0 24 = nI (xP X a)
def q_zB (X : q_X) (o nb : Nat) (σ μ : MSt) : Prop := q_CT X σ ∧ (o = 10 ∨ o = 30) ∧ σ.1 7 1 = nI o ∧ nb ≤ 8 ∧ σ.1 o 7 = nI nb ∧ μ.1 2 9 = nI nb ∧ ∀ i, i < nb → σ.1 (o + 1) i = μ.1 3 (8 + i)
def q_zJ (X : q_X) (o nb t : Nat) (σ μ : MSt) : Prop := q_zB X o nb σ μ ∧ (q_zA X t σ μ ∨ q_zD X σ μ)
theorem q_zB.fr {X : q_X} {o nb : Nat} {σ μ σ' μ' : MSt} (h : q_zB X o nb σ μ) (f : q_FC σ σ') (g : q_FM μ μ') : q_zB X o nb σ' μ' := by
  obtain ⟨h1, h2, h3, h4, h5, h6, h7⟩ := h
  refine ⟨h1.eq (f.1 1 (by omega)) (f.1 3 (by omega)) (f.1 4 (by omega)) (f.1 5 (by omega)), h2, by rw [f.2.1 1 (by omega) (by omega) (by omega)]; exact h3, h4, by rw [f.1 o (by omega)]; exact h5, by rw [g.1 2 (by omega)]; exact h6, fun i hi => ?_⟩
  rw [f.1 (o + 1) (by omega), g.1 3 (by omega)]
  exact h7 i hi
theorem q_zA.z {X : q_X} {t : Nat} {σ μ : MSt} (h : q_zA X t σ μ) : t < 2 ^ 31 → True := fun _ => trivial
section
variable {X : q_X} {o nb t : Nat} {σ μ : MSt}
theorem q_zAD (h : q_zA X t σ μ) (h2 : q_zD X σ μ) : False := by
  obtain ⟨a, b, -⟩ := h2
  exact b h.1
/-- a fault here -/
theorem q_flt (B : q_zB X o nb σ μ) (h : q_zA X t σ μ) (p : Int32) (hp : ¬ p = 0) : ∃ σ' μ', f_X7_fail p σ = some σ' ∧ f_X12_wrong p μ = some μ' ∧ q_zB X o nb σ' μ' ∧ q_zD X σ' μ' ∧ q_FC σ σ' ∧ q_FM μ μ' := by
  obtain ⟨h1, h2, h3, h4⟩ := h
  unfold f_X7_fail f_X12_wrong f_X7_fail_b20
  rw [if_pos h1, if_pos h2]
  simp only [e_nm]
  have fc : q_FC σ (mI (mI σ 7 4 p) 7 5 ((mI σ 7 4 p).1 7 2)) := (q_FC.m _ _ _ (by omega)).trans (q_FC.m _ _ _ (by omega))
  have fm : q_FM μ (mI (mI μ 0 23 p) 0 24 ((mI μ 0 23 p).1 0 20)) := (q_FM.m _ _ _ (by omega)).trans (q_FM.m _ _ _ (by omega))
  refine ⟨_, _, rfl, rfl, B.fr fc fm, ⟨t, ?_, ?_, ?_, h4.1, ?_⟩, fc, fm⟩
  · simp [m_I]; exact hp
  · simp [m_I]
  · simp [m_I]; exact h3
  · simp [m_I]; exact h4.2.2.2.1
theorem q_fail_d (h : ¬ σ.1 7 4 = 0) (p : Int32) : f_X7_fail p σ = some σ := by
  unfold f_X7_fail f_X7_fail_b20
  rw [if_neg h]
theorem q_wrong_d (h : ¬ μ.1 0 23 = 0) (p : Int32) : f_X12_wrong p μ = some μ := by
  unfold f_X12_wrong
  rw [if_neg h]
theorem q_zD.n {σ μ : MSt} (h : q_zD X σ μ) : ¬ σ.1 7 4 = 0 ∧ ¬ μ.1 0 23 = 0 := by
  obtain ⟨a, b, c, -⟩ := h
  exact ⟨b, by rw [c]; exact b⟩
theorem q_zD.fr {σ' μ' : MSt} (h : q_zD X σ μ) (f4 : σ'.1 7 4 = σ.1 7 4) (f5 : σ'.1 7 5 = σ.1 7 5) (g3 : μ'.1 0 23 = μ.1 0 23) (g4 : μ'.1 0 24 = μ.1 0 24) : q_zD X σ' μ' := by
  unfold q_zD at h ⊢
  rw [f4, f5, g3, g4]
  exact h
theorem q_fb (f : Nat → Int32) (x : Int32) (n : Nat) : ∀ k i, q_find f x n k i = -1 ∨ ∃ j, j < n ∧ q_find f x n k i = nI j ∧ f j = x := by
  intro k
  induction k with
  | zero => intro i; exact Or.inl rfl
  | succ k ih =>
    intro i
    unfold q_find
    by_cases c : i < n
    · rw [if_pos c]
      by_cases e : f i = x
      · rw [if_pos e]; exact Or.inr ⟨i, c, rfl, e⟩
      · rw [if_neg e]; exact ih (i + 1)
    · rw [if_neg c]; exact Or.inl rfl
/-- what the sorts say -/
theorem q_TS.nm {s v so va : Int32} (h : q_TS s v so va) : (s = 2 ↔ so = 1) ∧ (s = 2 → va = v) ∧ (s = 3 ↔ so = 2) ∧ (s = 3 → q_NV v va) ∧ (s = 40 ↔ (so = 3 ∧ va = 59)) ∧ (s = 0 ↔ so = 4) := by
  have g : ∀ w : Nat, w < 22 → ¬ nI (10 + w) = 2 ∧ ¬ nI (10 + w) = 3 ∧ ¬ nI (10 + w) = 40 ∧ ¬ nI (10 + w) = 0 := by decide
  rcases h with ⟨rfl, rfl⟩ | ⟨rfl, rfl⟩ | ⟨rfl, rfl, rfl⟩ | ⟨rfl, rfl, h⟩ | ⟨w, hw, rfl, rfl, rfl⟩ | ⟨h, rfl⟩
  · exact ⟨by decide, (fun q => absurd q (by decide)), by decide, (fun q => absurd q (by decide)), ⟨(fun q => absurd q (by decide)), fun q => absurd q.1 (by decide)⟩, by decide⟩
  · exact ⟨by decide, (fun q => absurd q (by decide)), by decide, (fun q => absurd q (by decide)), ⟨(fun q => absurd q (by decide)), fun q => absurd q.1 (by decide)⟩, by decide⟩
  · exact ⟨by decide, fun _ => rfl, by decide, (fun q => absurd q (by decide)), ⟨(fun q => absurd q (by decide)), fun q => absurd q.1 (by decide)⟩, by decide⟩
  · exact ⟨by decide, (fun q => absurd q (by decide)), by decide, fun _ => h, ⟨(fun q => absurd q (by decide)), fun q => absurd q.1 (by decide)⟩, by decide⟩
  · obtain ⟨g1, g2, g3, g4⟩ := g w hw
    exact ⟨⟨fun q => absurd q g1, fun q => absurd q (by decide)⟩, fun q => absurd q g1, ⟨fun q => absurd q g2, fun q => absurd q (by decide)⟩, fun q => absurd q g2, ⟨fun q => absurd q g3, fun q => absurd q.1 (by decide)⟩, ⟨fun q => absurd q g4, fun q => absurd q (by decide)⟩⟩
  · rcases h with ⟨rfl, rfl⟩ | ⟨rfl, rfl⟩ | ⟨rfl, rfl⟩ | ⟨rfl, rfl⟩ | ⟨rfl, rfl⟩ | ⟨rfl, rfl⟩ | ⟨rfl, rfl⟩ | ⟨rfl, rfl⟩ | ⟨rfl, rfl⟩ | ⟨rfl, rfl⟩ | ⟨rfl, rfl⟩ | ⟨rfl, rfl⟩ | ⟨rfl, rfl⟩ <;> exact ⟨by decide, (fun q => absurd q (by decide)), by decide, (fun q => absurd q (by decide)), by decide, by decide⟩
theorem q_RT.lt (M : q_CM X) (h : q_RT X t μ) (hs : ¬ xS X t = 0) : t < xK X := by
  have h1 := h.1
  by_cases c : t < xK X
  · exact c
  · exact absurd (M.2.2.2.2.2.2 t (by omega)).1 hs
theorem q_zB.c {σ μ : MSt} (h : q_zB X o nb σ μ) : k_ch (σ.1 7 1) = true ∧ (σ.1 7 1).toNatClampNeg = o := by
  obtain ⟨-, h2, h3, -⟩ := h
  rw [h3]
  rcases h2 with rfl | rfl <;> decide
/-- a bay is named -/
theorem q_told (M : q_CM X) (h : q_zJ X o nb t σ μ) : ∃ x y σ' μ', f_X7_toldBay σ = some (x, σ') ∧ f_X12_bayAtHand μ = some (y, μ') ∧ q_zJ X o nb t σ' μ' ∧ q_FC σ σ' ∧ q_FM μ μ' ∧ (σ'.1 7 4 = 0 → t < xK X ∧ ∃ b, b < nb ∧ x = nI b ∧ y = nI b) := by
  obtain ⟨B, A⟩ := h
  obtain ⟨b1, b2, b3, b4, b5, b6, b7⟩ := id B
  obtain ⟨c1, c2⟩ := B.c
  unfold f_X7_toldBay f_X12_bayAtHand f_X7_toldBay_b51 f_X12_bayAtHand_b52 f_X12_bayAtHand_b81
  have i0 : k_inb ((9 : Int32) + 0) 18 = true := by decide
  have i1 : ((9 : Int32) + 0).toNatClampNeg = 9 := by decide
  have fe : ∀ v, q_find (fun j => μ.1 3 (8 + j)) v nb 9 0 = q_find (σ.1 (o + 1)) v nb 9 0 := fun v => q_find_cong _ _ v nb (fun i hi => (b7 i hi).symm) 9 0
  have fm : ∀ v, f_X12_found 3 16 8 (nI nb) v μ = some (q_find (σ.1 (o + 1)) v nb 9 0, μ) := fun v => by
    rw [show (8 : Int32) = nI 8 from rfl, s_X12_found 3 16 (by omega) 8 v μ nb (by omega) b4, fe]
  have fr : f_X12_fresher 0 μ = some (nI nb, μ) := by unfold f_X12_fresher; rw [e_ck i0, i1, b6]
  rcases A with A | D
  · obtain ⟨a1, a2, a3, a4⟩ := id A
    obtain ⟨n1, n2, -, -, -, -⟩ := q_TS.nm a4.2.2.2.2.2
    have tl : t < 2 ^ 31 := by have := a4.1; have := M.1.1; have := M.2.1; omega
    rw [a3, s_sortOf M b1 t tl, e_bdS, if_pos a2]
    by_cases s2 : xS X t = 2
    · rw [if_pos s2, if_pos (n1.mp s2), e_ck c1, e_nm, c2, a3, s_valueOf M b1 t tl, e_bdS, s_X0_find o _ σ nb b5 b4, e_bdS, fr, e_bdS, fm, e_bdS, n2 s2]
      rcases q_fb (σ.1 (o + 1)) (xV X t) nb 9 0 with e | ⟨j, hj, e, -⟩
      · rw [e, if_pos rfl, if_pos rfl]
        obtain ⟨σ', μ', y1, y2, y3, y4, y5, y6⟩ := q_flt B A 4 (by decide)
        rw [y1, y2, e_bvS, e_bvS, if_neg y4.n.2]
        exact ⟨_, _, _, _, rfl, rfl, ⟨y3, Or.inr y4⟩, y5, y6, fun q => absurd q y4.n.1⟩
      · rw [e, if_neg (q_n1 (by omega)), if_neg (q_n1 (by omega)), if_pos a2, fr, e_bdS, n2 s2, fm, e_bdS, e]
        exact ⟨_, _, _, _, rfl, rfl, ⟨B, Or.inl A⟩, q_FC.rf, q_FM.rf, fun _ => ⟨a4.lt M (by rw [s2]; decide), j, hj, rfl, rfl⟩⟩
    · rw [if_neg s2, if_neg (fun q => s2 (n1.mpr q))]
      obtain ⟨σ', μ', y1, y2, y3, y4, y5, y6⟩ := q_flt B A 1 (by decide)
      rw [y1, y2, e_bvS, e_bvS, if_neg y4.n.2]
      exact ⟨_, _, _, _, rfl, rfl, ⟨y3, Or.inr y4⟩, y5, y6, fun q => absurd q y4.n.1⟩
  · obtain ⟨d1, d2⟩ := D.n
    obtain ⟨s, es⟩ := x_sortOf M b1 (σ.1 7 2)
    obtain ⟨v, ev⟩ := x_valueOf M b1 (σ.1 7 2)
    rw [es, e_bdS, if_neg d2]
    by_cases s2 : s = 2
    · rw [if_pos s2, e_ck c1, e_nm, c2, ev, e_bdS, s_X0_find o _ σ nb b5 b4, e_bdS]
      by_cases q : q_find (σ.1 (o + 1)) v nb 9 0 = -1
      · rw [if_pos q, q_fail_d d1, e_bvS]
        exact ⟨_, _, _, _, rfl, rfl, ⟨B, Or.inr D⟩, q_FC.rf, q_FM.rf, fun q => absurd q d1⟩
      · rw [if_neg q]
        exact ⟨_, _, _, _, rfl, rfl, ⟨B, Or.inr D⟩, q_FC.rf, q_FM.rf, fun q => absurd q d1⟩
    · rw [if_neg s2, q_fail_d d1, e_bvS]
      exact ⟨_, _, _, _, rfl, rfl, ⟨B, Or.inr D⟩, q_FC.rf, q_FM.rf, fun q => absurd q d1⟩
/-- to the next token -/
theorem q_adv (M : q_CM X) (h : q_zJ X o nb t σ μ) (ht : σ.1 7 4 = 0 → t < xK X) : ∃ μ', f_X12_goOn μ = some μ' ∧ q_zJ X o nb (t + 1) (mI σ 7 2 (σ.1 7 2 + 1)) μ' ∧ q_FC σ (mI σ 7 2 (σ.1 7 2 + 1)) ∧ q_FM μ μ' ∧ (mI σ 7 2 (σ.1 7 2 + 1)).1 7 4 = σ.1 7 4 := by
  obtain ⟨B, A⟩ := h
  have fc : q_FC σ (mI σ 7 2 (σ.1 7 2 + 1)) := q_FC.m _ _ _ (by omega)
  have e4 : (mI σ 7 2 (σ.1 7 2 + 1)).1 7 4 = σ.1 7 4 := by rw [m_I, if_neg (by omega)]
  unfold f_X12_goOn f_X12_goOn_b11
  rcases A with A | D
  · obtain ⟨a1, a2, a3, a4⟩ := id A
    obtain ⟨μ', y1, y2, y3⟩ := q_tok1 M a4 (ht a1)
    rw [if_pos a2, y1, e_bvS]
    refine ⟨_, rfl, ⟨B.fr fc y3.fm, Or.inl ⟨by rw [e4]; exact a1, by rw [y3.2 23 (by omega)]; exact a2, ?_, y2⟩⟩, fc, y3.fm, e4⟩
    rw [a3, nI_1]
    simp [m_I]
  · rw [if_neg D.n.2]
    exact ⟨_, rfl, ⟨B.fr fc q_FM.rf, Or.inr (D.fr e4 (by rw [m_I, if_neg (by omega)]) rfl rfl)⟩, fc, q_FM.rf, e4⟩
/-- a number -/
theorem q_num (M : q_CM X) (h : q_zJ X o nb t σ μ) (lo hi : Nat) (hl : lo ≤ hi) (hh : hi ≤ 99999) : ∃ x y σ' μ', f_X7_takeNumber (nI lo) (nI hi) σ = some (x, σ') ∧ f_X12_numeral (nI lo) (nI hi) μ = some (y, μ') ∧ q_zJ X o nb (t + 1) σ' μ' ∧ q_FC σ σ' ∧ q_FM μ μ' ∧ (σ'.1 7 4 = 0 → ∃ k, lo ≤ k ∧ k ≤ hi ∧ x = nI k ∧ y = nI k) := by
  obtain ⟨B, A⟩ := h
  obtain ⟨b1, -⟩ := id B
  unfold f_X7_takeNumber f_X12_numeral f_X7_takeNumber_b45 f_X7_takeNumber_b50 f_X12_numeral_b41 f_X12_numeral_b46
  have fin : ∀ (x y : Int32) (σ' μ' : MSt), q_zB X o nb σ' μ' → q_zD X σ' μ' → q_FC σ σ' → q_FM μ μ' → ∃ x1 y1 σ1 μ1, (k_nm (mI σ' 7 2 (σ'.1 7 2 + 1)) fun s => some (x, s)) = some (x1, σ1) ∧ some (y, μ') = some (y1, μ1) ∧ q_zJ X o nb (t + 1) σ1 μ1 ∧ q_FC σ σ1 ∧ q_FM μ μ1 ∧ (σ1.1 7 4 = 0 → ∃ k, lo ≤ k ∧ k ≤ hi ∧ x1 = nI k ∧ y1 = nI k) := by
    intro x y σ' μ' y3 y4 y5 y6
    have fc : q_FC σ' (mI σ' 7 2 (σ'.1 7 2 + 1)) := q_FC.m _ _ _ (by omega)
    have e4 : (mI σ' 7 2 (σ'.1 7 2 + 1)).1 7 4 = σ'.1 7 4 := by rw [m_I, if_neg (by omega)]
    rw [e_nm]
    exact ⟨_, _, _, _, rfl, rfl, ⟨y3.fr fc q_FM.rf, Or.inr (y4.fr e4 (by rw [m_I, if_neg (by omega)]) rfl rfl)⟩, y5.trans fc, y6, fun q => absurd (e4 ▸ q) y4.n.1⟩
  rcases A with A | D
  · obtain ⟨a1, a2, a3, a4⟩ := id A
    obtain ⟨-, -, n1, n2, -, -⟩ := q_TS.nm a4.2.2.2.2.2
    have tl : t < 2 ^ 31 := by have := a4.1; have := M.1.1; have := M.2.1; omega
    rw [a3, s_valueOf M b1 t tl, e_bdS, a3, s_sortOf M b1 t tl, e_bdS, if_pos a2]
    by_cases s2 : xS X t = 3
    · rw [if_pos s2, if_pos (n1.mp s2)]
      have two : ∃ x1 y1 σ1 μ1, (k_bv (f_X7_fail 2 σ) fun σ1 => k_nm (mI σ1 7 2 (σ1.1 7 2 + 1)) fun s => some (xV X t, s)) = some (x1, σ1) ∧ (k_bv (f_X12_wrong 2 μ) fun σ1 => if σ1.1 0 23 = 0 then (k_nm (σ1.1 0 22) fun u1 => k_bv (f_X12_token σ1) fun σ2 => some (u1, σ2)) else some (nI lo, σ1)) = some (y1, μ1) ∧ q_zJ X o nb (t + 1) σ1 μ1 ∧ q_FC σ σ1 ∧ q_FM μ μ1 ∧ (σ1.1 7 4 = 0 → ∃ k, lo ≤ k ∧ k ≤ hi ∧ x1 = nI k ∧ y1 = nI k) := by
        obtain ⟨σ', μ', y1, y2, y3, y4, y5, y6⟩ := q_flt B A 2 (by decide)
        rw [y1, y2, e_bvS, e_bvS, if_neg y4.n.2]
        exact fin _ _ σ' μ' y3 y4 y5 y6
      rcases n2 s2 with ⟨k, hk, e1, e2⟩ | ⟨k, k', h1, h2, h3, h4, e1, e2⟩
      · by_cases c1 : k < lo
        · rw [if_pos (show xV X t < nI lo by rw [e1]; exact nI_lt c1 (by omega)), if_pos (show μ.1 0 22 < nI lo by rw [e2]; exact nI_lt c1 (by omega))]
          exact two
        · rw [if_neg (show ¬ xV X t < nI lo by rw [e1]; exact nI_nlt (by omega) (by omega)), if_neg (show ¬ μ.1 0 22 < nI lo by rw [e2]; exact nI_nlt (by omega) (by omega))]
          by_cases c2 : k ≤ hi
          · rw [if_pos (show xV X t ≤ nI hi by rw [e1]; exact nI_le c2 (by omega)), if_pos (show μ.1 0 22 ≤ nI hi by rw [e2]; exact nI_le c2 (by omega)), if_pos a2]
            obtain ⟨μ', y1, y2, y3⟩ := q_tok1 M a4 (a4.lt M (by rw [s2]; decide))
            have fc : q_FC σ (mI σ 7 2 (σ.1 7 2 + 1)) := q_FC.m _ _ _ (by omega)
            have e4 : (mI σ 7 2 (σ.1 7 2 + 1)).1 7 4 = σ.1 7 4 := by rw [m_I, if_neg (by omega)]
            rw [y1, e_nm, e_nm, e_bvS]
            refine ⟨_, _, _, _, rfl, rfl, ⟨B.fr fc y3.fm, Or.inl ⟨by rw [e4]; exact a1, by rw [y3.2 23 (by omega)]; exact a2, ?_, y2⟩⟩, fc, y3.fm, fun _ => ⟨k, by omega, c2, e1, e2⟩⟩
            rw [a3, nI_1]
            simp [m_I]
          · rw [if_neg (show ¬ xV X t ≤ nI hi by rw [e1]; exact nI_ge (by omega) (by omega)), if_neg (show ¬ μ.1 0 22 ≤ nI hi by rw [e2]; exact nI_ge (by omega) (by omega))]
            exact two
      · rw [if_neg (show ¬ xV X t < nI lo by rw [e1]; exact nI_nlt (by omega) (by omega)), if_neg (show ¬ μ.1 0 22 < nI lo by rw [e2]; exact nI_nlt (by omega) (by omega)), if_neg (show ¬ xV X t ≤ nI hi by rw [e1]; exact nI_ge (by omega) (by omega)), if_neg (show ¬ μ.1 0 22 ≤ nI hi by rw [e2]; exact nI_ge (by omega) (by omega))]
        exact two
    · rw [if_neg s2, if_neg (fun q => s2 (n1.mpr q))]
      obtain ⟨σ', μ', y1, y2, y3, y4, y5, y6⟩ := q_flt B A 1 (by decide)
      rw [y1, y2, e_bvS, e_bvS, if_neg y4.n.2]
      exact fin _ _ σ' μ' y3 y4 y5 y6
  · obtain ⟨d1, d2⟩ := D.n
    obtain ⟨s, es⟩ := x_sortOf M b1 (σ.1 7 2)
    obtain ⟨v, ev⟩ := x_valueOf M b1 (σ.1 7 2)
    rw [ev, e_bdS, es, e_bdS, if_neg d2]
    rw [q_fail_d d1, e_bvS, q_fail_d d1, e_bvS, ite_self, ite_self, ite_self]
    exact fin v (nI lo) σ μ B D q_FC.rf q_FM.rf
end
