/-! any line; the lines one after another -/
section
variable {X : q_X} {o nb nl nd nw nk t ln : Nat} {σ μ σ' μ' : MSt}
theorem q_TS.w0 {s v so va : Int32} (h : q_TS s v so va) (hz : so = 0) : ∃ w, w < 22 ∧ s = nI (10 + w) ∧ va = nI w := by
  rcases h with ⟨-, rfl⟩ | ⟨-, rfl⟩ | ⟨-, rfl, -⟩ | ⟨-, rfl, -⟩ | ⟨w, hw, e1, -, e2⟩ | ⟨-, rfl⟩
  · exact absurd hz (by decide)
  · exact absurd hz (by decide)
  · exact absurd hz (by decide)
  · exact absurd hz (by decide)
  · exact ⟨w, hw, e1, e2⟩
  · exact absurd hz (by decide)
theorem l_bad (M : q_CM X) (h : q_IV X o nb nl nd nw nk t ln σ μ) (hs : ∀ w, w < 9 → ¬ xS X t = nI (10 + w)) : ∃ σ' μ', f_X7_readLine σ = some σ' ∧ f_X12_line μ = some μ' ∧ q_OUT X o t ln σ μ σ' μ' := by
  obtain ⟨B, A, P, h17, hln⟩ := id h
  have tl := q_IV.tl M h
  have ho := B.2.1
  have e : f_X12_line μ = f_X12_line_b16 μ := by
    unfold f_X12_line
    by_cases c : μ.1 0 21 = 0
    · obtain ⟨w, hw, e1, e2⟩ := A.2.2.2.2.2.2.2.2.w0 c
      have h9 : 9 ≤ w := by
        by_cases q : w < 9
        · exact absurd e1 (hs w q)
        · omega
      rw [if_pos c, e2, if_neg (show ¬ nI w ≤ 8 from nI_ge (a := 8) (b := w) (by omega) (by omega))]
    · rw [if_neg c]
  unfold f_X7_readLine
  rw [A.2.2.1, s_sortOf M B.1 t tl.1, e_bdS, if_neg (show ¬ xS X t = 10 from hs 0 (by omega)), if_neg (show ¬ xS X t = 11 from hs 1 (by omega)), if_neg (show ¬ xS X t = 12 from hs 2 (by omega)), if_neg (show ¬ xS X t = 13 from hs 3 (by omega)), if_neg (show ¬ xS X t = 14 from hs 4 (by omega)), if_neg (show ¬ xS X t = 15 from hs 5 (by omega)), if_neg (show ¬ xS X t = 16 from hs 6 (by omega)), if_neg (show ¬ xS X t = 17 from hs 7 (by omega)), if_neg (show ¬ xS X t = 18 from hs 8 (by omega)), e]
  obtain ⟨σd, μd, y1, y2, y3, y4, y5, y6⟩ := q_flt B A 1 (by decide)
  unfold f_X12_line_b16
  rw [y2, e_bvS, y1]
  exact q_dl M P.k y3 y4 y5 y6 _ (fun C => ⟨σd, rfl, q_DD.rf C⟩)
/-- what is owed of the line of a law -/
def q_LAW : Prop := ∀ (X : q_X) (o nb nl nd nw nk t ln : Nat) (σ μ : MSt), q_CM X → q_IV X o nb nl nd nw nk t ln σ μ → xS X t = nI (10 + 8) → ∃ σ' μ', f_X7_readLine σ = some σ' ∧ f_X12_line μ = some μ' ∧ q_OUT X o t ln σ μ σ' μ'
theorem l_line (W : q_LAW) (M : q_CM X) (h : q_IV X o nb nl nd nw nk t ln σ μ) : ∃ σ' μ', f_X7_readLine σ = some σ' ∧ f_X12_line μ = some μ' ∧ q_OUT X o t ln σ μ σ' μ' := by
  by_cases c0 : xS X t = nI (10 + 0)
  · exact l_bay M h c0
  by_cases c1 : xS X t = nI (10 + 1)
  · exact l_lane M h c1
  by_cases c2 : xS X t = nI (10 + 2)
  · exact l_deed M h c2
  by_cases c3 : xS X t = nI (10 + 3)
  · exact l_wind M h c3
  by_cases c4 : xS X t = nI (10 + 4)
  · exact l_ship M h c4
  by_cases c5 : xS X t = nI (10 + 5)
  · exact l_set M h 5 (by omega) c5
  by_cases c6 : xS X t = nI (10 + 6)
  · exact l_set M h 6 (by omega) c6
  by_cases c7 : xS X t = nI (10 + 7)
  · exact l_set M h 7 (by omega) c7
  by_cases c8 : xS X t = nI (10 + 8)
  · exact W X o nb nl nd nw nk t ln σ μ M h c8
  refine l_bad M h (fun w hw => ?_)
  have : w = 0 ∨ w = 1 ∨ w = 2 ∨ w = 3 ∨ w = 4 ∨ w = 5 ∨ w = 6 ∨ w = 7 ∨ w = 8 := by omega
  rcases this with rfl | rfl | rfl | rfl | rfl | rfl | rfl | rfl | rfl <;> assumption
/-- the reference's lines -/
def q_lp : Nat → MSt → Option MSt
  | 0 => fun _ => none
  | n + 1 => fun μ => if μ.1 0 23 = 0 then (if μ.1 0 21 = 4 then some μ else k_bv (f_X12_line μ) (q_lp n)) else some μ
theorem q_lp_eq : ∀ (n : Nat) (μ : MSt), f_X12_text_b138 n μ = k_bv (q_lp n μ) f_X12_text_b160 := by
  intro n
  induction n with
  | zero => intro μ; rfl
  | succ n ih =>
    intro μ
    show f_X12_text_b138_s (f_X12_text_b138 n) μ = _
    unfold f_X12_text_b138_s
    show _ = k_bv (if μ.1 0 23 = 0 then (if μ.1 0 21 = 4 then some μ else k_bv (f_X12_line μ) (q_lp n)) else some μ) f_X12_text_b160
    by_cases c : μ.1 0 23 = 0
    · rw [if_pos c, if_pos c]
      by_cases c2 : μ.1 0 21 = 4
      · rw [if_pos c2, if_pos c2, e_bvS]
      · rw [if_neg c2, if_neg c2]
        cases e : f_X12_line μ with
        | none => rfl
        | some μ1 => rw [e_bvS, e_bvS, ih]
    · rw [if_neg c, if_neg c, e_bvS]
theorem q_lines (W : q_LAW) (M : q_CM X) : ∀ (m n1 n2 nb nl nd nw nk t ln : Nat) (σ μ : MSt), xK X ≤ t + m → m < n1 → m < n2 → q_IV X o nb nl nd nw nk t ln σ μ → ∃ σ' μ' r, f_X7_read_b34 o n1 (nI ln) σ = some (r, σ') ∧ q_lp n2 μ = some μ' ∧ q_GC o σ σ' ∧ q_GM μ μ' ∧ ((∃ nb nl nd nw nk t ln, r = nI ln ∧ q_IV X o nb nl nd nw nk t ln σ' μ') ∨ (q_CB X o σ' ∧ q_zD X σ' μ')) := by
  intro m
  induction m with
  | zero =>
    intro n1 n2 nb nl nd nw nk t ln σ μ h1 h2 h3 h
    obtain ⟨n1, rfl⟩ : ∃ z, n1 = z + 1 := ⟨n1 - 1, by omega⟩
    obtain ⟨n2, rfl⟩ : ∃ z, n2 = z + 1 := ⟨n2 - 1, by omega⟩
    obtain ⟨B, A, P, h17, hln⟩ := id h
    have tl := q_IV.tl M h
    have s0 := (M.2.2.2.2.2.2 t (by omega)).1
    have n0 := (q_TS.nm A.2.2.2.2.2.2.2.2).2.2.2.2.2.mp s0
    refine ⟨σ, μ, nI ln, ?_, ?_, q_GC.rf, q_GM.rf, Or.inl ⟨nb, nl, nd, nw, nk, t, ln, rfl, h⟩⟩
    · show f_X7_read_b34_s o (f_X7_read_b34 o n1) (nI ln) σ = _
      unfold f_X7_read_b34_s f_X7_read_b72
      rw [if_pos A.1, A.2.2.1, s_sortOf M B.1 t tl.1, e_bdS, s0, if_pos rfl, ite_self]
    · show (if μ.1 0 23 = 0 then (if μ.1 0 21 = 4 then some μ else k_bv (f_X12_line μ) (q_lp n2)) else some μ) = _
      rw [if_pos A.2.1, if_pos n0]
  | succ m ih =>
    intro n1 n2 nb nl nd nw nk t ln σ μ h1 h2 h3 h
    obtain ⟨n1, rfl⟩ : ∃ z, n1 = z + 1 := ⟨n1 - 1, by omega⟩
    obtain ⟨n2, rfl⟩ : ∃ z, n2 = z + 1 := ⟨n2 - 1, by omega⟩
    obtain ⟨B, A, P, h17, hln⟩ := id h
    have tl := q_IV.tl M h
    have nn := (q_TS.nm A.2.2.2.2.2.2.2.2).2.2.2.2.2
    have L : f_X7_read_b34 o (n1 + 1) (nI ln) σ = f_X7_read_b34_s o (f_X7_read_b34 o n1) (nI ln) σ := rfl
    have R : q_lp (n2 + 1) μ = (if μ.1 0 23 = 0 then (if μ.1 0 21 = 4 then some μ else k_bv (f_X12_line μ) (q_lp n2)) else some μ) := rfl
    rw [L, R]
    unfold f_X7_read_b34_s f_X7_read_b72
    rw [if_pos A.1, A.2.2.1, s_sortOf M B.1 t tl.1, e_bdS, if_pos A.2.1]
    by_cases s0 : xS X t = 0
    · rw [if_pos s0, ite_self, if_pos (nn.mp s0)]
      exact ⟨σ, μ, nI ln, rfl, rfl, q_GC.rf, q_GM.rf, Or.inl ⟨nb, nl, nd, nw, nk, t, ln, rfl, h⟩⟩
    · have ht := A.2.2.2.lt M s0
      have hK := M.2.1
      have hN := M.1.1
      rw [if_neg s0, if_neg (show ¬ (700 : Int32) ≤ nI ln from nI_ge (a := ln) (b := 700) (by omega) (by decide)), if_neg (fun q => s0 (nn.mpr q))]
      obtain ⟨σ1, μ1, y1, y2, y3, y4, y5⟩ := l_line W M h
      rw [y1, y2, e_bvS, e_bvS, e_nm, nI_1]
      rcases y5 with ⟨nb', nl', nd', nw', nk', t', ht', h'⟩ | ⟨C, D⟩
      · obtain ⟨σ', μ', r, z1, z2, z3, z4, z5⟩ := ih n1 n2 nb' nl' nd' nw' nk' t' (ln + 1) σ1 μ1 (by omega) (by omega) (by omega) h'
        exact ⟨σ', μ', r, z1, z2, y3.trans z3, y4.trans z4, z5⟩
      · obtain ⟨n1, rfl⟩ : ∃ z, n1 = z + 1 := ⟨n1 - 1, by omega⟩
        obtain ⟨n2, rfl⟩ : ∃ z, n2 = z + 1 := ⟨n2 - 1, by omega⟩
        refine ⟨σ1, μ1, nI (ln + 1), ?_, ?_, y3, y4, Or.inr ⟨C, D⟩⟩
        · show f_X7_read_b34_s o (f_X7_read_b34 o n1) (nI (ln + 1)) σ1 = _
          unfold f_X7_read_b34_s f_X7_read_b72
          rw [if_neg D.n.1, ite_self]
        · show (if μ1.1 0 23 = 0 then (if μ1.1 0 21 = 4 then some μ1 else k_bv (f_X12_line μ1) (q_lp n2)) else some μ1) = _
          rw [if_neg D.n.2]
end
