theorem q_rk_i (s : Int32) : (q_rk s = 1 → s = 22) ∧ (q_rk s = 2 → s = 23) ∧ (q_rk s = 3 → s = 24) ∧ (q_rk s = 5 → s = 43 ∨ s = 44) ∧ (q_rk s = 6 → s = 45 ∨ s = 46) ∧ (q_rk s = 4 → s = 47 ∨ s = 48 ∨ s = 49 ∨ s = 50 ∨ s = 51 ∨ s = 52) := by
  unfold q_rk
  by_cases h22 : s = 22
  · rw [if_pos h22]; exact ⟨fun _ => h22, fun q => by omega, fun q => by omega, fun q => by omega, fun q => by omega, fun q => by omega⟩
  rw [if_neg h22]
  by_cases h23 : s = 23
  · rw [if_pos h23]; exact ⟨fun q => by omega, fun _ => h23, fun q => by omega, fun q => by omega, fun q => by omega, fun q => by omega⟩
  rw [if_neg h23]
  by_cases h24 : s = 24
  · rw [if_pos h24]; exact ⟨fun q => by omega, fun q => by omega, fun _ => h24, fun q => by omega, fun q => by omega, fun q => by omega⟩
  rw [if_neg h24]
  by_cases h5 : s = 43 ∨ s = 44
  · rw [if_pos h5]; exact ⟨fun q => by omega, fun q => by omega, fun q => by omega, fun _ => h5, fun q => by omega, fun q => by omega⟩
  rw [if_neg h5]
  by_cases h6 : s = 45 ∨ s = 46
  · rw [if_pos h6]; exact ⟨fun q => by omega, fun q => by omega, fun q => by omega, fun q => by omega, fun _ => h6, fun q => by omega⟩
  rw [if_neg h6]
  by_cases h4 : s = 47 ∨ s = 48 ∨ s = 49 ∨ s = 50 ∨ s = 51 ∨ s = 52
  · rw [if_pos h4]; exact ⟨fun q => by omega, fun q => by omega, fun q => by omega, fun q => by omega, fun q => by omega, fun _ => h4⟩
  rw [if_neg h4]
  exact ⟨fun q => by omega, fun q => by omega, fun q => by omega, fun q => by omega, fun q => by omega, fun q => by omega⟩
def q_TOP (st : List Int32) (y : Nat) : Prop := st = [] ∨ ∃ x s, st = x :: s ∧ (x = 41 ∨ q_rk x < y)
/-- what a level of the descent owes -/
def q_LVL (X : q_X) (d idx : Nat) : Prop := ∀ (o nb t k kn op : Nat) (st : List Int32) (nm : Int32) (σ μ : MSt) (n i : Nat), q_EX X o nb t [] st k kn op 1 nm σ μ → q_TOP st (q_upr idx) → (idx ≤ 2 → nm = 1) → (3 ≤ idx → nm = 0 ∨ ¬ xS X t = 24) → xK X + 2 ≤ t + n → i + xK X ≤ 700 + t → (64 - kn) + 6 * (9 - op) + (6 - idx) + 1 ≤ d → ∃ μ', f_rec d idx μ = some μ' ∧ q_RES X o nb idx n i t k k op st σ μ μ'
section
variable {X : q_X} {o nb t k kn op : Nat} {P st : List Int32} {wo nm : Int32} {σ μ σ1 σ' μ' : MSt}
theorem q_FN.gk {kb : Nat} (h : q_FN kb μ μ') (j : Nat) (hj : j < kb) : q_gk μ' j = q_gk μ j := by
  unfold q_gk
  rw [h.2.2.2 13 (Or.inl rfl) (64 + j) (by omega), h.2.2.2 14 (Or.inr rfl) (64 + j) (by omega)]
theorem q_puts0 {c : Int32} (d : ¬ μ.1 0 23 = 0) : f_X12_puts 2 c μ = some μ := s_putsD d 2 c
/-- a sign between values and what is on its right -/
theorem p_rnd (M : q_CM X) {d j : Nat} (H : q_LVL X d j) (hj : j ≤ 5) (E : q_EX X o nb t P st k kn op 0 nm σ μ) (hr : q_rk (xS X t) = 1 ∨ q_rk (xS X t) = 2 ∨ q_rk (xS X t) = 5 ∨ q_rk (xS X t) = 6 ∨ q_rk (xS X t) = 4) (hP : ∀ x, x ∈ P → ¬ x = 41 ∧ (if q_rk (xS X t) = 4 then 5 else q_rk (xS X t)) ≤ q_rk x) (hst : q_TOP st (q_rk (xS X t))) (hup : q_rk (xS X t) < q_upr j) (hnm : (j ≤ 2 ∧ (xS X t = 22 ∨ xS X t = 23)) ∨ (3 ≤ j ∧ ¬ (xS X t = 22 ∨ xS X t = 23))) {c : Int32} (hc : q_KN (xS X t) 0 2 c) (hb : q_kd (xS X t) = 2) (n i : Nat) (hn : xK X + 2 ≤ t + n) (hi : i + xK X ≤ 700 + t) (hd : (64 - kn) + 6 * (9 - op) + (6 - j) + 1 ≤ d) : ∃ μ1 μ2 μ3 μ', f_X12_knot μ = some μ1 ∧ f_X12_goOn μ1 = some μ2 ∧ f_rec d j μ2 = some μ3 ∧ f_X12_puts 2 c μ3 = some μ' ∧ q_FN (k + P.length) μ μ' ∧ ((∃ t' P' k' kn' nm' σ', t < t' ∧ t' - t ≤ n ∧ f_X7_readExpression_b22 n (nI i) σ = f_X7_readExpression_b22 (n - (t' - t)) (nI (i + (t' - t))) σ' ∧ q_EX X o nb t' (P' ++ [xS X t]) st k' kn' op 0 nm' σ' μ' ∧ k ≤ k' ∧ (∀ x, x ∈ P' → ¬ x = 41 ∧ q_lo j ≤ q_rk x) ∧ q_NX j (xS X t') P' ∧ q_FE o k σ σ' ∧ kn ≤ kn' ∧ k + P.length < k' + P'.length ∧ ∀ d, q_rn (q_gk μ') (k' + P'.length + 1 - (k + P.length)) (k + P.length) (d + 1) = some (d + 1)) ∨ (∃ σ', f_X7_readExpression_b22 n (nI i) σ = some σ' ∧ q_CB X o σ' ∧ q_zD X σ' μ' ∧ q_GC o σ σ')) := by
  obtain ⟨-, A, -, -, -, -, -, -, -, l1, l2, l3, l4⟩ := id E
  have l5 : k + (P.length + st.length) = kn + op := by simpa using l4
  have tK := A.2.2.2.1
  have ht : t < xK X := A.2.2.2.lt M (fun q => by rw [q] at hr; revert hr; decide)
  obtain ⟨n, rfl⟩ : ∃ z, n = z + 2 := ⟨n - 2, by omega⟩
  obtain ⟨μ1, μ2, y1, y2, y3, y4⟩ := p_bin M E ht hr hP hst n i (by omega)
  rcases y4 with ⟨σ', z1, E', F'⟩ | ⟨σ', z1, C', D', G'⟩
  · have topC : q_TOP (xS X t :: st) (q_upr j) := Or.inr ⟨xS X t, st, rfl, Or.inr hup⟩
    obtain ⟨μ3, r1, r2, r3⟩ := H o nb (t + 1) (k + P.length) (kn + 1) op (xS X t :: st) _ σ' μ2 (n + 1) (i + 1) E' topC (fun q => by
      rcases hnm with ⟨-, h⟩ | ⟨h, -⟩
      · rw [if_pos h]
      · omega) (fun q => by
      rcases hnm with ⟨h, -⟩ | ⟨-, h⟩
      · omega
      · left; rw [if_neg h]) (by omega) (by omega) (by omega)
    rcases r3 with ⟨t', P', k', kn', nm', σ'', a1, a2, a3, a4, a5, a6, a7, a8, a9, a10⟩ | ⟨σ'', a1, a2, a3, a4⟩
    · obtain ⟨-, -, -, -, -, -, -, -, -, m1, m2, m3, m4⟩ := id a4
      have m5 : k' + (P'.length + (st.length + 1)) = kn' + op := by simpa using m4
      obtain ⟨μ', b1, b2, b3, b4⟩ := p_aft a4 l3 hc
      refine ⟨μ1, μ2, μ3, μ', y1, y2, r1, b1, (y3.trans r2 (by omega)).trans b3 (by omega), Or.inl ⟨t', P', k', kn', nm', σ'', by omega, by omega, ?_, b2, by omega, a6, a7, F'.trans a8 (by omega), by omega, by omega, fun d => ?_⟩⟩
      · rw [z1, a3, show n + 1 - (t' - (t + 1)) = n + 2 - (t' - t) by omega, show i + 1 + (t' - (t + 1)) = i + (t' - t) by omega]
      · have e1 : q_rn (q_gk μ') (k' + P'.length - (k + P.length)) (k + P.length) (d + 1) = some (d + 2) := by
          rw [q_rn_cg (q_gk μ3) (q_gk μ') _ _ _ (fun j h1 h2 => b3.gk j (by omega))]
          exact a10 (d + 1)
        have e2 := q_rn_app (q_gk μ') _ 1 _ _ _ e1
        rw [show k' + P'.length + 1 - (k + P.length) = k' + P'.length - (k + P.length) + 1 by omega, e2, show k + P.length + (k' + P'.length - (k + P.length)) = k' + P'.length by omega, q_rn, b4, hb, if_neg (by decide), if_neg (by decide), if_pos (by omega)]
        rfl
    · refine ⟨μ1, μ2, μ3, μ3, y1, y2, r1, s_putsD a3.n.2 2 c, y3.trans r2 (by omega), Or.inr ⟨σ'', by rw [z1, a1], a2, a3, F'.gc.trans a4⟩⟩
  · refine ⟨μ1, μ2, μ2, μ2, y1, y2, s_recD d j μ2 (by omega) D'.n.2, s_putsD D'.n.2 2 c, y3, Or.inr ⟨σ', z1, C', D', G'⟩⟩
end
