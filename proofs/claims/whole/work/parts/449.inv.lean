/-! bits of what is told -/
def q_bt (x : Int32) (i : Nat) : Bool := x.toBitVec.getLsbD i
theorem b_one : ∀ i, i < 32 → ((1 : Int32) <<< (nI i &&& 31)).toBitVec = BitVec.twoPow 32 i := by decide
theorem b_tp : ∀ i, i < 32 → ¬ BitVec.twoPow 32 i = 0#32 := by decide
theorem b_and (x : Int32) (i : Nat) (hi : i < 32) : (x &&& ((1 : Int32) <<< (nI i &&& 31)) = 0) ↔ q_bt x i = false := by
  unfold q_bt
  constructor
  · intro h
    have h2 := congrArg Int32.toBitVec h
    rw [Int32.toBitVec_and, b_one i hi, BitVec.and_twoPow] at h2
    cases c : x.toBitVec.getLsbD i with
    | false => rfl
    | true => rw [c] at h2; exact absurd h2 (b_tp i hi)
  · intro h
    apply Int32.toBitVec_inj.mp
    rw [Int32.toBitVec_and, b_one i hi, BitVec.and_twoPow, h]
    rfl
theorem b_or (x : Int32) (i j : Nat) (hi : i < 32) (hj : j < 32) : q_bt (x ||| ((1 : Int32) <<< (nI i &&& 31))) j = (q_bt x j || decide (i = j)) := by
  unfold q_bt
  rw [Int32.toBitVec_or, b_one i hi, BitVec.getLsbD_or, BitVec.getLsbD_twoPow]
  simp [hj, hi]
theorem b_sh : ∀ i, i < 32 → (nI i &&& 31).toBitVec.smod 32 = BitVec.ofNat 32 i := by decide
theorem b_shr (x : Int32) (i : Nat) (hi : i < 32) : ((x >>> (nI i &&& 31)) &&& 1 = 1) ↔ q_bt x i = true := by
  unfold q_bt
  have e : (x >>> (nI i &&& 31)).toBitVec = x.toBitVec.sshiftRight i := by
    rw [Int32.toBitVec_shiftRight, b_sh i hi, BitVec.sshiftRight_eq']
    congr 1
    simp
    omega
  have e1 : (1 : Int32).toBitVec = BitVec.twoPow 32 0 := by decide
  have e2 : (x.toBitVec.sshiftRight i).getLsbD 0 = x.toBitVec.getLsbD i := by
    rw [BitVec.getLsbD_sshiftRight]
    simp [hi]
  constructor
  · intro h
    have h2 := congrArg Int32.toBitVec h
    rw [Int32.toBitVec_and, e, e1, BitVec.and_twoPow, e2] at h2
    cases c : x.toBitVec.getLsbD i with
    | true => rfl
    | false => rw [c] at h2; exact absurd h2 (by decide)
  · intro h
    apply Int32.toBitVec_inj.mp
    rw [Int32.toBitVec_and, e, e1, BitVec.and_twoPow, e2, h]
    rfl
def q_td (x y : Int32) : Prop := (∀ w, 4 ≤ w → w ≤ 7 → q_bt x (10 + w) = q_bt y w) ∧ ∀ k, k < 3 → q_bt x (19 + k) = q_bt y (16 + k)
theorem q_td.l {x y : Int32} (h : q_td x y) (w : Nat) (hw : w < 4 ∨ w = 8) : q_td x (y ||| ((1 : Int32) <<< (nI w &&& 31))) := by
  refine ⟨fun v a b => ?_, fun k hk => ?_⟩
  · rw [b_or _ _ _ (by omega) (by omega), h.1 v a b, decide_eq_false (by omega), Bool.or_false]
  · rw [b_or _ _ _ (by omega) (by omega), h.2 k hk, decide_eq_false (by omega), Bool.or_false]
theorem q_td.s {x y : Int32} (h : q_td x y) (w : Nat) (hw : 4 ≤ w ∧ w ≤ 7) : q_td (x ||| ((1 : Int32) <<< (nI (10 + w) &&& 31))) (y ||| ((1 : Int32) <<< (nI w &&& 31))) := by
  refine ⟨fun v a b => ?_, fun k hk => ?_⟩
  · rw [b_or _ _ _ (by omega) (by omega), b_or _ _ _ (by omega) (by omega), h.1 v a b]
    congr 1
    simp
  · rw [b_or _ _ _ (by omega) (by omega), b_or _ _ _ (by omega) (by omega), h.2 k hk, decide_eq_false (by omega), decide_eq_false (by omega)]
theorem q_td.k {x y : Int32} (h : q_td x y) (w : Nat) (hw : w < 3) : q_td (x ||| ((1 : Int32) <<< (nI (19 + w) &&& 31))) (y ||| ((1 : Int32) <<< (nI (16 + w) &&& 31))) := by
  refine ⟨fun v a b => ?_, fun k hk => ?_⟩
  · rw [b_or _ _ _ (by omega) (by omega), b_or _ _ _ (by omega) (by omega), h.1 v a b, decide_eq_false (by omega), decide_eq_false (by omega)]
  · rw [b_or _ _ _ (by omega) (by omega), b_or _ _ _ (by omega) (by omega), h.2 k hk]
    congr 1
    simp
/-! what both have of the text so far -/
def q_hf (r : Nat) : Nat := if r = 2 then 9 else if r = 3 then 8 else if r < 10 then 12 else if r = 10 then 20 else if r < 13 then 3 else 64
def q_GM (μ μ' : MSt) : Prop := (∀ r, (r = 1 ∨ 14 < r) → μ'.1 r = μ.1 r) ∧ (∀ r i, 2 ≤ r → r ≤ 14 → i < q_hf r → μ'.1 r i = μ.1 r i) ∧ ∀ j, (j < 16 ∨ 28 < j) → μ'.1 0 j = μ.1 0 j
theorem q_GM.rf {μ : MSt} : q_GM μ μ := ⟨fun _ _ => rfl, fun _ _ _ _ _ => rfl, fun _ _ => rfl⟩
theorem q_GM.trans {μ μ1 μ2 : MSt} (h : q_GM μ μ1) (g : q_GM μ1 μ2) : q_GM μ μ2 := ⟨fun r a => (g.1 r a).trans (h.1 r a), fun r i a b c => (g.2.1 r i a b c).trans (h.2.1 r i a b c), fun j a => (g.2.2 j a).trans (h.2.2 j a)⟩
theorem q_FM.gm {μ μ' : MSt} (h : q_FM μ μ') : q_GM μ μ' := ⟨fun r a => h.1 r (by omega), fun r i a b c => by rw [h.1 r (by omega)], fun j a => h.2 j (by omega)⟩
theorem q_GM.m0 (μ : MSt) (j : Nat) (v : Int32) (h : 15 < j ∧ j < 29) : q_GM μ (mI μ 0 j v) := ⟨fun r a => m_Ir _ _ _ _ (by omega), fun r i a b c => by rw [m_Ir _ _ _ _ (by omega)], fun i a => by rw [m_I, if_neg (by omega)]⟩
theorem q_GM.mh (μ : MSt) (r j : Nat) (v : Int32) (h : 2 ≤ r ∧ r ≤ 14) (hj : q_hf r ≤ j) : q_GM μ (mI μ r j v) := ⟨fun x a => m_Ir _ _ _ _ (by omega), fun x i a b c => by
  rw [m_I, if_neg]
  rintro ⟨rfl, rfl⟩
  omega, fun i a => by rw [m_Ir _ _ _ _ (by omega)]⟩
def r_ps (nb : Nat) (x y : Int32) : Prop := (nb = 0 → x = -1 ∧ y = 0) ∧ (0 < nb → ∃ b, b < nb ∧ y = nI b ∧ (x = nI b ∨ (x = -1 ∧ b = 0)))
def r_pg (lo hi : Nat) (x y : Int32) : Prop := ∃ k, lo ≤ k ∧ k ≤ hi ∧ x = nI k ∧ y = nI k
def r_pl (nl : Nat) (L A B D : Nat → Int32) : Prop := (∀ a b, a < 8 → b < 8 → L (a * 8 + b) = q_lane (fun i => A (12 + i)) (fun i => B (12 + i)) (fun i => D (12 + i)) (nI a) (nI b) nl 13 0) ∧ ∀ l, l < nl → (∃ k, 1 ≤ k ∧ k ≤ 9 ∧ D (12 + l) = nI k) ∧ ¬ A (12 + l) = B (12 + l)
def r_pd (nb nd : Nat) (a b c A B C : Nat → Int32) : Prop := ∀ i, i < nd → (∃ x, x < nb ∧ a i = nI x ∧ A (12 + i) = nI x) ∧ (∃ k, k ≤ 99 ∧ b i = nI k ∧ B (12 + i) = nI k) ∧ ∃ k, k ≤ 9 ∧ c i = nI k ∧ C (12 + i) = nI k
def r_pw (nw : Nat) (g G : Nat → Int32) : Prop := ∀ i, i < nw → ∃ k, k ≤ 9 ∧ g i = nI k ∧ G (20 + i) = nI k
def r_pL (nk : Nat) (ks kv fr to F T A B : Nat → Int32) : Prop := (∀ r, r < 3 → ∃ f e, f ≤ e ∧ e ≤ nk ∧ fr r = nI f ∧ to r = nI e ∧ F (3 + r) = nI f ∧ T (3 + r) = nI e ∧ (f < e → q_wf ks (e - f) f 0)) ∧ ∀ j, j < nk → q_KN (ks j) (kv j) (A (64 + j)) (B (64 + j))
/-- the counts -/
def r_pc (o nl nd nw nk : Nat) (σ μ : MSt) : Prop := (nl ≤ 12 ∧ nd ≤ 12 ∧ nw ≤ 20 ∧ nk ≤ 64) ∧ (σ.1 o 8 = nI nl ∧ σ.1 o 9 = nI nd ∧ σ.1 o 10 = nI nw ∧ σ.1 (o + 7) 5 = nI nk) ∧ (μ.1 2 10 = nI nl ∧ μ.1 2 11 = nI nd ∧ μ.1 2 12 = nI nw ∧ μ.1 2 17 = nI nk) ∧ σ.1 7 8 = nI nk ∧ μ.1 0 28 = nI nk ∧ μ.1 0 27 = 0
def q_pr2 (o nb nl nd nw nk : Nat) (σ μ : MSt) : Prop := r_pc o nl nd nw nk σ μ ∧ (r_ps nb (σ.1 o 11) (μ.1 2 13) ∧ r_pg 1 9 (σ.1 o 12) (μ.1 2 14) ∧ r_pg 0 100 (σ.1 o 13) (μ.1 2 15) ∧ r_pg 0 99999 (σ.1 o 14) (μ.1 2 16)) ∧ r_pl nl (σ.1 (o + 2)) (μ.1 4) (μ.1 5) (μ.1 6) ∧ r_pd nb nd (σ.1 (o + 3)) (σ.1 (o + 4)) (σ.1 (o + 5)) (μ.1 7) (μ.1 8) (μ.1 9) ∧ r_pw nw (σ.1 (o + 6)) (μ.1 10) ∧ r_pL nk (σ.1 (o + 8)) (σ.1 (o + 9)) (σ.1 (o + 10)) (σ.1 (o + 11)) (μ.1 11) (μ.1 12) (μ.1 13) (μ.1 14) ∧ q_td (σ.1 7 3) (μ.1 0 16)
def q_IV (X : q_X) (o nb nl nd nw nk t ln : Nat) (σ μ : MSt) : Prop := q_zB X o nb σ μ ∧ q_zA X t σ μ ∧ q_pr2 o nb nl nd nw nk σ μ ∧ μ.1 0 17 = nI ln ∧ ln ≤ t
/-- a line: read on, or the same fault -/
def q_OUT (X : q_X) (o t ln : Nat) (σ μ σ' μ' : MSt) : Prop := q_GC o σ σ' ∧ q_GM μ μ' ∧ ((∃ nb nl nd nw nk t', t < t' ∧ q_IV X o nb nl nd nw nk t' (ln + 1) σ' μ') ∨ (q_CB X o σ' ∧ q_zD X σ' μ'))
def q_FM7 (μ μ' : MSt) : Prop := (∀ r, r ≠ 0 → μ'.1 r = μ.1 r) ∧ ∀ j, j ≠ 17 → (j < 19 ∨ 24 < j) → μ'.1 0 j = μ.1 0 j
theorem q_FM7.gm {μ μ' : MSt} (h : q_FM7 μ μ') : q_GM μ μ' := ⟨fun r a => h.1 r (by omega), fun r i a b c => by rw [h.1 r (by omega)], fun j a => h.2 j (by omega) (by omega)⟩
theorem q_pr2.fr {o nb nl nd nw nk : Nat} {σ μ σ' μ' : MSt} (h : q_pr2 o nb nl nd nw nk σ μ) (ho : o = 10 ∨ o = 30) (f : q_FC σ σ') (g : q_FM7 μ μ') : q_pr2 o nb nl nd nw nk σ' μ' := by
  unfold q_pr2 r_pc at h ⊢
  rw [f.1 o (by omega), f.1 (o + 2) (by omega), f.1 (o + 3) (by omega), f.1 (o + 4) (by omega), f.1 (o + 5) (by omega), f.1 (o + 6) (by omega), f.1 (o + 7) (by omega), f.1 (o + 8) (by omega), f.1 (o + 9) (by omega), f.1 (o + 10) (by omega), f.1 (o + 11) (by omega), f.2.1 3 (by omega) (by omega) (by omega), f.2.1 8 (by omega) (by omega) (by omega), g.1 2 (by omega), g.1 4 (by omega), g.1 5 (by omega), g.1 6 (by omega), g.1 7 (by omega), g.1 8 (by omega), g.1 9 (by omega), g.1 10 (by omega), g.1 11 (by omega), g.1 12 (by omega), g.1 13 (by omega), g.1 14 (by omega), g.2 16 (by omega) (by omega), g.2 27 (by omega) (by omega), g.2 28 (by omega) (by omega)]
  exact h
section
variable {X : q_X} {o nb t : Nat} {σ μ : MSt}
/-- the end of a line -/
theorem q_eol (M : q_CM X) (h : q_zJ X o nb t σ μ) : ∃ σ' μ', f_X7_readLine_b125 σ = some σ' ∧ f_X12_line_b360 μ = some μ' ∧ q_FC σ σ' ∧ q_FM7 μ μ' ∧ q_zB X o nb σ' μ' ∧ ((σ.1 7 4 = 0 ∧ q_zA X (t + 1) σ' μ' ∧ μ'.1 0 17 = μ.1 0 17 + 1) ∨ q_zD X σ' μ') := by
  obtain ⟨B, A⟩ := h
  obtain ⟨b1, -⟩ := id B
  have fm7 : ∀ {ν ν' : MSt}, q_FM ν ν' → q_FM7 ν ν' := fun h => ⟨h.1, fun j _ a => h.2 j a⟩
  have m17 : ∀ (ν : MSt) (v : Int32), q_FM7 ν (mI ν 0 17 v) := fun ν v => ⟨fun r hr => m_Ir _ _ _ _ hr, fun i a b => by rw [m_I, if_neg (by omega)]⟩
  have tr : ∀ {ν ν1 ν2 : MSt}, q_FM7 ν ν1 → q_FM7 ν1 ν2 → q_FM7 ν ν2 := fun h g => ⟨fun r hr => (g.1 r hr).trans (h.1 r hr), fun j a b => (g.2 j a b).trans (h.2 j a b)⟩
  have zb : ∀ {σ' μ' : MSt}, q_FC σ σ' → q_FM7 μ μ' → q_zB X o nb σ' μ' := by
    intro σ' μ' f g
    obtain ⟨h1, h2, h3, h4, h5, h6, h7⟩ := B
    refine ⟨h1.eq (f.1 1 (by omega)) (f.1 3 (by omega)) (f.1 4 (by omega)) (f.1 5 (by omega)), h2, by rw [f.2.1 1 (by omega) (by omega) (by omega)]; exact h3, h4, by rw [f.1 o (by omega)]; exact h5, by rw [g.1 2 (by omega)]; exact h6, fun i hi => ?_⟩
    rw [f.1 (o + 1) (by omega), g.1 3 (by omega)]
    exact h7 i hi
  unfold f_X7_readLine_b125 f_X12_line_b360 f_X7_readLine_b146 f_X12_line_b389
  rcases A with A | D
  · obtain ⟨a1, a2, a3, a4⟩ := id A
    obtain ⟨-, -, -, -, n1, -⟩ := q_TS.nm a4.2.2.2.2.2
    have tl : t < 2 ^ 31 := by have := a4.1; have := M.1.1; have := M.2.1; omega
    unfold f_X12_isSign f_X12_isSign_b27 f_X12_isSign_b28
    rw [a3, s_sortOf M b1 t tl, e_bdS, if_pos a2, if_pos a2]
    have bad : ¬ xS X t = 40 → ∃ σ' μ', (k_bv (f_X7_fail 1 σ) fun σ3 => k_nm (mI σ3 7 2 (σ3.1 7 2 + 1)) fun σ1 => some σ1) = some σ' ∧ (k_bv (f_X12_wrong 1 μ) fun σ4 => k_nm (mI σ4 0 17 (σ4.1 0 17 + 1)) fun σ1 => some σ1) = some μ' ∧ q_FC σ σ' ∧ q_FM7 μ μ' ∧ q_zB X o nb σ' μ' ∧ ((σ.1 7 4 = 0 ∧ q_zA X (t + 1) σ' μ' ∧ μ'.1 0 17 = μ.1 0 17 + 1) ∨ q_zD X σ' μ') := by
      intro _
      obtain ⟨σ', μ', y1, y2, y3, y4, y5, y6⟩ := q_flt B A 1 (by decide)
      rw [y1, y2, e_bvS, e_bvS, e_nm, e_nm]
      have f1 := y5.trans (q_FC.m σ' 2 (σ'.1 7 2 + 1) (by omega))
      have g1 := tr (fm7 y6) (m17 μ' (μ'.1 0 17 + 1))
      exact ⟨_, _, rfl, rfl, f1, g1, zb f1 g1, Or.inr (y4.fr (by rw [m_I, if_neg (by omega)]) (by rw [m_I, if_neg (by omega)]) (by rw [m_I, if_neg (by omega)]) (by rw [m_I, if_neg (by omega)]))⟩
    by_cases s4 : xS X t = 40
    · obtain ⟨z1, z2⟩ := n1.mp s4
      obtain ⟨μ', y1, y2, y3⟩ := q_tok1 M a4 (a4.lt M (by rw [s4]; decide))
      rw [if_pos s4, if_pos z1, if_pos z2, e_ck (by decide), e_bdS, if_neg (by decide), y1, e_bvS, e_nm, e_nm]
      have f1 := q_FC.m σ 2 (σ.1 7 2 + 1) (by omega)
      have g1 := tr (fm7 y3.fm) (m17 μ' (μ'.1 0 17 + 1))
      rw [a3, nI_1] at f1
      rw [a3, nI_1]
      refine ⟨_, _, rfl, rfl, f1, g1, zb f1 g1, Or.inl ⟨a1, ⟨by rw [m_I, if_neg (by omega)]; exact a1, by rw [m_I, if_neg (by omega), y3.2 23 (by omega)]; exact a2, by simp [m_I], ?_⟩, ?_⟩⟩
      · unfold q_RT
        rw [m_Ir _ _ _ _ (by omega)]
        simp only [m_I]
        simp
        exact y2
      · rw [m_I, if_pos ⟨rfl, rfl⟩, y3.2 17 (by omega)]
    · rw [if_neg s4]
      by_cases z1 : μ.1 0 21 = 3
      · by_cases z2 : μ.1 0 22 = 59
        · exact absurd (n1.mpr ⟨z1, z2⟩) s4
        · rw [if_pos z1, if_neg z2, e_ck (by decide), e_bdS, if_pos rfl]
          exact bad s4
      · rw [if_neg z1, e_ck (by decide), e_bdS, if_pos rfl]
        exact bad s4
  · obtain ⟨d1, d2⟩ := D.n
    obtain ⟨s, es⟩ := x_sortOf M b1 (σ.1 7 2)
    rw [es, e_bdS, q_fail_d d1, e_bvS, ite_self, e_nm, if_neg d2]
    have f1 := q_FC.m σ 2 (σ.1 7 2 + 1) (by omega)
    exact ⟨_, _, rfl, rfl, f1, fm7 q_FM.rf, zb f1 (fm7 q_FM.rf), Or.inr (D.fr (by rw [m_I, if_neg (by omega)]) (by rw [m_I, if_neg (by omega)]) rfl rfl)⟩
end
