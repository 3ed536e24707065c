/-! what the new text is, and what it was cut from -/
theorem q_lane_cg (A B D A' B' D' : Nat → Int32) (a b : Int32) (n : Nat) (h : ∀ l, l < n → A' l = A l ∧ B' l = B l ∧ D' l = D l) : ∀ k l, q_lane A' B' D' a b n k l = q_lane A B D a b n k l := by
  intro k
  induction k with
  | zero => intro l; rfl
  | succ k ih =>
    intro l
    rw [q_lane]
    conv => rhs; rw [q_lane]
    by_cases c : l < n
    · obtain ⟨e1, e2, e3⟩ := h l c
      rw [if_pos c, if_pos c, e1, e2, e3, ih (l + 1)]
    · rw [if_neg c, if_neg c]
theorem q_TX.cg {nb nl nd nw nk : Nat} {R U R' U' : Nat → Nat → Int32} (h : q_TX nb nl nd nw nk R U) (hR : ∀ r, 10 ≤ r → r ≤ 21 → R' r = R r) (hU : ∀ r i, 2 ≤ r → r ≤ 14 → i < q_hf r → U' r i = U r i) : q_TX nb nl nd nw nk R' U' := by
  have h9 : ∀ i, i < 9 → U' 2 i = U 2 i := fun i hi => hU 2 i (by omega) (by omega) hi
  have h12 : ∀ r i, 4 ≤ r → r ≤ 9 → i < 12 → U' r i = U r i := fun r i a b hi => hU r i (by omega) (by omega) (by
    unfold q_hf
    rw [if_neg (by omega), if_neg (by omega), if_pos (by omega)]
    exact hi)
  have h3 : ∀ i, i < 8 → U' 3 i = U 3 i := fun i hi => hU 3 i (by omega) (by omega) hi
  have h10 : ∀ i, i < 20 → U' 10 i = U 10 i := fun i hi => hU 10 i (by omega) (by omega) hi
  have h11 : ∀ i, i < 3 → U' 11 i = U 11 i ∧ U' 12 i = U 12 i := fun i hi => ⟨hU 11 i (by omega) (by omega) hi, hU 12 i (by omega) (by omega) hi⟩
  have h13 : ∀ i, i < 64 → U' 13 i = U 13 i ∧ U' 14 i = U 14 i := fun i hi => ⟨hU 13 i (by omega) (by omega) hi, hU 14 i (by omega) (by omega) hi⟩
  obtain ⟨a0, a1, a2, a3, a4, a5, a6, a7, a8, a9, a10, a11⟩ := h
  unfold q_TX q_TL
  rw [hR 10 (by omega) (by omega), hR 11 (by omega) (by omega), hR 12 (by omega) (by omega), hR 13 (by omega) (by omega), hR 14 (by omega) (by omega), hR 15 (by omega) (by omega), hR 16 (by omega) (by omega), hR 17 (by omega) (by omega), hR 18 (by omega) (by omega), hR 19 (by omega) (by omega), hR 20 (by omega) (by omega), hR 21 (by omega) (by omega), h9 0 (by omega), h9 1 (by omega), h9 2 (by omega), h9 3 (by omega), h9 4 (by omega), h9 5 (by omega), h9 6 (by omega), h9 7 (by omega), h9 8 (by omega)]
  refine ⟨a0, a1, a2, a3, a4, a5, a6, fun i hi => ?_, fun a b ha hb => ?_, fun i hi => ?_, fun i hi => ?_, fun r hr => ?_⟩
  · rw [h3 i (by omega)]; exact a7 i hi
  · rw [q_lane_cg (U 4) (U 5) (U 6) (U' 4) (U' 5) (U' 6) (nI a) (nI b) nl (fun l hl => ⟨h12 4 l (by omega) (by omega) (by omega), h12 5 l (by omega) (by omega) (by omega), h12 6 l (by omega) (by omega) (by omega)⟩)]
    exact a8 a b ha hb
  · rw [h12 7 i (by omega) (by omega) (by omega), h12 8 i (by omega) (by omega) (by omega), h12 9 i (by omega) (by omega) (by omega)]
    exact a9 i hi
  · rw [h10 i (by omega)]; exact a10 i hi
  · obtain ⟨fr, to, b1, b2, b3, b4, b5, b6, b7, b8⟩ := a11 r hr
    refine ⟨fr, to, b1, b2, b3, b4, by rw [(h11 r hr).1]; exact b5, by rw [(h11 r hr).2]; exact b6, b7, fun j hj => ?_⟩
    rw [(h13 j (by omega)).1, (h13 j (by omega)).2]
    exact b8 j hj
theorem q_lane_b (A B D : Nat → Int32) (a b : Int32) (n : Nat) (hD : ∀ l, l < n → ∃ k, k ≤ 9 ∧ D l = nI k) : ∀ k l, ∃ z, z ≤ 9 ∧ q_lane A B D a b n k l = nI z := by
  intro k
  induction k with
  | zero => intro l; exact ⟨0, by omega, rfl⟩
  | succ k ih =>
    intro l
    unfold q_lane
    by_cases c : l < n
    · rw [if_pos c]
      by_cases e : (A l = a ∧ B l = b) ∨ (A l = b ∧ B l = a)
      · rw [if_pos e]; exact hD l c
      · rw [if_neg e]; exact ih (l + 1)
    · rw [if_neg c]; exact ⟨0, by omega, rfl⟩
/-- the new text of both, read -/
theorem q_IV.tx {X : q_X} {nb nl nd nw nk t ln : Nat} {σ μ : MSt} (h : q_IV X 10 nb nl nd nw nk t ln σ μ) : q_TX nb nl nd nw nk σ.1 (fun r i => μ.1 r (q_hf r + i)) := by
  obtain ⟨B, A, ⟨⟨c1, c2, c3, c4⟩, ⟨s1, s2, s3, s4⟩, pl, pd, pw, pL, td⟩, -⟩ := h
  obtain ⟨b1, b2, b3, b4, b5, b6, b7⟩ := B
  refine ⟨⟨b4, c1⟩, ⟨b5, c2⟩, ⟨b6, c3⟩, ⟨fun q => (s1.1 q).1, s1.2⟩, s2, ?_, ?_, b7, fun a b ha hb => ⟨pl.1 a b (by omega) (by omega), ?_⟩, pd, pw, fun r hr => ?_⟩
  · obtain ⟨k, -, k2, k3, k4⟩ := s3
    exact ⟨k, k2, k3, k4⟩
  · obtain ⟨k, -, k2, k3, k4⟩ := s4
    exact ⟨k, k2, k3, k4⟩
  · obtain ⟨z, z1, z2⟩ := q_lane_b (fun i => μ.1 4 (12 + i)) (fun i => μ.1 5 (12 + i)) (fun i => μ.1 6 (12 + i)) (nI a) (nI b) nl (fun l hl => by
      obtain ⟨⟨k, k1, k2, k3⟩, -⟩ := pl.2 l hl
      exact ⟨k, k2, k3⟩) 13 0
    exact ⟨z, z1, (pl.1 a b (by omega) (by omega)).trans z2⟩
  · obtain ⟨f, e, p1, p2, p3, p4, p5, p6, p7⟩ := pL.1 r hr
    exact ⟨f, e, p1, by have := c1.2.2.2; omega, p3, p4, p5, p6, p7, fun j hj => pL.2 j (by omega)⟩
/-- the class cuts -/
theorem s_cut {N n : Nat} {B : Nat → Int32} {σ : MSt} (hN : N ≤ n) (hn : n ≤ 700) (h5 : σ.1 1 5 = nI n) (hB : ∀ i, i < n → q_BY (σ.1 2 i) (B i)) (W : q_WD σ) : ∃ X σ', f_X9_cut (nI N) σ = some σ' ∧ q_CM X ∧ q_CT X σ' ∧ xN X = N ∧ xB X = B ∧ σ'.1 1 5 = 0 ∧ (∀ r, r ≠ 1 → (r < 3 ∨ 5 < r) → σ'.1 r = σ.1 r) ∧ σ'.2 = σ.2 := by
  have mn : k_min (nI N) (nI n) = nI N := by rw [q_kmin N n (by omega) (by omega)]; congr 1; omega
  unfold f_X9_cut
  rw [h5, mn]
  simp only [e_nm]
  have g5 : (mI (mI (mI (mI σ 1 6 (nI N)) 1 5 0) 1 7 0) 1 8 0).1 1 5 = 0 := by simp [m_I]
  have g6 : (mI (mI (mI (mI σ 1 6 (nI N)) 1 5 0) 1 7 0) 1 8 0).1 1 6 = nI N := by simp [m_I]
  have g7 : (mI (mI (mI (mI σ 1 6 (nI N)) 1 5 0) 1 7 0) 1 8 0).1 1 7 = 0 := by simp [m_I]
  have g8 : (mI (mI (mI (mI σ 1 6 (nI N)) 1 5 0) 1 7 0) 1 8 0).1 1 8 = 0 := by simp [m_I]
  have gr : ∀ r, r ≠ 1 → (mI (mI (mI (mI σ 1 6 (nI N)) 1 5 0) 1 7 0) 1 8 0).1 r = σ.1 r := fun r hr => by rw [m_Ir _ _ _ _ hr, m_Ir _ _ _ _ hr, m_Ir _ _ _ _ hr, m_Ir _ _ _ _ hr]
  have gl : (mI (mI (mI (mI σ 1 6 (nI N)) 1 5 0) 1 7 0) 1 8 0).2 = σ.2 := rfl
  generalize mI (mI (mI (mI σ 1 6 (nI N)) 1 5 0) 1 7 0) 1 8 0 = σ1 at *
  have TK : q_TKS B N σ1 0 0 (fun _ => 0) (fun _ => 0) := ⟨Nat.le_refl 0, Nat.zero_le _, g6, g7, rfl, Nat.le_refl 0, fun i a b => by omega, fun t ht => by omega⟩
  obtain ⟨K, ps, en, σ', y1, y2, y3, y4, y5⟩ := q_cut_l (B := B) (N := N) (by omega) N FU 0 0 0 σ1 (fun _ => 0) (fun _ => 0) (by omega) (by unfold FU; omega) (by omega) g8 TK (fun i hi => by rw [gr 2 (by omega)]; exact hB i (by omega)) (by unfold q_WD at W ⊢; rw [gr 6 (by omega)]; exact W)
  obtain ⟨k1, k2, k3, k4, k5, k6, k7, k8⟩ := y2
  refine ⟨((N, K), (fun t => if t < K then σ'.1 3 t else 0), (fun t => if t < K then σ'.1 4 t else 0), (fun t => if t < K then ps t else N), en, B), σ', y1, ⟨⟨by show N ≤ 700; omega, fun i hi => ?_⟩, k1, k5, fun t ht => ?_, k6, k7, fun t ht => ?_⟩, ⟨k3, k4, fun t ht => ?_⟩, rfl, rfl, by rw [y3 5 (by omega)]; exact g5, fun r a b => by rw [y4 r a b, gr r a], by rw [y5, gl]⟩
  · rcases hB i (by have : i < N := hi; omega) with ⟨k, a, b, c⟩ | ⟨a, k, b, c, d⟩
    · exact ⟨k, by omega, c⟩
    · exact ⟨k, c, d⟩
  · obtain ⟨a, b, c, d⟩ := k8 t ht
    show en t ≤ (if t < K then ps t else N) ∧ (∀ i, en t ≤ i → i < (if t < K then ps t else N) → q_wht (B i) = true) ∧ q_LX B N (if t < K then ps t else N) (if t < K then σ'.1 3 t else 0) (if t < K then σ'.1 4 t else 0) (en (t + 1))
    rw [if_pos (show t < K from ht), if_pos (show t < K from ht), if_pos (show t < K from ht)]
    exact ⟨a, b, d⟩
  · have : ¬ t < K := by have : K ≤ t := ht; omega
    exact ⟨if_neg this, if_neg this, if_neg this⟩
  · obtain ⟨a, b, c, d⟩ := k8 t ht
    have ht' : t < K := ht
    show σ'.1 3 t = (if t < K then σ'.1 3 t else 0) ∧ σ'.1 4 t = (if t < K then σ'.1 4 t else 0) ∧ σ'.1 5 t = nI (if t < K then ps t else N)
    rw [if_pos ht', if_pos ht', if_pos ht']
    exact ⟨rfl, rfl, c⟩
/-- the anchor begins -/
theorem s_X5_begin_l : ∀ (k n i : Nat) (σ : MSt), i + k = 8 → k < n → (∀ b, b < i → σ.1 51 b = 0 ∧ σ.1 52 b = 0 ∧ σ.1 53 b = -1) → ∃ σ', f_X5_begin_b2 50 10 n (nI i) σ = some σ' ∧ (∀ b, b < 8 → σ'.1 51 b = 0 ∧ σ'.1 52 b = 0 ∧ σ'.1 53 b = -1) ∧ (σ'.1 50 3 = 0 ∧ σ'.1 50 4 = (if σ.1 10 11 = -1 then (if σ.1 10 7 ≤ 0 then -1 else 0) else σ.1 10 11) ∧ σ'.1 50 5 = -1 ∧ σ'.1 50 6 = -1 ∧ σ'.1 50 7 = 0 ∧ σ'.1 50 9 = 0 ∧ σ'.1 50 10 = 0 ∧ σ'.1 50 11 = 0) ∧ σ'.2 50 8 = (σ.1 10 14).toInt64 ∧ (∀ r, (r < 50 ∨ 53 < r) → σ'.1 r = σ.1 r) := by
  intro k
  induction k with
  | zero =>
    intro n i σ h1 h2 h3
    obtain ⟨n, rfl⟩ : ∃ z, n = z + 1 := ⟨n - 1, by omega⟩
    have hi : i = 8 := by omega
    subst hi
    have fb : f_X0_firstBay 10 (mI σ 50 3 0) = some (if σ.1 10 11 = -1 then (if σ.1 10 7 ≤ 0 then -1 else 0) else σ.1 10 11, mI σ 50 3 0) := by
      unfold f_X0_firstBay f_X0_firstBay_b27
      rw [m_Ir _ _ _ _ (show 10 ≠ 50 by omega)]
      by_cases c : σ.1 10 11 = -1
      · rw [if_pos c, if_pos c]
        by_cases c2 : σ.1 10 7 ≤ 0
        · rw [if_pos c2, if_pos c2]
        · rw [if_neg c2, if_neg c2]
      · rw [if_neg c, if_neg c]
    show ∃ σ', f_X5_begin_b2_s 50 10 (f_X5_begin_b2 50 10 n) (nI 8) σ = some σ' ∧ _
    unfold f_X5_begin_b2_s
    rw [if_pos (show (8 : Int32) ≤ nI 8 by decide), e_nm, fb, e_bdS]
    simp only [e_nm]
    refine ⟨_, rfl, fun b hb => ?_, ⟨?_, ?_, ?_, ?_, ?_, ?_, ?_, ?_⟩, ?_, fun r hr => ?_⟩
    · simp only [m_I, m_J1]
      simp
      exact h3 b hb
    · simp [m_I, m_J1]
    · simp [m_I, m_J1]
    · simp [m_I, m_J1]
    · simp [m_I, m_J1]
    · simp [m_I, m_J1]
    · simp [m_I, m_J1]
    · simp [m_I, m_J1]
    · simp [m_I, m_J1]
    · rw [m_I2, m_I2, m_I2, m_Js]
      simp only [m_Ir _ _ _ _ (show 10 ≠ 50 by omega)]
    · have hr2 : r ≠ 50 := by omega
      simp only [m_Ir _ _ _ _ hr2, m_J1]
  | succ k ih =>
    intro n i σ h1 h2 h3
    obtain ⟨n, rfl⟩ : ∃ z, n = z + 1 := ⟨n - 1, by omega⟩
    have hk : k_inb (nI i) 8 = true := e_in (by omega) (by decide)
    have st : f_X5_begin_b2 50 10 (n + 1) (nI i) σ = f_X5_begin_b2 50 10 n (nI (i + 1)) (mI (mI (mI σ 51 i 0) 52 i 0) 53 i (-1)) := by
      show f_X5_begin_b2_s 50 10 (f_X5_begin_b2 50 10 n) (nI i) σ = _
      unfold f_X5_begin_b2_s
      rw [if_neg (show ¬ (8 : Int32) ≤ nI i from nI_ge (a := i) (b := 8) (by omega) (by decide))]
      simp only [e_ck hk, e_nm, nI_clamp (show i < 2 ^ 31 by omega), nI_1]
    obtain ⟨σ', y1, y2, y3, y4, y5⟩ := ih n (i + 1) (mI (mI (mI σ 51 i 0) 52 i 0) 53 i (-1)) (by omega) (by omega) (fun b hb => by
      by_cases c : b = i
      · subst c; simp [m_I]
      · rw [m_I, if_neg (by omega), m_I, if_neg (by omega), m_I, if_neg (by omega), m_I, if_neg (by omega), m_I, if_neg (by omega), m_I, if_neg (by omega), m_I, if_neg (by omega), m_I, if_neg (by omega), m_I, if_neg (by omega)]
        exact h3 b (by omega))
    have e10 : (mI (mI (mI σ 51 i 0) 52 i 0) 53 i (-1)).1 10 = σ.1 10 := by rw [m_Ir _ _ _ _ (by omega), m_Ir _ _ _ _ (by omega), m_Ir _ _ _ _ (by omega)]
    rw [e10] at y3 y4
    exact ⟨σ', st.trans y1, y2, y3, y4, fun r hr => by rw [y5 r hr, m_Ir _ _ _ _ (by omega), m_Ir _ _ _ _ (by omega), m_Ir _ _ _ _ (by omega)]⟩
