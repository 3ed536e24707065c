/-! DOINGS: sail, kind, copy, undo -/
def q_CH (nb d n : Nat) (σ : MSt) (U : Nat → Nat → Int32) (L : q_LG) : Prop := ∃ ch : Nat → q_LG, ch n = L ∧ ∀ i, i < n → (σ.1 63 i = 0 ∨ σ.1 63 i = 1 ∨ σ.1 63 i = 2) ∧ (∃ b, b < 8 ∧ σ.1 64 i = nI b) ∧ ch i = q_un (σ.1 63 i) (σ.1 64 i) (σ.1 65 i) (σ.1 66 i) (ch (i + 1)) ∧ q_AG nb d (ch i) (4 + i) U
theorem q_UN.ch {nb d : Nat} {σ : MSt} {U : Nat → Nat → Int32} (h : q_UN nb d σ U) : ∃ n, n ≤ 20 ∧ σ.1 62 5 = nI n ∧ U 0 45 = nI n ∧ q_CH nb d n σ U (q_lg 50 σ) := h
theorem q_UN.of {nb d n : Nat} {σ : MSt} {U : Nat → Nat → Int32} (h1 : n ≤ 20) (h2 : σ.1 62 5 = nI n) (h3 : U 0 45 = nI n) (h4 : q_CH nb d n σ U (q_lg 50 σ)) : q_UN nb d σ U := ⟨n, h1, h2, h3, h4⟩
theorem q_CH.eq {nb d n : Nat} {σ σ' : MSt} {U U' : Nat → Nat → Int32} {L : q_LG} (hn : n ≤ 20) (h : q_CH nb d n σ U L) (c : ∀ r, 62 < r → r < 67 → ∀ i, i < n → σ'.1 r i = σ.1 r i) (u1 : ∀ r, 16 < r → r < 26 → ∀ a, 3 < a → a < 4 + n → U' r a = U r a) (u2 : ∀ r, 25 < r → r < 29 → ∀ i, 31 < i → i < 32 + 8 * n → U' r i = U r i) : q_CH nb d n σ' U' L := by
  obtain ⟨ch, h4, h5⟩ := h
  refine ⟨ch, h4, fun i hi => ?_⟩
  obtain ⟨a, b, e, q⟩ := h5 i hi
  rw [c 63 (by omega) (by omega) i hi, c 64 (by omega) (by omega) i hi, c 65 (by omega) (by omega) i hi, c 66 (by omega) (by omega) i hi]
  exact ⟨a, b, e, q.eq (fun r x y => u1 r x y _ (by omega) (by omega)) (fun r x y b hb => u2 r x y _ (by omega) (by omega))⟩
theorem q_CH.shift {nb d : Nat} {σ σ' : MSt} {U U' : Nat → Nat → Int32} {L : q_LG} (h : q_CH nb d 20 σ U L) (c : ∀ r, 62 < r → r < 67 → ∀ i, i < 19 → σ'.1 r i = σ.1 r (i + 1)) (u1 : ∀ r, 16 < r → r < 26 → ∀ i, i < 19 → U' r (4 + i) = U r (4 + (i + 1))) (u2 : ∀ r, 25 < r → r < 29 → ∀ i, i < 19 → ∀ b, b < 8 → U' r (8 * (4 + i) + b) = U r (8 * (4 + (i + 1)) + b)) : q_CH nb d 19 σ' U' L := by
  obtain ⟨ch, h4, h5⟩ := h
  refine ⟨fun i => ch (i + 1), h4, fun i hi => ?_⟩
  obtain ⟨a, b, e, q⟩ := h5 (i + 1) (by omega)
  rw [c 63 (by omega) (by omega) i hi, c 64 (by omega) (by omega) i hi, c 65 (by omega) (by omega) i hi, c 66 (by omega) (by omega) i hi]
  exact ⟨a, b, e, q.cg (fun _ _ _ _ => rfl) (fun _ _ => ⟨rfl, rfl, rfl⟩) (fun r x y => u1 r x y i hi) (fun r x y b hb => u2 r x y i hi b hb)⟩
theorem q_CH.snoc {nb d n : Nat} {σ : MSt} {U : Nat → Nat → Int32} {L L' : q_LG} (h : q_CH nb d n σ U L) (h1 : σ.1 63 n = 0 ∨ σ.1 63 n = 1 ∨ σ.1 63 n = 2) (h2 : ∃ b, b < 8 ∧ σ.1 64 n = nI b) (h3 : L = q_un (σ.1 63 n) (σ.1 64 n) (σ.1 65 n) (σ.1 66 n) L') (h4 : q_AG nb d L (4 + n) U) : q_CH nb d (n + 1) σ U L' := by
  obtain ⟨ch, e1, e2⟩ := h
  refine ⟨fun i => if i = n + 1 then L' else ch i, if_pos rfl, fun i hi => ?_⟩
  have z1 : ¬ i = n + 1 := by omega
  by_cases c : i = n
  · subst c
    simp only [if_neg z1]
    rw [if_pos trivial, e1]
    exact ⟨h1, h2, h3, h4⟩
  · simp only [if_neg z1]
    rw [if_neg (by omega)]
    exact e2 i (by omega)
theorem q_CH.last {nb d n : Nat} {σ : MSt} {U : Nat → Nat → Int32} {L : q_LG} (h : q_CH nb d (n + 1) σ U L) : (σ.1 63 n = 0 ∨ σ.1 63 n = 1 ∨ σ.1 63 n = 2) ∧ (∃ b, b < 8 ∧ σ.1 64 n = nI b) ∧ q_CH nb d n σ U (q_un (σ.1 63 n) (σ.1 64 n) (σ.1 65 n) (σ.1 66 n) L) ∧ q_AG nb d (q_un (σ.1 63 n) (σ.1 64 n) (σ.1 65 n) (σ.1 66 n) L) (4 + n) U := by
  obtain ⟨ch, e1, e2⟩ := h
  obtain ⟨a, b, e, q⟩ := e2 n (by omega)
  rw [e1] at e
  rw [e] at q
  exact ⟨a, b, ⟨ch, e, fun i hi => e2 i (by omega)⟩, q⟩
theorem s_X2_forget_l : ∀ (k n i : Nat) (σ : MSt), i + k = 20 → 1 ≤ i → k < n → ∃ σ', f_X2_forgetFirst_b2 n (nI i) σ = some σ' ∧ (∀ r, 62 < r → r < 67 → ∀ j, (i ≤ j + 1 → j + 1 < 20 → σ'.1 r j = σ.1 r (j + 1)) ∧ (j + 1 < i → σ'.1 r j = σ.1 r j)) ∧ σ'.1 62 5 = nI 19 ∧ (∀ r, (r < 62 ∨ 66 < r) → σ'.1 r = σ.1 r) ∧ σ'.2 = σ.2 := by
  intro k
  induction k with
  | zero =>
    intro n i σ h1 h0 h2
    obtain ⟨n, rfl⟩ : ∃ z, n = z + 1 := ⟨n - 1, by omega⟩
    have hi : i = 20 := by omega
    subst hi
    show ∃ σ', f_X2_forgetFirst_b2_s (f_X2_forgetFirst_b2 n) (nI 20) σ = some σ' ∧ _
    unfold f_X2_forgetFirst_b2_s
    rw [if_pos (show (20 : Int32) ≤ nI 20 by decide), e_nm]
    refine ⟨_, rfl, fun r x y j => ⟨fun a b => by omega, fun _ => by rw [m_Ir _ _ _ _ (by omega)]⟩, by rw [m_I]; simp; rfl, fun r hr => m_Ir _ _ _ _ (by omega), rfl⟩
  | succ k ih =>
    intro n i σ h1 h0 h2
    obtain ⟨n, rfl⟩ : ∃ z, n = z + 1 := ⟨n - 1, by omega⟩
    obtain ⟨i, rfl⟩ : ∃ z, i = z + 1 := ⟨i - 1, by omega⟩
    have k1 : k_inb (nI (i + 1)) 20 = true := e_in (by omega) (by decide)
    have k2 : k_inb (nI i) 20 = true := e_in (by omega) (by decide)
    show ∃ σ', f_X2_forgetFirst_b2_s (f_X2_forgetFirst_b2 n) (nI (i + 1)) σ = some σ' ∧ _
    unfold f_X2_forgetFirst_b2_s
    rw [if_neg (show ¬ (20 : Int32) ≤ nI (i + 1) from nI_ge (a := i + 1) (b := 20) (by omega) (by decide)), nI_pred]
    simp only [e_ck k1, e_ck k2, e_nm, nI_clamp (show i < 2 ^ 31 by omega), nI_clamp (show i + 1 < 2 ^ 31 by omega), nI_1]
    generalize hσ : mI (mI (mI (mI σ 63 i (σ.1 63 (i + 1))) 64 i _) 65 i _) 66 i _ = σ1
    have f1 : ∀ r, (r < 63 ∨ 66 < r) → σ1.1 r = σ.1 r := by
      intro r hr
      rw [← hσ]
      repeat rw [m_Ir _ _ _ _ (by omega)]
    have f2 : σ1.2 = σ.2 := by rw [← hσ]; rfl
    have g : ∀ r, 62 < r → r < 67 → ∀ x, σ1.1 r x = if x = i then σ.1 r (i + 1) else σ.1 r x := by
      intro r h1 h2 x
      have : r = 63 ∨ r = 64 ∨ r = 65 ∨ r = 66 := by omega
      rcases this with rfl | rfl | rfl | rfl <;> rw [← hσ] <;> simp [m_I]
    obtain ⟨σ', e, p1, p2, p3, p4⟩ := ih n (i + 1 + 1) σ1 (by omega) (by omega) (by omega)
    refine ⟨σ', e, ?_, p2, fun r hr => by rw [p3 r hr, f1 r (by omega)], by rw [p4, f2]⟩
    intro r x y j
    obtain ⟨q1, q2⟩ := p1 r x y j
    constructor
    · intro a b
      by_cases c : j = i
      · rw [q2 (by omega), g r x y, if_pos c, c]
      · rw [q1 (by omega) b, g r x y, if_neg (by omega)]
    · intro a
      rw [q2 (by omega), g r x y, if_neg (by omega)]
theorem s_X12_shift_l : ∀ (k n i : Nat) (μ : MSt), i + k = 20 → 1 ≤ i → k < n → ∃ μ', f_X12_keepNow_b11 n (nI i) μ = f_X12_keepNow_b45 (mI μ' 0 45 (μ'.1 0 45 - 1)) ∧ (∀ r, 16 < r → r < 26 → ∀ j, (i ≤ j + 1 → j + 1 < 20 → μ'.1 r (4 + j) = μ.1 r (4 + (j + 1))) ∧ (j + 1 < i → μ'.1 r (4 + j) = μ.1 r (4 + j))) ∧ (∀ r, 25 < r → r < 29 → ∀ j, ∀ b, b < 8 → (i ≤ j + 1 → j + 1 < 20 → μ'.1 r (8 * (4 + j) + b) = μ.1 r (8 * (4 + (j + 1)) + b)) ∧ (j + 1 < i → μ'.1 r (8 * (4 + j) + b) = μ.1 r (8 * (4 + j) + b))) ∧ (∀ r, (r < 17 ∨ 28 < r) → μ'.1 r = μ.1 r) ∧ (∀ r, 16 < r → r < 26 → ∀ a, a < 4 → μ'.1 r a = μ.1 r a) ∧ (∀ r, 25 < r → r < 29 → ∀ x, x < 32 → μ'.1 r x = μ.1 r x) := by
  intro k
  induction k with
  | zero =>
    intro n i μ h1 h0 h2
    obtain ⟨n, rfl⟩ : ∃ z, n = z + 1 := ⟨n - 1, by omega⟩
    have hi : i = 20 := by omega
    subst hi
    refine ⟨μ, ?_, fun r x y j => ⟨fun a b => by omega, fun _ => rfl⟩, fun r x y j b hb => ⟨fun a b => by omega, fun _ => rfl⟩, fun _ _ => rfl, fun _ _ _ _ _ => rfl, fun _ _ _ _ _ => rfl⟩
    show f_X12_keepNow_b11_s (f_X12_keepNow_b11 n) (nI 20) μ = _
    unfold f_X12_keepNow_b11_s
    rw [if_pos (show (20 : Int32) ≤ nI 20 by decide), e_nm]
  | succ k ih =>
    intro n i μ h1 h0 h2
    obtain ⟨n, rfl⟩ : ∃ z, n = z + 1 := ⟨n - 1, by omega⟩
    obtain ⟨i, rfl⟩ : ∃ z, i = z + 1 := ⟨i - 1, by omega⟩
    have e1 : (4 : Int32) + nI (i + 1) = nI (4 + i + 1) := by rw [show (4 : Int32) = nI 4 from rfl, nI_add]; rfl
    obtain ⟨μ1, g1, w1, w2, w3⟩ := s_X12_takes (4 + i) (4 + i + 1) (by omega) (by omega) (by omega) μ
    have st : f_X12_keepNow_b11 (n + 1) (nI (i + 1)) μ = f_X12_keepNow_b11 n (nI (i + 1 + 1)) μ1 := by
      show f_X12_keepNow_b11_s (f_X12_keepNow_b11 n) (nI (i + 1)) μ = _
      unfold f_X12_keepNow_b11_s
      rw [if_neg (show ¬ (20 : Int32) ≤ nI (i + 1) from nI_ge (a := i + 1) (b := 20) (by omega) (by decide)), e1, nI_pred, g1, e_bvS, e_nm, nI_1]
    obtain ⟨μ', e, p1, p2, p3, p4, p5⟩ := ih n (i + 1 + 1) μ1 (by omega) (by omega) (by omega)
    refine ⟨μ', by rw [st, e], ?_, ?_, fun r hr => by rw [p3 r hr, w3.1 r hr], fun r x y a ha => by rw [p4 r x y a ha, w3.2.1 r x y a (by omega)], fun r x y a ha => by rw [p5 r x y a ha, w3.2.2 r x y a (by omega)]⟩
    · intro r x y j
      obtain ⟨q1, q2⟩ := p1 r x y j
      constructor
      · intro a b
        by_cases c : j = i
        · subst c
          rw [q2 (by omega), w1 r x y]
          rfl
        · rw [q1 (by omega) b, w3.2.1 r x y _ (by omega)]
      · intro a
        rw [q2 (by omega), w3.2.1 r x y _ (by omega)]
    · intro r x y j b hb
      obtain ⟨q1, q2⟩ := p2 r x y j b hb
      constructor
      · intro a b'
        by_cases c : j = i
        · subst c
          rw [q2 (by omega), w2 r x y b hb]
          rfl
        · rw [q1 (by omega) b', w3.2.2 r x y _ (by omega)]
      · intro a
        rw [q2 (by omega), w3.2.2 r x y _ (by omega)]
/-- a doing is kept, in both -/
theorem q_keep {nb d : Nat} {σ μ : MSt} (N : q_UN nb d σ μ.1) (A : q_A nb d 50 σ 0 μ.1) (w : Int32) (hw : w = 0 ∨ w = 1 ∨ w = 2) (b : Nat) (hb : b < 8) : ∃ σ' μ' n, n < 20 ∧ f_X2_add w (nI b) σ = some σ' ∧ f_X12_keepNow μ = some μ' ∧ σ'.1 62 5 = nI (n + 1) ∧ μ'.1 0 45 = nI (n + 1) ∧ q_CH nb d n σ' μ'.1 (q_lg 50 σ) ∧ σ'.1 63 n = w ∧ σ'.1 64 n = nI b ∧ σ'.1 65 n = σ.1 51 b ∧ σ'.1 66 n = σ.1 53 b ∧ q_AG nb d (q_lg 50 σ) (4 + n) μ'.1 ∧ (∀ r, (r < 62 ∨ 66 < r) → σ'.1 r = σ.1 r) ∧ σ'.2 = σ.2 ∧ (∀ r, 0 < r → (r < 17 ∨ 28 < r) → μ'.1 r = μ.1 r) ∧ (∀ j, j ≠ 45 → μ'.1 0 j = μ.1 0 j) ∧ (∀ r, 16 < r → r < 26 → ∀ a, a < 4 → μ'.1 r a = μ.1 r a) ∧ (∀ r, 25 < r → r < 29 → ∀ x, x < 32 → μ'.1 r x = μ.1 r x) := by
  have kb : k_inb (nI b) 8 = true := e_in hb (by decide)
  -- behind a place that is free
  have main : ∀ (n : Nat) (σ1 μ1 : MSt), n < 20 → σ1.1 62 5 = nI n → μ1.1 0 45 = nI n → q_CH nb d n σ1 μ1.1 (q_lg 50 σ) → (∀ r, (r < 62 ∨ 66 < r) → σ1.1 r = σ.1 r) → σ1.2 = σ.2 → (∀ r, 0 < r → (r < 17 ∨ 28 < r) → μ1.1 r = μ.1 r) → (∀ j, j ≠ 45 → μ1.1 0 j = μ.1 0 j) → (∀ r, 16 < r → r < 26 → ∀ a, a < 4 → μ1.1 r a = μ.1 r a) → (∀ r, 25 < r → r < 29 → ∀ x, x < 32 → μ1.1 r x = μ.1 r x) → ∃ σ' μ', f_X2_add_b24 w (nI b) σ1 = some σ' ∧ f_X12_keepNow_b45 μ1 = some μ' ∧ σ'.1 62 5 = nI (n + 1) ∧ μ'.1 0 45 = nI (n + 1) ∧ q_CH nb d n σ' μ'.1 (q_lg 50 σ) ∧ σ'.1 63 n = w ∧ σ'.1 64 n = nI b ∧ σ'.1 65 n = σ.1 51 b ∧ σ'.1 66 n = σ.1 53 b ∧ q_AG nb d (q_lg 50 σ) (4 + n) μ'.1 ∧ (∀ r, (r < 62 ∨ 66 < r) → σ'.1 r = σ.1 r) ∧ σ'.2 = σ.2 ∧ (∀ r, 0 < r → (r < 17 ∨ 28 < r) → μ'.1 r = μ.1 r) ∧ (∀ j, j ≠ 45 → μ'.1 0 j = μ.1 0 j) ∧ (∀ r, 16 < r → r < 26 → ∀ a, a < 4 → μ'.1 r a = μ.1 r a) ∧ (∀ r, 25 < r → r < 29 → ∀ x, x < 32 → μ'.1 r x = μ.1 r x) := by
    intro n σ1 μ1 hn s62 m45 ch c1 c2 u1 u2 u3 u4
    have kn : k_inb (nI n) 20 = true := e_in hn (by decide)
    have e4 : (4 : Int32) + nI n = nI (4 + n) := by rw [show (4 : Int32) = nI 4 from rfl, nI_add]
    obtain ⟨μ2, g1, w1, w2, w3⟩ := s_X12_takes (4 + n) 0 (by omega) (by omega) (by omega) μ1
    have g1' : f_X12_takes (nI (4 + n)) 0 μ1 = some μ2 := g1
    have m45' : μ2.1 0 45 = nI n := by rw [w3.1 0 (by omega)]; exact m45
    have q1 : ∀ (s : MSt) (r j : Nat) (v : Int32), r ≠ 62 → s.1 62 5 = nI n → (mI s r j v).1 62 5 = nI n := fun s r j v hr hs => by rw [m_Ir _ _ _ _ (by omega)]; exact hs
    have z1 := q1 σ1 63 n w (by omega) s62
    have z2 := q1 _ 64 n (nI b) (by omega) z1
    have z3 : (mI (mI σ1 63 n w) 64 n (nI b)).1 51 b = σ.1 51 b := by rw [m_Ir _ _ _ _ (by omega), m_Ir _ _ _ _ (by omega), c1 51 (by omega)]
    have z4 := q1 _ 65 n (σ.1 51 b) (by omega) z2
    have z5 : (mI (mI (mI σ1 63 n w) 64 n (nI b)) 65 n (σ.1 51 b)).1 53 b = σ.1 53 b := by rw [m_Ir _ _ _ _ (by omega), m_Ir _ _ _ _ (by omega), m_Ir _ _ _ _ (by omega), c1 53 (by omega)]
    have z6 := q1 _ 66 n (σ.1 53 b) (by omega) z4
    have ea : f_X2_add_b24 w (nI b) σ1 = some (mI (mI (mI (mI (mI σ1 63 n w) 64 n (nI b)) 65 n (σ.1 51 b)) 66 n (σ.1 53 b)) 62 5 (nI (n + 1))) := by
      unfold f_X2_add_b24
      simp only [e_nm, e_ck kb, nI_clamp (show b < 2 ^ 31 by omega), s62, e_ck kn, nI_clamp (show n < 2 ^ 31 by omega), z1, z2, z3, z4, z5, z6, nI_1]
    have eb : f_X12_keepNow_b45 μ1 = some (mI μ2 0 45 (nI (n + 1))) := by
      unfold f_X12_keepNow_b45
      rw [m45, e4, g1', e_bvS, e_nm, m45', nI_1]
    refine ⟨_, _, ea, eb, ?_, ?_, ?_, ?_, ?_, ?_, ?_, ?_, ?_, ?_, ?_, ?_, ?_, ?_⟩
    · rw [m_I]; simp
    · rw [m_I]; simp
    · refine q_CH.eq (by omega) ch ?_ ?_ ?_
      · intro r x y i hi
        simp only [m_I]
        rw [if_neg (by omega), if_neg (by omega), if_neg (by omega), if_neg (by omega), if_neg (by omega)]
      · intro r x y a h3 h4; rw [m_Ir _ _ _ _ (by omega), w3.2.1 r x y a (by omega)]
      · intro r x y i h3 h4; rw [m_Ir _ _ _ _ (by omega), w3.2.2 r x y i (by omega)]
    · simp [m_I]
    · simp [m_I]
    · simp [m_I]
    · simp [m_I]
    · have A1 : q_AG nb d (q_lg 50 σ) 0 μ.1 := A
      refine A1.cg (fun _ _ _ _ => rfl) (fun _ _ => ⟨rfl, rfl, rfl⟩) ?_ ?_
      · intro r x y; rw [m_Ir _ _ _ _ (by omega), w1 r x y, u3 r x y 0 (by omega)]
      · intro r x y b hb; rw [m_Ir _ _ _ _ (by omega), w2 r x y b hb, u4 r x y _ (by omega)]
    · intro r hr
      rw [m_Ir _ _ _ _ (by omega), m_Ir _ _ _ _ (by omega), m_Ir _ _ _ _ (by omega), m_Ir _ _ _ _ (by omega), m_Ir _ _ _ _ (by omega), c1 r hr]
    · exact c2
    · intro r h0 hr; rw [m_Ir _ _ _ _ (by omega), w3.1 r hr, u1 r h0 hr]
    · intro j hj; rw [m_I, if_neg (by omega), w3.1 0 (by omega), u2 j hj]
    · intro r x y a ha; rw [m_Ir _ _ _ _ (by omega), w3.2.1 r x y a (by omega), u3 r x y a ha]
    · intro r x y a ha; rw [m_Ir _ _ _ _ (by omega), w3.2.2 r x y a (by omega), u4 r x y a ha]
  obtain ⟨n, hn, s62, m45, ch⟩ := N.ch
  unfold f_X2_add f_X12_keepNow
  rw [if_neg (nI_pos (by omega)), if_pos (show nI b < (8 : Int32) from nI_lt (a := b) (b := 8) (by omega) (by decide)), s62, m45]
  by_cases c : n = 20
  · subst c
    rw [if_neg (show ¬ nI 20 < (20 : Int32) by decide), if_pos (show nI 20 = (20 : Int32) from rfl)]
    obtain ⟨σ1, e1, p1, p2, p3, p4⟩ := s_X2_forget_l 19 FU 1 σ (by omega) (by omega) (by unfold FU; omega)
    obtain ⟨μ1, e2, w1, w2, w3, w4, w5⟩ := s_X12_shift_l 19 FU 1 μ (by omega) (by omega) (by unfold FU; omega)
    have e1' : f_X2_forgetFirst σ = some σ1 := e1
    have e2' : f_X12_keepNow_b11 FU 1 μ = _ := e2
    have m45' : μ1.1 0 45 - 1 = nI 19 := by rw [w3 0 (by omega), m45]; exact nI_pred 19
    rw [e1', e_bvS, e2', m45']
    have hc : q_CH nb d 19 σ1 (mI μ1 0 45 (nI 19)).1 (q_lg 50 σ) := by
      refine ch.shift (fun r x y i hi => (p1 r x y i).1 (by omega) (by omega)) ?_ ?_
      · intro r x y i hi; rw [m_Ir _ _ _ _ (by omega)]; exact (w1 r x y i).1 (by omega) (by omega)
      · intro r x y i hi b hb; rw [m_Ir _ _ _ _ (by omega)]; exact (w2 r x y i b hb).1 (by omega) (by omega)
    obtain ⟨σ', μ', r⟩ := main 19 σ1 (mI μ1 0 45 (nI 19)) (by omega) p2 (by rw [m_I]; simp) hc (fun r hr => p3 r hr) p4 (fun r h0 hr => by rw [m_Ir _ _ _ _ (by omega), w3 r hr]) (fun j hj => by rw [m_I, if_neg (by omega), w3 0 (by omega)]) (fun r x y a ha => by rw [m_Ir _ _ _ _ (by omega), w4 r x y a ha]) (fun r x y a ha => by rw [m_Ir _ _ _ _ (by omega), w5 r x y a ha])
    exact ⟨σ', μ', 19, by omega, r⟩
  · rw [if_pos (show nI n < (20 : Int32) from nI_lt (a := n) (b := 20) (by omega) (by decide)), if_neg (show ¬ nI n = (20 : Int32) from fun e => c ((nI_eq (a := n) (b := 20) (by omega) (by omega)).mp e))]
    obtain ⟨σ', μ', r⟩ := main n σ μ (by omega) s62 m45 ch (fun _ _ => rfl) rfl (fun _ _ _ => rfl) (fun _ _ => rfl) (fun _ _ _ _ _ => rfl) (fun _ _ _ _ _ => rfl)
    exact ⟨σ', μ', n, by omega, r⟩
/-- a call that touches the log and the doings alone -/
theorem RR_log {σ σ' μ μ' : MSt} {nb nl nd nw nk dn' : Nat} (T : q_TX nb nl nd nw nk σ.1 μ.1) (hdn : dn' ≤ 9900) (I : q_IM nb σ μ.1) (O : q_NO nb σ μ.1) (P : q_TP σ μ.1) (F : q_FT σ μ.1) (W : q_WD σ) (hr : q_rest μ.1) (c : ∀ r, (r < 50 ∨ (53 < r ∧ r < 58) ∨ (77 < r ∧ r < 83)) → σ'.1 r = σ.1 r) (c2 : σ'.2 54 8 = σ.2 54 8) (u : ∀ r, 0 < r → (r < 17 ∨ (33 < r ∧ r < 38)) → μ'.1 r = μ.1 r) (u0 : ∀ j, (j ≠ 0 ∧ j ≠ 31 ∧ j ≠ 49 ∧ (j < 51 ∨ 53 < j)) → j ≠ 45 → μ'.1 0 j = μ.1 0 j) (u1 : ∀ r, 16 < r → r < 26 → μ'.1 r 3 = μ.1 r 3) (u2 : ∀ r, 25 < r → r < 29 → ∀ b, b < 8 → μ'.1 r (24 + b) = μ.1 r (24 + b)) (A' : q_A nb dn' 50 σ' 0 μ'.1) (N' : q_UN nb dn' σ' μ'.1) : RR σ' μ' := by
  refine ⟨nb, nl, nd, nw, nk, dn', T.eq (fun r _ _ => c r (by omega)) (fun r _ _ => u r (by omega) (by omega)), hdn, A', ?_, N', ?_, ?_, ?_, ?_, ?_⟩
  · exact I.eq (by rw [c 0 (by omega)]) (fun r _ _ => c r (by omega)) c2 (u0 44 (by omega) (by omega)) u1 u2
  · exact O.eq (by rw [c 78 (by omega)]) (by rw [c 78 (by omega)]) (fun r _ _ => c r (by omega)) (u0 59 (by omega) (by omega)) (u0 60 (by omega) (by omega)) (fun r _ _ => u r (by omega) (by omega))
  · exact P.eq (by rw [c 1 (by omega)]) (c 2 (by omega)) (u0 2 (by omega) (by omega)) (u 1 (by omega) (by omega))
  · exact F.eq (by rw [c 0 (by omega)]) (by rw [c 0 (by omega)]) (u0 25 (by omega) (by omega)) (u0 26 (by omega) (by omega))
  · exact W.eq (c 6 (by omega))
  · exact hr.eq (u0 46 (by omega) (by omega)) (u0 47 (by omega) (by omega)) (u0 48 (by omega) (by omega)) (u0 50 (by omega) (by omega))
/-- remembering, row by row -/
theorem q_rem_r (o b : Nat) (j : Int32) (σ : MSt) : (∀ x, (q_rem o b j σ).1 (o + 1) x = if x = b then k_min 9999 (σ.1 (o + 1) b + j) else σ.1 (o + 1) x) ∧ (∀ x, (q_rem o b j σ).1 (o + 2) x = if x = b then σ.1 (o + 2) b + 1 else σ.1 (o + 2) x) ∧ (∀ x, (q_rem o b j σ).1 (o + 3) x = if x = b then σ.1 o 3 else σ.1 (o + 3) x) ∧ (∀ r, (r < o + 1 ∨ o + 3 < r) → (q_rem o b j σ).1 r = σ.1 r) ∧ (q_rem o b j σ).2 = σ.2 := by
  unfold q_rem
  refine ⟨fun x => ?_, fun x => ?_, fun x => ?_, fun r hr => ?_, rfl⟩
  · rw [m_Ir _ _ _ _ (by omega), m_Ir _ _ _ _ (by omega), m_I]; simp
  · rw [m_Ir _ _ _ _ (by omega), m_I, m_Ir _ _ _ _ (by omega)]; simp
  · rw [m_I, m_Ir _ _ _ _ (by omega), m_Ir _ _ _ _ (by omega)]; simp
  · rw [m_Ir _ _ _ _ (by omega), m_Ir _ _ _ _ (by omega), m_Ir _ _ _ _ (by omega)]
theorem q_remM_r (a b : Nat) (hb : b < 8) (j : Int32) (μ : MSt) : (∀ x, (q_remM a b j μ).1 26 x = if x = 8 * a + b then k_min 9999 (μ.1 26 (8 * a + b) + j) else μ.1 26 x) ∧ (∀ x, (q_remM a b j μ).1 27 x = if x = 8 * a + b then μ.1 27 (8 * a + b) + 1 else μ.1 27 x) ∧ (∀ x, (q_remM a b j μ).1 28 x = if x = 8 * a + b then μ.1 17 a else μ.1 28 x) ∧ (∀ r, (r < 26 ∨ 28 < r) → (q_remM a b j μ).1 r = μ.1 r) ∧ (q_remM a b j μ).2 = μ.2 ∧ FA a μ (q_remM a b j μ) := by
  have f : ∀ r, (r < 26 ∨ 28 < r) → (q_remM a b j μ).1 r = μ.1 r := by
    intro r hr
    unfold q_remM
    rw [m_Ir _ _ _ _ (by omega), m_Ir _ _ _ _ (by omega), m_Ir _ _ _ _ (by omega)]
  have g1 : ∀ x, (q_remM a b j μ).1 26 x = if x = 8 * a + b then k_min 9999 (μ.1 26 (8 * a + b) + j) else μ.1 26 x := by intro x; unfold q_remM; simp [m_I]
  have g2 : ∀ x, (q_remM a b j μ).1 27 x = if x = 8 * a + b then μ.1 27 (8 * a + b) + 1 else μ.1 27 x := by intro x; unfold q_remM; simp [m_I]
  have g3 : ∀ x, (q_remM a b j μ).1 28 x = if x = 8 * a + b then μ.1 17 a else μ.1 28 x := by intro x; unfold q_remM; simp [m_I]
  refine ⟨g1, g2, g3, f, rfl, fun r hr => f r (by omega), fun r x y i _ => by rw [f r (by omega)], fun r x y i hi => ?_⟩
  have : r = 26 ∨ r = 27 ∨ r = 28 := by omega
  rcases this with rfl | rfl | rfl
  · rw [g1, if_neg (by omega)]
  · rw [g2, if_neg (by omega)]
  · rw [g3, if_neg (by omega)]
/-- one anchor, the number drawn set apart -/
def q_Ad (nb d o : Nat) (σ : MSt) (dr : Int64) (a : Nat) (U : Nat → Nat → Int32) : Prop := q_AN nb d (σ.1 o) (σ.1 (o + 1)) (σ.1 (o + 2)) (σ.1 (o + 3)) dr a U
theorem q_Ad_rem {nb d o a : Nat} {σ μ : MSt} {dr : Int64} (A : q_Ad nb d o σ dr a μ.1) (hd : d ≤ 20000) (b k : Nat) (hb : b < 8) (hk : k ≤ 9) : q_Ad nb d o (q_rem o b (nI k) σ) dr a (q_remM a b (nI k) μ).1 := by
  obtain ⟨p1, p2, p3, p4, p5⟩ := q_rem_r o b (nI k) σ
  obtain ⟨m1, m2, m3, m4, -, -⟩ := q_remM_r a b hb (nI k) μ
  obtain ⟨a1, a2, a3, a4, a5⟩ := A
  unfold q_Ad
  rw [p4 o (by omega)]
  refine ⟨?_, ?_, ?_, ?_, ?_⟩
  · rw [m4 17 (by omega)]; exact a1
  · intro x hx
    rw [p1, m1]
    by_cases c : x = b
    · subst c
      rw [if_pos rfl, if_pos rfl, (a2 x hx).1]
      exact ⟨rfl, by rw [← (a2 x hx).1]; exact q_min_b (a2 x hx).2 k hk⟩
    · rw [if_neg c, if_neg (by omega)]; exact a2 x hx
  · intro x hx
    rw [p2, m2]
    by_cases c : x = b
    · subst c; rw [if_pos rfl, if_pos rfl, a3 x hx]
    · rw [if_neg c, if_neg (by omega)]; exact a3 x hx
  · intro x hx
    rw [p3, m3]
    by_cases c : x = b
    · subst c
      rw [if_pos rfl, if_pos rfl, a1.1, a1.2]
      exact ⟨rfl, by unfold q_LB; rw [nI_toInt (by omega)]; omega⟩
    · rw [if_neg c, if_neg (by omega)]; exact a4 x hx
  · rw [m4 18 (by omega), m4 19 (by omega), m4 20 (by omega), m4 21 (by omega), m4 22 (by omega), m4 23 (by omega), m4 24 (by omega), m4 25 (by omega)]
    exact a5
theorem q_A_rem {nb d o a : Nat} {σ μ : MSt} (A : q_A nb d o σ a μ.1) (hd : d ≤ 20000) (b k : Nat) (hb : b < 8) (hk : k ≤ 9) : q_A nb d o (q_rem o b (nI k) σ) a (q_remM a b (nI k) μ).1 := q_Ad_rem (dr := σ.2 o 8) A hd b k hb hk
theorem q_lg_rem (b : Nat) (j : Int32) (σ : MSt) : q_un 1 (nI b) (σ.1 51 b) (σ.1 53 b) (q_lg 50 (q_rem 50 b j σ)) = q_lg 50 σ ∨ 2 ^ 31 ≤ b := by
  by_cases hb : b < 2 ^ 31
  · left
    obtain ⟨p1, p2, p3, p4, p5⟩ := q_rem_r 50 b j σ
    unfold q_un
    rw [if_neg (by decide), if_neg (by decide), nI_clamp hb]
    unfold q_lg
    refine Prod.ext (p4 50 (by omega)) (Prod.ext ?_ (Prod.ext ?_ (Prod.ext ?_ ?_)))
    · funext x
      show upd ((q_rem 50 b j σ).1 (50 + 1)) b (σ.1 51 b) x = σ.1 (50 + 1) x
      by_cases c : x = b
      · rw [c, pk_us]
      · rw [pk_un c, p1, if_neg c]
    · funext x
      show upd ((q_rem 50 b j σ).1 (50 + 2)) b ((q_rem 50 b j σ).1 (50 + 2) b - 1) x = σ.1 (50 + 2) x
      by_cases c : x = b
      · rw [c, pk_us, p2, if_pos rfl]
        simp
      · rw [pk_un c, p2, if_neg c]
    · funext x
      show upd ((q_rem 50 b j σ).1 (50 + 3)) b (σ.1 53 b) x = σ.1 (50 + 3) x
      by_cases c : x = b
      · rw [c, pk_us]
      · rw [pk_un c, p3, if_neg c]
    · show (q_rem 50 b j σ).2 50 8 = σ.2 50 8
      rw [p5]
  · right; omega
theorem q_lg_eq {σ σ' : MSt} (c1 : ∀ r, 49 < r → r < 54 → σ'.1 r = σ.1 r) (c2 : σ'.2 50 8 = σ.2 50 8) : q_lg 50 σ' = q_lg 50 σ := by
  unfold q_lg
  rw [c1 50 (by omega) (by omega), c1 (50 + 1) (by omega) (by omega), c1 (50 + 2) (by omega) (by omega), c1 (50 + 3) (by omega) (by omega), c2]
theorem sim_kind : Sim_kind RR := by
  intro σ μ a0 a1 h
  have hk := h.thr
  unfold f_X11_kind f_X12_kind f_X11_kind_b21 f_X12_kind_b23
  rw [e_nm]
  generalize mI μ 0 0 0 = μ0 at hk
  obtain ⟨nb, nl, nd, nw, nk, dn, T, hdn, A, I, N, O, P, F, W, hr⟩ := id hk
  rw [s_X0_hasBay 10 a0 σ nb T.nbC T.le.1, s_X12_isBay a0 _ nb T.nbM T.le.1, e_bdS, e_bdS]
  by_cases c : 0 ≤ a0.toInt ∧ a0.toInt < nb
  · rw [if_pos c, if_neg q_t10, if_neg q_t10]
    by_cases c1 : a1 < 0
    · rw [if_pos c1, if_pos c1]; exact ⟨_, _, _, rfl, rfl, hk⟩
    · rw [if_neg c1, if_neg c1]
      by_cases c2 : a1 ≤ 9
      · rw [if_pos c2, if_pos c2]
        obtain ⟨b, hb, rfl⟩ := q_of c (by have := T.le.1; omega)
        obtain ⟨j, hj, rfl⟩ := nI_of2 (M := 9) (n := 9) (by decide) c1 c2
        have hb8 : b < 8 := by have := T.le.1; omega
        obtain ⟨σ1, μ1, n, hn, e1, e2, k1, k2, k3, k4, k5, k6, k7, k8, k9, k10, k11, k12, k13, k14⟩ := q_keep N A 1 (Or.inr (Or.inl rfl)) b hb8
        unfold f_X2_wasKind
        rw [e1, e_bvS, e_bvS, e2, e_bvS, s_X5_remember 50 b hb8, e_bvS, show (0 : Int32) = nI 0 from rfl, s_X12_remembers 0 b (by omega) hb8, e_bvS, e_ck (e_in (by omega) (by decide)), e_ck (e_in (by omega) (by decide)), nI_clamp (by omega)]
        have A1 : q_A nb dn 50 σ1 0 μ1.1 := A.eq (fun r _ _ => k9 r (by omega)) (by rw [k10]) (fun r x y => k13 r x y 0 (by omega)) (fun r x y b hb => k14 r x y _ (by omega))
        have A2 := q_A_rem A1 (by omega) b j hb8 hj
        obtain ⟨p1, p2, p3, p4, p5⟩ := q_rem_r 50 b (nI j) σ1
        obtain ⟨m1, m2, m3, m4, m5, m6⟩ := q_remM_r 0 b hb8 (nI j) μ1
        refine ⟨_, _, _, rfl, ?_, RR_log T hdn I O P F W hr ?_ ?_ ?_ ?_ ?_ ?_ A2 ?_⟩
        · have := (A2.2.1 b hb8).1
          rw [show 8 * 0 + b = b by omega] at this
          rw [show (51 : Nat) = 50 + 1 from rfl, this]
        · intro r hr'; rw [p4 r (by omega), k9 r (by omega)]
        · rw [p5, k10]
        · intro r h0 hr'; rw [m4 r (by omega), k11 r h0 (by omega)]
        · intro j' hj' hj2; rw [m4 0 (by omega), k12 j' hj2]
        · intro r x y; rw [m6.2.1 r x y 3 (by omega), k13 r x y 3 (by omega)]
        · intro r x y b hb; rw [m6.2.2 r x y _ (by omega), k14 r x y _ (by omega)]
        · have hL : q_lg 50 σ = q_lg 50 σ1 := (q_lg_eq (fun r _ _ => k9 r (by omega)) (by rw [k10])).symm
          refine q_UN.of (n := n + 1) (by omega) (by rw [p4 62 (by omega)]; exact k1) (by rw [m4 0 (by omega)]; exact k2) ?_
          have s63 := p4 63 (by omega)
          have s64 := p4 64 (by omega)
          have s65 := p4 65 (by omega)
          have s66 := p4 66 (by omega)
          refine q_CH.snoc (L := q_lg 50 σ) ?_ ?_ ?_ ?_ ?_
          · exact q_CH.eq (by omega) k3 (fun r x y i hi => by rw [p4 r (by omega)]) (fun r x y a h3 h4 => m6.2.1 r x y a (by omega)) (fun r x y i h3 h4 => m6.2.2 r x y i (by omega))
          · rw [s63, k4]; exact Or.inr (Or.inl rfl)
          · rw [s64, k5]; exact ⟨b, hb8, rfl⟩
          · rw [s63, s64, s65, s66, k4, k5, k6, k7, hL, ← k9 51 (by omega), ← k9 53 (by omega)]
            rcases q_lg_rem b (nI j) σ1 with q | q
            · exact q.symm
            · omega
          · exact k8.eq (fun r x y => m6.2.1 r x y _ (by omega)) (fun r x y b hb => m6.2.2 r x y _ (by omega))
      · rw [if_neg c2, if_neg c2]; exact ⟨_, _, _, rfl, rfl, hk⟩
  · rw [if_neg c, if_pos rfl, if_pos rfl]; exact ⟨_, _, _, rfl, rfl, hk⟩
theorem q_row (σ : MSt) (o j : Nat) (v : Int32) : (mI σ o j v).1 o = upd (σ.1 o) j v := by
  funext x
  rw [m_I]
  by_cases c : x = j
  · rw [if_pos ⟨rfl, c⟩, c, pk_us]
  · rw [if_neg (fun q => c q.2), pk_un c]
theorem q_updu (f : Nat → Int32) (j : Nat) (x y : Int32) : upd (upd f j x) j y = upd f j y := by
  funext z
  by_cases c : z = j
  · rw [c, pk_us, pk_us]
  · rw [pk_un c, pk_un c, pk_un c]
theorem q_upds (f : Nat → Int32) (j : Nat) : upd f j (f j) = f := by
  funext z
  by_cases c : z = j
  · rw [c, pk_us]
  · rw [pk_un c]
theorem sim_copy : Sim_copy RR := by
  intro σ μ a0 h01 h
  have hk := h.thr
  unfold f_X11_copy f_X12_copy f_X12_copy_b20 f_X12_copy_b44
  rw [e_nm]
  generalize mI μ 0 0 0 = μ0 at hk
  obtain ⟨nb, nl, nd, nw, nk, dn, T, hdn, A, I, N, O, P, F, W, hr⟩ := id hk
  obtain ⟨c7, s7⟩ := A.2.2.2.2.2.1
  rw [e_ck (by decide), c_0, ← c7]
  -- both compare the same
  have hy : ∀ X Y : Option (Int32 × MSt), (if σ.1 50 7 = 1 then (if (1 : Int32) = a0 then X else Y) else (if (0 : Int32) = a0 then X else Y)) = if σ.1 50 7 = a0 then X else Y := by
    intro X Y
    rcases s7 with q | q
    · rw [q, if_neg (by decide)]
    · rw [q, if_pos rfl]
  rw [hy]
  by_cases c : σ.1 50 7 = a0
  · rw [if_pos c, if_pos c]; exact ⟨_, _, _, rfl, rfl, hk⟩
  · rw [if_neg c, if_neg c]
    obtain ⟨σ1, μ1, n, hn, e1, e2, k1, k2, k3, k4, k5, k6, k7, k8, k9, k10, k11, k12, k13, k14⟩ := q_keep N A 2 (Or.inr (Or.inr rfl)) 0 (by omega)
    have e1' : f_X2_add 2 0 σ = some σ1 := e1
    unfold f_X2_copied
    rw [e1', e_bvS, e_bvS, e_ck (k_bo01 h01), e_nm, e2, e_bvS]
    have hz : (if a0 = 0 then k_ck (k_inb (0 : Int32) 24) (k_nm (mI μ1 21 0 0) fun σ1 => some ((1 : Int32), σ1)) else k_ck (k_inb (0 : Int32) 24) (k_nm (mI μ1 21 0 1) fun σ1 => some ((1 : Int32), σ1))) = some (1, mI μ1 21 0 a0) := by
      rcases h01 with q | q
      · rw [if_pos q, q]; rfl
      · rw [if_neg (by rw [q]; decide), q]; rfl
    rw [hz]
    have A1 : q_A nb dn 50 σ1 0 μ1.1 := A.eq (fun r _ _ => k9 r (by omega)) (by rw [k10]) (fun r x y => k13 r x y 0 (by omega)) (fun r x y b hb => k14 r x y _ (by omega))
    have A2 : q_A nb dn 50 (mI σ1 50 7 a0) 0 (mI μ1 21 0 a0).1 := by
      obtain ⟨a1, a2, a3, a4, a5, a6, a7, a8, a9⟩ := A1
      refine ⟨?_, ?_, ?_, ?_, ?_, ?_, ?_, ?_, ?_⟩ <;> simp only [m_I, m_I2] <;> simp
      · exact a1
      · intro b hb; exact (by simpa using a2 b hb)
      · intro b hb; exact (by simpa using a3 b hb)
      · intro b hb; exact (by simpa using a4 b hb)
      · exact a5
      · exact h01
      · exact a7
      · exact a8
      · exact (by simpa using a9)
    have r1 : ∀ r, r ≠ 50 → (mI σ1 50 7 a0).1 r = σ1.1 r := fun r hr => m_Ir _ _ _ _ hr
    have t1 : ∀ r, r ≠ 21 → (mI μ1 21 0 a0).1 r = μ1.1 r := fun r hr => m_Ir _ _ _ _ hr
    have t2 : ∀ r a, a ≠ 0 → (mI μ1 21 0 a0).1 r a = μ1.1 r a := fun r a ha => by rw [m_I, if_neg (by omega)]
    refine ⟨_, _, _, rfl, rfl, RR_log T hdn I O P F W hr ?_ ?_ ?_ ?_ ?_ ?_ A2 ?_⟩
    · intro r hr'; rw [r1 r (by omega), k9 r (by omega)]
    · show σ1.2 54 8 = _; rw [k10]
    · intro r h0 hr'; rw [t1 r (by omega), k11 r h0 (by omega)]
    · intro j' hj' hj2; rw [t1 0 (by omega), k12 j' hj2]
    · intro r x y; rw [t2 r 3 (by omega), k13 r x y 3 (by omega)]
    · intro r x y b hb; rw [t2 r _ (by omega), k14 r x y _ (by omega)]
    · refine q_UN.of (n := n + 1) (by omega) (by rw [r1 62 (by omega)]; exact k1) (by rw [t1 0 (by omega)]; exact k2) ?_
      refine q_CH.snoc (L := q_lg 50 σ) ?_ ?_ ?_ ?_ ?_
      · exact q_CH.eq (by omega) k3 (fun r x y i hi => by rw [r1 r (by omega)]) (fun r x y a h3 h4 => t2 r a (by omega)) (fun r x y i h3 h4 => t2 r i (by omega))
      · rw [r1 63 (by omega), k4]; exact Or.inr (Or.inr rfl)
      · rw [r1 64 (by omega), k5]; exact ⟨0, by omega, rfl⟩
      · rw [r1 63 (by omega), k4]
        unfold q_un q_lg
        rw [if_neg (by decide), if_pos rfl]
        refine Prod.ext ?_ (Prod.ext ?_ (Prod.ext ?_ (Prod.ext ?_ ?_)))
        · show σ.1 50 = upd ((mI σ1 50 7 a0).1 50) 7 (if (mI σ1 50 7 a0).1 50 7 = 0 then 1 else 0)
          rw [q_row, q_updu, pk_us, k9 50 (by omega)]
          have : (if a0 = 0 then (1 : Int32) else 0) = σ.1 50 7 := by
            rcases h01 with q | q <;> rcases s7 with z | z
            · exact absurd (z.trans q.symm) c
            · rw [if_pos q, z]
            · rw [if_neg (by rw [q]; decide), z]
            · exact absurd (z.trans q.symm) c
          rw [this, q_upds]
        · show σ.1 (50 + 1) = (mI σ1 50 7 a0).1 (50 + 1)
          rw [r1 _ (by omega), k9 _ (by omega)]
        · show σ.1 (50 + 2) = (mI σ1 50 7 a0).1 (50 + 2)
          rw [r1 _ (by omega), k9 _ (by omega)]
        · show σ.1 (50 + 3) = (mI σ1 50 7 a0).1 (50 + 3)
          rw [r1 _ (by omega), k9 _ (by omega)]
        · show σ.2 50 8 = σ1.2 50 8
          rw [k10]
      · exact k8.eq (fun r x y => t2 r _ (by omega)) (fun r x y b hb => t2 r _ (by omega))
theorem s_X0_daysNone (o : Nat) (a : Int32) (b : Nat) (σ : MSt) (nb : Nat) (hb : σ.1 o 7 = nI nb) (hn : nb ≤ 8) (ha : a = -1) : f_X0_daysBetween o a (nI b) σ = some (0, σ) := by
  unfold f_X0_daysBetween
  have z : ¬ (0 ≤ a.toInt ∧ a.toInt < nb) := by rw [ha, show (-1 : Int32).toInt = -1 from by decide]; omega
  rw [s_X0_hasBay o a σ nb hb hn, e_bdS, if_neg z, if_pos rfl]
  rfl
theorem sim_sail : Sim_sail RR := by
  intro σ μ a0 h
  have hk := h.thr
  unfold f_X11_sail f_X12_sail f_X11_sail_b22 f_X12_sail_b33 f_X11_sail_b55
  rw [e_nm]
  generalize mI μ 0 0 0 = μ0 at hk
  obtain ⟨nb, nl, nd, nw, nk, dn, T, hdn, A, I, N, O, P, F, W, hr⟩ := id hk
  have i0 : k_inb (0 : Int32) 24 = true := by decide
  rw [s_X0_hasBay 10 a0 σ nb T.nbC T.le.1, s_X12_isBay a0 _ nb T.nbM T.le.1, e_bdS, e_bdS]
  by_cases c : 0 ≤ a0.toInt ∧ a0.toInt < nb
  · rw [if_pos c, if_neg q_t10, if_neg q_t10, e_ck i0, e_ck i0, c_0]
    obtain ⟨b, hb, rfl⟩ := q_of c (by have := T.le.1; omega)
    have hb8 : b < 8 := by have := T.le.1; omega
    rw [← A.2.2.2.2.1.1]
    by_cases c5 : σ.1 50 5 = -1
    · obtain ⟨h6, h4, h4'⟩ := q_heads A T.le.1 c5
      rw [← h4, if_pos c5]
      by_cases cl : σ.1 50 4 = nI b
      · rw [if_pos cl, if_pos cl]; exact ⟨_, _, _, rfl, rfl, hk⟩
      · rw [if_neg cl, if_neg cl]
        obtain ⟨x, hx, ex⟩ : ∃ x, x < nb ∧ σ.1 50 4 = nI x := by
          rcases h4' with q | q
          · omega
          · exact q
        obtain ⟨ln1, l, hl, ln2⟩ := T.lane x b hx hb
        unfold f_X12_sail_b35 f_X12_sail_b59
        rw [e_ck i0, e_ck i0, c_0, ← A.2.2.2.2.1.1, if_pos c5, ← h4, ex, s_X0_daysBetween 10 x b σ nb T.nbC T.le.1 hx hb, s_X12_laneOf (nI x) (nI b) _ nl T.nlM T.le.2.1, e_bdS, e_bdS, ← ln1, if_pos c5]
        rw [show σ.1 (10 + 2) (x * 8 + b) = nI l from ln2]
        by_cases cz : nI l = 0
        · rw [if_pos cz, if_pos cz]; exact ⟨_, _, _, rfl, rfl, hk⟩
        · rw [if_neg cz, if_neg cz, ex]
          obtain ⟨σ1, μ1, n, hn, e1, e2, k1, k2, k3, k4, k5, k6, k7, k8, k9, k10, k11, k12, k13, k14⟩ := q_keep N A 0 (Or.inl rfl) x (by have := T.le.1; omega)
          unfold f_X2_sailed
          have m18 : (mI μ1 19 0 (nI b)).1 18 0 = nI x := by rw [m_Ir _ _ _ _ (by omega), k13 18 (by omega) (by omega) 0 (by omega), ← h4, ex]
          have m17 : (mI μ1 19 0 (nI b)).1 17 0 = nI dn := by rw [m_Ir _ _ _ _ (by omega), k13 17 (by omega) (by omega) 0 (by omega)]; exact A.1.2
          have mm : ∀ r, 0 < r → r < 17 → (mI μ1 19 0 (nI b)).1 r = μ0.1 r := fun r h0 hr => by rw [m_Ir _ _ _ _ (by omega), k11 r h0 (by omega)]
          rw [e1, e_bvS, e_bvS, s_X5_leaveFor, e_bvS, e2, e_bvS, e_ck i0, e_nm, e_ck i0, e_ck i0, m18, m17, s_X12_laneOf (nI x) (nI b) _ nl (by rw [mm 2 (by omega) (by omega)]; exact T.nlM) T.le.2.1, e_bdS, mm 4 (by omega) (by omega), mm 5 (by omega) (by omega), mm 6 (by omega) (by omega), ← ln1, ln2, e_ck i0, e_nm, e_ck i0]
          have d1 : σ1.1 50 3 = nI dn := by rw [k9 50 (by omega)]; exact A.1.1
          have A1 : q_A nb dn 50 σ1 0 μ1.1 := A.eq (fun r _ _ => k9 r (by omega)) (by rw [k10]) (fun r x y => k13 r x y 0 (by omega)) (fun r x y b hb => k14 r x y _ (by omega))
          have qr : (q_leave 50 (nI b) (nI l) σ1).1 50 = upd (upd (upd (σ1.1 50) 4 (-1)) 5 (nI b)) 6 (σ1.1 50 3 + nI l) := by unfold q_leave; rw [q_row, q_row, q_row]
          have qo : ∀ r, r ≠ 50 → (q_leave 50 (nI b) (nI l) σ1).1 r = σ1.1 r := fun r hr => by unfold q_leave; rw [m_Ir _ _ _ _ hr, m_Ir _ _ _ _ hr, m_Ir _ _ _ _ hr]
          have t1 : ∀ r, r ≠ 19 → r ≠ 20 → (mI (mI μ1 19 0 (nI b)) 20 0 (nI dn + nI l)).1 r = μ1.1 r := fun r h1 h2 => by rw [m_Ir _ _ _ _ h2, m_Ir _ _ _ _ h1]
          have t2 : ∀ r a, a ≠ 0 → (mI (mI μ1 19 0 (nI b)) 20 0 (nI dn + nI l)).1 r a = μ1.1 r a := fun r a ha => by rw [m_I, if_neg (by omega), m_I, if_neg (by omega)]
          have A2 : q_A nb dn 50 (q_leave 50 (nI b) (nI l) σ1) 0 (mI (mI μ1 19 0 (nI b)) 20 0 (nI dn + nI l)).1 := by
            obtain ⟨a1, a2, a3, a4, a5, a6, a7, a8, a9⟩ := A1
            unfold q_A
            rw [qr, qo (50 + 1) (by omega), qo (50 + 2) (by omega), qo (50 + 3) (by omega)]
            refine ⟨?_, ?_, ?_, ?_, ?_, ?_, ?_, ?_, ?_⟩
            · rw [pk_un (by omega), pk_un (by omega), pk_un (by omega), t1 17 (by omega) (by omega)]; exact a1
            · rw [t1 26 (by omega) (by omega)]; exact a2
            · rw [t1 27 (by omega) (by omega)]; exact a3
            · rw [t1 28 (by omega) (by omega)]; exact a4
            · rw [pk_un (show 5 ≠ 6 by omega), pk_us, pk_us, d1, m_I, m_I]
              simp [m_I]
            · rw [pk_un (by omega), pk_un (by omega), pk_un (by omega), t1 21 (by omega) (by omega)]; exact a6
            · rw [pk_un (by omega), pk_un (by omega), pk_un (by omega), pk_un (by omega), pk_un (by omega), pk_un (by omega), pk_un (by omega), pk_un (by omega), pk_un (by omega), t1 22 (by omega) (by omega), t1 23 (by omega) (by omega), t1 24 (by omega) (by omega)]; exact a7
            · rw [t1 25 (by omega) (by omega)]; exact a8
            · right
              refine ⟨b, l, hb, ?_, ?_, hl, ?_⟩
              · rw [pk_un (by omega), pk_us]
              · rw [pk_us, d1, nI_add]
              · rw [pk_un (by omega), pk_un (by omega), pk_us]
          refine ⟨_, _, _, rfl, ?_, RR_log T hdn I O P F W hr ?_ ?_ ?_ ?_ ?_ ?_ A2 ?_⟩
          · rw [qr, pk_us, d1]; simp [m_I]
          · intro r hr'; rw [qo r (by omega), k9 r (by omega)]
          · show σ1.2 54 8 = _; rw [k10]
          · intro r h0 hr'; rw [t1 r (by omega) (by omega), k11 r h0 (by omega)]
          · intro j' hj' hj2; rw [t1 0 (by omega) (by omega), k12 j' hj2]
          · intro r x y; rw [t2 r 3 (by omega), k13 r x y 3 (by omega)]
          · intro r x y b hb; rw [t2 r _ (by omega), k14 r x y _ (by omega)]
          · refine q_UN.of (n := n + 1) (by omega) (by rw [qo 62 (by omega)]; exact k1) (by rw [t1 0 (by omega) (by omega)]; exact k2) ?_
            refine q_CH.snoc (L := q_lg 50 σ) ?_ ?_ ?_ ?_ ?_
            · exact q_CH.eq (by omega) k3 (fun r x y i hi => by rw [qo r (by omega)]) (fun r x y a h3 h4 => t2 r a (by omega)) (fun r x y i h3 h4 => t2 r i (by omega))
            · rw [qo 63 (by omega), k4]; exact Or.inl rfl
            · rw [qo 64 (by omega), k5]; exact ⟨x, by have := T.le.1; omega, rfl⟩
            · rw [qo 63 (by omega), k4, qo 64 (by omega), k5]
              unfold q_un q_lg
              rw [if_pos rfl]
              refine Prod.ext ?_ (Prod.ext ?_ (Prod.ext ?_ (Prod.ext ?_ ?_)))
              · show σ.1 50 = upd (upd (upd ((q_leave 50 (nI b) (nI l) σ1).1 50) 4 (nI x)) 5 (-1)) 6 (-1)
                rw [qr, k9 50 (by omega)]
                funext z
                by_cases z6 : z = 6
                · rw [z6, pk_us]; exact h6
                · rw [pk_un z6]
                  by_cases z5 : z = 5
                  · rw [z5, pk_us]; exact c5
                  · rw [pk_un z5]
                    by_cases z4 : z = 4
                    · rw [z4, pk_us]; exact ex
                    · rw [pk_un z4, pk_un z6, pk_un z5, pk_un z4]
              · show σ.1 (50 + 1) = (q_leave 50 (nI b) (nI l) σ1).1 (50 + 1)
                rw [qo _ (by omega), k9 _ (by omega)]
              · show σ.1 (50 + 2) = (q_leave 50 (nI b) (nI l) σ1).1 (50 + 2)
                rw [qo _ (by omega), k9 _ (by omega)]
              · show σ.1 (50 + 3) = (q_leave 50 (nI b) (nI l) σ1).1 (50 + 3)
                rw [qo _ (by omega), k9 _ (by omega)]
              · show σ.2 50 8 = σ1.2 50 8
                rw [k10]
            · exact k8.eq (fun r x y => t2 r _ (by omega)) (fun r x y b hb => t2 r _ (by omega))
    · -- at sea
      have h4 : σ.1 50 4 = -1 := by
        rcases A.2.2.2.2.2.2.2.2 with ⟨p1, -⟩ | ⟨b', e, p1, p2, p3, p4, p5⟩
        · exact absurd p1 c5
        · exact p5
      rw [if_neg c5, if_neg (by rw [h4]; exact fun q => q_n1 (y := b) (by omega) q.symm), s_X0_daysNone 10 _ b σ nb T.nbC T.le.1 h4, e_bdS, if_neg c5]
      unfold f_X12_sail_b35 f_X12_sail_b59
      rw [e_ck i0, c_0, ← A.2.2.2.2.1.1, if_neg c5]
      exact ⟨_, _, _, rfl, rfl, hk⟩
  · rw [if_neg c, if_pos rfl, if_pos rfl]; exact ⟨_, _, _, rfl, rfl, hk⟩
theorem sim_undo : Sim_undo RR := by
  intro σ μ h
  have hk := h.thr
  unfold f_X11_undo f_X12_undo
  rw [e_nm]
  generalize mI μ 0 0 0 = μ0 at hk
  obtain ⟨nb, nl, nd, nw, nk, dn, T, hdn, A, I, N, O, P, F, W, hr⟩ := id hk
  obtain ⟨n, hn, s62, m45, ch⟩ := N.ch
  unfold f_X2_takeBack f_X2_takeBack_b16
  rw [s62, m45]
  by_cases c : n = 0
  · subst c
    rw [if_pos (show nI 0 ≤ 0 by decide), if_pos (show nI 0 = 0 from rfl)]
    exact ⟨_, _, _, rfl, rfl, hk⟩
  · obtain ⟨m, rfl⟩ : ∃ m, n = m + 1 := ⟨n - 1, by omega⟩
    have km : k_inb (nI m) 20 = true := e_in (by omega) (by decide)
    rw [if_neg (nI_nle (by omega) (by omega)), if_neg (nI_ne0 (by omega) (by omega)), if_pos (show nI (m + 1) ≤ (20 : Int32) from nI_le (a := m + 1) (b := 20) (by omega) (by decide)), nI_pred]
    simp only [e_nm]
    obtain ⟨c63, ⟨b, hb, c64⟩, ch', AG⟩ := ch.last
    -- the reference
    have q45 : (mI μ0 0 45 (nI m)).1 0 45 = nI m := by rw [m_I]; simp
    have e4 : (4 : Int32) + nI m = nI (4 + m) := by rw [show (4 : Int32) = nI 4 from rfl, nI_add]
    obtain ⟨μ1, g1, w1, w2, w3⟩ := s_X12_takes 0 (4 + m) (by omega) (by omega) (by omega) (mI μ0 0 45 (nI m))
    have g1' : f_X12_takes 0 (nI (4 + m)) (mI μ0 0 45 (nI m)) = some μ1 := g1
    rw [q45, e4, g1', e_bvS, w3.1 0 (by omega), q45]
    have q62 : (mI σ 62 5 (nI m)).1 62 5 = nI m := by rw [m_I]; simp
    have qo : ∀ r, r ≠ 62 → (mI σ 62 5 (nI m)).1 r = σ.1 r := fun r hr => m_Ir _ _ _ _ hr
    have kb : k_inb (nI b) 8 = true := e_in hb (by decide)
    simp only [q62, e_ck km, e_nm, nI_clamp (show m < 2 ^ 31 by omega), qo 63 (by omega), qo 64 (by omega), c64]
    have fin : ∀ σ', (∀ r, (r < 50 ∨ 53 < r) → r ≠ 62 → σ'.1 r = σ.1 r) → σ'.1 62 5 = nI m → σ'.2 = σ.2 → q_lg 50 σ' = q_un (σ.1 63 m) (σ.1 64 m) (σ.1 65 m) (σ.1 66 m) (q_lg 50 σ) → RR σ' μ1 := by
      intro σ' f1 f2 f3 f4
      have A' : q_AG nb dn (q_lg 50 σ') 0 μ1.1 := by
        rw [f4]
        refine AG.cg (fun _ _ _ _ => rfl) (fun _ _ => ⟨rfl, rfl, rfl⟩) ?_ ?_
        · intro r x y; rw [w1 r x y, m_Ir _ _ _ _ (by omega)]
        · intro r x y b hb; rw [w2 r x y b hb, m_Ir _ _ _ _ (by omega)]
      refine RR_log T hdn I O P F W hr ?_ ?_ ?_ ?_ ?_ ?_ A' ?_
      · intro r hr'; exact f1 r (by omega) (by omega)
      · rw [f3]
      · intro r h0 hr'; rw [w3.1 r (by omega), m_Ir _ _ _ _ (by omega)]
      · intro j' hj' hj2; rw [w3.1 0 (by omega), m_I, if_neg (by omega)]
      · intro r x y; rw [w3.2.1 r x y 3 (by omega), m_Ir _ _ _ _ (by omega)]
      · intro r x y b hb; rw [w3.2.2 r x y _ (by omega), m_Ir _ _ _ _ (by omega)]
      · refine q_UN.of (n := m) (by omega) f2 (by rw [w3.1 0 (by omega), m_I]; simp) ?_
        rw [f4]
        exact q_CH.eq (by omega) ch' (fun r x y i hi => by rw [f1 r (by omega) (by omega)]) (fun r x y a h3 h4 => by rw [w3.2.1 r x y a (by omega), m_Ir _ _ _ _ (by omega)]) (fun r x y i h3 h4 => by rw [w3.2.2 r x y i (by omega), m_Ir _ _ _ _ (by omega)])
    by_cases w0 : σ.1 63 m = 0
    · rw [if_pos w0, s_X5_lieIn, e_bvS]
      unfold f_X2_takeBack_b158
      rw [e_bdS]
      have lr : (q_lieIn 50 (nI b) (mI σ 62 5 (nI m))).1 50 = upd (upd (upd (σ.1 50) 4 (nI b)) 5 (-1)) 6 (-1) := by unfold q_lieIn; rw [q_row, q_row, q_row, qo 50 (by omega)]
      have lo : ∀ r, r ≠ 50 → (q_lieIn 50 (nI b) (mI σ 62 5 (nI m))).1 r = (mI σ 62 5 (nI m)).1 r := fun r hr => by unfold q_lieIn; rw [m_Ir _ _ _ _ hr, m_Ir _ _ _ _ hr, m_Ir _ _ _ _ hr]
      refine ⟨_, _, _, rfl, by rw [lo 62 (by omega), q62], fin _ ?_ ?_ rfl ?_⟩
      · intro r hr' h62; rw [lo r (by omega), qo r h62]
      · rw [lo 62 (by omega), q62]
      · rw [w0, c64]
        unfold q_un q_lg
        rw [if_pos rfl, lr, lo (50 + 1) (by omega), lo (50 + 2) (by omega), lo (50 + 3) (by omega), qo (50 + 1) (by omega), qo (50 + 2) (by omega), qo (50 + 3) (by omega)]
        rfl
    · rw [if_neg w0]
      by_cases w2' : σ.1 63 m = 2
      · rw [if_pos w2', qo 50 (by omega)]
        unfold f_X2_takeBack_b93 f_X2_takeBack_b158
        have z0 : k_bo 0 = true := rfl
        have z1 : k_bo 1 = true := rfl
        rw [e_ck z0, e_ck z1, e_nm, e_nm]
        have hz : ∀ v, RR (mI (mI σ 62 5 (nI m)) 50 7 v) μ1 ∨ ¬ v = (if σ.1 50 7 = 0 then 1 else 0) := by
          intro v
          by_cases ev : v = (if σ.1 50 7 = 0 then 1 else 0)
          · left
            refine fin _ ?_ ?_ rfl ?_
            · intro r hr' h62; rw [m_Ir _ _ _ _ (by omega), qo r h62]
            · rw [m_Ir _ _ _ _ (by omega), q62]
            · rw [w2']
              unfold q_un q_lg
              rw [if_neg (by decide), if_pos rfl, q_row, qo 50 (by omega), m_Ir _ _ _ _ (show 50 + 1 ≠ 50 by omega), m_Ir _ _ _ _ (show 50 + 2 ≠ 50 by omega), m_Ir _ _ _ _ (show 50 + 3 ≠ 50 by omega), qo (50 + 1) (by omega), qo (50 + 2) (by omega), qo (50 + 3) (by omega), ev]
              rfl
          · right; exact ev
        by_cases c7 : σ.1 50 7 = 0
        · rw [if_pos c7, e_bdS]
          refine ⟨_, _, _, rfl, by rw [m_Ir _ _ _ _ (by omega), q62], ?_⟩
          rcases hz 1 with q | q
          · exact q
          · rw [if_pos c7] at q; exact absurd rfl q
        · rw [if_neg c7, e_bdS]
          refine ⟨_, _, _, rfl, by rw [m_Ir _ _ _ _ (by omega), q62], ?_⟩
          rcases hz 0 with q | q
          · exact q
          · rw [if_neg c7] at q; exact absurd rfl q
      · rw [if_neg w2', if_neg (nI_pos (by omega)), if_neg (show ¬ (8 : Int32) ≤ nI b from nI_ge (a := b) (b := 8) (by omega) (by decide))]
        simp only [e_ck kb, nI_clamp (show b < 2 ^ 31 by omega)]
        have x62 : ∀ (s : MSt) (r j : Nat) (v : Int32), r ≠ 62 → s.1 62 5 = nI m → (mI s r j v).1 62 5 = nI m := fun s r j v hr hs => by rw [m_Ir _ _ _ _ (by omega)]; exact hs
        have y1 := x62 _ 51 b ((mI σ 62 5 (nI m)).1 65 m) (by omega) q62
        have y2 := x62 _ 52 b ((mI (mI σ 62 5 (nI m)) 51 b ((mI σ 62 5 (nI m)).1 65 m)).1 52 b - 1) (by omega) y1
        rw [y2, e_ck km, nI_clamp (show m < 2 ^ 31 by omega)]
        unfold f_X2_takeBack_b158
        rw [e_bdS]
        refine ⟨_, _, _, rfl, by rw [m_Ir _ _ _ _ (by omega), y2], fin _ ?_ ?_ rfl ?_⟩
        · intro r hr' h62; rw [m_Ir _ _ _ _ (by omega), m_Ir _ _ _ _ (by omega), m_Ir _ _ _ _ (by omega), qo r h62]
        · rw [m_Ir _ _ _ _ (by omega), y2]
        · unfold q_un q_lg
          rw [if_neg w0, if_neg w2', c64, nI_clamp (by omega)]
          refine Prod.ext ?_ (Prod.ext ?_ (Prod.ext ?_ (Prod.ext ?_ ?_)))
          · funext z; simp [m_I]
          · funext z
            by_cases cz : z = b <;> simp [m_I, cz, pk_us, pk_un]
          · funext z
            by_cases cz : z = b <;> simp [m_I, cz, pk_us, pk_un]
          · funext z
            by_cases cz : z = b <;> simp [m_I, cz, pk_us, pk_un]
          · rfl
