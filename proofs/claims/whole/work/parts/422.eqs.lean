/-! MORE FRAMES: the parts of the relation, place by place -/
theorem RR.thr {σ μ : MSt} (h : RR σ μ) : RR σ (mI μ 0 0 0) := h.fr FL.rf (FX.thrown μ 0)
theorem q_A.eq {nb d o a : Nat} {σ σ' : MSt} {U U' : Nat → Nat → Int32} (h : q_A nb d o σ a U) (c : ∀ r, o ≤ r → r ≤ o + 3 → σ'.1 r = σ.1 r) (c2 : σ'.2 o 8 = σ.2 o 8) (u1 : ∀ r, 16 < r → r < 26 → U' r a = U r a) (u2 : ∀ r, 25 < r → r < 29 → ∀ b, b < 8 → U' r (8 * a + b) = U r (8 * a + b)) : q_A nb d o σ' a U' := by
  unfold q_A at h ⊢
  rw [c o (by omega) (by omega), c (o + 1) (by omega) (by omega), c (o + 2) (by omega) (by omega), c (o + 3) (by omega) (by omega), c2]
  exact h.eq u1 u2
theorem q_AN.cg {nb d : Nat} {lo jo ma la lo' jo' ma' la' : Nat → Int32} {dr : Int64} {a a' : Nat} {U U' : Nat → Nat → Int32} (h : q_AN nb d lo jo ma la dr a U) (c0 : ∀ j, 2 < j → j < 12 → j ≠ 8 → lo' j = lo j) (c1 : ∀ b, b < 8 → jo' b = jo b ∧ ma' b = ma b ∧ la' b = la b) (u1 : ∀ r, 16 < r → r < 26 → U' r a' = U r a) (u2 : ∀ r, 25 < r → r < 29 → ∀ b, b < 8 → U' r (8 * a' + b) = U r (8 * a + b)) : q_AN nb d lo' jo' ma' la' dr a' U' := by
  obtain ⟨a1, a2, a3, a4, a5, a6, a7, a8, a9⟩ := h
  have k3 := c0 3 (by omega) (by omega) (by omega)
  have k4 := c0 4 (by omega) (by omega) (by omega)
  have k5 := c0 5 (by omega) (by omega) (by omega)
  have k6 := c0 6 (by omega) (by omega) (by omega)
  have k7 := c0 7 (by omega) (by omega) (by omega)
  have k9 := c0 9 (by omega) (by omega) (by omega)
  have k10 := c0 10 (by omega) (by omega) (by omega)
  have k11 := c0 11 (by omega) (by omega) (by omega)
  refine ⟨?_, ?_, ?_, ?_, ?_, ?_, ?_, ?_, ?_⟩
  · rw [k3, u1 17 (by decide) (by decide)]; exact a1
  · intro b hb; rw [(c1 b hb).1, u2 26 (by decide) (by decide) b hb]; exact a2 b hb
  · intro b hb; rw [(c1 b hb).2.1, u2 27 (by decide) (by decide) b hb]; exact a3 b hb
  · intro b hb; rw [(c1 b hb).2.2, u2 28 (by decide) (by decide) b hb]; exact a4 b hb
  · rw [k5, k6, u1 19 (by decide) (by decide), u1 20 (by decide) (by decide)]; exact a5
  · rw [k7, u1 21 (by decide) (by decide)]; exact a6
  · rw [k9, k10, k11, u1 22 (by decide) (by decide), u1 23 (by decide) (by decide), u1 24 (by decide) (by decide)]; exact a7
  · rw [u1 25 (by decide) (by decide)]; exact a8
  · rw [k4, k5, k6, u1 18 (by decide) (by decide)]; exact a9
theorem q_IM.eq {nb : Nat} {σ σ' : MSt} {U U' : Nat → Nat → Int32} (h : q_IM nb σ U) (c0 : σ'.1 0 11 = σ.1 0 11) (c : ∀ r, 54 ≤ r → r ≤ 57 → σ'.1 r = σ.1 r) (c2 : σ'.2 54 8 = σ.2 54 8) (u0 : U' 0 44 = U 0 44) (u1 : ∀ r, 16 < r → r < 26 → U' r 3 = U r 3) (u2 : ∀ r, 25 < r → r < 29 → ∀ b, b < 8 → U' r (24 + b) = U r (24 + b)) : q_IM nb σ' U' := by
  unfold q_IM at h ⊢
  rw [c0, u0]
  refine ⟨h.1, h.2.imp id (fun q => ⟨q.1, ?_⟩)⟩
  obtain ⟨d, hd, q⟩ := q.2
  exact ⟨d, hd, q.eq (fun r x y => c r x (by omega)) c2 u1 u2⟩
theorem q_UN.eq {nb d : Nat} {σ σ' : MSt} {U U' : Nat → Nat → Int32} (h : q_UN nb d σ U) (c0 : σ'.1 62 5 = σ.1 62 5) (c : ∀ r, 63 ≤ r → r ≤ 66 → σ'.1 r = σ.1 r) (c1 : ∀ r, 50 ≤ r → r ≤ 53 → σ'.1 r = σ.1 r) (c2 : σ'.2 50 8 = σ.2 50 8) (u0 : U' 0 45 = U 0 45) (u1 : ∀ r, 16 < r → r < 26 → ∀ a, 3 < a → U' r a = U r a) (u2 : ∀ r, 25 < r → r < 29 → ∀ i, 31 < i → U' r i = U r i) : q_UN nb d σ' U' := by
  have e : q_lg 50 σ' = q_lg 50 σ := by
    unfold q_lg
    rw [c1 50 (by omega) (by omega), c1 (50 + 1) (by omega) (by omega), c1 (50 + 2) (by omega) (by omega), c1 (50 + 3) (by omega) (by omega), c2]
  unfold q_UN at h ⊢
  rw [c0, c 63 (by omega) (by omega), c 64 (by omega) (by omega), c 65 (by omega) (by omega), c 66 (by omega) (by omega), u0, e]
  obtain ⟨n, h1, h2, h3, ch, h4, h5⟩ := h
  refine ⟨n, h1, h2, h3, ch, h4, fun i hi => ?_⟩
  obtain ⟨a, b, c, q⟩ := h5 i hi
  exact ⟨a, b, c, q.eq (fun r x y => u1 r x y _ (by omega)) (fun r x y b hb => u2 r x y _ (by omega))⟩
theorem q_UN.nil {nb d : Nat} {σ : MSt} {U : Nat → Nat → Int32} (h1 : σ.1 62 5 = 0) (h2 : U 0 45 = 0) : q_UN nb d σ U := ⟨0, by omega, h1, h2, fun _ => q_lg 50 σ, rfl, fun i hi => by omega⟩
theorem q_NO.eq {nb : Nat} {σ σ' : MSt} {U U' : Nat → Nat → Int32} (h : q_NO nb σ U) (c0 : σ'.1 78 7 = σ.1 78 7) (c1 : σ'.1 78 8 = σ.1 78 8) (c : ∀ r, 79 ≤ r → r ≤ 82 → σ'.1 r = σ.1 r) (u0 : U' 0 59 = U 0 59) (u1 : U' 0 60 = U 0 60) (u : ∀ r, 34 ≤ r → r ≤ 37 → U' r = U r) : q_NO nb σ' U' := by
  unfold q_NO at h ⊢
  rw [c0, c1, u0, u1, c 79 (by omega) (by omega), c 80 (by omega) (by omega), c 81 (by omega) (by omega), c 82 (by omega) (by omega), u 34 (by omega) (by omega), u 35 (by omega) (by omega), u 36 (by omega) (by omega), u 37 (by omega) (by omega)]
  exact h
theorem q_TP.eq {σ σ' : MSt} {U U' : Nat → Nat → Int32} (h : q_TP σ U) (c0 : σ'.1 1 5 = σ.1 1 5) (c1 : σ'.1 2 = σ.1 2) (u0 : U' 0 2 = U 0 2) (u1 : U' 1 = U 1) : q_TP σ' U' := by
  unfold q_TP at h ⊢
  rw [c0, c1, u0, u1]
  exact h
theorem q_FT.eq {σ σ' : MSt} {U U' : Nat → Nat → Int32} (h : q_FT σ U) (c0 : σ'.1 0 12 = σ.1 0 12) (c1 : σ'.1 0 13 = σ.1 0 13) (u0 : U' 0 25 = U 0 25) (u1 : U' 0 26 = U 0 26) : q_FT σ' U' := by
  unfold q_FT at h ⊢
  rw [c0, c1, u0, u1]
  exact h
theorem q_WD.eq {σ σ' : MSt} (h : q_WD σ) (c : σ'.1 6 = σ.1 6) : q_WD σ' := by
  unfold q_WD at h ⊢
  rw [c]
  exact h
theorem q_rest.eq {U U' : Nat → Nat → Int32} (h : q_rest U) (u1 : U' 0 46 = U 0 46) (u2 : U' 0 47 = U 0 47) (u3 : U' 0 48 = U 0 48) (u4 : U' 0 50 = U 0 50) : q_rest U' := by
  unfold q_rest at h ⊢
  rw [u1, u2, u3, u4]
  exact h
/-- an anchor is copied: the class's -/
theorem s_X5_take_l (o o1 : Nat) (ho : o + 4 ≤ o1 ∨ o1 + 4 ≤ o) : ∀ (k n i : Nat) (σ : MSt), i + k = 8 → k < n → (σ.1 o1 7 = 0 ∨ σ.1 o1 7 = 1) →
    ∃ σ', f_X5_take_b2 o o1 n (nI i) σ = some σ' ∧ (∀ j, 2 < j → j < 12 → j ≠ 8 → σ'.1 o j = σ.1 o1 j) ∧ (∀ b, b < 8 → (i ≤ b → σ'.1 (o + 1) b = σ.1 (o1 + 1) b ∧ σ'.1 (o + 2) b = σ.1 (o1 + 2) b ∧ σ'.1 (o + 3) b = σ.1 (o1 + 3) b) ∧ (b < i → σ'.1 (o + 1) b = σ.1 (o + 1) b ∧ σ'.1 (o + 2) b = σ.1 (o + 2) b ∧ σ'.1 (o + 3) b = σ.1 (o + 3) b)) ∧ σ'.2 o 8 = σ.2 o1 8 ∧ (∀ r, (r < o ∨ o + 3 < r) → σ'.1 r = σ.1 r) ∧ (∀ r, r ≠ o → σ'.2 r = σ.2 r) := by
  intro k
  induction k with
  | zero =>
    intro n i σ h1 h2 h7
    obtain ⟨n, rfl⟩ : ∃ z, n = z + 1 := ⟨n - 1, by omega⟩
    have hi : i = 8 := by omega
    subst hi
    show ∃ σ', f_X5_take_b2_s o o1 (f_X5_take_b2 o o1 n) (nI 8) σ = some σ' ∧ _
    unfold f_X5_take_b2_s
    rw [if_pos (show (8 : Int32) ≤ nI 8 by decide)]
    simp only [e_nm]
    have n1 : ¬ o1 = o := by omega
    have r7 : (mI (mI (mI (mI σ o 3 (σ.1 o1 3)) o 4 ((mI σ o 3 (σ.1 o1 3)).1 o1 4)) o 5 ((mI (mI σ o 3 (σ.1 o1 3)) o 4 ((mI σ o 3 (σ.1 o1 3)).1 o1 4)).1 o1 5)) o 6 ((mI (mI (mI σ o 3 (σ.1 o1 3)) o 4 ((mI σ o 3 (σ.1 o1 3)).1 o1 4)) o 5 ((mI (mI σ o 3 (σ.1 o1 3)) o 4 ((mI σ o 3 (σ.1 o1 3)).1 o1 4)).1 o1 5)).1 o1 6)).1 o1 7 = σ.1 o1 7 := by simp [m_I, n1]
    rw [r7, e_ck (k_bo01 h7)]
    refine ⟨_, rfl, ?_, ?_, ?_, ?_, ?_⟩
    · intro j a b c
      have : j = 3 ∨ j = 4 ∨ j = 5 ∨ j = 6 ∨ j = 7 ∨ j = 9 ∨ j = 10 ∨ j = 11 := by omega
      rcases this with rfl | rfl | rfl | rfl | rfl | rfl | rfl | rfl <;> simp [m_I, m_J1, n1]
    · intro b hb
      refine ⟨fun q => by omega, fun _ => ?_⟩
      refine ⟨?_, ?_, ?_⟩ <;> simp [m_I, m_J1]
    · simp [m_I2, m_J, n1]
    · intro r hr
      have n2 : r ≠ o := by omega
      simp only [m_Ir _ _ _ _ n2, m_J1]
    · intro r hr
      simp only [m_I2, m_Jr _ _ _ _ hr]
  | succ k ih =>
    intro n i σ h1 h2 h7
    obtain ⟨n, rfl⟩ : ∃ z, n = z + 1 := ⟨n - 1, by omega⟩
    have hk : k_inb (nI i) 8 = true := e_in (by omega) (by decide)
    show ∃ σ', f_X5_take_b2_s o o1 (f_X5_take_b2 o o1 n) (nI i) σ = some σ' ∧ _
    unfold f_X5_take_b2_s
    rw [if_neg (show ¬ (8 : Int32) ≤ nI i from nI_ge (a := i) (b := 8) (by omega) (by decide))]
    simp only [e_ck hk, e_nm, nI_clamp (show i < 2 ^ 31 by omega), nI_1]
    have n1 : o1 ≠ o + 1 := by omega
    have n2 : o1 ≠ o + 2 := by omega
    have n3 : o1 ≠ o + 3 := by omega
    generalize hσ : (mI (mI (mI σ (o + 1) i (σ.1 (o1 + 1) i)) (o + 2) i ((mI σ (o + 1) i (σ.1 (o1 + 1) i)).1 (o1 + 2) i)) (o + 3) i ((mI (mI σ (o + 1) i (σ.1 (o1 + 1) i)) (o + 2) i ((mI σ (o + 1) i (σ.1 (o1 + 1) i)).1 (o1 + 2) i)).1 (o1 + 3) i)) = σ1
    have f0 : σ1.1 o1 = σ.1 o1 := by rw [← hσ, m_Ir _ _ _ _ n3, m_Ir _ _ _ _ n2, m_Ir _ _ _ _ n1]
    have f1 : ∀ r, (r < o ∨ r = o ∨ o + 3 < r) → σ1.1 r = σ.1 r := fun r hr => by rw [← hσ, m_Ir _ _ _ _ (by omega), m_Ir _ _ _ _ (by omega), m_Ir _ _ _ _ (by omega)]
    have f2 : σ1.2 = σ.2 := by rw [← hσ]; rfl
    have g1 : ∀ b, σ1.1 (o + 1) b = if b = i then σ.1 (o1 + 1) i else σ.1 (o + 1) b := fun b => by rw [← hσ, m_Ir _ _ _ _ (by omega), m_Ir _ _ _ _ (by omega), m_I]; simp
    have g2 : ∀ b, σ1.1 (o + 2) b = if b = i then σ.1 (o1 + 2) i else σ.1 (o + 2) b := fun b => by rw [← hσ, m_Ir _ _ _ _ (by omega), m_I, m_Ir _ _ _ _ (by omega), m_Ir _ _ _ _ (by omega)]; simp
    have g3 : ∀ b, σ1.1 (o + 3) b = if b = i then σ.1 (o1 + 3) i else σ.1 (o + 3) b := fun b => by rw [← hσ, m_I, m_Ir _ _ _ _ (show o1 + 3 ≠ o + 2 by omega), m_Ir _ _ _ _ (show o1 + 3 ≠ o + 1 by omega), m_Ir _ _ _ _ (show o + 3 ≠ o + 2 by omega), m_Ir _ _ _ _ (show o + 3 ≠ o + 1 by omega)]; simp
    obtain ⟨σ', e, p1, p2, p3, p4, p5⟩ := ih n (i + 1) σ1 (by omega) (by omega) (by rw [f0]; exact h7)
    have s1 : σ1.1 (o1 + 1) = σ.1 (o1 + 1) := f1 _ (by omega)
    have s2 : σ1.1 (o1 + 2) = σ.1 (o1 + 2) := f1 _ (by omega)
    have s3 : σ1.1 (o1 + 3) = σ.1 (o1 + 3) := f1 _ (by omega)
    refine ⟨σ', e, ?_, ?_, ?_, ?_, ?_⟩
    · intro j a b c; rw [p1 j a b c, f0]
    · intro b hb
      obtain ⟨q1, q2⟩ := p2 b hb
      constructor
      · intro hib
        by_cases c : b = i
        · have := q2 (by omega)
          rw [g1, g2, g3, if_pos c, if_pos c, if_pos c] at this
          rw [c] at this ⊢
          exact this
        · have := q1 (by omega)
          rw [s1, s2, s3] at this
          exact this
      · intro hbi
        have := q2 (by omega)
        rw [g1, g2, g3, if_neg (by omega), if_neg (by omega), if_neg (by omega)] at this
        exact this
    · rw [p3, f2]
    · intro r hr; rw [p4 r hr, f1 r (by omega)]
    · intro r hr; rw [p5 r hr, f2]
theorem s_X5_take (o o1 : Nat) (ho : o + 4 ≤ o1 ∨ o1 + 4 ≤ o) (σ : MSt) (h7 : σ.1 o1 7 = 0 ∨ σ.1 o1 7 = 1) : ∃ σ', f_X5_take o o1 σ = some σ' ∧ (∀ j, 2 < j → j < 12 → j ≠ 8 → σ'.1 o j = σ.1 o1 j) ∧ (∀ b, b < 8 → σ'.1 (o + 1) b = σ.1 (o1 + 1) b ∧ σ'.1 (o + 2) b = σ.1 (o1 + 2) b ∧ σ'.1 (o + 3) b = σ.1 (o1 + 3) b) ∧ σ'.2 o 8 = σ.2 o1 8 ∧ (∀ r, (r < o ∨ o + 3 < r) → σ'.1 r = σ.1 r) ∧ (∀ r, r ≠ o → σ'.2 r = σ.2 r) := by
  obtain ⟨σ', e, p1, p2, p3, p4, p5⟩ := s_X5_take_l o o1 ho 8 FU 0 σ (by omega) (by unfold FU; omega) h7
  exact ⟨σ', e, p1, fun b hb => (p2 b hb).1 (by omega), p3, p4, p5⟩
/-- frame of one anchor t of the reference -/
def FA (t : Nat) (μ μ' : MSt) : Prop := (∀ r, (r < 17 ∨ 28 < r) → μ'.1 r = μ.1 r) ∧ (∀ r, 16 < r → r < 26 → ∀ i, i ≠ t → μ'.1 r i = μ.1 r i) ∧ (∀ r, 25 < r → r < 29 → ∀ i, (i < 8 * t ∨ 8 * t + 7 < i) → μ'.1 r i = μ.1 r i)
theorem FA.rf {t : Nat} {μ : MSt} : FA t μ μ := ⟨fun _ _ => rfl, fun _ _ _ _ _ => rfl, fun _ _ _ _ _ => rfl⟩
theorem FA.trans {t : Nat} {μ μ1 μ2 : MSt} (h : FA t μ μ1) (h2 : FA t μ1 μ2) : FA t μ μ2 := ⟨fun r hr => (h2.1 r hr).trans (h.1 r hr), fun r x y i p => (h2.2.1 r x y i p).trans (h.2.1 r x y i p), fun r x y i p => (h2.2.2 r x y i p).trans (h.2.2 r x y i p)⟩
theorem s_X12_takes_l (t s : Nat) (ht : t < 24) (hs : s < 24) (hne : t ≠ s) : ∀ (k n i : Nat) (μ : MSt), i + k = 8 → k < n →
    ∃ μ', f_X12_takes_b110 n (nI t) (nI s) (nI i) μ = some μ' ∧ (∀ r, 25 < r → r < 29 → ∀ b, b < 8 → (i ≤ b → μ'.1 r (8 * t + b) = μ.1 r (8 * s + b)) ∧ (b < i → μ'.1 r (8 * t + b) = μ.1 r (8 * t + b))) ∧ (∀ r, (r < 26 ∨ 28 < r) → μ'.1 r = μ.1 r) ∧ (∀ r, 25 < r → r < 29 → ∀ i, (i < 8 * t ∨ 8 * t + 7 < i) → μ'.1 r i = μ.1 r i) := by
  intro k
  induction k with
  | zero =>
    intro n i μ h1 h2
    obtain ⟨n, rfl⟩ : ∃ z, n = z + 1 := ⟨n - 1, by omega⟩
    have hi : i = 8 := by omega
    subst hi
    show ∃ μ', f_X12_takes_b110_s (f_X12_takes_b110 n) (nI t) (nI s) (nI 8) μ = some μ' ∧ _
    unfold f_X12_takes_b110_s
    rw [if_pos (show (8 : Int32) ≤ nI 8 by decide)]
    exact ⟨μ, rfl, fun r x y b hb => ⟨fun q => by omega, fun _ => rfl⟩, fun _ _ => rfl, fun _ _ _ _ _ => rfl⟩
  | succ k ih =>
    intro n i μ h1 h2
    obtain ⟨n, rfl⟩ : ∃ z, n = z + 1 := ⟨n - 1, by omega⟩
    have e1 : (8 : Int32) * nI t + nI i = nI (8 * t + i) := by rw [show (8 : Int32) = nI 8 from rfl, pk_mul, nI_add]
    have e2 : (8 : Int32) * nI s + nI i = nI (8 * s + i) := by rw [show (8 : Int32) = nI 8 from rfl, pk_mul, nI_add]
    have hk1 : k_inb (nI (8 * t + i)) 192 = true := e_in (by omega) (by decide)
    have hk2 : k_inb (nI (8 * s + i)) 192 = true := e_in (by omega) (by decide)
    show ∃ μ', f_X12_takes_b110_s (f_X12_takes_b110 n) (nI t) (nI s) (nI i) μ = some μ' ∧ _
    unfold f_X12_takes_b110_s
    rw [if_neg (show ¬ (8 : Int32) ≤ nI i from nI_ge (a := i) (b := 8) (by omega) (by decide)), e1, e2]
    simp only [e_ck hk1, e_ck hk2, e_nm, nI_clamp (show 8 * t + i < 2 ^ 31 by omega), nI_clamp (show 8 * s + i < 2 ^ 31 by omega), nI_1]
    generalize hμ : mI (mI (mI μ 26 (8 * t + i) (μ.1 26 (8 * s + i))) 27 (8 * t + i) ((mI μ 26 (8 * t + i) (μ.1 26 (8 * s + i))).1 27 (8 * s + i))) 28 (8 * t + i) ((mI (mI μ 26 (8 * t + i) (μ.1 26 (8 * s + i))) 27 (8 * t + i) ((mI μ 26 (8 * t + i) (μ.1 26 (8 * s + i))).1 27 (8 * s + i))).1 28 (8 * s + i)) = μ1
    have f1 : ∀ r, (r < 26 ∨ 28 < r) → μ1.1 r = μ.1 r := fun r hr => by rw [← hμ, m_Ir _ _ _ _ (by omega), m_Ir _ _ _ _ (by omega), m_Ir _ _ _ _ (by omega)]
    have g : ∀ r, 25 < r → r < 29 → ∀ x, μ1.1 r x = if x = 8 * t + i then μ.1 r (8 * s + i) else μ.1 r x := by
      intro r h1 h2 x
      have : r = 26 ∨ r = 27 ∨ r = 28 := by omega
      rcases this with rfl | rfl | rfl <;> rw [← hμ] <;> simp [m_I]
    obtain ⟨μ', e, p1, p2, p3⟩ := ih n (i + 1) μ1 (by omega) (by omega)
    refine ⟨μ', e, ?_, ?_, ?_⟩
    · intro r x y b hb
      obtain ⟨q1, q2⟩ := p1 r x y b hb
      constructor
      · intro hib
        by_cases c : b = i
        · have := q2 (by omega)
          rw [g r x y, if_pos (by omega)] at this
          rw [this, c]
        · have := q1 (by omega)
          rw [g r x y, if_neg (by omega)] at this
          exact this
      · intro hbi
        have := q2 (by omega)
        rw [g r x y, if_neg (by omega)] at this
        exact this
    · intro r hr; rw [p2 r hr, f1 r hr]
    · intro r x y i' hi'; rw [p3 r x y i' hi', g r x y, if_neg (by omega)]
theorem s_X12_takes (t s : Nat) (ht : t < 24) (hs : s < 24) (hne : t ≠ s) (μ : MSt) : ∃ μ', f_X12_takes (nI t) (nI s) μ = some μ' ∧ (∀ r, 16 < r → r < 26 → μ'.1 r t = μ.1 r s) ∧ (∀ r, 25 < r → r < 29 → ∀ b, b < 8 → μ'.1 r (8 * t + b) = μ.1 r (8 * s + b)) ∧ FA t μ μ' := by
  have hk1 : k_inb (nI t) 24 = true := e_in ht (by decide)
  have hk2 : k_inb (nI s) 24 = true := e_in hs (by decide)
  unfold f_X12_takes
  simp only [e_ck hk1, e_ck hk2, e_nm, nI_clamp (show t < 2 ^ 31 by omega), nI_clamp (show s < 2 ^ 31 by omega)]
  generalize hμ : mI (mI (mI (mI (mI (mI (mI (mI (mI μ 17 t _) 18 t _) 19 t _) 20 t _) 21 t _) 22 t _) 23 t _) 24 t _) 25 t _ = μ1
  have f1 : ∀ r, (r < 17 ∨ 25 < r) → μ1.1 r = μ.1 r := by
    intro r hr
    rw [← hμ]
    repeat rw [m_Ir _ _ _ _ (by omega)]
  have g : ∀ r, 16 < r → r < 26 → ∀ x, μ1.1 r x = if x = t then μ.1 r s else μ.1 r x := by
    intro r h1 h2 x
    have : r = 17 ∨ r = 18 ∨ r = 19 ∨ r = 20 ∨ r = 21 ∨ r = 22 ∨ r = 23 ∨ r = 24 ∨ r = 25 := by omega
    rcases this with rfl | rfl | rfl | rfl | rfl | rfl | rfl | rfl | rfl <;> rw [← hμ] <;> simp [m_I]
  obtain ⟨μ', e, p1, p2, p3⟩ := s_X12_takes_l t s ht hs hne 8 FU 0 μ1 (by omega) (by unfold FU; omega)
  refine ⟨μ', e, ?_, ?_, ?_, ?_, ?_⟩
  · intro r x y; rw [p2 r (by omega), g r x y, if_pos rfl]
  · intro r x y b hb; rw [(p1 r x y b hb).1 (by omega), f1 r (by omega)]
  · intro r hr; rw [p2 r (by omega), f1 r (by omega)]
  · intro r x y i hi; rw [p2 r (by omega), g r x y, if_neg hi]
  · intro r x y i hi; rw [p3 r x y i hi, f1 r (by omega)]
/-- the copy is the anchor that was copied -/
theorem q_A_take {nb d o o1 a a1 : Nat} {σ σ' : MSt} {U U' : Nat → Nat → Int32} (h : q_A nb d o1 σ a1 U) (p1 : ∀ j, 2 < j → j < 12 → j ≠ 8 → σ'.1 o j = σ.1 o1 j) (p2 : ∀ b, b < 8 → σ'.1 (o + 1) b = σ.1 (o1 + 1) b ∧ σ'.1 (o + 2) b = σ.1 (o1 + 2) b ∧ σ'.1 (o + 3) b = σ.1 (o1 + 3) b) (p3 : σ'.2 o 8 = σ.2 o1 8) (u1 : ∀ r, 16 < r → r < 26 → U' r a = U r a1) (u2 : ∀ r, 25 < r → r < 29 → ∀ b, b < 8 → U' r (8 * a + b) = U r (8 * a1 + b)) : q_A nb d o σ' a U' := by
  unfold q_A at h ⊢
  rw [p3]
  exact h.cg p1 p2 u1 u2
theorem q_A.s7 {nb d o a : Nat} {σ : MSt} {U : Nat → Nat → Int32} (h : q_A nb d o σ a U) : σ.1 o 7 = 0 ∨ σ.1 o 7 = 1 := h.2.2.2.2.2.1.2
