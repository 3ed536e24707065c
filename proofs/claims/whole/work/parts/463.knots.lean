/-! the knots of a law: what waits, what is told -/
def q_rk (s : Int32) : Nat := if s = 22 then 1 else if s = 23 then 2 else if s = 24 then 3 else if s = 43 ∨ s = 44 then 5 else if s = 45 ∨ s = 46 then 6 else if s = 47 ∨ s = 48 ∨ s = 49 ∨ s = 50 ∨ s = 51 ∨ s = 52 then 4 else 0
theorem s_rankOf (s : Int32) (σ : MSt) : f_X7_rankOf s σ = some (nI (q_rk s), σ) := by
  unfold f_X7_rankOf f_X7_rankOf_b146 f_X7_rankOf_b148 f_X7_rankOf_b150 f_X7_rankOf_b153
  by_cases h22 : s = 22
  · subst h22; rfl
  by_cases h23 : s = 23
  · subst h23; rfl
  by_cases h24 : s = 24
  · subst h24; rfl
  by_cases h43 : s = 43
  · subst h43; rfl
  by_cases h44 : s = 44
  · subst h44; rfl
  by_cases h45 : s = 45
  · subst h45; rfl
  by_cases h46 : s = 46
  · subst h46; rfl
  by_cases h47 : s = 47
  · subst h47; rfl
  by_cases h48 : s = 48
  · subst h48; rfl
  by_cases h49 : s = 49
  · subst h49; rfl
  by_cases h50 : s = 50
  · subst h50; rfl
  by_cases h51 : s = 51
  · subst h51; rfl
  by_cases h52 : s = 52
  · subst h52; rfl
  have e : q_rk s = 0 := by
    unfold q_rk
    simp only [h22, h23, h24, h43, h44, h45, h46, h47, h48, h49, h50, h51, h52, or_self, if_false]
  rw [e, if_neg h22, if_neg h23, if_neg h24, if_neg h43, if_neg h44, if_neg h45, if_neg h46, if_neg h47, if_neg h48, if_neg h49, if_neg h50, if_neg h51, if_neg h52]
  simp only [ite_self]
  rfl
theorem q_rk_b (s : Int32) : q_rk s ≤ 6 := by
  unfold q_rk
  repeat' split
  all_goals omega
theorem q_nIm (n : Nat) (h : n + 1 < 2 ^ 31) : nI (n + 1) - 1 = nI n := by
  rw [← nI_1]
  apply Int32.toInt_inj.mp
  apply congrArg
  exact Int32.add_sub_cancel _ _
/-- what waits, the topmost first -/
def q_stk : List Int32 → (Nat → Int32) → Prop
  | [], _ => True
  | x :: s, f => f s.length = x ∧ q_stk s f
theorem q_stk.eq : ∀ (s : List Int32) (f g : Nat → Int32), (∀ i, i < s.length → g i = f i) → q_stk s f → q_stk s g := by
  intro s
  induction s with
  | nil => intro f g _ _; trivial
  | cons x s ih =>
    intro f g h q
    exact ⟨by rw [h s.length (by simp)]; exact q.1, ih f g (fun i hi => h i (by simp; omega)) q.2⟩
theorem q_stk.app : ∀ (P s : List Int32) (f : Nat → Int32), q_stk (P ++ s) f → q_stk s f := by
  intro P
  induction P with
  | nil => intro s f h; exact h
  | cons x P ih => intro s f h; exact ih s f h.2
/-- what the class tells: rows o+8, o+9 from k on -/
def q_EM (o k : Nat) (P : List Int32) (σ σ' : MSt) : Prop := σ'.1 (o + 7) 5 = nI (k + P.length) ∧ (∀ i, i < P.length → σ'.1 (o + 8) (k + i) = P.getD i 0 ∧ σ'.1 (o + 9) (k + i) = 0) ∧ (∀ r, r = o + 8 ∨ r = o + 9 → ∀ j, j < k → σ'.1 r j = σ.1 r j) ∧ (∀ j, j ≠ 5 → σ'.1 (o + 7) j = σ.1 (o + 7) j) ∧ (∀ r, r ≠ 7 → r ≠ o + 7 → r ≠ o + 8 → r ≠ o + 9 → σ'.1 r = σ.1 r) ∧ (∀ j, j ≠ 7 → σ'.1 7 j = σ.1 7 j) ∧ σ'.2 = σ.2
theorem s_X4_add (o k : Nat) (hk : k < 64) (x v : Int32) (σ : MSt) (h5 : σ.1 o 5 = nI k) : f_X4_add o x v σ = some (mI (mI (mI σ (o + 1) k x) (o + 2) k v) o 5 (nI (k + 1))) := by
  have ik : k_inb (nI k) 64 = true := e_in hk (by decide)
  unfold f_X4_add f_X4_add_b39
  have e1 : (mI σ (o + 1) k x).1 o 5 = nI k := by rw [m_Ir _ _ _ _ (by omega)]; exact h5
  have e2 : (mI (mI σ (o + 1) k x) (o + 2) k v).1 o 5 = nI k := by rw [m_Ir _ _ _ _ (by omega)]; exact e1
  rw [h5, if_neg (show ¬ (64 : Int32) ≤ nI k from nI_ge (a := k) (b := 64) hk (by decide)), e_ck ik, nI_clamp (by omega), e_nm, e1, e_ck ik, nI_clamp (by omega), e_nm, e2, nI_1, e_nm]
/-- signs that wait are told down to a rank -/
theorem s_tell (o y : Nat) (ho : o = 10 ∨ o = 30) (hy : y ≤ 6) (st : List Int32) (hst : st = [] ∨ ∃ x s, st = x :: s ∧ (x = 41 ∨ q_rk x < y)) : ∀ (P : List Int32) (n k : Nat) (σ : MSt), P.length < n → (∀ x, x ∈ P → ¬ x = 41 ∧ y ≤ q_rk x) → (P ++ st).length ≤ 72 → k + P.length ≤ 64 → σ.1 7 1 = nI o → σ.1 7 7 = nI (P ++ st).length → q_stk (P ++ st) (σ.1 8) → σ.1 (o + 7) 5 = nI k → ∃ σ', f_X7_tellDownTo_b0 n (nI y) σ = some σ' ∧ σ'.1 7 7 = nI st.length ∧ q_EM o k P σ σ' := by
  intro P
  induction P with
  | nil =>
    intro n k σ hn hP hl hk h1 h7 hs h5
    obtain ⟨n, rfl⟩ : ∃ z, n = z + 1 := ⟨n - 1, by omega⟩
    refine ⟨σ, ?_, h7, by simpa using h5, fun i hi => absurd hi (by simp), fun _ _ _ _ => rfl, fun _ _ => rfl, fun _ _ _ _ _ => rfl, fun _ _ => rfl, rfl⟩
    show f_X7_tellDownTo_b0_s (f_X7_tellDownTo_b0 n) (nI y) σ = _
    unfold f_X7_tellDownTo_b0_s f_X7_tellDownTo_b74
    rcases hst with rfl | ⟨x, s, rfl, hx⟩
    · have e0 : σ.1 7 7 = 0 := h7
      rw [e0, if_pos (by decide)]
    · have hl2 : s.length + 1 ≤ 72 := by simpa using hl
      have e7 : σ.1 7 7 = nI (s.length + 1) := by rw [h7]; simp
      have em : nI (s.length + 1) - 1 = nI s.length := q_nIm _ (by omega)
      have es : σ.1 8 s.length = x := hs.1
      rw [e7, if_neg (show ¬ nI (s.length + 1) ≤ 0 from nI_ge (a := 0) (b := s.length + 1) (by omega) (by omega)), em, e_ck (e_in (by omega) (by decide)), nI_clamp (by omega), es]
      by_cases c : x = 41
      · rw [if_pos c]
      · have hr : q_rk x < y := by
          rcases hx with q | q
          · exact absurd q c
          · exact q
        rw [if_neg c, e_ck (e_in (by omega) (by decide)), s_rankOf, e_bdS, if_pos (nI_lt hr (by omega))]
  | cons x P ih =>
    intro n k σ hn hP hl hk h1 h7 hs h5
    obtain ⟨n, rfl⟩ : ∃ z, n = z + 1 := ⟨n - 1, by omega⟩
    obtain ⟨hx1, hx2⟩ := hP x (by simp)
    have hl2 : (P ++ st).length + 1 ≤ 72 := by simpa using hl
    have hk2 : k + (P.length + 1) ≤ 64 := by simpa using hk
    have hn2 : P.length + 1 < n + 1 := by simpa using hn
    have e7 : σ.1 7 7 = nI ((P ++ st).length + 1) := by rw [h7]; simp
    have em : nI ((P ++ st).length + 1) - 1 = nI (P ++ st).length := q_nIm _ (by omega)
    have es : σ.1 8 (P ++ st).length = x := hs.1
    have kc : k_ch (nI o) = true ∧ (nI o).toNatClampNeg = o := by rcases ho with rfl | rfl <;> decide
    have f71 : (mI σ 7 7 (nI (P ++ st).length)).1 7 1 = nI o := by rw [m_I, if_neg (by omega)]; exact h1
    have f77 : (mI σ 7 7 (nI (P ++ st).length)).1 7 7 = nI (P ++ st).length := by simp [m_I]
    have f8 : (mI σ 7 7 (nI (P ++ st).length)).1 8 = σ.1 8 := m_Ir _ _ _ _ (by omega)
    have f5 : (mI σ 7 7 (nI (P ++ st).length)).1 (o + 7) 5 = nI k := by rw [m_Ir _ _ _ _ (by omega)]; exact h5
    have stp : f_X7_tellDownTo_b0 (n + 1) (nI y) σ = f_X7_tellDownTo_b0 n (nI y) (mI (mI (mI (mI σ 7 7 (nI (P ++ st).length)) (o + 7 + 1) k x) (o + 7 + 2) k 0) (o + 7) 5 (nI (k + 1))) := by
      show f_X7_tellDownTo_b0_s (f_X7_tellDownTo_b0 n) (nI y) σ = _
      unfold f_X7_tellDownTo_b0_s f_X7_tellDownTo_b74
      have i1 : k_inb (nI (P ++ st).length) 72 = true := e_in (by omega) (by decide)
      rw [e7, if_neg (show ¬ nI ((P ++ st).length + 1) ≤ 0 from nI_ge (a := 0) (b := (P ++ st).length + 1) (by omega) (by omega)), em, e_ck i1, nI_clamp (by omega), es, if_neg hx1, e_ck i1, s_rankOf, e_bdS, if_neg (nI_nlt hx2 (by have := q_rk_b x; omega)), e7, em, e_nm, f71, e_ck kc.1, e_nm, kc.2, f77, e_ck i1, nI_clamp (by omega), f8, es, s_X4_add (o + 7) k (by omega) x 0 _ f5, e_bvS]
    have g71 : (mI (mI (mI (mI σ 7 7 (nI (P ++ st).length)) (o + 7 + 1) k x) (o + 7 + 2) k 0) (o + 7) 5 (nI (k + 1))).1 7 = (mI σ 7 7 (nI (P ++ st).length)).1 7 := by rw [m_Ir _ _ _ _ (by omega), m_Ir _ _ _ _ (by omega), m_Ir _ _ _ _ (by omega)]
    have g8 : (mI (mI (mI (mI σ 7 7 (nI (P ++ st).length)) (o + 7 + 1) k x) (o + 7 + 2) k 0) (o + 7) 5 (nI (k + 1))).1 8 = σ.1 8 := by rw [m_Ir _ _ _ _ (by omega), m_Ir _ _ _ _ (by omega), m_Ir _ _ _ _ (by omega), m_Ir _ _ _ _ (by omega)]
    have g5 : (mI (mI (mI (mI σ 7 7 (nI (P ++ st).length)) (o + 7 + 1) k x) (o + 7 + 2) k 0) (o + 7) 5 (nI (k + 1))).1 (o + 7) 5 = nI (k + 1) := by rw [m_I, if_pos ⟨rfl, rfl⟩]
    have g5n : ∀ j, j ≠ 5 → (mI (mI (mI (mI σ 7 7 (nI (P ++ st).length)) (o + 7 + 1) k x) (o + 7 + 2) k 0) (o + 7) 5 (nI (k + 1))).1 (o + 7) j = σ.1 (o + 7) j := fun j hj => by rw [m_I, if_neg (by omega), m_Ir _ _ _ _ (by omega), m_Ir _ _ _ _ (by omega), m_Ir _ _ _ _ (by omega)]
    have ga : ∀ j, (mI (mI (mI (mI σ 7 7 (nI (P ++ st).length)) (o + 7 + 1) k x) (o + 7 + 2) k 0) (o + 7) 5 (nI (k + 1))).1 (o + 8) j = if j = k then x else σ.1 (o + 8) j := fun j => by
      rw [m_Ir _ _ _ _ (by omega), m_Ir _ _ _ _ (by omega), m_I, m_Ir _ _ _ _ (by omega)]
      simp
    have gb : ∀ j, (mI (mI (mI (mI σ 7 7 (nI (P ++ st).length)) (o + 7 + 1) k x) (o + 7 + 2) k 0) (o + 7) 5 (nI (k + 1))).1 (o + 9) j = if j = k then 0 else σ.1 (o + 9) j := fun j => by
      rw [m_Ir _ _ _ _ (by omega), m_I, m_Ir _ _ _ _ (by omega), m_Ir _ _ _ _ (by omega)]
      simp
    have gr : ∀ r, r ≠ 7 → r ≠ o + 7 → r ≠ o + 8 → r ≠ o + 9 → (mI (mI (mI (mI σ 7 7 (nI (P ++ st).length)) (o + 7 + 1) k x) (o + 7 + 2) k 0) (o + 7) 5 (nI (k + 1))).1 r = σ.1 r := fun r a b c d => by rw [m_Ir _ _ _ _ b, m_Ir _ _ _ _ d, m_Ir _ _ _ _ c, m_Ir _ _ _ _ a]
    have gl : (mI (mI (mI (mI σ 7 7 (nI (P ++ st).length)) (o + 7 + 1) k x) (o + 7 + 2) k 0) (o + 7) 5 (nI (k + 1))).2 = σ.2 := rfl
    have f7n : ∀ j, j ≠ 7 → (mI σ 7 7 (nI (P ++ st).length)).1 7 j = σ.1 7 j := fun j hj => by rw [m_I, if_neg (by omega)]
    rw [stp]
    generalize mI (mI (mI (mI σ 7 7 (nI (P ++ st).length)) (o + 7 + 1) k x) (o + 7 + 2) k 0) (o + 7) 5 (nI (k + 1)) = σ1 at *
    obtain ⟨σ', y1, y2, z1, z2, z3, z4, z5, z6, z7⟩ := ih n (k + 1) σ1 (by omega) (fun w hw => hP w (by simp [hw])) (by omega) (by omega) (by rw [g71]; exact f71) (by rw [g71]; exact f77) (by rw [g8]; exact hs.2) g5
    refine ⟨σ', y1, y2, by rw [z1]; congr 1; simp; omega, fun i hi => ?_, fun r hr j hj => ?_, fun j hj => by rw [z4 j hj, g5n j hj], fun r a b c d => by rw [z5 r a b c d, gr r a b c d], fun j hj => by rw [z6 j hj, g71, f7n j hj], by rw [z7, gl]⟩
    · cases i with
      | zero =>
        refine ⟨?_, ?_⟩
        · rw [z3 (o + 8) (Or.inl rfl) (k + 0) (by omega), ga, if_pos (by omega)]; rfl
        · rw [z3 (o + 9) (Or.inr rfl) (k + 0) (by omega), gb, if_pos (by omega)]
      | succ i =>
        have := z2 i (by simp at hi; omega)
        rw [show k + (i + 1) = k + 1 + i by omega]
        simpa using this
    · rw [z3 r hr j (by omega)]
      rcases hr with rfl | rfl
      · rw [ga, if_neg (by omega)]
      · rw [gb, if_neg (by omega)]
