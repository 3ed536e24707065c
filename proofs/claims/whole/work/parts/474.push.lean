section
variable {X : q_X} {o nb t k kn op : Nat} {P st : List Int32} {wo nm : Int32} {σ μ σ1 σ' μ' : MSt}
theorem q_EM.zB (h : q_EM o k P σ σ1) (B : q_zB X o nb σ μ) : q_zB X o nb σ1 μ := by
  obtain ⟨h1, h2, h3, h4, h5, h6, h7⟩ := B
  have fr := h.2.2.2.2.1
  refine ⟨h1.eq (fr 1 (by omega) (by omega) (by omega) (by omega)) (fr 3 (by omega) (by omega) (by omega) (by omega)) (fr 4 (by omega) (by omega) (by omega) (by omega)) (fr 5 (by omega) (by omega) (by omega) (by omega)), h2, by rw [h.2.2.2.2.2.1 1 (by omega)]; exact h3, h4, by rw [fr o (by omega) (by omega) (by omega) (by omega)]; exact h5, h6, fun i hi => ?_⟩
  rw [fr (o + 1) (by omega) (by omega) (by omega) (by omega)]
  exact h7 i hi
theorem q_EM.zA (h : q_EM o k P σ σ1) (A : q_zA X t σ μ) : q_zA X t σ1 μ := by
  obtain ⟨a1, a2, a3, a4⟩ := A
  exact ⟨by rw [h.2.2.2.2.2.1 4 (by omega)]; exact a1, a2, by rw [h.2.2.2.2.2.1 2 (by omega)]; exact a3, a4⟩
theorem q_EM.fe (h : q_EM o k P σ σ1) : q_FE o k σ σ1 := ⟨fun r a _ b c d => h.2.2.2.2.1 r a b c d, fun j a => h.2.2.2.2.2.1 j (by omega), h.2.2.2.1, h.2.2.1, h.2.2.2.2.2.2⟩
/-- what waits has been told -/
theorem q_EM.ex (h : q_EM o k P σ σ1) (h7 : σ1.1 7 7 = nI st.length) (E : q_EX X o nb t P st k kn op wo nm σ μ) : q_EX X o nb t [] st (k + P.length) kn op wo nm σ1 μ := by
  obtain ⟨B, A, ⟨w1, w2⟩, ⟨k1, k2⟩, ⟨n1, n2⟩, ⟨o1, o2⟩, wE, nmE, KO, l1, l2, l3, l4⟩ := id E
  have ho := B.2.1
  have f7 := h.2.2.2.2.2.1
  have f8 : σ1.1 8 = σ.1 8 := h.2.2.2.2.1 8 (by omega) (by omega) (by omega) (by omega)
  refine ⟨h.zB B, h.zA A, ⟨h7, by rw [f8]; exact w2.app⟩, ⟨h.1, by simpa using k2⟩, ⟨by rw [f7 8 (by omega)]; exact n1, n2⟩, ⟨by rw [f7 9 (by omega)]; exact o1, o2⟩, by rw [f7 10 (by omega)]; exact wE, by rw [f7 11 (by omega)]; exact nmE, ⟨fun j hj => ?_, fun j hj => absurd hj (by simp)⟩, l1, l2, l3, by simp at l4 ⊢; omega⟩
  rcases Nat.lt_or_ge j k with c | c
  · rw [h.2.2.1 (o + 8) (Or.inl rfl) j c, h.2.2.1 (o + 9) (Or.inr rfl) j c]
    exact KO.1 j c
  · obtain ⟨e1, e2⟩ := h.2.1 (j - k) (by omega)
    have q := KO.2 (j - k) (by omega)
    rw [show k + (j - k) = j by omega] at e1 e2 q
    rw [e1, e2]
    exact q
theorem p_tellE (E : q_EX X o nb t P st k kn op wo nm σ μ) (y : Nat) (hy : y ≤ 6) (hP : ∀ x, x ∈ P → ¬ x = 41 ∧ y ≤ q_rk x) (hst : st = [] ∨ ∃ x s, st = x :: s ∧ (x = 41 ∨ q_rk x < y)) : ∃ σ1, f_X7_tellDownTo (nI y) σ = some σ1 ∧ σ1.1 7 7 = nI st.length ∧ q_EM o k P σ σ1 := by
  obtain ⟨B, A, ⟨w1, w2⟩, ⟨k1, k2⟩, ⟨n1, n2⟩, ⟨o1, o2⟩, wE, nmE, KO, l1, l2, l3, l4⟩ := id E
  have l5 : k + (P.length + st.length) = kn + op := by simpa using l4
  obtain ⟨σ1, y1, y2, y3⟩ := s_tell o y B.2.1 hy st hst P FU k σ (by unfold FU; omega) hP (by simp; omega) (by omega) B.2.2.1 w1 w2 k1
  exact ⟨σ1, y1, y2, y3⟩
/-- the class meets a sign between values -/
theorem p_oprE (E : q_EX X o nb t P st k kn op wo nm σ μ) (s : Int32) (hr : q_rk s = 1 ∨ q_rk s = 2 ∨ q_rk s = 5 ∨ q_rk s = 6 ∨ q_rk s = 4) (hP : ∀ x, x ∈ P → ¬ x = 41 ∧ (if q_rk s = 4 then 5 else q_rk s) ≤ q_rk x) (hst : st = [] ∨ ∃ x s', st = x :: s' ∧ (x = 41 ∨ q_rk x < q_rk s)) : ∃ σ1, f_X7_readOperator s σ = f_X7_readOperator_b86 s σ1 ∧ σ1.1 7 7 = nI st.length ∧ q_EM o k P σ σ1 := by
  by_cases c4 : q_rk s = 4
  · have hst5 : st = [] ∨ ∃ x s', st = x :: s' ∧ (x = 41 ∨ q_rk x < 5) := by
      rcases hst with h | ⟨x, s', h, h1⟩
      · exact Or.inl h
      · exact Or.inr ⟨x, s', h, h1.imp id (fun q => by omega)⟩
    obtain ⟨σ1, y1, y2, y3⟩ := p_tellE E 5 (by omega) (fun x hx => by have := hP x hx; rw [if_pos c4] at this; exact this) hst5
    refine ⟨σ1, ?_, y2, y3⟩
    have n24 : ¬ s = 24 := fun q => by
      have : q_rk 24 = 3 := by decide
      rw [q, this] at c4
      omega
    have r49 : q_rk 49 = 4 := by decide
    unfold f_X7_readOperator f_X7_readOperator_b35 f_X7_readOperator_b48
    rw [s_rankOf, e_bdS, c4, if_neg (by decide), if_neg n24, s_rankOf, e_bdS, r49, if_pos rfl, if_neg (by decide), show nI 4 + 1 = nI 5 by decide, y1, e_bvS, if_neg (by decide), y2]
    rcases hst with rfl | ⟨x, s', rfl, hx⟩
    · rw [if_pos (by decide)]
    · obtain ⟨B, A, ⟨w1, w2⟩, -, -, -, -, -, -, l1, l2, l3, l4⟩ := id E
      have f8 : σ1.1 8 = σ.1 8 := y3.2.2.2.2.1 8 (by omega) (by have := B.2.1; omega) (by have := B.2.1; omega) (by have := B.2.1; omega)
      have l5 : k + (P.length + (s'.length + 1)) = kn + op := by simpa using l4
      have e7 : nI (x :: s').length = nI (s'.length + 1) := by simp
      have em : nI (s'.length + 1) - 1 = nI s'.length := q_nIm _ (by omega)
      have es : σ1.1 8 s'.length = x := by rw [f8]; exact (w2.app).1
      have rx : ¬ q_rk x = 4 := by
        rcases hx with rfl | h
        · decide
        · omega
      rw [e7, if_neg (show ¬ nI (s'.length + 1) ≤ 0 from nI_ge (a := 0) (b := s'.length + 1) (by omega) (by omega)), em, e_ck (e_in (by omega) (by decide)), nI_clamp (by omega), es, s_rankOf, e_bdS, if_neg (fun q => rx ((q_nIe (by have := q_rk_b x; omega) (by omega)).mp q))]
  · obtain ⟨σ1, y1, y2, y3⟩ := p_tellE E (q_rk s) (q_rk_b s) (fun x hx => by have := hP x hx; rw [if_neg c4] at this; exact this) hst
    refine ⟨σ1, ?_, y2, y3⟩
    rw [p_oprC s (q_rk s) rfl (by omega), y1, e_bvS]
/-- one more waits -/
theorem q_psh (E : q_EX X o nb t [] st k kn op wo nm σ μ) (x : Int32) (kn' op' : Nat) (nm' : Int32) (f7 : ∀ j, j < 2 ∨ j = 4 ∨ 11 < j → σ'.1 7 j = σ.1 7 j) (f2 : σ'.1 7 2 = nI (t + 1)) (f77 : σ'.1 7 7 = nI (st.length + 1)) (f78 : σ'.1 7 8 = nI kn') (f79 : σ'.1 7 9 = nI op') (f10 : σ'.1 7 10 = 1) (f11 : σ'.1 7 11 = nm') (f8 : ∀ j, j < st.length → σ'.1 8 j = σ.1 8 j) (f8x : σ'.1 8 st.length = x) (fr : ∀ r, r ≠ 7 → r ≠ 8 → σ'.1 r = σ.1 r) (gr : ∀ r, r ≠ 0 → μ'.1 r = μ.1 r) (g23 : μ'.1 0 23 = 0) (gt : q_RT X (t + 1) μ') (g28 : μ'.1 0 28 = nI kn') (g27 : μ'.1 0 27 = nI op') (b1 : kn' ≤ 64) (b2 : op' ≤ 8) (b3 : op' ≤ st.length + 1) (b4 : kn' + op' = kn + op + 1) : q_EX X o nb (t + 1) [] (x :: st) k kn' op' 1 nm' σ' μ' := by
  obtain ⟨B, A, ⟨w1, w2⟩, ⟨k1, k2⟩, ⟨n1, n2⟩, ⟨o1, o2⟩, wE, nmE, KO, l1, l2, l3, l4⟩ := id E
  have ho := B.2.1
  have l5 : k + st.length = kn + op := by simpa using l4
  refine ⟨?_, ⟨by rw [f7 4 (by omega)]; exact A.1, g23, f2, gt⟩, ⟨f77, f8x, q_stk.eq st _ _ f8 w2⟩, ⟨by rw [fr (o + 7) (by omega) (by omega)]; exact k1, by rw [gr 2 (by omega)]; exact k2⟩, ⟨f78, g28⟩, ⟨f79, g27⟩, f10, f11, ⟨fun j hj => ?_, fun j hj => absurd hj (by simp)⟩, b1, b2, by simpa using b3, by simp; omega⟩
  · obtain ⟨h1, h2, h3, h4, h5, h6, h7⟩ := B
    refine ⟨h1.eq (fr 1 (by omega) (by omega)) (fr 3 (by omega) (by omega)) (fr 4 (by omega) (by omega)) (fr 5 (by omega) (by omega)), h2, by rw [f7 1 (by omega)]; exact h3, h4, by rw [fr o (by omega) (by omega)]; exact h5, by rw [gr 2 (by omega)]; exact h6, fun i hi => ?_⟩
    rw [fr (o + 1) (by omega) (by omega), gr 3 (by omega)]
    exact h7 i hi
  · rw [fr (o + 8) (by omega) (by omega), fr (o + 9) (by omega) (by omega), gr 13 (by omega), gr 14 (by omega)]
    exact KO.1 j hj
theorem q_DD.m8 (h : q_CB X o σ) (j : Nat) (v : Int32) : q_DD X o σ (mI σ 8 j v) := by
  obtain ⟨h1, h2, h3, h4, h5⟩ := h
  exact ⟨⟨h1.eq (m_Ir _ _ _ _ (by omega)) (m_Ir _ _ _ _ (by omega)) (m_Ir _ _ _ _ (by omega)) (m_Ir _ _ _ _ (by omega)), h2, by rw [m_Ir _ _ _ _ (by omega)]; exact h3, by rw [m_Ir _ _ _ _ (by omega)]; exact h4, by rw [m_Ir _ _ _ _ (by omega)]; exact h5⟩, by rw [m_Ir _ _ _ _ (by omega)], by rw [m_Ir _ _ _ _ (by omega)], q_GC.m _ _ _ _ _ (by omega)⟩
theorem d_wait (h : q_CB X o σ) (w : Nat) (h7 : σ.1 7 7 = nI w) (hw : w ≤ 72) (x : Int32) : ∃ σ' v, f_X7_letWait x σ = some σ' ∧ q_DD X o σ σ' ∧ σ'.1 7 7 = nI v ∧ v ≤ 72 := by
  by_cases c : w < 72
  · rw [s_wait w c h7 x]
    have s1 := q_DD.m8 h w x
    exact ⟨_, w + 1, rfl, s1.trans (q_DD.m7 s1.1 7 _ (by omega)), by rw [m_I, if_pos ⟨rfl, rfl⟩], by omega⟩
  · have e : w = 72 := by omega
    subst e
    unfold f_X7_letWait f_X7_letWait_b32
    rw [h7, if_pos (by decide)]
    exact ⟨σ, 72, rfl, q_DD.rf h, h7, by omega⟩
theorem q_RT.m (h : q_RT X t μ) (j : Nat) (v : Int32) (hj : 24 < j) : q_RT X t (mI μ 0 j v) := by
  have g : ∀ i, i < 25 → (mI μ 0 j v).1 0 i = μ.1 0 i := fun i hi => by rw [m_I, if_neg (by omega)]
  unfold q_RT at h ⊢
  rw [m_Ir _ _ _ _ (by omega), g 24 (by omega), g 18 (by omega), g 20 (by omega), g 19 (by omega), g 21 (by omega), g 22 (by omega)]
  exact h
end
