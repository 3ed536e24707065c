section
variable {X : q_X} {o nb t k kn op : Nat} {st : List Int32} {nm : Int32} {σ μ : MSt}
/-- a value, both sides -/
theorem p_opd (M : q_CM X) (E : q_EX X o nb t [] st k kn op 1 nm σ μ) (ht : t < xK X) (x v s' v' : Int32) (hk : q_KN x v s' v') (hg : q_kd x = 0) (n i : Nat) : ∃ μ', (k_bv (f_X12_knot μ) fun m1 => k_bv (f_X12_puts s' v' m1) fun m2 => k_bv (f_X12_goOn m2) fun m3 => some m3) = some μ' ∧ q_FN k μ μ' ∧ ((∃ σ', (k_bv (k_bv (f_X7_countKnot σ) fun σ1 => k_bv (f_X4_add (o + 7) x v σ1) fun σ4 => k_nm (mI σ4 7 10 (0 : Int32)) fun σ5 => some σ5) fun σ3 => f_X7_readExpression_b104 (f_X7_readExpression_b22 (n + 1)) (nI i) σ3) = f_X7_readExpression_b22 (n + 1) (nI (i + 1)) σ' ∧ q_EX X o nb (t + 1) [] st (k + 1) (kn + 1) op 0 nm σ' μ' ∧ q_FE o k σ σ' ∧ q_gk μ' k = 0) ∨ (∃ σ', (k_bv (k_bv (f_X7_countKnot σ) fun σ1 => k_bv (f_X4_add (o + 7) x v σ1) fun σ4 => k_nm (mI σ4 7 10 (0 : Int32)) fun σ5 => some σ5) fun σ3 => f_X7_readExpression_b104 (f_X7_readExpression_b22 (n + 1)) (nI i) σ3) = some σ' ∧ q_CB X o σ' ∧ q_zD X σ' μ' ∧ q_GC o σ σ')) := by
  obtain ⟨B, A, ⟨w1, w2⟩, ⟨k1, k2⟩, ⟨n1, n2⟩, ⟨o1, o2⟩, wo, nmE, KO, l1, l2, l3, l4⟩ := id E
  have ho := B.2.1
  have ls : st.length ≤ 72 := by simp at l4; omega
  have hk64 : kn < 64 → k < 64 := fun q => by simp at l4; omega
  rcases Nat.lt_or_ge kn 64 with c | c
  · have hkk := hk64 c
    have a23 : (mI μ 0 28 (nI (kn + 1))).1 0 23 = 0 := by rw [m_I, if_neg (by omega)]; exact A.2.1
    have e17 : (mI μ 0 28 (nI (kn + 1))).1 2 17 = nI k := by rw [m_Ir _ _ _ _ (by omega)]; simpa using k2
    rw [s_knot kn c A.2.1 n2, e_bvS, s_puts k hkk a23 e17, e_bvS]
    -- the reference's state
    have r0 : ∀ j, j ≠ 28 → (mI (mI (mI (mI μ 0 28 (nI (kn + 1))) 13 (64 + k) s') 14 (64 + k) v') 2 17 (nI (k + 1))).1 0 j = μ.1 0 j := fun j hj => by rw [m_Ir _ _ _ _ (by omega), m_Ir _ _ _ _ (by omega), m_Ir _ _ _ _ (by omega), m_I, if_neg (by omega)]
    have r28 : (mI (mI (mI (mI μ 0 28 (nI (kn + 1))) 13 (64 + k) s') 14 (64 + k) v') 2 17 (nI (k + 1))).1 0 28 = nI (kn + 1) := by rw [m_Ir _ _ _ _ (by omega), m_Ir _ _ _ _ (by omega), m_Ir _ _ _ _ (by omega), m_I, if_pos ⟨rfl, rfl⟩]
    have r17 : (mI (mI (mI (mI μ 0 28 (nI (kn + 1))) 13 (64 + k) s') 14 (64 + k) v') 2 17 (nI (k + 1))).1 2 17 = nI (k + 1) := by rw [m_I, if_pos ⟨rfl, rfl⟩]
    have r2 : ∀ j, j ≠ 17 → (mI (mI (mI (mI μ 0 28 (nI (kn + 1))) 13 (64 + k) s') 14 (64 + k) v') 2 17 (nI (k + 1))).1 2 j = μ.1 2 j := fun j hj => by rw [m_I, if_neg (by omega), m_Ir _ _ _ _ (by omega), m_Ir _ _ _ _ (by omega), m_Ir _ _ _ _ (by omega)]
    have r13 : ∀ j, (mI (mI (mI (mI μ 0 28 (nI (kn + 1))) 13 (64 + k) s') 14 (64 + k) v') 2 17 (nI (k + 1))).1 13 j = if j = 64 + k then s' else μ.1 13 j := fun j => by
      rw [m_Ir _ _ _ _ (by omega), m_Ir _ _ _ _ (by omega), m_I, m_Ir _ _ _ _ (by omega)]; simp
    have r14 : ∀ j, (mI (mI (mI (mI μ 0 28 (nI (kn + 1))) 13 (64 + k) s') 14 (64 + k) v') 2 17 (nI (k + 1))).1 14 j = if j = 64 + k then v' else μ.1 14 j := fun j => by
      rw [m_Ir _ _ _ _ (by omega), m_I, m_Ir _ _ _ _ (by omega), m_Ir _ _ _ _ (by omega)]; simp
    have rr : ∀ r, r ≠ 0 → r ≠ 2 → r ≠ 13 → r ≠ 14 → (mI (mI (mI (mI μ 0 28 (nI (kn + 1))) 13 (64 + k) s') 14 (64 + k) v') 2 17 (nI (k + 1))).1 r = μ.1 r := fun r a b c d => by rw [m_Ir _ _ _ _ b, m_Ir _ _ _ _ d, m_Ir _ _ _ _ c, m_Ir _ _ _ _ a]
    generalize mI (mI (mI (mI μ 0 28 (nI (kn + 1))) 13 (64 + k) s') 14 (64 + k) v') 2 17 (nI (k + 1)) = μ1 at *
    have RT1 : q_RT X t μ1 := by
      have a4 := A.2.2.2
      unfold q_RT at a4 ⊢
      rw [rr 1 (by omega) (by omega) (by omega) (by omega), r0 24 (by omega), r0 18 (by omega), r0 20 (by omega), r0 19 (by omega), r0 21 (by omega), r0 22 (by omega)]
      exact a4
    obtain ⟨μ2, y1, y2, y3⟩ := q_tok1 M RT1 ht
    unfold f_X12_goOn f_X12_goOn_b11
    rw [r0 23 (by omega), if_pos A.2.1, y1, e_bvS, e_bvS]
    -- the class's state
    have g5 : (mI σ 7 8 (nI (kn + 1))).1 (o + 7) 5 = nI k := by rw [m_Ir _ _ _ _ (by omega)]; exact k1
    unfold f_X7_readExpression_b104 f_X7_readExpression_b121
    rw [s_count kn c n1, e_bvS, s_X4_add (o + 7) k hkk x v _ g5, e_bvS, e_nm, e_bvS]
    have f7 : ∀ j, j ≠ 8 → j ≠ 10 → (mI (mI (mI (mI (mI σ 7 8 (nI (kn + 1))) (o + 7 + 1) k x) (o + 7 + 2) k v) (o + 7) 5 (nI (k + 1))) 7 10 0).1 7 j = σ.1 7 j := fun j a b => by rw [m_I, if_neg (by omega), m_Ir _ _ _ _ (by omega), m_Ir _ _ _ _ (by omega), m_Ir _ _ _ _ (by omega), m_I, if_neg (by omega)]
    have f78 : (mI (mI (mI (mI (mI σ 7 8 (nI (kn + 1))) (o + 7 + 1) k x) (o + 7 + 2) k v) (o + 7) 5 (nI (k + 1))) 7 10 0).1 7 8 = nI (kn + 1) := by rw [m_I, if_neg (by omega), m_Ir _ _ _ _ (by omega), m_Ir _ _ _ _ (by omega), m_Ir _ _ _ _ (by omega), m_I, if_pos ⟨rfl, rfl⟩]
    have f710 : (mI (mI (mI (mI (mI σ 7 8 (nI (kn + 1))) (o + 7 + 1) k x) (o + 7 + 2) k v) (o + 7) 5 (nI (k + 1))) 7 10 0).1 7 10 = 0 := by rw [m_I, if_pos ⟨rfl, rfl⟩]
    have fo5 : (mI (mI (mI (mI (mI σ 7 8 (nI (kn + 1))) (o + 7 + 1) k x) (o + 7 + 2) k v) (o + 7) 5 (nI (k + 1))) 7 10 0).1 (o + 7) 5 = nI (k + 1) := by rw [m_Ir _ _ _ _ (by omega), m_I, if_pos ⟨rfl, rfl⟩]
    have fo5n : ∀ j, j ≠ 5 → (mI (mI (mI (mI (mI σ 7 8 (nI (kn + 1))) (o + 7 + 1) k x) (o + 7 + 2) k v) (o + 7) 5 (nI (k + 1))) 7 10 0).1 (o + 7) j = σ.1 (o + 7) j := fun j a => by rw [m_Ir _ _ _ _ (by omega), m_I, if_neg (by omega), m_Ir _ _ _ _ (by omega), m_Ir _ _ _ _ (by omega), m_Ir _ _ _ _ (by omega)]
    have fa : ∀ j, (mI (mI (mI (mI (mI σ 7 8 (nI (kn + 1))) (o + 7 + 1) k x) (o + 7 + 2) k v) (o + 7) 5 (nI (k + 1))) 7 10 0).1 (o + 8) j = if j = k then x else σ.1 (o + 8) j := fun j => by
      rw [m_Ir _ _ _ _ (by omega), m_Ir _ _ _ _ (by omega), m_Ir _ _ _ _ (by omega), m_I, m_Ir _ _ _ _ (by omega)]; simp
    have fb : ∀ j, (mI (mI (mI (mI (mI σ 7 8 (nI (kn + 1))) (o + 7 + 1) k x) (o + 7 + 2) k v) (o + 7) 5 (nI (k + 1))) 7 10 0).1 (o + 9) j = if j = k then v else σ.1 (o + 9) j := fun j => by
      rw [m_Ir _ _ _ _ (by omega), m_Ir _ _ _ _ (by omega), m_I, m_Ir _ _ _ _ (by omega), m_Ir _ _ _ _ (by omega)]; simp
    have fr : ∀ r, r ≠ 7 → r ≠ o + 7 → r ≠ o + 8 → r ≠ o + 9 → (mI (mI (mI (mI (mI σ 7 8 (nI (kn + 1))) (o + 7 + 1) k x) (o + 7 + 2) k v) (o + 7) 5 (nI (k + 1))) 7 10 0).1 r = σ.1 r := fun r a b c d => by rw [m_Ir _ _ _ _ a, m_Ir _ _ _ _ b, m_Ir _ _ _ _ d, m_Ir _ _ _ _ c, m_Ir _ _ _ _ a]
    have fl : (mI (mI (mI (mI (mI σ 7 8 (nI (kn + 1))) (o + 7 + 1) k x) (o + 7 + 2) k v) (o + 7) 5 (nI (k + 1))) 7 10 0).2 = σ.2 := rfl
    generalize mI (mI (mI (mI (mI σ 7 8 (nI (kn + 1))) (o + 7 + 1) k x) (o + 7 + 2) k v) (o + 7) 5 (nI (k + 1))) 7 10 0 = σ1 at *
    rw [f7 4 (by omega) (by omega), if_pos A.1, f7 2 (by omega) (by omega), A.2.2.1, nI_1, e_nm, nI_1, e_nm]
    have h7 : ∀ j, j ≠ 2 → (mI σ1 7 2 (nI (t + 1))).1 7 j = σ1.1 7 j := fun j a => by rw [m_I, if_neg (by omega)]
    have hr : ∀ r, r ≠ 7 → (mI σ1 7 2 (nI (t + 1))).1 r = σ1.1 r := fun r a => m_Ir _ _ _ _ a
    have h72 : (mI σ1 7 2 (nI (t + 1))).1 7 2 = nI (t + 1) := by rw [m_I, if_pos ⟨rfl, rfl⟩]
    have hl : (mI σ1 7 2 (nI (t + 1))).2 = σ1.2 := rfl
    have m1 : ∀ r, r ≠ 0 → μ2.1 r = μ1.1 r := y3.1
    have m0 : ∀ j, (j < 19 ∨ 22 < j) → μ2.1 0 j = μ1.1 0 j := y3.2
    refine ⟨μ2, rfl, ⟨fun r a b c d => by rw [m1 r a, rr r a b c d], fun j a => by rw [m0 j (by omega), r0 j (by omega)], fun j a => by rw [m1 2 (by omega), r2 j a], fun r a j hj => ?_⟩, Or.inl ⟨mI σ1 7 2 (nI (t + 1)), rfl, ⟨?_, ?_, ⟨?_, ?_⟩, ⟨?_, ?_⟩, ⟨?_, ?_⟩, ⟨?_, ?_⟩, ?_, ?_, ⟨fun j hj => ?_, fun j hj => absurd hj (by simp)⟩, by omega, l2, l3, by simp at l4 ⊢; omega⟩, ⟨fun r a b c d e => by rw [hr r a, fr r a c d e], fun j a => by rw [h7 j (by omega), f7 j (by omega) (by omega)], fun j a => by rw [hr (o + 7) (by omega), fo5n j a], fun r a j hj => ?_, by rw [hl, fl]⟩, ?_⟩⟩
    · rw [m1 r (by omega)]
      rcases a with rfl | rfl
      · rw [r13, if_neg (by omega)]
      · rw [r14, if_neg (by omega)]
    · obtain ⟨b1, b2, b3, b4, b5, b6, b7⟩ := B
      refine ⟨b1.eq ?_ ?_ ?_ ?_, b2, ?_, b4, ?_, ?_, ?_⟩
      · rw [hr 1 (by omega), fr 1 (by omega) (by omega) (by omega) (by omega)]
      · rw [hr 3 (by omega), fr 3 (by omega) (by omega) (by omega) (by omega)]
      · rw [hr 4 (by omega), fr 4 (by omega) (by omega) (by omega) (by omega)]
      · rw [hr 5 (by omega), fr 5 (by omega) (by omega) (by omega) (by omega)]
      · rw [h7 1 (by omega), f7 1 (by omega) (by omega)]; exact b3
      · rw [hr o (by omega), fr o (by omega) (by omega) (by omega) (by omega)]; exact b5
      · rw [m1 2 (by omega), r2 9 (by omega)]; exact b6
      · rw [hr (o + 1) (by omega), fr (o + 1) (by omega) (by omega) (by omega) (by omega), m1 3 (by omega), rr 3 (by omega) (by omega) (by omega) (by omega)]; exact b7
    · exact ⟨by rw [h7 4 (by omega), f7 4 (by omega) (by omega)]; exact A.1, by rw [m0 23 (by omega), r0 23 (by omega)]; exact A.2.1, h72, y2⟩
    · rw [h7 7 (by omega), f7 7 (by omega) (by omega)]; exact w1
    · rw [hr 8 (by omega), fr 8 (by omega) (by omega) (by omega) (by omega)]; exact w2
    · rw [hr (o + 7) (by omega)]; exact fo5
    · rw [m1 2 (by omega), r17]; rfl
    · rw [h7 8 (by omega)]; exact f78
    · rw [m0 28 (by omega)]; exact r28
    · rw [h7 9 (by omega), f7 9 (by omega) (by omega)]; exact o1
    · rw [m0 27 (by omega), r0 27 (by omega)]; exact o2
    · rw [h7 10 (by omega)]; exact f710
    · rw [h7 11 (by omega), f7 11 (by omega) (by omega)]; exact nmE
    · rw [hr (o + 8) (by omega), hr (o + 9) (by omega), m1 13 (by omega), m1 14 (by omega), fa, fb, r13, r14]
      by_cases ej : j = k
      · rw [if_pos ej, if_pos ej, if_pos (by omega), if_pos (by omega)]; exact hk
      · rw [if_neg ej, if_neg ej, if_neg (by omega), if_neg (by omega)]; exact KO.1 j (by omega)
    · rw [hr r (by omega)]
      rcases a with rfl | rfl
      · rw [fa, if_neg (by omega)]
      · rw [fb, if_neg (by omega)]
    · have q : q_KN x v (μ2.1 13 (64 + k)) (μ2.1 14 (64 + k)) := by
        rw [m1 13 (by omega), m1 14 (by omega), r13, r14, if_pos rfl, if_pos rfl]; exact hk
      rw [← q_KN_gk q]; exact hg
  · have ek : kn = 64 := by omega
    subst ek
    obtain ⟨σd, μd, y1, y2, y3, y4, y5, y6⟩ := q_flt B A 2 (by decide)
    rw [s_knotF A.2.1 n2 y2, e_bvS, s_putsD y4.n.2, e_bvS, s_goOnD y4.n.2, e_bvS]
    refine ⟨μd, rfl, y6.fn, Or.inr ?_⟩
    have C : q_CB X o σd := y3.cb k (by simp at l4; omega) (by rw [y5.1 (o + 7) (by omega)]; exact k1)
    have s1 := q_DD.m7 C 8 (σd.1 7 8 + 1) (by omega)
    obtain ⟨σ2, a1, a2, a3, a4⟩ := d_add s1.1 x v
    have s3 := (s1.trans a2).trans (q_DD.m7 a2.1 10 0 (by omega))
    unfold f_X7_readExpression_b104 f_X7_readExpression_b121
    rw [s_countF n1 y1, e_bvS, a1, e_bvS, e_nm, e_bvS, if_neg (by rw [s3.2.1]; exact y4.n.1), e_nm, nI_1]
    have w7 : (mI σ2 7 10 0).1 7 7 = nI st.length := by
      rw [m_I, if_neg (by omega), a3, m_I, if_neg (by omega), y5.2.1 7 (by omega) (by omega) (by omega)]; exact w1
    obtain ⟨σ', z1, z2⟩ := d_loop n (i + 1) st.length s3.1 (by rw [s3.2.1]; exact y4.n.1) w7 ls
    have s4 := s3.trans z2
    exact ⟨σ', z1, s4.1, y4.fr s4.2.1 s4.2.2.1 rfl rfl, y5.gc.trans s4.2.2.2⟩
end
