def q_RW (X : q_X) (o nb idx n i t k kr op : Nat) (st : List Int32) (σ μ μ' : MSt) : Prop := q_FN kr μ μ' ∧ ((∃ t' P k' kn' nm' σ', t ≤ t' ∧ t' - t ≤ n ∧ f_X7_readExpression_b22 n (nI i) σ = f_X7_readExpression_b22 (n - (t' - t)) (nI (i + (t' - t))) σ' ∧ q_EX X o nb t' P st k' kn' op 0 nm' σ' μ' ∧ k ≤ k' ∧ (∀ x, x ∈ P → ¬ x = 41 ∧ q_lo idx ≤ q_rk x) ∧ q_NX idx (xS X t') P ∧ q_FE o k σ σ' ∧ kr < k' + P.length ∧ ∀ d, q_rn (q_gk μ') (k' + P.length - kr) kr d = some (d + 1)) ∨ (∃ σ', f_X7_readExpression_b22 n (nI i) σ = some σ' ∧ q_CB X o σ' ∧ q_zD X σ' μ' ∧ q_GC o σ σ'))
section
variable {X : q_X} {o nb t k kn op : Nat} {P st : List Int32} {wo nm : Int32} {σ μ σ1 μ1 σ' μ' : MSt}
theorem q_RW.pre {idx n i t1 k1 kr : Nat} (h1 : t ≤ t1) (h2 : t1 - t ≤ n) (h3 : f_X7_readExpression_b22 n (nI i) σ = f_X7_readExpression_b22 (n - (t1 - t)) (nI (i + (t1 - t))) σ1) (hk : k ≤ k1) (F : q_FE o k σ σ1) (G : q_FN kr μ μ1) (W : q_RW X o nb idx (n - (t1 - t)) (i + (t1 - t)) t1 k1 kr op st σ1 μ1 μ') : q_RW X o nb idx n i t k kr op st σ μ μ' := by
  obtain ⟨w1, w2⟩ := W
  refine ⟨G.trans w1 (by omega), ?_⟩
  rcases w2 with ⟨t', P, k', kn', nm', σ', a1, a2, a3, a4, a5, a6, a7, a8, a9, a10⟩ | ⟨σ', a1, a2, a3, a4⟩
  · refine Or.inl ⟨t', P, k', kn', nm', σ', by omega, by omega, ?_, a4, by omega, a6, a7, F.trans a8 hk, a9, a10⟩
    rw [h3, a3, show n - (t1 - t) - (t' - t1) = n - (t' - t) by omega, show i + (t1 - t) + (t' - t1) = i + (t' - t) by omega]
  · exact Or.inr ⟨σ', by rw [h3, a1], a2, a3, F.gc.trans a4⟩
theorem q_RW.res {idx n i t1 k1 kr : Nat} (h1 : t < t1) (h2 : t1 - t ≤ n) (h3 : f_X7_readExpression_b22 n (nI i) σ = f_X7_readExpression_b22 (n - (t1 - t)) (nI (i + (t1 - t))) σ1) (hk : k ≤ k1) (F : q_FE o k σ σ1) (G : q_FN kr μ μ1) (W : q_RW X o nb idx (n - (t1 - t)) (i + (t1 - t)) t1 k1 kr op st σ1 μ1 μ') : q_RES X o nb idx n i t k kr op st σ μ μ' := by
  obtain ⟨w1, w2⟩ := W
  refine ⟨G.trans w1 (by omega), ?_⟩
  rcases w2 with ⟨t', P, k', kn', nm', σ', a1, a2, a3, a4, a5, a6, a7, a8, a9, a10⟩ | ⟨σ', a1, a2, a3, a4⟩
  · refine Or.inl ⟨t', P, k', kn', nm', σ', by omega, by omega, ?_, a4, by omega, a6, a7, F.trans a8 hk, a9, a10⟩
    rw [h3, a3, show n - (t1 - t) - (t' - t1) = n - (t' - t) by omega, show i + (t1 - t) + (t' - t1) = i + (t' - t) by omega]
  · exact Or.inr ⟨σ', by rw [h3, a1], a2, a3, F.gc.trans a4⟩
theorem q_NX.app {idx : Nat} {s : Int32} (h : q_NX idx s P) (x : Int32) : q_NX idx s (P ++ [x]) := by
  obtain ⟨h1, h2, h3, h4, h5⟩ := h
  refine ⟨h1, h2, fun a b => ?_, h4, h5⟩
  obtain ⟨P1, y, P2, rfl, e1, e2⟩ := h3 a b
  exact ⟨P1, y, P2 ++ [x], by simp, e1, e2⟩
theorem q_NX.up {idx : Nat} {s : Int32} (hidx : idx = 0 ∨ idx = 1 ∨ idx = 3 ∨ idx = 4) (h : q_NX (idx + 1) s P) (hs : ¬ q_rk s = q_lo idx) : q_NX idx s P := by
  obtain ⟨h1, h2, h3, h4, h5⟩ := h
  have r22 : q_rk 22 = 1 := by decide
  have r23 : q_rk 23 = 2 := by decide
  unfold q_lo at hs
  rcases hidx with rfl | rfl | rfl | rfl
  · exact ⟨fun _ => h1 (by omega), fun _ => h2 (by omega), fun _ => h3 (by omega), fun _ => h4 (by omega), fun _ q => hs (by rw [q, r22]; rfl)⟩
  · exact ⟨fun _ => h1 (by omega), fun _ => h2 (by omega), fun _ => h3 (by omega), fun _ q => hs (by rw [q, r23]; rfl), fun q => by omega⟩
  · exact ⟨fun _ => h1 (by omega), fun _ q => hs (by rw [q]; rfl), fun q => by omega, fun q => by omega, fun q => by omega⟩
  · exact ⟨fun _ q => hs (by rw [q]; rfl), fun q => by omega, fun q => by omega, fun q => by omega, fun q => by omega⟩
theorem q_TOP.mo {y z : Nat} (h : q_TOP st y) (hz : y ≤ z) : q_TOP st z := by
  rcases h with h | ⟨x, s, h, h1⟩
  · exact Or.inl h
  · exact Or.inr ⟨x, s, h, h1.imp id (fun q => by omega)⟩
/-- the loop of a level -/
theorem p_lp (M : q_CM X) {d idx : Nat} (hidx : idx = 0 ∨ idx = 1 ∨ idx = 3 ∨ idx = 4) (H : q_LVL X d (idx + 1)) (L : Nat → MSt → Option MSt) (hL : ∀ (n : Nat) (μ : MSt) (s v : Int32), μ.1 0 23 = 0 → q_TS s v (μ.1 0 21) (μ.1 0 22) → (q_rk s = q_lo idx → ∃ c, q_KN s 0 2 c ∧ ∀ μ1 μ2 μ3 μ', f_X12_knot μ = some μ1 → f_X12_goOn μ1 = some μ2 → f_rec d (idx + 1) μ2 = some μ3 → f_X12_puts 2 c μ3 = some μ' → L (n + 1) μ = L n μ') ∧ (¬ q_rk s = q_lo idx → L (n + 1) μ = some μ)) (hD : ∀ (n : Nat) (μ : MSt), ¬ μ.1 0 23 = 0 → L (n + 1) μ = some μ) (hst : q_TOP st (q_lo idx)) : ∀ (m nL t k kn kr n i : Nat) (P : List Int32) (nm : Int32) (σ μ : MSt), xK X ≤ t + m → m + 1 < nL → q_EX X o nb t P st k kn op 0 nm σ μ → (∀ x, x ∈ P → ¬ x = 41 ∧ q_lo idx ≤ q_rk x) → q_NX (idx + 1) (xS X t) P → kr < k + P.length → (∀ d, q_rn (q_gk μ) (k + P.length - kr) kr d = some (d + 1)) → xK X + 2 ≤ t + n → i + xK X ≤ 700 + t → (64 - kn) + 6 * (9 - op) + (6 - (idx + 1)) + 1 ≤ d → ∃ μ', L nL μ = some μ' ∧ q_RW X o nb idx n i t k kr op st σ μ μ' := by
  intro m
  induction m with
  | zero =>
    intro nL t k kn kr n i P nm σ μ h1 h2 E hP hN hkr hrun hn hi hd
    obtain ⟨nL, rfl⟩ : ∃ z, nL = z + 1 := ⟨nL - 1, by omega⟩
    obtain ⟨-, A, -⟩ := id E
    have s0 := (M.2.2.2.2.2.2 t (by omega)).1
    have hs : ¬ q_rk (xS X t) = q_lo idx := by
      rw [s0]
      rcases hidx with rfl | rfl | rfl | rfl <;> decide
    refine ⟨μ, (hL nL μ (xS X t) (xV X t) A.2.1 A.2.2.2.2.2.2.2.2).2 hs, q_FN.rf, Or.inl ⟨t, P, k, kn, nm, σ, by omega, by omega, ?_, E, by omega, hP, hN.up hidx hs, q_FE.rf, hkr, hrun⟩⟩
    rw [show t - t = 0 by omega]
    rfl
  | succ m ih =>
    intro nL t k kn kr n i P nm σ μ h1 h2 E hP hN hkr hrun hn hi hd
    obtain ⟨nL, rfl⟩ : ∃ z, nL = z + 1 := ⟨nL - 1, by omega⟩
    obtain ⟨-, A, -⟩ := id E
    obtain ⟨L1, L2⟩ := hL nL μ (xS X t) (xV X t) A.2.1 A.2.2.2.2.2.2.2.2
    by_cases hs : q_rk (xS X t) = q_lo idx
    · obtain ⟨c, hc, L3⟩ := L1 hs
      obtain ⟨i1, i2, i3, i5, i6, i4⟩ := q_rk_i (xS X t)
      have q4 : ¬ q_rk (xS X t) = 4 := by rw [hs]; rcases hidx with rfl | rfl | rfl | rfl <;> decide
      have hr : q_rk (xS X t) = 1 ∨ q_rk (xS X t) = 2 ∨ q_rk (xS X t) = 5 ∨ q_rk (xS X t) = 6 ∨ q_rk (xS X t) = 4 := by rw [hs]; rcases hidx with rfl | rfl | rfl | rfl <;> decide
      have hb : q_kd (xS X t) = 2 ∧ ¬ xS X t = 41 ∧ ((idx + 1 ≤ 2 ∧ (xS X t = 22 ∨ xS X t = 23)) ∨ (3 ≤ idx + 1 ∧ ¬ (xS X t = 22 ∨ xS X t = 23))) ∧ q_rk (xS X t) < q_upr (idx + 1) := by
        rcases hidx with rfl | rfl | rfl | rfl
        · rw [i1 hs]; decide
        · rw [i2 hs]; decide
        · rcases i5 hs with e | e <;> (rw [e]; decide)
        · rcases i6 hs with e | e <;> (rw [e]; decide)
      obtain ⟨μ1, μ2, μ3, μ', y1, y2, y3, y4, y5, y6⟩ := p_rnd M H (by omega) E hr (fun x hx => by rw [if_neg q4, hs]; exact hP x hx) (by rw [hs]; exact hst) hb.2.2.2 hb.2.2.1 hc hb.1 n i hn hi hd
      rw [L3 μ1 μ2 μ3 μ' y1 y2 y3 y4]
      rcases y6 with ⟨t', P', k', kn', nm', σ', a1, a2, a3, a4, a5, a6, a7, a8, a9, a10, a11⟩ | ⟨σ', a1, a2, a3, a4⟩
      · have lo : q_lo idx ≤ q_lo (idx + 1) := by rcases hidx with rfl | rfl | rfl | rfl <;> decide
        have lenE : (P' ++ [xS X t]).length = P'.length + 1 := by simp
        have hP2 : ∀ x, x ∈ P' ++ [xS X t] → ¬ x = 41 ∧ q_lo idx ≤ q_rk x := by
          intro x hx
          rcases List.mem_append.mp hx with h | h
          · obtain ⟨b1, b2⟩ := a6 x h
            exact ⟨b1, by omega⟩
          · have e : x = xS X t := by simpa using h
            rw [e]
            exact ⟨hb.2.1, by omega⟩
        have run2 : ∀ d, q_rn (q_gk μ') (k' + (P' ++ [xS X t]).length - kr) kr d = some (d + 1) := by
          intro d
          have e1 : q_rn (q_gk μ') (k + P.length - kr) kr d = some (d + 1) := by
            rw [q_rn_cg (q_gk μ) (q_gk μ') _ _ _ (fun j h1 h2 => y5.gk j (by omega))]
            exact hrun d
          have e2 := q_rn_app (q_gk μ') _ (k' + P'.length + 1 - (k + P.length)) _ _ _ e1
          rw [lenE, show k' + (P'.length + 1) - kr = k + P.length - kr + (k' + P'.length + 1 - (k + P.length)) by omega, e2, show kr + (k + P.length - kr) = k + P.length by omega]
          exact a11 d
        obtain ⟨μ'', b1, b2⟩ := ih nL t' k' kn' kr (n - (t' - t)) (i + (t' - t)) (P' ++ [xS X t]) nm' σ' μ' (by omega) (by omega) a4 hP2 (a7.app _) (by rw [lenE]; omega) run2 (by omega) (by omega) (by omega)
        have y5k : q_FN kr μ μ' := (q_FN.rf (kb := kr)).trans y5 (by omega)
        exact ⟨μ'', b1, q_RW.pre (by omega) a2 a3 a5 a8 y5k b2⟩
      · obtain ⟨nL, rfl⟩ : ∃ z, nL = z + 1 := ⟨nL - 1, by omega⟩
        exact ⟨μ', hD nL μ' a3.n.2, (q_FN.rf (kb := kr)).trans y5 (by omega), Or.inr ⟨σ', a1, a2, a3, a4⟩⟩
    · refine ⟨μ, L2 hs, q_FN.rf, Or.inl ⟨t, P, k, kn, nm, σ, by omega, by omega, ?_, E, by omega, hP, hN.up hidx hs, q_FE.rf, hkr, hrun⟩⟩
      rw [show t - t = 0 by omega]
      rfl
/-- a level with a loop -/
theorem p_lv (M : q_CM X) {d idx : Nat} (hidx : idx = 0 ∨ idx = 1 ∨ idx = 3 ∨ idx = 4) (H : q_LVL X d (idx + 1)) (L : Nat → MSt → Option MSt) (hL : ∀ (n : Nat) (μ : MSt) (s v : Int32), μ.1 0 23 = 0 → q_TS s v (μ.1 0 21) (μ.1 0 22) → (q_rk s = q_lo idx → ∃ c, q_KN s 0 2 c ∧ ∀ μ1 μ2 μ3 μ', f_X12_knot μ = some μ1 → f_X12_goOn μ1 = some μ2 → f_rec d (idx + 1) μ2 = some μ3 → f_X12_puts 2 c μ3 = some μ' → L (n + 1) μ = L n μ') ∧ (¬ q_rk s = q_lo idx → L (n + 1) μ = some μ)) (hD : ∀ (n : Nat) (μ : MSt), ¬ μ.1 0 23 = 0 → L (n + 1) μ = some μ) (hf : ∀ μ : MSt, f_rec (d + 1) idx μ = k_bv (f_rec d (idx + 1) μ) fun s => L FU s) : q_LVL X (d + 1) idx := by
  intro o nb t k kn op st nm σ μ n i E top c1 c2 hn hi hd
  obtain ⟨-, -, -, -, -, -, -, -, -, l1, l2, l3, l4⟩ := id E
  have l5 : k + st.length = kn + op := by simpa using l4
  have up : q_upr idx ≤ q_upr (idx + 1) ∧ q_upr idx = q_lo idx ∧ q_lo idx ≤ q_lo (idx + 1) := by rcases hidx with rfl | rfl | rfl | rfl <;> decide
  obtain ⟨μ1, y1, y2, y3⟩ := H o nb t k kn op st nm σ μ n i E (top.mo up.1) (fun q => c1 (by omega)) (fun q => c2 (by omega)) hn hi (by omega)
  rw [hf, y1, e_bvS]
  rcases y3 with ⟨t', P, k', kn', nm', σ', a1, a2, a3, a4, a5, a6, a7, a8, a9, a10⟩ | ⟨σ', a1, a2, a3, a4⟩
  · obtain ⟨-, A', -, -, -, -, -, -, -, m1, m2, m3, m4⟩ := id a4
    have m5 : k' + (P.length + st.length) = kn' + op := by simpa using m4
    have tK := A'.2.2.2.1
    have hK : xK X ≤ 700 := by have := M.1.1; have := M.2.1; omega
    obtain ⟨μ', b1, b2⟩ := p_lp (o := o) (nb := nb) (op := op) (st := st) M hidx H L hL hD (by rw [← up.2.1]; exact top) (xK X - t') FU t' k' kn' k (n - (t' - t)) (i + (t' - t)) P nm' σ' μ1 (by omega) (by unfold FU; omega) a4 (fun x hx => ⟨(a6 x hx).1, by have := (a6 x hx).2; omega⟩) a7 a9 a10 (by omega) (by omega) (by omega)
    exact ⟨μ', b1, q_RW.res a1 a2 a3 a5 a8 y2 b2⟩
  · obtain ⟨z, ez⟩ : ∃ z, FU = z + 1 := ⟨FU - 1, by unfold FU; omega⟩
    rw [ez]
    exact ⟨μ1, hD z μ1 a3.n.2, y2, Or.inr ⟨σ', a1, a2, a3, a4⟩⟩
end
