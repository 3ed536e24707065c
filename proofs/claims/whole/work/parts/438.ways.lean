/-! WAYS: way, never -/
def q_wm (nb : Nat) (σ μ : MSt) : Prop := ∀ d b, d ≤ 60 → b < nb → (σ.1 76 (8 * d + b) = 1000 ∧ μ.1 29 (8 * d + b) = -1) ∨ ∃ m, m ≤ d ∧ σ.1 76 (8 * d + b) = nI m ∧ μ.1 29 (8 * d + b) = nI m
def q_wrr (nb dn : Nat) (σ μ : MSt) : Prop := ∀ b, b < nb → (σ.1 74 b = -1 ∧ ∀ d, d ≤ 60 → μ.1 30 (8 * d + b) = -1) ∨ ∃ d0 m, d0 ≤ 60 ∧ m ≤ d0 ∧ σ.1 74 b = nI (dn + d0) ∧ σ.1 75 b = nI m ∧ μ.1 30 (8 * d0 + b) = nI m ∧ ∀ d, d < d0 → μ.1 30 (8 * d + b) = -1
def q_wv (nb : Nat) (μ : MSt) : Prop := ∀ d b, d ≤ 60 → b < nb → μ.1 30 (8 * d + b) = -1 ∨ ∃ m, m ≤ d ∧ μ.1 30 (8 * d + b) = nI m
def q_ws (nb nd nw dn : Nat) (R : Nat → Nat → Int32) (σ : MSt) : Prop := ∀ d b, d ≤ 60 → b < nb → σ.1 77 (8 * d + b) = 0 ∨ σ.1 77 (8 * d + b) = (if q_hv R nd nw dn b d = 0 then 2 else 1)
def q_WR (nb nd nw dn : Nat) (σ0 μ0 σ μ : MSt) : Prop := FL σ0 σ ∧ FX μ0 μ ∧ q_wm nb σ μ ∧ q_wrr nb dn σ μ ∧ q_wv nb μ ∧ q_ws nb nd nw dn σ0.1 σ
theorem q_WR.M {nb nd nw dn : Nat} {σ0 μ0 σ μ μ' : MSt} (h : q_WR nb nd nw dn σ0 μ0 σ μ) (f : FM μ μ') : q_WR nb nd nw dn σ0 μ0 σ μ' := by
  obtain ⟨a, b, c, d, e, g⟩ := h
  refine ⟨a, b.trans (FX.of f), ?_, ?_, ?_, g⟩
  · unfold q_wm at c ⊢; rw [f.1 29 (by omega)]; exact c
  · unfold q_wrr at d ⊢; rw [f.1 30 (by omega)]; exact d
  · unfold q_wv at e ⊢; rw [f.1 30 (by omega)]; exact e
theorem q_ix (d b : Nat) : nI d * (8 : Int32) + nI b = nI (8 * d + b) := by rw [show (8 : Int32) = nI 8 from rfl, pk_mul, nI_add, Nat.mul_comm]
theorem q_ix2 (d b : Nat) : (8 : Int32) * nI d + nI b = nI (8 * d + b) := by rw [show (8 : Int32) = nI 8 from rfl, pk_mul, nI_add]
theorem q_fewer (x t : Int32) (ht : ¬ t = -1) (μ : MSt) : f_X12_fewer x t μ = some (if x = -1 then t else k_min x t, μ) := by
  unfold f_X12_fewer f_X12_fewer_b23
  by_cases c : x = -1
  · rw [if_pos c, if_pos c]
  · rw [if_neg c, if_neg c, if_neg ht]
theorem q_kmin (a b : Nat) (ha : a < 2 ^ 31) (hb : b < 2 ^ 31) : k_min (nI a) (nI b) = nI (min a b) := by
  unfold k_min
  by_cases c : b < a
  · rw [if_pos (nI_lt c ha)]; congr 1; omega
  · rw [if_neg (nI_nlt (by omega) hb)]; congr 1; omega
/-- a morning is woken in both -/
theorem q_wake {nb nd nw dn : Nat} {σ0 μ0 σ μ : MSt} (hnb : nb ≤ 8) (W : q_WR nb nd nw dn σ0 μ0 σ μ) (b d t : Nat) (hb : b < nb) (hd : d ≤ 61) (ht : t ≤ d) : ∃ σ', f_X10_wake (nI b) (nI d) (nI t) σ = some σ' ∧ q_WR nb nd nw dn σ0 μ0 σ' (mI μ 29 (8 * d + b) (if μ.1 29 (8 * d + b) = -1 then nI t else k_min (μ.1 29 (8 * d + b)) (nI t))) := by
  obtain ⟨fl, fx, wm, wa, wv, ws⟩ := W
  have fx' : ∀ v, FX μ0 (mI μ 29 (8 * d + b) v) := fun v => fx.trans ⟨fun r hr' => m_Ir _ _ _ _ (by omega), fun r _ _ i _ _ => by rw [m_Ir _ _ _ _ (by omega)], fun r _ _ i _ => by rw [m_Ir _ _ _ _ (by omega)], fun j _ _ _ _ => by rw [m_Ir _ _ _ _ (by omega)]⟩
  have wa' : ∀ v (s : MSt), s.1 74 = σ.1 74 → s.1 75 = σ.1 75 → q_wrr nb dn s (mI μ 29 (8 * d + b) v) := fun v s h1 h2 => by unfold q_wrr at wa ⊢; rw [m_Ir _ _ _ _ (by omega), h1, h2]; exact wa
  have wv' : ∀ v, q_wv nb (mI μ 29 (8 * d + b) v) := fun v => by unfold q_wv at wv ⊢; rw [m_Ir _ _ _ _ (by omega)]; exact wv
  unfold f_X10_wake f_X10_wake_b46
  rw [if_neg (nI_pos (by omega)), if_neg (show ¬ (8 : Int32) ≤ nI b from nI_ge (a := b) (b := 8) (by omega) (by decide)), if_neg (nI_pos (by omega))]
  by_cases c : d ≤ 60
  · have kx : k_inb (nI (8 * d + b)) 488 = true := e_in (by omega) (by decide)
    rw [if_neg (show ¬ (60 : Int32) < nI d from nI_nlt (a := 60) (b := d) (by omega) (by decide)), q_ix, e_nm, e_ck kx, e_ck kx, e_nm, nI_clamp (by omega)]
    refine ⟨_, rfl, fl.trans (FL.mI _ _ _ _ (by omega)), fx' _, ?_, wa' _ _ (m_Ir _ _ _ _ (by omega)) (m_Ir _ _ _ _ (by omega)), wv' _, ?_⟩
    · intro d' b' h1 h2
      rw [m_I, m_I]
      by_cases e : d' = d ∧ b' = b
      · obtain ⟨rfl, rfl⟩ := e
        rw [if_pos ⟨rfl, rfl⟩, if_pos ⟨rfl, rfl⟩]
        right
        rcases wm d' b' h1 h2 with ⟨q1, q2⟩ | ⟨m, hm, q1, q2⟩
        · refine ⟨t, ht, ?_, ?_⟩
          · rw [q1, show (1000 : Int32) = nI 1000 from rfl, q_kmin 1000 t (by omega) (by omega)]; congr 1; omega
          · rw [if_pos q2]
        · refine ⟨min m t, by omega, ?_, ?_⟩
          · rw [q1, q_kmin m t (by omega) (by omega)]
          · rw [q2, if_neg (q_n1 (by omega)), q_kmin m t (by omega) (by omega)]
      · rw [if_neg (by omega), if_neg (by omega)]
        exact wm d' b' h1 h2
    · unfold q_ws at ws ⊢
      rw [m_Ir _ _ _ _ (by omega)]
      exact ws
  · rw [if_pos (show (60 : Int32) < nI d from nI_lt (a := 60) (b := d) (by omega) (by omega))]
    refine ⟨σ, rfl, fl, fx' _, ?_, wa' _ _ rfl rfl, wv' _, ws⟩
    intro d' b' h1 h2
    rw [m_I, if_neg (by omega)]
    exact wm d' b' h1 h2
/-- a bay is reached in both -/
theorem q_reach {nb nd nw dn : Nat} {σ0 μ0 σ μ : MSt} (hnb : nb ≤ 8) (hdn : dn ≤ 9900) (W : q_WR nb nd nw dn σ0 μ0 σ μ) (h3 : σ.1 50 3 = nI dn) (b d t : Nat) (hb : b < nb) (hd : d ≤ 60) (ht : t ≤ d) : ∃ σ', f_X10_reach (nI b) (nI d) (nI t) σ = some σ' ∧ q_WR nb nd nw dn σ0 μ0 σ' (mI μ 30 (8 * d + b) (if μ.1 30 (8 * d + b) = -1 then nI t else k_min (μ.1 30 (8 * d + b)) (nI t))) := by
  obtain ⟨fl, fx, wm, wa, wv, ws⟩ := W
  have kb : k_inb (nI b) 8 = true := e_in (by omega) (by decide)
  have fx' : ∀ v, FX μ0 (mI μ 30 (8 * d + b) v) := fun v => fx.trans ⟨fun r hr' => m_Ir _ _ _ _ (by omega), fun r _ _ i _ _ => by rw [m_Ir _ _ _ _ (by omega)], fun r _ _ i _ => by rw [m_Ir _ _ _ _ (by omega)], fun j _ _ _ _ => by rw [m_Ir _ _ _ _ (by omega)]⟩
  have wm' : ∀ v (s : MSt), s.1 76 = σ.1 76 → q_wm nb s (mI μ 30 (8 * d + b) v) := fun v s h1 => by unfold q_wm at wm ⊢; rw [m_Ir _ _ _ _ (by omega), h1]; exact wm
  have ws' : ∀ s : MSt, s.1 77 = σ.1 77 → q_ws nb nd nw dn σ0.1 s := fun s h1 => by unfold q_ws at ws ⊢; rw [h1]; exact ws
  generalize hv : (if μ.1 30 (8 * d + b) = -1 then nI t else k_min (μ.1 30 (8 * d + b)) (nI t)) = v
  have v1 : ∃ m, m ≤ d ∧ v = nI m := by
    rw [← hv]
    rcases wv d b hd hb with q | ⟨m, hm, q⟩
    · rw [if_pos q]; exact ⟨t, ht, rfl⟩
    · rw [q, if_neg (q_n1 (by omega)), q_kmin m t (by omega) (by omega)]; exact ⟨min m t, by omega, rfl⟩
  have wv' : q_wv nb (mI μ 30 (8 * d + b) v) := by
    intro d' b' h1 h2
    rw [m_I]
    by_cases e : d' = d ∧ b' = b
    · obtain ⟨rfl, rfl⟩ := e
      rw [if_pos ⟨rfl, rfl⟩]; exact Or.inr v1
    · rw [if_neg (by omega)]; exact wv d' b' h1 h2
  have up : ∀ d' b', ¬ (d' = d ∧ b' = b) → b' < nb → (mI μ 30 (8 * d + b) v).1 30 (8 * d' + b') = μ.1 30 (8 * d' + b') := fun d' b' h1 h2 => by rw [m_I, if_neg (by omega)]
  have upd' : (mI μ 30 (8 * d + b) v).1 30 (8 * d + b) = v := by rw [m_I]; simp
  unfold f_X10_reach f_X10_reach_b64 f_X10_reach_b79
  rw [if_neg (nI_pos (by omega)), if_pos (show nI b < (8 : Int32) from nI_lt (a := b) (b := 8) (by omega) (by decide)), h3, nI_add, e_nm]
  simp only [e_ck kb, e_nm, nI_clamp (show b < 2 ^ 31 by omega)]
  -- the class writes day d and t
  have wr : v = nI t → (∀ d', d' < d → μ.1 30 (8 * d' + b) = -1) → ∃ σ', (some (mI (mI σ 74 b (nI (dn + d))) 75 b (nI t)) : Option MSt) = some σ' ∧ q_WR nb nd nw dn σ0 μ0 σ' (mI μ 30 (8 * d + b) v) := by
    intro ev hlow
    refine ⟨_, rfl, (fl.trans (FL.mI _ _ _ _ (by omega))).trans (FL.mI _ _ _ _ (by omega)), fx' _, wm' _ _ (by rw [m_Ir _ _ _ _ (by omega), m_Ir _ _ _ _ (by omega)]), ?_, wv', ws' _ (by rw [m_Ir _ _ _ _ (by omega), m_Ir _ _ _ _ (by omega)])⟩
    intro b' h2
    by_cases e : b' = b
    · subst e
      right
      exact ⟨d, t, hd, ht, by simp [m_I], by simp [m_I], by rw [upd', ev], fun d' h => by rw [up d' b' (by omega) h2]; exact hlow d' h⟩
    · have e74 : (mI (mI σ 74 b (nI (dn + d))) 75 b (nI t)).1 74 b' = σ.1 74 b' := by rw [m_Ir _ _ _ _ (by omega), m_I, if_neg (by omega)]
      have e75 : (mI (mI σ 74 b (nI (dn + d))) 75 b (nI t)).1 75 b' = σ.1 75 b' := by rw [m_I, if_neg (by omega), m_Ir _ _ _ _ (by omega)]
      rw [e74, e75]
      rcases wa b' h2 with ⟨q1, q2⟩ | ⟨d0, m, q0, qm, q1, q2, q3, q4⟩
      · exact Or.inl ⟨q1, fun d' h => by rw [up d' b' (by omega) h2]; exact q2 d' h⟩
      · exact Or.inr ⟨d0, m, q0, qm, q1, q2, by rw [up d0 b' (by omega) h2]; exact q3, fun d' h => by rw [up d' b' (by omega) h2]; exact q4 d' h⟩
  -- the class leaves it
  have no : (∃ d0 m, d0 ≤ 60 ∧ m ≤ d0 ∧ σ.1 74 b = nI (dn + d0) ∧ σ.1 75 b = nI m ∧ (mI μ 30 (8 * d + b) v).1 30 (8 * d0 + b) = nI m ∧ ∀ d', d' < d0 → (mI μ 30 (8 * d + b) v).1 30 (8 * d' + b) = -1) → ∃ σ', (some σ : Option MSt) = some σ' ∧ q_WR nb nd nw dn σ0 μ0 σ' (mI μ 30 (8 * d + b) v) := by
    intro hx
    refine ⟨_, rfl, fl, fx' _, wm' _ _ rfl, ?_, wv', ws⟩
    intro b' h2
    by_cases e : b' = b
    · subst e; exact Or.inr hx
    · rcases wa b' h2 with ⟨q1, q2⟩ | ⟨d0, m, q0, qm, q1, q2, q3, q4⟩
      · exact Or.inl ⟨q1, fun d' h => by rw [up d' b' (by omega) h2]; exact q2 d' h⟩
      · exact Or.inr ⟨d0, m, q0, qm, q1, q2, by rw [up d0 b' (by omega) h2]; exact q3, fun d' h => by rw [up d' b' (by omega) h2]; exact q4 d' h⟩
  rcases wa b hb with ⟨q1, q2⟩ | ⟨d0, m, q0, qm, q1, q2, q3, q4⟩
  · rw [if_pos q1]
    exact wr (by rw [← hv, if_pos (q2 d hd)]) (fun d' h => q2 d' (by omega))
  · rw [q1, q2, if_neg (q_n1 (by omega))]
    by_cases c1 : d < d0
    · rw [if_pos (nI_lt (by omega) (by omega))]
      exact wr (by rw [← hv, if_pos (q4 d c1)]) (fun d' h => q4 d' (by omega))
    · rw [if_neg (nI_nlt (by omega) (by omega))]
      by_cases c2 : d = d0
      · subst c2
        rw [if_pos rfl]
        have ev : v = nI (min m t) := by rw [← hv, q3, if_neg (q_n1 (by omega)), q_kmin m t (by omega) (by omega)]
        by_cases c3 : m ≤ t
        · rw [if_pos (nI_le c3 (by omega))]
          exact no ⟨d, m, hd, qm, q1, q2, by rw [upd', ev]; congr 1; omega, fun d' h => by rw [up d' b (by omega) hb]; exact q4 d' h⟩
        · rw [if_neg (nI_ge (by omega) (by omega))]
          exact wr (by rw [ev]; congr 1; omega) q4
      · rw [if_neg (fun q => c2 (by have := (nI_eq (by omega) (by omega)).mp q; omega))]
        exact no ⟨d0, m, q0, qm, q1, q2, by rw [up d0 b (by omega) hb]; exact q3, fun d' h => by rw [up d' b (by omega) hb]; exact q4 d' h⟩
section
variable {nb nl nd nw nk dn : Nat} {σ0 μ0 : MSt}
theorem q_hat {σ μ : MSt} (T0 : q_TX nb nl nd nw nk σ0.1 μ0.1) (A0 : q_A nb dn 50 σ0 0 μ0.1) (hdn : dn ≤ 9900) (W : q_WR nb nd nw dn σ0 μ0 σ μ) (b d : Nat) (hb : b < nb) (hd : d ≤ 60) : ∃ σ', f_X10_holdsAt (nI b) (nI d) σ = some (if q_hv σ0.1 nd nw dn b d = 0 then 0 else 1, σ') ∧ q_WR nb nd nw dn σ0 μ0 σ' μ := by
  have l := T0.le.1
  obtain ⟨fl, fx, wm, wa, wv, ws⟩ := id W
  have T : q_TX nb nl nd nw nk σ.1 μ0.1 := T0.fr fl FX.rf
  have h3 : σ.1 50 3 = nI dn := by rw [fl.1 50 (by omega)]; exact A0.1.1
  have kx : k_inb (nI (8 * d + b)) 488 = true := e_in (by omega) (by decide)
  have z0 : k_bo 0 = true := rfl
  have z1 : k_bo 1 = true := rfl
  unfold f_X10_holdsAt f_X10_holdsAt_b68 f_X10_holdsAt_b69 f_X10_holdsAt_b84
  rw [if_neg (nI_pos (by omega)), if_neg (show ¬ (8 : Int32) ≤ nI b from nI_ge (a := b) (b := 8) (by omega) (by decide)), if_neg (nI_pos (by omega)), if_pos (show nI d ≤ (60 : Int32) from nI_le (a := d) (b := 60) (by omega) (by decide)), q_ix, e_nm, h3, nI_add]
  simp only [e_ck kx, e_ck z0, e_ck z1, e_nm, nI_clamp (show 8 * d + b < 2 ^ 31 by omega)]
  by_cases c : σ.1 77 (8 * d + b) = 0
  · rw [if_pos c]
    obtain ⟨σ1, p1, p2⟩ := s_X3_sees T b (dn + d) (by omega) (by omega)
    have ev : q_hs σ.1 nw (dn + d) (q_fse σ.1 nd b (dn + d) (q_tri σ.1 b)) = q_hv σ0.1 nd nw dn b d := congrFun (q_hv_eq fl.lt nd nw dn b) d
    rw [p1, e_bdS, ev]
    have fin : ∀ v, v = (if q_hv σ0.1 nd nw dn b d = 0 then (2 : Int32) else 1) → q_WR nb nd nw dn σ0 μ0 (mI σ1 77 (8 * d + b) v) μ := by
      intro v hv
      refine ⟨(fl.trans (FL.of70 p2)).trans (FL.mI _ _ _ _ (by omega)), fx, ?_, ?_, wv, ?_⟩
      · unfold q_wm at wm ⊢; rw [m_Ir _ _ _ _ (by omega), p2.1 76 (by omega)]; exact wm
      · unfold q_wrr at wa ⊢; rw [m_Ir _ _ _ _ (by omega), m_Ir _ _ _ _ (by omega), p2.1 74 (by omega), p2.1 75 (by omega)]; exact wa
      · intro d' b' h1 h2
        rw [m_I]
        by_cases e : d' = d ∧ b' = b
        · obtain ⟨rfl, rfl⟩ := e
          rw [if_pos ⟨rfl, rfl⟩]; exact Or.inr hv
        · rw [if_neg (by omega), p2.1 77 (by omega)]; exact ws d' b' h1 h2
    have rd : ∀ v, (mI σ1 77 (8 * d + b) v).1 77 (8 * d + b) = v := fun v => by rw [m_I]; simp
    by_cases z : q_hv σ0.1 nd nw dn b d = 0
    · rw [if_pos z, if_pos z, rd, if_neg (by decide)]
      exact ⟨_, rfl, fin 2 (by rw [if_pos z])⟩
    · rw [if_neg z, if_neg z, rd, if_pos rfl]
      exact ⟨_, rfl, fin 1 (by rw [if_neg z])⟩
  · rw [if_neg c]
    rcases ws d b hd hb with q | q
    · exact absurd q c
    · rw [q]
      by_cases z : q_hv σ0.1 nd nw dn b d = 0
      · rw [if_pos z, if_neg (by decide), if_pos z]; exact ⟨_, rfl, W⟩
      · rw [if_neg z, if_pos rfl, if_neg z]; exact ⟨_, rfl, W⟩
theorem q_wh {σ μ : MSt} (T0 : q_TX nb nl nd nw nk σ0.1 μ0.1) (A0 : q_A nb dn 50 σ0 0 μ0.1) (hr0 : q_rest μ0.1) (hdn : dn ≤ 9900) (W : q_WR nb nd nw dn σ0 μ0 σ μ) (b d : Nat) (hb : b < nb) (hd : d ≤ 60) : ∃ μ', f_X12_willHold 0 (nI b) (μ.1 17 0 + nI d) (-1) μ = some (q_hv σ0.1 nd nw dn b d, μ') ∧ FM μ μ' := by
  have l := T0.le.1
  have fx := W.2.1
  obtain ⟨μ1, r1, r2⟩ := s_X12_willHold (T0.fr FL.rf fx) (A0.fr FL.rf fx) (by omega) (hr0.FX fx) b (dn + d) (by omega) (by omega) (-1) (Or.inl rfl)
  rw [if_pos rfl] at r1
  rw [(A0.fr FL.rf fx).1.2, nI_add]
  exact ⟨μ1, r1, r2⟩
theorem q_go_on (T0 : q_TX nb nl nd nw nk σ0.1 μ0.1) (A0 : q_A nb dn 50 σ0 0 μ0.1) (hr0 : q_rest μ0.1) (hdn : dn ≤ 9900) (r136 : Int32 → MSt → Option MSt) (r144 : Int32 → Int32 → MSt → Option MSt) (b d t : Nat) (hb : b < nb) (hd : d ≤ 60) (ht : t ≤ d) : ∀ (k n1 n2 c : Nat) (σ μ : MSt), c + k = nb → k < n1 → k < n2 → q_WR nb nd nw dn σ0 μ0 σ μ → ∃ σ' μ', f_X10_goOn_b33 n1 (nI b) (nI d) (nI t) (nI c) σ = some σ' ∧ f_X12_layWays_b225 r136 r144 n2 (nI d) (nI b) (nI t) (nI c) μ = r144 (nI d) (nI (b + 1)) μ' ∧ q_WR nb nd nw dn σ0 μ0 σ' μ' := by
  have l := T0.le.1
  intro k
  induction k with
  | zero =>
    intro n1 n2 c σ μ h1 h2 h3 W
    obtain ⟨n1, rfl⟩ : ∃ z, n1 = z + 1 := ⟨n1 - 1, by omega⟩
    obtain ⟨n2, rfl⟩ : ∃ z, n2 = z + 1 := ⟨n2 - 1, by omega⟩
    have T : q_TX nb nl nd nw nk σ.1 μ.1 := T0.fr W.1 W.2.1
    refine ⟨σ, μ, ?_, ?_, W⟩
    · show f_X10_goOn_b33_s (f_X10_goOn_b33 n1) (nI b) (nI d) (nI t) (nI c) σ = _
      unfold f_X10_goOn_b33_s
      rw [T.nbC, if_pos (nI_le (by omega) (by omega))]
    · show f_X12_layWays_b225_s r136 r144 (f_X12_layWays_b225 r136 r144 n2) (nI d) (nI b) (nI t) (nI c) μ = _
      unfold f_X12_layWays_b225_s f_X12_layWays_b289
      rw [e_ck q_i18, c_0, T.nbM, if_pos (nI_le (by omega) (by omega)), e_nm, nI_1]
  | succ k ih =>
    intro n1 n2 c σ μ h1 h2 h3 W
    obtain ⟨n1, rfl⟩ : ∃ z, n1 = z + 1 := ⟨n1 - 1, by omega⟩
    obtain ⟨n2, rfl⟩ : ∃ z, n2 = z + 1 := ⟨n2 - 1, by omega⟩
    have T : q_TX nb nl nd nw nk σ.1 μ.1 := T0.fr W.1 W.2.1
    obtain ⟨le, ln, hln, eln⟩ := T.lane b c hb (by omega)
    obtain ⟨rc, -, -, rc1, rc2⟩ := T.reach
    have k5 : k_inb (5 : Int32) 18 = true := by decide
    have d5 : ((5 : Int32)).toNatClampNeg = 5 := by decide
    show ∃ σ' μ', f_X10_goOn_b33_s (f_X10_goOn_b33 n1) (nI b) (nI d) (nI t) (nI c) σ = some σ' ∧ f_X12_layWays_b225_s r136 r144 (f_X12_layWays_b225 r136 r144 n2) (nI d) (nI b) (nI t) (nI c) μ = _ ∧ _
    unfold f_X10_goOn_b33_s f_X12_layWays_b225_s f_X10_goOn_b115 f_X12_layWays_b283
    rw [T.nbC, if_neg (nI_ge (by omega) (by omega)), e_ck q_i18, c_0, T.nbM, if_neg (nI_ge (by omega) (by omega)), s_X0_daysBetween 10 b c σ nb T.nbC l hb (by omega), e_bdS, s_X12_laneOf (nI b) (nI c) μ nl T.nlM T.le.2.1, e_bdS, ← le, show σ.1 (10 + 2) (b * 8 + c) = nI ln from eln, rc1, e_ck k5, d5, rc2]
    simp only [e_nm, nI_1, nI_add]
    have skip : ∀ (σ1 μ1 : MSt), q_WR nb nd nw dn σ0 μ0 σ1 μ1 → ∃ σ' μ', f_X10_goOn_b33 n1 (nI b) (nI d) (nI t) (nI (c + 1)) σ1 = some σ' ∧ f_X12_layWays_b225 r136 r144 n2 (nI d) (nI b) (nI t) (nI (c + 1)) μ1 = r144 (nI d) (nI (b + 1)) μ' ∧ q_WR nb nd nw dn σ0 μ0 σ' μ' := fun σ1 μ1 W1 => ih n1 n2 (c + 1) σ1 μ1 (by omega) (by omega) (by omega) W1
    by_cases c1 : nI ln ≤ 0
    · rw [if_pos c1, if_pos c1]; exact skip σ μ W
    · rw [if_neg c1, if_neg c1]
      have hl1 : 1 ≤ ln := by
        apply Nat.pos_of_ne_zero
        intro e
        subst e
        exact c1 (by decide)
      by_cases c2 : nI rc < nI ln
      · rw [if_pos c2, if_pos c2]; exact skip σ μ W
      · rw [if_neg c2, if_neg c2]
        by_cases c3 : d + ln ≤ 60
        · rw [if_neg (show ¬ (60 : Int32) < nI (d + ln) from nI_nlt (a := 60) (b := d + ln) (by omega) (by decide))]
          obtain ⟨σ1, y1, W1⟩ := q_hat T0 A0 hdn W c (d + ln) (by omega) c3
          rw [y1, e_bdS]
          unfold f_X12_comesIn
          have k24 : k_inb (0 : Int32) 24 = true := by decide
          obtain ⟨μ1, z1, z2⟩ := q_wh T0 A0 hr0 hdn W1 c (d + ln) (by omega) c3
          rw [e_ck k24, c_0, z1, e_bdS]
          have W2 := W1.M z2
          by_cases z : q_hv σ0.1 nd nw dn c (d + ln) = 0
          · rw [if_pos z, if_pos rfl, if_pos z, e_bvS]; exact skip σ1 μ1 W2
          · rw [if_neg z, if_neg q_t10, if_neg z]
            have kx : k_inb (nI (8 * (d + ln) + c)) 504 = true := e_in (by omega) (by decide)
            have ky : k_inb (nI (8 * (d + ln + 1) + c)) 504 = true := e_in (by omega) (by decide)
            have nt : ¬ nI (t + 1) = -1 := q_n1 (by omega)
            rw [q_ix2, nI_1, q_ix2]
            simp only [e_ck kx, e_ck ky, nI_clamp (show 8 * (d + ln) + c < 2 ^ 31 by omega), nI_clamp (show 8 * (d + ln + 1) + c < 2 ^ 31 by omega)]
            obtain ⟨σ2, x1, W3⟩ := q_reach l hdn W2 (by rw [W2.1.1 50 (by omega)]; exact A0.1.1) c (d + ln) (t + 1) (by omega) c3 (by omega)
            obtain ⟨σ3, x2, W4⟩ := q_wake l W3 c (d + ln + 1) (t + 1) (by omega) (by omega) (by omega)
            rw [x1, e_bvS, x2, e_bvS, q_fewer _ _ nt, e_bdS, e_nm, q_fewer _ _ nt, e_bdS, e_nm, e_bvS]
            exact skip σ3 _ W4
        · have h0 : f_X10_holdsAt (nI c) (nI (d + ln)) σ = some (0, σ) := by
            unfold f_X10_holdsAt f_X10_holdsAt_b20
            rw [if_neg (nI_pos (by omega)), if_neg (show ¬ (8 : Int32) ≤ nI c from nI_ge (a := c) (b := 8) (by omega) (by decide)), if_neg (nI_pos (by omega)), if_neg (show ¬ nI (d + ln) ≤ (60 : Int32) from nI_ge (a := 60) (b := d + ln) (by omega) (by omega))]
          rw [h0, e_bdS, if_pos rfl, if_pos (show (60 : Int32) < nI (d + ln) from nI_lt (a := 60) (b := d + ln) (by omega) (by omega))]
          exact skip σ μ W
theorem q_day_i (T0 : q_TX nb nl nd nw nk σ0.1 μ0.1) (A0 : q_A nb dn 50 σ0 0 μ0.1) (hr0 : q_rest μ0.1) (hdn : dn ≤ 9900) (r120 : Int32 → MSt → Option MSt) (r136 : Int32 → MSt → Option MSt) (d : Nat) (hd : d ≤ 60) : ∀ (k n1 n2 b : Nat) (σ μ : MSt), b + k = nb → k < n1 → k < n2 → q_WR nb nd nw dn σ0 μ0 σ μ → ∃ σ' μ', f_X10_plan_b128 r120 n1 (nI d) (nI b) σ = r120 (nI (d + 1)) σ' ∧ f_X12_layWays_b144 r136 n2 (nI d) (nI b) μ = r136 (nI (d + 1)) μ' ∧ q_WR nb nd nw dn σ0 μ0 σ' μ' := by
  have l := T0.le.1
  intro k
  induction k with
  | zero =>
    intro n1 n2 b σ μ h1 h2 h3 W
    obtain ⟨n1, rfl⟩ : ∃ z, n1 = z + 1 := ⟨n1 - 1, by omega⟩
    obtain ⟨n2, rfl⟩ : ∃ z, n2 = z + 1 := ⟨n2 - 1, by omega⟩
    have T : q_TX nb nl nd nw nk σ.1 μ.1 := T0.fr W.1 W.2.1
    refine ⟨σ, μ, ?_, ?_, W⟩
    · show f_X10_plan_b128_s r120 (f_X10_plan_b128 r120 n1) (nI d) (nI b) σ = _
      unfold f_X10_plan_b128_s f_X10_plan_b174
      rw [T.nbC, if_pos (nI_le (by omega) (by omega)), e_nm, nI_1]
    · show f_X12_layWays_b144_s r136 (f_X12_layWays_b144 r136 n2) (nI d) (nI b) μ = _
      unfold f_X12_layWays_b144_s
      rw [e_ck q_i18, c_0, T.nbM, if_pos (nI_le (by omega) (by omega)), e_nm, nI_1]
  | succ k ih =>
    intro n1 n2 b σ μ h1 h2 h3 W
    obtain ⟨n1, rfl⟩ : ∃ z, n1 = z + 1 := ⟨n1 - 1, by omega⟩
    obtain ⟨n2, rfl⟩ : ∃ z, n2 = z + 1 := ⟨n2 - 1, by omega⟩
    have T : q_TX nb nl nd nw nk σ.1 μ.1 := T0.fr W.1 W.2.1
    have kx : k_inb (nI (8 * d + b)) 488 = true := e_in (by omega) (by decide)
    have ky : k_inb (nI (8 * d + b)) 504 = true := e_in (by omega) (by decide)
    show ∃ σ' μ', f_X10_plan_b128_s r120 (f_X10_plan_b128 r120 n1) (nI d) (nI b) σ = _ ∧ f_X12_layWays_b144_s r136 (f_X12_layWays_b144 r136 n2) (nI d) (nI b) μ = _ ∧ _
    unfold f_X10_plan_b128_s f_X12_layWays_b144_s f_X10_plan_b168 f_X12_layWays_b289
    rw [T.nbC, if_neg (nI_ge (by omega) (by omega)), if_neg (show ¬ (8 : Int32) ≤ nI b from nI_ge (a := b) (b := 8) (by omega) (by decide)), e_ck q_i18, c_0, T.nbM, if_neg (nI_ge (by omega) (by omega)), q_ix, q_ix2, e_ck kx, e_ck ky, nI_clamp (by omega)]
    simp only [e_nm, nI_1]
    have nx : ∀ (σ1 μ1 : MSt), q_WR nb nd nw dn σ0 μ0 σ1 μ1 → ∃ σ' μ', f_X10_plan_b128 r120 n1 (nI d) (nI (b + 1)) σ1 = r120 (nI (d + 1)) σ' ∧ f_X12_layWays_b144 r136 n2 (nI d) (nI (b + 1)) μ1 = r136 (nI (d + 1)) μ' ∧ q_WR nb nd nw dn σ0 μ0 σ' μ' := fun σ1 μ1 W1 => ih n1 n2 (b + 1) σ1 μ1 (by omega) (by omega) (by omega) W1
    rcases W.2.2.1 d b hd (by omega) with ⟨q1, q2⟩ | ⟨m, hm, q1, q2⟩
    · rw [q1, q2, if_pos rfl, if_pos rfl]; exact nx σ μ W
    · have ne : ¬ nI m = (1000 : Int32) := fun q => by have := (nI_eq (a := m) (b := 1000) (by omega) (by omega)).mp q; omega
      rw [q1, q2, if_neg ne, if_neg (q_n1 (by omega))]
      have k24 : k_inb (0 : Int32) 24 = true := by decide
      unfold f_X10_goOn f_X10_goOn_b30 f_X12_layWays_b222
      obtain ⟨σ1, y1, W1⟩ := q_hat T0 A0 hdn W b d (by omega) hd
      obtain ⟨μ1, z1, z2⟩ := q_wh T0 A0 hr0 hdn W1 b d (by omega) hd
      have W2 := W1.M z2
      rw [q_ix, e_ck kx, nI_clamp (by omega), q1, e_nm, y1, e_bdS, e_ck k24, z1, e_bdS, nI_1]
      by_cases z : q_hv σ0.1 nd nw dn b d = 0
      · rw [if_pos z, if_pos rfl, if_pos z]
        obtain ⟨σ2, μ2, w1, w2, W3⟩ := q_go_on T0 A0 hr0 hdn r136 (f_X12_layWays_b144 r136 n2) b d m (by omega) hd hm nb FU FU 0 σ1 μ1 (by omega) (by unfold FU; omega) (by unfold FU; omega) W2
        have w1' : f_X10_goOn_b33 FU (nI b) (nI d) (nI m) 0 σ1 = _ := w1
        have w2' : f_X12_layWays_b225 r136 (f_X12_layWays_b144 r136 n2) FU (nI d) (nI b) (nI m) 0 μ1 = _ := w2
        rw [w1', e_bvS, w2']
        exact nx σ2 μ2 W3
      · rw [if_neg z, if_neg q_t10, if_neg z]
        have kz : k_inb (nI (8 * (d + 1) + b)) 504 = true := e_in (by omega) (by decide)
        obtain ⟨σ2, x1, W3⟩ := q_wake l W2 b (d + 1) m (by omega) (by omega) (by omega)
        rw [x1, e_bvS, q_ix2, e_ck kz, nI_clamp (by omega), q_fewer _ _ (q_n1 (by omega)), e_bdS, e_ck kz]
        obtain ⟨σ3, μ3, w1, w2, W4⟩ := q_go_on T0 A0 hr0 hdn r136 (f_X12_layWays_b144 r136 n2) b d m (by omega) hd hm nb FU FU 0 σ2 _ (by omega) (by unfold FU; omega) (by unfold FU; omega) W3
        have w1' : f_X10_goOn_b33 FU (nI b) (nI d) (nI m) 0 σ2 = _ := w1
        have w2' : f_X12_layWays_b225 r136 (f_X12_layWays_b144 r136 n2) FU (nI d) (nI b) (nI m) 0 _ = _ := w2
        rw [w1', e_bvS, w2']
        exact nx σ3 μ3 W4
theorem q_day_o (T0 : q_TX nb nl nd nw nk σ0.1 μ0.1) (A0 : q_A nb dn 50 σ0 0 μ0.1) (hr0 : q_rest μ0.1) (hdn : dn ≤ 9900) : ∀ (k n1 n2 d : Nat) (σ μ : MSt), d + k = 61 → k < n1 → k < n2 → q_WR nb nd nw dn σ0 μ0 σ μ → ∃ σ' μ', f_X10_plan_b120 n1 (nI d) σ = some σ' ∧ f_X12_layWays_b136 n2 (nI d) μ = some μ' ∧ q_WR nb nd nw dn σ0 μ0 σ' μ' := by
  intro k
  induction k with
  | zero =>
    intro n1 n2 d σ μ h1 h2 h3 W
    obtain ⟨n1, rfl⟩ : ∃ z, n1 = z + 1 := ⟨n1 - 1, by omega⟩
    obtain ⟨n2, rfl⟩ : ∃ z, n2 = z + 1 := ⟨n2 - 1, by omega⟩
    have hd : d = 61 := by omega
    subst hd
    exact ⟨σ, μ, rfl, rfl, W⟩
  | succ k ih =>
    intro n1 n2 d σ μ h1 h2 h3 W
    obtain ⟨n1, rfl⟩ : ∃ z, n1 = z + 1 := ⟨n1 - 1, by omega⟩
    obtain ⟨n2, rfl⟩ : ∃ z, n2 = z + 1 := ⟨n2 - 1, by omega⟩
    obtain ⟨σ1, μ1, y1, y2, W1⟩ := q_day_i T0 A0 hr0 hdn (f_X10_plan_b120 n1) (f_X12_layWays_b136 n2) d (by omega) nb FU FU 0 σ μ (by omega) (by unfold FU; have := T0.le.1; omega) (by unfold FU; have := T0.le.1; omega) W
    have y1' : f_X10_plan_b128 (f_X10_plan_b120 n1) FU (nI d) 0 σ = _ := y1
    have y2' : f_X12_layWays_b144 (f_X12_layWays_b136 n2) FU (nI d) 0 μ = _ := y2
    show ∃ σ' μ', f_X10_plan_b120_s (f_X10_plan_b120 n1) (nI d) σ = some σ' ∧ f_X12_layWays_b136_s (f_X12_layWays_b136 n2) (nI d) μ = some μ' ∧ _
    unfold f_X10_plan_b120_s f_X12_layWays_b136_s
    rw [if_neg (show ¬ (60 : Int32) < nI d from nI_nlt (a := 60) (b := d) (by omega) (by decide)), if_neg (show ¬ (60 : Int32) < nI d from nI_nlt (a := 60) (b := d) (by omega) (by decide)), y1', y2']
    exact ih n1 n2 (d + 1) σ1 μ1 (by omega) (by omega) (by omega) W1
/-- days before the first: nothing wakes -/
theorem q_skip_i (d : Nat) (hd : d ≤ 60) (r136 : Int32 → MSt → Option MSt) (μ : MSt) (hnb : nb ≤ 8) (s7 : μ.1 2 0 = nI nb) (hm : ∀ b, b < nb → μ.1 29 (8 * d + b) = -1) : ∀ (k n b : Nat), b + k = nb → k < n → f_X12_layWays_b144 r136 n (nI d) (nI b) μ = r136 (nI (d + 1)) μ := by
  intro k
  induction k with
  | zero =>
    intro n b h1 h2
    obtain ⟨n, rfl⟩ : ∃ z, n = z + 1 := ⟨n - 1, by omega⟩
    show f_X12_layWays_b144_s r136 (f_X12_layWays_b144 r136 n) (nI d) (nI b) μ = _
    unfold f_X12_layWays_b144_s
    rw [e_ck q_i18, c_0, s7, if_pos (nI_le (by omega) (by omega)), e_nm, nI_1]
  | succ k ih =>
    intro n b h1 h2
    obtain ⟨n, rfl⟩ : ∃ z, n = z + 1 := ⟨n - 1, by omega⟩
    have ky : k_inb (nI (8 * d + b)) 504 = true := e_in (by omega) (by decide)
    show f_X12_layWays_b144_s r136 (f_X12_layWays_b144 r136 n) (nI d) (nI b) μ = _
    unfold f_X12_layWays_b144_s f_X12_layWays_b289
    rw [e_ck q_i18, c_0, s7, if_neg (nI_ge (by omega) (by omega)), q_ix2, e_ck ky, nI_clamp (by omega), e_nm, if_pos (hm b (by omega)), e_nm, nI_1]
    exact ih n (b + 1) (by omega) (by omega)
theorem q_skip_o (first : Nat) (hf : first ≤ 60) (μ : MSt) (hnb : nb ≤ 8) (s7 : μ.1 2 0 = nI nb) (hm : ∀ d b, d < first → b < nb → μ.1 29 (8 * d + b) = -1) : ∀ (k n d : Nat), d + k = first → k < n → f_X12_layWays_b136 n (nI d) μ = f_X12_layWays_b136 (n - k) (nI first) μ := by
  intro k
  induction k with
  | zero => intro n d h1 h2; rw [show d = first by omega]; rfl
  | succ k ih =>
    intro n d h1 h2
    obtain ⟨n, rfl⟩ : ∃ z, n = z + 1 := ⟨n - 1, by omega⟩
    have e := q_skip_i d (by omega) (f_X12_layWays_b136 n) μ hnb s7 (fun b hb => hm d b (by omega) hb) nb FU 0 (by omega) (by unfold FU; omega)
    have e' : f_X12_layWays_b144 (f_X12_layWays_b136 n) FU (nI d) 0 μ = _ := e
    show f_X12_layWays_b136_s (f_X12_layWays_b136 n) (nI d) μ = _
    unfold f_X12_layWays_b136_s
    rw [if_neg (show ¬ (60 : Int32) < nI d from nI_nlt (a := 60) (b := d) (by omega) (by decide)), e', ih n (d + 1) (by omega) (by omega), show n + 1 - (k + 1) = n - k by omega]
end
