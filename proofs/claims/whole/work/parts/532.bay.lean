/-! bay: what the class answers, or throws (1: no such bay, 2: no such what) -/
def f_X11_bay (p1 p2 : Int32) (σ : MSt) : Option ((Int32 × Int32) × MSt) :=
  k_bd (f_X0_hasBay 10 p1 σ) fun q σ1 =>
  if q = 0 then some ((1, 0), σ1) else
  if p2 = 0 then k_ck (k_inb p1 8) (some ((0, σ1.1 51 p1.toNatClampNeg), σ1)) else
  if p2 = 1 then k_bd (f_X5_daysSince 50 p1 σ1) (fun r σ2 => some ((0, r), σ2)) else
  if p2 = 2 then k_ck (k_inb p1 8) (some ((0, σ1.1 52 p1.toNatClampNeg), σ1)) else
  if p2 = 3 then (if σ1.1 50 4 = p1 then some ((0, 1), σ1) else some ((0, 0), σ1)) else some ((2, 0), σ1)
def Sim_bay (RR : MSt → MSt → Prop) : Prop := ∀ (σ μ : MSt) (a0 a1 : Int32), RR σ μ → ∃ (k v b : Int32) (σ1 μ1 : MSt), f_X11_bay a0 a1 σ = some ((k, v), σ1) ∧ f_X12_bay a0 a1 μ = some (b, μ1) ∧ f_X12_thrown μ1 = some (k, μ1) ∧ (k = 0 → v = b) ∧ RR σ1 μ1
theorem sim_bay : Sim_bay RR := by
  intro σ μ a0 a1 h
  have hh : ∀ v, RR σ (mI μ 0 0 v) := fun v => h.fr FL.rf (FX.thrown μ v)
  obtain ⟨nb, nl, nd, nw, nk, dn, Tx, -, AA, -⟩ := id h
  have nb8 := Tx.le.1
  have th : ∀ v, f_X12_thrown (mI μ 0 0 v) = some (v, mI μ 0 0 v) := fun v => by unfold f_X12_thrown; rw [m_I, if_pos ⟨rfl, rfl⟩]
  have dead : ∀ v, ¬ v = 0 → f_X12_bay_b27 a0 a1 v μ = some (0, mI μ 0 0 v) := fun v hv => by
    unfold f_X12_bay_b27
    rw [e_nm, if_neg (show ¬ (mI μ 0 0 v).1 0 0 = 0 by rw [m_I, if_pos ⟨rfl, rfl⟩]; exact hv)]
  unfold f_X11_bay f_X12_bay f_X12_bay_b22
  rw [s_X0_hasBay 10 a0 σ nb Tx.nbC Tx.le.1, e_bdS, s_X12_isBay a0 μ nb Tx.nbM Tx.le.1, e_bdS]
  by_cases c : 0 ≤ a0.toInt ∧ a0.toInt < nb
  · obtain ⟨x, hx, rfl⟩ := q_of c (by omega)
    rw [if_pos c, if_neg q_t10, if_neg q_t10]
    have i8 : k_inb (nI x) 8 = true := e_in (by omega) (by decide)
    have i192 : k_inb (nI x) 192 = true := e_in (by omega) (by decide)
    have i0 : k_inb (0 : Int32) 24 = true := by decide
    have cl : (nI x).toNatClampNeg = x := nI_clamp (by omega)
    obtain ⟨⟨a1', a2'⟩, aj, am, al, ⟨as5, -⟩, -, -, -, ap⟩ := AA
    have ej := (aj x (by omega)).1
    have em := am x (by omega)
    have el := (al x (by omega)).1
    rw [show 8 * 0 + x = x by omega] at ej em el
    have live : f_X12_bay_b27 (nI x) a1 0 μ = if a1 = 0 then some (μ.1 26 x, mI μ 0 0 0) else if a1 = 1 then (if μ.1 28 x = -1 then some (99, mI μ 0 0 0) else some (k_min 99 (μ.1 17 0 - μ.1 28 x), mI μ 0 0 0)) else if a1 = 2 then some (μ.1 27 x, mI μ 0 0 0) else (if μ.1 19 0 = -1 then (if μ.1 18 0 = nI x then some (1, mI μ 0 0 0) else some (0, mI μ 0 0 0)) else some (0, mI μ 0 0 0)) := by
      have f : ∀ r, r ≠ 0 → (mI μ 0 0 0).1 r = μ.1 r := fun r hr => m_Ir _ _ _ _ hr
      unfold f_X12_bay_b27 f_X12_bay_b108 f_X12_bay_b140 f_X12_bay_b141
      rw [e_nm, if_pos (show (mI μ 0 0 0).1 0 0 = 0 by rw [m_I, if_pos ⟨rfl, rfl⟩])]
      simp only [e_ck i192, e_ck i0, cl, c_0]
      rw [f 26 (by omega), f 28 (by omega), f 17 (by omega), f 27 (by omega), f 19 (by omega), f 18 (by omega)]
    by_cases c0 : a1 = 0
    · subst c0
      rw [if_pos (show (0 : Int32) = 0 from rfl), e_ck i8, cl, if_neg (show ¬ (0 : Int32) < 0 by decide), if_pos (show (0 : Int32) ≤ 3 by decide), live, if_pos (show (0 : Int32) = 0 from rfl)]
      exact ⟨_, _, _, _, _, rfl, rfl, th 0, fun _ => ej, hh 0⟩
    by_cases c1 : a1 = 1
    · subst c1
      have ds : f_X5_daysSince 50 (nI x) σ = if σ.1 53 x = -1 then some (99, σ) else some (k_min 99 (σ.1 50 3 - σ.1 53 x), σ) := by
        unfold f_X5_daysSince f_X5_daysSince_b20
        rw [if_neg (nI_pos (by omega)), if_neg (show ¬ (8 : Int32) ≤ nI x from nI_ge (a := x) (b := 8) (by omega) (by decide)), e_ck i8, e_ck i8, cl]
      rw [if_neg (show ¬ (1 : Int32) = 0 by decide), if_pos (show (1 : Int32) = 1 from rfl), ds, if_neg (show ¬ (1 : Int32) < 0 by decide), if_pos (show (1 : Int32) ≤ 3 by decide), live, if_neg (show ¬ (1 : Int32) = 0 by decide), if_pos (show (1 : Int32) = 1 from rfl), a1', a2', show σ.1 53 x = μ.1 28 x from el]
      by_cases q : μ.1 28 x = -1
      · rw [if_pos q, if_pos q, e_bdS]
        exact ⟨_, _, _, _, _, rfl, rfl, th 0, fun _ => rfl, hh 0⟩
      · rw [if_neg q, if_neg q, e_bdS]
        exact ⟨_, _, _, _, _, rfl, rfl, th 0, fun _ => rfl, hh 0⟩
    by_cases c2 : a1 = 2
    · subst c2
      rw [if_neg (show ¬ (2 : Int32) = 0 by decide), if_neg (show ¬ (2 : Int32) = 1 by decide), if_pos (show (2 : Int32) = 2 from rfl), e_ck i8, cl, if_neg (show ¬ (2 : Int32) < 0 by decide), if_pos (show (2 : Int32) ≤ 3 by decide), live, if_neg (show ¬ (2 : Int32) = 0 by decide), if_neg (show ¬ (2 : Int32) = 1 by decide), if_pos (show (2 : Int32) = 2 from rfl)]
      exact ⟨_, _, _, _, _, rfl, rfl, th 0, fun _ => em, hh 0⟩
    by_cases c3 : a1 = 3
    · subst c3
      rw [if_neg (show ¬ (3 : Int32) = 0 by decide), if_neg (show ¬ (3 : Int32) = 1 by decide), if_neg (show ¬ (3 : Int32) = 2 by decide), if_pos (show (3 : Int32) = 3 from rfl), if_neg (show ¬ (3 : Int32) < 0 by decide), if_pos (show (3 : Int32) ≤ 3 by decide), live, if_neg (show ¬ (3 : Int32) = 0 by decide), if_neg (show ¬ (3 : Int32) = 1 by decide), if_neg (show ¬ (3 : Int32) = 2 by decide)]
      rcases ap with ⟨p5, -, p4, -⟩ | ⟨b, e, hb, p5, -, -, p4⟩
      · rw [← as5, p5, if_pos rfl, ← p4]
        by_cases q : σ.1 50 4 = nI x
        · rw [if_pos q, if_pos q]
          exact ⟨_, _, _, _, _, rfl, rfl, th 0, fun _ => rfl, hh 0⟩
        · rw [if_neg q, if_neg q]
          exact ⟨_, _, _, _, _, rfl, rfl, th 0, fun _ => rfl, hh 0⟩
      · rw [← as5, p5, if_neg (q_n1 (by omega)), if_neg (show ¬ σ.1 50 4 = nI x by rw [p4]; exact fun q => q_n1 (by omega) q.symm)]
        exact ⟨_, _, _, _, _, rfl, rfl, th 0, fun _ => rfl, hh 0⟩
    rw [if_neg c0, if_neg c1, if_neg c2, if_neg c3, dead 2 (by decide)]
    have out : (if a1 < 0 then some ((0 : Int32), mI μ 0 0 2) else (if a1 ≤ 3 then f_X12_bay_b27 (nI x) a1 0 μ else some (0, mI μ 0 0 2))) = some (0, mI μ 0 0 2) := by
      by_cases q : a1 < 0
      · rw [if_pos q]
      · by_cases q3 : a1 ≤ 3
        · obtain ⟨y, hy, rfl⟩ := nI_of2 (n := 3) (by decide) q q3
          have : y = 0 ∨ y = 1 ∨ y = 2 ∨ y = 3 := by omega
          rcases this with rfl | rfl | rfl | rfl
          · exact absurd rfl c0
          · exact absurd rfl c1
          · exact absurd rfl c2
          · exact absurd rfl c3
        · rw [if_neg q, if_neg q3]
    exact ⟨_, _, _, _, _, rfl, out, th 2, fun q => absurd q (by decide), hh 2⟩
  · rw [if_neg c, if_pos rfl, if_pos rfl, dead 1 (by decide)]
    exact ⟨_, _, _, _, _, rfl, rfl, th 1, fun q => absurd q (by decide), hh 1⟩
