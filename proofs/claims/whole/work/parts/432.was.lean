/-! WHAT A DEED WAS: was, tells -/
def q_ftj (R : Nat → Nat → Int32) (x j : Int32) (i : Nat) : Int32 := if nI i = x then j else R 15 i
theorem q_ftj_eq {R R' : Nat → Nat → Int32} (h : R' 15 = R 15) (x j : Int32) : q_ftj R' x j = q_ftj R x j := by
  funext i
  unfold q_ftj
  rw [h]
def q_ftt (R : Nat → Nat → Int32) (nd b d : Nat) (x j : Int32) : Int32 × Int32 × Int32 := q_fs (R 13) (R 14) (q_ftj R x j) (nI b) 0 (nI d) nd 13 0 (0, 0, -1)
def q_ft (R : Nat → Nat → Int32) (nd nw b d : Nat) (x j : Int32) : Int32 := q_hs R nw d (q_ftt R nd b d x j)
theorem q_ft01 (R : Nat → Nat → Int32) (nd nw b d : Nat) (x j : Int32) : q_ft R nd nw b d x j = 0 ∨ q_ft R nd nw b d x j = 1 := q_hold01 _ _ _ _ _ _ _
theorem q_ft_eq {R R' : Nat → Nat → Int32} (f : ∀ r, r < 58 → R' r = R r) (nd nw b d : Nat) (x j : Int32) : q_ft R' nd nw b d x j = q_ft R nd nw b d x j := by
  unfold q_ft q_ftt
  rw [q_hs_eq f, f 13 (by omega), f 14 (by omega), q_ftj_eq (f 15 (by omega))]
section
variable {nb nl nd nw nk : Nat}
theorem s_X3_sft_l (U : Nat → Nat → Int32) (b d : Nat) (x j : Int32) : ∀ (k n i : Nat) (σ : MSt), nd < i + k → i ≤ nd → k ≤ n → q_TX nb nl nd nw nk σ.1 U → ∃ σ', f_X3_seesFromText_b10 n (nI b) (nI d) x j (nI i) σ = f_X3_seesFromText_b101 (nI d) σ' ∧ (σ'.1 70 0, σ'.1 70 1, σ'.1 70 2) = q_fs (σ.1 13) (σ.1 14) (q_ftj σ.1 x j) (nI b) 0 (nI d) nd k i (σ.1 70 0, σ.1 70 1, σ.1 70 2) ∧ q_only 70 σ σ' := by
  intro k
  induction k with
  | zero => intro n i σ h1 h2 h3; omega
  | succ k ih =>
    intro n i σ h1 h2 h3 T
    obtain ⟨n, rfl⟩ : ∃ z, n = z + 1 := ⟨n - 1, by omega⟩
    have l3 := T.le.2.2.1
    show ∃ σ', f_X3_seesFromText_b10_s (f_X3_seesFromText_b10 n) (nI b) (nI d) x j (nI i) σ = _ ∧ _
    unfold f_X3_seesFromText_b10_s q_fs
    rw [T.ndC]
    by_cases hi : i < nd
    · have hk : k_inb (nI i) 12 = true := e_in (by omega) (by decide)
      obtain ⟨-, ⟨x2, b2, p2, -⟩, -⟩ := T.deed i hi
      have n0 : ¬ σ.1 14 i < 0 := by rw [p2]; exact nI_pos (by omega)
      rw [if_neg (nI_ge hi (by omega)), if_neg (show ¬ (12 : Int32) ≤ nI i from nI_ge (a := i) (b := 12) (by omega) (by decide)), if_pos hi]
      simp only [e_ck hk, e_nm, nI_clamp (show i < 2 ^ 31 by omega), f_X3_seesFromText_b95, f_X3_seesFromText_b82, nI_1]
      have go := ih n (i + 1) σ (by omega) (by omega) (by omega) T
      by_cases c1 : σ.1 13 i = nI b
      · rw [if_pos c1]
        by_cases c3 : nI d < σ.1 14 i
        · rw [if_pos c3, if_neg (fun q => q.2.2 c3)]
          exact go
        · have hc : σ.1 13 i = nI b ∧ ¬ σ.1 14 i < 0 ∧ ¬ nI d < σ.1 14 i := ⟨c1, n0, c3⟩
          rw [if_neg c3, if_pos hc]
          have add : ∀ y, ∃ σ', (k_bv (f_X8_add 70 y (σ.1 14 i) σ) fun σ1 => f_X3_seesFromText_b10 n (nI b) (nI d) x j (nI (i + 1)) σ1) = f_X3_seesFromText_b101 (nI d) σ' ∧ (σ'.1 70 0, σ'.1 70 1, σ'.1 70 2) = q_fs (σ.1 13) (σ.1 14) (q_ftj σ.1 x j) (nI b) 0 (nI d) nd k (i + 1) (k_min 9999 (σ.1 70 0 + y), σ.1 70 1 + 1, k_max (σ.1 70 2) (σ.1 14 i)) ∧ q_only 70 σ σ' := by
            intro y
            obtain ⟨σ1, e1, a0, a1, a2, ko⟩ := s_X8_add 70 y (σ.1 14 i) σ
            rw [e1, e_bvS]
            obtain ⟨σ2, e2, f0, k2⟩ := ih n (i + 1) σ1 (by omega) (by omega) (by omega) (T.eq (fun r _ _ => ko.1 r (by omega)) (fun _ _ _ => rfl))
            refine ⟨σ2, e2, ?_, ko.trans k2⟩
            rw [f0, a0, a1, a2, ko.1 13 (by decide), ko.1 14 (by decide), q_ftj_eq (ko.1 15 (by decide))]
          have ej : q_ftj σ.1 x j i = if nI i = x then j else σ.1 15 i := rfl
          rw [ej]
          by_cases c : nI i = x
          · rw [if_pos c, if_pos c]
            exact add j
          · rw [if_neg c, if_neg c]
            exact add (σ.1 15 i)
      · rw [if_neg c1, if_neg (fun q => c1 q.1)]
        exact go
    · rw [if_pos (nI_le (by omega) (by omega)), if_neg hi]
      exact ⟨σ, rfl, rfl, q_only.rf⟩
theorem s_X3_sft (U : Nat → Nat → Int32) (b d : Nat) (hd : d < 2 ^ 30) (x j : Int32) (σ : MSt) (T : q_TX nb nl nd nw nk σ.1 U) : ∃ σ', f_X3_seesFromText (nI b) (nI d) x j σ = some (q_ft σ.1 nd nw b d x j, σ') ∧ FO 70 σ σ' := by
  obtain ⟨σ1, e1, a0, a1, a2, k1⟩ := s_X8_forget 70 σ
  have T1 : q_TX nb nl nd nw nk σ1.1 U := T.eq (fun r _ _ => k1.1 r (by omega)) (fun _ _ _ => rfl)
  obtain ⟨σ2, e2, f0, k2⟩ := s_X3_sft_l U b d x j 13 FU 0 σ1 (by have := T.le.2.2.1; omega) (by omega) (by unfold FU; omega) T1
  have e2' : f_X3_seesFromText_b10 FU (nI b) (nI d) x j 0 σ1 = _ := e2
  have k12 := k1.trans k2
  have ft : (σ2.1 70 0, σ2.1 70 1, σ2.1 70 2) = q_ftt σ.1 nd b d x j := by
    rw [f0, a0, a1, a2, k1.1 13 (by decide), k1.1 14 (by decide), q_ftj_eq (k1.1 15 (by decide))]
    rfl
  unfold f_X3_seesFromText
  rw [e1, e_bvS, e2']
  unfold f_X3_seesFromText_b101
  rw [s_X0_galeOf 10 d hd σ2 nw (by rw [k12.1 10 (by decide)]; exact T.nwC) T.le.2.2.2.1, e_bdS]
  have eg : (if d < nw then σ2.1 (10 + 6) d else 0) = q_gC σ.1 nw d := by unfold q_gC; rw [k12.1 16 (by decide)]
  rw [eg]
  obtain ⟨σ3, s1, s2, s3, s4, s5, s6, s7, s8, s9⟩ := s_X8_set 70 (nI d) (q_gC σ.1 nw d) 0 σ2
  have t1 : σ2.1 70 0 = (q_ftt σ.1 nd b d x j).1 := by rw [← ft]
  have t2 : σ2.1 70 1 = (q_ftt σ.1 nd b d x j).2.1 := by rw [← ft]
  have t3 : σ2.1 70 2 = (q_ftt σ.1 nd b d x j).2.2 := by rw [← ft]
  have sc : q_SC σ3 70 (q_ftt σ.1 nd b d x j).1 (q_ftt σ.1 nd b d x j).2.1 (q_ftt σ.1 nd b d x j).2.2 (nI d) (q_gC σ.1 nw d) 0 := ⟨by rw [s2, t1], by rw [s3, t2], by rw [s4, t3], by rw [s5, t3], s6, s7, s8⟩
  have k3 : FO 70 σ σ3 := (FO.ofQ k12).trans (FO.ofQ s9)
  obtain ⟨σ4, v1, v2, v3, v4⟩ := s_X4_feel U 70 (by decide) σ3 (T.law.C k3.lt) sc
  have k4 := k3.trans v4
  rw [q_mood_eq k3.lt] at v3
  obtain ⟨σ5, w1, w2⟩ := s_X4_grips U 70 σ4 (T.law.C k4.lt) v2 (by rw [v3, q_mood_eq k4.lt])
  rw [q_hold_eq k4.lt] at w1
  rw [s1, e_bvS, v1, e_bvS, w1, e_bdS, e_ck (k_bo01 (q_hold01 _ _ _ _ _ _ _))]
  exact ⟨σ5, rfl, k4.trans (FO.ofS w2)⟩
end
def q_S2 (U : Nat → Nat → Int32) : Prop := U 17 2 = 0 ∧ ∀ b, b < 8 → U 26 (16 + b) = 0 ∧ U 27 (16 + b) = 0 ∧ U 28 (16 + b) = -1
theorem s_X12_wh2 {nb nl nd nw nk : Nat} {R : Nat → Nat → Int32} {μ : MSt} (T : q_TX nb nl nd nw nk R μ.1) (S : q_S2 μ.1) (h46 : μ.1 0 46 = 0) (h50 : μ.1 0 50 = -1) (b d : Nat) (hb : b < 8) (hd : d ≤ 20000) (jj : Nat) (hj : jj ≤ 9) (h49 : μ.1 0 49 = nI jj) : ∃ μ', f_X12_willHold 2 (nI b) (nI d) (-1) μ = some (q_ft R nd nw b d (μ.1 0 48) (nI jj), μ') ∧ FM μ μ' := by
  obtain ⟨l1, l2, l3, l4, l5⟩ := T.le
  have e : (8 : Int32) * 2 + nI b = nI (16 + b) := by rw [show (8 : Int32) * 2 = nI 16 from rfl, nI_add]
  have hk : k_inb (nI (16 + b)) 192 = true := e_in (by omega) (by decide)
  have gM : ∀ μ1 : MSt, FM μ μ1 → q_gM μ1 d = q_gC R nw d := by
    intro μ1 f1
    rw [q_gM_FM f1]
    unfold q_gM q_gC
    rw [if_neg (by rw [h46]; decide), if_pos h50, T.nwM]
    by_cases c : d < nw
    · obtain ⟨k, -, e1, e2⟩ := T.wind d c
      rw [if_pos (nI_lt c (by omega)), if_pos c, e1, e2]
    · rw [if_neg (nI_nlt (by omega) (by omega)), if_neg c]
  have fore : ∃ μ1, f_X12_foresees 2 (nI b) (nI d) (-1) μ = some μ1 ∧ (μ1.1 0 51, μ1.1 0 52, μ1.1 0 53) = q_ftt R nd b d (μ.1 0 48) (nI jj) ∧ FM μ μ1 := by
    unfold f_X12_foresees f_X12_foresees_b63
    simp only [e, e_ck hk, e_nm, nI_clamp (show 16 + b < 2 ^ 31 by omega), if_true]
    have q0 : ∀ (x : MSt) (j : Nat) (v : Int32), 51 ≤ j → j ≤ 53 → q_seen x (mI x 0 j v) := fun x j v a c => ⟨fun r hr => m_Ir _ _ _ _ hr, rfl, fun i hi => by rw [m_I, if_neg (by omega)]⟩
    have q3 : q_seen μ (mI (mI (mI μ 0 51 (μ.1 26 (16 + b))) 0 52 ((mI μ 0 51 (μ.1 26 (16 + b))).1 27 (16 + b))) 0 53 ((mI (mI μ 0 51 (μ.1 26 (16 + b))) 0 52 ((mI μ 0 51 (μ.1 26 (16 + b))).1 27 (16 + b))).1 28 (16 + b))) := ((q0 _ 51 _ (by omega) (by omega)).trans (q0 _ 52 _ (by omega) (by omega))).trans (q0 _ 53 _ (by omega) (by omega))
    generalize hμ3 : (mI (mI (mI μ 0 51 (μ.1 26 (16 + b))) 0 52 ((mI μ 0 51 (μ.1 26 (16 + b))).1 27 (16 + b))) 0 53 ((mI (mI μ 0 51 (μ.1 26 (16 + b))) 0 52 ((mI μ 0 51 (μ.1 26 (16 + b))).1 27 (16 + b))).1 28 (16 + b))) = μ3 at q3 ⊢
    obtain ⟨z0, z1, z2⟩ := S.2 b hb
    have v51 : μ3.1 0 51 = 0 := by rw [← hμ3]; simp [m_I, z0]
    have v52 : μ3.1 0 52 = 0 := by rw [← hμ3]; simp [m_I, z1]
    have v53 : μ3.1 0 53 = -1 := by rw [← hμ3]; simp [m_I, z2]
    obtain ⟨μ5, p1, p2, p3⟩ := s_X12_foresees_l 2 (by omega) (nI b) (nI d) nd l3 13 FU 0 μ3 (by rw [q3.1 2 (by decide)]; exact T.ndM) (by omega) (by omega) (by unfold FU; omega)
    refine ⟨μ5, p1, ?_, FM_seen (q3.trans p3)⟩
    rw [p2, v51, v52, v53, q3.1 7 (by decide), q3.1 8 (by decide), q_joy_seen q3, q3.1 17 (by decide), S.1]
    unfold q_ftt
    refine q_fs_cong _ _ _ (fun i hi => ?_) _ _ _
    obtain ⟨⟨x1, -, p, q⟩, ⟨x2, -, p', q'⟩, x3, -, p'', q''⟩ := T.deed i hi
    refine ⟨by rw [p, q], by rw [p', q'], ?_⟩
    unfold q_joy q_ftj
    rw [if_neg (by rw [h46]; decide), h49, p'', q'']
  obtain ⟨μ1, p1, p2, p3⟩ := fore
  have hb2 : q_JB (q_ftt R nd b d (μ.1 0 48) (nI jj)).1 ∧ q_LB (q_ftt R nd b d (μ.1 0 48) (nI jj)).2.2 := by
    unfold q_ftt
    refine q_fs_b _ _ _ (fun i hi => ?_) _ _ _ ⟨by unfold q_JB; decide, by unfold q_LB; decide⟩
    obtain ⟨-, ⟨x2, z, p', -⟩, x3, y, p'', -⟩ := T.deed i hi
    refine ⟨⟨x2, z, p'⟩, ?_⟩
    unfold q_ftj
    by_cases c : nI i = μ.1 0 48
    · rw [if_pos c]; exact ⟨jj, hj, rfl⟩
    · rw [if_neg c]; exact ⟨x3, y, p''⟩
  unfold q_ft q_hs
  generalize q_ftt R nd b d (μ.1 0 48) (nI jj) = t at p2 hb2 ⊢
  have hT : q_TL R μ1.1 := q_TL_eq T.law rfl rfl rfl rfl (p3.1 11 (by decide)) (p3.1 12 (by decide)) (p3.1 13 (by decide)) (p3.1 14 (by decide))
  have e1 : μ1.1 0 51 = t.1 := by rw [← p2]
  have e2 : μ1.1 0 52 = t.2.1 := by rw [← p2]
  have e3 : μ1.1 0 53 = t.2.2 := by rw [← p2]
  obtain ⟨μ2, r1, r2⟩ := s_X12_holdsBy R t.1 t.2.1 t.2.2 d hd 0 μ1 nw (by rw [p3.1 2 (by decide)]; exact T.nwM) l4 hT hb2.1 hb2.2
  unfold f_X12_willHold
  rw [p1, e_bvS, e1, e2, e3, r1, e_bdS, e_ck (k_bo01 (q_hold01 _ _ _ _ _ _ _)), gM μ1 p3]
  exact ⟨μ2, rfl, p3.trans r2⟩
/-- an anchor begins: the reference's -/
theorem s_X12_starts_l (t : Nat) (ht : t < 24) : ∀ (k n i : Nat) (μ : MSt), i + k = 8 → k < n → ∃ μ', f_X12_starts_b89 n (nI t) (nI i) μ = some μ' ∧ (∀ b, b < 8 → i ≤ b → μ'.1 26 (8 * t + b) = 0 ∧ μ'.1 27 (8 * t + b) = 0 ∧ μ'.1 28 (8 * t + b) = -1) ∧ (∀ r, (r < 26 ∨ 28 < r) → μ'.1 r = μ.1 r) ∧ (∀ r, 25 < r → r < 29 → ∀ x, (x < 8 * t + i ∨ 8 * t + 7 < x) → μ'.1 r x = μ.1 r x) := by
  intro k
  induction k with
  | zero =>
    intro n i μ h1 h2
    obtain ⟨n, rfl⟩ : ∃ z, n = z + 1 := ⟨n - 1, by omega⟩
    have hi : i = 8 := by omega
    subst hi
    show ∃ μ', f_X12_starts_b89_s (f_X12_starts_b89 n) (nI t) (nI 8) μ = some μ' ∧ _
    unfold f_X12_starts_b89_s
    rw [if_pos (show (8 : Int32) ≤ nI 8 by decide)]
    exact ⟨μ, rfl, fun b h1 h2 => by omega, fun _ _ => rfl, fun _ _ _ _ _ => rfl⟩
  | succ k ih =>
    intro n i μ h1 h2
    obtain ⟨n, rfl⟩ : ∃ z, n = z + 1 := ⟨n - 1, by omega⟩
    have e1 : (8 : Int32) * nI t + nI i = nI (8 * t + i) := by rw [show (8 : Int32) = nI 8 from rfl, pk_mul, nI_add]
    have hk1 : k_inb (nI (8 * t + i)) 192 = true := e_in (by omega) (by decide)
    show ∃ μ', f_X12_starts_b89_s (f_X12_starts_b89 n) (nI t) (nI i) μ = some μ' ∧ _
    unfold f_X12_starts_b89_s
    rw [if_neg (show ¬ (8 : Int32) ≤ nI i from nI_ge (a := i) (b := 8) (by omega) (by decide)), e1]
    simp only [e_ck hk1, e_nm, nI_clamp (show 8 * t + i < 2 ^ 31 by omega), nI_1]
    obtain ⟨μ', e, p1, p2, p3⟩ := ih n (i + 1) (mI (mI (mI μ 26 (8 * t + i) 0) 27 (8 * t + i) 0) 28 (8 * t + i) (-1)) (by omega) (by omega)
    refine ⟨μ', e, ?_, ?_, ?_⟩
    · intro b hb hib
      by_cases c : b = i
      · subst c
        rw [p3 26 (by omega) (by omega) _ (by omega), p3 27 (by omega) (by omega) _ (by omega), p3 28 (by omega) (by omega) _ (by omega)]
        simp [m_I]
      · exact p1 b hb (by omega)
    · intro r hr; rw [p2 r hr, m_Ir _ _ _ _ (by omega), m_Ir _ _ _ _ (by omega), m_Ir _ _ _ _ (by omega)]
    · intro r x y z hz; rw [p3 r x y z (by omega)]; simp only [m_I]; rw [if_neg (by omega), if_neg (by omega), if_neg (by omega)]
theorem s_X12_starts (t : Nat) (ht : t < 24) (μ : MSt) (nb : Nat) (hnb : nb ≤ 8) (s7 : μ.1 2 0 = nI nb) : ∃ μ', f_X12_starts (nI t) μ = some μ' ∧ μ'.1 17 t = 0 ∧ μ'.1 18 t = (if nb = 0 then -1 else μ.1 2 4) ∧ μ'.1 19 t = -1 ∧ μ'.1 20 t = -1 ∧ μ'.1 21 t = 0 ∧ μ'.1 22 t = 0 ∧ μ'.1 23 t = 0 ∧ μ'.1 24 t = 0 ∧ μ'.1 25 t = μ.1 2 7 ∧ (∀ b, b < 8 → μ'.1 26 (8 * t + b) = 0 ∧ μ'.1 27 (8 * t + b) = 0 ∧ μ'.1 28 (8 * t + b) = -1) ∧ FA t μ μ' := by
  have hk1 : k_inb (nI t) 24 = true := e_in ht (by decide)
  have k4 : k_inb (4 : Int32) 18 = true := by decide
  have k7 : k_inb (7 : Int32) 18 = true := by decide
  have d4 : ((4 : Int32)).toNatClampNeg = 4 := by decide
  have d7 : ((7 : Int32)).toNatClampNeg = 7 := by decide
  have go : ∀ v : Int32, ∃ μ', f_X12_starts_b31 (nI t) (nI t) v (mI μ 17 t 0) = some μ' ∧ μ'.1 17 t = 0 ∧ μ'.1 18 t = v ∧ μ'.1 19 t = -1 ∧ μ'.1 20 t = -1 ∧ μ'.1 21 t = 0 ∧ μ'.1 22 t = 0 ∧ μ'.1 23 t = 0 ∧ μ'.1 24 t = 0 ∧ μ'.1 25 t = μ.1 2 7 ∧ (∀ b, b < 8 → μ'.1 26 (8 * t + b) = 0 ∧ μ'.1 27 (8 * t + b) = 0 ∧ μ'.1 28 (8 * t + b) = -1) ∧ FA t μ μ' := by
    intro v
    unfold f_X12_starts_b31
    simp only [e_ck hk1, e_ck k7, d7, e_nm, nI_clamp (show t < 2 ^ 31 by omega)]
    generalize hμ : mI (mI (mI (mI (mI (mI (mI (mI (mI μ 17 t 0) 18 t v) 19 t (-1)) 20 t (-1)) 21 t 0) 22 t 0) 23 t 0) 24 t 0) 25 t _ = μ1
    have f1 : ∀ r, (r < 17 ∨ 25 < r) → μ1.1 r = μ.1 r := by
      intro r hr
      rw [← hμ]
      repeat rw [m_Ir _ _ _ _ (by omega)]
    have f2 : ∀ r i, i ≠ t → μ1.1 r i = μ.1 r i := by
      intro r i hi
      rw [← hμ]
      simp only [m_I]
      simp [hi]
    obtain ⟨μ', e, p1, p2, p3⟩ := s_X12_starts_l t ht 8 FU 0 μ1 (by omega) (by unfold FU; omega)
    have e' : f_X12_starts_b89 FU (nI t) 0 μ1 = some μ' := e
    refine ⟨μ', e', ?_, ?_, ?_, ?_, ?_, ?_, ?_, ?_, ?_, fun b hb => p1 b hb (by omega), fun r hr => by rw [p2 r (by omega), f1 r (by omega)], fun r x y i hi => by rw [p2 r (by omega), f2 r i hi], fun r x y i hi => by rw [p3 r x y i (by omega), f1 r (by omega)]⟩
    all_goals (rw [p2 _ (by omega), ← hμ]; simp [m_I])
  unfold f_X12_starts
  simp only [e_ck hk1, e_ck q_i18, e_ck k4, e_nm, c_0, d4, nI_clamp (show t < 2 ^ 31 by omega)]
  rw [m_Ir _ _ _ _ (by omega), s7]
  by_cases c : nb = 0
  · rw [if_pos c, if_pos (by rw [c]; rfl)]; exact go _
  · rw [if_neg c, if_neg (nI_ne0 (by omega) (by omega))]; exact go _
