/-- the rows of the laws in the class (18 to 21) and in the reference (11 to 14) -/
def q_TL (R U : Nat → Nat → Int32) : Prop := ∀ r, r < 3 → ∃ fr to, fr ≤ to ∧ to ≤ 64 ∧ R 20 r = nI fr ∧ R 21 r = nI to ∧ U 11 r = nI fr ∧ U 12 r = nI to ∧ (fr < to → q_wf (R 18) (to - fr) fr 0) ∧ ∀ j, j < to → q_KN (R 18 j) (R 19 j) (U 13 j) (U 14 j)
def q_val (R : Nat → Nat → Int32) (r : Nat) (env : Nat → Int64) : Int64 := if R 20 r < R 21 r then q_out (q_evl (R 18) (R 19) env ((R 21 r).toNatClampNeg - (R 20 r).toNatClampNeg) (R 20 r).toNatClampNeg 0 (fun _ => 0)) else -9223372036854775808
theorem s_X4_worth (U : Nat → Nat → Int32) (o1 r : Nat) (hr : r < 3) (σ : MSt) (h : q_TL σ.1 U) : ∃ σ', f_X4_worth 17 o1 (nI r) σ = some (q_val σ.1 r (q_env σ o1), σ') ∧ FS σ σ' := by
  obtain ⟨fr, to, h1, h2, h3, h4, -, -, h7, h8⟩ := h r hr
  have hk : k_inb (nI r) 3 = true := e_in hr (by decide)
  unfold f_X4_worth q_val f_X4_worth_b24
  simp only [e_ck hk, e_nm, nI_clamp (show r < 2 ^ 31 by omega)]
  rw [if_neg (nI_pos (by omega)), if_neg (show ¬ (3 : Int32) ≤ nI r from nI_ge (a := r) (b := 3) (by omega) (by decide)), show σ.1 (17 + 3) r = nI fr from h3, show σ.1 (17 + 4) r = nI to from h4, nI_clamp (by omega), nI_clamp (by omega)]
  by_cases c : fr < to
  · rw [if_pos (nI_lt c (by omega)), if_pos (nI_lt c (by omega))]
    obtain ⟨σ', q1, q2, -⟩ := s_X4_worth_l o1 r hr to h2 (to - fr) FU fr 0 (fun _ => 0) σ (by omega) (by unfold FU; omega) h4 (fun j hj => ⟨_, _, h8 j hj⟩) (h7 c) (by omega) (fun j hj => by omega)
    exact ⟨σ', q1, q2⟩
  · rw [if_neg (nI_nlt (by omega) (by omega)), if_neg (nI_nlt (by omega) (by omega))]
    exact ⟨σ, rfl, FS.rf⟩
theorem s_X12_hasLaw (R : Nat → Nat → Int32) (r : Nat) (hr : r < 3) (μ : MSt) (h : q_TL R μ.1) : f_X12_hasLaw (nI r) μ = some (if R 20 r < R 21 r then 1 else 0, μ) := by
  obtain ⟨fr, to, h1, h2, h3, h4, h5, h6, -, -⟩ := h r hr
  have hk : k_inb (nI r) 6 = true := e_in (by omega) (by decide)
  have z0 : k_bo 0 = true := rfl
  have z1 : k_bo 1 = true := rfl
  unfold f_X12_hasLaw f_X12_hasLaw_b20
  simp only [e_ck hk, e_ck z0, e_ck z1, nI_clamp (show r < 2 ^ 31 by omega)]
  rw [h5, h6, h3, h4]
  by_cases c : fr < to
  · rw [if_neg (nI_ge c (by omega)), if_pos (nI_lt c (by omega))]
  · rw [if_pos (nI_le (by omega) (by omega)), if_neg (nI_nlt (by omega) (by omega))]
theorem s_X12_goes (R : Nat → Nat → Int32) (env : Nat → Int64) (henv : ∀ j, q_bd (env j)) (r : Nat) (hr : r < 3) (μ : MSt) (h : q_TL R μ.1) (he : ∀ j, j < 7 → μ.2 15 j = env j) (hlt : R 20 r < R 21 r) : ∃ μ', f_X12_goes (nI r) μ = some (if q_val R r env = -9223372036854775808 then 0 else 1, μ') ∧ FM μ μ' ∧ (¬ q_val R r env = -9223372036854775808 → μ'.2 16 0 = q_val R r env) := by
  obtain ⟨fr, to, h1, h2, h3, h4, h5, h6, h7, h8⟩ := h r hr
  have c : fr < to := by
    rw [h3, h4] at hlt
    exact (nI_ltI (by omega) (by omega)).mp hlt
  have hk : k_inb (nI r) 6 = true := e_in (by omega) (by decide)
  unfold f_X12_goes q_val
  simp only [e_ck hk, e_nm, nI_clamp (show r < 2 ^ 31 by omega)]
  rw [if_pos hlt, m_Ir _ _ _ _ (by decide), h5, h3, h4, nI_clamp (by omega), nI_clamp (by omega)]
  have f0 := FM.m31 μ 0
  obtain ⟨μ', q1, q2, q3⟩ := s_X12_goes_l (R 18) (R 19) env r hr to h2 henv (to - fr) FU fr 0 (fun _ => 0) (mI μ 0 31 0) (by omega) (by unfold FU; omega) (by rw [f0.1 12 (by decide)]; exact h6) (by rw [f0.1 13 (by decide), f0.1 14 (by decide)]; exact h8) (fun j hj => he j hj) (h7 c) (by omega) (by rw [m_I]; simp; rfl) (fun j hj => by omega)
  rw [q1]
  cases hq : q_evl (R 18) (R 19) env (to - fr) fr 0 (fun _ => 0) with
  | none => exact ⟨μ', rfl, f0.trans q2, fun e => absurd rfl e⟩
  | some S' =>
    have b := q3 S' hq
    have ne : ¬ q_out (some S') = -9223372036854775808 := q_bd_ne b.2
    rw [if_neg ne, if_neg (by intro e; cases e)]
    exact ⟨μ', rfl, f0.trans q2, fun _ => b.1⟩
def q_en (J A M g d m h : Int32) (j : Nat) : Int64 := if j = 0 then J.toInt64 else if j = 1 then A.toInt64 else if j = 2 then M.toInt64 else if j = 3 then g.toInt64 else if j = 4 then d.toInt64 else if j = 5 then m.toInt64 else h.toInt64
theorem q_en_bd (J A M g d m h : Int32) (j : Nat) : q_bd (q_en J A M g d m h j) := by
  unfold q_en
  repeat' split
  all_goals exact q_bd_int _
/-- the wind of a date in the reference, as tried, drawn or told -/
def q_gM (μ : MSt) (d : Nat) : Int32 := if μ.1 0 46 = 1 then 0 else if μ.1 0 50 = -1 then (if nI d < μ.1 2 3 then μ.1 10 d else 0) else μ.1 0 50
theorem s_X12_gale (d : Nat) (hd : d < 2 ^ 30) (μ : MSt) (nw : Nat) (hb : μ.1 2 3 = nI nw) (hn : nw ≤ 20) : f_X12_galeOf (nI d) μ = some (q_gM μ d, μ) := by
  have hi : k_inb (3 : Int32) 18 = true := by decide
  have c3 : ((3 : Int32)).toNatClampNeg = 3 := by decide
  unfold f_X12_galeOf f_X12_galeOf_b45 q_gM
  by_cases h1 : μ.1 0 46 = 1
  · rw [if_pos h1, if_pos h1]
  · rw [if_neg h1, if_neg h1]
    by_cases h2 : μ.1 0 50 = -1
    · rw [if_pos h2, if_pos h2, e_ck hi, c3, hb]
      by_cases h : d < nw
      · rw [if_neg (nI_ge h (by omega)), e_ck (e_in (by omega) (by decide)), nI_clamp (by omega), if_pos (nI_lt h (by omega))]
      · rw [if_pos (nI_le (by omega) (by omega)), if_neg (nI_nlt (by omega) (by omega))]
    · rw [if_neg h2, if_neg h2]
theorem q_gM_FM {μ μ' : MSt} (h : FM μ μ') (d : Nat) : q_gM μ' d = q_gM μ d := by
  unfold q_gM
  rw [h.2 46 (by omega) (by omega), h.2 50 (by omega) (by omega), h.1 2 (by decide), h.1 10 (by decide)]
theorem s_X12_calls (J M L : Int32) (d : Nat) (hd : d < 2 ^ 30) (m h : Int32) (μ : MSt) (nw : Nat) (hb : μ.1 2 3 = nI nw) (hn : nw ≤ 20) : ∃ μ', f_X12_calls J M L (nI d) m h μ = some μ' ∧ FM μ μ' ∧ ∀ j, j < 7 → μ'.2 15 j = q_en J (q_ago (nI d) L) M (q_gM μ d) (nI d) m h j := by
  have go : ∀ A, ∃ μ', f_X12_calls_b19 J M (nI d) m h A μ = some μ' ∧ FM μ μ' ∧ ∀ j, j < 7 → μ'.2 15 j = q_en J A M (q_gM μ d) (nI d) m h j := by
    intro A
    unfold f_X12_calls_b19
    have i0 : k_inb (0 : Int32) 7 = true := by decide
    have i1 : k_inb (1 : Int32) 7 = true := by decide
    have i2 : k_inb (2 : Int32) 7 = true := by decide
    have i3 : k_inb (3 : Int32) 7 = true := by decide
    have i4 : k_inb (4 : Int32) 7 = true := by decide
    have i5 : k_inb (5 : Int32) 7 = true := by decide
    have i6 : k_inb (6 : Int32) 7 = true := by decide
    have d0 : ((0 : Int32)).toNatClampNeg = 0 := by decide
    have d1 : ((1 : Int32)).toNatClampNeg = 1 := by decide
    have d2 : ((2 : Int32)).toNatClampNeg = 2 := by decide
    have d3 : ((3 : Int32)).toNatClampNeg = 3 := by decide
    have d4 : ((4 : Int32)).toNatClampNeg = 4 := by decide
    have d5 : ((5 : Int32)).toNatClampNeg = 5 := by decide
    have d6 : ((6 : Int32)).toNatClampNeg = 6 := by decide
    simp only [e_ck i0, e_ck i1, e_ck i2, e_ck i3, e_ck i4, e_ck i5, e_ck i6, e_nm, d0, d1, d2, d3, d4, d5, d6]
    have f1 : FM μ (mJ (mJ (mJ μ 15 0 J.toInt64) 15 1 A.toInt64) 15 2 M.toInt64) := ((FM.mJ _ _ _ _).trans (FM.mJ _ _ _ _)).trans (FM.mJ _ _ _ _)
    rw [s_X12_gale d hd _ nw (by rw [f1.1 2 (by decide)]; exact hb) hn, e_bdS, q_gM_FM f1]
    refine ⟨_, rfl, (((f1.trans (FM.mJ _ _ _ _)).trans (FM.mJ _ _ _ _)).trans (FM.mJ _ _ _ _)).trans (FM.mJ _ _ _ _), fun j hj => ?_⟩
    have hc : j = 0 ∨ j = 1 ∨ j = 2 ∨ j = 3 ∨ j = 4 ∨ j = 5 ∨ j = 6 := by omega
    rcases hc with rfl | rfl | rfl | rfl | rfl | rfl | rfl <;> simp [m_J, q_en]
  unfold f_X12_calls q_ago
  by_cases c : L = -1
  · rw [if_pos c, if_pos c]; exact go 99
  · rw [if_neg c, if_neg c]; exact go _
/-- MOOD, HOLDS and the gain of a night by what is had of a bay -/
def q_moodv (J A : Int32) (v : Int64) : Int32 := (k_lmax 0 (k_lmin 100 (if v = -9223372036854775808 then (10 * J - A).toInt64 else v))).toInt32
def q_mood (R : Nat → Nat → Int32) (J M L d g h : Int32) : Int32 := q_moodv J (q_ago d L) (q_val R 0 (q_en J (q_ago d L) M g d 0 h))
def q_holdv (m g : Int32) (v : Int64) : Int32 := if v = -9223372036854775808 then (if m < 10 * g then 0 else 1) else if v = 0 then 0 else 1
def q_hold (R : Nat → Nat → Int32) (J M L d g h : Int32) : Int32 := q_holdv (q_mood R J M L d g h) g (q_val R 1 (q_en J (q_ago d L) M g d (q_mood R J M L d g h) h))
def q_gainv (v : Int64) : Int32 := if v = -9223372036854775808 then 1 else (k_lmax 0 (k_lmin 9 v)).toInt32
def q_gain (R : Nat → Nat → Int32) (J M L d g h : Int32) : Int32 := q_gainv (q_val R 2 (q_en J (q_ago d L) M g d (q_mood R J M L d g h) h))
theorem q_hold01 (R : Nat → Nat → Int32) (J M L d g h : Int32) : q_hold R J M L d g h = 0 ∨ q_hold R J M L d g h = 1 := by
  unfold q_hold q_holdv
  repeat' split
  all_goals first | exact Or.inl rfl | exact Or.inr rfl
def q_JB (J : Int32) : Prop := 0 ≤ J.toInt ∧ J.toInt ≤ 9999
def q_LB (L : Int32) : Prop := -1 ≤ L.toInt ∧ L.toInt ≤ 20000
theorem q_ago_b {L : Int32} (h : q_LB L) (d : Nat) (hd : d ≤ 20000) : -20000 ≤ (q_ago (nI d) L).toInt ∧ (q_ago (nI d) L).toInt ≤ 99 := by
  unfold q_ago k_min
  have e99 : (99 : Int32).toInt = 99 := by decide
  by_cases c : L = -1
  · rw [if_pos c, e99]; omega
  · rw [if_neg c]
    have e : (nI d - L).toInt = (d : Int) - L.toInt := by
      rw [Int32.toInt_sub, nI_toInt (by omega)]
      exact Int.bmod_eq_of_le (by have := h.2; have := h.1; omega) (by have := h.2; have := h.1; omega)
    by_cases c2 : nI d - L < 99
    · rw [if_pos c2, e]
      rw [Int32.lt_iff_toInt_lt, e, e99] at c2
      have := h.2
      omega
    · rw [if_neg c2, e99]; omega
theorem q_lin {J A : Int32} (hJ : q_JB J) (hA : -20000 ≤ A.toInt ∧ A.toInt ≤ 99) : (10 * J - A).toInt64 = 10 * J.toInt64 - A.toInt64 := by
  apply Int64.toInt_inj.mp
  have h1 := hJ.1
  have h2 := hJ.2
  have e10 : (10 : Int32).toInt = 10 := by decide
  have f10 : (10 : Int64).toInt = 10 := by decide
  have m1 : (10 * J).toInt = 10 * J.toInt := by
    rw [Int32.toInt_mul, e10]
    exact Int.bmod_eq_of_le (by omega) (by omega)
  have m2 : (10 * J.toInt64).toInt = 10 * J.toInt := by
    rw [Int64.toInt_mul, f10, Int32.toInt_toInt64]
    exact Int.bmod_eq_of_le (by omega) (by omega)
  rw [Int32.toInt_toInt64, Int32.toInt_sub, Int64.toInt_sub, m1, m2, Int32.toInt_toInt64]
  rw [Int.bmod_eq_of_le (by omega) (by omega), Int.bmod_eq_of_le (by omega) (by omega)]
/-- the class's scene at o1 -/
def q_SC (σ : MSt) (o1 : Nat) (J M L d g h : Int32) : Prop := σ.1 o1 0 = J ∧ σ.1 o1 1 = M ∧ σ.1 o1 2 = L ∧ σ.1 o1 3 = q_ago d L ∧ σ.1 o1 4 = d ∧ σ.1 o1 5 = g ∧ σ.1 o1 6 = h
theorem q_SC.env {σ : MSt} {o1 : Nat} {J M L d g h : Int32} (s : q_SC σ o1 J M L d g h) : q_env σ o1 = q_en J (q_ago d L) M g d (σ.1 o1 7) h := by
  obtain ⟨a0, a1, a2, a3, a4, a5, a6⟩ := s
  funext j
  unfold q_env q_en
  rw [a0, a1, a3, a4, a5, a6]
/-- frame of the class: a scene's row o1 and the stack alone -/
def FO (o1 : Nat) (σ σ' : MSt) : Prop := (∀ r, r ≠ o1 → σ'.1 r = σ.1 r) ∧ ∀ r, r ≠ 22 → σ'.2 r = σ.2 r
theorem FO.trans {o1 : Nat} {σ σ1 σ2 : MSt} (h : FO o1 σ σ1) (h2 : FO o1 σ1 σ2) : FO o1 σ σ2 := ⟨fun r hr => (h2.1 r hr).trans (h.1 r hr), fun r hr => (h2.2 r hr).trans (h.2 r hr)⟩
theorem FO.ofS {o1 : Nat} {σ σ' : MSt} (h : FS σ σ') : FO o1 σ σ' := ⟨fun r _ => by rw [h.1], h.2⟩
theorem FO.ofQ {o1 : Nat} {σ σ' : MSt} (h : q_only o1 σ σ') : FO o1 σ σ' := ⟨h.1, fun r _ => by rw [h.2]⟩
theorem FO.rf {o1 : Nat} {σ : MSt} : FO o1 σ σ := ⟨fun _ _ => rfl, fun _ _ => rfl⟩
theorem q_TL_eq {R R' U U' : Nat → Nat → Int32} (h : q_TL R U) (h18 : R' 18 = R 18) (h19 : R' 19 = R 19) (h20 : R' 20 = R 20) (h21 : R' 21 = R 21) (u1 : U' 11 = U 11) (u2 : U' 12 = U 12) (u3 : U' 13 = U 13) (u4 : U' 14 = U 14) : q_TL R' U' := by
  unfold q_TL at h ⊢
  rw [h18, h19, h20, h21, u1, u2, u3, u4]
  exact h
theorem q_val_eq {R R' : Nat → Nat → Int32} (h18 : R' 18 = R 18) (h19 : R' 19 = R 19) (h20 : R' 20 = R 20) (h21 : R' 21 = R 21) (r : Nat) (env : Nat → Int64) : q_val R' r env = q_val R r env := by
  unfold q_val
  rw [h18, h19, h20, h21]
theorem s_X4_feel (U : Nat → Nat → Int32) (o1 : Nat) (ho : 22 < o1) (σ : MSt) (h : q_TL σ.1 U) {J M L d g hh : Int32} (sc : q_SC σ o1 J M L d g hh) : ∃ σ', f_X4_feel 17 o1 σ = some σ' ∧ q_SC σ' o1 J M L d g hh ∧ σ'.1 o1 7 = q_mood σ.1 J M L d g hh ∧ FO o1 σ σ' := by
  obtain ⟨a0, a1, a2, a3, a4, a5, a6⟩ := sc
  have k1 : q_only o1 σ (mI σ o1 7 0) := q_only.mI _ _ _ _
  have s1 : q_SC (mI σ o1 7 0) o1 J M L d g hh := ⟨by simp [m_I, a0], by simp [m_I, a1], by simp [m_I, a2], by simp [m_I, a3], by simp [m_I, a4], by simp [m_I, a5], by simp [m_I, a6]⟩
  have e18 : (mI σ o1 7 0).1 18 = σ.1 18 := k1.1 18 (by omega)
  have e19 : (mI σ o1 7 0).1 19 = σ.1 19 := k1.1 19 (by omega)
  have e20 : (mI σ o1 7 0).1 20 = σ.1 20 := k1.1 20 (by omega)
  have e21 : (mI σ o1 7 0).1 21 = σ.1 21 := k1.1 21 (by omega)
  obtain ⟨σ1, q1, q2⟩ := s_X4_worth U o1 0 (by omega) (mI σ o1 7 0) (q_TL_eq h e18 e19 e20 e21 rfl rfl rfl rfl)
  have m0 : (mI σ o1 7 0).1 o1 7 = 0 := by simp [m_I]
  rw [s1.env, m0, q_val_eq e18 e19 e20 e21] at q1
  unfold f_X4_feel f_X4_feel_b34
  have q1 : f_X4_worth 17 o1 (0 : Int32) (mI σ o1 7 0) = _ := q1
  rw [e_nm, q1, e_blS, q2.1, s1.1, s1.2.2.2.1]
  simp only [lg_cmp_eq]
  have r7 : ∀ v, (mI σ1 o1 7 v).1 o1 7 = v := fun v => by simp [m_I]
  have fin : ∀ v, q_SC (mI σ1 o1 7 v) o1 J M L d g hh ∧ FO o1 σ (mI σ1 o1 7 v) := by
    intro v
    have e := q2.1
    refine ⟨⟨?_, ?_, ?_, ?_, ?_, ?_, ?_⟩, (FO.ofQ k1).trans ((FO.ofS q2).trans (FO.ofQ (q_only.mI _ _ _ _)))⟩ <;> simp only [m_I] <;> rw [if_neg (by omega), e]
    · exact s1.1
    · exact s1.2.1
    · exact s1.2.2.1
    · exact s1.2.2.2.1
    · exact s1.2.2.2.2.1
    · exact s1.2.2.2.2.2.1
    · exact s1.2.2.2.2.2.2
  unfold q_mood q_moodv
  by_cases c : q_val σ.1 0 (q_en J (q_ago d L) M g d 0 hh) = -9223372036854775808
  · rw [if_pos c, if_pos c, e_nm, e_nm]
    exact ⟨_, rfl, (fin _).1, r7 _, (fin _).2⟩
  · rw [if_neg c, if_neg c, e_nm]
    exact ⟨_, rfl, (fin _).1, r7 _, (fin _).2⟩
theorem s_X4_grips (U : Nat → Nat → Int32) (o1 : Nat) (σ : MSt) (h : q_TL σ.1 U) {J M L d g hh : Int32} (sc : q_SC σ o1 J M L d g hh) (hm : σ.1 o1 7 = q_mood σ.1 J M L d g hh) : ∃ σ', f_X4_grips 17 o1 σ = some (q_hold σ.1 J M L d g hh, σ') ∧ FS σ σ' := by
  obtain ⟨σ1, q1, q2⟩ := s_X4_worth U o1 1 (by omega) σ h
  rw [sc.env, hm] at q1
  have z0 : k_bo 0 = true := rfl
  have z1 : k_bo 1 = true := rfl
  unfold f_X4_grips f_X4_grips_b48
  rw [show (1 : Int32) = nI 1 from rfl, q1, e_blS]
  simp only [lg_cmp_eq, show nI 1 = (1 : Int32) from rfl, e_ck z0, e_ck z1]
  rw [q2.1, hm, sc.2.2.2.2.2.1]
  refine ⟨σ1, ?_, q2⟩
  unfold q_hold q_holdv
  generalize q_val σ.1 1 _ = v
  repeat' split
  all_goals rfl
theorem s_X4_gain (U : Nat → Nat → Int32) (o1 : Nat) (σ : MSt) (h : q_TL σ.1 U) {J M L d g hh : Int32} (sc : q_SC σ o1 J M L d g hh) (hm : σ.1 o1 7 = q_mood σ.1 J M L d g hh) : ∃ σ', f_X4_gainOf 17 o1 σ = some (q_gain σ.1 J M L d g hh, σ') ∧ FS σ σ' := by
  obtain ⟨σ1, q1, q2⟩ := s_X4_worth U o1 2 (by omega) σ h
  rw [sc.env, hm] at q1
  unfold f_X4_gainOf f_X4_gainOf_b31
  rw [show (2 : Int32) = nI 2 from rfl, q1, e_blS]
  simp only [lg_cmp_eq]
  refine ⟨σ1, ?_, q2⟩
  unfold q_gain q_gainv
  generalize q_val σ.1 2 _ = v
  repeat' split
  all_goals rfl
theorem s_X12_moodBy (R : Nat → Nat → Int32) (J M L : Int32) (d : Nat) (hd : d ≤ 20000) (hh : Int32) (μ : MSt) (nw : Nat) (hb : μ.1 2 3 = nI nw) (hn : nw ≤ 20) (h : q_TL R μ.1) (hJ : q_JB J) (hL : q_LB L) : ∃ μ', f_X12_moodBy J M L (nI d) hh μ = some (q_mood R J M L (nI d) (q_gM μ d) hh, μ') ∧ FM μ μ' := by
  obtain ⟨μ1, q1, q2, q3⟩ := s_X12_calls J M L d (by omega) 0 hh μ nw hb hn
  have i1 : k_inb (1 : Int32) 7 = true := by decide
  have d1 : ((1 : Int32)).toNatClampNeg = 1 := by decide
  have i0 : k_inb (0 : Int32) 64 = true := by decide
  have hT : q_TL R μ1.1 := q_TL_eq h rfl rfl rfl rfl (q2.1 11 (by decide)) (q2.1 12 (by decide)) (q2.1 13 (by decide)) (q2.1 14 (by decide))
  unfold f_X12_moodBy f_X12_moodBy_b54
  rw [q1, e_bvS]
  simp only [e_ck i1, e_nm, d1, c_0, e_ck i0]
  have hl : f_X12_hasLaw (0 : Int32) μ1 = _ := s_X12_hasLaw R 0 (by omega) μ1 hT
  rw [q3 1 (by omega), hl, e_bdS, show q_en J (q_ago (nI d) L) M (q_gM μ d) (nI d) 0 hh 1 = (q_ago (nI d) L).toInt64 from rfl, ← q_lin hJ (q_ago_b hL d hd)]
  unfold q_mood q_moodv
  by_cases c : R 20 0 < R 21 0
  · rw [if_pos c, if_neg (by decide)]
    obtain ⟨μ2, p1, p2, p3⟩ := s_X12_goes R (q_en J (q_ago (nI d) L) M (q_gM μ d) (nI d) 0 hh) (q_en_bd _ _ _ _ _ _ _) 0 (by omega) μ1 hT q3 c
    have p1 : f_X12_goes (0 : Int32) μ1 = _ := p1
    rw [p1, e_bdS]
    by_cases c2 : q_val R 0 (q_en J (q_ago (nI d) L) M (q_gM μ d) (nI d) 0 hh) = -9223372036854775808
    · rw [if_pos c2, if_pos rfl, if_pos c2]
      exact ⟨μ2, rfl, q2.trans p2⟩
    · rw [if_neg c2, if_neg (by decide), if_neg c2, p3 c2]
      exact ⟨μ2, rfl, q2.trans p2⟩
  · have e : q_val R 0 (q_en J (q_ago (nI d) L) M (q_gM μ d) (nI d) 0 hh) = -9223372036854775808 := if_neg c
    rw [if_neg c, if_pos rfl, if_pos e]
    exact ⟨μ1, rfl, q2⟩
theorem s_X12_holdsBy (R : Nat → Nat → Int32) (J M L : Int32) (d : Nat) (hd : d ≤ 20000) (hh : Int32) (μ : MSt) (nw : Nat) (hb : μ.1 2 3 = nI nw) (hn : nw ≤ 20) (h : q_TL R μ.1) (hJ : q_JB J) (hL : q_LB L) : ∃ μ', f_X12_holdsBy J M L (nI d) hh μ = some (q_hold R J M L (nI d) (q_gM μ d) hh, μ') ∧ FM μ μ' := by
  have z0 : k_bo 0 = true := rfl
  have z1 : k_bo 1 = true := rfl
  have i0 : k_inb (0 : Int32) 64 = true := by decide
  obtain ⟨μ0, r1, r2⟩ := s_X12_moodBy R J M L d hd hh μ nw hb hn h hJ hL
  obtain ⟨μ1, q1, q2, q3⟩ := s_X12_calls J M L d (by omega) (q_mood R J M L (nI d) (q_gM μ d) hh) hh μ0 nw (by rw [r2.1 2 (by decide)]; exact hb) hn
  rw [q_gM_FM r2] at q3
  have f1 := r2.trans q2
  have hT : q_TL R μ1.1 := q_TL_eq h rfl rfl rfl rfl (f1.1 11 (by decide)) (f1.1 12 (by decide)) (f1.1 13 (by decide)) (f1.1 14 (by decide))
  unfold f_X12_holdsBy
  rw [r1, e_bdS, q1, e_bvS, show (1 : Int32) = nI 1 from rfl, s_X12_hasLaw R 1 (by omega) μ1 hT, e_bdS]
  unfold f_X12_holdsBy_b61 f_X12_holdsBy_b80
  rw [show nI 1 = (1 : Int32) from rfl]
  simp only [e_ck z0, e_ck z1, e_ck i0, c_0, lg_cmp_eq]
  have plain : ∀ μ2, FM μ μ2 → q_val R 1 (q_en J (q_ago (nI d) L) M (q_gM μ d) (nI d) (q_mood R J M L (nI d) (q_gM μ d) hh) hh) = -9223372036854775808 → ∃ μ', (k_bd (f_X12_galeOf (nI d) μ2) fun q2 σ1 => if q_mood R J M L (nI d) (q_gM μ d) hh < 10 * q2 then some ((0 : Int32), σ1) else some ((1 : Int32), σ1)) = some (q_hold R J M L (nI d) (q_gM μ d) hh, μ') ∧ FM μ μ' := by
    intro μ2 f2 e
    rw [s_X12_gale d (by omega) μ2 nw (by rw [f2.1 2 (by decide)]; exact hb) hn, e_bdS, q_gM_FM f2]
    unfold q_hold q_holdv
    rw [if_pos e]
    refine ⟨μ2, ?_, f2⟩
    split <;> rfl
  by_cases c : R 20 1 < R 21 1
  · rw [if_pos c, if_neg (by decide)]
    obtain ⟨μ2, p1, p2, p3⟩ := s_X12_goes R (q_en J (q_ago (nI d) L) M (q_gM μ d) (nI d) (q_mood R J M L (nI d) (q_gM μ d) hh) hh) (q_en_bd _ _ _ _ _ _ _) 1 (by omega) μ1 hT q3 c
    rw [show (1 : Int32) = nI 1 from rfl, p1, e_bdS, show nI 1 = (1 : Int32) from rfl]
    by_cases c2 : q_val R 1 (q_en J (q_ago (nI d) L) M (q_gM μ d) (nI d) (q_mood R J M L (nI d) (q_gM μ d) hh) hh) = -9223372036854775808
    · rw [if_pos c2, if_pos rfl]
      exact plain μ2 (f1.trans p2) c2
    · rw [if_neg c2, if_neg (by decide), p3 c2]
      refine ⟨μ2, ?_, f1.trans p2⟩
      unfold q_hold q_holdv
      rw [if_neg c2]
      split <;> rfl
  · rw [if_neg c, if_pos rfl]
    exact plain μ1 f1 (if_neg c)
