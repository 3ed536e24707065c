/-! THE PURE LAYER: rules by which the printed functions are evaluated -/
theorem e_ck {α : Type} {b : Bool} {X : Option α} (h : b = true) : k_ck b X = X := by subst h; rfl
theorem e_nm {α β : Type} (e : α) (k : α → β) : k_nm e k = k e := rfl
theorem e_bd {α : Type} {o : Option (Int32 × MSt)} {k : Int32 → MSt → Option α} {r : Int32} {s : MSt} (h : o = some (r, s)) : k_bd o k = k r s := by subst h; rfl
theorem e_bl {α : Type} {o : Option (Int64 × MSt)} {k : Int64 → MSt → Option α} {r : Int64} {s : MSt} (h : o = some (r, s)) : k_bl o k = k r s := by subst h; rfl
theorem e_bv {α : Type} {o : Option MSt} {k : MSt → Option α} {s : MSt} (h : o = some s) : k_bv o k = k s := by subst h; rfl
theorem e_bdS {α : Type} (r : Int32) (s : MSt) (k : Int32 → MSt → Option α) : k_bd (some (r, s)) k = k r s := rfl
theorem e_blS {α : Type} (r : Int64) (s : MSt) (k : Int64 → MSt → Option α) : k_bl (some (r, s)) k = k r s := rfl
theorem e_bvS {α : Type} (s : MSt) (k : MSt → Option α) : k_bv (some s) k = k s := rfl
theorem e_in {n N : Nat} (h : n < N) (hN : N < 2 ^ 31) : k_inb (nI n) N = true := by
  unfold k_inb
  rw [nI_toInt (by omega), Bool.and_eq_true, decide_eq_true_eq, decide_eq_true_eq]
  omega
theorem m_I (σ : MSt) (o j : Nat) (v : Int32) (o' j' : Nat) : (mI σ o j v).1 o' j' = if o' = o ∧ j' = j then v else σ.1 o' j' := by
  unfold mI va_up upd
  by_cases h : o' = o
  · subst h
    by_cases h2 : j' = j <;> simp [h2]
  · simp [h]
theorem m_I2 (σ : MSt) (o j : Nat) (v : Int32) : (mI σ o j v).2 = σ.2 := rfl
theorem m_J1 (σ : MSt) (o j : Nat) (v : Int64) : (mJ σ o j v).1 = σ.1 := rfl
theorem m_J (σ : MSt) (o j : Nat) (v : Int64) (o' j' : Nat) : (mJ σ o j v).2 o' j' = if o' = o ∧ j' = j then v else σ.2 o' j' := by
  unfold mJ va_up vp_updL
  by_cases h : o' = o
  · subst h
    by_cases h2 : j' = j <;> simp [h2]
  · simp [h]
theorem m_Ir (σ : MSt) (o j : Nat) (v : Int32) {o' : Nat} (h : o' ≠ o) : (mI σ o j v).1 o' = σ.1 o' := by unfold mI va_up; simp [h]
theorem t_0 : ((0 : Int32)).toInt = 0 := by decide
theorem t_1 : ((1 : Int32)).toInt = 1 := by decide
theorem t_8 : ((8 : Int32)).toInt = 8 := by decide
theorem t_12 : ((12 : Int32)).toInt = 12 := by decide
theorem t_20 : ((20 : Int32)).toInt = 20 := by decide
theorem c_0 : ((0 : Int32)).toNatClampNeg = 0 := by decide
theorem c_2 : ((2 : Int32)).toNatClampNeg = 2 := by decide
/-- hasBay, hasDeed: the class's -/
theorem s_X0_hasBay (o : Nat) (x : Int32) (σ : MSt) (nb : Nat) (hb : σ.1 o 7 = nI nb) (hn : nb ≤ 8) : f_X0_hasBay o x σ = some (if 0 ≤ x.toInt ∧ x.toInt < nb then 1 else 0, σ) := by
  have hn2 : (nI nb).toInt = nb := nI_toInt (by omega)
  simp only [f_X0_hasBay, f_X0_hasBay_b22, f_X0_hasBay_b23, hb, Int32.le_iff_toInt_le, Int32.lt_iff_toInt_lt, t_8, t_0, hn2]
  repeat' split
  all_goals first | (exfalso; omega) | rfl
theorem s_X0_hasDeed (o : Nat) (x : Int32) (σ : MSt) (nd : Nat) (hb : σ.1 o 9 = nI nd) (hn : nd ≤ 12) : f_X0_hasDeed o x σ = some (if 0 ≤ x.toInt ∧ x.toInt < nd then 1 else 0, σ) := by
  have hn2 : (nI nd).toInt = nd := nI_toInt (by omega)
  simp only [f_X0_hasDeed, f_X0_hasDeed_b22, f_X0_hasDeed_b23, hb, Int32.le_iff_toInt_le, Int32.lt_iff_toInt_lt, t_12, t_0, hn2]
  repeat' split
  all_goals first | (exfalso; omega) | rfl
/-- isBay, isDeed: the reference's -/
theorem s_X12_isBay (x : Int32) (σ : MSt) (nb : Nat) (hb : σ.1 2 0 = nI nb) (hn : nb ≤ 8) : f_X12_isBay x σ = some (if 0 ≤ x.toInt ∧ x.toInt < nb then 1 else 0, σ) := by
  have hn2 : (nI nb).toInt = nb := nI_toInt (by omega)
  have hi : k_inb (0 : Int32) 18 = true := by decide
  simp only [f_X12_isBay, f_X12_isBay_b18, f_X12_isBay_b19, e_ck hi, c_0, hb, Int32.le_iff_toInt_le, Int32.lt_iff_toInt_lt, t_0, hn2]
  repeat' split
  all_goals first | (exfalso; omega) | rfl
theorem s_X12_isDeed (x : Int32) (σ : MSt) (nd : Nat) (hb : σ.1 2 2 = nI nd) (hn : nd ≤ 12) : f_X12_isDeed x σ = some (if 0 ≤ x.toInt ∧ x.toInt < nd then 1 else 0, σ) := by
  have hn2 : (nI nd).toInt = nd := nI_toInt (by omega)
  have hi : k_inb (2 : Int32) 18 = true := by decide
  simp only [f_X12_isDeed, f_X12_isDeed_b18, f_X12_isDeed_b19, e_ck hi, c_2, hb, Int32.le_iff_toInt_le, Int32.lt_iff_toInt_lt, t_0, hn2]
  repeat' split
  all_goals first | (exfalso; omega) | rfl
/-- the first of n places that holds x, from i on; -1 if there is none -/
def q_find (f : Nat → Int32) (x : Int32) (n : Nat) : Nat → Nat → Int32
  | 0, _ => -1
  | k + 1, i => if i < n then (if f i = x then nI i else q_find f x n k (i + 1)) else -1
theorem s_X0_find_l (o : Nat) (x : Int32) (σ : MSt) (nb : Nat) (hb : σ.1 o 7 = nI nb) (hn : nb ≤ 8) : ∀ (k n i : Nat), nb < i + k → i ≤ nb → k ≤ n → f_X0_find_b2 o n x (nI i) σ = some (q_find (σ.1 (o + 1)) x nb k i, σ) := by
  intro k
  induction k with
  | zero => intro n i h1 h2 h3; omega
  | succ k ih =>
    intro n i h1 h2 h3
    obtain ⟨n, rfl⟩ : ∃ z, n = z + 1 := ⟨n - 1, by omega⟩
    show f_X0_find_b2_s o (f_X0_find_b2 o n) x (nI i) σ = _
    unfold f_X0_find_b2_s q_find f_X0_find_b34
    rw [hb]
    by_cases hi : i < nb
    · rw [if_neg (nI_ge hi (by omega)), if_neg (show ¬ (8 : Int32) ≤ nI i from nI_ge (a := i) (b := 8) (by omega) (by decide)), e_ck (e_in (by omega) (by decide)), nI_clamp (by omega), if_pos hi]
      by_cases hx : σ.1 (o + 1) i = x
      · rw [if_pos hx, if_pos hx]
      · rw [if_neg hx, if_neg hx, e_nm, show nI i + 1 = nI (i + 1) from nI_1 i]
        exact ih n (i + 1) (by omega) (by omega) (by omega)
    · rw [if_pos (nI_le (by omega) (by omega)), if_neg hi]
theorem s_X0_find (o : Nat) (x : Int32) (σ : MSt) (nb : Nat) (hb : σ.1 o 7 = nI nb) (hn : nb ≤ 8) : f_X0_find o x σ = some (q_find (σ.1 (o + 1)) x nb 9 0, σ) := s_X0_find_l o x σ nb hb hn 9 FU 0 (by omega) (by omega) (by decide)
theorem s_X12_found_l (a N : Nat) (hN : N ≤ 1000) (fr : Nat) (x : Int32) (σ : MSt) (nb : Nat) (hn : fr + nb ≤ N) : ∀ (k n i : Nat), nb < i + k → i ≤ nb → k ≤ n → f_X12_found_b3 a N n (nI fr) (nI nb) x (nI i) σ = some (q_find (fun j => σ.1 a (fr + j)) x nb k i, σ) := by
  intro k
  induction k with
  | zero => intro n i h1 h2 h3; omega
  | succ k ih =>
    intro n i h1 h2 h3
    obtain ⟨n, rfl⟩ : ∃ z, n = z + 1 := ⟨n - 1, by omega⟩
    show f_X12_found_b3_s a N (f_X12_found_b3 a N n) (nI fr) (nI nb) x (nI i) σ = _
    unfold f_X12_found_b3_s q_find
    by_cases hi : i < nb
    · rw [if_neg (nI_ge hi (by omega)), nI_add, e_ck (e_in (by omega) (by omega)), nI_clamp (by omega), if_pos hi]
      by_cases hx : σ.1 a (fr + i) = x
      · rw [if_pos hx, if_pos hx]
      · rw [if_neg hx, if_neg hx, e_nm, show nI i + 1 = nI (i + 1) from nI_1 i]
        exact ih n (i + 1) (by omega) (by omega) (by omega)
    · rw [if_pos (nI_le (by omega) (by omega)), if_neg hi]
theorem s_X12_found (a N : Nat) (hN : N ≤ 1000) (fr : Nat) (x : Int32) (σ : MSt) (nb : Nat) (hn : fr + nb ≤ N) (h8 : nb ≤ 8) : f_X12_found a N (nI fr) (nI nb) x σ = some (q_find (fun j => σ.1 a (fr + j)) x nb 9 0, σ) := s_X12_found_l a N hN fr x σ nb hn 9 FU 0 (by omega) (by omega) (by decide)
theorem q_find_cong (f g : Nat → Int32) (x : Int32) (n : Nat) (h : ∀ i, i < n → f i = g i) : ∀ k i, q_find f x n k i = q_find g x n k i := by
  intro k
  induction k with
  | zero => intro i; rfl
  | succ k ih =>
    intro i
    unfold q_find
    by_cases hi : i < n
    · rw [if_pos hi, if_pos hi, h i hi, ih]
    · rw [if_neg hi, if_neg hi]
/-- the wind of a date: the class's -/
theorem s_X0_galeOf (o : Nat) (d : Nat) (hd : d < 2 ^ 30) (σ : MSt) (nw : Nat) (hb : σ.1 o 10 = nI nw) (hn : nw ≤ 20) : f_X0_galeOf o (nI d) σ = some (if d < nw then σ.1 (o + 6) d else 0, σ) := by
  unfold f_X0_galeOf f_X0_galeOf_b27 f_X0_galeOf_b28
  rw [hb, if_neg (nI_pos (by omega))]
  by_cases h : d < nw
  · rw [if_neg (nI_ge h (by omega)), if_neg (show ¬ (20 : Int32) ≤ nI d from nI_ge (a := d) (b := 20) (by omega) (by decide)), e_ck (e_in (by omega) (by decide)), nI_clamp (by omega), if_pos h]
  · rw [if_pos (nI_le (by omega) (by omega)), if_neg h]
/-- the wind of a date: the reference's, where nothing is tried and no wind drawn -/
theorem s_X12_galeOf (d : Nat) (hd : d < 2 ^ 30) (σ : MSt) (nw : Nat) (hb : σ.1 2 3 = nI nw) (hn : nw ≤ 20) (h1 : ¬ σ.1 0 46 = 1) (h2 : σ.1 0 50 = -1) : f_X12_galeOf (nI d) σ = some (if d < nw then σ.1 10 d else 0, σ) := by
  have hi : k_inb (3 : Int32) 18 = true := by decide
  have c3 : ((3 : Int32)).toNatClampNeg = 3 := by decide
  unfold f_X12_galeOf f_X12_galeOf_b45
  rw [if_neg h1, if_pos h2, e_ck hi, c3, hb]
  by_cases h : d < nw
  · rw [if_neg (nI_ge h (by omega)), e_ck (e_in (by omega) (by decide)), nI_clamp (by omega), if_pos h]
  · rw [if_pos (nI_le (by omega) (by omega)), if_neg h]
/-- the days of the lane of two bays: the class's -/
theorem s_X0_daysBetween (o : Nat) (a b : Nat) (σ : MSt) (nb : Nat) (hb : σ.1 o 7 = nI nb) (hn : nb ≤ 8) (ha : a < nb) (hb2 : b < nb) : f_X0_daysBetween o (nI a) (nI b) σ = some (σ.1 (o + 2) (a * 8 + b), σ) := by
  unfold f_X0_daysBetween f_X0_daysBetween_b31
  have ha2 : (nI a).toInt = a := nI_toInt (by omega)
  have hb3 : (nI b).toInt = b := nI_toInt (by omega)
  rw [s_X0_hasBay o (nI a) σ nb hb hn, e_bdS, if_pos (show 0 ≤ (nI a).toInt ∧ (nI a).toInt < nb by omega), if_neg (by decide), s_X0_hasBay o (nI b) σ nb hb hn, e_bdS, if_pos (show 0 ≤ (nI b).toInt ∧ (nI b).toInt < nb by omega), if_neg (by decide)]
  have e : nI a * (8 : Int32) + nI b = nI (a * 8 + b) := by rw [show (8 : Int32) = nI 8 from rfl, pk_mul, nI_add]
  rw [e, e_ck (e_in (by omega) (by decide)), nI_clamp (by omega)]
/-- days of the first lane of two bays among the told ones, from l on -/
def q_lane (A B D : Nat → Int32) (a b : Int32) (n : Nat) : Nat → Nat → Int32
  | 0, _ => 0
  | k + 1, l => if l < n then (if (A l = a ∧ B l = b) ∨ (A l = b ∧ B l = a) then D l else q_lane A B D a b n k (l + 1)) else 0
theorem s_X12_laneOf_l (a b : Int32) (σ : MSt) (nl : Nat) (hb : σ.1 2 1 = nI nl) (hn : nl ≤ 12) : ∀ (k n i : Nat), nl < i + k → i ≤ nl → k ≤ n → f_X12_laneOf_b2 n a b (nI i) σ = some (q_lane (σ.1 4) (σ.1 5) (σ.1 6) a b nl k i, σ) := by
  have hi0 : k_inb (1 : Int32) 18 = true := by decide
  have c1 : ((1 : Int32)).toNatClampNeg = 1 := by decide
  intro k
  induction k with
  | zero => intro n i h1 h2 h3; omega
  | succ k ih =>
    intro n i h1 h2 h3
    obtain ⟨n, rfl⟩ : ∃ z, n = z + 1 := ⟨n - 1, by omega⟩
    show f_X12_laneOf_b2_s (f_X12_laneOf_b2 n) a b (nI i) σ = _
    unfold f_X12_laneOf_b2_s q_lane
    rw [e_ck hi0, c1, hb]
    by_cases hi : i < nl
    · have hk : k_inb (nI i) 24 = true := e_in (by omega) (by decide)
      have hnx : f_X12_laneOf_b59 (f_X12_laneOf_b2 n) a b (nI i) σ = some (q_lane (σ.1 4) (σ.1 5) (σ.1 6) a b nl k (i + 1), σ) := by
        unfold f_X12_laneOf_b59
        rw [e_nm, show nI i + 1 = nI (i + 1) from nI_1 i]
        exact ih n (i + 1) (by omega) (by omega) (by omega)
      rw [if_neg (nI_ge hi (by omega)), e_ck hk, e_ck hk, nI_clamp (by omega), if_pos hi]
      unfold f_X12_laneOf_b32 f_X12_laneOf_b52
      rw [e_ck hk, e_ck hk, e_ck hk, nI_clamp (by omega), hnx]
      generalize σ.1 4 i = P
      generalize σ.1 5 i = R
      by_cases p1 : P = a <;> by_cases p2 : R = b <;> by_cases p3 : P = b <;> by_cases p4 : R = a <;> simp only [p1, p2, p3, p4, if_true, if_false, and_true, true_and, and_false, false_and, or_true, true_or, or_false, false_or, if_pos, if_neg, not_false_eq_true, and_self, or_self] <;> (repeat' split) <;> first | rfl | (simp_all; done)
    · rw [if_pos (nI_le (by omega) (by omega)), if_neg hi]
theorem s_X12_laneOf (a b : Int32) (σ : MSt) (nl : Nat) (hb : σ.1 2 1 = nI nl) (hn : nl ≤ 12) : f_X12_laneOf a b σ = some (q_lane (σ.1 4) (σ.1 5) (σ.1 6) a b nl 13 0, σ) := s_X12_laneOf_l a b σ nl hb hn 13 FU 0 (by omega) (by omega) (by decide)
/-- a deed is remembered: JOYS, MANY, the latest time of bay b in the log at o -/
def q_rem (o b : Nat) (j : Int32) (σ : MSt) : MSt := mI (mI (mI σ (o + 1) b (k_min 9999 (σ.1 (o + 1) b + j))) (o + 2) b (σ.1 (o + 2) b + 1)) (o + 3) b (σ.1 o 3)
theorem s_X5_remember (o b : Nat) (hb : b < 8) (j : Int32) (σ : MSt) : f_X5_remember o (nI b) j σ = some (q_rem o b j σ) := by
  have hk : k_inb (nI b) 8 = true := e_in hb (by decide)
  unfold f_X5_remember f_X5_remember_b50 q_rem
  rw [if_neg (nI_pos (by omega)), if_neg (show ¬ (8 : Int32) ≤ nI b from nI_ge (a := b) (b := 8) (by omega) (by decide))]
  simp only [e_ck hk, e_nm, nI_clamp (show b < 2 ^ 31 by omega)]
  have r1 : ∀ v, (mI σ (o + 1) b v).1 (o + 2) b = σ.1 (o + 2) b := fun v => by rw [m_Ir _ _ _ _ (by omega)]
  have r2 : ∀ v v2, (mI (mI σ (o + 1) b v) (o + 2) b v2).1 o 3 = σ.1 o 3 := fun v v2 => by rw [m_Ir _ _ _ _ (by omega), m_Ir _ _ _ _ (by omega)]
  rw [r1, r2]
def q_drag (o b : Nat) (σ : MSt) : MSt := mI σ (o + 1) b (k_max 0 (σ.1 (o + 1) b - 2))
theorem s_X5_drag (o b : Nat) (hb : b < 8) (σ : MSt) : f_X5_drag o (nI b) σ = some (q_drag o b σ) := by
  have hk : k_inb (nI b) 8 = true := e_in hb (by decide)
  unfold f_X5_drag f_X5_drag_b28 q_drag
  rw [if_neg (nI_pos (by omega)), if_neg (show ¬ (8 : Int32) ≤ nI b from nI_ge (a := b) (b := 8) (by omega) (by decide))]
  simp only [e_ck hk, e_nm, nI_clamp (show b < 2 ^ 31 by omega)]
def q_lieIn (o : Nat) (b : Int32) (σ : MSt) : MSt := mI (mI (mI σ o 4 b) o 5 (-1)) o 6 (-1)
theorem s_X5_lieIn (o : Nat) (b : Int32) (σ : MSt) : f_X5_lieIn o b σ = some (q_lieIn o b σ) := rfl
def q_leave (o : Nat) (b len : Int32) (σ : MSt) : MSt := mI (mI (mI σ o 4 (-1)) o 5 b) o 6 (σ.1 o 3 + len)
theorem s_X5_leaveFor (o : Nat) (b len : Int32) (σ : MSt) : f_X5_leaveFor o b len σ = some (q_leave o b len σ) := by
  unfold f_X5_leaveFor q_leave
  simp only [e_nm, m_I]
  simp
/-- the next number: what is drawn, and the state of it -/
def q_next (d : Int64) : Int64 := (d * 1103515245 + 12345) &&& 2147483647
theorem s_X5_draw (o : Nat) (σ : MSt) : f_X5_draw o σ = some ((q_next (σ.2 o 8) / 65536).toInt32, mJ σ o 8 (q_next (σ.2 o 8))) := by
  unfold f_X5_draw q_next
  simp only [e_nm, m_J]
  simp
/-- nothing but the object's own ints at o has changed -/
def q_only (o : Nat) (σ σ' : MSt) : Prop := (∀ r, r ≠ o → σ'.1 r = σ.1 r) ∧ σ'.2 = σ.2
theorem q_only.mI (o j : Nat) (v : Int32) (σ : MSt) : q_only o σ (mI σ o j v) := ⟨fun _ h => m_Ir _ _ _ _ h, rfl⟩
theorem q_only.trans {o : Nat} {σ σ1 σ2 : MSt} (h : q_only o σ σ1) (h2 : q_only o σ1 σ2) : q_only o σ σ2 := ⟨fun r hr => (h2.1 r hr).trans (h.1 r hr), h2.2.trans h.2⟩
theorem q_only.rf {o : Nat} {σ : MSt} : q_only o σ σ := ⟨fun _ _ => rfl, rfl⟩
theorem s_X8_forget (o : Nat) (σ : MSt) : ∃ σ', f_X8_forget o σ = some σ' ∧ σ'.1 o 0 = 0 ∧ σ'.1 o 1 = 0 ∧ σ'.1 o 2 = -1 ∧ q_only o σ σ' :=
  ⟨_, rfl, by simp [m_I], by simp [m_I], by simp [m_I], ((q_only.mI _ _ _ _).trans (q_only.mI _ _ _ _)).trans (q_only.mI _ _ _ _)⟩
theorem s_X8_recall (o o1 b : Nat) (hb : b < 8) (h1 : o1 + 1 ≠ o) (h2 : o1 + 2 ≠ o) (h3 : o1 + 3 ≠ o) (σ : MSt) : ∃ σ', f_X8_recall o o1 (nI b) σ = some σ' ∧ σ'.1 o 0 = σ.1 (o1 + 1) b ∧ σ'.1 o 1 = σ.1 (o1 + 2) b ∧ σ'.1 o 2 = σ.1 (o1 + 3) b ∧ q_only o σ σ' := by
  obtain ⟨σ1, e1, -, -, -, k1⟩ := s_X8_forget o σ
  have hk : k_inb (nI b) 8 = true := e_in hb (by decide)
  unfold f_X8_recall f_X8_recall_b44
  rw [e_bv e1, if_neg (nI_pos (by omega)), if_neg (show ¬ (8 : Int32) ≤ nI b from nI_ge (a := b) (b := 8) (by omega) (by decide))]
  simp only [e_ck hk, e_nm, nI_clamp (show b < 2 ^ 31 by omega)]
  refine ⟨_, rfl, ?_, ?_, ?_, ?_⟩
  · simp [m_I, h1, h2, h3, k1.1 _ h1]
  · simp [m_I, h1, h2, h3, k1.1 _ h2]
  · simp [m_I, h1, h2, h3, k1.1 _ h3]
  · exact ((k1.trans (q_only.mI _ _ _ _)).trans (q_only.mI _ _ _ _)).trans (q_only.mI _ _ _ _)
theorem s_X8_add (o : Nat) (j d : Int32) (σ : MSt) : ∃ σ', f_X8_add o j d σ = some σ' ∧ σ'.1 o 0 = k_min 9999 (σ.1 o 0 + j) ∧ σ'.1 o 1 = σ.1 o 1 + 1 ∧ σ'.1 o 2 = k_max (σ.1 o 2) d ∧ q_only o σ σ' :=
  ⟨_, rfl, by simp [m_I], by simp [m_I], by simp [m_I], ((q_only.mI _ _ _ _).trans (q_only.mI _ _ _ _)).trans (q_only.mI _ _ _ _)⟩
/-- how many days ago, 99 at most -/
def q_ago (d lt : Int32) : Int32 := if lt = -1 then 99 else k_min 99 (d - lt)
theorem s_X8_set (o : Nat) (d g h : Int32) (σ : MSt) : ∃ σ', f_X8_set o d g h σ = some σ' ∧ σ'.1 o 0 = σ.1 o 0 ∧ σ'.1 o 1 = σ.1 o 1 ∧ σ'.1 o 2 = σ.1 o 2 ∧ σ'.1 o 3 = q_ago d (σ.1 o 2) ∧ σ'.1 o 4 = d ∧ σ'.1 o 5 = g ∧ σ'.1 o 6 = h ∧ q_only o σ σ' := by
  have k : q_only o σ (mI (mI (mI σ o 4 d) o 5 g) o 6 h) := ((q_only.mI _ _ _ _).trans (q_only.mI _ _ _ _)).trans (q_only.mI _ _ _ _)
  have e2 : (mI (mI (mI σ o 4 d) o 5 g) o 6 h).1 o 2 = σ.1 o 2 := by simp [m_I]
  unfold f_X8_set f_X8_set_b40
  simp only [e_nm, e2]
  by_cases hl : σ.1 o 2 = -1
  · rw [if_pos hl]
    exact ⟨_, rfl, by simp [m_I], by simp [m_I], by simp [m_I], by simp [m_I, q_ago, hl], by simp [m_I], by simp [m_I], by simp [m_I], k.trans (q_only.mI _ _ _ _)⟩
  · rw [if_neg hl]
    exact ⟨_, rfl, by simp [m_I], by simp [m_I], by simp [m_I], by simp [m_I, q_ago, hl], by simp [m_I], by simp [m_I], by simp [m_I], k.trans (q_only.mI _ _ _ _)⟩
/-- what the anchor has of bay b by deeds from the i-th on that come from now to d -/
def q_fs (B D J : Nat → Int32) (b now d : Int32) (n : Nat) : Nat → Nat → Int32 × Int32 × Int32 → Int32 × Int32 × Int32
  | 0, _, t => t
  | k + 1, i, t => if i < n then q_fs B D J b now d n k (i + 1) (if B i = b ∧ ¬ D i < now ∧ ¬ d < D i then (k_min 9999 (t.1 + J i), t.2.1 + 1, k_max t.2.2 (D i)) else t) else t
theorem s_X3_addDeeds_l (b : Int32) (dd nd nw : Nat) (hdd : dd < 2 ^ 30) (hn : nd ≤ 12) (hw : nw ≤ 20) : ∀ (k n i : Nat) (σ : MSt), σ.1 10 9 = nI nd → σ.1 10 10 = nI nw → nd < i + k → i ≤ nd → k ≤ n → ∃ σ', f_X3_addDeeds_b2 n b (nI dd) (nI i) σ = some σ' ∧ (σ'.1 70 0, σ'.1 70 1, σ'.1 70 2) = q_fs (σ.1 13) (σ.1 14) (σ.1 15) b (σ.1 50 3) (nI dd) nd k i (σ.1 70 0, σ.1 70 1, σ.1 70 2) ∧ σ'.1 70 3 = q_ago (nI dd) (σ'.1 70 2) ∧ σ'.1 70 4 = nI dd ∧ σ'.1 70 5 = (if dd < nw then σ.1 16 dd else 0) ∧ σ'.1 70 6 = 0 ∧ q_only 70 σ σ' := by
  intro k
  induction k with
  | zero => intro n i σ _ _ h1 h2 h3; omega
  | succ k ih =>
    intro n i σ hd hg h1 h2 h3
    obtain ⟨n, rfl⟩ : ∃ z, n = z + 1 := ⟨n - 1, by omega⟩
    show ∃ σ', f_X3_addDeeds_b2_s (f_X3_addDeeds_b2 n) b (nI dd) (nI i) σ = some σ' ∧ _
    unfold f_X3_addDeeds_b2_s q_fs
    rw [hd]
    by_cases hi : i < nd
    · have hk : k_inb (nI i) 12 = true := e_in (by omega) (by decide)
      rw [if_neg (nI_ge hi (by omega)), if_neg (show ¬ (12 : Int32) ≤ nI i from nI_ge (a := i) (b := 12) (by omega) (by decide)), if_pos hi]
      simp only [e_ck hk, e_nm, nI_clamp (show i < 2 ^ 31 by omega), f_X3_addDeeds_b79, show nI i + 1 = nI (i + 1) from nI_1 i]
      have go := ih n (i + 1) σ hd hg (by omega) (by omega) (by omega)
      by_cases c1 : σ.1 13 i = b
      · rw [if_pos c1]
        by_cases c2 : σ.1 14 i < σ.1 50 3
        · rw [if_pos c2, if_neg (fun q => q.2.1 c2)]
          exact go
        · rw [if_neg c2]
          by_cases c3 : nI dd < σ.1 14 i
          · rw [if_pos c3, if_neg (fun q => q.2.2 c3)]
            exact go
          · rw [if_neg c3, if_pos ⟨c1, c2, c3⟩]
            obtain ⟨σ1, e1, a0, a1, a2, ko⟩ := s_X8_add 70 (σ.1 15 i) (σ.1 14 i) σ
            rw [e_bv e1]
            obtain ⟨σ2, e2, f0, f3, f4, f5, f6, k2⟩ := ih n (i + 1) σ1 (by rw [ko.1 10 (by decide)]; exact hd) (by rw [ko.1 10 (by decide)]; exact hg) (by omega) (by omega) (by omega)
            rw [a0, a1, a2, ko.1 13 (by decide), ko.1 14 (by decide), ko.1 15 (by decide), ko.1 50 (by decide)] at f0
            rw [ko.1 16 (by decide)] at f5
            exact ⟨σ2, e2, f0, f3, f4, f5, f6, ko.trans k2⟩
      · rw [if_neg c1, if_neg (fun q => c1 q.1)]
        exact go
    · rw [if_pos (nI_le (by omega) (by omega)), if_neg hi]
      unfold f_X3_addDeeds_b85
      rw [s_X0_galeOf 10 dd hdd σ nw hg hw, e_bdS]
      obtain ⟨σ1, e1, a0, a1, a2, a3, a4, a5, a6, ko⟩ := s_X8_set 70 (nI dd) (if dd < nw then σ.1 (10 + 6) dd else 0) 0 σ
      rw [e_bv e1]
      exact ⟨σ1, rfl, by rw [a0, a1, a2], by rw [a3, a2], a4, a5, a6, ko⟩
/-- nothing but what is seen (51, 52, 53 of the reference's object) has changed -/
def q_seen (σ σ' : MSt) : Prop := (∀ r, r ≠ 0 → σ'.1 r = σ.1 r) ∧ σ'.2 = σ.2 ∧ ∀ j, j < 51 ∨ 53 < j → σ'.1 0 j = σ.1 0 j
theorem q_seen.trans {σ σ1 σ2 : MSt} (h : q_seen σ σ1) (h2 : q_seen σ1 σ2) : q_seen σ σ2 := ⟨fun r hr => (h2.1 r hr).trans (h.1 r hr), h2.2.1.trans h.2.1, fun j hj => (h2.2.2 j hj).trans (h.2.2 j hj)⟩
theorem q_seen.rf {σ : MSt} : q_seen σ σ := ⟨fun _ _ => rfl, rfl, fun _ _ => rfl⟩
theorem s_X12_adds (j d : Int32) (σ : MSt) : ∃ σ', f_X12_adds j d σ = some σ' ∧ σ'.1 0 51 = k_min 9999 (σ.1 0 51 + j) ∧ σ'.1 0 52 = σ.1 0 52 + 1 ∧ σ'.1 0 53 = k_max (σ.1 0 53) d ∧ q_seen σ σ' := by
  refine ⟨_, rfl, by simp [m_I], by simp [m_I], by simp [m_I], ?_, rfl, ?_⟩
  · intro r hr
    rw [m_Ir _ _ _ _ hr, m_Ir _ _ _ _ hr, m_Ir _ _ _ _ hr]
  · intro j hj
    simp only [m_I]
    rw [if_neg (by omega), if_neg (by omega), if_neg (by omega)]
/-- the joy of a deed, as tried or changed -/
def q_joy (σ : MSt) (i : Nat) : Int32 := if σ.1 0 46 = 3 then 9 else if nI i = σ.1 0 48 then σ.1 0 49 else σ.1 9 i
theorem s_X12_joyIn (i : Nat) (hi : i < 24) (σ : MSt) : f_X12_joyIn (nI i) σ = some (q_joy σ i, σ) := by
  unfold f_X12_joyIn f_X12_joyIn_b34 q_joy
  rw [e_ck (e_in hi (by decide)), nI_clamp (by omega)]
  by_cases c1 : σ.1 0 46 = 3
  · rw [if_pos c1, if_pos c1]
  · rw [if_neg c1, if_neg c1]
    by_cases c2 : nI i = σ.1 0 48
    · rw [if_pos c2, if_pos c2]
    · rw [if_neg c2, if_neg c2]
theorem q_joy_seen {σ σ' : MSt} (h : q_seen σ σ') : q_joy σ' = q_joy σ := by
  funext i
  unfold q_joy
  rw [h.2.2 46 (by omega), h.2.2 48 (by omega), h.2.2 49 (by omega), h.1 9 (by decide)]
theorem s_X12_foresees_l (a : Nat) (ha : a < 24) (b d : Int32) (nd : Nat) (hn : nd ≤ 12) : ∀ (k n i : Nat) (σ : MSt), σ.1 2 2 = nI nd → nd < i + k → i ≤ nd → k ≤ n → ∃ σ', f_X12_foresees_b66 n (nI a) b d (nI i) σ = some σ' ∧ (σ'.1 0 51, σ'.1 0 52, σ'.1 0 53) = q_fs (σ.1 7) (σ.1 8) (q_joy σ) b (σ.1 17 a) d nd k i (σ.1 0 51, σ.1 0 52, σ.1 0 53) ∧ q_seen σ σ' := by
  have hi2 : k_inb (2 : Int32) 18 = true := by decide
  have hka : k_inb (nI a) 24 = true := e_in ha (by decide)
  intro k
  induction k with
  | zero => intro n i σ _ h1 h2 h3; omega
  | succ k ih =>
    intro n i σ hd h1 h2 h3
    obtain ⟨n, rfl⟩ : ∃ z, n = z + 1 := ⟨n - 1, by omega⟩
    show ∃ σ', f_X12_foresees_b66_s (f_X12_foresees_b66 n) (nI a) b d (nI i) σ = some σ' ∧ _
    unfold f_X12_foresees_b66_s q_fs
    rw [e_ck hi2, c_2, hd]
    by_cases hi : i < nd
    · have hk : k_inb (nI i) 24 = true := e_in (by omega) (by decide)
      rw [if_neg (nI_ge hi (by omega)), if_pos hi]
      simp only [e_ck hk, e_ck hka, e_nm, nI_clamp (show i < 2 ^ 31 by omega), nI_clamp (show a < 2 ^ 31 by omega), f_X12_foresees_b132, show nI i + 1 = nI (i + 1) from nI_1 i]
      have go := ih n (i + 1) σ hd (by omega) (by omega) (by omega)
      by_cases c1 : σ.1 7 i = b
      · rw [if_pos c1]
        by_cases c2 : σ.1 8 i < σ.1 17 a
        · rw [if_pos c2, if_neg (fun q => q.2.1 c2)]
          exact go
        · rw [if_neg c2]
          by_cases c3 : d < σ.1 8 i
          · rw [if_pos c3, if_neg (fun q => q.2.2 c3)]
            exact go
          · rw [if_neg c3, if_pos ⟨c1, c2, c3⟩, s_X12_joyIn i (by omega) σ, e_bdS]
            obtain ⟨σ1, e1, a0, a1, a2, ko⟩ := s_X12_adds (q_joy σ i) (σ.1 8 i) σ
            rw [e_bv e1]
            obtain ⟨σ2, e2, f0, k2⟩ := ih n (i + 1) σ1 (by rw [ko.1 2 (by decide)]; exact hd) (by omega) (by omega) (by omega)
            rw [a0, a1, a2, ko.1 7 (by decide), ko.1 8 (by decide), q_joy_seen ko, ko.1 17 (by decide)] at f0
            exact ⟨σ2, e2, f0, ko.trans k2⟩
      · rw [if_neg c1, if_neg (fun q => c1 q.1)]
        exact go
    · rw [if_pos (nI_le (by omega) (by omega)), if_neg hi]
      exact ⟨σ, rfl, rfl, q_seen.rf⟩
/-- the same as q_rem, in the reference's rows: anchor a, bay b -/
def q_remM (a b : Nat) (j : Int32) (σ : MSt) : MSt := mI (mI (mI σ 26 (8 * a + b) (k_min 9999 (σ.1 26 (8 * a + b) + j))) 27 (8 * a + b) (σ.1 27 (8 * a + b) + 1)) 28 (8 * a + b) (σ.1 17 a)
theorem s_X12_remembers (a b : Nat) (ha : a < 24) (hb : b < 8) (j : Int32) (σ : MSt) : f_X12_remembers (nI a) (nI b) j σ = some (q_remM a b j σ) := by
  have e : (8 : Int32) * nI a + nI b = nI (8 * a + b) := by rw [show (8 : Int32) = nI 8 from rfl, pk_mul, nI_add]
  have hk : k_inb (nI (8 * a + b)) 192 = true := e_in (by omega) (by decide)
  have hka : k_inb (nI a) 24 = true := e_in ha (by decide)
  unfold f_X12_remembers q_remM
  rw [e]
  simp only [e_ck hk, e_ck hka, e_nm, nI_clamp (show 8 * a + b < 2 ^ 31 by omega), nI_clamp (show a < 2 ^ 31 by omega)]
  have r1 : ∀ v k, (mI σ 26 k v).1 27 k = σ.1 27 k := fun v k => by rw [m_Ir _ _ _ _ (by decide)]
  have r2 : ∀ v v2 k, (mI (mI σ 26 k v) 27 k v2).1 17 a = σ.1 17 a := fun v v2 k => by rw [m_Ir _ _ _ _ (by decide), m_Ir _ _ _ _ (by decide)]
  rw [r1, r2]
