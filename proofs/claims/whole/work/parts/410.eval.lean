/-! THE LAWS' VALUES: one pure reading of the reverse Polish rows, for class and reference -/
def q_lim (v : Int64) : Option Int64 := if (1000000000000 : Int64) < v ∨ v < (-1000000000000 : Int64) then none else some v
def q_bd (v : Int64) : Prop := ¬ ((1000000000000 : Int64) < v ∨ v < (-1000000000000 : Int64))
theorem q_lim_bd {v : Int64} (h : q_bd v) : q_lim v = some v := if_neg h
theorem q_lim_some {v w : Int64} (h : q_lim v = some w) : w = v ∧ q_bd v := by
  unfold q_lim at h
  by_cases c : (1000000000000 : Int64) < v ∨ v < (-1000000000000 : Int64)
  · rw [if_pos c] at h; cases h
  · rw [if_neg c] at h; cases h; exact ⟨rfl, c⟩
theorem q_bd_ne {v : Int64} (h : q_bd v) : ¬ v = -9223372036854775808 := by
  intro e; subst e; exact h (by decide)
theorem q_bd_0 : q_bd 0 := by unfold q_bd; decide
theorem q_bd_1 : q_bd 1 := by unfold q_bd; decide
theorem q_bd_if {p : Prop} [Decidable p] : q_bd (if p then 0 else 1) := by by_cases h : p; rw [if_pos h]; exact q_bd_0; rw [if_neg h]; exact q_bd_1
theorem q_bd_if2 {p : Prop} [Decidable p] : q_bd (if p then 1 else 0) := by by_cases h : p; rw [if_pos h]; exact q_bd_1; rw [if_neg h]; exact q_bd_0
theorem q_bd_int (x : Int32) : q_bd x.toInt64 := by
  unfold q_bd
  have h1 := Int32.toInt_lt x
  have h2 := Int32.le_toInt x
  rw [Int64.lt_iff_toInt_lt, Int64.lt_iff_toInt_lt, Int32.toInt_toInt64, show (1000000000000 : Int64).toInt = 1000000000000 from by decide, show (-1000000000000 : Int64).toInt = -1000000000000 from by decide]
  omega
theorem q_bd_div {x y : Int64} (h : q_bd x) : q_bd (x / y) := by
  unfold q_bd at h ⊢
  rw [Int64.lt_iff_toInt_lt, Int64.lt_iff_toInt_lt, show (1000000000000 : Int64).toInt = 1000000000000 from by decide, show (-1000000000000 : Int64).toInt = -1000000000000 from by decide] at h ⊢
  rw [Int64.toInt_div]
  have h3 : (x.toInt.tdiv y.toInt).natAbs ≤ x.toInt.natAbs := Int.natAbs_tdiv_le_natAbs _ _
  have h4 : (x.toInt.tdiv y.toInt).bmod (2 ^ 64) = x.toInt.tdiv y.toInt := Int.bmod_eq_of_le (by omega) (by omega)
  rw [h4]
  omega
/-- what a sign of two sides gives; none: an ERROR -/
def q_bin (s : Int32) (x y : Int64) : Option Int64 :=
  if s = 22 then some (if x = 0 ∧ y = 0 then 0 else 1)
  else if s = 23 then some (if x = 0 ∨ y = 0 then 0 else 1)
  else if s = 46 then (if y = 0 then none else some (x / y))
  else if s = 47 then some (if y ≤ x then 0 else 1)
  else if s = 48 then some (if y < x then 0 else 1)
  else if s = 49 then some (if x = y then 1 else 0)
  else if s = 50 then some (if x = y then 0 else 1)
  else if s = 51 then some (if x < y then 0 else 1)
  else if s = 52 then some (if x ≤ y then 0 else 1)
  else if s = 45 then (if x = 0 then q_lim (x * y) else if k_labs y ≤ 1000000000000 / k_labs x then q_lim (x * y) else none)
  else if s = 43 then q_lim (x + y)
  else q_lim (x - y)
/-- the signs of two sides: the class's sort, the reference's code -/
def q_BIN (s c : Int32) : Prop := (s = 22 ∧ c = 262) ∨ (s = 23 ∧ c = 261) ∨ (s = 43 ∧ c = 43) ∨ (s = 44 ∧ c = 45) ∨ (s = 45 ∧ c = 42) ∨ (s = 46 ∧ c = 47) ∨ (s = 47 ∧ c = 60) ∨ (s = 48 ∧ c = 256) ∨ (s = 49 ∧ c = 61) ∨ (s = 50 ∧ c = 257) ∨ (s = 51 ∧ c = 258) ∨ (s = 52 ∧ c = 62)
theorem q_labs_alt (x : Int64) : k_labs x = if 0 ≤ x then x else -x := by
  unfold k_labs
  by_cases h : 0 < x
  · rw [if_pos h, if_pos (Int64.le_iff_toInt_le.mpr (by have := Int64.lt_iff_toInt_lt.mp h; omega))]
  · rw [if_neg h]
    by_cases h2 : 0 ≤ x
    · rw [if_pos h2]
      have : x = 0 := by
        apply Int64.toInt_inj.mp
        have a := Int64.le_iff_toInt_le.mp h2
        have b : ¬ (0 : Int64).toInt < x.toInt := fun q => h (Int64.lt_iff_toInt_lt.mpr q)
        omega
      subst this; rfl
    · rw [if_neg h2]
theorem q_labs_nz {x : Int64} (h : ¬ x = 0) : k_nzl (k_labs x) = true := by
  unfold k_nzl k_labs
  rw [decide_eq_true_eq]
  by_cases c : 0 < x
  · rw [if_pos c]; exact h
  · rw [if_neg c]; intro e; exact h (by have q := congrArg (fun z => -z) e; simpa using q)
theorem q_lim_join (v : Int64) (σ : MSt) : f_X4_join_b339 v σ = some ((q_lim v).getD (-9223372036854775808), σ) := by
  unfold f_X4_join_b339 f_X4_join_b359 f_X4_join_b367 q_lim
  simp only [lg_cmp_gt, lg_cmp_ge]
  by_cases c1 : (1000000000000 : Int64) < v
  · rw [if_pos c1, if_pos (Or.inl c1)]; rfl
  · rw [if_neg c1]
    by_cases c2 : (-1000000000000 : Int64) ≤ v
    · rw [if_pos c2, if_neg (by rintro (q | q); exact c1 q; exact absurd c2 (Int64.not_le.mpr q))]; rfl
    · rw [if_neg c2, if_pos (Or.inr (Int64.not_le.mp c2))]; rfl
theorem s_X4_join {s c : Int32} (hs : q_BIN s c) (x y : Int64) (σ : MSt) : f_X4_join s x y σ = some ((q_bin s x y).getD (-9223372036854775808), σ) := by
  rcases hs with ⟨rfl, -⟩ | ⟨rfl, -⟩ | ⟨rfl, -⟩ | ⟨rfl, -⟩ | ⟨rfl, -⟩ | ⟨rfl, -⟩ | ⟨rfl, -⟩ | ⟨rfl, -⟩ | ⟨rfl, -⟩ | ⟨rfl, -⟩ | ⟨rfl, -⟩ | ⟨rfl, -⟩
  · have e : q_bin 22 x y = some (if x = 0 ∧ y = 0 then 0 else 1) := rfl
    rw [e]
    unfold f_X4_join f_X4_join_b157 f_X4_join_b152 f_X4_join_b157
    rw [if_pos rfl]
    simp only [lg_cmp_eq]
    by_cases a : x = 0 <;> by_cases b : y = 0 <;> simp [a, b]
  · have e : q_bin 23 x y = some (if x = 0 ∨ y = 0 then 0 else 1) := rfl
    rw [e]
    unfold f_X4_join f_X4_join_b174 f_X4_join_b175
    rw [if_neg (by decide), if_pos rfl]
    simp only [lg_cmp_eq]
    by_cases a : x = 0 <;> by_cases b : y = 0 <;> simp [a, b]
  · have e : q_bin 43 x y = q_lim (x + y) := rfl
    rw [e]
    unfold f_X4_join
    repeat rw [if_neg (by decide)]
    rw [if_pos rfl]
    unfold f_X4_join_b264 f_X4_join_b312
    rw [if_neg (by decide), if_neg (by decide), if_pos rfl, q_lim_join]
  · have e : q_bin 44 x y = q_lim (x - y) := rfl
    rw [e]
    unfold f_X4_join
    repeat rw [if_neg (by decide)]
    rw [if_pos rfl]
    unfold f_X4_join_b264 f_X4_join_b312
    rw [if_neg (by decide), if_neg (by decide), if_neg (by decide), q_lim_join]
  · have e : q_bin 45 x y = if x = 0 then q_lim (x * y) else if k_labs y ≤ 1000000000000 / k_labs x then q_lim (x * y) else none := rfl
    have e2 : f_X4_join_b312 45 x y σ = some ((q_lim (x * y)).getD (-9223372036854775808), σ) := by
      unfold f_X4_join_b312
      rw [if_pos rfl, q_lim_join]
    unfold f_X4_join
    repeat rw [if_neg (by decide)]
    rw [if_pos rfl]
    unfold f_X4_join_b264 f_X4_join_b288 f_X4_join_b303
    rw [if_pos rfl, e2, e]
    simp only [lg_cmp_eq, lg_cmp_ge, lg_cmp_le]
    by_cases a : x = 0
    · rw [if_pos a, if_pos a]
    · have n1 := q_labs_nz a
      rw [if_neg a, if_neg a]
      rw [q_labs_alt] at n1
      rw [q_labs_alt, q_labs_alt]
      by_cases p : 0 ≤ y <;> by_cases q : 0 ≤ x
      · rw [if_pos q] at n1
        rw [if_pos p, if_pos p, if_pos q, if_pos q, e_ck n1]
        by_cases z : y ≤ 1000000000000 / x
        · rw [if_pos z, if_pos z]
        · rw [if_neg z, if_neg z]; rfl
      · rw [if_neg q] at n1
        rw [if_pos p, if_pos p, if_neg q, if_neg q, e_ck n1]
        by_cases z : y ≤ 1000000000000 / -x
        · rw [if_pos z, if_pos z]
        · rw [if_neg z, if_neg z]; rfl
      · rw [if_pos q] at n1
        rw [if_neg p, if_neg p, if_pos q, if_pos q, e_ck n1]
        by_cases z : -y ≤ 1000000000000 / x
        · rw [if_pos z, if_pos z]
        · rw [if_neg z, if_neg z]; rfl
      · rw [if_neg q] at n1
        rw [if_neg p, if_neg p, if_neg q, if_neg q, e_ck n1]
        by_cases z : -y ≤ 1000000000000 / -x
        · rw [if_pos z, if_pos z]
        · rw [if_neg z, if_neg z]; rfl
  · have e : q_bin 46 x y = if y = 0 then none else some (x / y) := rfl
    rw [e]
    unfold f_X4_join
    repeat rw [if_neg (by decide)]
    rw [if_pos rfl]
    unfold f_X4_join_b263
    simp only [lg_cmp_eq]
    by_cases a : y = 0
    · rw [if_pos a, if_pos a]; rfl
    · rw [if_neg a, if_neg a, e_ck (by unfold k_nzl; exact decide_eq_true a)]; rfl
  · have e : q_bin 47 x y = some (if y ≤ x then 0 else 1) := rfl
    rw [e]
    unfold f_X4_join
    repeat rw [if_neg (by decide)]
    rw [if_pos rfl]
    unfold f_X4_join_b187
    simp only [lg_cmp_ge]
    by_cases a : y ≤ x <;> simp [a]
  · have e : q_bin 48 x y = some (if y < x then 0 else 1) := rfl
    rw [e]
    unfold f_X4_join
    repeat rw [if_neg (by decide)]
    rw [if_pos rfl]
    unfold f_X4_join_b199
    simp only [lg_cmp_gt]
    by_cases a : y < x <;> simp [a]
  · have e : q_bin 49 x y = some (if x = y then 1 else 0) := rfl
    rw [e]
    unfold f_X4_join
    repeat rw [if_neg (by decide)]
    rw [if_pos rfl]
    unfold f_X4_join_b211
    simp only [lg_cmp_eq]
    by_cases a : x = y <;> simp [a]
  · have e : q_bin 50 x y = some (if x = y then 0 else 1) := rfl
    rw [e]
    unfold f_X4_join
    repeat rw [if_neg (by decide)]
    rw [if_pos rfl]
    unfold f_X4_join_b223
    simp only [lg_cmp_eq]
    by_cases a : x = y <;> simp [a]
  · have e : q_bin 51 x y = some (if x < y then 0 else 1) := rfl
    rw [e]
    unfold f_X4_join
    repeat rw [if_neg (by decide)]
    rw [if_pos rfl]
    unfold f_X4_join_b235
    simp only [lg_cmp_lt]
    by_cases a : x < y <;> simp [a]
  · have e : q_bin 52 x y = some (if x ≤ y then 0 else 1) := rfl
    rw [e]
    unfold f_X4_join
    repeat rw [if_neg (by decide)]
    rw [if_pos rfl]
    unfold f_X4_join_b247
    simp only [lg_cmp_le]
    by_cases a : x ≤ y <;> simp [a]
theorem q_bin_bd {s c : Int32} (hs : q_BIN s c) {x y v : Int64} (hx : q_bd x) (h : q_bin s x y = some v) : q_bd v := by
  rcases hs with ⟨rfl, -⟩ | ⟨rfl, -⟩ | ⟨rfl, -⟩ | ⟨rfl, -⟩ | ⟨rfl, -⟩ | ⟨rfl, -⟩ | ⟨rfl, -⟩ | ⟨rfl, -⟩ | ⟨rfl, -⟩ | ⟨rfl, -⟩ | ⟨rfl, -⟩ | ⟨rfl, -⟩
  · have h : some (if x = 0 ∧ y = 0 then 0 else 1) = some v := h
    cases h; exact q_bd_if
  · have h : some (if x = 0 ∨ y = 0 then 0 else 1) = some v := h
    cases h; exact q_bd_if
  · have h := q_lim_some (v := x + y) h
    rw [h.1]; exact h.2
  · have h := q_lim_some (v := x - y) h
    rw [h.1]; exact h.2
  · have h : (if x = 0 then q_lim (x * y) else if k_labs y ≤ 1000000000000 / k_labs x then q_lim (x * y) else none) = some v := h
    by_cases a : x = 0
    · rw [if_pos a] at h; have h := q_lim_some h; rw [h.1]; exact h.2
    · rw [if_neg a] at h
      by_cases b : k_labs y ≤ 1000000000000 / k_labs x
      · rw [if_pos b] at h; have h := q_lim_some h; rw [h.1]; exact h.2
      · rw [if_neg b] at h; cases h
  · have h : (if y = 0 then none else some (x / y)) = some v := h
    by_cases a : y = 0
    · rw [if_pos a] at h; cases h
    · rw [if_neg a] at h; cases h; exact q_bd_div hx
  · have h : some (if y ≤ x then 0 else 1) = some v := h
    cases h; exact q_bd_if
  · have h : some (if y < x then 0 else 1) = some v := h
    cases h; exact q_bd_if
  · have h : some (if x = y then 1 else 0) = some v := h
    cases h; exact q_bd_if2
  · have h : some (if x = y then 0 else 1) = some v := h
    cases h; exact q_bd_if
  · have h : some (if x < y then 0 else 1) = some v := h
    cases h; exact q_bd_if
  · have h : some (if x ≤ y then 0 else 1) = some v := h
    cases h; exact q_bd_if
