theorem m_Jr (σ : MSt) (o j : Nat) (v : Int64) {o' : Nat} (h : o' ≠ o) : (mJ σ o j v).2 o' = σ.2 o' := by unfold mJ va_up; simp [h]
/-- frames: the class's stack alone; of the reference's object places 31 (and 51 to 53) alone, longs free -/
def FS (σ σ' : MSt) : Prop := σ'.1 = σ.1 ∧ ∀ r, r ≠ 22 → σ'.2 r = σ.2 r
theorem FS.rf {σ : MSt} : FS σ σ := ⟨rfl, fun _ _ => rfl⟩
theorem FS.trans {σ σ1 σ2 : MSt} (h : FS σ σ1) (h2 : FS σ1 σ2) : FS σ σ2 := ⟨h2.1.trans h.1, fun r hr => (h2.2 r hr).trans (h.2 r hr)⟩
theorem FS.mJ (σ : MSt) (j : Nat) (v : Int64) : FS σ (mJ σ 22 j v) := ⟨rfl, fun _ hr => m_Jr _ _ _ _ hr⟩
def FM (μ μ' : MSt) : Prop := (∀ r, r ≠ 0 → μ'.1 r = μ.1 r) ∧ ∀ j, j ≠ 31 → (j < 51 ∨ 53 < j) → μ'.1 0 j = μ.1 0 j
theorem FM.rf {μ : MSt} : FM μ μ := ⟨fun _ _ => rfl, fun _ _ _ => rfl⟩
theorem FM.trans {μ μ1 μ2 : MSt} (h : FM μ μ1) (h2 : FM μ1 μ2) : FM μ μ2 := ⟨fun r hr => (h2.1 r hr).trans (h.1 r hr), fun j a b => (h2.2 j a b).trans (h.2 j a b)⟩
theorem FM.mJ (μ : MSt) (o j : Nat) (v : Int64) : FM μ (mJ μ o j v) := ⟨fun _ _ => rfl, fun _ _ _ => rfl⟩
theorem FM.m31 (μ : MSt) (v : Int32) : FM μ (mI μ 0 31 v) := ⟨fun r hr => m_Ir _ _ _ _ hr, fun j a _ => by rw [m_I, if_neg (by omega)]⟩
theorem m_Js (σ : MSt) (o j : Nat) (v : Int64) : (mJ σ o j v).2 o j = v := by rw [m_J]; simp
theorem m_Jn (σ : MSt) (o j : Nat) (v : Int64) {j' : Nat} (h : j' ≠ j) : (mJ σ o j v).2 o j' = σ.2 o j' := by rw [m_J]; simp [h]
theorem q_lim_works (v : Int64) (t : Nat) (ht : t < 64) (μ : MSt) (h31 : μ.1 0 31 = nI (t + 1)) : f_X12_works_b407 v μ = some (if q_lim v = none then 0 else 1, mJ μ 16 t v) := by
  unfold f_X12_works_b407 f_X12_works_b442 f_X12_works_b443 q_lim
  rw [h31, nI_pred, e_ck (e_in ht (by decide)), e_nm, nI_clamp (by omega)]
  have z0 : k_bo 0 = true := rfl
  have z1 : k_bo 1 = true := rfl
  rw [e_ck z0, e_ck z1]
  simp only [lg_cmp_gt, lg_cmp_lt]
  by_cases a : (1000000000000 : Int64) < v
  · rw [if_pos a, if_pos (Or.inl a), if_pos rfl]
  · by_cases b : v < (-1000000000000 : Int64)
    · rw [if_neg a, if_pos b, if_pos (Or.inr b), if_pos rfl]
    · have n : ¬ ((1000000000000 : Int64) < v ∨ v < (-1000000000000 : Int64)) := by rintro (q | q); exact a q; exact b q
      have n2 : ¬ (some v : Option Int64) = none := by intro q; cases q
      rw [if_neg a, if_neg b]
      simp only [if_neg n]
      rw [if_neg n2]
theorem q_is_works (b : Int32) (σ : MSt) : f_X12_is b σ = some (if b = 0 then 0 else 1, σ) := by
  unfold f_X12_is f_X12_is_b9
  by_cases h : b = 0
  · rw [if_pos h, if_pos h]
  · rw [if_neg h, if_neg h]
set_option maxHeartbeats 1000000 in
/-- the reference works a sign of two sides -/
theorem s_X12_works {s c : Int32} (hs : q_BIN s c) (t : Nat) (ht : t + 2 ≤ 64) (μ : MSt) (h31 : μ.1 0 31 = nI (t + 2)) (hx : q_bd (μ.2 16 t)) :
    (∃ v, q_bin s (μ.2 16 t) (μ.2 16 (t + 1)) = some v ∧ f_X12_works c μ = some (1, mJ (mI μ 0 31 (nI (t + 1))) 16 t v)) ∨ (q_bin s (μ.2 16 t) (μ.2 16 (t + 1)) = none ∧ ∃ μ', f_X12_works c μ = some (0, μ') ∧ FM μ μ') := by
  have k1 : k_inb (nI (t + 1)) 64 = true := e_in (by omega) (by decide)
  have k2 : k_inb (nI t) 64 = true := e_in (by omega) (by decide)
  have e2 : nI (t + 2) - (2 : Int32) = nI t := pk_sub (a := t + 2) (b := 2) (by omega)
  have e1 : nI (t + 2) - (1 : Int32) = nI (t + 1) := nI_pred (t + 1)
  have hμ : (mI μ 0 31 (nI (t + 1))).1 0 31 = nI (t + 1) := by rw [m_I]; simp
  have go : ∀ v, f_X12_works_b407 v (mI μ 0 31 (nI (t + 1))) = some (if q_lim v = none then 0 else 1, mJ (mI μ 0 31 (nI (t + 1))) 16 t v) := fun v => q_lim_works v t (by omega) _ hμ
  have ff : ∀ v, FM μ (mJ (mI μ 0 31 (nI (t + 1))) 16 t v) := fun v => (FM.m31 _ _).trans (FM.mJ _ _ _ _)
  have fin : ∀ w v, f_X12_works c μ = f_X12_works_b407 v (mI μ 0 31 (nI (t + 1))) → q_bin s (μ.2 16 t) (μ.2 16 (t + 1)) = q_lim v → w = v → (∃ v, q_bin s (μ.2 16 t) (μ.2 16 (t + 1)) = some v ∧ f_X12_works c μ = some (1, mJ (mI μ 0 31 (nI (t + 1))) 16 t v)) ∨ (q_bin s (μ.2 16 t) (μ.2 16 (t + 1)) = none ∧ ∃ μ', f_X12_works c μ = some (0, μ') ∧ FM μ μ') := by
    intro w v h1 h2 _
    rw [h1, h2, go]
    by_cases z : q_lim v = none
    · right
      exact ⟨z, _, by rw [if_pos z], ff v⟩
    · left
      obtain ⟨u, hu⟩ : ∃ u, q_lim v = some u := by
        cases hq : q_lim v with
        | none => exact absurd hq z
        | some u => exact ⟨u, rfl⟩
      have := q_lim_some hu
      exact ⟨v, by rw [hu, this.1], by rw [if_neg z]⟩
  generalize hxx : μ.2 16 t = x at *
  generalize hyy : μ.2 16 (t + 1) = y at *
  rcases hs with ⟨rfl, rfl⟩ | ⟨rfl, rfl⟩ | ⟨rfl, rfl⟩ | ⟨rfl, rfl⟩ | ⟨rfl, rfl⟩ | ⟨rfl, rfl⟩ | ⟨rfl, rfl⟩ | ⟨rfl, rfl⟩ | ⟨rfl, rfl⟩ | ⟨rfl, rfl⟩ | ⟨rfl, rfl⟩ | ⟨rfl, rfl⟩
  · have hb : q_bin 22 x y = q_lim (if x = 0 ∧ y = 0 then 0 else 1) := (q_lim_bd q_bd_if).symm
    refine fin _ _ ?_ hb rfl
    unfold f_X12_works f_X12_works_b402 f_X12_works_b397 f_X12_works_b402
    simp only [h31, e1, e2, e_ck k1, e_ck k2, e_nm, nI_clamp (show t + 1 < 2 ^ 31 by omega), nI_clamp (show t < 2 ^ 31 by omega), hxx, hyy, q_is_works, e_blS, lg_cmp_eq]
    by_cases a : x = 0 <;> by_cases b : y = 0 <;> simp [a, b]
  · have hb : q_bin 23 x y = q_lim (if x = 0 ∨ y = 0 then 0 else 1) := (q_lim_bd q_bd_if).symm
    refine fin _ _ ?_ hb rfl
    unfold f_X12_works f_X12_works_b375 f_X12_works_b376
    simp only [h31, e1, e2, e_ck k1, e_ck k2, e_nm, nI_clamp (show t + 1 < 2 ^ 31 by omega), nI_clamp (show t < 2 ^ 31 by omega), hxx, hyy, q_is_works, e_blS, lg_cmp_eq]
    by_cases a : x = 0 <;> by_cases b : y = 0 <;> simp [a, b]
  · have hb : q_bin 43 x y = q_lim (x + y) := rfl
    refine fin _ _ ?_ hb rfl
    unfold f_X12_works
    simp only [h31, e1, e2, e_ck k1, e_ck k2, e_nm, nI_clamp (show t + 1 < 2 ^ 31 by omega), nI_clamp (show t < 2 ^ 31 by omega), hxx, hyy]
    simp
  · have hb : q_bin 44 x y = q_lim (x - y) := rfl
    refine fin _ _ ?_ hb rfl
    unfold f_X12_works
    simp only [h31, e1, e2, e_ck k1, e_ck k2, e_nm, nI_clamp (show t + 1 < 2 ^ 31 by omega), nI_clamp (show t < 2 ^ 31 by omega), hxx, hyy]
    simp
  · have hb : q_bin 45 x y = if x = 0 then q_lim (x * y) else if k_labs y ≤ 1000000000000 / k_labs x then q_lim (x * y) else none := rfl
    have hw : f_X12_works 42 μ = if x = 0 then f_X12_works_b407 (x * y) (mI μ 0 31 (nI (t + 1))) else k_ck (k_nzl (k_labs x)) (if k_labs y ≤ 1000000000000 / k_labs x then f_X12_works_b407 (x * y) (mI μ 0 31 (nI (t + 1))) else some (0, mI μ 0 31 (nI (t + 1)))) := by
      unfold f_X12_works f_X12_works_b212
      simp only [h31, e1, e2, e_ck k1, e_ck k2, e_nm, nI_clamp (show t + 1 < 2 ^ 31 by omega), nI_clamp (show t < 2 ^ 31 by omega), hxx, hyy, lg_cmp_eq, lg_cmp_le]
      simp
    by_cases a : x = 0
    · rw [if_pos a] at hb hw
      exact fin _ _ hw hb rfl
    · rw [if_neg a] at hb hw
      rw [e_ck (q_labs_nz a)] at hw
      by_cases b : k_labs y ≤ 1000000000000 / k_labs x
      · rw [if_pos b] at hb hw
        exact fin _ _ hw hb rfl
      · rw [if_neg b] at hb hw
        exact Or.inr ⟨hb, _, hw, FM.m31 _ _⟩
  · have hb : q_bin 46 x y = if y = 0 then none else some (x / y) := rfl
    have hw : f_X12_works 47 μ = if y = 0 then some (0, mI μ 0 31 (nI (t + 1))) else k_ck (k_nzl y) (f_X12_works_b407 (x / y) (mI μ 0 31 (nI (t + 1)))) := by
      unfold f_X12_works
      simp only [h31, e1, e2, e_ck k1, e_ck k2, e_nm, nI_clamp (show t + 1 < 2 ^ 31 by omega), nI_clamp (show t < 2 ^ 31 by omega), hxx, hyy, lg_cmp_eq, lg_cmp_le]
      simp
    by_cases a : y = 0
    · rw [if_pos a] at hb hw
      exact Or.inr ⟨hb, _, hw, FM.m31 _ _⟩
    · rw [if_neg a] at hb hw
      rw [e_ck (by unfold k_nzl; exact decide_eq_true a)] at hw
      exact fin _ _ hw (hb.trans (q_lim_bd (q_bd_div hx)).symm) rfl
  · have hb : q_bin 47 x y = q_lim (if y ≤ x then 0 else 1) := (q_lim_bd q_bd_if).symm
    refine fin _ _ ?_ hb rfl
    unfold f_X12_works f_X12_works_b250
    simp only [h31, e1, e2, e_ck k1, e_ck k2, e_nm, nI_clamp (show t + 1 < 2 ^ 31 by omega), nI_clamp (show t < 2 ^ 31 by omega), hxx, hyy, q_is_works, e_blS, lg_cmp_ge]
    by_cases a : y ≤ x <;> simp [a]
  · have hb : q_bin 48 x y = q_lim (if y < x then 0 else 1) := (q_lim_bd q_bd_if).symm
    refine fin _ _ ?_ hb rfl
    unfold f_X12_works f_X12_works_b310
    simp only [h31, e1, e2, e_ck k1, e_ck k2, e_nm, nI_clamp (show t + 1 < 2 ^ 31 by omega), nI_clamp (show t < 2 ^ 31 by omega), hxx, hyy, q_is_works, e_blS, lg_cmp_gt]
    by_cases a : y < x <;> simp [a]
  · have hb : q_bin 49 x y = q_lim (if x = y then 1 else 0) := (q_lim_bd q_bd_if2).symm
    refine fin _ _ ?_ hb rfl
    unfold f_X12_works f_X12_works_b290
    simp only [h31, e1, e2, e_ck k1, e_ck k2, e_nm, nI_clamp (show t + 1 < 2 ^ 31 by omega), nI_clamp (show t < 2 ^ 31 by omega), hxx, hyy, q_is_works, e_blS, lg_cmp_eq]
    by_cases a : x = y <;> simp [a]
  · have hb : q_bin 50 x y = q_lim (if x = y then 0 else 1) := (q_lim_bd q_bd_if).symm
    refine fin _ _ ?_ hb rfl
    unfold f_X12_works f_X12_works_b350
    simp only [h31, e1, e2, e_ck k1, e_ck k2, e_nm, nI_clamp (show t + 1 < 2 ^ 31 by omega), nI_clamp (show t < 2 ^ 31 by omega), hxx, hyy, q_is_works, e_blS, lg_cmp_eq]
    by_cases a : x = y <;> simp [a]
  · have hb : q_bin 51 x y = q_lim (if x < y then 0 else 1) := (q_lim_bd q_bd_if).symm
    refine fin _ _ ?_ hb rfl
    unfold f_X12_works f_X12_works_b330
    simp only [h31, e1, e2, e_ck k1, e_ck k2, e_nm, nI_clamp (show t + 1 < 2 ^ 31 by omega), nI_clamp (show t < 2 ^ 31 by omega), hxx, hyy, q_is_works, e_blS, lg_cmp_lt]
    by_cases a : x < y <;> simp [a]
  · have hb : q_bin 52 x y = q_lim (if x ≤ y then 0 else 1) := (q_lim_bd q_bd_if).symm
    refine fin _ _ ?_ hb rfl
    unfold f_X12_works f_X12_works_b270
    simp only [h31, e1, e2, e_ck k1, e_ck k2, e_nm, nI_clamp (show t + 1 < 2 ^ 31 by omega), nI_clamp (show t < 2 ^ 31 by omega), hxx, hyy, q_is_works, e_blS, lg_cmp_le]
    by_cases a : x ≤ y <;> simp [a]
