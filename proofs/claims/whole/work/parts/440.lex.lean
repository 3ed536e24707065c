/-! THE TEXT: tokens. B the reference's bytes, C the class's -/
def q_ltr (x : Int32) : Bool := decide (¬ x < 97 ∧ ¬ 122 < x)
def q_dgt (x : Int32) : Bool := decide (¬ x < 48 ∧ ¬ 57 < x)
def q_wht (x : Int32) : Bool := decide (x = 10 ∨ x = 32)
theorem s_X9_isLetter (x : Int32) (σ : MSt) : f_X9_isLetter x σ = some (if q_ltr x then 1 else 0, σ) := by
  unfold f_X9_isLetter f_X9_isLetter_b16 f_X9_isLetter_b17 q_ltr
  by_cases a : x < 97
  · rw [if_pos a, if_neg (by simp [a])]; rfl
  · by_cases b : 122 < x
    · rw [if_neg a, if_pos b, if_neg (by simp [b])]; rfl
    · rw [if_neg a, if_neg b, if_pos (by simp [a, b])]; rfl
theorem s_X9_isDigit (x : Int32) (σ : MSt) : f_X9_isDigit x σ = some (if q_dgt x then 1 else 0, σ) := by
  unfold f_X9_isDigit f_X9_isDigit_b16 f_X9_isDigit_b17 q_dgt
  by_cases a : x < 48
  · rw [if_pos a, if_neg (by simp [a])]; rfl
  · by_cases b : 57 < x
    · rw [if_neg a, if_pos b, if_neg (by simp [b])]; rfl
    · rw [if_neg a, if_neg b, if_pos (by simp [a, b])]; rfl
theorem s_X12_isSmall (x : Int32) (σ : MSt) : f_X12_isSmall x σ = some (if q_ltr x then 1 else 0, σ) := by
  unfold f_X12_isSmall f_X12_isSmall_b16 f_X12_isSmall_b17 q_ltr
  by_cases a : x < 97
  · rw [if_pos a, if_neg (by simp [a])]; rfl
  · by_cases b : 122 < x
    · rw [if_neg a, if_pos b, if_neg (by simp [b])]; rfl
    · rw [if_neg a, if_neg b, if_pos (by simp [a, b])]; rfl
theorem s_X12_isDigit (x : Int32) (σ : MSt) : f_X12_isDigit x σ = some (if q_dgt x then 1 else 0, σ) := by
  unfold f_X12_isDigit f_X12_isDigit_b16 f_X12_isDigit_b17 q_dgt
  by_cases a : x < 48
  · rw [if_pos a, if_neg (by simp [a])]; rfl
  · by_cases b : 57 < x
    · rw [if_neg a, if_pos b, if_neg (by simp [b])]; rfl
    · rw [if_neg a, if_neg b, if_pos (by simp [a, b])]; rfl
/-- what a byte is, in both -/
theorem q_BY.lit {c u : Int32} (h : q_BY c u) (L : Nat) (hL : L < 128) : c = nI L ↔ u = nI L := by
  rcases h with ⟨k, hk, rfl, rfl⟩ | ⟨hc, k, h1, h2, rfl⟩
  · exact Iff.rfl
  · constructor
    · intro e; subst e; exact absurd hc (nI_pos (by omega))
    · intro e
      have := (nI_eq (by omega) (by omega)).mp e
      omega
theorem q_BY.ltr {c u : Int32} (h : q_BY c u) : q_ltr c = q_ltr u := by
  rcases h with ⟨k, hk, rfl, rfl⟩ | ⟨hc, k, h1, h2, rfl⟩
  · rfl
  · have e1 : c < 97 := by rw [Int32.lt_iff_toInt_lt] at hc ⊢; rw [t_0] at hc; rw [show (97 : Int32).toInt = 97 from by decide]; omega
    have e2 : (122 : Int32) < nI k := nI_lt (a := 122) (b := k) (by omega) (by omega)
    unfold q_ltr
    rw [decide_eq_false (fun q => q.1 e1), decide_eq_false (fun q => q.2 e2)]
theorem q_BY.dgt {c u : Int32} (h : q_BY c u) : q_dgt c = q_dgt u := by
  rcases h with ⟨k, hk, rfl, rfl⟩ | ⟨hc, k, h1, h2, rfl⟩
  · rfl
  · have e1 : c < 48 := by rw [Int32.lt_iff_toInt_lt] at hc ⊢; rw [t_0] at hc; rw [show (48 : Int32).toInt = 48 from by decide]; omega
    have e2 : (57 : Int32) < nI k := nI_lt (a := 57) (b := k) (by omega) (by omega)
    unfold q_dgt
    rw [decide_eq_false (fun q => q.1 e1), decide_eq_false (fun q => q.2 e2)]
theorem q_ltr_of {x : Int32} (h : q_ltr x = true) : ∃ k, 97 ≤ k ∧ k ≤ 122 ∧ x = nI k := by
  unfold q_ltr at h
  obtain ⟨h1, h2⟩ := decide_eq_true_eq.mp h
  rw [Int32.lt_iff_toInt_lt, show (97 : Int32).toInt = 97 from by decide] at h1
  rw [Int32.lt_iff_toInt_lt, show (122 : Int32).toInt = 122 from by decide] at h2
  obtain ⟨b, hb, e⟩ := q_of (x := x) (n := 123) ⟨by omega, by omega⟩ (by omega)
  rw [e, nI_toInt (by omega)] at h1
  exact ⟨b, by omega, by omega, e⟩
theorem q_dgt_of {x : Int32} (h : q_dgt x = true) : ∃ k, 48 ≤ k ∧ k ≤ 57 ∧ x = nI k := by
  unfold q_dgt at h
  obtain ⟨h1, h2⟩ := decide_eq_true_eq.mp h
  rw [Int32.lt_iff_toInt_lt, show (48 : Int32).toInt = 48 from by decide] at h1
  rw [Int32.lt_iff_toInt_lt, show (57 : Int32).toInt = 57 from by decide] at h2
  obtain ⟨b, hb, e⟩ := q_of (x := x) (n := 58) ⟨by omega, by omega⟩ (by omega)
  rw [e, nI_toInt (by omega)] at h1
  exact ⟨b, by omega, by omega, e⟩
theorem q_BY.eq_ltr {c u : Int32} (h : q_BY c u) (hl : q_ltr u = true) : c = u := by
  rcases h with ⟨k, hk, rfl, rfl⟩ | ⟨hc, k, h1, h2, rfl⟩
  · rfl
  · obtain ⟨j, j1, j2, e⟩ := q_ltr_of hl
    have := (nI_eq (by omega) (by omega)).mp e
    omega
theorem q_BY.eq_dgt {c u : Int32} (h : q_BY c u) (hl : q_dgt u = true) : c = u := by
  rcases h with ⟨k, hk, rfl, rfl⟩ | ⟨hc, k, h1, h2, rfl⟩
  · rfl
  · obtain ⟨j, j1, j2, e⟩ := q_dgt_of hl
    have := (nI_eq (by omega) (by omega)).mp e
    omega
/-- a run [p, e) of signs of a kind, as long as may be -/
def q_RUN (k : Int32 → Bool) (B : Nat → Int32) (N p e : Nat) : Prop := p < e ∧ e ≤ N ∧ (∀ i, p ≤ i → i < e → k (B i) = true) ∧ (e < N → k (B e) = false)
theorem q_run_ex (k : Int32 → Bool) (B : Nat → Int32) (N : Nat) : ∀ (m p : Nat), p + m = N → 0 < m → k (B p) = true → ∃ e, q_RUN k B N p e := by
  intro m
  induction m with
  | zero => intro p _ h; omega
  | succ m ih =>
    intro p h1 h2 hp
    by_cases c : p + 1 < N
    · cases hk : k (B (p + 1)) with
      | false => exact ⟨p + 1, by omega, by omega, fun i a b => by rw [show i = p by omega]; exact hp, fun _ => hk⟩
      | true =>
        obtain ⟨e, r1, r2, r3, r4⟩ := ih (p + 1) (by omega) (by omega) hk
        refine ⟨e, by omega, r2, fun i a b => ?_, r4⟩
        by_cases z : i = p
        · rw [z]; exact hp
        · exact r3 i (by omega) b
    · exact ⟨p + 1, by omega, by omega, fun i a b => by rw [show i = p by omega]; exact hp, fun h => by omega⟩
/-! names packed -/
def q_lc (x : Int32) : Nat := x.toNatClampNeg - 96
/-- six letters as one number, base 32 -/
def q_nf (a : Nat → Nat) (L : Nat) : Nat → Nat
  | 0 => 0
  | k + 1 => 32 * q_nf a L k + (if k < L then a k else 0)
theorem q_nI_or {a b : Nat} (ha : a < 2 ^ 31) (hb : b < 2 ^ 31) : nI a ||| nI b = nI (a ||| b) := by
  have hc : a ||| b < 2 ^ 31 := Nat.or_lt_two_pow ha hb
  apply Int32.toBitVec_inj.mp
  apply BitVec.eq_of_toNat_eq
  rw [Int32.toBitVec_or, BitVec.toNat_or, pk_tn (by omega), pk_tn (by omega), pk_tn (by omega)]
theorem q_nf_b (a : Nat → Nat) (L : Nat) (ha : ∀ i, i < L → a i < 32) : ∀ k, q_nf a L k < 32 ^ k := by
  intro k
  induction k with
  | zero => show 0 < 1; omega
  | succ k ih =>
    show 32 * q_nf a L k + (if k < L then a k else 0) < 32 ^ (k + 1)
    rw [Nat.pow_succ]
    split
    · have := ha k (by assumption); omega
    · omega
theorem q_nf_L (a : Nat → Nat) : ∀ k L L', k ≤ L → k ≤ L' → q_nf a L k = q_nf a L' k := by
  intro k
  induction k with
  | zero => intro _ _ _ _; rfl
  | succ k ih =>
    intro L L' h1 h2
    show 32 * q_nf a L k + (if k < L then a k else 0) = 32 * q_nf a L' k + (if k < L' then a k else 0)
    rw [ih L L' (by omega) (by omega), if_pos (by omega), if_pos (by omega)]
/-- the class packs from the left -/
def q_pk (B : Nat → Int32) (f : Nat) : Nat → Int32
  | 0 => 0
  | j + 1 => if j < 6 then q_pk B f j ||| (((B (f + j) - 97) + 1) <<< ((5 * (5 - nI j)) &&& 31)) else q_pk B f j
theorem q_sub97 {k : Nat} (h1 : 97 ≤ k) : nI k - 97 + 1 = nI (k - 96) := by
  rw [show (97 : Int32) = nI 97 from rfl, pk_sub h1, nI_1]
  congr 1
  omega
theorem q_sh5 (j : Nat) (hj : j < 6) : ((((5 : Int32) * (5 - nI j)) &&& 31).toBitVec.smod 32).toNat = 25 - 5 * j := by
  have : j = 0 ∨ j = 1 ∨ j = 2 ∨ j = 3 ∨ j = 4 ∨ j = 5 := by omega
  rcases this with rfl | rfl | rfl | rfl | rfl | rfl <;> decide
theorem q_lc_b {x : Int32} (h : q_ltr x = true) : 1 ≤ q_lc x ∧ q_lc x ≤ 26 ∧ x - 97 + 1 = nI (q_lc x) := by
  obtain ⟨k, h1, h2, rfl⟩ := q_ltr_of h
  unfold q_lc
  rw [nI_clamp (by omega), q_sub97 h1]
  exact ⟨by omega, by omega, rfl⟩
theorem q_p32 (k : Nat) : (32 : Nat) ^ k = 2 ^ (5 * k) := by rw [show (32 : Nat) = 2 ^ 5 from rfl, ← Nat.pow_mul]
theorem q_pk_nf (B : Nat → Int32) (f : Nat) : ∀ j, j ≤ 6 → (∀ i, i < j → q_ltr (B (f + i)) = true) → q_pk B f j = nI (q_nf (fun i => q_lc (B (f + i))) j j * 32 ^ (6 - j)) := by
  intro j
  induction j with
  | zero => intro _ _; show (0 : Int32) = nI (0 * 32 ^ 6); rw [Nat.zero_mul]; rfl
  | succ j ih =>
    intro hj hl
    have i1 := ih (by omega) (fun i hi => hl i (by omega))
    obtain ⟨b1, b2, b3⟩ := q_lc_b (hl j (by omega))
    have nb := q_nf_b (fun i => q_lc (B (f + i))) j (fun i hi => by have := (q_lc_b (hl i (by omega))).2.1; omega) j
    have hpow : ∀ m, m ≤ 6 → 32 ^ m ≤ 1073741824 := fun m hm => by
      have := Nat.pow_le_pow_right (show 0 < 32 by omega) hm
      simpa using this
    have e2 : 32 ^ (6 - j) = 32 * 32 ^ (5 - j) := by rw [show 6 - j = (5 - j) + 1 by omega, Nat.pow_succ]; omega
    have e3 : (2 : Nat) ^ (25 - 5 * j) = 32 ^ (5 - j) := by rw [q_p32]; congr 1; omega
    have q1 := hpow (5 - j) (by omega)
    have pp : 0 < 32 ^ (5 - j) := Nat.pow_pos (by omega)
    have q5 : 32 ^ (5 - j) ≤ 33554432 := by
      have := Nat.pow_le_pow_right (show 0 < 32 by omega) (show 5 - j ≤ 5 by omega)
      simpa using this
    have lt1 : q_lc (B (f + j)) * 32 ^ (5 - j) < 32 ^ (6 - j) := by rw [e2]; exact Nat.mul_lt_mul_of_pos_right (by omega) pp
    have M : q_nf (fun i => q_lc (B (f + i))) j j * 32 ^ (6 - j) < 2 ^ 30 := by
      have : q_nf (fun i => q_lc (B (f + i))) j j * 32 ^ (6 - j) < 32 ^ j * 32 ^ (6 - j) := Nat.mul_lt_mul_of_pos_right nb (Nat.pow_pos (by omega))
      rw [← Nat.pow_add, show j + (6 - j) = 6 by omega] at this
      simpa using this
    have lt2 : q_lc (B (f + j)) * 32 ^ (5 - j) < 2 ^ 30 := by
      have := hpow (6 - j) (by omega)
      omega
    show (if j < 6 then q_pk B f j ||| (((B (f + j) - 97) + 1) <<< ((5 * (5 - nI j)) &&& 31)) else q_pk B f j) = _
    rw [if_pos (by omega), i1, b3, pk_shlN _ (25 - 5 * j) (q_sh5 j (by omega)) (by rw [e3]; omega), e3, q_nI_or (by omega) (by omega)]
    congr 1
    have eo : q_nf (fun i => q_lc (B (f + i))) j j * 32 ^ (6 - j) ||| q_lc (B (f + j)) * 32 ^ (5 - j) = q_nf (fun i => q_lc (B (f + i))) j j * 32 ^ (6 - j) + q_lc (B (f + j)) * 32 ^ (5 - j) := by
      have := Nat.shiftLeft_add_eq_or_of_lt (i := 5 * (6 - j)) (b := q_lc (B (f + j)) * 32 ^ (5 - j)) (by rw [← q_p32]; exact lt1) (q_nf (fun i => q_lc (B (f + i))) j j)
      rw [Nat.shiftLeft_eq, ← q_p32] at this
      exact this.symm
    rw [eo, show 6 - (j + 1) = 5 - j by omega]
    show _ = (32 * q_nf (fun i => q_lc (B (f + i))) (j + 1) j + (if j < j + 1 then q_lc (B (f + j)) else 0)) * 32 ^ (5 - j)
    rw [if_pos (by omega), q_nf_L _ j (j + 1) j (by omega) (by omega), e2, Nat.add_mul]
    congr 1
    rw [← Nat.mul_assoc, Nat.mul_comm _ 32]
/-- all six places of a name -/
theorem q_nf_pad (a : Nat → Nat) (L : Nat) : ∀ k, q_nf a L (L + k) = q_nf a L L * 32 ^ k := by
  intro k
  induction k with
  | zero => rw [Nat.pow_zero, Nat.mul_one]; rfl
  | succ k ih =>
    show 32 * q_nf a L (L + k) + (if L + k < L then a (L + k) else 0) = _
    rw [if_neg (by omega), ih, Nat.pow_succ, Nat.add_zero, Nat.mul_comm 32, Nat.mul_assoc]
theorem q_pk_6 (B : Nat → Int32) (f L : Nat) (hL : L ≤ 6) (hl : ∀ i, i < L → q_ltr (B (f + i)) = true) : q_pk B f L = nI (q_nf (fun i => q_lc (B (f + i))) L 6) := by
  rw [q_pk_nf B f L hL hl]
  have := q_nf_pad (fun i => q_lc (B (f + i))) L (6 - L)
  rw [show L + (6 - L) = 6 by omega] at this
  rw [this]
