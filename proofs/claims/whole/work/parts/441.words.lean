/-! the language's words -/
def q_wt : List (List Nat) := [[2, 1, 25], [12, 1, 14, 5], [4, 5, 5, 4], [23, 9, 14, 4], [19, 8, 9, 16], [18, 5, 1, 3, 8], [20, 18, 21, 19, 20], [19, 5, 5, 4], [12, 1, 23], [6, 15, 14, 4], [8, 15, 12, 4], [7, 1, 9, 14], [15, 18], [1, 14, 4], [14, 15, 20], [10, 15, 25, 19], [12, 1, 19, 20], [13, 1, 14, 25], [7, 1, 12, 5], [4, 1, 20, 5], [13, 15, 15, 4], [8, 5, 18, 5]]
/-- do the signs from p + i to e spell these letters? -/
def q_mt (B : Nat → Int32) (p e : Nat) : List Nat → Nat → Bool
  | [], i => decide (p + i = e)
  | c :: cs, i => decide (p + i < e) && (decide (B (p + i) = nI (c + 96)) && q_mt B p e cs (i + 1))
def q_spw : Nat → List Nat → Bool
  | k, [] => decide (k_chr (nI k) = 32) && decide (k < 106)
  | k, c :: cs => (decide (k_chr (nI k) = nI (c + 96)) && (decide (k < 106) && (decide (1 ≤ c) && decide (c ≤ 26)))) && q_spw (k + 1) cs
def q_sp : Nat → List (List Nat) → Bool
  | k, [] => decide (k = 106)
  | k, cs :: t => (q_spw k cs && decide (cs.length ≤ 6)) && q_sp (k + cs.length + 1) t
theorem q_sp_all : q_sp 0 q_wt = true := by decide +kernel
def q_pl (cs : List Nat) : Nat := q_nf (fun i => cs.getD i 0) cs.length 6
def q_pc : List (List Nat) → Nat → Bool
  | [], _ => true
  | cs :: t, w => (decide (q_wrd.getD w 0 = nI (q_pl cs)) && (decide (1 ≤ cs.length) && (decide (cs.length ≤ 6) && cs.all (fun c => decide (1 ≤ c) && decide (c ≤ 26))))) && q_pc t (w + 1)
theorem q_pc_all : q_pc q_wt 0 = true := by decide +kernel
def q_fw (B : Nat → Int32) (p e : Nat) : List (List Nat) → Nat → Int32
  | [], _ => -1
  | cs :: t, w => if q_mt B p e cs 0 then nI w else q_fw B p e t (w + 1)
theorem q_fw_b (B : Nat → Int32) (p e : Nat) : ∀ t w, q_fw B p e t w = -1 ∨ ∃ j, w ≤ j ∧ j < w + t.length ∧ q_fw B p e t w = nI j := by
  intro t
  induction t with
  | nil => intro w; exact Or.inl rfl
  | cons cs t ih =>
    intro w
    unfold q_fw
    by_cases c : q_mt B p e cs 0 = true
    · rw [if_pos c]; exact Or.inr ⟨w, by omega, by rw [List.length_cons]; omega, rfl⟩
    · rw [if_neg c]
      rcases ih (w + 1) with q | ⟨j, h1, h2, h3⟩
      · exact Or.inl q
      · exact Or.inr ⟨j, by omega, by rw [List.length_cons]; omega, h3⟩
theorem q_c96 {c : Nat} (h1 : 1 ≤ c) (h2 : c ≤ 26) : ¬ nI (c + 96) = 32 := fun q => by
  have := (nI_eq (a := c + 96) (b := 32) (by omega) (by omega)).mp q
  omega
section
variable {p e : Nat} {μ : MSt}
theorem q_word_i (hp : μ.1 0 20 = nI p) (he : μ.1 0 19 = nI e) (hpe : p ≤ e) (he7 : e ≤ 700) (r4 : Int32 → Int32 → MSt → Option (Int32 × MSt)) (w k : Nat) : ∀ (cs : List Nat) (n i : Nat), q_spw (k + i) cs = true → cs.length < n → p + i ≤ e → f_X12_word_b15 r4 n (nI w) (nI k) (nI i) μ = if q_mt (μ.1 1) p e cs i then some (nI w, μ) else f_X12_word_b97 r4 FU (nI w) (nI k) μ := by
  intro cs
  induction cs with
  | nil =>
    intro n i h1 h2 h3
    obtain ⟨n, rfl⟩ : ∃ z, n = z + 1 := ⟨n - 1, by omega⟩
    unfold q_spw at h1
    rw [Bool.and_eq_true, decide_eq_true_eq, decide_eq_true_eq] at h1
    have kk : k_inb (nI (k + i)) 106 = true := e_in h1.2 (by decide)
    show f_X12_word_b15_s r4 (f_X12_word_b15 r4 n) (nI w) (nI k) (nI i) μ = _
    unfold f_X12_word_b15_s f_X12_word_b69 q_mt
    rw [nI_add, e_ck kk, if_pos h1.1, e_ck kk, if_pos h1.1, hp, he, nI_add]
    by_cases c : p + i = e
    · rw [if_pos (by rw [c]), if_pos (decide_eq_true c)]
    · rw [if_neg (fun q => c ((nI_eq (by omega) (by omega)).mp q)), if_neg (by rw [decide_eq_false c]; decide)]
  | cons c cs ih =>
    intro n i h1 h2 h3
    obtain ⟨n, rfl⟩ : ∃ z, n = z + 1 := ⟨n - 1, by omega⟩
    rw [List.length_cons] at h2
    unfold q_spw at h1
    simp only [Bool.and_eq_true, decide_eq_true_eq] at h1
    obtain ⟨⟨g1, g2, g3, g4⟩, g5⟩ := h1
    have kk : k_inb (nI (k + i)) 106 = true := e_in g2 (by decide)
    have n32 : ¬ k_chr (nI (k + i)) = 32 := by rw [g1]; exact q_c96 g3 g4
    show f_X12_word_b15_s r4 (f_X12_word_b15 r4 n) (nI w) (nI k) (nI i) μ = _
    unfold f_X12_word_b15_s f_X12_word_b69 q_mt
    rw [nI_add, e_ck kk, if_neg n32, e_ck kk, if_neg n32, hp, he, nI_add]
    by_cases d : p + i < e
    · have kt : k_inb (nI (p + i)) 700 = true := e_in (by omega) (by decide)
      rw [if_neg (nI_ge d (by omega)), e_ck kt, e_ck kk, nI_clamp (by omega), g1]
      by_cases f : μ.1 1 (p + i) = nI (c + 96)
      · rw [if_pos f, e_nm, nI_1, ih n (i + 1) (by rw [← Nat.add_assoc]; exact g5) (by omega) (by omega), decide_eq_true d, decide_eq_true f, Bool.true_and, Bool.true_and]
      · rw [if_neg f, decide_eq_false f, Bool.false_and, Bool.and_false]
        rfl
    · rw [if_pos (nI_le (by omega) (by omega)), decide_eq_false d, Bool.false_and]
      rfl
theorem q_word_n (r4 : Int32 → Int32 → MSt → Option (Int32 × MSt)) (w : Nat) : ∀ (cs : List Nat) (n k : Nat), q_spw k cs = true → cs.length < n → f_X12_word_b97 r4 n (nI w) (nI k) μ = r4 (nI (w + 1)) (nI (k + cs.length + 1)) μ := by
  intro cs
  induction cs with
  | nil =>
    intro n k h1 h2
    obtain ⟨n, rfl⟩ : ∃ z, n = z + 1 := ⟨n - 1, by omega⟩
    unfold q_spw at h1
    rw [Bool.and_eq_true, decide_eq_true_eq, decide_eq_true_eq] at h1
    show f_X12_word_b97_s r4 (f_X12_word_b97 r4 n) (nI w) (nI k) μ = _
    unfold f_X12_word_b97_s
    rw [e_ck (e_in h1.2 (by decide)), if_pos h1.1, e_nm, e_nm, nI_1, nI_1]
    rfl
  | cons c cs ih =>
    intro n k h1 h2
    obtain ⟨n, rfl⟩ : ∃ z, n = z + 1 := ⟨n - 1, by omega⟩
    rw [List.length_cons] at h2
    unfold q_spw at h1
    simp only [Bool.and_eq_true, decide_eq_true_eq] at h1
    obtain ⟨⟨g1, g2, g3, g4⟩, g5⟩ := h1
    show f_X12_word_b97_s r4 (f_X12_word_b97 r4 n) (nI w) (nI k) μ = _
    unfold f_X12_word_b97_s
    rw [e_ck (e_in g2 (by decide)), if_neg (by rw [g1]; exact q_c96 g3 g4), e_nm, nI_1, ih n (k + 1) g5 (by omega), List.length_cons, show k + 1 + cs.length + 1 = k + (cs.length + 1) + 1 by omega]
theorem q_word_o (hp : μ.1 0 20 = nI p) (he : μ.1 0 19 = nI e) (hpe : p ≤ e) (he7 : e ≤ 700) : ∀ (t : List (List Nat)) (n w k : Nat), q_sp k t = true → t.length < n → k ≤ 106 → f_X12_word_b4 n (nI w) (nI k) μ = some (q_fw (μ.1 1) p e t w, μ) := by
  intro t
  induction t with
  | nil =>
    intro n w k h1 h2 h3
    obtain ⟨n, rfl⟩ : ∃ z, n = z + 1 := ⟨n - 1, by omega⟩
    unfold q_sp at h1
    rw [decide_eq_true_eq] at h1
    subst h1
    rfl
  | cons cs t ih =>
    intro n w k h1 h2 h3
    obtain ⟨n, rfl⟩ : ∃ z, n = z + 1 := ⟨n - 1, by omega⟩
    rw [List.length_cons] at h2
    unfold q_sp at h1
    simp only [Bool.and_eq_true, decide_eq_true_eq] at h1
    obtain ⟨⟨g1, g2⟩, g3⟩ := h1
    have hk : k + cs.length < 106 := by
      have : ∀ (cs : List Nat) (k : Nat), q_spw k cs = true → k + cs.length < 106 := by
        intro cs
        induction cs with
        | nil => intro k h; unfold q_spw at h; rw [Bool.and_eq_true, decide_eq_true_eq, decide_eq_true_eq] at h; exact h.2
        | cons c cs ih =>
          intro k h
          unfold q_spw at h
          simp only [Bool.and_eq_true, decide_eq_true_eq] at h
          have := ih (k + 1) h.2
          rw [List.length_cons]
          omega
      exact this cs k g1
    have e1 := q_word_i hp he hpe he7 (f_X12_word_b4 n) w k cs FU 0 g1 (by unfold FU; omega) (by omega)
    have e1' : f_X12_word_b15 (f_X12_word_b4 n) FU (nI w) (nI k) 0 μ = _ := e1
    show f_X12_word_b4_s (f_X12_word_b4 n) (nI w) (nI k) μ = _
    unfold f_X12_word_b4_s q_fw
    rw [if_neg (show ¬ (106 : Int32) ≤ nI k from nI_ge (a := k) (b := 106) (by omega) (by decide)), e1']
    by_cases c : q_mt (μ.1 1) p e cs 0 = true
    · rw [if_pos c, if_pos c]
    · rw [if_neg c, if_neg c, q_word_n (f_X12_word_b4 n) w cs FU k g1 (by unfold FU; omega)]
      exact ih n (w + 1) (k + cs.length + 1) g3 (by omega) (by omega)
theorem s_X12_word (hp : μ.1 0 20 = nI p) (he : μ.1 0 19 = nI e) (hpe : p ≤ e) (he7 : e ≤ 700) : f_X12_word μ = some (q_fw (μ.1 1) p e q_wt 0, μ) := q_word_o hp he hpe he7 q_wt FU 0 0 q_sp_all (by decide) (by omega)
end
/-- letters and packed number say the same -/
theorem q_mt_of (B : Nat → Int32) (p e : Nat) : ∀ (cs : List Nat) (i : Nat), p + i + cs.length = e → (∀ j, j < cs.length → B (p + i + j) = nI (cs.getD j 0 + 96)) → q_mt B p e cs i = true := by
  intro cs
  induction cs with
  | nil => intro i h _; unfold q_mt; exact decide_eq_true (by rw [List.length_nil] at h; omega)
  | cons c cs ih =>
    intro i h1 h2
    rw [List.length_cons] at h1
    unfold q_mt
    have h0 := h2 0 (by rw [List.length_cons]; omega)
    rw [decide_eq_true (show p + i < e by omega), decide_eq_true (show B (p + i) = nI (c + 96) from h0), Bool.true_and, Bool.true_and]
    refine ih (i + 1) (by omega) (fun j hj => ?_)
    have := h2 (j + 1) (by rw [List.length_cons]; omega)
    rw [show p + (i + 1) + j = p + i + (j + 1) by omega]
    exact this
theorem q_mt_to (B : Nat → Int32) (p e : Nat) : ∀ (cs : List Nat) (i : Nat), q_mt B p e cs i = true → p + i + cs.length = e ∧ (∀ j, j < cs.length → B (p + i + j) = nI (cs.getD j 0 + 96)) := by
  intro cs
  induction cs with
  | nil => intro i h; unfold q_mt at h; rw [decide_eq_true_eq] at h; exact ⟨h, fun j hj => by rw [List.length_nil] at hj; omega⟩
  | cons c cs ih =>
    intro i h
    unfold q_mt at h
    simp only [Bool.and_eq_true, decide_eq_true_eq] at h
    obtain ⟨h1, h2, h3⟩ := h
    obtain ⟨g1, g2⟩ := ih (i + 1) h3
    refine ⟨by rw [List.length_cons]; omega, fun j hj => ?_⟩
    cases j with
    | zero => exact h2
    | succ j =>
      rw [List.length_cons] at hj
      have := g2 j (by omega)
      rw [show p + i + (j + 1) = p + (i + 1) + j by omega]
      exact this
theorem q_nf_cong (a b : Nat → Nat) (L : Nat) (h : ∀ i, i < L → a i = b i) : ∀ k, q_nf a L k = q_nf b L k := by
  intro k
  induction k with
  | zero => rfl
  | succ k ih =>
    show 32 * q_nf a L k + (if k < L then a k else 0) = 32 * q_nf b L k + (if k < L then b k else 0)
    rw [ih]
    by_cases c : k < L
    · rw [if_pos c, if_pos c, h k c]
    · rw [if_neg c, if_neg c]
theorem q_nf_6 (a : Nat → Nat) (L : Nat) : q_nf a L 6 = 33554432 * (if 0 < L then a 0 else 0) + 1048576 * (if 1 < L then a 1 else 0) + 32768 * (if 2 < L then a 2 else 0) + 1024 * (if 3 < L then a 3 else 0) + 32 * (if 4 < L then a 4 else 0) + (if 5 < L then a 5 else 0) := by
  show 32 * (32 * (32 * (32 * (32 * (32 * 0 + (if 0 < L then a 0 else 0)) + (if 1 < L then a 1 else 0)) + (if 2 < L then a 2 else 0)) + (if 3 < L then a 3 else 0)) + (if 4 < L then a 4 else 0)) + (if 5 < L then a 5 else 0) = _
  omega
theorem q_nf_inj (a b : Nat → Nat) (L M : Nat) (hL : L ≤ 6) (hM : M ≤ 6) (ha : ∀ i, i < L → 1 ≤ a i ∧ a i ≤ 26) (hb : ∀ i, i < M → 1 ≤ b i ∧ b i ≤ 26) (h : q_nf a L 6 = q_nf b M 6) : L = M ∧ ∀ i, i < L → a i = b i := by
  have ga : ∀ i, (if i < L then a i else 0) ≤ 26 := fun i => by
    by_cases c : i < L
    · rw [if_pos c]; exact (ha i c).2
    · rw [if_neg c]; omega
  have gb : ∀ i, (if i < M then b i else 0) ≤ 26 := fun i => by
    by_cases c : i < M
    · rw [if_pos c]; exact (hb i c).2
    · rw [if_neg c]; omega
  rw [q_nf_6, q_nf_6] at h
  have a0 := ga 0
  have a1 := ga 1
  have a2 := ga 2
  have a3 := ga 3
  have a4 := ga 4
  have a5 := ga 5
  have b0 := gb 0
  have b1 := gb 1
  have b2 := gb 2
  have b3 := gb 3
  have b4 := gb 4
  have b5 := gb 5
  have key : ∀ i, i < 6 → (if i < L then a i else 0) = (if i < M then b i else 0) := by
    have e0 : (if 0 < L then a 0 else 0) = (if 0 < M then b 0 else 0) := by omega
    have e1 : (if 1 < L then a 1 else 0) = (if 1 < M then b 1 else 0) := by omega
    have e2 : (if 2 < L then a 2 else 0) = (if 2 < M then b 2 else 0) := by omega
    have e3 : (if 3 < L then a 3 else 0) = (if 3 < M then b 3 else 0) := by omega
    have e4 : (if 4 < L then a 4 else 0) = (if 4 < M then b 4 else 0) := by omega
    have e5 : (if 5 < L then a 5 else 0) = (if 5 < M then b 5 else 0) := by omega
    intro i hi
    have : i = 0 ∨ i = 1 ∨ i = 2 ∨ i = 3 ∨ i = 4 ∨ i = 5 := by omega
    rcases this with rfl | rfl | rfl | rfl | rfl | rfl
    · exact e0
    · exact e1
    · exact e2
    · exact e3
    · exact e4
    · exact e5
  have eq : L = M := by
    rcases Nat.lt_trichotomy L M with c | c | c
    · have := key L (by omega)
      rw [if_neg (by omega), if_pos c] at this
      have := (hb L c).1
      omega
    · exact c
    · have := key M (by omega)
      rw [if_pos c, if_neg (by omega)] at this
      have := (ha M c).1
      omega
  subst eq
  refine ⟨rfl, fun i hi => ?_⟩
  have := key i (by omega)
  rw [if_pos hi, if_pos hi] at this
  exact this
