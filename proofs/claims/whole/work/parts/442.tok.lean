theorem q_lc96 {c : Nat} (h : c ≤ 26) : q_lc (nI (c + 96)) = c := by
  unfold q_lc
  rw [nI_clamp (by omega)]
  omega
theorem q_all_b {cs : List Nat} (h : cs.all (fun c => decide (1 ≤ c) && decide (c ≤ 26)) = true) : ∀ i, i < cs.length → 1 ≤ cs.getD i 0 ∧ cs.getD i 0 ≤ 26 := by
  intro i hi
  have e : cs.getD i 0 = cs[i] := by rw [List.getD_eq_getElem?_getD, List.getElem?_eq_getElem hi]; rfl
  have := List.all_eq_true.mp h cs[i] (List.getElem_mem hi)
  rw [Bool.and_eq_true, decide_eq_true_eq, decide_eq_true_eq] at this
  rw [e]
  exact this
theorem q_pk_mt (B : Nat → Int32) (p L : Nat) (hL : L ≤ 6) (hl : ∀ i, i < L → q_ltr (B (p + i)) = true) (cs : List Nat) (h6 : cs.length ≤ 6) (hc : cs.all (fun c => decide (1 ≤ c) && decide (c ≤ 26)) = true) : nI (q_pl cs) = q_pk B p L ↔ q_mt B p (p + L) cs 0 = true := by
  have hb := q_all_b hc
  have ha : ∀ i, i < L → 1 ≤ q_lc (B (p + i)) ∧ q_lc (B (p + i)) ≤ 26 := fun i hi => ⟨(q_lc_b (hl i hi)).1, (q_lc_b (hl i hi)).2.1⟩
  have b1 := q_nf_b (fun i => q_lc (B (p + i))) L (fun i hi => by have := (ha i hi).2; omega) 6
  have b2 := q_nf_b (fun i => cs.getD i 0) cs.length (fun i hi => by have := (hb i hi).2; omega) 6
  rw [show (32 : Nat) ^ 6 = 1073741824 from by decide] at b1 b2
  rw [q_pk_6 B p L hL hl]
  constructor
  · intro e
    have e := (nI_eq (by unfold q_pl; omega) (by omega)).mp e
    obtain ⟨e1, e2⟩ := q_nf_inj _ _ _ _ hL h6 ha hb e.symm
    refine q_mt_of B p (p + L) cs 0 (by omega) (fun j hj => ?_)
    have := e2 j (by omega)
    obtain ⟨k, k1, k2, ek⟩ := q_ltr_of (hl j (by omega))
    rw [Nat.add_zero, ek]
    congr 1
    have : q_lc (B (p + j)) = cs.getD j 0 := this
    rw [ek] at this
    unfold q_lc at this
    rw [nI_clamp (by omega)] at this
    omega
  · intro h
    obtain ⟨g1, g2⟩ := q_mt_to B p (p + L) cs 0 h
    have : cs.length = L := by omega
    subst this
    congr 1
    refine q_nf_cong _ _ _ (fun i hi => ?_) 6
    have := g2 i hi
    rw [Nat.add_zero] at this
    show cs.getD i 0 = q_lc (B (p + i))
    rw [this, q_lc96 (hb i hi).2]
/-- the class's sort of a word is the reference's number of it -/
theorem q_sow_l (B : Nat → Int32) (p L : Nat) (hL : L ≤ 6) (hl : ∀ i, i < L → q_ltr (B (p + i)) = true) (σ : MSt) (W : q_WD σ) : ∀ (t : List (List Nat)) (n w : Nat), q_pc t w = true → w + t.length = 22 → t.length < n → f_X9_sortOfWord_b2 n (q_pk B p L) (nI w) σ = some (if q_fw B p (p + L) t w = -1 then 2 else 10 + q_fw B p (p + L) t w, σ) := by
  intro t
  induction t with
  | nil =>
    intro n w h1 h2 h3
    obtain ⟨n, rfl⟩ : ∃ z, n = z + 1 := ⟨n - 1, by omega⟩
    have hw : w = 22 := by rw [List.length_nil] at h2; omega
    subst hw
    rfl
  | cons cs t ih =>
    intro n w h1 h2 h3
    obtain ⟨n, rfl⟩ : ∃ z, n = z + 1 := ⟨n - 1, by omega⟩
    rw [List.length_cons] at h2 h3
    unfold q_pc at h1
    simp only [Bool.and_eq_true, decide_eq_true_eq] at h1
    obtain ⟨⟨g1, g2, g3, g4⟩, g5⟩ := h1
    have iff := q_pk_mt B p L hL hl cs g3 g4
    show f_X9_sortOfWord_b2_s (f_X9_sortOfWord_b2 n) (q_pk B p L) (nI w) σ = _
    unfold f_X9_sortOfWord_b2_s q_fw
    rw [if_neg (show ¬ (22 : Int32) ≤ nI w from nI_ge (a := w) (b := 22) (by omega) (by decide)), e_ck (e_in (show w < 22 by omega) (by decide)), nI_clamp (by omega), W w (by omega), g1]
    by_cases c : q_mt B p (p + L) cs 0 = true
    · rw [if_pos (iff.mpr c), if_pos c, if_neg (q_n1 (by omega))]
    · rw [if_neg (fun q => c (iff.mp q)), if_neg c, e_nm, nI_1]
      exact ih n (w + 1) g5 (by omega) (by omega)
theorem s_X9_sortOfWord (B : Nat → Int32) (p L : Nat) (hL : L ≤ 6) (hl : ∀ i, i < L → q_ltr (B (p + i)) = true) (σ : MSt) (W : q_WD σ) : f_X9_sortOfWord (q_pk B p L) σ = some (if q_fw B p (p + L) q_wt 0 = -1 then 2 else 10 + q_fw B p (p + L) q_wt 0, σ) := q_sow_l B p L hL hl σ W q_wt FU 0 q_pc_all (by decide) (by decide)
/-- numbers, as class and reference read them -/
def q_nb (B : Nat → Int32) (p : Nat) : Nat → Int32
  | 0 => 0
  | j + 1 => k_min 1000000 ((q_nb B p j * 10 + B (p + j)) - 48)
def q_nv (B : Nat → Int32) (p : Nat) : Nat → Int32
  | 0 => 0
  | j + 1 => if q_nv B p j ≤ 99999 then (10 * q_nv B p j + B (p + j)) - 48 else q_nv B p j
def q_NV (v va : Int32) : Prop := (∃ k, k ≤ 99999 ∧ v = nI k ∧ va = nI k) ∨ (∃ k k', 99999 < k ∧ k ≤ 1000000 ∧ 99999 < k' ∧ k' ≤ 999999 ∧ v = nI k ∧ va = nI k')
theorem q_nb_nv (B : Nat → Int32) (p : Nat) : ∀ j, (∀ i, i < j → q_dgt (B (p + i)) = true) → q_NV (q_nb B p j) (q_nv B p j) := by
  intro j
  induction j with
  | zero => intro _; exact Or.inl ⟨0, by omega, rfl, rfl⟩
  | succ j ih =>
    intro h
    obtain ⟨d, d1, d2, ed⟩ := q_dgt_of (h j (by omega))
    have i1 := ih (fun i hi => h i (by omega))
    unfold q_nb q_nv
    rw [ed]
    have st : ∀ k, k ≤ 1000000 → (nI k * 10 + nI d) - 48 = nI (k * 10 + (d - 48)) := by
      intro k hk
      rw [show (10 : Int32) = nI 10 from rfl, pk_mul, nI_add, show (48 : Int32) = nI 48 from rfl, pk_sub (by omega)]
      congr 1
      omega
    rcases i1 with ⟨k, hk, e1, e2⟩ | ⟨k, k', h1, h2, h3, h4, e1, e2⟩
    · have ec : (10 : Int32) * nI k = nI k * 10 := Int32.mul_comm _ _
      rw [e1, e2, if_pos (show nI k ≤ (99999 : Int32) from nI_le (a := k) (b := 99999) hk (by decide)), ec, st k (by omega), show (1000000 : Int32) = nI 1000000 from rfl, q_kmin _ _ (by omega) (by omega), show min 1000000 (k * 10 + (d - 48)) = k * 10 + (d - 48) by omega]
      by_cases c : k * 10 + (d - 48) ≤ 99999
      · exact Or.inl ⟨_, c, rfl, rfl⟩
      · exact Or.inr ⟨_, _, by omega, by omega, by omega, by omega, rfl, rfl⟩
    · rw [e1, e2, if_neg (show ¬ nI k' ≤ (99999 : Int32) from nI_ge (a := 99999) (b := k') (by omega) (by omega)), st k (by omega), show (1000000 : Int32) = nI 1000000 from rfl, q_kmin _ _ (by omega) (by omega)]
      exact Or.inr ⟨_, k', by omega, by omega, h3, h4, rfl, rfl⟩
/-- signs -/
def q_pr (c d : Int32) : Int32 := if c = 60 ∧ d = 61 then 48 else if c = 60 ∧ d = 62 then 50 else if c = 62 ∧ d = 61 then 51 else 1
def q_sg (c : Int32) : Int32 := if c = 40 then 41 else if c = 41 then 42 else if c = 42 then 45 else if c = 43 then 43 else if c = 45 then 44 else if c = 47 then 46 else if c = 59 then 40 else if c = 60 then 47 else if c = 61 then 49 else if c = 62 then 52 else 1
theorem s_X9_sortOfPair (c d : Int32) (σ : MSt) : f_X9_sortOfPair c d σ = some (q_pr c d, σ) := by
  unfold f_X9_sortOfPair f_X9_sortOfPair_b15 f_X9_sortOfPair_b30 f_X9_sortOfPair_b47 f_X9_sortOfPair_b48 q_pr
  by_cases c1 : c = 60
  · subst c1
    by_cases d1 : d = 61
    · subst d1; rfl
    · by_cases d2 : d = 62
      · subst d2; rfl
      · simp [d1, d2]
  · by_cases c2 : c = 62
    · subst c2
      by_cases d1 : d = 61
      · subst d1; rfl
      · simp [d1]
    · simp [c1, c2]
theorem s_X9_sortOfSign (c : Int32) (σ : MSt) : f_X9_sortOfSign c σ = some (q_sg c, σ) := by
  unfold f_X9_sortOfSign f_X9_sortOfSign_b138 q_sg
  by_cases h40 : c = 40
  · subst h40; rfl
  by_cases h41 : c = 41
  · subst h41; rfl
  by_cases h42 : c = 42
  · subst h42; rfl
  by_cases h43 : c = 43
  · subst h43; rfl
  by_cases h45 : c = 45
  · subst h45; rfl
  by_cases h47 : c = 47
  · subst h47; rfl
  by_cases h59 : c = 59
  · subst h59; rfl
  by_cases h60 : c = 60
  · subst h60; rfl
  by_cases h61 : c = 61
  · subst h61; rfl
  by_cases h62 : c = 62
  · subst h62; rfl
  simp only [h40, h41, h42, h43, h45, h47, h59, h60, h61, h62, if_false, ite_self]
theorem q_sg_by {c u : Int32} (h : q_BY c u) : q_sg c = q_sg u := by
  unfold q_sg
  have l := fun L hL => h.lit L hL
  have e40 : c = 40 ↔ u = 40 := l 40 (by omega)
  have e41 : c = 41 ↔ u = 41 := l 41 (by omega)
  have e42 : c = 42 ↔ u = 42 := l 42 (by omega)
  have e43 : c = 43 ↔ u = 43 := l 43 (by omega)
  have e45 : c = 45 ↔ u = 45 := l 45 (by omega)
  have e47 : c = 47 ↔ u = 47 := l 47 (by omega)
  have e59 : c = 59 ↔ u = 59 := l 59 (by omega)
  have e60 : c = 60 ↔ u = 60 := l 60 (by omega)
  have e61 : c = 61 ↔ u = 61 := l 61 (by omega)
  have e62 : c = 62 ↔ u = 62 := l 62 (by omega)
  simp only [e40, e41, e42, e43, e45, e47, e59, e60, e61, e62]
theorem q_pr_by {c u d w : Int32} (h : q_BY c u) (h2 : q_BY d w ∨ (d = 0 ∧ w = 0)) : q_pr c d = q_pr u w := by
  unfold q_pr
  have e60 : c = 60 ↔ u = 60 := h.lit 60 (by omega)
  have e62 : c = 62 ↔ u = 62 := h.lit 62 (by omega)
  have f61 : d = 61 ↔ w = 61 := by
    rcases h2 with q | ⟨q1, q2⟩
    · exact q.lit 61 (by omega)
    · rw [q1, q2]
  have f62 : d = 62 ↔ w = 62 := by
    rcases h2 with q | ⟨q1, q2⟩
    · exact q.lit 62 (by omega)
    · rw [q1, q2]
  simp only [e60, e62, f61, f62]
/-- one token: from p to e, as the class has it -/
def q_snd (B : Nat → Int32) (N p : Nat) : Int32 := if p + 1 < N then B (p + 1) else 0
def q_LX (B : Nat → Int32) (N p : Nat) (s v : Int32) (e : Nat) : Prop :=
  p < N ∧ e ≤ N ∧ p < e ∧ q_wht (B p) = false ∧
  ((q_RUN q_ltr B N p e ∧ ((6 < e - p ∧ s = 1 ∧ v = 0) ∨ (e - p ≤ 6 ∧ v = q_pk B p (e - p) ∧ s = (if q_fw B p e q_wt 0 = -1 then 2 else 10 + q_fw B p e q_wt 0)))) ∨
   (q_ltr (B p) = false ∧ q_RUN q_dgt B N p e ∧ s = 3 ∧ v = q_nb B p (e - p)) ∨
   (q_ltr (B p) = false ∧ q_dgt (B p) = false ∧ v = 0 ∧ ((q_pr (B p) (q_snd B N p) = 1 ∧ s = q_sg (B p) ∧ e = p + 1) ∨ (¬ q_pr (B p) (q_snd B N p) = 1 ∧ s = q_pr (B p) (q_snd B N p) ∧ e = p + 2))))
/-- a token is added -/
def q_ADD (K : Nat) (s v : Int32) (a e : Nat) (σ σ' : MSt) : Prop := σ'.1 3 K = s ∧ σ'.1 4 K = v ∧ σ'.1 5 K = nI a ∧ (∀ r, 2 < r → r < 6 → ∀ t, t ≠ K → σ'.1 r t = σ.1 r t) ∧ σ'.1 1 7 = nI (K + 1) ∧ σ'.1 1 8 = nI e ∧ (∀ j, j ≠ 7 → j ≠ 8 → σ'.1 1 j = σ.1 1 j) ∧ (∀ r, r ≠ 1 → (r < 3 ∨ 5 < r) → σ'.1 r = σ.1 r) ∧ σ'.2 = σ.2
theorem s_X9_addToken (K : Nat) (hK : K < 700) (s v : Int32) (a e : Nat) (σ : MSt) (h7 : σ.1 1 7 = nI K) (h8 : σ.1 1 8 = nI e) : ∃ σ', f_X9_addToken s v (nI a) σ = some σ' ∧ q_ADD K s v a e σ σ' := by
  have kk : k_inb (nI K) 700 = true := e_in hK (by decide)
  have q : ∀ (z : MSt) (r j : Nat) (x : Int32), r ≠ 1 → z.1 1 7 = nI K → (mI z r j x).1 1 7 = nI K := fun z r j x hr hz => by rw [m_Ir _ _ _ _ (by omega)]; exact hz
  have z1 := q σ 3 K s (by omega) h7
  have z2 := q _ 4 K v (by omega) z1
  have z3 := q _ 5 K (nI a) (by omega) z2
  unfold f_X9_addToken f_X9_addToken_b50
  rw [h7, if_neg (show ¬ (700 : Int32) ≤ nI K from nI_ge (a := K) (b := 700) (by omega) (by decide))]
  simp only [e_nm, e_ck kk, nI_clamp (show K < 2 ^ 31 by omega), z1, z2, z3, nI_1]
  refine ⟨_, rfl, by simp [m_I], by simp [m_I], by simp [m_I], fun r h1 h2 t ht => ?_, by simp [m_I], ?_, fun j h1 h2 => ?_, fun r h1 h2 => ?_, rfl⟩
  · simp only [m_I]; rw [if_neg (by omega), if_neg (by omega), if_neg (by omega), if_neg (by omega)]
  · rw [m_I, if_neg (by omega), m_Ir _ _ _ _ (by omega), m_Ir _ _ _ _ (by omega), m_Ir _ _ _ _ (by omega)]; exact h8
  · rw [m_I, if_neg (by omega), m_Ir _ _ _ _ (by omega), m_Ir _ _ _ _ (by omega), m_Ir _ _ _ _ (by omega)]
  · rw [m_Ir _ _ _ _ (by omega), m_Ir _ _ _ _ (by omega), m_Ir _ _ _ _ (by omega), m_Ir _ _ _ _ (by omega)]
/-- only the place on the tape has moved -/
def q_MV (a : Nat) (σ σ' : MSt) : Prop := σ'.1 1 8 = nI a ∧ (∀ j, j ≠ 8 → σ'.1 1 j = σ.1 1 j) ∧ (∀ r, r ≠ 1 → σ'.1 r = σ.1 r) ∧ σ'.2 = σ.2
theorem q_MV.mI (σ : MSt) (a : Nat) : q_MV a σ (mI σ 1 8 (nI a)) := ⟨by simp [m_I], fun j hj => by rw [m_I, if_neg (by omega)], fun r hr => m_Ir _ _ _ _ hr, rfl⟩
theorem q_MV.trans {a b : Nat} {σ σ1 σ2 : MSt} (h : q_MV a σ σ1) (h2 : q_MV b σ1 σ2) : q_MV b σ σ2 := ⟨h2.1, fun j hj => (h2.2.1 j hj).trans (h.2.1 j hj), fun r hr => (h2.2.2.1 r hr).trans (h.2.2.1 r hr), h2.2.2.2.trans h.2.2.2⟩
theorem q_MV.add {K : Nat} {s v : Int32} {a b e : Nat} {σ σ1 σ2 : MSt} (h : q_MV b σ σ1) (h2 : q_ADD K s v a e σ1 σ2) : q_ADD K s v a e σ σ2 := by
  obtain ⟨a1, a2, a3, a4, a5, a6, a7, a8, a9⟩ := h2
  obtain ⟨b1, b2, b3, b4⟩ := h
  exact ⟨a1, a2, a3, fun r h1 h2 t ht => by rw [a4 r h1 h2 t ht, b3 r (by omega)], a5, a6, fun j h1 h2 => by rw [a7 j h1 h2, b2 j h2], fun r h1 h2 => by rw [a8 r h1 h2, b3 r h1], by rw [a9, b4]⟩
