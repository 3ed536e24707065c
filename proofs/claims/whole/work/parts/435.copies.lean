/-! COPIES of copies -/
def q_cpf (k : Nat) : Nat → Nat
  | 0 => 1
  | m + 1 => if m = 0 then 1 else if k % (m + 1) = 0 ∧ 100 % (m + 1) = 0 then m + 1 else q_cpf k m
def q_eu : Nat → Nat → Nat → Option Nat
  | 0, _, _ => none
  | n + 1, a, b => if b = 0 then some a else q_eu n b (a % b)
def q_cok (k n : Nat) : Bool := match q_eu 80 (k ^ n) (100 ^ n) with
  | some g => decide (0 < g) && (decide (g ≤ 10000000000000000) && (decide (k ^ n / g = (k / q_cpf k 100) ^ n) && decide (100 ^ n / g = (100 / q_cpf k 100) ^ n)))
  | none => false
theorem q_cok_all : (List.range 101).all (fun k => (List.range 9).all (fun n => q_cok k n)) = true := by decide +kernel
theorem q_pw_all : (List.range 101).all (fun k => (List.range 9).all (fun n => decide (k ^ n ≤ 10000000000000000) && (decide (0 < q_cpf k 100) && decide (q_cpf k 100 ≤ 100)))) = true := by decide +kernel
theorem q_cpC (k : Nat) (hk : k ≤ 100) (σ : MSt) : ∀ (m n : Nat), m ≤ 100 → m < n → f_X11_commonPart_b2 n (nI k) 100 (nI m) σ = some (nI (q_cpf k m), σ) := by
  intro m
  induction m with
  | zero =>
    intro n h1 h2
    obtain ⟨n, rfl⟩ : ∃ z, n = z + 1 := ⟨n - 1, by omega⟩
    rfl
  | succ m ih =>
    intro n h1 h2
    obtain ⟨n, rfl⟩ : ∃ z, n = z + 1 := ⟨n - 1, by omega⟩
    show f_X11_commonPart_b2_s (f_X11_commonPart_b2 n) (nI k) 100 (nI (m + 1)) σ = _
    unfold f_X11_commonPart_b2_s f_X11_commonPart_b21 q_cpf
    by_cases c : m = 0
    · subst c; rw [if_pos rfl]; rfl
    · have kz : k_nz (nI (m + 1)) = true := by unfold k_nz; exact decide_eq_true (nI_ne0 (by omega) (by omega))
      rw [if_neg c, if_neg (show ¬ nI (m + 1) ≤ (1 : Int32) from nI_ge (a := 1) (b := m + 1) (by omega) (by omega)), e_ck kz, e_ck kz, show (100 : Int32) = nI 100 from rfl, q_remN (by omega) (by omega) (by omega), q_remN (by omega) (by omega) (by omega), e_nm, pk_m1]
      have z : ∀ x, x < 2 ^ 31 → (nI x = 0 ↔ x = 0) := fun x hx => nI_eq (a := x) (b := 0) hx (by omega)
      have l1 : k % (m + 1) < m + 1 := Nat.mod_lt _ (by omega)
      have l2 : 100 % (m + 1) < m + 1 := Nat.mod_lt _ (by omega)
      have nx := ih n (by omega) (by omega)
      have nx' : f_X11_commonPart_b2 n (nI k) (nI 100) (nI m) σ = some (nI (q_cpf k m), σ) := nx
      rw [nx']
      by_cases c1 : k % (m + 1) = 0
      · rw [if_pos ((z _ (by omega)).mpr c1)]
        by_cases c2 : 100 % (m + 1) = 0
        · rw [if_pos ((z _ (by omega)).mpr c2), if_pos ⟨c1, c2⟩]
        · rw [if_neg (fun q => c2 ((z _ (by omega)).mp q)), if_neg (fun q => c2 q.2)]
      · rw [if_neg (fun q => c1 ((z _ (by omega)).mp q)), if_neg (fun q => c1 q.1)]
theorem q_pwC (p N : Nat) (hN : N ≤ 8) (σ : MSt) : ∀ (k n i : Nat), i + k = N → k < n → f_X11_copies_b67 n (nI N) (lN p) (lN (p ^ i)) (nI i) σ = some (lN (p ^ N), σ) := by
  intro k
  induction k with
  | zero =>
    intro n i h1 h2
    obtain ⟨n, rfl⟩ : ∃ z, n = z + 1 := ⟨n - 1, by omega⟩
    have hi : i = N := by omega
    subst hi
    show f_X11_copies_b67_s (f_X11_copies_b67 n) (nI i) (lN p) (lN (p ^ i)) (nI i) σ = _
    unfold f_X11_copies_b67_s
    rw [if_pos (nI_le (by omega) (by omega))]
  | succ k ih =>
    intro n i h1 h2
    obtain ⟨n, rfl⟩ : ∃ z, n = z + 1 := ⟨n - 1, by omega⟩
    show f_X11_copies_b67_s (f_X11_copies_b67 n) (nI N) (lN p) (lN (p ^ i)) (nI i) σ = _
    unfold f_X11_copies_b67_s
    rw [if_neg (nI_ge (by omega) (by omega)), e_nm, e_nm, nI_1, lN_mul, ← Nat.pow_succ]
    exact ih n (i + 1) (by omega) (by omega)
theorem q_euM (σ : MSt) : ∀ (n N a b g : Nat), n ≤ N → a < 2 ^ 63 → b < 2 ^ 63 → q_eu n a b = some g → f_X12_common_b6 N (lN a) (lN b) σ = some (lN g, σ) := by
  intro n
  induction n with
  | zero => intro N a b g _ _ _ h; cases h
  | succ n ih =>
    intro N a b g h1 ha hb h
    obtain ⟨N, rfl⟩ : ∃ z, N = z + 1 := ⟨N - 1, by omega⟩
    show f_X12_common_b6_s (f_X12_common_b6 N) (lN a) (lN b) σ = _
    unfold f_X12_common_b6_s
    simp only [lg_cmp_eq]
    have z : lN b = 0 ↔ b = 0 := pk_lEQ (a := b) (b := 0) hb (by omega)
    have h : (if b = 0 then some a else q_eu n b (a % b)) = some g := h
    by_cases c : b = 0
    · rw [if_pos c] at h
      cases h
      rw [if_pos (z.mpr c)]
    · rw [if_neg c] at h
      have kz : k_nzl (lN b) = true := by unfold k_nzl; exact decide_eq_true (fun q => c (z.mp q))
      rw [if_neg (fun q => c (z.mp q)), e_ck kz, e_nm]
      unfold k_lrem
      rw [pk_lRem ha (by omega) hb]
      have l := Nat.mod_lt a (show b > 0 by omega)
      exact ih N b (a % b) g (by omega) hb (by omega) h
theorem q_pwM (t N : Nat) (x2 : Int32) (hN : N ≤ 8) (ht : t ≤ 100) (μ : MSt) (h6 : μ.1 2 6 = nI t) : ∀ (k n i : Nat), i + k = N → k < n → f_X12_copies_b37 n (nI N) x2 (lN (t ^ i)) (lN (100 ^ i)) (nI i) μ = (k_bl (f_X12_common (lN (t ^ N)) (lN (100 ^ N)) μ) fun q2 σ1 => if x2 = 0 then k_ck (k_nzl q2) (f_X12_copies_b92 (lN (t ^ N) / q2) σ1) else k_ck (k_nzl q2) (f_X12_copies_b92 (lN (100 ^ N) / q2) σ1)) := by
  intro k
  induction k with
  | zero =>
    intro n i h1 h2
    obtain ⟨n, rfl⟩ : ∃ z, n = z + 1 := ⟨n - 1, by omega⟩
    have hi : i = N := by omega
    subst hi
    show f_X12_copies_b37_s (f_X12_copies_b37 n) (nI i) x2 (lN (t ^ i)) (lN (100 ^ i)) (nI i) μ = _
    unfold f_X12_copies_b37_s
    rw [if_pos (nI_le (by omega) (by omega))]
  | succ k ih =>
    intro n i h1 h2
    obtain ⟨n, rfl⟩ : ∃ z, n = z + 1 := ⟨n - 1, by omega⟩
    have k6 : k_inb (6 : Int32) 18 = true := by decide
    have d6 : ((6 : Int32)).toNatClampNeg = 6 := by decide
    show f_X12_copies_b37_s (f_X12_copies_b37 n) (nI N) x2 (lN (t ^ i)) (lN (100 ^ i)) (nI i) μ = _
    unfold f_X12_copies_b37_s
    rw [if_neg (nI_ge (by omega) (by omega)), e_ck k6, d6, h6, nI_l (by omega), e_nm, e_nm, e_nm, nI_1, lN_mul, show (100 : Int64) = lN 100 from rfl, lN_mul, ← Nat.pow_succ, ← Nat.pow_succ]
    exact ih n (i + 1) (by omega) (by omega)
theorem sim_copies : Sim_copies RR := by
  intro σ μ a0 a1 h
  have hk := h.thr
  unfold f_X11_copies f_X12_copies f_X11_copies_b20 f_X12_copies_b25
  rw [e_nm]
  generalize mI μ 0 0 0 = μ0 at hk
  obtain ⟨nb, nl, nd, nw, nk, dn, T, hdn, A, I, N, O, P, F, W, hr⟩ := id hk
  obtain ⟨t, ht, p1, p2⟩ := T.trust
  by_cases c1 : a0 < 1
  · rw [if_pos c1, if_pos c1]; exact ⟨_, _, _, rfl, rfl, hk⟩
  rw [if_neg c1, if_neg c1]
  by_cases c2 : 8 < a0
  · rw [if_pos c2, if_pos c2]; exact ⟨_, _, _, rfl, rfl, hk⟩
  rw [if_neg c2, if_neg c2]
  by_cases c3 : a1 < 0
  · rw [if_pos c3, if_pos c3]; exact ⟨_, _, _, rfl, rfl, hk⟩
  rw [if_neg c3, if_neg c3]
  by_cases c4 : a1 ≤ 1
  · rw [if_pos c4, if_pos c4]
    have c0 : ¬ a0 < 0 := by
      intro q
      exact c1 (Int32.lt_iff_toInt_lt.mpr (by have := Int32.lt_iff_toInt_lt.mp q; rw [t_0] at this; rw [t_1]; omega))
    obtain ⟨n, hn, rfl⟩ := nI_of2 (M := 8) (n := 8) (by decide) c0 (Int32.not_lt.mp c2)
    have ok := List.all_eq_true.mp (List.all_eq_true.mp q_cok_all t (List.mem_range.mpr (by omega))) n (List.mem_range.mpr (by omega))
    have pw := List.all_eq_true.mp (List.all_eq_true.mp q_pw_all t (List.mem_range.mpr (by omega))) n (List.mem_range.mpr (by omega))
    have pw100 := List.all_eq_true.mp (List.all_eq_true.mp q_pw_all 100 (List.mem_range.mpr (by omega))) n (List.mem_range.mpr (by omega))
    simp only [Bool.and_eq_true, decide_eq_true_eq] at pw pw100
    have hc : f_X11_commonPart (nI t) 100 σ = some (nI (q_cpf t 100), σ) := q_cpC t ht σ 100 FU (by omega) (by unfold FU; omega)
    have hm := q_pwM t n a1 hn ht μ0 p2 n FU 0 (by omega) (by unfold FU; omega)
    have hm' : f_X12_copies_b37 FU (nI n) a1 1 1 0 μ0 = _ := hm
    unfold q_cok at ok
    cases hq : q_eu 80 (t ^ n) (100 ^ n) with
    | none => rw [hq] at ok; exact absurd ok (by intro q; cases q)
    | some g =>
      rw [hq] at ok
      simp only [Bool.and_eq_true, decide_eq_true_eq] at ok
      obtain ⟨g0, g1, g2, g3⟩ := ok
      have he : f_X12_common (lN (t ^ n)) (lN (100 ^ n)) μ0 = some (lN g, μ0) := q_euM μ0 80 FU _ _ g (by unfold FU; omega) (by omega) (by omega) hq
      have kz : k_nz (nI (q_cpf t 100)) = true := by unfold k_nz; exact decide_eq_true (nI_ne0 (by omega) (by omega))
      have kl : k_nzl (lN g) = true := by
        unfold k_nzl
        refine decide_eq_true (fun q => ?_)
        have := (pk_lEQ (a := g) (b := 0) (by omega) (by omega)).mp q
        omega
      rw [p1, hc, e_bdS, e_ck kz, e_ck kz, p1, show (100 : Int32) = nI 100 from rfl, pk_div (by omega) (by omega) (by omega), pk_div (by omega) (by omega) (by omega), nI_l (Nat.lt_of_le_of_lt (Nat.div_le_self _ _) (by omega)), nI_l (Nat.lt_of_le_of_lt (Nat.div_le_self _ _) (by omega)), hm', he, e_blS, e_ck kl, e_ck kl, pk_lDiv (by omega) (by omega) (by omega), pk_lDiv (by omega) (by omega) (by omega), g2, g3]
      unfold f_X11_copies_b59 f_X12_copies_b92
      have hp : ∀ p, f_X11_copies_b67 FU (nI n) (lN p) 1 0 σ = some (lN (p ^ n), σ) := fun p => q_pwC p n hn σ n FU 0 (by omega) (by unfold FU; omega)
      rw [hp, hp]
      by_cases z : a1 = 0
      · rw [if_pos z, if_pos z]; exact ⟨_, _, _, rfl, rfl, hk⟩
      · rw [if_neg z, if_neg z]; exact ⟨_, _, _, rfl, rfl, hk⟩
  · rw [if_neg c4, if_neg c4]; exact ⟨_, _, _, rfl, rfl, hk⟩
/-! FEED -/
theorem q_byte (x : Int32) : q_BY (vp_nar .byte x.toInt8.toInt32) (x &&& 255) := by
  rw [pk_vb, pk_and x 8 (by decide)]
  have hv : (x.toBitVec.toNat % 2 ^ 8) < 256 := Nat.mod_lt _ (by decide)
  have e : (x.toInt8.toInt32).toInt = (x.toInt).bmod (2 ^ 8) := by
    rw [Int8.toInt_toInt32, Int32.toInt_toInt8]
  have e2 : x.toInt = (x.toBitVec.toNat : Int).bmod (2 ^ 32) := by
    rw [← Int32.toInt_toBitVec]
    exact BitVec.toInt_eq_toNat_bmod _
  have e3 : (x.toInt8.toInt32).toInt = ((x.toBitVec.toNat % 2 ^ 8 : Nat) : Int).bmod (2 ^ 8) := by
    rw [e, e2, Int.bmod_bmod_of_dvd (by decide), Int.natCast_emod]
    exact (Int.emod_bmod _ _).symm
  generalize x.toBitVec.toNat % 2 ^ 8 = k at *
  unfold q_BY
  by_cases c : k < 128
  · left
    refine ⟨k, c, ?_, rfl⟩
    apply Int32.toInt_inj.mp
    rw [e3, nI_toInt (by omega), show (2 : Nat) ^ 8 = 256 from rfl, Int.bmod_def]
    omega
  · right
    refine ⟨?_, k, by omega, by omega, rfl⟩
    rw [Int32.lt_iff_toInt_lt, e3, t_0, show (2 : Nat) ^ 8 = 256 from rfl, Int.bmod_def]
    omega
def q_s8 (j : Nat) : Int32 := 24 - 8 * nI j
theorem q_s8_f (j : Nat) (hj : j < 4) : ¬ q_s8 j < 0 ∧ q_s8 j + (-8) = q_s8 (j + 1) := by
  have : j = 0 ∨ j = 1 ∨ j = 2 ∨ j = 3 := by omega
  rcases this with rfl | rfl | rfl | rfl <;> decide
def q_bC (v : Int32) (j : Nat) : Int32 := vp_nar .byte ((v >>> (q_s8 j &&& 31)).toInt8.toInt32)
def q_bM (v : Int32) (j : Nat) : Int32 := (v >>> (q_s8 j &&& 31)) &&& 255
theorem s_X9_add_l (v : Int32) (n : Nat) (hn : n + 4 ≤ 700) : ∀ (k f j : Nat) (σ : MSt), j + k = 4 → k < f → σ.1 1 5 = nI (n + j) → ∃ σ', f_X9_add_b3 f v (q_s8 j) σ = some σ' ∧ σ'.1 1 5 = nI (n + 4) ∧ (∀ i, j ≤ i → i < 4 → σ'.1 2 (n + i) = q_bC v i) ∧ (∀ i, i < n + j → σ'.1 2 i = σ.1 2 i) ∧ (∀ r, r ≠ 1 → r ≠ 2 → σ'.1 r = σ.1 r) ∧ σ'.2 = σ.2 := by
  intro k
  induction k with
  | zero =>
    intro f j σ h1 h2 h5
    obtain ⟨f, rfl⟩ : ∃ z, f = z + 1 := ⟨f - 1, by omega⟩
    have hj : j = 4 := by omega
    subst hj
    refine ⟨σ, ?_, h5, fun i a b => by omega, fun _ _ => rfl, fun _ _ _ => rfl, rfl⟩
    show f_X9_add_b3_s (f_X9_add_b3 f) v (q_s8 4) σ = _
    unfold f_X9_add_b3_s
    rw [if_pos (show q_s8 4 < 0 by decide)]
    rfl
  | succ k ih =>
    intro f j σ h1 h2 h5
    obtain ⟨f, rfl⟩ : ∃ z, f = z + 1 := ⟨f - 1, by omega⟩
    obtain ⟨g1, g2⟩ := q_s8_f j (by omega)
    have kn : k_inb (nI (n + j)) 700 = true := e_in (by omega) (by decide)
    show ∃ σ', f_X9_add_b3_s (f_X9_add_b3 f) v (q_s8 j) σ = _ ∧ _
    unfold f_X9_add_b3_s
    rw [if_neg g1, h5, if_neg (show ¬ (700 : Int32) ≤ nI (n + j) from nI_ge (a := n + j) (b := 700) (by omega) (by decide)), e_ck kn, e_nm, nI_clamp (by omega), e_nm, e_nm, g2]
    have e5 : (mI σ 2 (n + j) (vp_nar .byte ((v >>> (q_s8 j &&& 31)).toInt8.toInt32))).1 1 5 = nI (n + j) := by rw [m_Ir _ _ _ _ (by omega)]; exact h5
    rw [e5, nI_1]
    obtain ⟨σ', y1, y2, y3, y4, y5, y6⟩ := ih f (j + 1) (mI (mI σ 2 (n + j) (vp_nar .byte ((v >>> (q_s8 j &&& 31)).toInt8.toInt32))) 1 5 (nI (n + j + 1))) (by omega) (by omega) (by rw [m_I]; simp; rfl)
    refine ⟨σ', y1, y2, ?_, ?_, fun r a b => by rw [y5 r a b, m_Ir _ _ _ _ a, m_Ir _ _ _ _ b], by rw [y6]; rfl⟩
    · intro i a b
      by_cases c : i = j
      · subst c
        rw [y4 (n + i) (by omega), m_Ir _ _ _ _ (by omega), m_I]
        simp
        rfl
      · exact y3 i (by omega) b
    · intro i hi
      rw [y4 i (by omega), m_Ir _ _ _ _ (by omega), m_I, if_neg (by omega)]
theorem s_X9_add (v : Int32) (n : Nat) (hn : n + 4 ≤ 700) (σ : MSt) (h5 : σ.1 1 5 = nI n) : ∃ σ', f_X9_add v σ = some σ' ∧ σ'.1 1 5 = nI (n + 4) ∧ (∀ i, i < 4 → σ'.1 2 (n + i) = q_bC v i) ∧ (∀ i, i < n → σ'.1 2 i = σ.1 2 i) ∧ (∀ r, r ≠ 1 → r ≠ 2 → σ'.1 r = σ.1 r) ∧ σ'.2 = σ.2 := by
  obtain ⟨σ', y1, y2, y3, y4, y5, y6⟩ := s_X9_add_l v n hn 4 FU 0 σ (by omega) (by unfold FU; omega) h5
  exact ⟨σ', y1, y2, fun i hi => y3 i (by omega) hi, fun i hi => y4 i (by omega), y5, y6⟩
def q_wa (a b c d e : Int32) (j : Nat) : Int32 := if j < 4 then a else if j < 8 then b else if j < 12 then c else if j < 16 then d else e
theorem s_X12_feed_l (a b c d e : Int32) (n : Nat) (hn : n + 20 ≤ 700) : ∀ (k f i : Nat) (μ : MSt), i + k = 20 → k < f → μ.1 0 2 = nI n → ∃ μ', f_X12_feed_b20 f a b c d e (nI i) μ = some (nI (n + 20), μ') ∧ μ'.1 0 2 = nI (n + 20) ∧ (∀ j, i ≤ j → j < 20 → μ'.1 1 (n + j) = q_bM (q_wa a b c d e j) (j % 4)) ∧ (∀ j, j < n + i → μ'.1 1 j = μ.1 1 j) ∧ (∀ r, r ≠ 0 → r ≠ 1 → μ'.1 r = μ.1 r) ∧ (∀ j, j ≠ 2 → μ'.1 0 j = μ.1 0 j) := by
  intro k
  induction k with
  | zero =>
    intro f i μ h1 h2 h5
    obtain ⟨f, rfl⟩ : ∃ z, f = z + 1 := ⟨f - 1, by omega⟩
    have hi : i = 20 := by omega
    subst hi
    show ∃ μ', f_X12_feed_b20_s (f_X12_feed_b20 f) a b c d e (nI 20) μ = _ ∧ _
    unfold f_X12_feed_b20_s
    have e20 : nI n + 20 = nI (n + 20) := nI_add n 20
    rw [if_pos (show (20 : Int32) ≤ nI 20 by decide), e_nm, h5, e20]
    have z : (mI μ 0 2 (nI (n + 20))).1 0 2 = nI (n + 20) := by rw [m_I]; simp
    rw [z]
    exact ⟨_, rfl, z, fun j h1 h2 => by omega, fun j _ => by rw [m_Ir _ _ _ _ (by omega)], fun r a _ => m_Ir _ _ _ _ a, fun j hj => by rw [m_I, if_neg (by omega)]⟩
  | succ k ih =>
    intro f i μ h1 h2 h5
    obtain ⟨f, rfl⟩ : ∃ z, f = z + 1 := ⟨f - 1, by omega⟩
    have kn : k_inb (nI (n + i)) 700 = true := e_in (by omega) (by decide)
    have er : k_rem (nI i) 4 = nI (i % 4) := q_remN (x := i) (m := 4) (by omega) (by omega) (by omega)
    have es : (24 : Int32) - 8 * nI (i % 4) = q_s8 (i % 4) := rfl
    have go : ∃ μ', f_X12_feed_b73 (f_X12_feed_b20 f) a b c d e (nI i) (q_wa a b c d e i) μ = some (nI (n + 20), μ') ∧ μ'.1 0 2 = nI (n + 20) ∧ (∀ j, i ≤ j → j < 20 → μ'.1 1 (n + j) = q_bM (q_wa a b c d e j) (j % 4)) ∧ (∀ j, j < n + i → μ'.1 1 j = μ.1 1 j) ∧ (∀ r, r ≠ 0 → r ≠ 1 → μ'.1 r = μ.1 r) ∧ (∀ j, j ≠ 2 → μ'.1 0 j = μ.1 0 j) := by
      unfold f_X12_feed_b73
      rw [h5, nI_add, e_ck kn, e_nm, e_nm, nI_clamp (by omega), nI_1, er, es]
      obtain ⟨μ', y1, y2, y3, y4, y5, y6⟩ := ih f (i + 1) (mI μ 1 (n + i) (q_bM (q_wa a b c d e i) (i % 4))) (by omega) (by omega) (by rw [m_Ir _ _ _ _ (by omega)]; exact h5)
      refine ⟨μ', y1, y2, ?_, ?_, fun r p q => by rw [y5 r p q, m_Ir _ _ _ _ q], fun j hj => by rw [y6 j hj, m_Ir _ _ _ _ (by omega)]⟩
      · intro j p q
        by_cases c : j = i
        · subst c
          rw [y4 (n + j) (by omega), m_I]
          simp
        · exact y3 j (by omega) q
      · intro j hj
        rw [y4 j (by omega), m_I, if_neg (by omega)]
    show ∃ μ', f_X12_feed_b20_s (f_X12_feed_b20 f) a b c d e (nI i) μ = _ ∧ _
    unfold f_X12_feed_b20_s
    rw [if_neg (show ¬ (20 : Int32) ≤ nI i from nI_ge (a := i) (b := 20) (by omega) (by decide))]
    have z : ∀ m, m < 2 ^ 31 → ((nI m ≤ nI i) ↔ m ≤ i) := fun m hm => nI_leI hm (by omega)
    have z4 : ((4 : Int32) ≤ nI i) ↔ 4 ≤ i := z 4 (by omega)
    have z8 : ((8 : Int32) ≤ nI i) ↔ 8 ≤ i := z 8 (by omega)
    have z12 : ((12 : Int32) ≤ nI i) ↔ 12 ≤ i := z 12 (by omega)
    have z16 : ((16 : Int32) ≤ nI i) ↔ 16 ≤ i := z 16 (by omega)
    unfold q_wa at go
    by_cases c4 : i < 4
    · rw [if_neg (fun q => by have := z4.mp q; omega)]
      rw [if_pos c4] at go
      exact go
    · rw [if_pos (z4.mpr (by omega))]
      rw [if_neg c4] at go
      by_cases c8 : i < 8
      · rw [if_neg (fun q => by have := z8.mp q; omega)]
        rw [if_pos c8] at go
        exact go
      · rw [if_pos (z8.mpr (by omega))]
        rw [if_neg c8] at go
        by_cases c12 : i < 12
        · rw [if_neg (fun q => by have := z12.mp q; omega)]
          rw [if_pos c12] at go
          exact go
        · rw [if_pos (z12.mpr (by omega))]
          rw [if_neg c12] at go
          by_cases c16 : i < 16
          · rw [if_neg (fun q => by have := z16.mp q; omega)]
            rw [if_pos c16] at go
            exact go
          · rw [if_pos (z16.mpr (by omega))]
            rw [if_neg c16] at go
            exact go
theorem sim_feed : Sim_feed RR := by
  intro σ μ a b c d e h
  have hk := h.thr
  unfold f_X11_feed f_X12_feed f_X9_hasRoomFor f_X9_hasRoomFor_b17
  rw [e_nm]
  generalize mI μ 0 0 0 = μ0 at hk
  obtain ⟨nb, nl, nd, nw, nk, dn, T, hdn, A, I, N, O, P, F, W, hr⟩ := id hk
  obtain ⟨n, hn, p1, p2, p3⟩ := id P
  have z0 : k_bo 0 = true := rfl
  have z1 : k_bo 1 = true := rfl
  have e20 : nI n + 20 = nI (n + 20) := nI_add n 20
  rw [p1, p2, e20, e_ck z0, e_ck z1]
  by_cases cr : n ≤ 680
  · rw [if_neg (show ¬ (700 : Int32) < nI (n + 20) from nI_nlt (a := 700) (b := n + 20) (by omega) (by omega)), e_bdS, if_neg q_t10, if_pos (show nI n ≤ (680 : Int32) from nI_le (a := n) (b := 680) (by omega) (by decide))]
    obtain ⟨σ1, a1, a2, a3, a4, a5, a6⟩ := s_X9_add a n (by omega) σ p1
    obtain ⟨σ2, b1, b2, b3, b4, b5, b6⟩ := s_X9_add b (n + 4) (by omega) σ1 a2
    obtain ⟨σ3, c1, c2, c3, c4, c5, c6⟩ := s_X9_add c (n + 8) (by omega) σ2 b2
    obtain ⟨σ4, d1, d2, d3, d4, d5, d6⟩ := s_X9_add d (n + 12) (by omega) σ3 c2
    obtain ⟨σ5, e1, e2, e3, e4, e5, e6⟩ := s_X9_add e (n + 16) (by omega) σ4 d2
    obtain ⟨μ', m1, m2, m3, m4, m5, m6⟩ := s_X12_feed_l a b c d e n (by omega) 20 FU 0 μ0 (by omega) (by unfold FU; omega) p2
    have m1' : f_X12_feed_b20 FU a b c d e 0 μ0 = _ := m1
    rw [a1, e_bvS, b1, e_bvS, c1, e_bvS, d1, e_bvS, e1, e_bvS, e2, m1']
    have fr : ∀ r, r ≠ 1 → r ≠ 2 → σ5.1 r = σ.1 r := fun r x y => by rw [e5 r x y, d5 r x y, c5 r x y, b5 r x y, a5 r x y]
    have f2 : σ5.2 = σ.2 := by rw [e6, d6, c6, b6, a6]
    refine ⟨_, _, _, rfl, rfl, nb, nl, nd, nw, nk, dn, T.eq (fun r _ _ => fr r (by omega) (by omega)) (fun r _ _ => m5 r (by omega) (by omega)), hdn, ?_, ?_, ?_, ?_, ?_, ?_, ?_, ?_⟩
    · exact A.eq (fun r _ _ => fr r (by omega) (by omega)) (by rw [f2]) (fun r _ _ => by rw [m5 r (by omega) (by omega)]) (fun r _ _ b _ => by rw [m5 r (by omega) (by omega)])
    · exact I.eq (by rw [fr 0 (by omega) (by omega)]) (fun r _ _ => fr r (by omega) (by omega)) (by rw [f2]) (m6 44 (by omega)) (fun r _ _ => by rw [m5 r (by omega) (by omega)]) (fun r _ _ b _ => by rw [m5 r (by omega) (by omega)])
    · exact N.eq (by rw [fr 62 (by omega) (by omega)]) (fun r _ _ => fr r (by omega) (by omega)) (fun r _ _ => fr r (by omega) (by omega)) (by rw [f2]) (m6 45 (by omega)) (fun r _ _ b _ => by rw [m5 r (by omega) (by omega)]) (fun r _ _ b _ => by rw [m5 r (by omega) (by omega)])
    · exact O.eq (by rw [fr 78 (by omega) (by omega)]) (by rw [fr 78 (by omega) (by omega)]) (fun r _ _ => fr r (by omega) (by omega)) (m6 59 (by omega)) (m6 60 (by omega)) (fun r _ _ => m5 r (by omega) (by omega))
    · refine ⟨n + 20, by omega, e2, m2, fun i hi => ?_⟩
      have by' : ∀ v j, q_BY (q_bC v j) (q_bM v j) := fun v j => q_byte _
      by_cases x0 : i < n
      · rw [e4 i (by omega), d4 i (by omega), c4 i (by omega), b4 i (by omega), a4 i x0, m4 i (by omega)]
        exact p3 i x0
      · obtain ⟨j, rfl⟩ : ∃ j, i = n + j := ⟨i - n, by omega⟩
        rw [m3 j (by omega) (by omega)]
        unfold q_wa
        by_cases x1 : j < 4
        · rw [if_pos x1, e4 _ (by omega), d4 _ (by omega), c4 _ (by omega), b4 _ (by omega), a3 j x1, show j % 4 = j from Nat.mod_eq_of_lt x1]
          exact by' _ _
        · rw [if_neg x1]
          by_cases x2 : j < 8
          · rw [if_pos x2, e4 _ (by omega), d4 _ (by omega), c4 _ (by omega), show n + j = n + 4 + (j - 4) by omega, b3 (j - 4) (by omega), show j % 4 = j - 4 by omega]
            exact by' _ _
          · rw [if_neg x2]
            by_cases x3 : j < 12
            · rw [if_pos x3, e4 _ (by omega), d4 _ (by omega), show n + j = n + 8 + (j - 8) by omega, c3 (j - 8) (by omega), show j % 4 = j - 8 by omega]
              exact by' _ _
            · rw [if_neg x3]
              by_cases x4 : j < 16
              · rw [if_pos x4, e4 _ (by omega), show n + j = n + 12 + (j - 12) by omega, d3 (j - 12) (by omega), show j % 4 = j - 12 by omega]
                exact by' _ _
              · rw [if_neg x4, show n + j = n + 16 + (j - 16) by omega, e3 (j - 16) (by omega), show j % 4 = j - 16 by omega]
                exact by' _ _
    · exact F.eq (by rw [fr 0 (by omega) (by omega)]) (by rw [fr 0 (by omega) (by omega)]) (m6 25 (by omega)) (m6 26 (by omega))
    · exact W.eq (fr 6 (by omega) (by omega))
    · exact hr.eq (m6 46 (by omega)) (m6 47 (by omega)) (m6 48 (by omega)) (m6 50 (by omega))
  · rw [if_pos (show (700 : Int32) < nI (n + 20) from nI_lt (a := 700) (b := n + 20) (by omega) (by omega)), e_bdS, if_pos rfl, if_neg (show ¬ nI n ≤ (680 : Int32) from nI_ge (a := 680) (b := n) (by omega) (by omega))]
    exact ⟨_, _, _, rfl, rfl, hk⟩
