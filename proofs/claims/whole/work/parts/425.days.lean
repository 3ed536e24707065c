/-! DAYS: a night passes -/
theorem q_and64 (n k : Nat) {m : Int64} (hm : m.toBitVec.toNat = 2 ^ k - 1) (hk : k ≤ 62) : lN n &&& m = lN (n % 2 ^ k) := by
  have e1 : (lN n).toBitVec = BitVec.ofNat 64 n := rfl
  have e2 : (lN (n % 2 ^ k)).toBitVec = BitVec.ofNat 64 (n % 2 ^ k) := rfl
  have hp : 2 ^ k ≤ 2 ^ 62 := Nat.pow_le_pow_right (by omega) hk
  have hlt : n % 2 ^ k < 2 ^ k := Nat.mod_lt _ (Nat.two_pow_pos k)
  apply Int64.toBitVec_inj.mp
  apply BitVec.eq_of_toNat_eq
  rw [Int64.toBitVec_and, BitVec.toNat_and, hm, Nat.and_two_pow_sub_one_eq_mod, e1, e2, BitVec.toNat_ofNat, BitVec.toNat_ofNat, Nat.mod_eq_of_lt (show n % 2 ^ k < 2 ^ 64 by omega)]
  exact Nat.mod_mod_of_dvd n (Nat.pow_dvd_pow 2 (by omega))
theorem q_draw2 {w : Nat} : ∃ w', w' < 2 ^ 31 ∧ q_next (lN w) = lN w' ∧ (nI w * 1103515245 + 12345) &&& 2147483647 = nI w' := by
  refine ⟨(w * 1103515245 + 12345) % 2 ^ 31, Nat.mod_lt _ (by decide), ?_, ?_⟩
  · unfold q_next
    rw [show (1103515245 : Int64) = lN 1103515245 from rfl, show (12345 : Int64) = lN 12345 from rfl, lN_mul, lN_add]
    exact q_and64 _ 31 (by decide) (by omega)
  · rw [show (1103515245 : Int32) = nI 1103515245 from rfl, show (12345 : Int32) = nI 12345 from rfl, pk_mul, nI_add, pk_and _ 31 (by decide)]
    refine congrArg nI ?_
    have e1 : (nI (w * 1103515245 + 12345)).toBitVec = BitVec.ofNat 32 (w * 1103515245 + 12345) := rfl
    rw [e1, BitVec.toNat_ofNat]
    exact Nat.mod_mod_of_dvd _ (Nat.pow_dvd_pow 2 (by omega))
theorem q_drawC (o : Nat) (σ : MSt) {w w' : Nat} (hw : w' < 2 ^ 31) (h : σ.2 o 8 = lN w) (e : q_next (lN w) = lN w') : f_X5_draw o σ = some (nI (w' / 65536), mJ σ o 8 (lN w')) := by
  rw [s_X5_draw, h, e, show (65536 : Int64) = lN 65536 from rfl, pk_lDiv (by omega) (by omega) (by omega), lN_i]
theorem q_drawM (a : Nat) (ha : a < 24) (m : Nat) (hm : 0 < m) (hm2 : m < 2 ^ 31) (μ : MSt) {w w' : Nat} (hw : w' < 2 ^ 31) (h : μ.1 25 a = nI w) (e : (nI w * 1103515245 + 12345) &&& 2147483647 = nI w') : f_X12_draw (nI a) (nI m) μ = some (nI (w' / 65536 % m), mI μ 25 a (nI w')) := by
  have ka : k_inb (nI a) 24 = true := e_in ha (by decide)
  have kz : k_nz (nI m) = true := by unfold k_nz; exact decide_eq_true (nI_ne0 hm hm2)
  unfold f_X12_draw
  simp only [e_ck ka, e_nm, nI_clamp (show a < 2 ^ 31 by omega), h, e, e_ck kz]
  have e1 : (mI μ 25 a (nI w')).1 25 a = nI w' := by rw [m_I]; simp
  rw [e1, pk_shrN hw _ 16 (by decide)]
  unfold k_rem
  rw [pk_rem (by omega) hm hm2]
theorem q_remN {x m : Nat} (hx : x < 2 ^ 31) (h0 : 0 < m) (hm : m < 2 ^ 31) : k_rem (nI x) (nI m) = nI (x % m) := by
  unfold k_rem
  rw [pk_rem hx h0 hm]
theorem q_gain_b (R : Nat → Nat → Int32) (J M L d g h : Int32) : ∃ k, k ≤ 9 ∧ q_gain R J M L d g h = nI k := by
  unfold q_gain q_gainv
  generalize q_val R 2 _ = v
  by_cases c : v = -9223372036854775808
  · rw [if_pos c]; exact ⟨1, by omega, rfl⟩
  · rw [if_neg c]
    unfold k_lmax k_lmin
    by_cases c1 : v < 9
    · rw [if_pos c1]
      by_cases c2 : v < 0
      · rw [if_pos c2]; exact ⟨0, by omega, rfl⟩
      · rw [if_neg c2]
        obtain ⟨k, hk, rfl⟩ := pk_lOf c2
        have : k < 9 := by
          have := (pk_lLT (a := k) (b := 9) hk (by omega)).mp c1
          exact this
        exact ⟨k, by omega, lN_i k⟩
    · rw [if_neg c1, if_neg (by decide)]; exact ⟨9, by omega, rfl⟩
def q_OP (nd : Nat) (σ μ : MSt) : Prop := (∀ i, i < nd → q_joy μ i = if σ.1 71 7 = 0 then σ.1 15 i else 9) ∧ ∀ i, i < nd → (nI i = σ.1 71 8 ↔ (μ.1 0 46 = 2 ∧ nI i = μ.1 0 47))
theorem q_OP.fr {nd : Nat} {σ σ' μ μ' : MSt} (h : q_OP nd σ μ) (c1 : σ'.1 71 = σ.1 71) (c2 : σ'.1 15 = σ.1 15) (u : ∀ j, 45 < j → j < 50 → μ'.1 0 j = μ.1 0 j) (u9 : μ'.1 9 = μ.1 9) : q_OP nd σ' μ' := by
  unfold q_OP q_joy at h ⊢
  rw [c1, c2, u 46 (by omega) (by omega), u 47 (by omega) (by omega), u 48 (by omega) (by omega), u 49 (by omega) (by omega), u9]
  exact h
def FD (o : Nat) (σ σ' : MSt) : Prop := (∀ r, (r < o ∨ o + 3 < r) → σ'.1 r = σ.1 r) ∧ σ'.2 = σ.2
theorem FD.rf {o : Nat} {σ : MSt} : FD o σ σ := ⟨fun _ _ => rfl, rfl⟩
theorem FD.trans {o : Nat} {σ σ1 σ2 : MSt} (h : FD o σ σ1) (h2 : FD o σ1 σ2) : FD o σ σ2 := ⟨fun r hr => (h2.1 r hr).trans (h.1 r hr), h2.2.trans h.2⟩
def q_arr (a : Nat) (p : Int32) (μ : MSt) : Option MSt := if μ.1 20 a = μ.1 17 a then (if μ.1 19 a = -1 then f_X12_passes_b116 (nI a) p μ else f_X12_passes_b116 (nI a) p (mI (mI (mI μ 18 a (μ.1 19 a)) 19 a (-1)) 20 a (-1))) else f_X12_passes_b116 (nI a) p μ
section
variable {nb nl nd nw nk o a d : Nat}
theorem q_deeds (ho : 50 ≤ o ∧ o ≤ 58) (ha : a < 24) (hd : d ≤ 20000) (dr : Int64) (p : Int32) : ∀ (k n1 n2 i : Nat) (σ μ : MSt), nd < i + k → i ≤ nd → k ≤ n1 → k ≤ n2 → q_TX nb nl nd nw nk σ.1 μ.1 → q_Ad nb d o σ dr a μ.1 → q_OP nd σ μ → ∃ σ' μ', f_X1_pass_b2 o n1 (nI i) σ = f_X1_pass_b83 o σ' ∧ f_X12_passes_b2 n2 (nI a) p (nI i) μ = q_arr a p μ' ∧ q_Ad nb d o σ' dr a μ'.1 ∧ FD o σ σ' ∧ FA a μ μ' := by
  intro k
  induction k with
  | zero => intro n1 n2 i σ μ h1 h2 h3 h4; omega
  | succ k ih =>
    intro n1 n2 i σ μ h1 h2 h3 h4 T A OP
    obtain ⟨n1, rfl⟩ : ∃ z, n1 = z + 1 := ⟨n1 - 1, by omega⟩
    obtain ⟨n2, rfl⟩ : ∃ z, n2 = z + 1 := ⟨n2 - 1, by omega⟩
    have l3 := T.le.2.2.1
    have i2 : k_inb (2 : Int32) 18 = true := by decide
    have ka : k_inb (nI a) 24 = true := e_in ha (by decide)
    show ∃ σ' μ', f_X1_pass_b2_s o (f_X1_pass_b2 o n1) (nI i) σ = f_X1_pass_b83 o σ' ∧ f_X12_passes_b2_s (f_X12_passes_b2 n2) (nI a) p (nI i) μ = q_arr a p μ' ∧ _
    unfold f_X1_pass_b2_s f_X12_passes_b2_s
    rw [T.ndC, e_ck i2, c_2, T.ndM]
    by_cases hi : i < nd
    · have k1 : k_inb (nI i) 12 = true := e_in (by omega) (by decide)
      have k2 : k_inb (nI i) 24 = true := e_in (by omega) (by decide)
      rw [if_neg (nI_ge hi (by omega)), if_neg (nI_ge hi (by omega)), if_neg (show ¬ (12 : Int32) ≤ nI i from nI_ge (a := i) (b := 12) (by omega) (by decide))]
      simp only [e_ck k1, e_ck k2, e_ck ka, nI_clamp (show i < 2 ^ 31 by omega), nI_clamp (show a < 2 ^ 31 by omega)]
      obtain ⟨⟨x1, b1, p1, q1⟩, ⟨x2, b2, p2, q2⟩, x3, b3, p3, q3⟩ := T.deed i hi
      rw [A.1.1, A.1.2, p2, q2]
      have skip : ∃ σ' μ', f_X1_pass_b77 o (f_X1_pass_b2 o n1) (nI i) σ = f_X1_pass_b83 o σ' ∧ f_X12_passes_b59 (f_X12_passes_b2 n2) (nI a) p (nI i) μ = q_arr a p μ' ∧ q_Ad nb d o σ' dr a μ'.1 ∧ FD o σ σ' ∧ FA a μ μ' := by
        unfold f_X1_pass_b77 f_X12_passes_b59
        rw [e_nm, e_nm, nI_1]
        exact ih n1 n2 (i + 1) σ μ (by omega) (by omega) (by omega) (by omega) T A OP
      by_cases c : nI x2 = nI d
      · rw [if_pos c, if_pos c]
        have hx8 : x1 < 8 := by have := T.le.1; omega
        have take : ∃ σ' μ', (if σ.1 71 7 = 0 then f_X1_pass_b74 o (f_X1_pass_b2 o n1) (nI i) (σ.1 13 i) (σ.1 15 i) σ else f_X1_pass_b74 o (f_X1_pass_b2 o n1) (nI i) (σ.1 13 i) 9 σ) = f_X1_pass_b83 o σ' ∧ f_X12_passes_b43 (f_X12_passes_b2 n2) (nI a) p (nI i) μ = q_arr a p μ' ∧ q_Ad nb d o σ' dr a μ'.1 ∧ FD o σ σ' ∧ FA a μ μ' := by
          have ej := OP.1 i hi
          unfold f_X12_passes_b43
          rw [e_ck k2, s_X12_joyIn i (by omega), e_bdS, nI_clamp (show i < 2 ^ 31 by omega), q1, ej]
          have go : ∀ z, z ≤ 9 → ∃ σ' μ', f_X1_pass_b74 o (f_X1_pass_b2 o n1) (nI i) (nI x1) (nI z) σ = f_X1_pass_b83 o σ' ∧ (k_bv (f_X12_remembers (nI a) (nI x1) (nI z) μ) fun σ3 => f_X12_passes_b59 (f_X12_passes_b2 n2) (nI a) p (nI i) σ3) = q_arr a p μ' ∧ q_Ad nb d o σ' dr a μ'.1 ∧ FD o σ σ' ∧ FA a μ μ' := by
            intro z hz
            unfold f_X1_pass_b74 f_X1_pass_b77 f_X12_passes_b59
            rw [s_X5_remember o x1 hx8, e_bvS, e_nm, s_X12_remembers a x1 ha hx8, e_bvS, e_nm, nI_1]
            obtain ⟨r1, r2, r3, r4, r5⟩ := q_rem_r o x1 (nI z) σ
            obtain ⟨m1, m2, m3, m4, m5, m6⟩ := q_remM_r a x1 hx8 (nI z) μ
            obtain ⟨σ', μ', w1, w2, w3, w4, w5⟩ := ih n1 n2 (i + 1) (q_rem o x1 (nI z) σ) (q_remM a x1 (nI z) μ) (by omega) (by omega) (by omega) (by omega) (T.eq (fun r _ _ => r4 r (by omega)) (fun r _ _ => m4 r (by omega))) (q_Ad_rem A hd x1 z hx8 hz) (OP.fr (r4 71 (by omega)) (r4 15 (by omega)) (fun j _ _ => by rw [m4 0 (by omega)]) (m4 9 (by omega)))
            exact ⟨σ', μ', w1, w2, w3, FD.trans ⟨fun r hr => r4 r (by omega), r5⟩ w4, m6.trans w5⟩
          rw [p1]
          by_cases cj : σ.1 71 7 = 0
          · rw [if_pos cj, if_pos cj, p3]; exact go x3 b3
          · rw [if_neg cj, if_neg cj]; exact go 9 (by omega)
        have hl := OP.2 i hi
        by_cases cl : nI i = σ.1 71 8
        · rw [if_pos cl, if_pos (hl.mp cl).1, if_pos (hl.mp cl).2]; exact skip
        · rw [if_neg cl]
          by_cases c2 : μ.1 0 46 = 2
          · rw [if_pos c2, if_neg (fun q => cl (hl.mpr ⟨c2, q⟩))]; exact take
          · rw [if_neg c2]; exact take
      · rw [if_neg c, if_neg c]; exact skip
    · rw [if_pos (nI_le (by omega) (by omega)), if_pos (nI_le (by omega) (by omega)), e_ck ka, e_ck ka, nI_clamp (show a < 2 ^ 31 by omega)]
      refine ⟨σ, μ, rfl, ?_, A, FD.rf, FA.rf⟩
      unfold q_arr
      simp only [e_ck ka, e_nm]
/-- the ship arrives -/
theorem q_arrive (ha : a < 24) (hd : d ≤ 20000) (dr : Int64) (p : Int32) (σ μ : MSt) (hnb : nb ≤ 8) (A : q_Ad nb d o σ dr a μ.1) : ∃ σ' μ', f_X1_pass_b83 o σ = f_X1_pass_b110 o σ' ∧ q_arr a p μ = f_X12_passes_b116 (nI a) p μ' ∧ q_Ad nb d o σ' dr a μ'.1 ∧ FD o σ σ' ∧ FA a μ μ' ∧ (σ'.1 o 5 = -1 ∨ ∃ e, e ≤ 8 ∧ σ'.1 o 6 = nI (d + 1 + e)) := by
  obtain ⟨a1, a2, a3, a4, a5, a6, a7, a8, a9⟩ := id A
  unfold f_X1_pass_b83 q_arr
  rw [← a5.1, ← a5.2, a1.1, a1.2]
  rcases a9 with ⟨p1, p2, p3, p4⟩ | ⟨b, e, p1, p2, p3, p4, p5⟩
  · rw [if_pos p1, p2, if_neg (fun q => q_n1 (y := d) (by omega) q.symm)]
    exact ⟨σ, μ, rfl, rfl, A, FD.rf, FA.rf, Or.inl p1⟩
  · have h5 : ¬ σ.1 o 5 = -1 := by rw [p2]; exact q_n1 (by omega)
    rw [if_neg h5, if_neg h5, p3]
    by_cases c : e = 0
    · subst c
      rw [show nI (d + 0) = nI d from rfl, if_neg (nI_nlt (by omega) (by omega)), if_pos rfl, s_X5_lieIn, e_bvS, p2]
      have lr : (q_lieIn o (nI b) σ).1 o = upd (upd (upd (σ.1 o) 4 (nI b)) 5 (-1)) 6 (-1) := by unfold q_lieIn; rw [q_row, q_row, q_row]
      have lo : ∀ r, r ≠ o → (q_lieIn o (nI b) σ).1 r = σ.1 r := fun r hr => by unfold q_lieIn; rw [m_Ir _ _ _ _ hr, m_Ir _ _ _ _ hr, m_Ir _ _ _ _ hr]
      have t1 : ∀ r, r ≠ 18 → r ≠ 19 → r ≠ 20 → (mI (mI (mI μ 18 a (nI b)) 19 a (-1)) 20 a (-1)).1 r = μ.1 r := fun r x y z => by rw [m_Ir _ _ _ _ z, m_Ir _ _ _ _ y, m_Ir _ _ _ _ x]
      have t2 : ∀ r i, i ≠ a → (mI (mI (mI μ 18 a (nI b)) 19 a (-1)) 20 a (-1)).1 r i = μ.1 r i := fun r i hi => by rw [m_I, if_neg (by omega), m_I, if_neg (by omega), m_I, if_neg (by omega)]
      refine ⟨_, _, rfl, rfl, ?_, ⟨fun r hr => lo r (by omega), rfl⟩, ⟨fun r hr => t1 r (by omega) (by omega) (by omega), fun r x y i hi => t2 r i hi, fun r x y i hi => by rw [t1 r (by omega) (by omega) (by omega)]⟩, Or.inl (by rw [lr, pk_un (by omega), pk_us])⟩
      unfold q_Ad
      rw [lr, lo (o + 1) (by omega), lo (o + 2) (by omega), lo (o + 3) (by omega)]
      refine ⟨?_, ?_, ?_, ?_, ?_, ?_, ?_, ?_, ?_⟩
      · rw [pk_un (by omega), pk_un (by omega), pk_un (by omega), t1 17 (by omega) (by omega) (by omega)]; exact a1
      · rw [t1 26 (by omega) (by omega) (by omega)]; exact a2
      · rw [t1 27 (by omega) (by omega) (by omega)]; exact a3
      · rw [t1 28 (by omega) (by omega) (by omega)]; exact a4
      · rw [pk_un (show 5 ≠ 6 by omega), pk_us, pk_us]; simp [m_I]
      · rw [pk_un (by omega), pk_un (by omega), pk_un (by omega), t1 21 (by omega) (by omega) (by omega)]; exact a6
      · rw [pk_un (by omega), pk_un (by omega), pk_un (by omega), pk_un (by omega), pk_un (by omega), pk_un (by omega), pk_un (by omega), pk_un (by omega), pk_un (by omega), t1 22 (by omega) (by omega) (by omega), t1 23 (by omega) (by omega) (by omega), t1 24 (by omega) (by omega) (by omega)]; exact a7
      · rw [t1 25 (by omega) (by omega) (by omega)]; exact a8
      · left
        refine ⟨by rw [pk_un (by omega), pk_us], by rw [pk_us], ?_, Or.inr ⟨b, p1, ?_⟩⟩
        · rw [pk_un (by omega), pk_un (by omega), pk_us]; simp [m_I]
        · rw [pk_un (by omega), pk_un (by omega), pk_us]
    · rw [if_pos (nI_lt (by omega) (by omega)), if_neg (fun q => c (by have := (nI_eq (by omega) (by omega)).mp q; omega))]
      exact ⟨σ, μ, rfl, rfl, A, FD.rf, FA.rf, Or.inr ⟨e - 1, by omega, by rw [p3]; congr 1; omega⟩⟩
end
/-- counts and the date -/
theorem q_A_cnt {nb d o a : Nat} {σ μ : MSt} (A : q_A nb d o σ a μ.1) (j r : Nat) (h : (j = 9 ∧ r = 22) ∨ (j = 10 ∧ r = 23) ∨ (j = 11 ∧ r = 24)) : q_A nb d o (mI σ o j (σ.1 o j + 1)) a (mI μ r a (μ.1 r a + 1)).1 := by
  obtain ⟨a1, a2, a3, a4, a5, a6, a7, a8, a9⟩ := A
  have lr : (mI σ o j (σ.1 o j + 1)).1 o = upd (σ.1 o) j (σ.1 o j + 1) := q_row _ _ _ _
  have lo : ∀ r, r ≠ o → (mI σ o j (σ.1 o j + 1)).1 r = σ.1 r := fun r hr => m_Ir _ _ _ _ hr
  have t1 : ∀ q, q ≠ r → (mI μ r a (μ.1 r a + 1)).1 q = μ.1 q := fun q hq => m_Ir _ _ _ _ hq
  have t2 : (mI μ r a (μ.1 r a + 1)).1 r a = μ.1 r a + 1 := by rw [m_I]; simp
  unfold q_A
  rw [lr, lo (o + 1) (by omega), lo (o + 2) (by omega), lo (o + 3) (by omega)]
  refine ⟨?_, ?_, ?_, ?_, ?_, ?_, ?_, ?_, ?_⟩
  · rw [pk_un (by omega), t1 17 (by omega)]; exact a1
  · rw [t1 26 (by omega)]; exact a2
  · rw [t1 27 (by omega)]; exact a3
  · rw [t1 28 (by omega)]; exact a4
  · rw [pk_un (by omega), pk_un (by omega), t1 19 (by omega), t1 20 (by omega)]; exact a5
  · rw [pk_un (by omega), t1 21 (by omega)]; exact a6
  · rcases h with ⟨rfl, rfl⟩ | ⟨rfl, rfl⟩ | ⟨rfl, rfl⟩
    · rw [pk_us, pk_un (by omega), pk_un (by omega), t2, t1 23 (by omega), t1 24 (by omega), a7.1]; exact ⟨rfl, a7.2⟩
    · rw [pk_us, pk_un (by omega), pk_un (by omega), t2, t1 22 (by omega), t1 24 (by omega), a7.2.1]; exact ⟨a7.1, rfl, a7.2.2⟩
    · rw [pk_us, pk_un (by omega), pk_un (by omega), t2, t1 22 (by omega), t1 23 (by omega), a7.2.2]; exact ⟨a7.1, a7.2.1, rfl⟩
  · rw [t1 25 (by omega)]; exact a8
  · rw [pk_un (by omega), pk_un (by omega), pk_un (by omega), t1 18 (by omega)]; exact a9
theorem q_A_tick {nb d o a : Nat} {σ μ : MSt} (A : q_A nb d o σ a μ.1) (hs : σ.1 o 5 = -1 ∨ ∃ e, e ≤ 8 ∧ σ.1 o 6 = nI (d + 1 + e)) (hnb : nb ≤ 8) : q_A nb (d + 1) o (mI σ o 3 (σ.1 o 3 + 1)) a (mI μ 17 a (μ.1 17 a + 1)).1 := by
  obtain ⟨a1, a2, a3, a4, a5, a6, a7, a8, a9⟩ := A
  have lr : (mI σ o 3 (σ.1 o 3 + 1)).1 o = upd (σ.1 o) 3 (σ.1 o 3 + 1) := q_row _ _ _ _
  have lo : ∀ r, r ≠ o → (mI σ o 3 (σ.1 o 3 + 1)).1 r = σ.1 r := fun r hr => m_Ir _ _ _ _ hr
  have t1 : ∀ q, q ≠ 17 → (mI μ 17 a (μ.1 17 a + 1)).1 q = μ.1 q := fun q hq => m_Ir _ _ _ _ hq
  have t2 : (mI μ 17 a (μ.1 17 a + 1)).1 17 a = μ.1 17 a + 1 := by rw [m_I]; simp
  unfold q_A
  rw [lr, lo (o + 1) (by omega), lo (o + 2) (by omega), lo (o + 3) (by omega)]
  refine ⟨?_, ?_, ?_, ?_, ?_, ?_, ?_, ?_, ?_⟩
  · rw [pk_us, t2, a1.1, a1.2, nI_1]; exact ⟨rfl, rfl⟩
  · rw [t1 26 (by omega)]; exact a2
  · rw [t1 27 (by omega)]; exact a3
  · rw [t1 28 (by omega)]; exact a4
  · rw [pk_un (by omega), pk_un (by omega), t1 19 (by omega), t1 20 (by omega)]; exact a5
  · rw [pk_un (by omega), t1 21 (by omega)]; exact a6
  · rw [pk_un (by omega), pk_un (by omega), pk_un (by omega), t1 22 (by omega), t1 23 (by omega), t1 24 (by omega)]; exact a7
  · rw [t1 25 (by omega)]; exact a8
  · rw [pk_un (by omega), pk_un (by omega), pk_un (by omega), t1 18 (by omega)]
    rcases a9 with q | ⟨b, e, p1, p2, p3, p4, p5⟩
    · exact Or.inl q
    · right
      rcases hs with z | ⟨e', he, z⟩
      · rw [p2] at z; exact absurd z (q_n1 (by omega))
      · exact ⟨b, e', p1, p2, z, by omega, p5⟩
theorem q_A_drag {nb d o a : Nat} {σ μ : MSt} (A : q_A nb d o σ a μ.1) (b : Nat) (hb : b < 8) : q_A nb d o (q_drag o b σ) a (mI μ 26 (8 * a + b) (k_max 0 (μ.1 26 (8 * a + b) - 2))).1 := by
  obtain ⟨a1, a2, a3, a4, a5⟩ := A
  have lo : ∀ r, r ≠ o + 1 → (q_drag o b σ).1 r = σ.1 r := fun r hr => m_Ir _ _ _ _ hr
  have t1 : ∀ q, q ≠ 26 → (mI μ 26 (8 * a + b) (k_max 0 (μ.1 26 (8 * a + b) - 2))).1 q = μ.1 q := fun q hq => m_Ir _ _ _ _ hq
  unfold q_A q_AN
  rw [lo o (by omega), lo (o + 2) (by omega), lo (o + 3) (by omega), t1 17 (by omega), t1 18 (by omega), t1 19 (by omega), t1 20 (by omega), t1 21 (by omega), t1 22 (by omega), t1 23 (by omega), t1 24 (by omega), t1 25 (by omega), t1 27 (by omega), t1 28 (by omega)]
  refine ⟨a1, ?_, a3, a4, a5⟩
  intro x hx
  unfold q_drag
  rw [m_I, m_I]
  by_cases c : x = b
  · subst c
    rw [if_pos ⟨rfl, rfl⟩, if_pos ⟨rfl, rfl⟩, (a2 x hx).1]
    refine ⟨rfl, ?_⟩
    rw [← (a2 x hx).1]
    obtain ⟨j1, j2⟩ := (a2 x hx).2
    have e2 : (2 : Int32).toInt = 2 := by decide
    have es : (σ.1 (o + 1) x - 2).toInt = (σ.1 (o + 1) x).toInt - 2 := by
      rw [Int32.toInt_sub, e2]
      exact Int.bmod_eq_of_le (by omega) (by omega)
    unfold k_max q_JB
    by_cases z : (0 : Int32) < σ.1 (o + 1) x - 2
    · rw [if_pos z, es]
      rw [Int32.lt_iff_toInt_lt, es, t_0] at z
      omega
    · rw [if_neg z, t_0]; omega
  · rw [if_neg (fun q => c q.2), if_neg (fun q => c (by omega))]
    exact a2 x hx
def FP (o : Nat) (σ σ' : MSt) : Prop := (∀ r, r ≠ 72 → (r < o ∨ o + 3 < r) → σ'.1 r = σ.1 r) ∧ ∀ r, r ≠ 22 → r ≠ o → σ'.2 r = σ.2 r
theorem FP.rf {o : Nat} {σ : MSt} : FP o σ σ := ⟨fun _ _ _ => rfl, fun _ _ _ => rfl⟩
theorem FP.trans {o : Nat} {σ σ1 σ2 : MSt} (h : FP o σ σ1) (h2 : FP o σ1 σ2) : FP o σ σ2 := ⟨fun r x y => (h2.1 r x y).trans (h.1 r x y), fun r x y => (h2.2 r x y).trans (h.2 r x y)⟩
theorem FP.ofD {o : Nat} {σ σ' : MSt} (h : FD o σ σ') : FP o σ σ' := ⟨fun r _ y => h.1 r y, fun r _ _ => by rw [h.2]⟩
theorem FP.of72 {o : Nat} {σ σ' : MSt} (h : FO 72 σ σ') : FP o σ σ' := ⟨fun r x _ => h.1 r x, fun r x _ => h.2 r x⟩
theorem FP.mI (o : Nat) (σ : MSt) (r j : Nat) (v : Int32) (h : o ≤ r ∧ r ≤ o + 3) : FP o σ (mI σ r j v) := ⟨fun q _ y => m_Ir _ _ _ _ (by omega), fun _ _ _ => rfl⟩
theorem FP.mJ (o : Nat) (σ : MSt) (j : Nat) (v : Int64) : FP o σ (mJ σ o j v) := ⟨fun _ _ _ => rfl, fun r _ y => m_Jr _ _ _ _ y⟩
def FN (a : Nat) (μ μ' : MSt) : Prop := (∀ r, 0 < r → (r < 17 ∨ 28 < r) → μ'.1 r = μ.1 r) ∧ (∀ r, 16 < r → r < 26 → ∀ i, i ≠ a → μ'.1 r i = μ.1 r i) ∧ (∀ r, 25 < r → r < 29 → ∀ i, (i < 8 * a ∨ 8 * a + 7 < i) → μ'.1 r i = μ.1 r i) ∧ ∀ j, j ≠ 31 → (j < 51 ∨ 53 < j) → μ'.1 0 j = μ.1 0 j
theorem FN.rf {a : Nat} {μ : MSt} : FN a μ μ := ⟨fun _ _ _ => rfl, fun _ _ _ _ _ => rfl, fun _ _ _ _ _ => rfl, fun _ _ _ => rfl⟩
theorem FN.trans {a : Nat} {μ μ1 μ2 : MSt} (h : FN a μ μ1) (h2 : FN a μ1 μ2) : FN a μ μ2 := ⟨fun r x y => (h2.1 r x y).trans (h.1 r x y), fun r x y i p => (h2.2.1 r x y i p).trans (h.2.1 r x y i p), fun r x y i p => (h2.2.2.1 r x y i p).trans (h.2.2.1 r x y i p), fun j x y => (h2.2.2.2 j x y).trans (h.2.2.2 j x y)⟩
theorem FN.ofA {a : Nat} {μ μ' : MSt} (h : FA a μ μ') : FN a μ μ' := ⟨fun r _ y => h.1 r y, h.2.1, h.2.2, fun j _ _ => by rw [h.1 0 (by omega)]⟩
theorem FN.ofM {a : Nat} {μ μ' : MSt} (h : FM μ μ') : FN a μ μ' := ⟨fun r x _ => h.1 r (by omega), fun r x _ i _ => by rw [h.1 r (by omega)], fun r x _ i _ => by rw [h.1 r (by omega)], h.2⟩
theorem FN.m1 (a : Nat) (μ : MSt) (r : Nat) (v : Int32) (h : 16 < r ∧ r < 26) : FN a μ (mI μ r a v) := ⟨fun q _ _ => m_Ir _ _ _ _ (by omega), fun q _ _ i hi => by rw [m_I, if_neg (by omega)], fun q _ _ i hi => by rw [m_Ir _ _ _ _ (by omega)], fun j _ _ => by rw [m_Ir _ _ _ _ (by omega)]⟩
theorem FN.m2 (a b : Nat) (hb : b < 8) (μ : MSt) (r : Nat) (v : Int32) (h : 25 < r ∧ r < 29) : FN a μ (mI μ r (8 * a + b) v) := ⟨fun q _ _ => m_Ir _ _ _ _ (by omega), fun q _ _ i hi => by rw [m_Ir _ _ _ _ (by omega)], fun q _ _ i hi => by rw [m_I, if_neg (by omega)], fun j _ _ => by rw [m_Ir _ _ _ _ (by omega)]⟩
