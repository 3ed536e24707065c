/-! RESTS of two captains -/
theorem q_if0 : (if false = true then (1 : Int32) else 0) = 0 := rfl
def q_sh (v : Nat → Int32) (x y : Nat) : Int32 := if x = y then v x / 2 else v x
def q_bb (v : Nat → Int32) (a b : Nat) : Nat → Nat → Bool
  | 0, _ => true
  | k + 1, i => if q_sh v i b ≤ q_sh v a b then q_bb v a b k (i + 1) else false
def q_rp (v : Nat → Int32) (nb a b : Nat) : Bool := q_bb v a b nb 0 && q_bb v b a nb 0
def q_ri (v : Nat → Int32) (nb a : Nat) : Nat → Nat → List Nat
  | 0, _ => []
  | k + 1, b => if q_rp v nb a b then (10 * a + b) :: q_ri v nb a k (b + 1) else q_ri v nb a k (b + 1)
def q_ro (v : Nat → Int32) (nb : Nat) : Nat → Nat → List Nat
  | 0, _ => []
  | k + 1, a => q_ri v nb a nb 0 ++ q_ro v nb k (a + 1)
theorem q_ri_len (v : Nat → Int32) (nb a : Nat) : ∀ k b, (q_ri v nb a k b).length ≤ k := by
  intro k
  induction k with
  | zero => intro b; exact Nat.le_refl 0
  | succ k ih =>
    intro b
    unfold q_ri
    split
    · rw [List.length_cons]; have := ih (b + 1); omega
    · have := ih (b + 1); omega
theorem q_ro_len (v : Nat → Int32) (nb : Nat) : ∀ k a, (q_ro v nb k a).length ≤ k * nb := by
  intro k
  induction k with
  | zero => intro a; unfold q_ro; simp
  | succ k ih =>
    intro a
    unfold q_ro
    rw [List.length_append]
    have h1 := q_ri_len v nb a nb 0
    have h2 := ih (a + 1)
    have h3 : (k + 1) * nb = k * nb + nb := Nat.succ_mul k nb
    omega
theorem q_shC (x y : Nat) (hx : x < 8) (hy : y < 8) (σ : MSt) : f_X3_shareOf (nI x) (nI y) σ = some (q_sh (σ.1 68) x y, σ) := by
  have kx : k_inb (nI x) 8 = true := e_in hx (by decide)
  unfold f_X3_shareOf f_X3_shareOf_b34 q_sh
  rw [if_neg (nI_pos (by omega)), if_pos (show nI x < (8 : Int32) from nI_lt (a := x) (b := 8) hx (by decide)), e_ck kx, e_ck kx, nI_clamp (by omega)]
  by_cases c : x = y
  · rw [if_pos c, if_pos (by rw [c])]
  · rw [if_neg c, if_neg (fun q => c ((nI_eq (by omega) (by omega)).mp q))]
theorem q_shM (x y : Nat) (hx : x < 8) (hy : y < 8) (σ : MSt) : f_X12_shareOf (nI x) (nI y) σ = some (q_sh (σ.1 33) x y, σ) := by
  have kx : k_inb (nI x) 8 = true := e_in hx (by decide)
  unfold f_X12_shareOf f_X12_shareOf_b22 q_sh
  rw [e_ck kx, e_ck kx, nI_clamp (by omega)]
  by_cases c : x = y
  · rw [if_pos c, if_pos (by rw [c])]
  · rw [if_neg c, if_neg (fun q => c ((nI_eq (by omega) (by omega)).mp q))]
theorem q_bbC (nb a b : Nat) (hnb : nb ≤ 8) (ha : a < 8) (hb : b < 8) (σ : MSt) (s7 : σ.1 10 7 = nI nb) : ∀ (k n i : Nat), i + k = nb → k < n → f_X3_isBestBeside_b2 n (nI a) (nI b) (nI i) σ = some (if q_bb (σ.1 68) a b k i then 1 else 0, σ) := by
  intro k
  induction k with
  | zero =>
    intro n i h1 h2
    obtain ⟨n, rfl⟩ : ∃ z, n = z + 1 := ⟨n - 1, by omega⟩
    show f_X3_isBestBeside_b2_s (f_X3_isBestBeside_b2 n) (nI a) (nI b) (nI i) σ = _
    unfold f_X3_isBestBeside_b2_s
    rw [s7, if_pos (nI_le (by omega) (by omega))]
    rfl
  | succ k ih =>
    intro n i h1 h2
    obtain ⟨n, rfl⟩ : ∃ z, n = z + 1 := ⟨n - 1, by omega⟩
    show f_X3_isBestBeside_b2_s (f_X3_isBestBeside_b2 n) (nI a) (nI b) (nI i) σ = _
    unfold f_X3_isBestBeside_b2_s q_bb
    rw [s7, if_neg (nI_ge (by omega) (by omega)), if_neg (show ¬ (8 : Int32) ≤ nI i from nI_ge (a := i) (b := 8) (by omega) (by decide)), q_shC i b (by omega) hb, e_bdS, q_shC a b ha hb, e_bdS]
    by_cases c : q_sh (σ.1 68) i b ≤ q_sh (σ.1 68) a b
    · rw [if_pos c, if_pos c, e_nm, nI_1]
      exact ih n (i + 1) (by omega) (by omega)
    · rw [if_neg c, if_neg c]; rfl
theorem q_bbM (nb a b : Nat) (hnb : nb ≤ 8) (ha : a < 8) (hb : b < 8) (μ : MSt) (s7 : μ.1 2 0 = nI nb) : ∀ (k n i : Nat), i + k = nb → k < n → f_X12_isRest_b2 n (nI a) (nI b) (nI i) μ = some (if q_bb (μ.1 33) a b k i && q_bb (μ.1 33) b a k i then 1 else 0, μ) := by
  intro k
  induction k with
  | zero =>
    intro n i h1 h2
    obtain ⟨n, rfl⟩ : ∃ z, n = z + 1 := ⟨n - 1, by omega⟩
    show f_X12_isRest_b2_s (f_X12_isRest_b2 n) (nI a) (nI b) (nI i) μ = _
    unfold f_X12_isRest_b2_s
    rw [e_ck q_i18, c_0, s7, if_pos (nI_le (by omega) (by omega))]
    rfl
  | succ k ih =>
    intro n i h1 h2
    obtain ⟨n, rfl⟩ : ∃ z, n = z + 1 := ⟨n - 1, by omega⟩
    show f_X12_isRest_b2_s (f_X12_isRest_b2 n) (nI a) (nI b) (nI i) μ = _
    unfold f_X12_isRest_b2_s q_bb f_X12_isRest_b42
    rw [e_ck q_i18, c_0, s7, if_neg (nI_ge (by omega) (by omega)), q_shM i b (by omega) hb, e_bdS, q_shM a b ha hb, e_bdS, q_shM i a (by omega) ha, e_bdS, q_shM b a hb ha, e_bdS]
    by_cases c : q_sh (μ.1 33) i b ≤ q_sh (μ.1 33) a b
    · rw [if_neg (Int32.not_lt.mpr c), if_pos c]
      by_cases c2 : q_sh (μ.1 33) i a ≤ q_sh (μ.1 33) b a
      · rw [if_pos c2, if_pos c2, e_nm, nI_1]
        exact ih n (i + 1) (by omega) (by omega)
      · rw [if_neg c2, if_neg c2, Bool.and_false]; rfl
    · rw [if_pos (Int32.not_le.mp c), if_neg c, Bool.false_and]; rfl
theorem q_bb_cong {v w : Nat → Int32} {nb : Nat} (h : ∀ c, c < nb → v c = w c) (a b : Nat) (ha : a < nb) : ∀ k i, i + k ≤ nb → q_bb v a b k i = q_bb w a b k i := by
  intro k
  induction k with
  | zero => intro i _; rfl
  | succ k ih =>
    intro i hi
    unfold q_bb q_sh
    rw [h i (by omega), h a ha, ih (i + 1) (by omega)]
theorem q_ri_cong {v w : Nat → Int32} {nb : Nat} (h : ∀ c, c < nb → v c = w c) (a : Nat) (ha : a < nb) : ∀ k b, b + k = nb → q_ri v nb a k b = q_ri w nb a k b := by
  intro k
  induction k with
  | zero => intro b _; rfl
  | succ k ih =>
    intro b hb
    unfold q_ri q_rp
    rw [q_bb_cong h a b ha nb 0 (by omega), q_bb_cong h b a (by omega) nb 0 (by omega), ih (b + 1) (by omega)]
theorem q_ro_cong {v w : Nat → Int32} {nb : Nat} (h : ∀ c, c < nb → v c = w c) : ∀ k a, a + k = nb → q_ro v nb k a = q_ro w nb k a := by
  intro k
  induction k with
  | zero => intro a _; rfl
  | succ k ih =>
    intro a ha
    unfold q_ro
    rw [q_ri_cong h a (by omega) nb 0 (by omega), ih (a + 1) (by omega)]
/-- the class collects the rests in row 69 -/
theorem q_frC_i (nb a : Nat) (hnb : nb ≤ 8) (ha : a < nb) (r4 : Int32 → Int32 → MSt → Option (Int32 × MSt)) (v : Nat → Int32) : ∀ (k n b f : Nat) (σ : MSt), b + k = nb → k < n → f + k ≤ 64 → σ.1 10 7 = nI nb → σ.1 68 = v → ∃ σ', f_X3_findRests_b23 r4 n (nI f) (nI a) (nI b) σ = r4 (nI (f + (q_ri v nb a k b).length)) (nI (a + 1)) σ' ∧ (∀ j x, (q_ri v nb a k b)[j]? = some x → σ'.1 69 (f + j) = nI x) ∧ (∀ j, j < f → σ'.1 69 j = σ.1 69 j) ∧ (∀ r, r ≠ 69 → σ'.1 r = σ.1 r) ∧ σ'.2 = σ.2 := by
  intro k
  induction k with
  | zero =>
    intro n b f σ h1 h2 h3 s7 h68
    obtain ⟨n, rfl⟩ : ∃ z, n = z + 1 := ⟨n - 1, by omega⟩
    refine ⟨σ, ?_, fun j x e => by unfold q_ri at e; simp at e, fun _ _ => rfl, fun _ _ => rfl, rfl⟩
    show f_X3_findRests_b23_s r4 (f_X3_findRests_b23 r4 n) (nI f) (nI a) (nI b) σ = _
    unfold f_X3_findRests_b23_s f_X3_findRests_b88
    rw [s7, if_pos (nI_le (by omega) (by omega)), e_nm, nI_1]
    rfl
  | succ k ih =>
    intro n b f σ h1 h2 h3 s7 h68
    obtain ⟨n, rfl⟩ : ∃ z, n = z + 1 := ⟨n - 1, by omega⟩
    have e1 := q_bbC nb a b hnb (by omega) (by omega) σ s7 nb FU 0 (by omega) (by unfold FU; omega)
    have e2 := q_bbC nb b a hnb (by omega) (by omega) σ s7 nb FU 0 (by omega) (by unfold FU; omega)
    have e1' : f_X3_isBestBeside (nI a) (nI b) σ = _ := e1
    have e2' : f_X3_isBestBeside (nI b) (nI a) σ = _ := e2
    rw [h68] at e1' e2'
    show ∃ σ', f_X3_findRests_b23_s r4 (f_X3_findRests_b23 r4 n) (nI f) (nI a) (nI b) σ = _ ∧ _
    unfold f_X3_findRests_b23_s f_X3_findRests_b82 q_ri q_rp
    rw [s7, if_neg (nI_ge (by omega) (by omega)), if_neg (show ¬ (8 : Int32) ≤ nI b from nI_ge (a := b) (b := 8) (by omega) (by decide)), e1', e_bdS, e2', e_bdS]
    have skip : ∃ σ', (k_nm (nI b + 1) fun u1 => f_X3_findRests_b23 r4 n (nI f) (nI a) u1 σ) = r4 (nI (f + (q_ri v nb a k (b + 1)).length)) (nI (a + 1)) σ' ∧ (∀ j x, (q_ri v nb a k (b + 1))[j]? = some x → σ'.1 69 (f + j) = nI x) ∧ (∀ j, j < f → σ'.1 69 j = σ.1 69 j) ∧ (∀ r, r ≠ 69 → σ'.1 r = σ.1 r) ∧ σ'.2 = σ.2 := by
      rw [e_nm, nI_1]
      exact ih n (b + 1) f σ (by omega) (by omega) (by omega) s7 h68
    cases q1 : q_bb v a b nb 0 with
    | false =>
      rw [if_pos q_if0]
      simp only [Bool.false_and, Bool.false_eq_true, if_false]
      exact skip
    | true =>
      rw [if_pos rfl, if_neg q_t10]
      cases q2 : q_bb v b a nb 0 with
      | false =>
        rw [if_pos q_if0]
        simp only [Bool.and_false, Bool.false_eq_true, if_false]
        exact skip
      | true =>
        have kf : k_inb (nI f) 64 = true := e_in (by omega) (by decide)
        have ev : (10 : Int32) * nI a + nI b = nI (10 * a + b) := by rw [show (10 : Int32) = nI 10 from rfl, pk_mul, nI_add]
        rw [if_pos rfl, if_neg q_t10, if_neg (show ¬ (64 : Int32) ≤ nI f from nI_ge (a := f) (b := 64) (by omega) (by decide)), e_ck kf, e_nm, e_nm, e_nm, nI_1, nI_1, nI_clamp (by omega), ev]
        obtain ⟨σ', y1, y2, y3, y4, y5⟩ := ih n (b + 1) (f + 1) (mI σ 69 f (nI (10 * a + b))) (by omega) (by omega) (by omega) (by rw [m_Ir _ _ _ _ (by omega)]; exact s7) (by rw [m_Ir _ _ _ _ (by omega)]; exact h68)
        refine ⟨σ', ?_, ?_, ?_, ?_, y5⟩
        · rw [y1, Bool.and_self, if_pos rfl, List.length_cons]
          congr 2
          omega
        · intro j x e
          rw [Bool.and_self, if_pos rfl] at e
          cases j with
          | zero =>
            rw [List.getElem?_cons_zero] at e
            cases e
            rw [Nat.add_zero, y3 f (by omega), m_I]
            simp
          | succ j =>
            rw [List.getElem?_cons_succ] at e
            rw [show f + (j + 1) = f + 1 + j by omega]
            exact y2 j x e
        · intro j hj; rw [y3 j (by omega), m_I, if_neg (by omega)]
        · intro r hr; rw [y4 r hr, m_Ir _ _ _ _ hr]
theorem q_frC_o (nb : Nat) (hnb : nb ≤ 8) (v : Nat → Int32) : ∀ (k n a f : Nat) (σ : MSt), a + k = nb → k < n → f + k * nb ≤ 64 → σ.1 10 7 = nI nb → σ.1 68 = v → ∃ σ', f_X3_findRests_b4 n (nI f) (nI a) σ = some (nI (f + (q_ro v nb k a).length), σ') ∧ (∀ j x, (q_ro v nb k a)[j]? = some x → σ'.1 69 (f + j) = nI x) ∧ (∀ j, j < f → σ'.1 69 j = σ.1 69 j) ∧ (∀ r, r ≠ 69 → σ'.1 r = σ.1 r) ∧ σ'.2 = σ.2 := by
  intro k
  induction k with
  | zero =>
    intro n a f σ h1 h2 h3 s7 h68
    obtain ⟨n, rfl⟩ : ∃ z, n = z + 1 := ⟨n - 1, by omega⟩
    refine ⟨σ, ?_, fun j x e => by unfold q_ro at e; simp at e, fun _ _ => rfl, fun _ _ => rfl, rfl⟩
    show f_X3_findRests_b4_s (f_X3_findRests_b4 n) (nI f) (nI a) σ = _
    unfold f_X3_findRests_b4_s f_X3_findRests_b94
    rw [s7, if_pos (nI_le (by omega) (by omega))]
    rfl
  | succ k ih =>
    intro n a f σ h1 h2 h3 s7 h68
    obtain ⟨n, rfl⟩ : ∃ z, n = z + 1 := ⟨n - 1, by omega⟩
    have h4 : (k + 1) * nb = k * nb + nb := Nat.succ_mul k nb
    have hl := q_ri_len v nb a nb 0
    show ∃ σ', f_X3_findRests_b4_s (f_X3_findRests_b4 n) (nI f) (nI a) σ = _ ∧ _
    unfold f_X3_findRests_b4_s q_ro
    obtain ⟨σ1, y1, y2, y3, y4, y5⟩ := q_frC_i nb a hnb (by omega) (f_X3_findRests_b4 n) v nb FU 0 f σ (by omega) (by unfold FU; omega) (by omega) s7 h68
    have y1' : f_X3_findRests_b23 (f_X3_findRests_b4 n) FU (nI f) (nI a) 0 σ = _ := y1
    rw [s7, if_neg (nI_ge (by omega) (by omega)), if_neg (show ¬ (8 : Int32) ≤ nI a from nI_ge (a := a) (b := 8) (by omega) (by decide)), y1']
    obtain ⟨σ', z1, z2, z3, z4, z5⟩ := ih n (a + 1) (f + (q_ri v nb a nb 0).length) σ1 (by omega) (by omega) (by omega) (by rw [y4 10 (by omega)]; exact s7) (by rw [y4 68 (by omega)]; exact h68)
    refine ⟨σ', ?_, ?_, ?_, fun r hr => by rw [z4 r hr, y4 r hr], by rw [z5, y5]⟩
    · rw [z1, List.length_append, Nat.add_assoc]
    · intro j x e
      by_cases c : j < (q_ri v nb a nb 0).length
      · rw [List.getElem?_append_left c] at e
        rw [z3 (f + j) (by omega)]
        exact y2 j x e
      · rw [List.getElem?_append_right (by omega)] at e
        rw [show f + j = f + (q_ri v nb a nb 0).length + (j - (q_ri v nb a nb 0).length) by omega]
        exact z2 _ x e
    · intro j hj; rw [z3 j (by omega), y3 j hj]
/-- what the reference is asked for: the t-th rest -/
def q_rg (x : Int32) : Nat → List Nat → Option Nat
  | _, [] => none
  | n, v :: L => if nI n = x then some v else q_rg x (n + 1) L
theorem q_rg_app (x : Int32) : ∀ (L1 L2 : List Nat) (n : Nat), q_rg x n (L1 ++ L2) = match q_rg x n L1 with | some v => some v | none => q_rg x (n + L1.length) L2 := by
  intro L1
  induction L1 with
  | nil => intro L2 n; rfl
  | cons v L1 ih =>
    intro L2 n
    show (if nI n = x then some v else q_rg x (n + 1) (L1 ++ L2)) = match (if nI n = x then some v else q_rg x (n + 1) L1) with | some v => some v | none => q_rg x (n + (L1.length + 1)) L2
    by_cases c : nI n = x
    · rw [if_pos c, if_pos c]
    · rw [if_neg c, if_neg c, ih, show n + (L1.length + 1) = n + 1 + L1.length by omega]
theorem q_rg_none : ∀ (L : List Nat) (n : Nat), n + L.length < 2 ^ 31 → q_rg (-1) n L = none := by
  intro L
  induction L with
  | nil => intro n _; rfl
  | cons v L ih =>
    intro n h
    rw [List.length_cons] at h
    show (if nI n = -1 then some v else q_rg (-1) (n + 1) L) = none
    rw [if_neg (q_n1 (by omega))]
    exact ih (n + 1) (by omega)
theorem q_rg_at (t : Nat) (ht : t < 2 ^ 31) : ∀ (L : List Nat) (n : Nat), n ≤ t → n + L.length < 2 ^ 31 → q_rg (nI t) n L = L[t - n]? := by
  intro L
  induction L with
  | nil => intro n _ _; rfl
  | cons v L ih =>
    intro n h h2
    rw [List.length_cons] at h2
    show (if nI n = nI t then some v else q_rg (nI t) (n + 1) L) = _
    by_cases c : n = t
    · subst c
      rw [if_pos rfl, Nat.sub_self]
      rfl
    · rw [if_neg (fun q => c ((nI_eq (by omega) (by omega)).mp q)), ih (n + 1) (by omega) (by omega), show t - n = (t - (n + 1)) + 1 by omega, List.getElem?_cons_succ]
theorem q_rM_i (nb a : Nat) (hnb : nb ≤ 8) (ha : a < nb) (x : Int32) (r35 : Int32 → Int32 → Int32 → MSt → Option (Int32 × MSt)) (v : Nat → Int32) (μ : MSt) (s7 : μ.1 2 0 = nI nb) (h33 : μ.1 33 = v) : ∀ (k n b f : Nat), b + k = nb → k < n → f_X12_restOf_b49 r35 n x (nI f) (nI a) (nI b) μ = match q_rg x f (q_ri v nb a k b) with | some w => some (nI w, μ) | none => r35 x (nI (f + (q_ri v nb a k b).length)) (nI (a + 1)) μ := by
  intro k
  induction k with
  | zero =>
    intro n b f h1 h2
    obtain ⟨n, rfl⟩ : ∃ z, n = z + 1 := ⟨n - 1, by omega⟩
    show f_X12_restOf_b49_s r35 (f_X12_restOf_b49 r35 n) x (nI f) (nI a) (nI b) μ = _
    unfold f_X12_restOf_b49_s
    rw [e_ck q_i18, c_0, s7, if_pos (nI_le (by omega) (by omega)), e_nm, nI_1]
    rfl
  | succ k ih =>
    intro n b f h1 h2
    obtain ⟨n, rfl⟩ : ∃ z, n = z + 1 := ⟨n - 1, by omega⟩
    have e1 := q_bbM nb a b hnb (by omega) (by omega) μ s7 nb FU 0 (by omega) (by unfold FU; omega)
    have e1' : f_X12_isRest (nI a) (nI b) μ = _ := e1
    rw [h33] at e1'
    have ev : (10 : Int32) * nI a + nI b = nI (10 * a + b) := by rw [show (10 : Int32) = nI 10 from rfl, pk_mul, nI_add]
    show f_X12_restOf_b49_s r35 (f_X12_restOf_b49 r35 n) x (nI f) (nI a) (nI b) μ = _
    unfold f_X12_restOf_b49_s f_X12_restOf_b91 q_ri
    rw [e_ck q_i18, c_0, s7, if_neg (nI_ge (by omega) (by omega)), e1', e_bdS]
    have er : q_rp v nb a b = (q_bb v a b nb 0 && q_bb v b a nb 0) := rfl
    rw [← er]
    cases q : q_rp v nb a b with
    | false =>
      rw [if_pos q_if0, e_nm, nI_1]
      simp only [Bool.false_eq_true, if_false]
      exact ih n (b + 1) f (by omega) (by omega)
    | true =>
      rw [if_pos rfl, if_neg q_t10, if_pos rfl, ev]
      show _ = match (if nI f = x then some (10 * a + b) else q_rg x (f + 1) (q_ri v nb a k (b + 1))) with | some w => some (nI w, μ) | none => r35 x (nI (f + ((q_ri v nb a k (b + 1)).length + 1))) (nI (a + 1)) μ
      by_cases c : nI f = x
      · rw [if_pos c, if_pos c]
      · rw [if_neg c, if_neg c, e_nm, e_nm, nI_1, nI_1, ih n (b + 1) (f + 1) (by omega) (by omega), show f + 1 + (q_ri v nb a k (b + 1)).length = f + ((q_ri v nb a k (b + 1)).length + 1) by omega]
theorem q_rM_o (nb : Nat) (hnb : nb ≤ 8) (x : Int32) (v : Nat → Int32) (μ : MSt) (s7 : μ.1 2 0 = nI nb) (h33 : μ.1 33 = v) : ∀ (k n a f : Nat), a + k = nb → k < n → f_X12_restOf_b35 n x (nI f) (nI a) μ = match q_rg x f (q_ro v nb k a) with | some w => some (nI w, μ) | none => if x = -1 then some (nI (f + (q_ro v nb k a).length), μ) else some (-2, μ) := by
  intro k
  induction k with
  | zero =>
    intro n a f h1 h2
    obtain ⟨n, rfl⟩ : ∃ z, n = z + 1 := ⟨n - 1, by omega⟩
    show f_X12_restOf_b35_s (f_X12_restOf_b35 n) x (nI f) (nI a) μ = _
    unfold f_X12_restOf_b35_s f_X12_restOf_b114
    rw [e_ck q_i18, c_0, s7, if_pos (nI_le (by omega) (by omega))]
    rfl
  | succ k ih =>
    intro n a f h1 h2
    obtain ⟨n, rfl⟩ : ∃ z, n = z + 1 := ⟨n - 1, by omega⟩
    have e := q_rM_i nb a hnb (by omega) x (f_X12_restOf_b35 n) v μ s7 h33 nb FU 0 f (by omega) (by unfold FU; omega)
    have e' : f_X12_restOf_b49 (f_X12_restOf_b35 n) FU x (nI f) (nI a) 0 μ = _ := e
    show f_X12_restOf_b35_s (f_X12_restOf_b35 n) x (nI f) (nI a) μ = _
    unfold f_X12_restOf_b35_s q_ro
    rw [e_ck q_i18, c_0, s7, if_neg (nI_ge (by omega) (by omega)), e', q_rg_app]
    cases q : q_rg x f (q_ri v nb a nb 0) with
    | some w => rfl
    | none =>
      show f_X12_restOf_b35 n x (nI (f + (q_ri v nb a nb 0).length)) (nI (a + 1)) μ = _
      rw [ih n (a + 1) (f + (q_ri v nb a nb 0).length) (by omega) (by omega), List.length_append, Nat.add_assoc]
theorem q_rM_n {nb nl nd nw nk dn : Nat} {σ : MSt} (hdn : dn ≤ 9900) (N : Nat) (hN : N ≤ 60) (x : Int32) : ∀ (k n b : Nat) (μ : MSt), b + k = nb → k < n → q_TX nb nl nd nw nk σ.1 μ.1 → q_A nb dn 50 σ 0 μ.1 → q_rest μ.1 → (∀ c, c < b → μ.1 33 c = nI (q_cnt (q_hv σ.1 nd nw dn c) N)) → ∃ μ', f_X12_restOf_b2 n (nI N) x (nI b) μ = f_X12_restOf_b35 FU x 0 0 μ' ∧ (∀ c, c < nb → μ'.1 33 c = nI (q_cnt (q_hv σ.1 nd nw dn c) N)) ∧ FX μ μ' := by
  intro k
  induction k with
  | zero =>
    intro n b μ h1 h2 T A hr h33
    obtain ⟨n, rfl⟩ : ∃ z, n = z + 1 := ⟨n - 1, by omega⟩
    have l8 := T.le.1
    refine ⟨μ, ?_, fun c hc => h33 c (by omega), FX.rf⟩
    show f_X12_restOf_b2_s (f_X12_restOf_b2 n) (nI N) x (nI b) μ = _
    unfold f_X12_restOf_b2_s
    rw [e_ck q_i18, c_0, T.nbM, if_pos (nI_le (by omega) (by omega))]
  | succ k ih =>
    intro n b μ h1 h2 T A hr h33
    obtain ⟨n, rfl⟩ : ∃ z, n = z + 1 := ⟨n - 1, by omega⟩
    have l8 := T.le.1
    have kb : k_inb (nI b) 8 = true := e_in (by omega) (by decide)
    obtain ⟨μ1, y1, y2⟩ := q_ni hdn N hN b (by omega) T A hr
    show ∃ μ', f_X12_restOf_b2_s (f_X12_restOf_b2 n) (nI N) x (nI b) μ = _ ∧ _
    unfold f_X12_restOf_b2_s
    rw [e_ck q_i18, c_0, T.nbM, if_neg (nI_ge (by omega) (by omega)), y1, e_bdS, e_ck kb, e_nm, e_nm, nI_1, nI_clamp (by omega)]
    have fx : FX μ (mI μ1 33 b (nI (q_cnt (q_hv σ.1 nd nw dn b) N))) := (FX.of y2).trans ⟨fun r hr' => m_Ir _ _ _ _ (by omega), fun r _ _ i _ _ => by rw [m_Ir _ _ _ _ (by omega)], fun r _ _ i _ => by rw [m_Ir _ _ _ _ (by omega)], fun j _ _ _ _ => by rw [m_Ir _ _ _ _ (by omega)]⟩
    obtain ⟨μ', z1, z2, z3⟩ := ih n (b + 1) _ (by omega) (by omega) (T.fr FL.rf fx) (A.fr FL.rf fx) (hr.FX fx) (fun c hc => by
      rw [m_I]
      by_cases e : c = b
      · rw [if_pos ⟨rfl, e⟩, e]
      · rw [if_neg (fun q => e q.2), y2.1 33 (by omega)]
        exact h33 c (by omega))
    exact ⟨μ', z1, z2, fx.trans z3⟩
theorem q_rests {nb nl nd nw nk dn : Nat} {σ μ : MSt} (hdn : dn ≤ 9900) (T : q_TX nb nl nd nw nk σ.1 μ.1) (A : q_A nb dn 50 σ 0 μ.1) (hr : q_rest μ.1) (N : Nat) (hN : N ≤ 60) : ∃ (L : List Nat) (σ1 σ2 : MSt), L.length ≤ 64 ∧ f_X3_countNights (nI N) σ = some σ1 ∧ f_X3_findRests σ1 = some (nI L.length, σ2) ∧ FL σ σ2 ∧ (∀ j x, L[j]? = some x → σ2.1 69 j = nI x) ∧ ∀ x, ∃ μ', FX μ μ' ∧ f_X12_restOf (nI N) x μ = match q_rg x 0 L with | some w => some (nI w, μ') | none => if x = -1 then some (nI L.length, μ') else some (-2, μ') := by
  have l8 := T.le.1
  obtain ⟨σ1, p1, p2, p3, p4⟩ := q_cn_o hdn N hN μ.1 σ.1 nb FU 0 σ (by omega) (by unfold FU; omega) T A.1.1 (fun _ _ => rfl)
  have p1' : f_X3_countNights (nI N) σ = some σ1 := p1
  have hl : nb * nb ≤ 64 := Nat.mul_le_mul l8 l8
  have hlen : (q_ro (σ1.1 68) nb nb 0).length ≤ 64 := Nat.le_trans (q_ro_len _ _ _ _) hl
  obtain ⟨σ2, y1, y2, y3, y4, y5⟩ := q_frC_o nb l8 (σ1.1 68) nb FU 0 0 σ1 (by omega) (by unfold FU; omega) (by omega) (by rw [p4.1 10 (by omega)]; exact T.nbC) rfl
  rw [Nat.zero_add] at y1
  have y1' : f_X3_findRests σ1 = _ := y1
  refine ⟨q_ro (σ1.1 68) nb nb 0, σ1, σ2, hlen, p1', y1', p4.trans ⟨fun r hr' => y4 r (by omega), fun r _ _ => by rw [y5]⟩, fun j x e => by have := y2 j x e; rw [Nat.zero_add] at this; exact this, fun x => ?_⟩
  obtain ⟨μ', z1, z2, z3⟩ := q_rM_n hdn N hN x nb FU 0 μ (by omega) (by unfold FU; omega) T A hr (fun c hc => by omega)
  have z1' : f_X12_restOf (nI N) x μ = f_X12_restOf_b35 FU x 0 0 μ' := z1
  have e := q_rM_o nb l8 x (μ'.1 33) μ' (by rw [z3.1 2 (by omega)]; exact T.nbM) rfl nb FU 0 0 (by omega) (by unfold FU; omega)
  have e' : f_X12_restOf_b35 FU x 0 0 μ' = _ := e
  rw [Nat.zero_add, q_ro_cong (v := μ'.1 33) (w := σ1.1 68) (fun c hc => by rw [z2 c hc, p2 c hc (by omega)]) nb 0 (by omega)] at e'
  exact ⟨μ', z3, by rw [z1', e']⟩
theorem sim_rests : Sim_rests RR := by
  intro σ μ a0 h
  have hk := h.thr
  unfold f_X11_rests f_X12_rests f_X12_rests_b23
  rw [e_nm]
  generalize mI μ 0 0 0 = μ0 at hk
  obtain ⟨nb, nl, nd, nw, nk, dn, T, hdn, A, I, N, O, P, F, W, hr⟩ := id hk
  rcases q_share T a0 with ⟨e1, e2⟩ | ⟨e1, e2, hnb, n, hn, rfl⟩
  · rw [e1, e2, e_bdS, e_bdS, if_pos rfl, if_pos rfl]; exact ⟨_, _, _, rfl, rfl, hk⟩
  · rw [e1, e2, e_bdS, e_bdS, if_neg q_t10, if_neg q_t10]
    obtain ⟨L, σ1, σ2, hl, p1, p2, p3, p4, p5⟩ := q_rests hdn T A hr n hn
    obtain ⟨μ', fx, e⟩ := p5 (-1)
    rw [q_rg_none L 0 (by omega)] at e
    have e' : f_X12_restOf (nI n) (-1) μ0 = some (nI L.length, μ') := e
    rw [p1, e_bvS, p2, e_bdS, e', e_bdS]
    exact ⟨_, _, _, rfl, rfl, hk.fr p3 fx⟩
theorem sim_rest : Sim_rest RR := by
  intro σ μ a0 a1 h
  have hk := h.thr
  unfold f_X11_rest f_X12_rest f_X12_rest_b26 f_X12_rest_b27 f_X11_rest_b12 f_X11_rest_b47
  rw [e_nm]
  generalize mI μ 0 0 0 = μ0 at hk
  obtain ⟨nb, nl, nd, nw, nk, dn, T, hdn, A, I, N, O, P, F, W, hr⟩ := id hk
  rcases q_share T a0 with ⟨e1, e2⟩ | ⟨e1, e2, hnb, n, hn, rfl⟩
  · rw [e1, e2, e_bdS, e_bdS, if_pos rfl, if_pos rfl]; exact ⟨_, _, _, rfl, rfl, hk⟩
  · rw [e1, e2, e_bdS, e_bdS, if_neg q_t10, if_neg q_t10]
    by_cases c : a1 < 0
    · rw [if_pos c, if_neg (Int32.not_le.mpr c)]; exact ⟨_, _, _, rfl, rfl, hk⟩
    · rw [if_neg c, if_pos (Int32.not_lt.mp c)]
      obtain ⟨t, ht, rfl⟩ := nI_of c
      obtain ⟨L, σ1, σ2, hl, p1, p2, p3, p4, p5⟩ := q_rests hdn T A hr n hn
      obtain ⟨μ', fx, e⟩ := p5 (nI t)
      rw [q_rg_at t ht L 0 (by omega) (by omega), Nat.sub_zero] at e
      rw [p1, e_bvS, p2, e_bdS]
      by_cases c2 : L.length ≤ t
      · rw [List.getElem?_eq_none c2] at e
        have e' : f_X12_restOf (nI n) (nI t) μ0 = some (-2, μ') := by
          rw [e]
          show (if nI t = -1 then _ else _) = _
          rw [if_neg (q_n1 ht)]
        rw [if_pos (nI_le c2 ht), e', e_bdS]
        exact ⟨_, _, _, rfl, rfl, hk.fr p3 fx⟩
      · have hx : L[t]? = some (L[t]'(by omega)) := List.getElem?_eq_getElem (by omega)
        rw [hx] at e
        have e' : f_X12_restOf (nI n) (nI t) μ0 = some (nI (L[t]'(by omega)), μ') := e
        rw [if_neg (nI_ge (by omega) (by omega)), e_ck (e_in (by omega) (by decide)), nI_clamp ht, e', e_bdS, p4 t _ hx]
        exact ⟨_, _, _, rfl, rfl, hk.fr p3 fx⟩
