/-! the reference reads a token -/
def FK (μ μ' : MSt) : Prop := (∀ r, r ≠ 0 → μ'.1 r = μ.1 r) ∧ ∀ j, (j < 19 ∨ 22 < j) → μ'.1 0 j = μ.1 0 j
theorem FK.rf {μ : MSt} : FK μ μ := ⟨fun _ _ => rfl, fun _ _ => rfl⟩
theorem FK.trans {μ μ1 μ2 : MSt} (h : FK μ μ1) (h2 : FK μ1 μ2) : FK μ μ2 := ⟨fun r hr => (h2.1 r hr).trans (h.1 r hr), fun j hj => (h2.2 j hj).trans (h.2 j hj)⟩
theorem FK.m (μ : MSt) (j : Nat) (v : Int32) (h : 18 < j ∧ j < 23) : FK μ (mI μ 0 j v) := ⟨fun r hr => m_Ir _ _ _ _ hr, fun i hi => by rw [m_I, if_neg (by omega)]⟩
def q_SG (s c : Int32) : Prop := (s = 40 ∧ c = 59) ∨ (s = 41 ∧ c = 40) ∨ (s = 42 ∧ c = 41) ∨ (s = 43 ∧ c = 43) ∨ (s = 44 ∧ c = 45) ∨ (s = 45 ∧ c = 42) ∨ (s = 46 ∧ c = 47) ∨ (s = 47 ∧ c = 60) ∨ (s = 48 ∧ c = 256) ∨ (s = 49 ∧ c = 61) ∨ (s = 50 ∧ c = 257) ∨ (s = 51 ∧ c = 258) ∨ (s = 52 ∧ c = 62)
def q_TR (s v so va : Int32) : Prop := (s = 1 ∧ so = 5) ∨ (s = 2 ∧ so = 1 ∧ va = v) ∨ (s = 3 ∧ so = 2 ∧ q_NV v va) ∨ (∃ w, w < 22 ∧ s = nI (10 + w) ∧ so = 0 ∧ va = nI w) ∨ (q_SG s va ∧ so = 3)
def q_AT (μ : MSt) (p e : Nat) (so va : Int32) : Prop := μ.1 0 20 = nI p ∧ μ.1 0 19 = nI e ∧ μ.1 0 21 = so ∧ μ.1 0 22 = va
section
variable {N : Nat} {μ : MSt}
theorem s_X12_here (hN : N ≤ 700) (a : Nat) (ha : a ≤ N) (h18 : μ.1 0 18 = nI N) (h19 : μ.1 0 19 = nI a) : f_X12_here μ = some (if a < N then μ.1 1 a else -1, μ) := by
  unfold f_X12_here f_X12_here_b24
  rw [h18, h19]
  by_cases c : a < N
  · rw [if_neg (nI_ge c (by omega)), e_ck (q_kin (by omega)), nI_clamp (by omega), if_pos c]
  · rw [if_pos (nI_le (by omega) (by omega)), if_neg c]
theorem q_ltr_n1 : q_ltr (-1) = false := by decide
theorem q_dgt_n1 : q_dgt (-1) = false := by decide
/-- the six places of a name -/
theorem s_X12_name_l (p e : Nat) (hpe : p ≤ e) (h6 : e - p ≤ 6) (he : e ≤ 700) (hl : ∀ i, p ≤ i → i < e → q_ltr (μ.1 1 i) = true) : ∀ (m n k : Nat) (μ1 : MSt), k + m = 6 → m < n → FK μ μ1 → μ1.1 0 20 = nI p → μ1.1 0 19 = nI e → μ1.1 0 22 = nI (q_nf (fun i => q_lc (μ.1 1 (p + i))) (e - p) k) → ∃ μ', f_X12_name_b7 n (nI k) μ1 = some μ' ∧ μ'.1 0 22 = nI (q_nf (fun i => q_lc (μ.1 1 (p + i))) (e - p) 6) ∧ (∀ r, r ≠ 0 → μ'.1 r = μ1.1 r) ∧ (∀ j, j ≠ 22 → μ'.1 0 j = μ1.1 0 j) := by
  intro m
  induction m with
  | zero =>
    intro n k μ1 h1 h2 fk h20 h19 h22
    obtain ⟨n, rfl⟩ : ∃ z, n = z + 1 := ⟨n - 1, by omega⟩
    have hk : k = 6 := by omega
    subst hk
    exact ⟨μ1, rfl, h22, fun _ _ => rfl, fun _ _ => rfl⟩
  | succ m ih =>
    intro n k μ1 h1 h2 fk h20 h19 h22
    obtain ⟨n, rfl⟩ : ∃ z, n = z + 1 := ⟨n - 1, by omega⟩
    have nb := q_nf_b (fun i => q_lc (μ.1 1 (p + i))) (e - p) (fun i hi => by have := (q_lc_b (hl (p + i) (by omega) (by omega))).2.1; omega) k
    have hp5 : 32 ^ k ≤ 33554432 := by
      have := Nat.pow_le_pow_right (show 0 < 32 by omega) (show k ≤ 5 by omega)
      simpa using this
    have sh : nI (q_nf (fun i => q_lc (μ.1 1 (p + i))) (e - p) k) <<< ((5 : Int32) &&& 31) = nI (q_nf (fun i => q_lc (μ.1 1 (p + i))) (e - p) k * 2 ^ 5) := pk_shlN _ 5 (by decide) (by omega)
    have go : ∀ c : Nat, c < 32 → c = (if k < e - p then q_lc (μ.1 1 (p + k)) else 0) → ∃ μ', f_X12_name_b53 (f_X12_name_b7 n) (nI k) (μ1.1 0 22 <<< ((5 : Int32) &&& 31)) (nI c) μ1 = some μ' ∧ μ'.1 0 22 = nI (q_nf (fun i => q_lc (μ.1 1 (p + i))) (e - p) 6) ∧ (∀ r, r ≠ 0 → μ'.1 r = μ1.1 r) ∧ (∀ j, j ≠ 22 → μ'.1 0 j = μ1.1 0 j) := by
      intro c hc ec
      unfold f_X12_name_b53
      have eo : q_nf (fun i => q_lc (μ.1 1 (p + i))) (e - p) k * 2 ^ 5 ||| c = q_nf (fun i => q_lc (μ.1 1 (p + i))) (e - p) (k + 1) := by
        have := Nat.shiftLeft_add_eq_or_of_lt (i := 5) (b := c) (by omega) (q_nf (fun i => q_lc (μ.1 1 (p + i))) (e - p) k)
        rw [Nat.shiftLeft_eq] at this
        rw [← this]
        show _ = 32 * q_nf (fun i => q_lc (μ.1 1 (p + i))) (e - p) k + (if k < e - p then q_lc (μ.1 1 (p + k)) else 0)
        rw [← ec]
        omega
      rw [h22, sh, q_nI_or (by omega) (by omega), eo, e_nm, e_nm, nI_1]
      obtain ⟨μ', y1, y2, y3, y4⟩ := ih n (k + 1) (mI μ1 0 22 (nI (q_nf (fun i => q_lc (μ.1 1 (p + i))) (e - p) (k + 1)))) (by omega) (by omega) (fk.trans (FK.m _ _ _ (by omega))) (by rw [m_I, if_neg (by omega)]; exact h20) (by rw [m_I, if_neg (by omega)]; exact h19) (by rw [m_I]; simp)
      exact ⟨μ', y1, y2, fun r hr => by rw [y3 r hr, m_Ir _ _ _ _ hr], fun j hj => by rw [y4 j hj, m_I, if_neg (by omega)]⟩
    show ∃ μ', f_X12_name_b7_s (f_X12_name_b7 n) (nI k) μ1 = some μ' ∧ _
    unfold f_X12_name_b7_s
    rw [if_neg (show ¬ (6 : Int32) ≤ nI k from nI_ge (a := k) (b := 6) (by omega) (by decide)), h20, h19, nI_add]
    by_cases c : p + k < e
    · obtain ⟨b1, b2, b3⟩ := q_lc_b (hl (p + k) (by omega) c)
      rw [if_neg (nI_ge c (by omega)), e_ck (q_kin (by omega)), nI_clamp (by omega), fk.1 1 (by omega), b3]
      exact go _ (by omega) (by rw [if_pos (by omega)])
    · rw [if_pos (nI_le (by omega) (by omega))]
      exact go 0 (by omega) (by rw [if_neg (by omega)])
/-- letters -/
theorem s_tok_word (hN : N ≤ 700) (p e : Nat) (hR : q_RUN q_ltr (μ.1 1) N p e) : ∀ (m n j : Nat) (μ1 : MSt), p + j + m = e → m < n → FK μ μ1 → μ1.1 0 18 = nI N → μ1.1 0 20 = nI p → μ1.1 0 19 = nI (p + j) → ∃ μ' so va, f_X12_token_b64 n μ1 = some μ' ∧ q_AT μ' p e so va ∧ FK μ μ' ∧ (∀ s v, ((6 < e - p ∧ s = 1 ∧ v = 0) ∨ (e - p ≤ 6 ∧ v = q_pk (μ.1 1) p (e - p) ∧ s = (if q_fw (μ.1 1) p e q_wt 0 = -1 then 2 else 10 + q_fw (μ.1 1) p e q_wt 0))) → q_TR s v so va) := by
  obtain ⟨r1, r2, r3, r4⟩ := hR
  intro m
  induction m with
  | zero =>
    intro n j μ1 h1 h2 fk h18 h20 h19
    obtain ⟨n, rfl⟩ : ∃ z, n = z + 1 := ⟨n - 1, by omega⟩
    have ej : p + j = e := by omega
    rw [ej] at h19
    have e1 : μ1.1 1 = μ.1 1 := fk.1 1 (by omega)
    have nl : q_ltr (if e < N then μ1.1 1 e else -1) = false := by
      by_cases c : e < N
      · rw [if_pos c, e1]; exact r4 c
      · rw [if_neg c]; exact q_ltr_n1
    show ∃ μ' so va, f_X12_token_b64_s (f_X12_token_b64 n) μ1 = some μ' ∧ _
    unfold f_X12_token_b64_s f_X12_token_b127 f_X12_token_b225
    rw [s_X12_here hN e (by omega) h18 h19, e_bdS, s_X12_isSmall, e_bdS, nl, if_pos q_if0, s_X12_word h20 h19 (by omega) (by omega), e_bdS, e_nm, e1]
    have v22 : (mI μ1 0 22 (q_fw (μ.1 1) p e q_wt 0)).1 0 22 = q_fw (μ.1 1) p e q_wt 0 := by simp [m_I]
    have v19 : (mI μ1 0 22 (q_fw (μ.1 1) p e q_wt 0)).1 0 19 = nI e := by rw [m_I, if_neg (by omega)]; exact h19
    have v20 : (mI μ1 0 22 (q_fw (μ.1 1) p e q_wt 0)).1 0 20 = nI p := by rw [m_I, if_neg (by omega)]; exact h20
    have fk2 : FK μ (mI μ1 0 22 (q_fw (μ.1 1) p e q_wt 0)) := fk.trans (FK.m _ _ _ (by omega))
    rw [v22, v19, v20, pk_sub (by omega)]
    generalize mI μ1 0 22 (q_fw (μ.1 1) p e q_wt 0) = μ2 at *
    have rd : ∀ y, (mI μ2 0 21 y).1 0 21 = y := fun y => by simp [m_I]
    have ro : ∀ y j, j ≠ 21 → (mI μ2 0 21 y).1 0 j = μ2.1 0 j := fun y j hj => by rw [m_I, if_neg (by omega)]
    simp only [e_nm, rd]
    by_cases c : q_fw (μ.1 1) p e q_wt 0 = -1
    · rw [if_pos c]
      by_cases c6 : e - p ≤ 6
      · rw [if_pos (show nI (e - p) ≤ (6 : Int32) from nI_le (a := e - p) (b := 6) c6 (by decide)), if_pos trivial]
        have fk3 : FK μ (mI (mI μ2 0 21 1) 0 22 0) := (fk2.trans (FK.m _ _ _ (by omega))).trans (FK.m _ _ _ (by omega))
        obtain ⟨μ', y1, y2, y3, y4⟩ := s_X12_name_l p e (by omega) c6 (by omega) r3 6 FU 0 (mI (mI μ2 0 21 1) 0 22 0) (by omega) (by unfold FU; omega) fk3 (by rw [m_I, if_neg (by omega), ro _ _ (by omega)]; exact v20) (by rw [m_I, if_neg (by omega), ro _ _ (by omega)]; exact v19) (by rw [m_I]; simp; rfl)
        have y1' : f_X12_name (mI μ2 0 21 1) = some μ' := by
          unfold f_X12_name
          rw [e_nm]
          exact y1
        rw [y1', e_bvS]
        refine ⟨μ', 1, _, rfl, ⟨by rw [y4 20 (by omega), m_I, if_neg (by omega), ro _ _ (by omega)]; exact v20, by rw [y4 19 (by omega), m_I, if_neg (by omega), ro _ _ (by omega)]; exact v19, by rw [y4 21 (by omega), m_I, if_neg (by omega)]; exact rd 1, rfl⟩, ⟨fun r hr => by rw [y3 r hr]; exact fk3.1 r hr, fun j hj => by rw [y4 j (by omega)]; exact fk3.2 j hj⟩, fun s v hs => ?_⟩
        rcases hs with ⟨q, -⟩ | ⟨-, q2, q3⟩
        · omega
        · rw [if_pos c] at q3
          exact Or.inr (Or.inl ⟨q3, rfl, by rw [y2, q2, q_pk_6 (μ.1 1) p (e - p) c6 (fun i hi => r3 (p + i) (by omega) (by omega))]⟩)
      · rw [if_neg (show ¬ nI (e - p) ≤ (6 : Int32) from nI_ge (a := 6) (b := e - p) (by omega) (by omega)), if_neg (by decide)]
        refine ⟨_, 5, _, rfl, ⟨by rw [ro _ _ (by omega)]; exact v20, by rw [ro _ _ (by omega)]; exact v19, rd 5, rfl⟩, fk2.trans (FK.m _ _ _ (by omega)), fun s v hs => ?_⟩
        rcases hs with ⟨-, q, -⟩ | ⟨q, -, -⟩
        · exact Or.inl ⟨q, rfl⟩
        · omega
    · rw [if_neg c, if_neg (by decide)]
      refine ⟨_, 0, _, rfl, ⟨by rw [ro _ _ (by omega)]; exact v20, by rw [ro _ _ (by omega)]; exact v19, rd 0, rfl⟩, fk2.trans (FK.m _ _ _ (by omega)), fun s v hs => ?_⟩
      rcases q_fw_b (μ.1 1) p e q_wt 0 with q | ⟨w, -, hw, ew⟩
      · exact absurd q c
      · have hw22 : w < 22 := by
          have h22 : q_wt.length = 22 := by decide
          omega
        rcases hs with ⟨hl, -, -⟩ | ⟨-, q2, q3⟩
        · exfalso
          -- a word of the language has six letters at most
          have : ∀ (t : List (List Nat)) (w0 : Nat), q_pc t w0 = true → q_fw (μ.1 1) p e t w0 = -1 ∨ e - p ≤ 6 := by
            intro t
            induction t with
            | nil => intro w0 _; exact Or.inl rfl
            | cons cs t ih =>
              intro w0 h
              unfold q_pc at h
              simp only [Bool.and_eq_true, decide_eq_true_eq] at h
              obtain ⟨⟨-, -, g3, -⟩, g5⟩ := h
              unfold q_fw
              by_cases z : q_mt (μ.1 1) p e cs 0 = true
              · right
                have := (q_mt_to (μ.1 1) p e cs 0 z).1
                omega
              · rw [if_neg z]; exact ih (w0 + 1) g5
          rcases this q_wt 0 q_pc_all with z | z
          · exact c z
          · omega
        · rw [if_neg c, ew, show (10 : Int32) = nI 10 from rfl, nI_add] at q3
          exact Or.inr (Or.inr (Or.inr (Or.inl ⟨w, hw22, q3, rfl, by rw [ro _ _ (by omega), v22, ew]⟩)))
  | succ m ih =>
    intro n j μ1 h1 h2 fk h18 h20 h19
    obtain ⟨n, rfl⟩ : ∃ z, n = z + 1 := ⟨n - 1, by omega⟩
    have e1 : μ1.1 1 = μ.1 1 := fk.1 1 (by omega)
    show ∃ μ' so va, f_X12_token_b64_s (f_X12_token_b64 n) μ1 = some μ' ∧ _
    unfold f_X12_token_b64_s
    rw [s_X12_here hN (p + j) (by omega) h18 h19, e_bdS, if_pos (by omega), s_X12_isSmall, e_bdS, e1, r3 (p + j) (by omega) (by omega), if_pos rfl, if_neg q_t10, h19, nI_1, e_nm]
    exact ih n (j + 1) (mI μ1 0 19 (nI (p + j + 1))) (by omega) (by omega) (fk.trans (FK.m _ _ _ (by omega))) (by rw [m_I, if_neg (by omega)]; exact h18) (by rw [m_I, if_neg (by omega)]; exact h20) (by rw [m_I, if_pos ⟨rfl, rfl⟩, Nat.add_assoc])
/-- digits -/
theorem s_tok_num (hN : N ≤ 700) (p e : Nat) (hR : q_RUN q_dgt (μ.1 1) N p e) : ∀ (m n j : Nat) (μ1 : MSt), p + j + m = e → m < n → FK μ μ1 → μ1.1 0 18 = nI N → μ1.1 0 20 = nI p → μ1.1 0 21 = 2 → μ1.1 0 19 = nI (p + j) → μ1.1 0 22 = q_nv (μ.1 1) p j → ∃ μ', f_X12_token_b162 n μ1 = some μ' ∧ q_AT μ' p e 2 (q_nv (μ.1 1) p (e - p)) ∧ FK μ μ' := by
  obtain ⟨r1, r2, r3, r4⟩ := hR
  intro m
  induction m with
  | zero =>
    intro n j μ1 h1 h2 fk h18 h20 h21 h19 h22
    obtain ⟨n, rfl⟩ : ∃ z, n = z + 1 := ⟨n - 1, by omega⟩
    have ej : p + j = e := by omega
    rw [ej] at h19
    have e1 : μ1.1 1 = μ.1 1 := fk.1 1 (by omega)
    have nl : q_dgt (if e < N then μ1.1 1 e else -1) = false := by
      by_cases c : e < N
      · rw [if_pos c, e1]; exact r4 c
      · rw [if_neg c]; exact q_dgt_n1
    show ∃ μ', f_X12_token_b162_s (f_X12_token_b162 n) μ1 = some μ' ∧ _
    unfold f_X12_token_b162_s f_X12_token_b225
    rw [s_X12_here hN e (by omega) h18 h19, e_bdS, s_X12_isDigit, e_bdS, nl, if_pos q_if0]
    exact ⟨μ1, rfl, ⟨h20, h19, h21, by rw [h22, show e - p = j by omega]⟩, fk⟩
  | succ m ih =>
    intro n j μ1 h1 h2 fk h18 h20 h21 h19 h22
    obtain ⟨n, rfl⟩ : ∃ z, n = z + 1 := ⟨n - 1, by omega⟩
    have e1 : μ1.1 1 = μ.1 1 := fk.1 1 (by omega)
    show ∃ μ', f_X12_token_b162_s (f_X12_token_b162 n) μ1 = some μ' ∧ _
    unfold f_X12_token_b162_s f_X12_token_b204
    have hx : p + j < N := by omega
    rw [s_X12_here hN (p + j) (by omega) h18 h19, e_bdS, if_pos hx, s_X12_isDigit, e_bdS, e1, r3 (p + j) (by omega) (by omega), if_pos rfl, if_neg q_t10, s_X12_here hN (p + j) (by omega) h18 h19, e_bdS, if_pos hx, e1, h22]
    simp only [e_nm]
    have nx : ∀ v, v = q_nv (μ.1 1) p (j + 1) → ∃ μ', f_X12_token_b162 n (mI (mI μ1 0 22 v) 0 19 ((mI μ1 0 22 v).1 0 19 + 1)) = some μ' ∧ q_AT μ' p e 2 (q_nv (μ.1 1) p (e - p)) ∧ FK μ μ' := by
      intro v hv
      have e19 : (mI μ1 0 22 v).1 0 19 = nI (p + j) := by rw [m_I, if_neg (by omega)]; exact h19
      rw [e19, nI_1]
      exact ih n (j + 1) (mI (mI μ1 0 22 v) 0 19 (nI (p + j + 1))) (by omega) (by omega) ((fk.trans (FK.m _ _ _ (by omega))).trans (FK.m _ _ _ (by omega))) (by simp [m_I]; exact h18) (by simp [m_I]; exact h20) (by simp [m_I]; exact h21) (by simp [m_I]; rfl) (by simp [m_I]; exact hv)
    have ev : q_nv (μ.1 1) p (j + 1) = if q_nv (μ.1 1) p j ≤ 99999 then (10 * q_nv (μ.1 1) p j + μ.1 1 (p + j)) - 48 else q_nv (μ.1 1) p j := rfl
    by_cases c : q_nv (μ.1 1) p j ≤ 99999
    · rw [if_pos c]
      rw [if_pos c] at ev
      exact nx _ ev.symm
    · rw [if_neg c]
      rw [if_neg c] at ev
      exact nx _ ev.symm
end
