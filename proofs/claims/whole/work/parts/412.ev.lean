/-- a knot: sort and value in the class, sort and value in the reference -/
def q_KN (s v s' v' : Int32) : Prop := (s = 3 ∧ s' = 0 ∧ v' = v) ∨ (∃ j, j < 7 ∧ s = nI (25 + j) ∧ s' = 1 ∧ v' = nI j) ∨ (s = 24 ∧ s' = 2 ∧ v' = 260) ∨ (q_BIN s v' ∧ s' = 2)
/-- 0 a number or a name, 1 not, 2 a sign of two sides -/
def q_kd (s : Int32) : Nat := if s = 3 ∨ (25 ≤ s ∧ s ≤ 31) then 0 else if s = 24 then 1 else 2
def q_wf (ks : Nat → Int32) : Nat → Nat → Nat → Prop
  | 0, _, d => d = 1
  | k + 1, i, d => if q_kd (ks i) = 0 then q_wf ks k (i + 1) (d + 1) else if q_kd (ks i) = 1 then 1 ≤ d ∧ q_wf ks k (i + 1) d else 2 ≤ d ∧ q_wf ks k (i + 1) (d - 1)
def q_opd (ks kv : Nat → Int32) (env : Nat → Int64) (i : Nat) : Int64 := if ks i = 3 then (kv i).toInt64 else env ((ks i).toNatClampNeg - 25)
def q_evl (ks kv : Nat → Int32) (env : Nat → Int64) : Nat → Nat → Nat → (Nat → Int64) → Option (Nat → Int64)
  | 0, _, _, S => some S
  | k + 1, i, d, S => if q_kd (ks i) = 0 then q_evl ks kv env k (i + 1) (d + 1) (vp_updL S d (q_opd ks kv env i)) else if q_kd (ks i) = 1 then q_evl ks kv env k (i + 1) d (vp_updL S (d - 1) (if S (d - 1) = 0 then 1 else 0)) else
      match q_bin (ks i) (S (d - 2)) (S (d - 1)) with
      | none => none
      | some v => q_evl ks kv env k (i + 1) (d - 1) (vp_updL S (d - 2) v)
theorem q_upL (S : Nat → Int64) (k : Nat) (x : Int64) (j : Nat) : vp_updL S k x j = if j = k then x else S j := rfl
theorem q_BIN_kd {s c : Int32} (h : q_BIN s c) : q_kd s = 2 ∧ ¬ s = 24 ∧ ¬ s = 3 ∧ (s < 25 ∨ 31 < s) ∧ ¬ c = 260 := by
  rcases h with ⟨rfl, rfl⟩ | ⟨rfl, rfl⟩ | ⟨rfl, rfl⟩ | ⟨rfl, rfl⟩ | ⟨rfl, rfl⟩ | ⟨rfl, rfl⟩ | ⟨rfl, rfl⟩ | ⟨rfl, rfl⟩ | ⟨rfl, rfl⟩ | ⟨rfl, rfl⟩ | ⟨rfl, rfl⟩ | ⟨rfl, rfl⟩ <;> decide
def q_env (σ : MSt) (o1 : Nat) (j : Nat) : Int64 := if j = 0 then (σ.1 o1 0).toInt64 else if j = 1 then (σ.1 o1 3).toInt64 else if j = 2 then (σ.1 o1 1).toInt64 else if j = 3 then (σ.1 o1 5).toInt64 else if j = 4 then (σ.1 o1 4).toInt64 else if j = 5 then (σ.1 o1 7).toInt64 else (σ.1 o1 6).toInt64
theorem s_X8_valueOf (o1 j : Nat) (hj : j < 7) (σ : MSt) : f_X8_valueOf o1 (nI (25 + j)) σ = some (q_env σ o1 j, σ) := by
  have h : j = 0 ∨ j = 1 ∨ j = 2 ∨ j = 3 ∨ j = 4 ∨ j = 5 ∨ j = 6 := by omega
  rcases h with rfl | rfl | rfl | rfl | rfl | rfl | rfl <;> rfl
theorem q_env_bd (σ : MSt) (o1 j : Nat) : q_bd (q_env σ o1 j) := by
  unfold q_env
  repeat' split
  all_goals exact q_bd_int _
theorem q_nm_kd (j : Nat) (hj : j < 7) : q_kd (nI (25 + j)) = 0 ∧ ¬ nI (25 + j) = 24 ∧ ¬ nI (25 + j) = 3 ∧ ¬ nI (25 + j) < 25 ∧ ¬ 31 < nI (25 + j) ∧ (nI (25 + j)).toNatClampNeg - 25 = j := by
  have h : j = 0 ∨ j = 1 ∨ j = 2 ∨ j = 3 ∨ j = 4 ∨ j = 5 ∨ j = 6 := by omega
  rcases h with rfl | rfl | rfl | rfl | rfl | rfl | rfl <;> decide
def q_out (o : Option (Nat → Int64)) : Int64 := match o with
  | none => -9223372036854775808
  | some S => S 0
set_option maxHeartbeats 1000000 in
theorem s_X4_worth_l (o1 r : Nat) (hr : r < 3) (to : Nat) (ht : to ≤ 64) : ∀ (k n i d : Nat) (S : Nat → Int64) (σ : MSt), to = i + k → k < n → σ.1 21 r = nI to → (∀ j, j < to → ∃ a b, q_KN (σ.1 18 j) (σ.1 19 j) a b) → q_wf (σ.1 18) k i d → d ≤ i → (∀ j, j < d → σ.2 22 j = S j ∧ q_bd (S j)) →
    ∃ σ', f_X4_worth_b38 17 o1 n (nI r) (nI d) (nI i) σ = some (q_out (q_evl (σ.1 18) (σ.1 19) (q_env σ o1) k i d S), σ') ∧ FS σ σ' ∧ (∀ S', q_evl (σ.1 18) (σ.1 19) (q_env σ o1) k i d S = some S' → q_bd (S' 0)) := by
  have hkr : k_inb (nI r) 3 = true := e_in hr (by decide)
  intro k
  induction k with
  | zero =>
    intro n i d S σ h1 h2 hto hkn hwf hd hst
    obtain ⟨n, rfl⟩ : ∃ z, n = z + 1 := ⟨n - 1, by omega⟩
    have hd1 : d = 1 := hwf
    subst hd1
    show ∃ σ', f_X4_worth_b38_s 17 o1 (f_X4_worth_b38 17 o1 n) (nI r) (nI 1) (nI i) σ = some (S 0, σ') ∧ _
    unfold f_X4_worth_b38_s f_X4_worth_b226
    rw [e_ck hkr, nI_clamp (by omega), show σ.1 (17 + 4) r = nI to from hto, if_pos (nI_le (by omega) (by omega)), e_ck (by decide), c_0, (hst 0 (by omega)).1]
    exact ⟨σ, rfl, FS.rf, fun S' e => by cases e; exact (hst 0 (by omega)).2⟩
  | succ k ih =>
    intro n i d S σ h1 h2 hto hkn hwf hd hst
    obtain ⟨n, rfl⟩ : ∃ z, n = z + 1 := ⟨n - 1, by omega⟩
    have hi64 : k_inb (nI i) 64 = true := e_in (by omega) (by decide)
    have hdd : k_inb (nI d) 64 = true := e_in (by omega) (by decide)
    show ∃ σ', f_X4_worth_b38_s 17 o1 (f_X4_worth_b38 17 o1 n) (nI r) (nI d) (nI i) σ = some (_, σ') ∧ _
    unfold f_X4_worth_b38_s
    rw [e_ck hkr, nI_clamp (show r < 2 ^ 31 by omega), show σ.1 (17 + 4) r = nI to from hto, if_neg (nI_ge (show i < to by omega) (by omega)), if_neg (show ¬ (64 : Int32) ≤ nI i from nI_ge (a := i) (b := 64) (by omega) (by decide)), e_ck hi64, e_nm, nI_clamp (show i < 2 ^ 31 by omega)]
    have r18 : σ.1 (17 + 1) i = σ.1 18 i := rfl
    rw [r18]
    have stp : ∀ (d' : Nat) (S' : Nat → Int64) (σ1 : MSt), FS σ σ1 → q_wf (σ.1 18) k (i + 1) d' → d' ≤ i + 1 → (∀ j, j < d' → σ1.2 22 j = S' j ∧ q_bd (S' j)) →
        ∃ σ', f_X4_worth_b220 17 o1 (f_X4_worth_b38 17 o1 n) (nI r) (nI d') (nI i) σ1 = some (q_out (q_evl (σ.1 18) (σ.1 19) (q_env σ o1) k (i + 1) d' S'), σ') ∧ FS σ σ' ∧ (∀ S'', q_evl (σ.1 18) (σ.1 19) (q_env σ o1) k (i + 1) d' S' = some S'' → q_bd (S'' 0)) := by
      intro d' S' σ1 hf hw' hd' hst'
      unfold f_X4_worth_b220
      rw [e_nm, nI_1]
      have e18 : σ1.1 18 = σ.1 18 := by rw [hf.1]
      have e19 : σ1.1 19 = σ.1 19 := by rw [hf.1]
      have ee : q_env σ1 o1 = q_env σ o1 := by funext j; unfold q_env; rw [hf.1]
      obtain ⟨σ', q1, q2, q3⟩ := ih n (i + 1) d' S' σ1 (by omega) (by omega) (by rw [hf.1]; exact hto) (by rw [e18, e19]; exact hkn) (by rw [e18]; exact hw') hd' hst'
      rw [e18, e19, ee] at q1 q3
      exact ⟨σ', q1, hf.trans q2, q3⟩
    unfold q_wf at hwf
    unfold q_evl
    obtain ⟨a, b, hk⟩ := hkn i (by omega)
    rcases hk with ⟨hs, -, -⟩ | ⟨j, hj, hs, -, -⟩ | ⟨hs, -, -⟩ | ⟨hb, -⟩
    · have kd : q_kd (σ.1 18 i) = 0 := by rw [hs]; decide
      rw [if_pos kd] at hwf ⊢
      rw [if_neg (by rw [hs]; decide)]
      unfold f_X4_worth_b105 f_X4_worth_b125
      rw [if_pos hs, if_neg (show ¬ (64 : Int32) ≤ nI d from nI_ge (a := d) (b := 64) (by omega) (by decide)), if_pos hs, e_ck hi64, nI_clamp (show i < 2 ^ 31 by omega)]
      unfold f_X4_worth_b159
      rw [e_ck hdd, e_nm, e_nm, nI_clamp (show d < 2 ^ 31 by omega), nI_1]
      have eo : q_opd (σ.1 18) (σ.1 19) (q_env σ o1) i = (σ.1 19 i).toInt64 := by unfold q_opd; rw [if_pos hs]
      rw [eo]
      refine stp (d + 1) _ _ (FS.mJ σ d _) hwf (by omega) (fun j hj => ?_)
      rw [q_upL]
      by_cases c : j = d
      · rw [if_pos c, c]
        exact ⟨m_Js _ _ _ _, q_bd_int _⟩
      · rw [if_neg c]
        exact ⟨by rw [show (17 + 5) = 22 from rfl, m_Jn _ _ _ _ c]; exact (hst j (by omega)).1, (hst j (by omega)).2⟩
    · obtain ⟨n1, n2, n3, n4, n5, n6⟩ := q_nm_kd j hj
      rw [← hs] at n1 n2 n3 n4 n5 n6
      rw [if_pos n1] at hwf ⊢
      rw [if_neg n2]
      unfold f_X4_worth_b105 f_X4_worth_b125
      rw [if_neg n3, if_neg n4, if_neg n5, if_neg (show ¬ (64 : Int32) ≤ nI d from nI_ge (a := d) (b := 64) (by omega) (by decide)), if_neg n3, hs, s_X8_valueOf o1 j hj, e_blS]
      unfold f_X4_worth_b159
      rw [e_ck hdd, e_nm, e_nm, nI_clamp (show d < 2 ^ 31 by omega), nI_1]
      have eo : q_opd (σ.1 18) (σ.1 19) (q_env σ o1) i = q_env σ o1 j := by unfold q_opd; rw [if_neg n3, n6]
      rw [eo]
      refine stp (d + 1) _ _ (FS.mJ σ d _) hwf (by omega) (fun j' hj' => ?_)
      rw [q_upL]
      by_cases c : j' = d
      · rw [if_pos c, c]
        exact ⟨m_Js _ _ _ _, q_env_bd _ _ _⟩
      · rw [if_neg c]
        exact ⟨by rw [show (17 + 5) = 22 from rfl, m_Jn _ _ _ _ c]; exact (hst j' (by omega)).1, (hst j' (by omega)).2⟩
    · have kd : q_kd (σ.1 18 i) = 1 := by rw [hs]; decide
      have kd0 : ¬ q_kd (σ.1 18 i) = 0 := by omega
      rw [if_neg kd0, if_pos kd] at hwf ⊢
      obtain ⟨hd1, hwf⟩ := hwf
      obtain ⟨d, rfl⟩ : ∃ z, d = z + 1 := ⟨d - 1, by omega⟩
      have hdm : k_inb (nI d) 64 = true := e_in (by omega) (by decide)
      rw [if_pos hs, if_neg (nI_nle (by omega) (by omega)), nI_pred, e_ck hdm, nI_clamp (show d < 2 ^ 31 by omega), show σ.2 (17 + 5) d = S d from (hst d (by omega)).1]
      simp only [lg_cmp_eq]
      have hsub : d + 1 - 1 = d := by omega
      rw [hsub]
      have fin : ∀ v, q_bd v → ∃ σ', f_X4_worth_b101 17 o1 (f_X4_worth_b38 17 o1 n) (nI r) (nI (d + 1)) (nI i) (nI d) v σ = some (q_out (q_evl (σ.1 18) (σ.1 19) (q_env σ o1) k (i + 1) (d + 1) (vp_updL S d v)), σ') ∧ FS σ σ' ∧ (∀ S'', q_evl (σ.1 18) (σ.1 19) (q_env σ o1) k (i + 1) (d + 1) (vp_updL S d v) = some S'' → q_bd (S'' 0)) := by
        intro v hv
        unfold f_X4_worth_b101
        rw [e_ck hdm, e_nm, nI_clamp (show d < 2 ^ 31 by omega)]
        refine stp (d + 1) _ _ (FS.mJ σ d _) hwf (by omega) (fun j hj => ?_)
        rw [q_upL]
        by_cases c : j = d
        · rw [if_pos c, c]
          exact ⟨m_Js _ _ _ _, hv⟩
        · rw [if_neg c]
          exact ⟨by rw [show (17 + 5) = 22 from rfl, m_Jn _ _ _ _ c]; exact (hst j (by omega)).1, (hst j (by omega)).2⟩
      by_cases c : S d = 0
      · rw [if_pos c, if_pos c]; exact fin 1 q_bd_1
      · rw [if_neg c, if_neg c]; exact fin 0 q_bd_0
    · obtain ⟨kd, h24, h3, hrg, -⟩ := q_BIN_kd hb
      have kd0 : ¬ q_kd (σ.1 18 i) = 0 := by omega
      have kd1 : ¬ q_kd (σ.1 18 i) = 1 := by omega
      rw [if_neg kd0, if_neg kd1] at hwf ⊢
      obtain ⟨hd1, hwf⟩ := hwf
      obtain ⟨d, rfl⟩ : ∃ z, d = z + 2 := ⟨d - 2, by omega⟩
      have hd0 : k_inb (nI d) 64 = true := e_in (by omega) (by decide)
      have hdm : k_inb (nI (d + 1)) 64 = true := e_in (by omega) (by decide)
      rw [if_neg h24]
      have to166 : f_X4_worth_b105 17 o1 (f_X4_worth_b38 17 o1 n) (nI r) (nI (d + 2)) (nI i) (σ.1 18 i) σ = f_X4_worth_b166 17 o1 (f_X4_worth_b38 17 o1 n) (nI r) (nI (d + 2)) (nI i) (σ.1 18 i) σ := by
        unfold f_X4_worth_b105
        rw [if_neg h3]
        by_cases c : σ.1 18 i < 25
        · rw [if_pos c]
        · rw [if_neg c, if_pos (by rcases hrg with q | q; exact absurd q c; exact q)]
      rw [to166]
      unfold f_X4_worth_b166
      rw [if_neg (show ¬ nI (d + 2) ≤ (1 : Int32) from nI_ge (a := 1) (b := d + 2) (by omega) (by omega)), e_nm, pk_m1, nI_pred]
      simp only [e_ck hd0, e_ck hdm, e_nm, nI_clamp (show d < 2 ^ 31 by omega), nI_clamp (show d + 1 < 2 ^ 31 by omega)]
      rw [show σ.2 (17 + 5) d = S d from (hst d (by omega)).1, show σ.2 (17 + 5) (d + 1) = S (d + 1) from (hst (d + 1) (by omega)).1, s_X4_join hb, e_blS, m_Js]
      simp only [lg_cmp_eq]
      have s2 : d + 2 - 2 = d := by omega
      have s1 : d + 2 - 1 = d + 1 := by omega
      rw [s1] at hwf
      rw [s2, s1]
      cases hq : q_bin (σ.1 18 i) (S d) (S (d + 1)) with
      | none =>
        rw [if_pos (show (none : Option Int64).getD (-9223372036854775808) = -9223372036854775808 from rfl)]
        exact ⟨_, rfl, FS.mJ σ d _, fun S' e => by cases e⟩
      | some v =>
        have hv : q_bd v := q_bin_bd hb (hst d (by omega)).2 hq
        rw [show (some v).getD (-9223372036854775808) = v from rfl, if_neg (q_bd_ne hv)]
        refine stp (d + 1) _ _ (FS.mJ σ d _) hwf (by omega) (fun j hj => ?_)
        rw [q_upL]
        by_cases c : j = d
        · rw [if_pos c, c]
          exact ⟨m_Js _ _ _ _, hv⟩
        · rw [if_neg c]
          exact ⟨by rw [show (17 + 5) = 22 from rfl, m_Jn _ _ _ _ c]; exact (hst j (by omega)).1, (hst j (by omega)).2⟩
set_option maxHeartbeats 1000000 in
theorem s_X12_goes_l (ks kv : Nat → Int32) (env : Nat → Int64) (r : Nat) (hr : r < 3) (to : Nat) (ht : to ≤ 64) (henv : ∀ j, q_bd (env j)) : ∀ (k n i d : Nat) (S : Nat → Int64) (μ : MSt), to = i + k → k < n → μ.1 12 r = nI to → (∀ j, j < to → q_KN (ks j) (kv j) (μ.1 13 j) (μ.1 14 j)) → (∀ j, j < 7 → μ.2 15 j = env j) → q_wf ks k i d → d ≤ i → μ.1 0 31 = nI d → (∀ j, j < d → μ.2 16 j = S j ∧ q_bd (S j)) →
    ∃ μ', f_X12_goes_b12 n (nI r) (nI i) μ = some (if q_evl ks kv env k i d S = none then 0 else 1, μ') ∧ FM μ μ' ∧ (∀ S', q_evl ks kv env k i d S = some S' → μ'.2 16 0 = S' 0 ∧ q_bd (S' 0)) := by
  have hkr : k_inb (nI r) 6 = true := e_in (by omega) (by decide)
  intro k
  induction k with
  | zero =>
    intro n i d S μ h1 h2 hto hkn he hwf hd h31 hst
    obtain ⟨n, rfl⟩ : ∃ z, n = z + 1 := ⟨n - 1, by omega⟩
    have hd1 : d = 1 := hwf
    subst hd1
    show ∃ μ', f_X12_goes_b12_s (f_X12_goes_b12 n) (nI r) (nI i) μ = some (1, μ') ∧ _
    unfold f_X12_goes_b12_s
    rw [e_ck hkr, nI_clamp (by omega), hto, if_pos (nI_le (by omega) (by omega))]
    exact ⟨μ, rfl, FM.rf, fun S' e => by cases e; exact hst 0 (by omega)⟩
  | succ k ih =>
    intro n i d S μ h1 h2 hto hkn he hwf hd h31 hst
    obtain ⟨n, rfl⟩ : ∃ z, n = z + 1 := ⟨n - 1, by omega⟩
    have hi64 : k_inb (nI i) 128 = true := e_in (by omega) (by decide)
    have hdd : k_inb (nI d) 64 = true := e_in (by omega) (by decide)
    show ∃ μ', f_X12_goes_b12_s (f_X12_goes_b12 n) (nI r) (nI i) μ = some (_, μ') ∧ _
    unfold f_X12_goes_b12_s
    simp only [e_ck hkr, e_ck hi64, nI_clamp (show r < 2 ^ 31 by omega), nI_clamp (show i < 2 ^ 31 by omega)]
    rw [hto, if_neg (nI_ge (show i < to by omega) (by omega))]
    have stp : ∀ (d' : Nat) (S' : Nat → Int64) (μ1 : MSt), FM μ μ1 → (∀ j, j < 7 → μ1.2 15 j = env j) → μ1.1 0 31 = nI d' → q_wf ks k (i + 1) d' → d' ≤ i + 1 → (∀ j, j < d' → μ1.2 16 j = S' j ∧ q_bd (S' j)) →
        ∃ μ', f_X12_goes_b96 (f_X12_goes_b12 n) (nI r) (nI i) μ1 = some (if q_evl ks kv env k (i + 1) d' S' = none then 0 else 1, μ') ∧ FM μ μ' ∧ (∀ S'', q_evl ks kv env k (i + 1) d' S' = some S'' → μ'.2 16 0 = S'' 0 ∧ q_bd (S'' 0)) := by
      intro d' S' μ1 hf he' h31' hw' hd' hst'
      unfold f_X12_goes_b96
      rw [e_nm, nI_1]
      obtain ⟨μ', q1, q2, q3⟩ := ih n (i + 1) d' S' μ1 (by omega) (by omega) (by rw [hf.1 12 (by decide)]; exact hto) (by rw [hf.1 13 (by decide), hf.1 14 (by decide)]; exact hkn) he' hw' hd' h31' hst'
      exact ⟨μ', q1, hf.trans q2, q3⟩
    have push : ∀ v, q_bd v → q_wf ks k (i + 1) (d + 1) → ∃ μ', f_X12_goes_b85 (f_X12_goes_b12 n) (nI r) (nI i) (nI d) v μ = some (if q_evl ks kv env k (i + 1) (d + 1) (vp_updL S d v) = none then 0 else 1, μ') ∧ FM μ μ' ∧ (∀ S'', q_evl ks kv env k (i + 1) (d + 1) (vp_updL S d v) = some S'' → μ'.2 16 0 = S'' 0 ∧ q_bd (S'' 0)) := by
      intro v hv hw'
      unfold f_X12_goes_b85
      rw [e_ck hdd, e_nm, e_nm, nI_clamp (show d < 2 ^ 31 by omega), m_J1, h31, nI_1]
      refine stp (d + 1) _ _ ((FM.mJ _ _ _ _).trans (FM.m31 _ _)) (fun j hj => ?_) (by rw [m_I]; simp) hw' (by omega) (fun j hj => ?_)
      · rw [m_I2, m_Jr _ _ _ _ (by decide)]; exact he j hj
      · rw [q_upL, m_I2]
        by_cases c : j = d
        · rw [if_pos c, c]
          exact ⟨m_Js _ _ _ _, hv⟩
        · rw [if_neg c]
          exact ⟨by rw [m_Jn _ _ _ _ c]; exact (hst j (by omega)).1, (hst j (by omega)).2⟩
    unfold q_wf at hwf
    unfold q_evl
    rcases hkn i (by omega) with ⟨hs, ha, hb⟩ | ⟨j, hj, hs, ha, hb⟩ | ⟨hs, ha, hb⟩ | ⟨hb, ha⟩
    · have kd : q_kd (ks i) = 0 := by rw [hs]; decide
      rw [if_pos kd] at hwf ⊢
      have eo : q_opd ks kv env i = (kv i).toInt64 := by unfold q_opd; rw [if_pos hs]
      rw [eo, ha, if_neg (by decide), if_pos rfl, hb, h31]
      exact push _ (q_bd_int _) hwf
    · obtain ⟨n1, n2, n3, n4, n5, n6⟩ := q_nm_kd j hj
      rw [← hs] at n1 n2 n3 n4 n5 n6
      rw [if_pos n1] at hwf ⊢
      have eo : q_opd ks kv env i = env j := by unfold q_opd; rw [if_neg n3, n6]
      rw [eo, ha, if_neg (by decide), if_neg (by decide), hb, e_ck (e_in hj (by decide)), nI_clamp (show j < 2 ^ 31 by omega), he j hj, h31]
      exact push _ (henv _) hwf
    · have kd : q_kd (ks i) = 1 := by rw [hs]; decide
      have kd0 : ¬ q_kd (ks i) = 0 := by omega
      rw [if_neg kd0, if_pos kd] at hwf ⊢
      obtain ⟨hd1, hwf⟩ := hwf
      obtain ⟨d, rfl⟩ : ∃ z, d = z + 1 := ⟨d - 1, by omega⟩
      have hdm : k_inb (nI d) 64 = true := e_in (by omega) (by decide)
      have hsub : d + 1 - 1 = d := by omega
      rw [ha, if_pos rfl, hb, hsub]
      have hw : f_X12_works 260 μ = some (1, mJ μ 16 d (if S d = 0 then 1 else 0)) := by
        unfold f_X12_works f_X12_works_b40
        simp only [h31, nI_pred, e_ck hdm, e_nm, nI_clamp (show d < 2 ^ 31 by omega), (hst d (by omega)).1, q_is_works, e_blS, lg_cmp_eq]
        by_cases c : S d = 0 <;> simp [c]
      rw [hw, e_bdS, if_neg (by decide)]
      refine stp (d + 1) _ _ (FM.mJ _ _ _ _) (fun j hj => ?_) h31 hwf (by omega) (fun j hj => ?_)
      · rw [m_Jr _ _ _ _ (by decide)]; exact he j hj
      · rw [q_upL]
        by_cases c : j = d
        · rw [if_pos c, c]
          exact ⟨m_Js _ _ _ _, q_bd_if2⟩
        · rw [if_neg c]
          exact ⟨by rw [m_Jn _ _ _ _ c]; exact (hst j (by omega)).1, (hst j (by omega)).2⟩
    · obtain ⟨kd, h24, h3, hrg, -⟩ := q_BIN_kd hb
      have kd0 : ¬ q_kd (ks i) = 0 := by omega
      have kd1 : ¬ q_kd (ks i) = 1 := by omega
      rw [if_neg kd0, if_neg kd1] at hwf ⊢
      obtain ⟨hd1, hwf⟩ := hwf
      obtain ⟨d, rfl⟩ : ∃ z, d = z + 2 := ⟨d - 2, by omega⟩
      have s2 : d + 2 - 2 = d := by omega
      have s1 : d + 2 - 1 = d + 1 := by omega
      rw [s1] at hwf
      rw [s2, s1, ha, if_pos rfl]
      have hS := s_X12_works hb d (by omega) μ h31 (by rw [(hst d (by omega)).1]; exact (hst d (by omega)).2)
      rw [(hst d (by omega)).1, (hst (d + 1) (by omega)).1] at hS
      rcases hS with ⟨v, q1, q2⟩ | ⟨q1, μ', q2, q3⟩
      · rw [q1, q2, e_bdS, if_neg (by decide)]
        refine stp (d + 1) _ _ ((FM.m31 _ _).trans (FM.mJ _ _ _ _)) (fun j hj => ?_) (by rw [m_J1, m_I]; simp) hwf (by omega) (fun j hj => ?_)
        · rw [m_Jr _ _ _ _ (by decide)]; exact he j hj
        · rw [q_upL]
          by_cases c : j = d
          · rw [if_pos c, c]
            exact ⟨m_Js _ _ _ _, q_bin_bd hb (hst d (by omega)).2 q1⟩
          · rw [if_neg c]
            exact ⟨by rw [m_Jn _ _ _ _ c]; exact (hst j (by omega)).1, (hst j (by omega)).2⟩
      · rw [q1, q2, e_bdS, if_pos rfl]
        exact ⟨μ', rfl, q3, fun S' e => by cases e⟩
