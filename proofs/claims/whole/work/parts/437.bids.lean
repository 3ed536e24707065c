/-! the reference's queue -/
def q_nn (v : Nat → Int32) (c : Nat) : Bool := decide (¬ v c = -1)
def q_QI (nb : Nat) (aj : Nat → Nat → Prop) (st n k c : Nat) (v q : Nat → Int32) (bq lq : Nat → Nat) : Prop :=
  (n = q_ctb (q_nn v) nb) ∧ (∀ i, i < n → bq i < nb ∧ q i = nI (bq i) ∧ v (bq i) = nI (lq i) ∧ lq i ≤ i) ∧
  (∀ i j, i ≤ j → j < n → lq i ≤ lq j) ∧ (k < n → ∀ j, j < n → lq j ≤ lq k + 1) ∧
  (∀ b, b < nb → v b = -1 ∨ ∃ i, i < n ∧ bq i = b) ∧
  (∀ i, i < k → i < n → ∀ y, y < nb → aj (bq i) y → ∃ m', m' ≤ lq i + 1 ∧ v y = nI m') ∧
  (k < n → ∀ y, y < c → y < nb → aj (bq k) y → ∃ m', m' ≤ lq k + 1 ∧ v y = nI m') ∧
  v st = nI 0 ∧ (∀ x, x < nb → v x = nI 0 → x = st) ∧ (∀ x, x < nb → ∀ m, m < 100 → v x = nI (m + 1) → ∃ b, b < nb ∧ aj b x ∧ v b = nI m)
theorem q_QI.skip {nb st n k c : Nat} {aj : Nat → Nat → Prop} {v q : Nat → Int32} {bq lq : Nat → Nat} (h : q_QI nb aj st n k c v q bq lq) (hk : k < n) (hc : c < nb) (hs : ¬ (v c = -1 ∧ aj (bq k) c)) : q_QI nb aj st n k (c + 1) v q bq lq := by
  obtain ⟨h1, h2, h3, h4, h5, h6, h7, h8, h9, h10⟩ := h
  refine ⟨h1, h2, h3, h4, h5, h6, fun _ y hy hyn a => ?_, h8, h9, h10⟩
  by_cases e : y = c
  · subst e
    rcases h5 y hyn with z | ⟨i, hi, z⟩
    · exact absurd ⟨z, a⟩ hs
    · subst z
      exact ⟨lq i, h4 hk i hi, (h2 i hi).2.2.1⟩
  · exact h7 hk y (by omega) hyn a
theorem q_QI.push {nb st n k c : Nat} {aj : Nat → Nat → Prop} {v q : Nat → Int32} {bq lq : Nat → Nat} (hnb : nb ≤ 8) (hst : st < nb) (h : q_QI nb aj st n k c v q bq lq) (hk : k < n) (hc : c < nb) (hv : v c = -1) (ha : aj (bq k) c) : n < nb ∧ q_QI nb aj st (n + 1) k (c + 1) (upd v c (nI (lq k + 1))) (upd q n (nI c)) (fun i => if i = n then c else bq i) (fun i => if i = n then lq k + 1 else lq i) := by
  obtain ⟨h1, h2, h3, h4, h5, h6, h7, h8, h9, h10⟩ := h
  have hct : q_ctb (q_nn (upd v c (nI (lq k + 1)))) nb = n + 1 := by
    rw [q_ctb_up (p := q_nn v) c (by unfold q_nn; exact decide_eq_false (fun z => z hv)) (by unfold q_nn; rw [pk_us]; exact decide_eq_true (q_n1 (by have := (h2 k hk).2.2.2; have := q_ctb_le (q_nn v) nb; omega))) (fun i hi => by unfold q_nn; rw [pk_un hi]) nb, if_pos hc, ← h1]
  have hn : n < nb := by
    have := q_ctb_le (q_nn (upd v c (nI (lq k + 1)))) nb
    omega
  have lk : lq k ≤ k := (h2 k hk).2.2.2
  have nc : ∀ x m, m < 2 ^ 31 → v x = nI m → x ≠ c := fun x m hm e z => by subst z; rw [hv] at e; exact q_n1 hm e.symm
  have lqb : ∀ i, i < n → lq i < 2 ^ 31 := fun i hi => by have := (h2 i hi).2.2.2; omega
  have nbq : ∀ i, i < n → bq i ≠ c := fun i hi => nc _ (lq i) (lqb i hi) (h2 i hi).2.2.1
  refine ⟨hn, hct.symm, fun i hi => ?_, fun i j hij hj => ?_, fun _ j hj => ?_, fun b hb => ?_, fun i hi hin y hy a => ?_, fun _ y hy hyn a => ?_, ?_, fun x hx e => ?_, fun x hx m hm e => ?_⟩
  · by_cases e : i = n
    · subst e
      simp only [if_true]
      exact ⟨hc, pk_us, pk_us, by omega⟩
    · have hi' : i < n := by omega
      simp only [if_neg e]
      exact ⟨(h2 i hi').1, by rw [pk_un e]; exact (h2 i hi').2.1, by rw [pk_un (nbq i hi')]; exact (h2 i hi').2.2.1, (h2 i hi').2.2.2⟩
  · by_cases ej : j = n
    · by_cases ei : i = n
      · simp only [if_pos ej, if_pos ei]; omega
      · simp only [if_pos ej, if_neg ei]; exact h4 hk i (by omega)
    · have ei : ¬ i = n := by omega
      simp only [if_neg ej, if_neg ei]; exact h3 i j hij (by omega)
  · have ek : ¬ k = n := by omega
    simp only [if_neg ek]
    by_cases ej : j = n
    · simp only [if_pos ej]; omega
    · simp only [if_neg ej]; exact h4 hk j (by omega)
  · by_cases e : b = c
    · right; exact ⟨n, by omega, by simp only [if_true]; exact e.symm⟩
    · rcases h5 b hb with z | ⟨i, hi, z⟩
      · left; rw [pk_un e]; exact z
      · right
        have : ¬ i = n := by omega
        exact ⟨i, by omega, by simp only [if_neg this]; exact z⟩
  · have ei : ¬ i = n := by omega
    simp only [if_neg ei] at a ⊢
    obtain ⟨m', g1, g2⟩ := h6 i hi (by omega) y hy a
    exact ⟨m', g1, by rw [pk_un (nc y m' (by have := lqb i (by omega); have := (h2 i (by omega)).2.2.2; omega) g2)]; exact g2⟩
  · have ek : ¬ k = n := by omega
    simp only [if_neg ek] at a ⊢
    by_cases e : y = c
    · subst e; exact ⟨lq k + 1, by omega, pk_us⟩
    · obtain ⟨m', g1, g2⟩ := h7 hk y (by omega) hyn a
      exact ⟨m', g1, by rw [pk_un e]; exact g2⟩
  · rw [pk_un (nc st 0 (by omega) h8)]; exact h8
  · by_cases z : x = c
    · subst z
      rw [pk_us] at e
      have := (nI_eq (a := lq k + 1) (b := 0) (by omega) (by omega)).mp e
      omega
    · rw [pk_un z] at e; exact h9 x hx e
  · by_cases z : x = c
    · subst z
      rw [pk_us] at e
      have := (nI_eq (by omega) (by omega)).mp e
      have : m = lq k := by omega
      subst this
      exact ⟨bq k, (h2 k hk).1, ha, by rw [pk_un (nbq k hk)]; exact (h2 k hk).2.2.1⟩
    · rw [pk_un z] at e
      obtain ⟨b, hb, g1, g2⟩ := h10 x hx m hm e
      exact ⟨b, hb, g1, by rw [pk_un (nc b m (by omega) g2)]; exact g2⟩
section
variable {nb nl nd nw nk : Nat} {R : Nat → Nat → Int32}
theorem q_bfs_i (st k : Nat) (hst : st < nb) (r39 : Int32 → Int32 → MSt → Option MSt) : ∀ (j f n c : Nat) (μ : MSt) (bq lq : Nat → Nat), c + j = nb → j < f → k < n → q_TX nb nl nd nw nk R μ.1 → q_QI nb (q_aj R) st n k c (μ.1 31) (μ.1 32) bq lq → ∃ n' μ' bq' lq', f_X12_layLanes_b47 r39 f (nI n) (nI k) (nI c) μ = r39 (nI n') (nI (k + 1)) μ' ∧ n ≤ n' ∧ q_QI nb (q_aj R) st n' k nb (μ'.1 31) (μ'.1 32) bq' lq' ∧ (∀ r, r ≠ 31 → r ≠ 32 → μ'.1 r = μ.1 r) := by
  intro j
  induction j with
  | zero =>
    intro f n c μ bq lq h1 h2 hk T Q
    obtain ⟨f, rfl⟩ : ∃ z, f = z + 1 := ⟨f - 1, by omega⟩
    have l := T.le.1
    have hc : c = nb := by omega
    subst hc
    refine ⟨n, μ, bq, lq, ?_, by omega, Q, fun _ _ _ => rfl⟩
    show f_X12_layLanes_b47_s r39 (f_X12_layLanes_b47 r39 f) (nI n) (nI k) (nI c) μ = _
    unfold f_X12_layLanes_b47_s
    rw [e_ck q_i18, c_0, T.nbM, if_pos (nI_le (by omega) (by omega)), e_nm, nI_1]
  | succ j ih =>
    intro f n c μ bq lq h1 h2 hk T Q
    obtain ⟨f, rfl⟩ : ∃ z, f = z + 1 := ⟨f - 1, by omega⟩
    have l := T.le.1
    have hct := q_ctb_le (q_nn (μ.1 31)) nb
    have hn : n ≤ nb := by rw [Q.1]; exact hct
    have kc : k_inb (nI c) 8 = true := e_in (by omega) (by decide)
    have kk : k_inb (nI k) 8 = true := e_in (by omega) (by decide)
    obtain ⟨b1, b2, b3, b4⟩ := Q.2.1 k hk
    have kb : k_inb (nI (bq k)) 8 = true := e_in (by omega) (by decide)
    obtain ⟨le, ln, hln, eln⟩ := T.lane (bq k) c b1 (by omega)
    show ∃ n' μ' bq' lq', f_X12_layLanes_b47_s r39 (f_X12_layLanes_b47 r39 f) (nI n) (nI k) (nI c) μ = _ ∧ _
    unfold f_X12_layLanes_b47_s f_X12_layLanes_b118
    rw [e_ck q_i18, c_0, T.nbM, if_neg (nI_ge (by omega) (by omega))]
    simp only [e_ck kc, e_ck kk, e_nm, nI_clamp (show c < 2 ^ 31 by omega), nI_clamp (show k < 2 ^ 31 by omega), nI_1]
    have skip : ¬ (μ.1 31 c = -1 ∧ q_aj R (bq k) c) → ∃ n' μ' bq' lq', f_X12_layLanes_b47 r39 f (nI n) (nI k) (nI (c + 1)) μ = r39 (nI n') (nI (k + 1)) μ' ∧ n ≤ n' ∧ q_QI nb (q_aj R) st n' k nb (μ'.1 31) (μ'.1 32) bq' lq' ∧ (∀ r, r ≠ 31 → r ≠ 32 → μ'.1 r = μ.1 r) := fun no => ih f n (c + 1) μ bq lq (by omega) (by omega) hk T (Q.skip hk (by omega) no)
    by_cases c1 : μ.1 31 c = -1
    · rw [if_pos c1, b2, s_X12_laneOf (nI (bq k)) (nI c) μ nl T.nlM T.le.2.1, e_bdS, ← le]
      by_cases c2 : R 12 (bq k * 8 + c) = 0
      · rw [if_pos c2]; exact skip (fun q => q.2 c2)
      · rw [if_neg c2, b2, e_ck kb, nI_clamp (by omega), b3, nI_1]
        obtain ⟨hn2, Q2⟩ := Q.push l hst hk (by omega) c1 c2
        have kn : k_inb (nI n) 8 = true := e_in (by omega) (by decide)
        rw [e_ck kn, nI_clamp (by omega)]
        have e31 : (mI (mI μ 31 c (nI (lq k + 1))) 32 n (nI c)).1 31 = upd (μ.1 31) c (nI (lq k + 1)) := by rw [m_Ir _ _ _ _ (by omega), q_row]
        have e32 : (mI (mI μ 31 c (nI (lq k + 1))) 32 n (nI c)).1 32 = upd (μ.1 32) n (nI c) := by rw [q_row, m_Ir _ _ _ _ (by omega)]
        have er : ∀ r, r ≠ 31 → r ≠ 32 → (mI (mI μ 31 c (nI (lq k + 1))) 32 n (nI c)).1 r = μ.1 r := fun r h1 h2 => by rw [m_Ir _ _ _ _ h2, m_Ir _ _ _ _ h1]
        obtain ⟨n', μ', bq', lq', y1, y2, y3, y4⟩ := ih f (n + 1) (c + 1) (mI (mI μ 31 c (nI (lq k + 1))) 32 n (nI c)) _ _ (by omega) (by omega) (by omega) (T.eq (fun _ _ _ => rfl) (fun r _ _ => er r (by omega) (by omega))) (by rw [e31, e32]; exact Q2)
        exact ⟨n', μ', bq', lq', y1, by omega, y3, fun r h1 h2 => by rw [y4 r h1 h2, er r h1 h2]⟩
    · rw [if_neg c1]
      exact skip (fun q => c1 q.1)
theorem q_bfs_o (st : Nat) (hst : st < nb) : ∀ (j f n k : Nat) (μ : MSt) (bq lq : Nat → Nat), nb ≤ k + j → k ≤ n → j < f → q_TX nb nl nd nw nk R μ.1 → q_QI nb (q_aj R) st n k 0 (μ.1 31) (μ.1 32) bq lq → ∃ μ', f_X12_layLanes_b39 f (nI n) (nI k) μ = some μ' ∧ q_LV nb (q_aj R) st (μ'.1 31) ∧ (∀ r, r ≠ 31 → r ≠ 32 → μ'.1 r = μ.1 r) := by
  intro j
  induction j with
  | zero =>
    intro f n k μ bq lq h1 h0 h2 T Q
    obtain ⟨f, rfl⟩ : ∃ z, f = z + 1 := ⟨f - 1, by omega⟩
    have l := T.le.1
    have hct := q_ctb_le (q_nn (μ.1 31)) nb
    have hn : n ≤ nb := by rw [Q.1]; exact hct
    have e : n = k := by omega
    subst e
    refine ⟨μ, ?_, ?_, fun _ _ _ => rfl⟩
    · show f_X12_layLanes_b39_s (f_X12_layLanes_b39 f) (nI n) (nI n) μ = _
      unfold f_X12_layLanes_b39_s
      rw [if_pos (nI_le (by omega) (by omega))]
    · obtain ⟨g1, g2, g3, g4, g5, g6, g7, g8, g9, g10⟩ := Q
      refine ⟨fun c hc => ?_, g8, g9, fun b c hb hc a m hm e => ?_, fun c hc m hm e => g10 c hc m (by omega) e⟩
      · rcases g5 c hc with z | ⟨i, hi, z⟩
        · exact Or.inl z
        · subst z; exact Or.inr ⟨lq i, by have := (g2 i hi).2.2.2; omega, (g2 i hi).2.2.1⟩
      · rcases g5 b hb with z | ⟨i, hi, z⟩
        · rw [z] at e; exact absurd e.symm (q_n1 (by omega))
        · subst z
          have hl := (g2 i hi).2.2.2
          have em : m = lq i := by
            have := (g2 i hi).2.2.1
            rw [e] at this
            exact (nI_eq (by omega) (by omega)).mp this
          subst em
          obtain ⟨m', q1, q2⟩ := g6 i hi hi c hc a
          exact ⟨m', q1, by omega, q2⟩
  | succ j ih =>
    intro f n k μ bq lq h1 h0 h2 T Q
    obtain ⟨f, rfl⟩ : ∃ z, f = z + 1 := ⟨f - 1, by omega⟩
    have l := T.le.1
    have hct := q_ctb_le (q_nn (μ.1 31)) nb
    have hn : n ≤ nb := by rw [Q.1]; exact hct
    by_cases c : n ≤ k
    · have e : n = k := by omega
      subst e
      refine ⟨μ, ?_, ?_, fun _ _ _ => rfl⟩
      · show f_X12_layLanes_b39_s (f_X12_layLanes_b39 f) (nI n) (nI n) μ = _
        unfold f_X12_layLanes_b39_s
        rw [if_pos (nI_le (by omega) (by omega))]
      · obtain ⟨g1, g2, g3, g4, g5, g6, g7, g8, g9, g10⟩ := Q
        refine ⟨fun c hc => ?_, g8, g9, fun b c hb hc a m hm e => ?_, fun c hc m hm e => g10 c hc m (by omega) e⟩
        · rcases g5 c hc with z | ⟨i, hi, z⟩
          · exact Or.inl z
          · subst z; exact Or.inr ⟨lq i, by have := (g2 i hi).2.2.2; omega, (g2 i hi).2.2.1⟩
        · rcases g5 b hb with z | ⟨i, hi, z⟩
          · rw [z] at e; exact absurd e.symm (q_n1 (by omega))
          · subst z
            have hl := (g2 i hi).2.2.2
            have em : m = lq i := by
              have := (g2 i hi).2.2.1
              rw [e] at this
              exact (nI_eq (by omega) (by omega)).mp this
            subst em
            obtain ⟨m', q1, q2⟩ := g6 i hi hi c hc a
            exact ⟨m', q1, by omega, q2⟩
    · obtain ⟨n', μ1, bq', lq', y1, y2, y3, y4⟩ := q_bfs_i st k hst (f_X12_layLanes_b39 f) nb FU n 0 μ bq lq (by omega) (by unfold FU; omega) (by omega) T Q
      have y1' : f_X12_layLanes_b47 (f_X12_layLanes_b39 f) FU (nI n) (nI k) 0 μ = _ := y1
      show ∃ μ', f_X12_layLanes_b39_s (f_X12_layLanes_b39 f) (nI n) (nI k) μ = _ ∧ _
      unfold f_X12_layLanes_b39_s
      rw [if_neg (nI_ge (by omega) (by omega)), y1']
      have Q2 : q_QI nb (q_aj R) st n' (k + 1) 0 (μ1.1 31) (μ1.1 32) bq' lq' := by
        obtain ⟨g1, g2, g3, g4, g5, g6, g7, g8, g9, g10⟩ := y3
        refine ⟨g1, g2, g3, fun hk j hj => ?_, g5, fun i hi hin y hy a => ?_, fun _ y hy => by omega, g8, g9, g10⟩
        · have := g4 (by omega) j hj
          have := g3 k (k + 1) (by omega) hk
          omega
        · by_cases e : i = k
          · subst e; exact g7 hin y hy hy a
          · exact g6 i (by omega) hin y hy a
      obtain ⟨μ', z1, z2, z3⟩ := ih f n' (k + 1) μ1 bq' lq' (by omega) (by omega) (by omega) (T.eq (fun _ _ _ => rfl) (fun r _ _ => y4 r (by omega) (by omega))) Q2
      exact ⟨μ', z1, z2, fun r h1 h2 => by rw [z3 r h1 h2, y4 r h1 h2]⟩
theorem q_bfs_0 (st : Nat) (hst : st < 8) : ∀ (j f i : Nat) (μ : MSt), i + j = 8 → j < f → ∃ μ', f_X12_layLanes_b2 f (nI st) (nI i) μ = f_X12_layLanes_b39 FU 1 0 (mI (mI μ' 31 st 0) 32 0 (nI st)) ∧ (∀ c, c < 8 → i ≤ c → μ'.1 31 c = -1) ∧ (∀ c, c < i → μ'.1 31 c = μ.1 31 c) ∧ (∀ r, r ≠ 31 → μ'.1 r = μ.1 r) := by
  intro j
  induction j with
  | zero =>
    intro f i μ h1 h2
    obtain ⟨f, rfl⟩ : ∃ z, f = z + 1 := ⟨f - 1, by omega⟩
    have hi : i = 8 := by omega
    subst hi
    have ks : k_inb (nI st) 8 = true := e_in hst (by decide)
    refine ⟨μ, ?_, fun c a b => by omega, fun _ _ => rfl, fun _ _ => rfl⟩
    show f_X12_layLanes_b2_s (f_X12_layLanes_b2 f) (nI st) (nI 8) μ = _
    unfold f_X12_layLanes_b2_s
    rw [if_pos (show (8 : Int32) ≤ nI 8 by decide), e_ck ks, e_nm, e_ck (by decide), e_nm, nI_clamp (by omega), c_0]
  | succ j ih =>
    intro f i μ h1 h2
    obtain ⟨f, rfl⟩ : ∃ z, f = z + 1 := ⟨f - 1, by omega⟩
    have ki : k_inb (nI i) 8 = true := e_in (by omega) (by decide)
    show ∃ μ', f_X12_layLanes_b2_s (f_X12_layLanes_b2 f) (nI st) (nI i) μ = _ ∧ _
    unfold f_X12_layLanes_b2_s
    rw [if_neg (show ¬ (8 : Int32) ≤ nI i from nI_ge (a := i) (b := 8) (by omega) (by decide)), e_ck ki, e_nm, e_nm, nI_1, nI_clamp (by omega)]
    obtain ⟨μ', y1, y2, y3, y4⟩ := ih f (i + 1) (mI μ 31 i (-1)) (by omega) (by omega)
    refine ⟨μ', y1, fun c a b => ?_, fun c hc => by rw [y3 c (by omega), m_I, if_neg (by omega)], fun r hr => by rw [y4 r hr, m_Ir _ _ _ _ hr]⟩
    by_cases e : c = i
    · subst e; rw [y3 c (by omega), m_I]; simp
    · exact y2 c a (by omega)
theorem q_lanesM (μ : MSt) (T : q_TX nb nl nd nw nk R μ.1) (st : Nat) (hst : st < nb) : ∃ μ', f_X12_layLanes (nI st) μ = some μ' ∧ q_LV nb (q_aj R) st (μ'.1 31) ∧ (∀ r, r ≠ 31 → r ≠ 32 → μ'.1 r = μ.1 r) := by
  have l := T.le.1
  obtain ⟨μ1, y1, y2, y3, y4⟩ := q_bfs_0 st (by omega) 8 FU 0 μ (by omega) (by unfold FU; omega)
  have y1' : f_X12_layLanes (nI st) μ = _ := y1
  have er : ∀ r, r ≠ 31 → r ≠ 32 → (mI (mI μ1 31 st 0) 32 0 (nI st)).1 r = μ.1 r := fun r h1 h2 => by rw [m_Ir _ _ _ _ h2, m_Ir _ _ _ _ h1, y4 r h1]
  have e31 : ∀ c, (mI (mI μ1 31 st 0) 32 0 (nI st)).1 31 c = if c = st then 0 else μ1.1 31 c := fun c => by rw [m_Ir _ _ _ _ (by omega), m_I]; simp
  have e32 : (mI (mI μ1 31 st 0) 32 0 (nI st)).1 32 0 = nI st := by rw [m_I]; simp
  generalize mI (mI μ1 31 st 0) 32 0 (nI st) = μ2 at *
  have v1 : ∀ c, c < nb → ¬ c = st → μ2.1 31 c = -1 := fun c hc hne => by rw [e31, if_neg hne]; exact y2 c (by omega) (by omega)
  have v0 : μ2.1 31 st = nI 0 := by rw [e31, if_pos rfl]; rfl
  have Q : q_QI nb (q_aj R) st 1 0 0 (μ2.1 31) (μ2.1 32) (fun _ => st) (fun _ => 0) := by
    refine ⟨?_, fun i hi => ?_, fun _ _ _ _ => Nat.le_refl 0, fun _ j hj => Nat.zero_le _, fun b hb => ?_, fun i hi => by omega, fun _ y hy => by omega, v0, fun x hx e => ?_, fun x hx m hm e => ?_⟩
    · have h0 : ∀ n, n ≤ nb → q_ctb (q_nn (fun _ => (-1 : Int32))) n = 0 := by
        intro n
        induction n with
        | zero => intro _; rfl
        | succ n ih => intro hn; show q_ctb _ n + (if q_nn (fun _ => (-1 : Int32)) n then 1 else 0) = 0; rw [ih (by omega)]; rfl
      have h1 : q_ctb (q_nn (fun c => if c = st then (0 : Int32) else -1)) nb = 0 + 1 := by
        rw [q_ctb_up (p := q_nn (fun _ => (-1 : Int32))) st rfl (by unfold q_nn; simp) (fun i hi => by unfold q_nn; simp [hi]) nb, h0 nb (by omega), if_pos hst]
      have h2 : ∀ n, n ≤ nb → q_ctb (q_nn (μ2.1 31)) n = q_ctb (q_nn (fun c => if c = st then (0 : Int32) else -1)) n := by
        intro n
        induction n with
        | zero => intro _; rfl
        | succ n ih =>
          intro hn
          show q_ctb (q_nn (μ2.1 31)) n + (if q_nn (μ2.1 31) n then 1 else 0) = q_ctb _ n + (if q_nn (fun c => if c = st then (0 : Int32) else -1) n then 1 else 0)
          have : q_nn (μ2.1 31) n = q_nn (fun c => if c = st then (0 : Int32) else -1) n := by
            unfold q_nn
            by_cases z : n = st
            · simp only [if_pos z]; rw [z, v0]; rfl
            · rw [v1 n (by omega) z]; simp [z]
          rw [ih (by omega), this]
      rw [h2 nb (by omega), h1]
    · have : i = 0 := by omega
      subst this
      exact ⟨hst, e32, v0, Nat.le_refl 0⟩
    · by_cases z : b = st
      · exact Or.inr ⟨0, by omega, z.symm⟩
      · exact Or.inl (v1 b hb z)
    · by_cases z : x = st
      · exact z
      · rw [v1 x hx z] at e; exact absurd e.symm (q_n1 (by omega))
    · by_cases z : x = st
      · subst z
        rw [v0] at e
        have := (nI_eq (by omega) (by omega)).mp e
        omega
      · rw [v1 x hx z] at e; exact absurd e.symm (q_n1 (by omega))
  obtain ⟨μ', z1, z2, z3⟩ := q_bfs_o st hst nb FU 1 0 μ2 _ _ (by omega) (by omega) (by unfold FU; omega) (T.eq (fun _ _ _ => rfl) (fun r _ _ => er r (by omega) (by omega))) Q
  have z1' : f_X12_layLanes_b39 FU 1 0 μ2 = some μ' := z1
  exact ⟨μ', by rw [y1', z1'], z2, fun r h1 h2 => by rw [z3 r h1 h2, er r h1 h2]⟩
end
section
variable {nb nl nd nw nk dn : Nat}
theorem q_bid {σ0 σ μ : MSt} (hdn : dn ≤ 9900) (T : q_TX nb nl nd nw nk σ0.1 μ.1) (A : q_A nb dn 50 σ0 0 μ.1) (hr : q_rest μ.1) (fl : FL σ0 σ) (b : Nat) (hb : b < nb) (h75 : σ.1 75 b = μ.1 31 b) : ∃ v σ' μ', f_X11_bidOf (nI b) σ = some (v, σ') ∧ FO 70 σ σ' ∧ FM μ μ' ∧ (∀ r61 x1 x2 x3, (k_ck (k_inb (0 : Int32) 24) <| k_bv (f_X12_foresees 0 (nI b) (μ.1 17 ((0 : Int32)).toNatClampNeg) (-1) μ) fun σ1 => k_ck (k_inb (nI b) 8) <| if (σ1.1 31 (nI b).toNatClampNeg) = (-1 : Int32) then (f_X12_bids_b139 r61 x1 x2 x3 (nI b) 0 σ1) else (k_ck (k_inb (0 : Int32) 24) <| k_bd (f_X12_moodBy (σ1.1 0 51) (σ1.1 0 52) (σ1.1 0 53) (σ1.1 17 ((0 : Int32)).toNatClampNeg) 0 σ1) fun q3 σ2 => k_ck (k_inb (nI b) 8) <| f_X12_bids_b139 r61 x1 x2 x3 (nI b) (k_max (0 : Int32) (q3 - ((10 : Int32) * (σ2.1 31 (nI b).toNatClampNeg)))) σ2)) = f_X12_bids_b139 r61 x1 x2 x3 (nI b) v μ') := by
  have l := T.le.1
  have kb : k_inb (nI b) 8 = true := e_in (by omega) (by decide)
  have k0 : k_inb (0 : Int32) 24 = true := by decide
  have T1 : q_TX nb nl nd nw nk σ.1 μ.1 := T.fr fl FX.rf
  have A1 : q_A nb dn 50 σ 0 μ.1 := A.fr fl FX.rf
  obtain ⟨μ1, r1, r2, r3⟩ := s_X12_foresees T1 A1 hr b dn (by omega) (-1)
  rw [if_pos rfl] at r2
  have e31 : μ1.1 31 b = σ.1 75 b := by rw [r3.1 31 (by omega), h75]
  simp only [e_ck kb, e_ck k0, c_0, nI_clamp (show b < 2 ^ 31 by omega)]
  unfold f_X11_bidOf
  rw [e_ck kb, e_nm, nI_clamp (by omega), A1.1.1, A1.1.2]
  by_cases c : σ.1 75 b = -1
  · rw [if_pos c]
    refine ⟨_, _, μ1, rfl, FO.rf, r3, fun r61 x1 x2 x3 => ?_⟩
    rw [r1, e_bvS, e31, if_pos c]
  · rw [if_neg c]
    obtain ⟨σ1, p1, p2⟩ := s_X3_moodOf T1 b dn (by omega) (by omega)
    have tb := q_tri_b T1 A1 (by omega) b dn (by omega) _ (Or.inl rfl)
    generalize ht : q_fse σ.1 nd b dn (q_tri σ.1 b) = t at p1 r2 tb
    have e1 : μ1.1 0 51 = t.1 := by rw [← r2]
    have e2 : μ1.1 0 52 = t.2.1 := by rw [← r2]
    have e3 : μ1.1 0 53 = t.2.2 := by rw [← r2]
    have hT : q_TL σ.1 μ1.1 := q_TL_eq T1.law rfl rfl rfl rfl (r3.1 11 (by decide)) (r3.1 12 (by decide)) (r3.1 13 (by decide)) (r3.1 14 (by decide))
    obtain ⟨μ2, w1, w2⟩ := s_X12_moodBy σ.1 t.1 t.2.1 t.2.2 dn (by omega) 0 μ1 nw (by rw [r3.1 2 (by decide)]; exact T1.nwM) T1.le.2.2.2.1 hT tb.1 tb.2
    rw [p1, e_bdS]
    refine ⟨_, σ1, μ2, rfl, p2, r3.trans w2, fun r61 x1 x2 x3 => ?_⟩
    have e17 : μ1.1 17 0 = nI dn := by rw [r3.1 17 (by omega)]; exact A1.1.2
    rw [r1, e_bvS, e31, if_neg c, e1, e2, e3, e17, w1, e_bdS, w2.1 31 (by omega), e31, q_gM_FM r3, q_gM_rest T1 hr dn (by omega)]
    rfl
theorem q_bids_l {σ0 : MSt} (hdn : dn ≤ 9900) (x1 : Int32) : ∀ (k n1 n2 b : Nat) (x2 x3 : Int32) (σ μ : MSt), b + k = nb → k < n1 → k < n2 → q_TX nb nl nd nw nk σ0.1 μ.1 → q_A nb dn 50 σ0 0 μ.1 → q_rest μ.1 → FL σ0 σ → (∀ c, c < nb → σ.1 75 c = μ.1 31 c) → ∃ r σ' μ', f_X11_bids_b35 n1 x1 x2 x3 (nI b) σ = some (r, σ') ∧ f_X12_bids_b61 n2 x1 x2 x3 (nI b) μ = some (r, μ') ∧ FL σ0 σ' ∧ FM μ μ' := by
  intro k
  induction k with
  | zero =>
    intro n1 n2 b x2 x3 σ μ h1 h2 h3 T A hr fl h75
    obtain ⟨n1, rfl⟩ : ∃ z, n1 = z + 1 := ⟨n1 - 1, by omega⟩
    obtain ⟨n2, rfl⟩ : ∃ z, n2 = z + 1 := ⟨n2 - 1, by omega⟩
    have l := T.le.1
    show ∃ r σ' μ', f_X11_bids_b35_s (f_X11_bids_b35 n1) x1 x2 x3 (nI b) σ = _ ∧ f_X12_bids_b61_s (f_X12_bids_b61 n2) x1 x2 x3 (nI b) μ = _ ∧ _
    unfold f_X11_bids_b35_s f_X12_bids_b61_s f_X11_bids_b80 f_X11_bids_b89 f_X12_bids_b171
    rw [fl.1 10 (by omega), T.nbC, if_pos (nI_le (by omega) (by omega)), e_ck q_i18, c_0, T.nbM, if_pos (nI_le (by omega) (by omega))]
    by_cases c : x1 = 0
    · rw [if_pos c, if_pos c]; exact ⟨_, _, _, rfl, rfl, fl, FM.rf⟩
    · rw [if_neg c, if_neg c]; exact ⟨_, _, _, rfl, rfl, fl, FM.rf⟩
  | succ k ih =>
    intro n1 n2 b x2 x3 σ μ h1 h2 h3 T A hr fl h75
    obtain ⟨n1, rfl⟩ : ∃ z, n1 = z + 1 := ⟨n1 - 1, by omega⟩
    obtain ⟨n2, rfl⟩ : ∃ z, n2 = z + 1 := ⟨n2 - 1, by omega⟩
    have l := T.le.1
    obtain ⟨v, σ1, μ1, y1, y2, y3, y4⟩ := q_bid hdn T A hr fl b (by omega) (h75 b (by omega))
    show ∃ r σ' μ', f_X11_bids_b35_s (f_X11_bids_b35 n1) x1 x2 x3 (nI b) σ = _ ∧ f_X12_bids_b61_s (f_X12_bids_b61 n2) x1 x2 x3 (nI b) μ = _ ∧ _
    unfold f_X11_bids_b35_s f_X12_bids_b61_s f_X11_bids_b74
    rw [fl.1 10 (by omega), T.nbC, if_neg (nI_ge (by omega) (by omega)), if_neg (show ¬ (8 : Int32) ≤ nI b from nI_ge (a := b) (b := 8) (by omega) (by decide)), y1, e_bdS, e_ck q_i18, c_0, T.nbM, if_neg (nI_ge (by omega) (by omega))]
    have y4' := y4 (f_X12_bids_b61 n2) x1 x2 x3
    rw [c_0] at y4'
    rw [y4']
    unfold f_X12_bids_b139 f_X12_bids_b156
    simp only [e_nm, nI_1]
    have fx := FX.of y3
    have nx : ∀ x2' x3', ∃ r σ' μ', f_X11_bids_b35 n1 x1 x2' x3' (nI (b + 1)) σ1 = some (r, σ') ∧ f_X12_bids_b61 n2 x1 x2' x3' (nI (b + 1)) μ1 = some (r, μ') ∧ FL σ0 σ' ∧ FM μ μ' := by
      intro x2' x3'
      obtain ⟨r, σ', μ', z1, z2, z3, z4⟩ := ih n1 n2 (b + 1) x2' x3' σ1 μ1 (by omega) (by omega) (by omega) (T.fr FL.rf fx) (A.fr FL.rf fx) (hr.FX fx) (fl.trans (FL.of70 y2)) (fun c hc => by rw [y2.1 75 (by omega), y3.1 31 (by omega)]; exact h75 c hc)
      exact ⟨r, σ', μ', z1, z2, z3, y3.trans z4⟩
    by_cases c : v ≤ x3
    · rw [if_pos c, if_neg (Int32.not_lt.mpr c)]; exact nx x2 x3
    · rw [if_neg c, if_pos (Int32.not_le.mp c)]; exact nx _ _
theorem q_start {σ μ : MSt} (T : q_TX nb nl nd nw nk σ.1 μ.1) (A : q_A nb dn 50 σ 0 μ.1) (hnb : 0 < nb) : ∃ st, st < nb ∧ (∀ σ' : MSt, σ'.1 50 = σ.1 50 → f_X10_startBay σ' = some (nI st, σ')) ∧ ((μ.1 19 0 = -1 ∧ μ.1 18 0 = nI st) ∨ (¬ μ.1 19 0 = -1 ∧ μ.1 19 0 = nI st)) := by
  have l := T.le.1
  obtain ⟨a1, a2, a3, a4, a5, a6, a7, a8, a9⟩ := A
  rcases a9 with ⟨p1, p2, p3, p4⟩ | ⟨b, e, p1, p2, p3, p4, p5⟩
  · obtain ⟨b, hb, eb⟩ : ∃ b, b < nb ∧ σ.1 50 4 = nI b := by
      rcases p4 with q | q
      · omega
      · exact q
    refine ⟨b, hb, fun σ' h => ?_, Or.inl ⟨by rw [← a5.1]; exact p1, by rw [← p3]; exact eb⟩⟩
    unfold f_X10_startBay f_X10_startBay_b28
    rw [h, if_pos p1, eb]
  · refine ⟨b, p1, fun σ' h => ?_, Or.inr ⟨by rw [← a5.1, p2]; exact q_n1 (by omega), by rw [← a5.1]; exact p2⟩⟩
    unfold f_X10_startBay f_X10_startBay_b28
    rw [h, p2, if_neg (q_n1 (by omega))]
end
theorem sim_bids : Sim_bids RR := by
  intro σ μ a0 h
  have hk := h.thr
  unfold f_X11_bids f_X12_bids f_X11_bids_b19 f_X12_bids_b23
  rw [e_nm]
  generalize mI μ 0 0 0 = μ0 at hk
  obtain ⟨nb, nl, nd, nw, nk, dn, T, hdn, A, I, N, O, P, F, W, hr⟩ := id hk
  have l := T.le.1
  rw [e_ck q_i18, c_0, T.nbC, T.nbM]
  by_cases c0 : nI nb = 0
  · rw [if_pos c0, if_pos c0]
    refine ⟨-1, σ, μ0, rfl, ?_, hk⟩
    split
    · rfl
    · split <;> rfl
  · rw [if_neg c0, if_neg c0]
    by_cases c1 : a0 < 0
    · rw [if_pos c1, if_pos c1]; exact ⟨_, _, _, rfl, rfl, hk⟩
    · rw [if_neg c1, if_neg c1]
      by_cases c2 : a0 ≤ 1
      · rw [if_pos c2, if_neg (Int32.not_lt.mpr c2)]
        have hnb : 0 < nb := by
          apply Nat.pos_of_ne_zero
          intro e
          subst e
          exact c0 rfl
        obtain ⟨st, hst, hs, hm⟩ := q_start T A hnb
        obtain ⟨σ1, y1, y2, y3, y4⟩ := q_lanesC σ T st hst hs
        obtain ⟨μ1, z1, z2, z3⟩ := q_lanesM μ0 T st hst
        have fl : FL σ σ1 := ⟨fun r hr' => y3 r (by omega), fun r _ _ => by rw [y4]⟩
        have fx : FX μ0 μ1 := ⟨fun r hr' => z3 r (by omega) (by omega), fun r _ _ i _ _ => by rw [z3 r (by omega) (by omega)], fun r _ _ i _ => by rw [z3 r (by omega) (by omega)], fun j _ _ _ _ => by rw [z3 0 (by omega) (by omega)]⟩
        have eq := q_LV_eq hst y2 z2
        obtain ⟨r, σ', μ', w1, w2, w3, w4⟩ := q_bids_l (σ0 := σ) hdn a0 nb FU FU 0 0 (-1) σ1 μ1 (by omega) (by unfold FU; omega) (by unfold FU; omega) (T.fr FL.rf fx) (A.fr FL.rf fx) (hr.FX fx) fl eq
        have w1' : f_X11_bids_b35 FU a0 0 (-1) 0 σ1 = _ := w1
        have w2' : f_X12_bids_b61 FU a0 0 (-1) 0 μ1 = _ := w2
        have k0 : k_inb (0 : Int32) 24 = true := by decide
        unfold f_X12_bids_b51
        rw [y1, e_bvS, w1', e_ck k0, e_ck k0, e_ck k0]
        refine ⟨r, σ', μ', rfl, ?_, hk.fr w3 (fx.trans (FX.of w4))⟩
        rcases hm with ⟨q1, q2⟩ | ⟨q1, q2⟩
        · rw [if_pos q1, q2, z1, e_bvS, w2']
        · rw [if_neg q1, q2, z1, e_bvS, w2']
      · rw [if_neg c2, if_pos (Int32.not_le.mp c2)]; exact ⟨_, _, _, rfl, rfl, hk⟩
