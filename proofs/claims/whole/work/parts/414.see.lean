theorem s_X12_gainOf (R : Nat → Nat → Int32) (a b : Nat) (ha : a < 24) (hb8 : b < 8) (d : Nat) (hd : d ≤ 20000) (μ : MSt) (nw : Nat) (hb : μ.1 2 3 = nI nw) (hn : nw ≤ 20) (h : q_TL R μ.1) (hD : μ.1 17 a = nI d) (hJ : q_JB (μ.1 26 (8 * a + b))) (hL : q_LB (μ.1 28 (8 * a + b))) : ∃ μ', f_X12_gainOf (nI a) (nI b) μ = some (q_gain R (μ.1 26 (8 * a + b)) (μ.1 27 (8 * a + b)) (μ.1 28 (8 * a + b)) (nI d) (q_gM μ d) 1, μ') ∧ FM μ μ' := by
  have e : (8 : Int32) * nI a + nI b = nI (8 * a + b) := by rw [show (8 : Int32) = nI 8 from rfl, pk_mul, nI_add]
  have hk : k_inb (nI (8 * a + b)) 192 = true := e_in (by omega) (by decide)
  have hka : k_inb (nI a) 24 = true := e_in ha (by decide)
  have i0 : k_inb (0 : Int32) 64 = true := by decide
  generalize hj : 8 * a + b = x at *
  obtain ⟨μ0, r1, r2⟩ := s_X12_moodBy R (μ.1 26 x) (μ.1 27 x) (μ.1 28 x) d hd 1 μ nw hb hn h hJ hL
  obtain ⟨μ1, q1, q2, q3⟩ := s_X12_calls (μ.1 26 x) (μ.1 27 x) (μ.1 28 x) d (by omega) (q_mood R (μ.1 26 x) (μ.1 27 x) (μ.1 28 x) (nI d) (q_gM μ d) 1) 1 μ0 nw (by rw [r2.1 2 (by decide)]; exact hb) hn
  rw [q_gM_FM r2] at q3
  have f1 := r2.trans q2
  have hT : q_TL R μ1.1 := q_TL_eq h rfl rfl rfl rfl (f1.1 11 (by decide)) (f1.1 12 (by decide)) (f1.1 13 (by decide)) (f1.1 14 (by decide))
  unfold f_X12_gainOf f_X12_gainOf_b105 f_X12_gainOf_b106
  simp only [e_nm, e, e_ck hk, e_ck hka, nI_clamp (show x < 2 ^ 31 by omega), nI_clamp (show a < 2 ^ 31 by omega), hD, e_ck i0, c_0]
  rw [r1, e_bdS, r2.1 26 (by decide), r2.1 27 (by decide), r2.1 28 (by decide), r2.1 17 (by decide), hD, q1, e_bvS, show (2 : Int32) = nI 2 from rfl, s_X12_hasLaw R 2 (by omega) μ1 hT, e_bdS]
  unfold q_gain q_gainv
  by_cases c : R 20 2 < R 21 2
  · rw [if_pos c, if_neg (by decide)]
    obtain ⟨μ2, p1, p2, p3⟩ := s_X12_goes R (q_en (μ.1 26 x) (q_ago (nI d) (μ.1 28 x)) (μ.1 27 x) (q_gM μ d) (nI d) (q_mood R (μ.1 26 x) (μ.1 27 x) (μ.1 28 x) (nI d) (q_gM μ d) 1) 1) (q_en_bd _ _ _ _ _ _ _) 2 (by omega) μ1 hT q3 c
    rw [p1, e_bdS]
    by_cases c2 : q_val R 2 (q_en (μ.1 26 x) (q_ago (nI d) (μ.1 28 x)) (μ.1 27 x) (q_gM μ d) (nI d) (q_mood R (μ.1 26 x) (μ.1 27 x) (μ.1 28 x) (nI d) (q_gM μ d) 1) 1) = -9223372036854775808
    · rw [if_pos c2, if_pos rfl, if_pos c2]
      exact ⟨μ2, rfl, f1.trans p2⟩
    · rw [if_neg c2, if_neg (by decide), if_neg c2, p3 c2]
      exact ⟨μ2, rfl, f1.trans p2⟩
  · rw [if_neg c, if_pos rfl, if_pos (show q_val R 2 _ = -9223372036854775808 from if_neg c)]
    exact ⟨μ1, rfl, f1⟩
/-- THE TEXT: the class's rows R and the reference's rows U tell the same -/
def q_TX (nb nl nd nw nk : Nat) (R U : Nat → Nat → Int32) : Prop :=
  (nb ≤ 8 ∧ nl ≤ 12 ∧ nd ≤ 12 ∧ nw ≤ 20 ∧ nk ≤ 64) ∧
  (R 10 7 = nI nb ∧ R 10 8 = nI nl ∧ R 10 9 = nI nd ∧ R 10 10 = nI nw ∧ R 17 5 = nI nk) ∧
  (U 2 0 = nI nb ∧ U 2 1 = nI nl ∧ U 2 2 = nI nd ∧ U 2 3 = nI nw ∧ U 2 8 = nI nk) ∧
  ((nb = 0 → R 10 11 = -1) ∧ (0 < nb → ∃ b, b < nb ∧ U 2 4 = nI b ∧ (R 10 11 = nI b ∨ (R 10 11 = -1 ∧ b = 0)))) ∧
  (∃ k, 1 ≤ k ∧ k ≤ 9 ∧ R 10 12 = nI k ∧ U 2 5 = nI k) ∧ (∃ k, k ≤ 100 ∧ R 10 13 = nI k ∧ U 2 6 = nI k) ∧ (∃ k, k ≤ 99999 ∧ R 10 14 = nI k ∧ U 2 7 = nI k) ∧
  (∀ i, i < nb → R 11 i = U 3 i) ∧
  (∀ a b, a < nb → b < nb → R 12 (a * 8 + b) = q_lane (U 4) (U 5) (U 6) (nI a) (nI b) nl 13 0 ∧ ∃ k, k ≤ 9 ∧ R 12 (a * 8 + b) = nI k) ∧
  (∀ i, i < nd → (∃ b, b < nb ∧ R 13 i = nI b ∧ U 7 i = nI b) ∧ (∃ k, k ≤ 99 ∧ R 14 i = nI k ∧ U 8 i = nI k) ∧ (∃ k, k ≤ 9 ∧ R 15 i = nI k ∧ U 9 i = nI k)) ∧
  (∀ i, i < nw → ∃ k, k ≤ 9 ∧ R 16 i = nI k ∧ U 10 i = nI k) ∧
  q_TL R U
section
variable {nb nl nd nw nk : Nat} {R U : Nat → Nat → Int32}
theorem q_TX.le (h : q_TX nb nl nd nw nk R U) : nb ≤ 8 ∧ nl ≤ 12 ∧ nd ≤ 12 ∧ nw ≤ 20 ∧ nk ≤ 64 := h.1
theorem q_TX.nbC (h : q_TX nb nl nd nw nk R U) : R 10 7 = nI nb := h.2.1.1
theorem q_TX.nlC (h : q_TX nb nl nd nw nk R U) : R 10 8 = nI nl := h.2.1.2.1
theorem q_TX.ndC (h : q_TX nb nl nd nw nk R U) : R 10 9 = nI nd := h.2.1.2.2.1
theorem q_TX.nwC (h : q_TX nb nl nd nw nk R U) : R 10 10 = nI nw := h.2.1.2.2.2.1
theorem q_TX.nkC (h : q_TX nb nl nd nw nk R U) : R 17 5 = nI nk := h.2.1.2.2.2.2
theorem q_TX.nbM (h : q_TX nb nl nd nw nk R U) : U 2 0 = nI nb := h.2.2.1.1
theorem q_TX.nlM (h : q_TX nb nl nd nw nk R U) : U 2 1 = nI nl := h.2.2.1.2.1
theorem q_TX.ndM (h : q_TX nb nl nd nw nk R U) : U 2 2 = nI nd := h.2.2.1.2.2.1
theorem q_TX.nwM (h : q_TX nb nl nd nw nk R U) : U 2 3 = nI nw := h.2.2.1.2.2.2.1
theorem q_TX.nkM (h : q_TX nb nl nd nw nk R U) : U 2 8 = nI nk := h.2.2.1.2.2.2.2
theorem q_TX.ship (h : q_TX nb nl nd nw nk R U) : (nb = 0 → R 10 11 = -1) ∧ (0 < nb → ∃ b, b < nb ∧ U 2 4 = nI b ∧ (R 10 11 = nI b ∨ (R 10 11 = -1 ∧ b = 0))) := h.2.2.2.1
theorem q_TX.reach (h : q_TX nb nl nd nw nk R U) : ∃ k, 1 ≤ k ∧ k ≤ 9 ∧ R 10 12 = nI k ∧ U 2 5 = nI k := h.2.2.2.2.1
theorem q_TX.trust (h : q_TX nb nl nd nw nk R U) : ∃ k, k ≤ 100 ∧ R 10 13 = nI k ∧ U 2 6 = nI k := h.2.2.2.2.2.1
theorem q_TX.seed (h : q_TX nb nl nd nw nk R U) : ∃ k, k ≤ 99999 ∧ R 10 14 = nI k ∧ U 2 7 = nI k := h.2.2.2.2.2.2.1
theorem q_TX.name (h : q_TX nb nl nd nw nk R U) : ∀ i, i < nb → R 11 i = U 3 i := h.2.2.2.2.2.2.2.1
theorem q_TX.lane (h : q_TX nb nl nd nw nk R U) : ∀ a b, a < nb → b < nb → R 12 (a * 8 + b) = q_lane (U 4) (U 5) (U 6) (nI a) (nI b) nl 13 0 ∧ ∃ k, k ≤ 9 ∧ R 12 (a * 8 + b) = nI k := h.2.2.2.2.2.2.2.2.1
theorem q_TX.deed (h : q_TX nb nl nd nw nk R U) : ∀ i, i < nd → (∃ b, b < nb ∧ R 13 i = nI b ∧ U 7 i = nI b) ∧ (∃ k, k ≤ 99 ∧ R 14 i = nI k ∧ U 8 i = nI k) ∧ (∃ k, k ≤ 9 ∧ R 15 i = nI k ∧ U 9 i = nI k) := h.2.2.2.2.2.2.2.2.2.1
theorem q_TX.wind (h : q_TX nb nl nd nw nk R U) : ∀ i, i < nw → ∃ k, k ≤ 9 ∧ R 16 i = nI k ∧ U 10 i = nI k := h.2.2.2.2.2.2.2.2.2.2.1
theorem q_TX.law (h : q_TX nb nl nd nw nk R U) : q_TL R U := h.2.2.2.2.2.2.2.2.2.2.2
theorem q_TX.eq {R' U' : Nat → Nat → Int32} (h : q_TX nb nl nd nw nk R U) (hR : ∀ r, 10 ≤ r → r ≤ 21 → R' r = R r) (hU : ∀ r, 2 ≤ r → r ≤ 14 → U' r = U r) : q_TX nb nl nd nw nk R' U' := by
  unfold q_TX q_TL at h ⊢
  rw [hR 10 (by decide) (by decide), hR 11 (by decide) (by decide), hR 12 (by decide) (by decide), hR 13 (by decide) (by decide), hR 14 (by decide) (by decide), hR 15 (by decide) (by decide), hR 16 (by decide) (by decide), hR 17 (by decide) (by decide), hR 18 (by decide) (by decide), hR 19 (by decide) (by decide), hR 20 (by decide) (by decide), hR 21 (by decide) (by decide),
    hU 2 (by decide) (by decide), hU 3 (by decide) (by decide), hU 4 (by decide) (by decide), hU 5 (by decide) (by decide), hU 6 (by decide) (by decide), hU 7 (by decide) (by decide), hU 8 (by decide) (by decide), hU 9 (by decide) (by decide), hU 10 (by decide) (by decide), hU 11 (by decide) (by decide), hU 12 (by decide) (by decide), hU 13 (by decide) (by decide), hU 14 (by decide) (by decide)]
  exact h
end
/-- ONE ANCHOR: the class's log (its row, joys, many, latest, number drawn) and the reference's rows at a -/
def q_AN (nb d : Nat) (lo jo ma la : Nat → Int32) (dr : Int64) (a : Nat) (U : Nat → Nat → Int32) : Prop :=
  (lo 3 = nI d ∧ U 17 a = nI d) ∧
  (∀ b, b < 8 → jo b = U 26 (8 * a + b) ∧ q_JB (jo b)) ∧ (∀ b, b < 8 → ma b = U 27 (8 * a + b)) ∧ (∀ b, b < 8 → la b = U 28 (8 * a + b) ∧ q_LB (la b)) ∧
  (lo 5 = U 19 a ∧ lo 6 = U 20 a) ∧ (lo 7 = U 21 a ∧ (lo 7 = 0 ∨ lo 7 = 1)) ∧ (lo 9 = U 22 a ∧ lo 10 = U 23 a ∧ lo 11 = U 24 a) ∧
  (∃ w, w < 2 ^ 31 ∧ U 25 a = nI w ∧ dr = lN w) ∧
  ((lo 5 = -1 ∧ lo 6 = -1 ∧ lo 4 = U 18 a ∧ ((nb = 0 ∧ lo 4 = -1) ∨ ∃ b, b < nb ∧ lo 4 = nI b)) ∨
   (∃ b e, b < nb ∧ lo 5 = nI b ∧ lo 6 = nI (d + e) ∧ e ≤ 9 ∧ lo 4 = -1))
def q_A (nb d o : Nat) (σ : MSt) (a : Nat) (U : Nat → Nat → Int32) : Prop := q_AN nb d (σ.1 o) (σ.1 (o + 1)) (σ.1 (o + 2)) (σ.1 (o + 3)) (σ.2 o 8) a U
/-- frames of a call that only looks: the class's rows but scratch, the reference's rows but scratch -/
def FL (σ σ' : MSt) : Prop := (∀ r, (r < 58 ∨ (61 < r ∧ r < 67) ∨ (77 < r ∧ r < 83)) → σ'.1 r = σ.1 r) ∧ ∀ r, r ≠ 22 → r ≠ 58 → σ'.2 r = σ.2 r
theorem FL.rf {σ : MSt} : FL σ σ := ⟨fun _ _ => rfl, fun _ _ _ => rfl⟩
theorem FL.trans {σ σ1 σ2 : MSt} (h : FL σ σ1) (h2 : FL σ1 σ2) : FL σ σ2 := ⟨fun r hr => (h2.1 r hr).trans (h.1 r hr), fun r a b => (h2.2 r a b).trans (h.2 r a b)⟩
theorem FL.of70 {σ σ' : MSt} (h : FO 70 σ σ') : FL σ σ' := ⟨fun r hr => h.1 r (by omega), fun r a _ => h.2 r a⟩
theorem FL.of72 {σ σ' : MSt} (h : FO 72 σ σ') : FL σ σ' := ⟨fun r hr => h.1 r (by omega), fun r a _ => h.2 r a⟩
theorem FL.mI (σ : MSt) (o j : Nat) (v : Int32) (h : (57 < o ∧ o < 62) ∨ (66 < o ∧ o < 78) ∨ o = 83) : FL σ (mI σ o j v) := ⟨fun r hr => m_Ir _ _ _ _ (by omega), fun _ _ _ => rfl⟩
def FX (μ μ' : MSt) : Prop := (∀ r, (0 < r ∧ r < 17) ∨ (33 < r ∧ r < 38) → μ'.1 r = μ.1 r) ∧ (∀ r, 16 < r → r < 26 → ∀ a, a ≠ 1 → a ≠ 2 → μ'.1 r a = μ.1 r a) ∧ (∀ r, 25 < r → r < 29 → ∀ i, (i < 8 ∨ 23 < i) → μ'.1 r i = μ.1 r i) ∧ ∀ j, j ≠ 0 → j ≠ 31 → j ≠ 49 → (j < 51 ∨ 53 < j) → μ'.1 0 j = μ.1 0 j
theorem FX.rf {μ : MSt} : FX μ μ := ⟨fun _ _ => rfl, fun _ _ _ _ _ _ => rfl, fun _ _ _ _ _ => rfl, fun _ _ _ _ _ => rfl⟩
theorem FX.trans {μ μ1 μ2 : MSt} (h : FX μ μ1) (h2 : FX μ1 μ2) : FX μ μ2 := ⟨fun r hr => (h2.1 r hr).trans (h.1 r hr), fun r x y a p q => (h2.2.1 r x y a p q).trans (h.2.1 r x y a p q), fun r x y i p => (h2.2.2.1 r x y i p).trans (h.2.2.1 r x y i p), fun j a b c d => (h2.2.2.2 j a b c d).trans (h.2.2.2 j a b c d)⟩
theorem FX.of {μ μ' : MSt} (h : FM μ μ') : FX μ μ' := ⟨fun r hr => h.1 r (by omega), fun r x y a _ _ => by rw [h.1 r (by omega)], fun r x y i _ => by rw [h.1 r (by omega)], fun j a b c d => h.2 j b d⟩
theorem FX.thrown (μ : MSt) (v : Int32) : FX μ (mI μ 0 0 v) := ⟨fun r hr => m_Ir _ _ _ _ (by omega), fun r x y a _ _ => by rw [m_Ir _ _ _ _ (by omega)], fun r x y i _ => by rw [m_Ir _ _ _ _ (by omega)], fun j a b c d => by rw [m_I, if_neg (by omega)]⟩
theorem FM_seen {μ μ' : MSt} (h : q_seen μ μ') : FM μ μ' := ⟨h.1, fun j _ b => h.2.2 j b⟩
/-- nothing is tried, no wind is drawn, no joy is changed -/
def q_rest (U : Nat → Nat → Int32) : Prop := U 0 46 = 0 ∧ U 0 47 = -1 ∧ U 0 48 = -1 ∧ U 0 50 = -1
theorem q_rest.FX {μ μ' : MSt} (h : q_rest μ.1) (f : FX μ μ') : q_rest μ'.1 := by
  unfold q_rest at h ⊢
  rw [f.2.2.2 46 (by omega) (by omega) (by omega) (by omega), f.2.2.2 47 (by omega) (by omega) (by omega) (by omega), f.2.2.2 48 (by omega) (by omega) (by omega) (by omega), f.2.2.2 50 (by omega) (by omega) (by omega) (by omega)]
  exact h
theorem q_TX.fr {nb nl nd nw nk : Nat} {σ σ' μ μ' : MSt} (h : q_TX nb nl nd nw nk σ.1 μ.1) (f : FL σ σ') (g : FX μ μ') : q_TX nb nl nd nw nk σ'.1 μ'.1 := h.eq (fun r _ _ => f.1 r (by omega)) (fun r _ _ => g.1 r (by omega))
theorem q_AN.eq {nb d : Nat} {lo jo ma la : Nat → Int32} {dr : Int64} {a : Nat} {U U' : Nat → Nat → Int32} (h : q_AN nb d lo jo ma la dr a U) (h1 : ∀ r, 16 < r → r < 26 → U' r a = U r a) (h2 : ∀ r, 25 < r → r < 29 → ∀ b, b < 8 → U' r (8 * a + b) = U r (8 * a + b)) : q_AN nb d lo jo ma la dr a U' := by
  obtain ⟨a1, a2, a3, a4, a5, a6, a7, a8, a9⟩ := h
  refine ⟨?_, ?_, ?_, ?_, ?_, ?_, ?_, ?_, ?_⟩
  · rw [h1 17 (by decide) (by decide)]; exact a1
  · intro b hb; rw [h2 26 (by decide) (by decide) b hb]; exact a2 b hb
  · intro b hb; rw [h2 27 (by decide) (by decide) b hb]; exact a3 b hb
  · intro b hb; rw [h2 28 (by decide) (by decide) b hb]; exact a4 b hb
  · rw [h1 19 (by decide) (by decide), h1 20 (by decide) (by decide)]; exact a5
  · rw [h1 21 (by decide) (by decide)]; exact a6
  · rw [h1 22 (by decide) (by decide), h1 23 (by decide) (by decide), h1 24 (by decide) (by decide)]; exact a7
  · rw [h1 25 (by decide) (by decide)]; exact a8
  · rw [h1 18 (by decide) (by decide)]; exact a9
theorem q_A.fr {nb d : Nat} {σ σ' μ μ' : MSt} (h : q_A nb d 50 σ 0 μ.1) (f : FL σ σ') (g : FX μ μ') : q_A nb d 50 σ' 0 μ'.1 := by
  unfold q_A at h ⊢
  rw [f.1 50 (by omega), f.1 (50 + 1) (by omega), f.1 (50 + 2) (by omega), f.1 (50 + 3) (by omega), f.2 50 (by omega) (by omega)]
  exact h.eq (fun r x y => g.2.1 r x y 0 (by omega) (by omega)) (fun r x y b hb => g.2.2.1 r x y _ (by omega))
/-- FORESEEN: what is had of bay b by date d -/
def q_tri (R : Nat → Nat → Int32) (b : Nat) : Int32 × Int32 × Int32 := (R 51 b, R 52 b, R 53 b)
def q_trik (R : Nat → Nat → Int32) (b : Nat) (k : Int32) : Int32 × Int32 × Int32 := (k_min 9999 (R 51 b + k), R 52 b + 1, k_max (R 53 b) (R 50 3))
def q_fse (R : Nat → Nat → Int32) (nd b d : Nat) (t : Int32 × Int32 × Int32) : Int32 × Int32 × Int32 := q_fs (R 13) (R 14) (R 15) (nI b) (R 50 3) (nI d) nd 13 0 t
def q_gC (R : Nat → Nat → Int32) (nw d : Nat) : Int32 := if d < nw then R 16 d else 0
def q_hs (R : Nat → Nat → Int32) (nw d : Nat) (t : Int32 × Int32 × Int32) : Int32 := q_hold R t.1 t.2.1 t.2.2 (nI d) (q_gC R nw d) 0
def q_ms (R : Nat → Nat → Int32) (nw d : Nat) (t : Int32 × Int32 × Int32) : Int32 := q_mood R t.1 t.2.1 t.2.2 (nI d) (q_gC R nw d) 0
theorem q_fs_cong {B D J B' D' J' : Nat → Int32} {n : Nat} (b now d : Int32) (h : ∀ i, i < n → B i = B' i ∧ D i = D' i ∧ J i = J' i) : ∀ k i t, q_fs B D J b now d n k i t = q_fs B' D' J' b now d n k i t := by
  intro k
  induction k with
  | zero => intro i t; rfl
  | succ k ih =>
    intro i t
    unfold q_fs
    by_cases hi : i < n
    · rw [if_pos hi, if_pos hi, (h i hi).1, (h i hi).2.1, (h i hi).2.2, ih]
    · rw [if_neg hi, if_neg hi]
theorem q_min_b {J : Int32} (hJ : q_JB J) (k : Nat) (hk : k ≤ 9) : q_JB (k_min 9999 (J + nI k)) := by
  have e : (J + nI k).toInt = J.toInt + k := by
    rw [Int32.toInt_add, nI_toInt (by omega)]
    exact Int.bmod_eq_of_le (by have := hJ.1; omega) (by have := hJ.2; omega)
  have e9 : (9999 : Int32).toInt = 9999 := by decide
  unfold k_min q_JB
  by_cases c : J + nI k < 9999
  · rw [if_pos c, e]
    rw [Int32.lt_iff_toInt_lt, e, e9] at c
    have := hJ.1
    omega
  · rw [if_neg c, e9]; omega
theorem q_max_b {L : Int32} (hL : q_LB L) (k : Nat) (hk : k ≤ 20000) : q_LB (k_max L (nI k)) := by
  unfold k_max q_LB
  by_cases c : L < nI k
  · rw [if_pos c, nI_toInt (by omega)]; omega
  · rw [if_neg c]; exact hL
theorem q_fs_b {B D J : Nat → Int32} {n : Nat} (b now d : Int32) (h : ∀ i, i < n → (∃ k, k ≤ 99 ∧ D i = nI k) ∧ ∃ k, k ≤ 9 ∧ J i = nI k) : ∀ k i t, q_JB t.1 ∧ q_LB t.2.2 → q_JB (q_fs B D J b now d n k i t).1 ∧ q_LB (q_fs B D J b now d n k i t).2.2 := by
  intro k
  induction k with
  | zero => intro i t h; exact h
  | succ k ih =>
    intro i t ht
    unfold q_fs
    by_cases hi : i < n
    · rw [if_pos hi]
      apply ih
      by_cases c : B i = b ∧ ¬ D i < now ∧ ¬ d < D i
      · rw [if_pos c]
        obtain ⟨⟨k1, h1, e1⟩, k2, h2, e2⟩ := h i hi
        rw [e1, e2]
        exact ⟨q_min_b ht.1 k2 h2, q_max_b ht.2 k1 (by omega)⟩
      · rw [if_neg c]; exact ht
    · rw [if_neg hi]; exact ht
theorem s_X3_scene {nb nl nd nw nk : Nat} {σ : MSt} {U : Nat → Nat → Int32} (h : q_TX nb nl nd nw nk σ.1 U) (b d : Nat) (hd : d < 2 ^ 30) (σ1 : MSt) (k1 : q_only 70 σ σ1) : ∃ σ', f_X3_addDeeds (nI b) (nI d) σ1 = some σ' ∧ q_SC σ' 70 (q_fse σ.1 nd b d (σ1.1 70 0, σ1.1 70 1, σ1.1 70 2)).1 (q_fse σ.1 nd b d (σ1.1 70 0, σ1.1 70 1, σ1.1 70 2)).2.1 (q_fse σ.1 nd b d (σ1.1 70 0, σ1.1 70 1, σ1.1 70 2)).2.2 (nI d) (q_gC σ.1 nw d) 0 ∧ FO 70 σ σ' := by
  obtain ⟨l1, l2, l3, l4, l5⟩ := h.le
  obtain ⟨σ2, e1, e2, e3, e4, e5, e6, e7⟩ := s_X3_addDeeds_l (nI b) d nd nw hd l3 l4 13 FU 0 σ1 (by rw [k1.1 10 (by decide)]; exact h.ndC) (by rw [k1.1 10 (by decide)]; exact h.nwC) (by omega) (by omega) (by unfold FU; omega)
  rw [k1.1 13 (by decide), k1.1 14 (by decide), k1.1 15 (by decide), k1.1 50 (by decide)] at e2
  rw [k1.1 16 (by decide)] at e5
  refine ⟨σ2, e1, ?_, (FO.ofQ k1).trans (FO.ofQ e7)⟩
  unfold q_fse
  rw [← e2]
  exact ⟨rfl, rfl, rfl, e3, e4, e5, e6⟩
theorem q_TL.C {R R' U : Nat → Nat → Int32} (h : q_TL R U) (f : ∀ r, r < 58 → R' r = R r) : q_TL R' U := q_TL_eq h (f 18 (by decide)) (f 19 (by decide)) (f 20 (by decide)) (f 21 (by decide)) rfl rfl rfl rfl
theorem q_mood_eq {R R' : Nat → Nat → Int32} (f : ∀ r, r < 58 → R' r = R r) (J M L d g h : Int32) : q_mood R' J M L d g h = q_mood R J M L d g h := by
  unfold q_mood
  rw [q_val_eq (f 18 (by decide)) (f 19 (by decide)) (f 20 (by decide)) (f 21 (by decide))]
theorem q_hold_eq {R R' : Nat → Nat → Int32} (f : ∀ r, r < 58 → R' r = R r) (J M L d g h : Int32) : q_hold R' J M L d g h = q_hold R J M L d g h := by
  unfold q_hold
  rw [q_mood_eq f, q_val_eq (f 18 (by decide)) (f 19 (by decide)) (f 20 (by decide)) (f 21 (by decide))]
theorem q_gain_eq {R R' : Nat → Nat → Int32} (f : ∀ r, r < 58 → R' r = R r) (J M L d g h : Int32) : q_gain R' J M L d g h = q_gain R J M L d g h := by
  unfold q_gain
  rw [q_mood_eq f, q_val_eq (f 18 (by decide)) (f 19 (by decide)) (f 20 (by decide)) (f 21 (by decide))]
theorem q_gC_eq {R R' : Nat → Nat → Int32} (f : ∀ r, r < 58 → R' r = R r) (nw d : Nat) : q_gC R' nw d = q_gC R nw d := by
  unfold q_gC
  rw [f 16 (by decide)]
theorem q_fse_eq {R R' : Nat → Nat → Int32} (f : ∀ r, r < 58 → R' r = R r) (nd b d : Nat) (t : Int32 × Int32 × Int32) : q_fse R' nd b d t = q_fse R nd b d t := by
  unfold q_fse
  rw [f 13 (by decide), f 14 (by decide), f 15 (by decide), f 50 (by decide)]
theorem q_hs_eq {R R' : Nat → Nat → Int32} (f : ∀ r, r < 58 → R' r = R r) (nw d : Nat) (t : Int32 × Int32 × Int32) : q_hs R' nw d t = q_hs R nw d t := by
  unfold q_hs
  rw [q_hold_eq f, q_gC_eq f]
theorem q_ms_eq {R R' : Nat → Nat → Int32} (f : ∀ r, r < 58 → R' r = R r) (nw d : Nat) (t : Int32 × Int32 × Int32) : q_ms R' nw d t = q_ms R nw d t := by
  unfold q_ms
  rw [q_mood_eq f, q_gC_eq f]
theorem q_tri_eq {R R' : Nat → Nat → Int32} (f : ∀ r, r < 58 → R' r = R r) (b : Nat) : q_tri R' b = q_tri R b := by
  unfold q_tri
  rw [f 51 (by decide), f 52 (by decide), f 53 (by decide)]
theorem q_trik_eq {R R' : Nat → Nat → Int32} (f : ∀ r, r < 58 → R' r = R r) (b : Nat) (k : Int32) : q_trik R' b k = q_trik R b k := by
  unfold q_trik
  rw [f 51 (by decide), f 52 (by decide), f 53 (by decide), f 50 (by decide)]
theorem FO.lt {σ σ' : MSt} (h : FO 70 σ σ') : ∀ r, r < 58 → σ'.1 r = σ.1 r := fun r hr => h.1 r (by omega)
theorem FL.lt {σ σ' : MSt} (h : FL σ σ') : ∀ r, r < 58 → σ'.1 r = σ.1 r := fun r hr => h.1 r (Or.inl hr)
theorem k_bo01 {x : Int32} (h : x = 0 ∨ x = 1) : k_bo x = true := by unfold k_bo; exact decide_eq_true h
section
variable {nb nl nd nw nk : Nat} {σ : MSt} {U : Nat → Nat → Int32}
theorem s_X3_sees (h : q_TX nb nl nd nw nk σ.1 U) (b d : Nat) (hb : b < 8) (hd : d < 2 ^ 30) : ∃ σ', f_X3_sees (nI b) (nI d) σ = some (q_hs σ.1 nw d (q_fse σ.1 nd b d (q_tri σ.1 b)), σ') ∧ FO 70 σ σ' := by
  obtain ⟨σ1, e1, a0, a1, a2, k1⟩ := s_X8_recall 70 50 b hb (by decide) (by decide) (by decide) σ
  obtain ⟨σ2, e2, sc, k2⟩ := s_X3_scene h b d hd σ1 k1
  rw [a0, a1, a2] at sc
  obtain ⟨σ3, e3, sc3, hm, k3⟩ := s_X4_feel U 70 (by decide) σ2 (h.law.C k2.lt) sc
  have k23 := k2.trans k3
  obtain ⟨σ4, e4, k4⟩ := s_X4_grips U 70 σ3 (h.law.C k23.lt) sc3 (by rw [hm, q_mood_eq k2.lt, q_mood_eq k23.lt])
  unfold f_X3_sees
  rw [e1, e_bvS, e2, e_bvS, e3, e_bvS, e4, e_bdS, q_hold_eq k23.lt, e_ck (k_bo01 (q_hold01 _ _ _ _ _ _ _))]
  exact ⟨σ4, rfl, k23.trans (FO.ofS k4)⟩
theorem s_X3_moodOf (h : q_TX nb nl nd nw nk σ.1 U) (b d : Nat) (hb : b < 8) (hd : d < 2 ^ 30) : ∃ σ', f_X3_moodOf (nI b) (nI d) σ = some (q_ms σ.1 nw d (q_fse σ.1 nd b d (q_tri σ.1 b)), σ') ∧ FO 70 σ σ' := by
  obtain ⟨σ1, e1, a0, a1, a2, k1⟩ := s_X8_recall 70 50 b hb (by decide) (by decide) (by decide) σ
  obtain ⟨σ2, e2, sc, k2⟩ := s_X3_scene h b d hd σ1 k1
  rw [a0, a1, a2] at sc
  obtain ⟨σ3, e3, sc3, hm, k3⟩ := s_X4_feel U 70 (by decide) σ2 (h.law.C k2.lt) sc
  unfold f_X3_moodOf
  rw [e1, e_bvS, e2, e_bvS, e3, e_bvS, hm, q_mood_eq k2.lt]
  exact ⟨σ3, rfl, k2.trans k3⟩
theorem s_X3_seesWithKindness (h : q_TX nb nl nd nw nk σ.1 U) (b d : Nat) (k : Int32) (hb : b < 8) (hd : d < 2 ^ 30) : ∃ σ', f_X3_seesWithKindness (nI b) (nI d) k σ = some (q_hs σ.1 nw d (q_fse σ.1 nd b d (q_trik σ.1 b k)), σ') ∧ FO 70 σ σ' := by
  obtain ⟨σ0, e0, b0, b1, b2, k0⟩ := s_X8_recall 70 50 b hb (by decide) (by decide) (by decide) σ
  obtain ⟨σ1, e1, a0, a1, a2, k1'⟩ := s_X8_add 70 k (σ0.1 50 3) σ0
  have k1 := k0.trans k1'
  obtain ⟨σ2, e2, sc, k2⟩ := s_X3_scene h b d hd σ1 k1
  rw [a0, a1, a2, b0, b1, b2, k0.1 50 (by decide)] at sc
  obtain ⟨σ3, e3, sc3, hm, k3⟩ := s_X4_feel U 70 (by decide) σ2 (h.law.C k2.lt) sc
  have k23 := k2.trans k3
  obtain ⟨σ4, e4, k4⟩ := s_X4_grips U 70 σ3 (h.law.C k23.lt) sc3 (by rw [hm, q_mood_eq k2.lt, q_mood_eq k23.lt])
  unfold f_X3_seesWithKindness
  rw [e0, e_bvS, e1, e_bvS, e2, e_bvS, e3, e_bvS, e4, e_bdS, q_hold_eq k23.lt, e_ck (k_bo01 (q_hold01 _ _ _ _ _ _ _))]
  exact ⟨σ4, rfl, k23.trans (FO.ofS k4)⟩
end
theorem q_gM_rest {nb nl nd nw nk : Nat} {R : Nat → Nat → Int32} {μ : MSt} (h : q_TX nb nl nd nw nk R μ.1) (hr : q_rest μ.1) (d : Nat) (hd : d < 2 ^ 30) : q_gM μ d = q_gC R nw d := by
  have l4 := h.le.2.2.2.1
  unfold q_gM q_gC
  rw [if_neg (by rw [hr.1]; decide), if_pos hr.2.2.2, h.nwM]
  by_cases c : d < nw
  · obtain ⟨k, -, e1, e2⟩ := h.wind d c
    rw [if_pos (nI_lt c (by omega)), if_pos c, e1, e2]
  · rw [if_neg (nI_nlt (by omega) (by omega)), if_neg c]
/-- the reference foresees from now on -/
theorem s_X12_foresees {nb nl nd nw nk dn : Nat} {σ μ : MSt} (h : q_TX nb nl nd nw nk σ.1 μ.1) (hA : q_A nb dn 50 σ 0 μ.1) (hr : q_rest μ.1) (b d : Nat) (hb : b < 8) (k : Int32) : ∃ μ', f_X12_foresees 0 (nI b) (nI d) k μ = some μ' ∧ (μ'.1 0 51, μ'.1 0 52, μ'.1 0 53) = q_fse σ.1 nd b d (if k = -1 then q_tri σ.1 b else q_trik σ.1 b k) ∧ FM μ μ' := by
  obtain ⟨l1, l2, l3, l4, l5⟩ := h.le
  have e : (8 : Int32) * 0 + nI b = nI b := by rw [show (8 : Int32) * 0 = nI 0 from rfl, nI_add]; congr 1; omega
  have hk : k_inb (nI b) 192 = true := e_in (by omega) (by decide)
  have hk0 : k_inb (0 : Int32) 24 = true := by decide
  obtain ⟨A1, A2, A3, A4, -⟩ := hA
  have j0 : μ.1 26 b = σ.1 51 b := by have := (A2 b hb).1; rw [show 8 * 0 + b = b by omega] at this; exact this.symm
  have m0 : μ.1 27 b = σ.1 52 b := by have := A3 b hb; rw [show 8 * 0 + b = b by omega] at this; exact this.symm
  have t0 : μ.1 28 b = σ.1 53 b := by have := (A4 b hb).1; rw [show 8 * 0 + b = b by omega] at this; exact this.symm
  have n0 : μ.1 17 0 = σ.1 50 3 := A1.2.trans A1.1.symm
  unfold f_X12_foresees
  simp only [e, e_ck hk, e_nm, nI_clamp (show b < 2 ^ 31 by omega)]
  have q0 : ∀ (x : MSt) (j : Nat) (v : Int32), 51 ≤ j → j ≤ 53 → q_seen x (mI x 0 j v) := fun x j v a c => ⟨fun r hr => m_Ir _ _ _ _ hr, rfl, fun i hi => by rw [m_I, if_neg (by omega)]⟩
  have q3 : q_seen μ (mI (mI (mI μ 0 51 (μ.1 26 b)) 0 52 ((mI μ 0 51 (μ.1 26 b)).1 27 b)) 0 53 ((mI (mI μ 0 51 (μ.1 26 b)) 0 52 ((mI μ 0 51 (μ.1 26 b)).1 27 b)).1 28 b)) := ((q0 _ 51 _ (by omega) (by omega)).trans (q0 _ 52 _ (by omega) (by omega))).trans (q0 _ 53 _ (by omega) (by omega))
  generalize hμ3 : (mI (mI (mI μ 0 51 (μ.1 26 b)) 0 52 ((mI μ 0 51 (μ.1 26 b)).1 27 b)) 0 53 ((mI (mI μ 0 51 (μ.1 26 b)) 0 52 ((mI μ 0 51 (μ.1 26 b)).1 27 b)).1 28 b)) = μ3 at q3 ⊢
  have v51 : μ3.1 0 51 = σ.1 51 b := by rw [← hμ3]; simp [m_I, j0]
  have v52 : μ3.1 0 52 = σ.1 52 b := by rw [← hμ3]; simp [m_I, m0]
  have v53 : μ3.1 0 53 = σ.1 53 b := by rw [← hμ3]; simp [m_I, t0]
  have fin : ∀ (μ4 : MSt) (t : Int32 × Int32 × Int32), q_seen μ μ4 → (μ4.1 0 51, μ4.1 0 52, μ4.1 0 53) = t → ∃ μ', f_X12_foresees_b63 0 (nI b) (nI d) μ4 = some μ' ∧ (μ'.1 0 51, μ'.1 0 52, μ'.1 0 53) = q_fse σ.1 nd b d t ∧ FM μ μ' := by
    intro μ4 t q4 ht
    obtain ⟨μ5, p1, p2, p3⟩ := s_X12_foresees_l 0 (by omega) (nI b) (nI d) nd l3 13 FU 0 μ4 (by rw [q4.1 2 (by decide)]; exact h.ndM) (by omega) (by omega) (by unfold FU; omega)
    refine ⟨μ5, p1, ?_, FM_seen (q4.trans p3)⟩
    rw [p2, ht, q4.1 7 (by decide), q4.1 8 (by decide), q_joy_seen q4, q4.1 17 (by decide), n0]
    unfold q_fse
    refine q_fs_cong _ _ _ (fun i hi => ?_) _ _ _
    obtain ⟨⟨x1, -, p, q⟩, ⟨x2, -, p', q'⟩, x3, -, p'', q''⟩ := h.deed i hi
    refine ⟨by rw [p, q], by rw [p', q'], ?_⟩
    unfold q_joy
    rw [if_neg (by rw [hr.1]; decide), if_neg, p'', q'']
    rw [hr.2.2.1]
    intro ee
    have := congrArg Int32.toInt ee
    rw [nI_toInt (by omega)] at this
    have e1 : (-1 : Int32).toInt = -1 := by decide
    omega
  by_cases c : k = -1
  · rw [if_pos c, if_pos c]
    exact fin μ3 _ q3 (by rw [v51, v52, v53]; rfl)
  · rw [if_neg c, if_neg c, e_ck hk0, c_0]
    obtain ⟨μ4, p1, p2, p3, p4, p5⟩ := s_X12_adds k (μ3.1 17 0) μ3
    rw [p1, e_bvS]
    refine fin μ4 _ (q3.trans p5) ?_
    rw [p2, p3, p4, v51, v52, v53, q3.1 17 (by decide), n0]
    rfl
theorem q_tri_b {nb nl nd nw nk dn : Nat} {σ : MSt} {U : Nat → Nat → Int32} (h : q_TX nb nl nd nw nk σ.1 U) (hA : q_A nb dn 50 σ 0 U) (hdn : dn ≤ 20000) (b d : Nat) (hb : b < 8) (t : Int32 × Int32 × Int32) (ht : t = q_tri σ.1 b ∨ ∃ k, k ≤ 9 ∧ t = q_trik σ.1 b (nI k)) : q_JB (q_fse σ.1 nd b d t).1 ∧ q_LB (q_fse σ.1 nd b d t).2.2 := by
  obtain ⟨A1, A2, A3, A4, -⟩ := hA
  unfold q_fse
  refine q_fs_b _ _ _ (fun i hi => ?_) _ _ _ ?_
  · obtain ⟨-, ⟨x2, z, p', -⟩, x3, y, p'', -⟩ := h.deed i hi
    exact ⟨⟨x2, z, p'⟩, x3, y, p''⟩
  · rcases ht with rfl | ⟨k, hk, rfl⟩
    · exact ⟨(A2 b hb).2, (A4 b hb).2⟩
    · refine ⟨q_min_b (A2 b hb).2 k hk, ?_⟩
      show q_LB (k_max (σ.1 53 b) (σ.1 50 3))
      rw [A1.1]
      exact q_max_b (A4 b hb).2 dn hdn
theorem s_X12_willHold {nb nl nd nw nk dn : Nat} {σ μ : MSt} (h : q_TX nb nl nd nw nk σ.1 μ.1) (hA : q_A nb dn 50 σ 0 μ.1) (hdn : dn ≤ 20000) (hr : q_rest μ.1) (b d : Nat) (hb : b < 8) (hd : d ≤ 20000) (k : Int32) (hk : k = -1 ∨ ∃ j, j ≤ 9 ∧ k = nI j) : ∃ μ', f_X12_willHold 0 (nI b) (nI d) k μ = some (q_hs σ.1 nw d (q_fse σ.1 nd b d (if k = -1 then q_tri σ.1 b else q_trik σ.1 b k)), μ') ∧ FM μ μ' := by
  obtain ⟨μ1, p1, p2, p3⟩ := s_X12_foresees h hA hr b d hb k
  have hb2 := q_tri_b h hA hdn b d hb (if k = -1 then q_tri σ.1 b else q_trik σ.1 b k) (by
    by_cases c : k = -1
    · rw [if_pos c]; exact Or.inl rfl
    · rw [if_neg c]
      rcases hk with q | ⟨j, hj, e⟩
      · exact absurd q c
      · exact Or.inr ⟨j, hj, by rw [e]⟩)
  generalize q_fse σ.1 nd b d (if k = -1 then q_tri σ.1 b else q_trik σ.1 b k) = t at p2 hb2 ⊢
  have hT : q_TL σ.1 μ1.1 := q_TL_eq h.law rfl rfl rfl rfl (p3.1 11 (by decide)) (p3.1 12 (by decide)) (p3.1 13 (by decide)) (p3.1 14 (by decide))
  have e1 : μ1.1 0 51 = t.1 := by rw [← p2]
  have e2 : μ1.1 0 52 = t.2.1 := by rw [← p2]
  have e3 : μ1.1 0 53 = t.2.2 := by rw [← p2]
  obtain ⟨μ2, r1, r2⟩ := s_X12_holdsBy σ.1 t.1 t.2.1 t.2.2 d hd 0 μ1 nw (by rw [p3.1 2 (by decide)]; exact h.nwM) h.le.2.2.2.1 hT hb2.1 hb2.2
  unfold f_X12_willHold
  rw [p1, e_bvS, e1, e2, e3, r1, e_bdS, e_ck (k_bo01 (q_hold01 _ _ _ _ _ _ _)), q_gM_FM p3, q_gM_rest h hr d (by omega)]
  exact ⟨μ2, rfl, p3.trans r2⟩
