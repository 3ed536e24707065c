def q_kv (σ : MSt) : Int32 := if σ.1 78 8 = -1 then σ.1 78 7 else k_min (σ.1 78 8) (σ.1 78 7)
def q_kw (μ : MSt) : Int32 := if μ.1 0 60 = -1 then μ.1 0 59 else μ.1 0 60
theorem s_kv (σ : MSt) : f_X6_knownBy σ = some (q_kv σ, σ) := by
  unfold f_X6_knownBy f_X6_knownBy_b26 q_kv
  split <;> rfl
theorem s_kw (μ : MSt) : f_X12_knownMany μ = some (q_kw μ, μ) := by
  unfold f_X12_knownMany f_X12_knownMany_b19 q_kw
  split <;> rfl
/-- both know the first kn notes; what stands in the class isn't out in the reference -/
def q_so (σ μ : MSt) (i : Nat) : Prop := (σ.1 83 i = 1 ∧ μ.1 38 i = 0) ∨ (σ.1 83 i = 0 ∧ μ.1 38 i = 1)
def q_W (nb nl nd nw nk kn : Nat) (x : Int32) (σ μ : MSt) : Prop := q_TX nb nl nd nw nk σ.1 μ.1 ∧ (kn ≤ 24 ∧ q_kv σ = nI kn ∧ q_kw μ = nI kn ∧ ∀ i, i < kn → q_nt nb σ μ.1 i) ∧ q_S2 μ.1 ∧ (μ.1 0 46 = 0 ∧ μ.1 0 50 = -1 ∧ μ.1 0 48 = x) ∧ ∀ i, i < kn → q_so σ μ i
theorem q_nt.eq {nb : Nat} {σ σ' μ μ' : MSt} {i : Nat} (h : q_nt nb σ μ.1 i) (c : ∀ r, 78 < r → r < 83 → σ'.1 r = σ.1 r) (u : ∀ r, 33 < r → r < 38 → μ'.1 r = μ.1 r) : q_nt nb σ' μ'.1 i := by
  unfold q_nt at h ⊢
  rw [c 79 (by omega) (by omega), c 80 (by omega) (by omega), c 81 (by omega) (by omega), c 82 (by omega) (by omega), u 34 (by omega) (by omega), u 35 (by omega) (by omega), u 36 (by omega) (by omega), u 37 (by omega) (by omega)]
  exact h
theorem q_W.fr {nb nl nd nw nk kn : Nat} {x : Int32} {σ σ' μ μ' : MSt} (h : q_W nb nl nd nw nk kn x σ μ) (f : FO 70 σ σ') (g : FM μ μ') : q_W nb nl nd nw nk kn x σ' μ' := by
  obtain ⟨T, ⟨k1, k2, k3, k4⟩, S, ⟨a, b, c⟩, so⟩ := h
  refine ⟨T.eq (fun r _ _ => f.1 r (by omega)) (fun r _ _ => g.1 r (by omega)), ⟨k1, ?_, ?_, fun i hi => (k4 i hi).eq (fun r _ _ => f.1 r (by omega)) (fun r _ _ => g.1 r (by omega))⟩, ?_, ⟨?_, ?_, ?_⟩, fun i hi => ?_⟩
  · unfold q_kv at k2 ⊢; rw [f.1 78 (by omega)]; exact k2
  · unfold q_kw at k3 ⊢; rw [g.2 59 (by omega) (by omega), g.2 60 (by omega) (by omega)]; exact k3
  · unfold q_S2 at S ⊢; rw [g.1 17 (by omega), g.1 26 (by omega), g.1 27 (by omega), g.1 28 (by omega)]; exact S
  · rw [g.2 46 (by omega) (by omega)]; exact a
  · rw [g.2 50 (by omega) (by omega)]; exact b
  · rw [g.2 48 (by omega) (by omega)]; exact c
  · unfold q_so; rw [f.1 83 (by omega), g.1 38 (by omega)]; exact so i hi
theorem q_W.m49 {nb nl nd nw nk kn : Nat} {x : Int32} {σ μ : MSt} (h : q_W nb nl nd nw nk kn x σ μ) (v : Int32) : q_W nb nl nd nw nk kn x σ (mI μ 0 49 v) := by
  obtain ⟨T, ⟨k1, k2, k3, k4⟩, S, ⟨a, b, c⟩, so⟩ := h
  have g : ∀ r, r ≠ 0 → (mI μ 0 49 v).1 r = μ.1 r := fun r hr => m_Ir _ _ _ _ hr
  have g0 : ∀ j, j ≠ 49 → (mI μ 0 49 v).1 0 j = μ.1 0 j := fun j hj => by rw [m_I, if_neg (by omega)]
  refine ⟨T.eq (fun _ _ _ => rfl) (fun r _ _ => g r (by omega)), ⟨k1, k2, ?_, fun i hi => (k4 i hi).eq (fun _ _ _ => rfl) (fun r _ _ => g r (by omega))⟩, ?_, ⟨?_, ?_, ?_⟩, fun i hi => ?_⟩
  · unfold q_kw at k3 ⊢; rw [g0 59 (by omega), g0 60 (by omega)]; exact k3
  · unfold q_S2 at S ⊢; rw [g 17 (by omega), g 26 (by omega), g 27 (by omega), g 28 (by omega)]; exact S
  · rw [g0 46 (by omega)]; exact a
  · rw [g0 50 (by omega)]; exact b
  · rw [g0 48 (by omega)]; exact c
  · unfold q_so; rw [g 38 (by omega)]; exact so i hi
/-- frame of the reference here: FM and 48, 49 of the object -/
def FT (μ μ' : MSt) : Prop := (∀ r, r ≠ 0 → μ'.1 r = μ.1 r) ∧ ∀ j, j ≠ 31 → j ≠ 48 → j ≠ 49 → (j < 51 ∨ 53 < j) → μ'.1 0 j = μ.1 0 j
theorem FT.rf {μ : MSt} : FT μ μ := ⟨fun _ _ => rfl, fun _ _ _ _ _ => rfl⟩
theorem FT.trans {μ μ1 μ2 : MSt} (h : FT μ μ1) (h2 : FT μ1 μ2) : FT μ μ2 := ⟨fun r hr => (h2.1 r hr).trans (h.1 r hr), fun j a b c d => (h2.2 j a b c d).trans (h.2 j a b c d)⟩
theorem FT.ofM {μ μ' : MSt} (h : FM μ μ') : FT μ μ' := ⟨h.1, fun j a _ _ d => h.2 j a d⟩
theorem FT.m (μ : MSt) (j : Nat) (v : Int32) (h : j = 48 ∨ j = 49) : FT μ (mI μ 0 j v) := ⟨fun r hr => m_Ir _ _ _ _ hr, fun i _ b c _ => by rw [m_I, if_neg (by omega)]⟩
section
variable {nb nl nd nw nk kn : Nat} {x : Int32}
theorem q_agr_l (jj : Nat) (hj : jj ≤ 9) : ∀ (k n1 n2 i : Nat) (σ μ : MSt), i + k = kn → k < n1 → k < n2 → q_W nb nl nd nw nk kn x σ μ → μ.1 0 49 = nI jj → ∃ r σ' μ', f_X6_agrees_b13 n1 x (nI jj) (nI kn) (nI i) σ = some (r, σ') ∧ f_X12_areSo_b2 n2 (nI i) μ = some (r, μ') ∧ FO 70 σ σ' ∧ FM μ μ' := by
  intro k
  induction k with
  | zero =>
    intro n1 n2 i σ μ h1 h2 h3 hW h49
    obtain ⟨n1, rfl⟩ : ∃ z, n1 = z + 1 := ⟨n1 - 1, by omega⟩
    obtain ⟨n2, rfl⟩ : ∃ z, n2 = z + 1 := ⟨n2 - 1, by omega⟩
    have hkn := hW.2.1.1
    show ∃ r σ' μ', f_X6_agrees_b13_s (f_X6_agrees_b13 n1) x (nI jj) (nI kn) (nI i) σ = some (r, σ') ∧ f_X12_areSo_b2_s (f_X12_areSo_b2 n2) (nI i) μ = some (r, μ') ∧ _
    unfold f_X6_agrees_b13_s f_X12_areSo_b2_s
    rw [s_kw, e_bdS, hW.2.1.2.2.1, if_pos (nI_le (by omega) (by omega)), if_pos (nI_le (by omega) (by omega))]
    exact ⟨_, _, _, rfl, rfl, FO.rf, FM.rf⟩
  | succ k ih =>
    intro n1 n2 i σ μ h1 h2 h3 hW h49
    obtain ⟨n1, rfl⟩ : ∃ z, n1 = z + 1 := ⟨n1 - 1, by omega⟩
    obtain ⟨n2, rfl⟩ : ∃ z, n2 = z + 1 := ⟨n2 - 1, by omega⟩
    obtain ⟨T, ⟨k1, k2, k3, k4⟩, S, ⟨a46, a50, a48⟩, so⟩ := id hW
    have ki : k_inb (nI i) 24 = true := e_in (by omega) (by decide)
    show ∃ r σ' μ', f_X6_agrees_b13_s (f_X6_agrees_b13 n1) x (nI jj) (nI kn) (nI i) σ = some (r, σ') ∧ f_X12_areSo_b2_s (f_X12_areSo_b2 n2) (nI i) μ = some (r, μ') ∧ _
    unfold f_X6_agrees_b13_s f_X12_areSo_b2_s f_X6_agrees_b75 f_X12_areSo_b58
    rw [s_kw, e_bdS, k3, if_neg (nI_ge (by omega) (by omega)), if_neg (nI_ge (by omega) (by omega))]
    simp only [e_ck ki, e_nm, nI_clamp (show i < 2 ^ 31 by omega), nI_1]
    obtain ⟨n1', nt⟩ := k4 i (by omega)
    have skip : ∀ (σ1 μ1 : MSt), FO 70 σ σ1 → FM μ μ1 → ∃ r σ' μ', f_X6_agrees_b13 n1 x (nI jj) (nI kn) (nI (i + 1)) σ1 = some (r, σ') ∧ f_X12_areSo_b2 n2 (nI (i + 1)) μ1 = some (r, μ') ∧ FO 70 σ σ' ∧ FM μ μ' := by
      intro σ1 μ1 f g
      obtain ⟨r, σ', μ', y1, y2, y3, y4⟩ := ih n1 n2 (i + 1) σ1 μ1 (by omega) (by omega) (by omega) (hW.fr f g) (by rw [g.2 49 (by omega) (by omega)]; exact h49)
      exact ⟨r, σ', μ', y1, y2, f.trans y3, g.trans y4⟩
    rw [← n1']
    rcases so i (by omega) with ⟨s1, s2⟩ | ⟨s1, s2⟩
    · rw [if_neg (by rw [s1]; decide), if_pos s2]
      rcases nt with ⟨p0, ⟨b, hb, p1, p2⟩, ⟨dd, hd, p3, p4⟩, p5, p6⟩ | ⟨z, hz, p0⟩
      · rw [if_pos p0, if_pos p0, p1, p2, p3, p4]
        obtain ⟨σ1, y1, y2⟩ := s_X3_sft μ.1 b dd (by omega) x (nI jj) σ T
        obtain ⟨μ1, z1, z2⟩ := s_X12_wh2 T S a46 a50 b dd (by have := T.le.1; omega) (by omega) jj hj h49
        rw [a48] at z1
        rw [y1, e_bdS, z1, e_bdS, y2.1 81 (by omega), z2.1 36 (by omega), ← p5]
        by_cases c : q_ft σ.1 nd nw b dd x (nI jj) = σ.1 81 i
        · rw [if_pos c, if_pos c]; exact skip σ1 μ1 y2 z2
        · rw [if_neg c, if_neg c]; exact ⟨_, _, _, rfl, rfl, y2, z2⟩
      · rw [p0, if_neg (q_n1 (by omega)), if_neg (q_n1 (by omega))]
        exact skip σ μ FO.rf FM.rf
    · rw [if_pos s1, if_neg (by rw [s2]; decide)]
      exact skip σ μ FO.rf FM.rf
theorem q_agr {σ μ : MSt} (jj : Nat) (hj : jj ≤ 9) (hW : q_W nb nl nd nw nk kn x σ μ) (h49 : μ.1 0 49 = nI jj) : ∃ r σ' μ', f_X6_agrees x (nI jj) σ = some (r, σ') ∧ f_X12_areSo μ = some (r, μ') ∧ FO 70 σ σ' ∧ FM μ μ' := by
  have k1 := hW.2.1.1
  have em : k_min (nI kn) 24 = nI kn := by unfold k_min; rw [if_neg (show ¬ (24 : Int32) < nI kn from nI_nlt (a := 24) (b := kn) (by omega) (by decide))]
  unfold f_X6_agrees
  rw [s_kv, e_bdS, hW.2.1.2.1, em, e_nm]
  exact q_agr_l jj hj kn FU FU 0 σ μ (by omega) (by unfold FU; omega) (by unfold FU; omega) hW h49
theorem q_joys_l : ∀ (k n1 n2 j : Nat) (bits : Int32) (σ μ : MSt), j + k = 10 → k < n1 → k < n2 → q_W nb nl nd nw nk kn x σ μ → ∃ r σ' μ', f_X6_joysOf_b8 n1 x bits (nI j) σ = some (r, σ') ∧ f_X12_wasOf_b85 n2 bits (nI j) μ = some (r, mI μ' 0 48 (-1)) ∧ FO 70 σ σ' ∧ FT μ μ' := by
  intro k
  induction k with
  | zero =>
    intro n1 n2 j bits σ μ h1 h2 h3 hW
    obtain ⟨n1, rfl⟩ : ∃ z, n1 = z + 1 := ⟨n1 - 1, by omega⟩
    obtain ⟨n2, rfl⟩ : ∃ z, n2 = z + 1 := ⟨n2 - 1, by omega⟩
    have hj : j = 10 := by omega
    subst hj
    exact ⟨bits, σ, μ, rfl, rfl, FO.rf, FT.rf⟩
  | succ k ih =>
    intro n1 n2 j bits σ μ h1 h2 h3 hW
    obtain ⟨n1, rfl⟩ : ∃ z, n1 = z + 1 := ⟨n1 - 1, by omega⟩
    obtain ⟨n2, rfl⟩ : ∃ z, n2 = z + 1 := ⟨n2 - 1, by omega⟩
    show ∃ r σ' μ', f_X6_joysOf_b8_s (f_X6_joysOf_b8 n1) x bits (nI j) σ = some (r, σ') ∧ f_X12_wasOf_b85_s (f_X12_wasOf_b85 n2) bits (nI j) μ = some (r, mI μ' 0 48 (-1)) ∧ _
    unfold f_X6_joysOf_b8_s f_X12_wasOf_b85_s f_X6_joysOf_b29 f_X12_wasOf_b111
    rw [if_neg (show ¬ (9 : Int32) < nI j from nI_nlt (a := 9) (b := j) (by omega) (by decide)), if_neg (show ¬ (9 : Int32) < nI j from nI_nlt (a := 9) (b := j) (by omega) (by decide))]
    simp only [e_nm, nI_1]
    have hW2 := hW.m49 (nI j)
    obtain ⟨r, σ1, μ1, y1, y2, y3, y4⟩ := q_agr j (by omega) hW2 (by rw [m_I]; simp)
    rw [y1, e_bdS, y2, e_bdS]
    have nx : ∀ b', ∃ r σ' μ', f_X6_joysOf_b8 n1 x b' (nI (j + 1)) σ1 = some (r, σ') ∧ f_X12_wasOf_b85 n2 b' (nI (j + 1)) μ1 = some (r, mI μ' 0 48 (-1)) ∧ FO 70 σ σ' ∧ FT μ μ' := by
      intro b'
      obtain ⟨r, σ', μ', z1, z2, z3, z4⟩ := ih n1 n2 (j + 1) b' σ1 μ1 (by omega) (by omega) (by omega) (hW2.fr y3 y4)
      exact ⟨r, σ', μ', z1, z2, y3.trans z3, ((FT.m μ 49 _ (by omega)).trans (FT.ofM y4)).trans z4⟩
    by_cases c : r = 0
    · rw [if_pos c, if_pos c, show bits ||| (0 : Int32) = bits from by simp]
      exact nx bits
    · rw [if_neg c, if_neg c]
      exact nx _
theorem q_strike_d (x1 : Int32) (nb : Nat) : ∀ (m n1 n2 : Nat) (σ μ : MSt), m ≤ kn → kn ≤ 24 → m < n1 → m < n2 → (∀ i, i < kn → q_nt nb σ μ.1 i) → (∀ i, i < kn → q_so σ μ i) → ∃ σ' μ', f_X6_strikeOut_b34 n1 (nI m + (-1)) σ = some σ' ∧ f_X12_wasOf_b35 n2 x1 (nI m + (-1)) μ = f_X12_wasOf_b85 FU 0 0 (mI μ' 0 48 x1) ∧ (∀ i, i < kn → q_so σ' μ' i) ∧ (∀ r, r ≠ 83 → σ'.1 r = σ.1 r) ∧ σ'.2 = σ.2 ∧ (∀ r, r ≠ 38 → μ'.1 r = μ.1 r) := by
  intro m
  induction m with
  | zero =>
    intro n1 n2 σ μ hm hkn h1 h2 nt so
    obtain ⟨n1, rfl⟩ : ∃ z, n1 = z + 1 := ⟨n1 - 1, by omega⟩
    obtain ⟨n2, rfl⟩ : ∃ z, n2 = z + 1 := ⟨n2 - 1, by omega⟩
    have e : nI 0 + (-1) = -1 := by decide
    rw [e]
    exact ⟨σ, μ, rfl, rfl, so, fun _ _ => rfl, rfl, fun _ _ => rfl⟩
  | succ m ih =>
    intro n1 n2 σ μ hm hkn h1 h2 nt so
    obtain ⟨n1, rfl⟩ : ∃ z, n1 = z + 1 := ⟨n1 - 1, by omega⟩
    obtain ⟨n2, rfl⟩ : ∃ z, n2 = z + 1 := ⟨n2 - 1, by omega⟩
    have km : k_inb (nI m) 24 = true := e_in (by omega) (by decide)
    rw [pk_m1]
    show ∃ σ' μ', f_X6_strikeOut_b34_s (f_X6_strikeOut_b34 n1) (nI m) σ = some σ' ∧ f_X12_wasOf_b35_s (f_X12_wasOf_b35 n2) x1 (nI m) μ = _ ∧ _
    unfold f_X6_strikeOut_b34_s f_X12_wasOf_b35_s f_X6_strikeOut_b70 f_X12_wasOf_b70
    rw [if_neg (nI_pos (by omega)), if_neg (nI_pos (by omega))]
    simp only [e_ck km, e_nm, nI_clamp (show m < 2 ^ 31 by omega)]
    have skip := ih n1 n2 σ μ (by omega) hkn (by omega) (by omega) nt so
    obtain ⟨e37, ntm⟩ := nt m (by omega)
    rw [← e37]
    rcases so m (by omega) with ⟨s1, s2⟩ | ⟨s1, s2⟩
    · rw [if_neg (by rw [s1]; decide), if_pos s2]
      rcases ntm with ⟨p0, -⟩ | ⟨z, hz, p0⟩
      · rw [p0, if_pos (by decide), if_pos rfl]
        exact skip
      · have kz : k_inb (nI z) 24 = true := e_in (by omega) (by decide)
        rw [p0, if_neg (nI_pos (by omega)), if_neg (nI_ge hz (by omega)), if_neg (q_n1 (by omega)), e_ck kz, e_ck kz, nI_clamp (by omega), q_nar (Or.inl rfl), q_nar (Or.inr rfl)]
        obtain ⟨σ', μ', y1, y2, y3, y4, y5, y6⟩ := ih n1 n2 (mI σ 83 z 0) (mI μ 38 z 1) (by omega) hkn (by omega) (by omega) (fun i hi => (nt i hi).eq (fun r _ _ => m_Ir _ _ _ _ (by omega)) (fun r _ _ => m_Ir _ _ _ _ (by omega))) (fun i hi => by
          unfold q_so
          rw [m_I, m_I]
          by_cases c : i = z
          · rw [if_pos ⟨rfl, c⟩, if_pos ⟨rfl, c⟩]; exact Or.inr ⟨rfl, rfl⟩
          · rw [if_neg (fun q => c q.2), if_neg (fun q => c q.2)]; exact so i hi)
        exact ⟨σ', μ', y1, y2, y3, fun r hr => by rw [y4 r hr, m_Ir _ _ _ _ hr], by rw [y5]; rfl, fun r hr => by rw [y6 r hr, m_Ir _ _ _ _ hr]⟩
    · rw [if_pos s1, if_neg (by rw [s2]; decide)]
      exact skip
theorem q_sub1 (m : Nat) : nI m - 1 = nI m + (-1) := by
  rw [Int32.sub_eq_add_neg]
theorem q_strike_u (x1 : Int32) (nb : Nat) : ∀ (k n1 n2 i : Nat) (σ μ : MSt), i + k = kn → kn ≤ 24 → k < n1 → k < n2 → q_kw μ = nI kn → (∀ i, i < kn → q_nt nb σ μ.1 i) → (∀ j, j < i → q_so σ μ j) → ∃ σ' μ', f_X6_strikeOut_b12 n1 (nI kn) (nI i) σ = some σ' ∧ f_X12_wasOf_b7 n2 x1 (nI i) μ = f_X12_wasOf_b85 FU 0 0 (mI μ' 0 48 x1) ∧ (∀ i, i < kn → q_so σ' μ' i) ∧ (∀ r, r ≠ 83 → σ'.1 r = σ.1 r) ∧ σ'.2 = σ.2 ∧ (∀ r, r ≠ 38 → μ'.1 r = μ.1 r) := by
  intro k
  induction k with
  | zero =>
    intro n1 n2 i σ μ h0 hkn h1 h2 kw nt so
    obtain ⟨n1, rfl⟩ : ∃ z, n1 = z + 1 := ⟨n1 - 1, by omega⟩
    obtain ⟨n2, rfl⟩ : ∃ z, n2 = z + 1 := ⟨n2 - 1, by omega⟩
    show ∃ σ' μ', f_X6_strikeOut_b12_s (f_X6_strikeOut_b12 n1) (nI kn) (nI i) σ = some σ' ∧ f_X12_wasOf_b7_s (f_X12_wasOf_b7 n2) x1 (nI i) μ = _ ∧ _
    unfold f_X6_strikeOut_b12_s f_X12_wasOf_b7_s
    rw [s_kw, e_bdS, kw, if_pos (nI_le (by omega) (by omega)), if_pos (nI_le (by omega) (by omega)), s_kw, e_bdS, kw, e_nm, e_nm, q_sub1]
    exact q_strike_d x1 nb kn FU FU σ μ (by omega) hkn (by unfold FU; omega) (by unfold FU; omega) nt (fun j hj => so j (by omega))
  | succ k ih =>
    intro n1 n2 i σ μ h0 hkn h1 h2 kw nt so
    obtain ⟨n1, rfl⟩ : ∃ z, n1 = z + 1 := ⟨n1 - 1, by omega⟩
    obtain ⟨n2, rfl⟩ : ∃ z, n2 = z + 1 := ⟨n2 - 1, by omega⟩
    have ki : k_inb (nI i) 24 = true := e_in (by omega) (by decide)
    show ∃ σ' μ', f_X6_strikeOut_b12_s (f_X6_strikeOut_b12 n1) (nI kn) (nI i) σ = some σ' ∧ f_X12_wasOf_b7_s (f_X12_wasOf_b7 n2) x1 (nI i) μ = _ ∧ _
    unfold f_X6_strikeOut_b12_s f_X12_wasOf_b7_s
    rw [s_kw, e_bdS, kw, if_neg (nI_ge (by omega) (by omega)), if_neg (nI_ge (by omega) (by omega)), e_ck ki, e_ck ki]
    simp only [e_nm, nI_clamp (show i < 2 ^ 31 by omega), nI_1, q_nar (x := 1) (Or.inr rfl), q_nar (x := 0) (Or.inl rfl)]
    obtain ⟨σ', μ', y1, y2, y3, y4, y5, y6⟩ := ih n1 n2 (i + 1) (mI σ 83 i 1) (mI μ 38 i 0) (by omega) hkn (by omega) (by omega) (by unfold q_kw at kw ⊢; rw [m_Ir _ _ _ _ (by omega)]; exact kw) (fun i hi => (nt i hi).eq (fun r _ _ => m_Ir _ _ _ _ (by omega)) (fun r _ _ => m_Ir _ _ _ _ (by omega))) (fun j hj => by
      unfold q_so
      rw [m_I, m_I]
      by_cases c : j = i
      · rw [if_pos ⟨rfl, c⟩, if_pos ⟨rfl, c⟩]; exact Or.inl ⟨rfl, rfl⟩
      · rw [if_neg (fun q => c q.2), if_neg (fun q => c q.2)]; exact so j (by omega))
    exact ⟨σ', μ', y1, y2, y3, fun r hr => by rw [y4 r hr, m_Ir _ _ _ _ hr], by rw [y5]; rfl, fun r hr => by rw [y6 r hr, m_Ir _ _ _ _ hr]⟩
end
/-- the joys that a deed may have been of, in both; behind it all but scratch is as it was -/
theorem q_was {nb nl nd nw nk : Nat} {σ μ : MSt} (T : q_TX nb nl nd nw nk σ.1 μ.1) (O : q_NO nb σ μ.1) (hr : q_rest μ.1) (x : Int32) : ∃ r σ' μ', f_X6_joysOf x σ = some (r, σ') ∧ f_X12_wasOf x μ = some (r, μ') ∧ FL σ σ' ∧ FX μ μ' ∧ q_S2 μ'.1 := by
  obtain ⟨kn, hkn, e1, e2, nt⟩ := s_known O
  rw [s_kv] at e1
  rw [s_kw] at e2
  have kv : q_kv σ = nI kn := by injection e1 with e1; injection e1
  have kw : q_kw μ = nI kn := by injection e2 with e2; injection e2
  obtain ⟨μ0, s1, t17, -, -, -, -, -, -, -, -, tb, fa⟩ := s_X12_starts 2 (by omega) μ nb T.le.1 T.nbM
  have s1' : f_X12_starts 2 μ = some μ0 := s1
  have em : k_min (nI kn) 24 = nI kn := by unfold k_min; rw [if_neg (show ¬ (24 : Int32) < nI kn from nI_nlt (a := 24) (b := kn) (by omega) (by decide))]
  have kw0 : q_kw μ0 = nI kn := by unfold q_kw at kw ⊢; rw [fa.1 0 (by omega)]; exact kw
  obtain ⟨σ1, μ1, y1, y2, y3, y4, y5, y6⟩ := q_strike_u x nb kn FU FU 0 σ μ0 (by omega) hkn (by unfold FU; omega) (by unfold FU; omega) kw0 (fun i hi => (nt i hi).eq (fun _ _ _ => rfl) (fun r _ _ => fa.1 r (by omega))) (fun j hj => by omega)
  have y1' : f_X6_strikeOut_b12 FU (nI kn) 0 σ = some σ1 := y1
  have y2' : f_X12_wasOf_b7 FU x 0 μ0 = _ := y2
  have g : ∀ r, r ≠ 0 → (mI μ1 0 48 x).1 r = μ1.1 r := fun r hr => m_Ir _ _ _ _ hr
  have g0 : ∀ j, j ≠ 48 → (mI μ1 0 48 x).1 0 j = μ.1 0 j := fun j hj => by rw [m_I, if_neg (by omega), y6 0 (by omega), fa.1 0 (by omega)]
  have S : q_S2 (mI μ1 0 48 x).1 := by
    unfold q_S2
    rw [g 17 (by omega), g 26 (by omega), g 27 (by omega), g 28 (by omega), y6 17 (by omega), y6 26 (by omega), y6 27 (by omega), y6 28 (by omega)]
    exact ⟨t17, fun b hb => tb b hb⟩
  have hW : q_W nb nl nd nw nk kn x σ1 (mI μ1 0 48 x) := by
    refine ⟨T.eq (fun r _ _ => y4 r (by omega)) (fun r _ _ => by rw [g r (by omega), y6 r (by omega), fa.1 r (by omega)]), ⟨hkn, ?_, ?_, fun i hi => (nt i hi).eq (fun r _ _ => y4 r (by omega)) (fun r _ _ => by rw [g r (by omega), y6 r (by omega), fa.1 r (by omega)])⟩, S, ⟨?_, ?_, ?_⟩, fun i hi => ?_⟩
    · unfold q_kv at kv ⊢; rw [y4 78 (by omega)]; exact kv
    · unfold q_kw at kw ⊢; rw [g0 59 (by omega), g0 60 (by omega)]; exact kw
    · rw [g0 46 (by omega)]; exact hr.1
    · rw [g0 50 (by omega)]; exact hr.2.2.2
    · rw [m_I]; simp
    · unfold q_so; rw [g 38 (by omega)]; exact y3 i hi
  obtain ⟨r, σ', μ', z1, z2, z3, z4⟩ := q_joys_l 10 FU FU 0 0 σ1 (mI μ1 0 48 x) (by omega) (by unfold FU; omega) (by unfold FU; omega) hW
  have z1' : f_X6_joysOf_b8 FU x 0 0 σ1 = _ := z1
  have z2' : f_X12_wasOf_b85 FU 0 0 (mI μ1 0 48 x) = _ := z2
  unfold f_X6_joysOf f_X6_strikeOut f_X12_wasOf
  rw [s_kv, e_bdS, kv, em, e_nm, y1', e_bvS, z1', s1', e_bvS, y2', z2']
  have h0 : ∀ q, q ≠ 0 → (mI μ' 0 48 (-1)).1 q = μ1.1 q := fun q hq => by rw [m_Ir _ _ _ _ hq, z4.1 q hq, g q hq]
  refine ⟨r, σ', _, rfl, rfl, FL.trans ⟨fun q hq => y4 q (by omega), fun q _ _ => by rw [y5]⟩ (FL.of70 z3), ⟨fun q hq => ?_, fun q a b i c d => ?_, fun q a b i c => ?_, fun j a b c d => ?_⟩, ?_⟩
  · rw [h0 q (by omega), y6 q (by omega), fa.1 q (by omega)]
  · rw [h0 q (by omega), y6 q (by omega), fa.2.1 q a b i d]
  · rw [h0 q (by omega), y6 q (by omega), fa.2.2 q a b i (by omega)]
  · by_cases e : j = 48
    · subst e; rw [hr.2.2.1, m_I]; simp
    · rw [m_I, if_neg (by omega), z4.2 j b e c d, g0 j e]
  · unfold q_S2
    rw [h0 17 (by omega), h0 26 (by omega), h0 27 (by omega), h0 28 (by omega), y6 17 (by omega), y6 26 (by omega), y6 27 (by omega), y6 28 (by omega)]
    exact ⟨t17, fun b hb => tb b hb⟩
theorem sim_was : Sim_was RR := by
  intro σ μ a0 h
  have hk := h.thr
  unfold f_X11_was f_X12_was f_X11_was_b23 f_X12_was_b22
  rw [e_nm]
  generalize mI μ 0 0 0 = μ0 at hk
  obtain ⟨nb, nl, nd, nw, nk, dn, T, hdn, A, I, N, O, P, F, W, hr⟩ := id hk
  rw [s_X0_hasDeed 10 a0 σ nd T.ndC T.le.2.2.1, s_X12_isDeed a0 _ nd T.ndM T.le.2.2.1, e_bdS, e_bdS]
  by_cases c : 0 ≤ a0.toInt ∧ a0.toInt < nd
  · rw [if_pos c, if_neg q_t10, if_neg q_t10]
    obtain ⟨r, σ', μ', y1, y2, y3, y4, -⟩ := q_was T O hr a0
    rw [y1, e_bdS, y2, e_bdS]
    exact ⟨r, σ', μ', rfl, rfl, hk.fr y3 y4⟩
  · rw [if_neg c, if_pos rfl, if_pos rfl]; exact ⟨_, _, _, rfl, rfl, hk⟩
