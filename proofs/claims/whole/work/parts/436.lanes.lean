/-! LANES COUNTED: the levels of class and reference are the distances -/
def q_LV (nb : Nat) (aj : Nat → Nat → Prop) (st : Nat) (v : Nat → Int32) : Prop :=
  (∀ c, c < nb → v c = -1 ∨ ∃ m, m ≤ 8 ∧ v c = nI m) ∧ v st = nI 0 ∧ (∀ c, c < nb → v c = nI 0 → c = st) ∧
  (∀ b c, b < nb → c < nb → aj b c → ∀ m, m ≤ 8 → v b = nI m → ∃ m', m' ≤ m + 1 ∧ m' ≤ 8 ∧ v c = nI m') ∧
  (∀ c, c < nb → ∀ m, m < 8 → v c = nI (m + 1) → ∃ b, b < nb ∧ aj b c ∧ v b = nI m)
theorem q_LV_le {nb st : Nat} {aj : Nat → Nat → Prop} {v w : Nat → Int32} (hst : st < nb) (hv : q_LV nb aj st v) (hw : q_LV nb aj st w) : ∀ m, m ≤ 8 → ∀ c, c < nb → v c = nI m → ∃ m', m' ≤ m ∧ m' ≤ 8 ∧ w c = nI m' := by
  intro m
  induction m with
  | zero =>
    intro _ c hc e
    have := hv.2.2.1 c hc e
    subst this
    exact ⟨0, by omega, by omega, hw.2.1⟩
  | succ m ih =>
    intro hm c hc e
    obtain ⟨b, hb, ab, eb⟩ := hv.2.2.2.2 c hc m (by omega) e
    obtain ⟨m', h1, h2, e'⟩ := ih (by omega) b hb eb
    obtain ⟨m'', g1, g2, e''⟩ := hw.2.2.2.1 b c hb hc ab m' h2 e'
    exact ⟨m'', by omega, g2, e''⟩
theorem q_LV_eq {nb st : Nat} {aj : Nat → Nat → Prop} {v w : Nat → Int32} (hst : st < nb) (hv : q_LV nb aj st v) (hw : q_LV nb aj st w) : ∀ c, c < nb → v c = w c := by
  intro c hc
  rcases hv.1 c hc with e | ⟨m, hm, e⟩
  · rcases hw.1 c hc with e' | ⟨m', hm', e'⟩
    · rw [e, e']
    · obtain ⟨m'', -, g2, e''⟩ := q_LV_le hst hw hv m' hm' c hc e'
      rw [e] at e''
      exact absurd e''.symm (q_n1 (by omega))
  · obtain ⟨m', h1, h2, e'⟩ := q_LV_le hst hv hw m hm c hc e
    obtain ⟨m'', g1, g2, e''⟩ := q_LV_le hst hw hv m' h2 c hc e'
    rw [e] at e''
    have := (nI_eq (by omega) (by omega)).mp e''
    have : m = m' := by omega
    rw [e, e', this]
def q_ctb (p : Nat → Bool) : Nat → Nat
  | 0 => 0
  | n + 1 => q_ctb p n + (if p n then 1 else 0)
theorem q_ctb_le (p : Nat → Bool) : ∀ n, q_ctb p n ≤ n := by
  intro n
  induction n with
  | zero => exact Nat.le_refl 0
  | succ n ih => show q_ctb p n + (if p n then 1 else 0) ≤ n + 1; split <;> omega
theorem q_ctb_mono {p q : Nat → Bool} : ∀ n, (∀ i, i < n → p i = true → q i = true) → q_ctb p n ≤ q_ctb q n := by
  intro n
  induction n with
  | zero => intro _; exact Nat.le_refl 0
  | succ n ih =>
    intro h
    have := ih (fun i hi => h i (by omega))
    show q_ctb p n + (if p n then 1 else 0) ≤ q_ctb q n + (if q n then 1 else 0)
    by_cases c : p n = true
    · rw [if_pos c, if_pos (h n (by omega) c)]; omega
    · rw [if_neg c]; omega
theorem q_ctb_lt {p q : Nat → Bool} : ∀ n, (∀ i, i < n → p i = true → q i = true) → (∃ j, j < n ∧ q j = true ∧ p j = false) → q_ctb p n < q_ctb q n := by
  intro n
  induction n with
  | zero => intro _ ⟨j, h, _⟩; omega
  | succ n ih =>
    intro h ⟨j, hj, h1, h2⟩
    show q_ctb p n + (if p n then 1 else 0) < q_ctb q n + (if q n then 1 else 0)
    by_cases c : j = n
    · subst c
      have := q_ctb_mono j (fun i hi => h i (by omega))
      rw [if_pos h1, if_neg (by rw [h2]; decide)]
      omega
    · have := ih (fun i hi => h i (by omega)) ⟨j, by omega, h1, h2⟩
      by_cases c : p n = true
      · rw [if_pos c, if_pos (h n (by omega) c)]; omega
      · rw [if_neg c]; omega
theorem q_ctb_up {p q : Nat → Bool} (j : Nat) (hp : p j = false) (hq : q j = true) (he : ∀ i, i ≠ j → q i = p i) : ∀ n, q_ctb q n = q_ctb p n + (if j < n then 1 else 0) := by
  intro n
  induction n with
  | zero => rfl
  | succ n ih =>
    show q_ctb q n + (if q n then 1 else 0) = q_ctb p n + (if p n then 1 else 0) + _
    by_cases c : n = j
    · subst c
      rw [ih, if_neg (show ¬ n < n by omega), hp, hq, if_pos (show n < n + 1 by omega)]
      rfl
    · rw [ih, he n c]
      by_cases c2 : j < n
      · rw [if_pos c2, if_pos (show j < n + 1 by omega)]; omega
      · rw [if_neg c2, if_neg (show ¬ j < n + 1 by omega)]; omega
def q_lvb (v : Nat → Int32) : Nat → Nat → Bool
  | 0, i => decide (v i = nI 0)
  | m + 1, i => q_lvb v m i || decide (v i = nI (m + 1))
theorem q_lvb_no (v : Nat → Int32) (i k : Nat) (hk : k < 2 ^ 31) (h : v i = nI k) : ∀ m, m < k → q_lvb v m i = false := by
  intro m
  induction m with
  | zero =>
    intro hm
    unfold q_lvb
    rw [h]
    exact decide_eq_false (fun q => by have := (nI_eq hk (by omega)).mp q; omega)
  | succ m ih =>
    intro hm
    unfold q_lvb
    rw [ih (by omega), Bool.false_or, h]
    exact decide_eq_false (fun q => by have := (nI_eq hk (by omega)).mp q; omega)
/-- a level that is had makes all below it had: so there are fewer levels than bays -/
theorem q_levels {nb : Nat} {aj : Nat → Nat → Prop} {v : Nat → Int32} (M : Nat) (hM : M < 2 ^ 30) (hd : ∀ c, c < nb → ∀ m, m < M → v c = nI (m + 1) → ∃ b, b < nb ∧ aj b c ∧ v b = nI m) : ∀ m, m ≤ M → (∃ c, c < nb ∧ v c = nI m) → m + 1 ≤ q_ctb (q_lvb v m) nb := by
  intro m
  induction m with
  | zero =>
    intro _ ⟨c, hc, e⟩
    have := q_ctb_lt (p := fun _ => false) (q := q_lvb v 0) nb (fun _ _ h => by cases h) ⟨c, hc, by unfold q_lvb; exact decide_eq_true e, rfl⟩
    omega
  | succ m ih =>
    intro hm ⟨c, hc, e⟩
    obtain ⟨b, hb, -, eb⟩ := hd c hc m (by omega) e
    have h1 := ih (by omega) ⟨b, hb, eb⟩
    have h2 := q_ctb_lt (p := q_lvb v m) (q := q_lvb v (m + 1)) nb (fun i _ h => by show (q_lvb v m i || _) = true; rw [h, Bool.true_or]) ⟨c, hc, by show (q_lvb v m c || decide (v c = nI (m + 1))) = true; rw [decide_eq_true e, Bool.or_true], q_lvb_no v c (m + 1) (by omega) e m (by omega)⟩
    omega
/-- adjacency by the class's lengths -/
def q_aj (R : Nat → Nat → Int32) (b c : Nat) : Prop := ¬ R 12 (b * 8 + c) = 0
theorem q_upd_v (v : Nat → Int32) (c : Nat) (x : Int32) (j : Nat) : upd v c x j = if j = c then x else v j := by
  by_cases h : j = c
  · rw [h, pk_us, if_pos rfl]
  · rw [pk_un h, if_neg h]
section
variable {nb nl nd nw nk : Nat} {U : Nat → Nat → Int32}
/-- spread -/
theorem q_spread_l (i far : Nat) (hfar : far ≤ 8) (hi : i < nb) : ∀ (k n c : Nat) (σ : MSt), c + k = nb → k < n → q_TX nb nl nd nw nk σ.1 U → ∃ σ', f_X10_spread_b2 n (nI i) (nI (far + 1)) (nI c) σ = some σ' ∧ (∀ x, x < nb → c ≤ x → ((σ.1 75 x = -1 ∧ q_aj σ.1 i x) → σ'.1 75 x = nI (far + 1)) ∧ (¬ (σ.1 75 x = -1 ∧ q_aj σ.1 i x) → σ'.1 75 x = σ.1 75 x)) ∧ (∀ x, (x < c ∨ nb ≤ x) → σ'.1 75 x = σ.1 75 x) ∧ (∀ r, r ≠ 75 → σ'.1 r = σ.1 r) ∧ σ'.2 = σ.2 := by
  intro k
  induction k with
  | zero =>
    intro n c σ h1 h2 T
    obtain ⟨n, rfl⟩ : ∃ z, n = z + 1 := ⟨n - 1, by omega⟩
    have l := T.le.1
    refine ⟨σ, ?_, fun x a b => by omega, fun _ _ => rfl, fun _ _ => rfl, rfl⟩
    show f_X10_spread_b2_s (f_X10_spread_b2 n) (nI i) (nI (far + 1)) (nI c) σ = _
    unfold f_X10_spread_b2_s
    rw [T.nbC, if_pos (nI_le (by omega) (by omega))]
    rfl
  | succ k ih =>
    intro n c σ h1 h2 T
    obtain ⟨n, rfl⟩ : ∃ z, n = z + 1 := ⟨n - 1, by omega⟩
    have l := T.le.1
    have kc : k_inb (nI c) 8 = true := e_in (by omega) (by decide)
    obtain ⟨-, ln, hln, eln⟩ := T.lane i c hi (by omega)
    show ∃ σ', f_X10_spread_b2_s (f_X10_spread_b2 n) (nI i) (nI (far + 1)) (nI c) σ = _ ∧ _
    unfold f_X10_spread_b2_s f_X10_spread_b48
    rw [T.nbC, if_neg (nI_ge (by omega) (by omega)), if_neg (show ¬ (8 : Int32) ≤ nI c from nI_ge (a := c) (b := 8) (by omega) (by decide))]
    simp only [e_ck kc, e_nm, nI_clamp (show c < 2 ^ 31 by omega), nI_1]
    have skip : ¬ (σ.1 75 c = -1 ∧ q_aj σ.1 i c) → ∃ σ', f_X10_spread_b2 n (nI i) (nI (far + 1)) (nI (c + 1)) σ = some σ' ∧ (∀ x, x < nb → c ≤ x → ((σ.1 75 x = -1 ∧ q_aj σ.1 i x) → σ'.1 75 x = nI (far + 1)) ∧ (¬ (σ.1 75 x = -1 ∧ q_aj σ.1 i x) → σ'.1 75 x = σ.1 75 x)) ∧ (∀ x, (x < c ∨ nb ≤ x) → σ'.1 75 x = σ.1 75 x) ∧ (∀ r, r ≠ 75 → σ'.1 r = σ.1 r) ∧ σ'.2 = σ.2 := by
      intro no
      obtain ⟨σ', y1, y2, y3, y4, y5⟩ := ih n (c + 1) σ (by omega) (by omega) T
      refine ⟨σ', y1, fun x a b => ?_, fun x hx => y3 x (by omega), y4, y5⟩
      by_cases e : x = c
      · subst e; exact ⟨fun q => absurd q no, fun _ => y3 x (by omega)⟩
      · exact y2 x a (by omega)
    by_cases c1 : σ.1 75 c = -1
    · rw [if_pos c1, s_X0_daysBetween 10 i c σ nb T.nbC l hi (by omega), e_bdS, show σ.1 (10 + 2) (i * 8 + c) = nI ln from eln]
      by_cases c2 : ln = 0
      · rw [if_pos (show nI ln ≤ 0 from by rw [c2]; decide)]
        exact skip (fun q => q.2 (by rw [eln, c2]; rfl))
      · rw [if_neg (nI_nle (by omega) (by omega))]
        have aj : q_aj σ.1 i c := fun q => c2 (by rw [eln] at q; exact (nI_eq (a := ln) (b := 0) (by omega) (by omega)).mp q)
        have q0 : ∀ r, r ≠ 75 → (mI σ 75 c (nI (far + 1))).1 r = σ.1 r := fun r hr => m_Ir _ _ _ _ hr
        have q1 : ∀ x, x ≠ c → (mI σ 75 c (nI (far + 1))).1 75 x = σ.1 75 x := fun x hx => by rw [m_I, if_neg (by omega)]
        obtain ⟨σ', y1, y2, y3, y4, y5⟩ := ih n (c + 1) (mI σ 75 c (nI (far + 1))) (by omega) (by omega) (T.eq (fun r _ _ => q0 r (by omega)) (fun _ _ _ => rfl))
        have aje : ∀ x, q_aj (mI σ 75 c (nI (far + 1))).1 i x = q_aj σ.1 i x := fun x => by unfold q_aj; rw [q0 12 (by omega)]
        refine ⟨σ', y1, fun x a b => ?_, fun x hx => by rw [y3 x (by omega), q1 x (by omega)], fun r hr => by rw [y4 r hr, q0 r hr], by rw [y5]; rfl⟩
        by_cases e : x = c
        · subst e
          exact ⟨fun _ => by rw [y3 x (by omega), m_I]; simp, fun q => absurd ⟨c1, aj⟩ q⟩
        · have := y2 x a (by omega)
          rw [aje x, q1 x e] at this
          exact this
    · rw [if_neg c1]
      exact skip (fun q => c1 q.1)
end
/-- the levels' invariant of the class: level far, bays below i spread -/
def q_LI (nb : Nat) (aj : Nat → Nat → Prop) (st far i : Nat) (v : Nat → Int32) : Prop :=
  (∀ c, c < nb → v c = -1 ∨ ∃ m, m ≤ far + 1 ∧ v c = nI m) ∧ v st = nI 0 ∧ (∀ c, c < nb → v c = nI 0 → c = st) ∧
  (∀ b c, b < nb → c < nb → aj b c → ∀ m, (m < far ∨ (m = far ∧ b < i)) → v b = nI m → ∃ m', m' ≤ m + 1 ∧ v c = nI m') ∧
  (∀ c, c < nb → ∀ m, m ≤ far → v c = nI (m + 1) → ∃ b, b < nb ∧ aj b c ∧ v b = nI m)
theorem q_LI.next {nb st far i : Nat} {aj : Nat → Nat → Prop} {v : Nat → Int32} (hf : far ≤ 8) (h : q_LI nb aj st far i v) (hne : ¬ v i = nI far) : q_LI nb aj st far (i + 1) v := by
  obtain ⟨a, b, b', c, d⟩ := h
  refine ⟨a, b, b', fun x y hx hy hxy m hm e => ?_, d⟩
  rcases hm with q | ⟨q1, q2⟩
  · exact c x y hx hy hxy m (Or.inl q) e
  · by_cases z : x = i
    · subst z; rw [q1] at e; exact absurd e hne
    · exact c x y hx hy hxy m (Or.inr ⟨q1, by omega⟩) e
theorem q_LI.spr {nb st far i : Nat} {aj : Nat → Nat → Prop} {v w : Nat → Int32} (hf : far ≤ 8) (hi : i < nb) (hst : st < nb) (h : q_LI nb aj st far i v) (he : v i = nI far) (hw1 : ∀ x, x < nb → (v x = -1 ∧ aj i x) → w x = nI (far + 1)) (hw2 : ∀ x, x < nb → ¬ (v x = -1 ∧ aj i x) → w x = v x) : q_LI nb aj st far (i + 1) w := by
  obtain ⟨a, b, b', c, d⟩ := h
  -- what had a level keeps it
  have keep : ∀ x, x < nb → ∀ m, m < 2 ^ 31 → v x = nI m → w x = nI m := fun x hx m hm e => by
    rw [hw2 x hx (fun q => by rw [e] at q; exact q_n1 hm q.1), e]
  refine ⟨fun x hx => ?_, keep st hst 0 (by omega) b, fun x hx e => ?_, fun x y hx hy hxy m hm e => ?_, fun x hx m hm e => ?_⟩
  · by_cases q : v x = -1 ∧ aj i x
    · exact Or.inr ⟨far + 1, by omega, hw1 x hx q⟩
    · rw [hw2 x hx q]; exact a x hx
  · by_cases q : v x = -1 ∧ aj i x
    · rw [hw1 x hx q] at e
      have := (nI_eq (a := far + 1) (b := 0) (by omega) (by omega)).mp e
      omega
    · rw [hw2 x hx q] at e; exact b' x hx e
  · by_cases q : v x = -1 ∧ aj i x
    · rw [hw1 x hx q] at e
      have := (nI_eq (by omega) (by omega)).mp e
      omega
    · rw [hw2 x hx q] at e
      have old : (m < far ∨ (m = far ∧ x < i)) → ∃ m', m' ≤ m + 1 ∧ w y = nI m' := fun hm' => by
        obtain ⟨m', g1, g2⟩ := c x y hx hy hxy m hm' e
        exact ⟨m', g1, keep y hy m' (by omega) g2⟩
      rcases hm with z | ⟨z1, z2⟩
      · exact old (Or.inl z)
      · by_cases z : x = i
        · subst z
          subst z1
          by_cases q2 : v y = -1 ∧ aj x y
          · exact ⟨m + 1, by omega, hw1 y hy q2⟩
          · rcases a y hy with g | ⟨m', g1, g2⟩
            · exact absurd ⟨g, hxy⟩ q2
            · exact ⟨m', g1, keep y hy m' (by omega) g2⟩
        · exact old (Or.inr ⟨z1, by omega⟩)
  · by_cases q : v x = -1 ∧ aj i x
    · rw [hw1 x hx q] at e
      have := (nI_eq (by omega) (by omega)).mp e
      have : m = far := by omega
      subst this
      exact ⟨i, hi, q.2, keep i hi m (by omega) he⟩
    · rw [hw2 x hx q] at e
      obtain ⟨y, hy, g1, g2⟩ := d x hx m hm e
      exact ⟨y, hy, g1, keep y hy m (by omega) g2⟩
section
variable {nb nl nd nw nk : Nat} {U : Nat → Nat → Int32}
theorem q_lvl_i (st far : Nat) (hst : st < nb) (hfar : far < 8) (R : Nat → Nat → Int32) (r35 : Int32 → MSt → Option MSt) : ∀ (k n i : Nat) (σ : MSt), i + k = nb → k < n → q_TX nb nl nd nw nk σ.1 U → σ.1 12 = R 12 → q_LI nb (q_aj R) st far i (σ.1 75) → ∃ σ', f_X10_countLanes_b43 r35 n (nI far) (nI i) σ = r35 (nI (far + 1)) σ' ∧ q_LI nb (q_aj R) st far nb (σ'.1 75) ∧ (∀ r, r ≠ 75 → σ'.1 r = σ.1 r) ∧ σ'.2 = σ.2 := by
  intro k
  induction k with
  | zero =>
    intro n i σ h1 h2 T h12 LI
    obtain ⟨n, rfl⟩ : ∃ z, n = z + 1 := ⟨n - 1, by omega⟩
    have l := T.le.1
    have hi : i = nb := by omega
    subst hi
    refine ⟨σ, ?_, LI, fun _ _ => rfl, rfl⟩
    show f_X10_countLanes_b43_s r35 (f_X10_countLanes_b43 r35 n) (nI far) (nI i) σ = _
    unfold f_X10_countLanes_b43_s f_X10_countLanes_b84
    rw [T.nbC, if_pos (nI_le (by omega) (by omega)), e_nm, nI_1]
  | succ k ih =>
    intro n i σ h1 h2 T h12 LI
    obtain ⟨n, rfl⟩ : ∃ z, n = z + 1 := ⟨n - 1, by omega⟩
    have l := T.le.1
    have ki : k_inb (nI i) 8 = true := e_in (by omega) (by decide)
    show ∃ σ', f_X10_countLanes_b43_s r35 (f_X10_countLanes_b43 r35 n) (nI far) (nI i) σ = _ ∧ _
    unfold f_X10_countLanes_b43_s f_X10_countLanes_b78
    rw [T.nbC, if_neg (nI_ge (by omega) (by omega)), if_neg (show ¬ (8 : Int32) ≤ nI i from nI_ge (a := i) (b := 8) (by omega) (by decide)), e_ck ki, nI_clamp (by omega), nI_1]
    by_cases c : σ.1 75 i = nI far
    · rw [if_pos c]
      obtain ⟨σ1, y1, y2, y3, y4, y5⟩ := q_spread_l i far (by omega) (by omega) nb FU 0 σ (by omega) (by unfold FU; omega) T
      have y1' : f_X10_spread (nI i) (nI (far + 1)) σ = some σ1 := y1
      have aje : ∀ x, q_aj σ.1 i x = q_aj R i x := fun x => by unfold q_aj; rw [h12]
      rw [y1', e_bvS, e_nm, nI_1]
      have LI1 : q_LI nb (q_aj R) st far (i + 1) (σ1.1 75) := LI.spr (by omega) (by omega) hst c (fun x hx q => (y2 x hx (by omega)).1 (by rw [aje x]; exact q)) (fun x hx q => (y2 x hx (by omega)).2 (by rw [aje x]; exact q))
      obtain ⟨σ', z1, z2, z3, z4⟩ := ih n (i + 1) σ1 (by omega) (by omega) (T.eq (fun r _ _ => y4 r (by omega)) (fun _ _ _ => rfl)) (by rw [y4 12 (by omega)]; exact h12) LI1
      exact ⟨σ', z1, z2, fun r hr => by rw [z3 r hr, y4 r hr], by rw [z4, y5]⟩
    · rw [if_neg c, e_nm, nI_1]
      exact ih n (i + 1) σ (by omega) (by omega) T h12 (LI.next (by omega) c)
theorem q_lvl_o (st : Nat) (hst : st < nb) (R : Nat → Nat → Int32) : ∀ (k n far : Nat) (σ : MSt), far + k = 8 → k < n → q_TX nb nl nd nw nk σ.1 U → σ.1 12 = R 12 → q_LI nb (q_aj R) st far 0 (σ.1 75) → (∀ c, c < nb → σ.1 75 c = -1 ∨ ∃ m, m ≤ far ∧ σ.1 75 c = nI m) → ∃ σ', f_X10_countLanes_b35 n (nI far) σ = some σ' ∧ q_LV nb (q_aj R) st (σ'.1 75) ∧ (∀ r, r ≠ 75 → σ'.1 r = σ.1 r) ∧ σ'.2 = σ.2 := by
  intro k
  induction k with
  | zero =>
    intro n far σ h1 h2 T h12 LI bd
    obtain ⟨n, rfl⟩ : ∃ z, n = z + 1 := ⟨n - 1, by omega⟩
    have hf : far = 8 := by omega
    subst hf
    have l := T.le.1
    refine ⟨σ, rfl, ?_, fun _ _ => rfl, rfl⟩
    obtain ⟨a, b, b', c, d⟩ := LI
    refine ⟨bd, b, b', fun x y hx hy hxy m hm e => ?_, fun x hx m hm e => d x hx m (by omega) e⟩
    have hm8 : m < 8 := by
      apply Nat.lt_of_le_of_ne hm
      intro e8
      have := q_levels (aj := q_aj R) 8 (by omega) (fun x hx m hm e => d x hx m (by omega) e) m hm ⟨x, hx, e⟩
      have := q_ctb_le (q_lvb (σ.1 75) m) nb
      omega
    obtain ⟨m', g1, g2⟩ := c x y hx hy hxy m (Or.inl hm8) e
    exact ⟨m', g1, by omega, g2⟩
  | succ k ih =>
    intro n far σ h1 h2 T h12 LI bd
    obtain ⟨n, rfl⟩ : ∃ z, n = z + 1 := ⟨n - 1, by omega⟩
    obtain ⟨σ1, y1, y2, y3, y4⟩ := q_lvl_i st far hst (by omega) R (f_X10_countLanes_b35 n) nb FU 0 σ (by omega) (by unfold FU; have := T.le.1; omega) T h12 LI
    have y1' : f_X10_countLanes_b43 (f_X10_countLanes_b35 n) FU (nI far) 0 σ = _ := y1
    show ∃ σ', f_X10_countLanes_b35_s (f_X10_countLanes_b35 n) (nI far) σ = _ ∧ _
    unfold f_X10_countLanes_b35_s
    rw [if_neg (show ¬ (8 : Int32) ≤ nI far from nI_ge (a := far) (b := 8) (by omega) (by decide)), y1']
    obtain ⟨a, b, b', c, d⟩ := id y2
    have LI1 : q_LI nb (q_aj R) st (far + 1) 0 (σ1.1 75) := by
      refine ⟨fun x hx => ?_, b, b', fun x y hx hy hxy m hm e => ?_, fun x hx m hm e => ?_⟩
      · rcases a x hx with q | ⟨m, q1, q2⟩
        · exact Or.inl q
        · exact Or.inr ⟨m, by omega, q2⟩
      · refine c x y hx hy hxy m ?_ e
        rcases hm with q | ⟨q1, q2⟩
        · by_cases z : m = far
          · exact Or.inr ⟨z, hx⟩
          · exact Or.inl (by omega)
        · omega
      · by_cases z : m ≤ far
        · exact d x hx m z e
        · rcases a x hx with q | ⟨m', q1, q2⟩
          · rw [q] at e; exact absurd e.symm (q_n1 (by omega))
          · rw [q2] at e
            have := (nI_eq (by omega) (by omega)).mp e
            omega
    obtain ⟨σ', z1, z2, z3, z4⟩ := ih n (far + 1) σ1 (by omega) (by omega) (T.eq (fun r _ _ => y3 r (by omega)) (fun _ _ _ => rfl)) (by rw [y3 12 (by omega)]; exact h12) LI1 a
    exact ⟨σ', z1, z2, fun r hr => by rw [z3 r hr, y3 r hr], by rw [z4, y4]⟩
theorem q_lvl_0 (st : Nat) (hst : st < 8) : ∀ (k n i : Nat) (σ : MSt), i + k = 8 → k < n → f_X10_startBay σ = some (nI st, σ) → (∀ σ' : MSt, σ'.1 50 = σ.1 50 → f_X10_startBay σ' = some (nI st, σ')) → ∃ σ', f_X10_countLanes_b2 n (nI i) σ = f_X10_countLanes_b35 FU 0 σ' ∧ (∀ c, c < 8 → i ≤ c → σ'.1 75 c = if c = st then 0 else -1) ∧ (∀ c, c < i → σ'.1 75 c = σ.1 75 c) ∧ (∀ r, r ≠ 75 → σ'.1 r = σ.1 r) ∧ σ'.2 = σ.2 := by
  intro k
  induction k with
  | zero =>
    intro n i σ h1 h2 hs hs'
    obtain ⟨n, rfl⟩ : ∃ z, n = z + 1 := ⟨n - 1, by omega⟩
    have hi : i = 8 := by omega
    subst hi
    exact ⟨σ, rfl, fun c a b => by omega, fun _ _ => rfl, fun _ _ => rfl, rfl⟩
  | succ k ih =>
    intro n i σ h1 h2 hs hs'
    obtain ⟨n, rfl⟩ : ∃ z, n = z + 1 := ⟨n - 1, by omega⟩
    have ki : k_inb (nI i) 8 = true := e_in (by omega) (by decide)
    show ∃ σ', f_X10_countLanes_b2_s (f_X10_countLanes_b2 n) (nI i) σ = _ ∧ _
    unfold f_X10_countLanes_b2_s f_X10_countLanes_b26
    rw [if_neg (show ¬ (8 : Int32) ≤ nI i from nI_ge (a := i) (b := 8) (by omega) (by decide)), hs, e_bdS]
    simp only [e_ck ki, e_nm, nI_clamp (show i < 2 ^ 31 by omega), nI_1]
    have go : ∀ y, y = (if i = st then 0 else -1) → ∃ σ', f_X10_countLanes_b2 n (nI (i + 1)) (mI σ 75 i y) = f_X10_countLanes_b35 FU 0 σ' ∧ (∀ c, c < 8 → i ≤ c → σ'.1 75 c = if c = st then 0 else -1) ∧ (∀ c, c < i → σ'.1 75 c = σ.1 75 c) ∧ (∀ r, r ≠ 75 → σ'.1 r = σ.1 r) ∧ σ'.2 = σ.2 := by
      intro y hy
      have e50 : (mI σ 75 i y).1 50 = σ.1 50 := m_Ir _ _ _ _ (by omega)
      obtain ⟨σ', z1, z2, z3, z4, z5⟩ := ih n (i + 1) (mI σ 75 i y) (by omega) (by omega) (hs' _ e50) (fun σ' h => hs' σ' (by rw [h, e50]))
      refine ⟨σ', z1, fun c a b => ?_, fun c hc => by rw [z3 c (by omega), m_I, if_neg (by omega)], fun r hr => by rw [z4 r hr, m_Ir _ _ _ _ hr], by rw [z5]; rfl⟩
      by_cases e : c = i
      · subst e; rw [z3 c (by omega), m_I, if_pos ⟨rfl, rfl⟩, hy]
      · exact z2 c a (by omega)
    by_cases c : i = st
    · rw [if_pos (by rw [c])]; exact go 0 (by rw [if_pos c])
    · rw [if_neg (fun q => c ((nI_eq (by omega) (by omega)).mp q))]; exact go (-1) (by rw [if_neg c])
theorem q_lanesC (σ : MSt) (T : q_TX nb nl nd nw nk σ.1 U) (st : Nat) (hst : st < nb) (hs : ∀ σ' : MSt, σ'.1 50 = σ.1 50 → f_X10_startBay σ' = some (nI st, σ')) : ∃ σ', f_X10_countLanes σ = some σ' ∧ q_LV nb (q_aj σ.1) st (σ'.1 75) ∧ (∀ r, r ≠ 75 → σ'.1 r = σ.1 r) ∧ σ'.2 = σ.2 := by
  have l := T.le.1
  obtain ⟨σ1, y1, y2, y3, y4, y5⟩ := q_lvl_0 st (by omega) 8 FU 0 σ (by omega) (by unfold FU; omega) (hs σ rfl) hs
  have y1' : f_X10_countLanes σ = f_X10_countLanes_b35 FU 0 σ1 := y1
  have vv : ∀ c, c < nb → σ1.1 75 c = if c = st then 0 else -1 := fun c hc => y2 c (by omega) (by omega)
  have LI0 : q_LI nb (q_aj σ.1) st 0 0 (σ1.1 75) := by
    refine ⟨fun c hc => ?_, by rw [vv st hst, if_pos rfl]; rfl, fun c hc e => ?_, fun x y hx hy hxy m hm e => by omega, fun c hc m hm e => ?_⟩
    · rw [vv c hc]
      by_cases z : c = st
      · rw [if_pos z]; exact Or.inr ⟨0, by omega, rfl⟩
      · rw [if_neg z]; exact Or.inl rfl
    · rw [vv c hc] at e
      by_cases z : c = st
      · exact z
      · rw [if_neg z] at e; exact absurd e.symm (q_n1 (by omega))
    · rw [vv c hc] at e
      by_cases z : c = st
      · rw [if_pos z] at e
        have := (nI_eq (a := 0) (b := m + 1) (by omega) (by omega)).mp e
        omega
      · rw [if_neg z] at e; exact absurd e.symm (q_n1 (by omega))
  obtain ⟨σ', z1, z2, z3, z4⟩ := q_lvl_o st hst σ.1 8 FU 0 σ1 (by omega) (by unfold FU; omega) (T.eq (fun r _ _ => y4 r (by omega)) (fun _ _ _ => rfl)) (y4 12 (by omega)) LI0 (fun c hc => by
    rw [vv c hc]
    by_cases z : c = st
    · rw [if_pos z]; exact Or.inr ⟨0, by omega, rfl⟩
    · rw [if_neg z]; exact Or.inl rfl)
  have z1' : f_X10_countLanes_b35 FU 0 σ1 = some σ' := z1
  exact ⟨σ', by rw [y1', z1'], z2, fun r hr => by rw [z3 r hr, y4 r hr], by rw [z4, y5]⟩
end
