/-! the relation of both within a law -/
def q_lo (idx : Nat) : Nat := if idx = 0 then 1 else if idx = 1 then 2 else if idx = 2 then 3 else if idx = 3 then 5 else if idx = 4 then 6 else 7
def q_upr (idx : Nat) : Nat := if idx = 0 then 1 else if idx = 1 then 2 else if idx = 2 then 4 else if idx = 3 then 5 else if idx = 4 then 6 else 7
/-- the sign behind a piece -/
def q_NX (idx : Nat) (s : Int32) (P : List Int32) : Prop := (idx ≤ 4 → ¬ q_rk s = 6) ∧ (idx ≤ 3 → ¬ q_rk s = 5) ∧ (idx ≤ 2 → q_rk s = 4 → ∃ P1 x P2, P = P1 ++ x :: P2 ∧ (∀ y, y ∈ P1 → 5 ≤ q_rk y) ∧ q_rk x = 4) ∧ (idx ≤ 1 → ¬ s = 23) ∧ (idx = 0 → ¬ s = 22)
/-- values by a run of knots -/
def q_rn (g : Nat → Nat) : Nat → Nat → Nat → Option Nat
  | 0, _, d => some d
  | n + 1, i, d => if g i = 0 then q_rn g n (i + 1) (d + 1) else if g i = 1 then (if 1 ≤ d then q_rn g n (i + 1) d else none) else (if 2 ≤ d then q_rn g n (i + 1) (d - 1) else none)
def q_gk (μ : MSt) (j : Nat) : Nat := if μ.1 13 (64 + j) = 2 then (if μ.1 14 (64 + j) = 260 then 1 else 2) else 0
theorem q_rn_app (g : Nat → Nat) : ∀ (n m i d e : Nat), q_rn g n i d = some e → q_rn g (n + m) i d = q_rn g m (i + n) e := by
  intro n
  induction n with
  | zero =>
    intro m i d e h
    have : d = e := Option.some.inj h
    rw [Nat.zero_add, this]
    rfl
  | succ n ih =>
    intro m i d e h
    rw [show n + 1 + m = (n + m) + 1 by omega, show i + (n + 1) = i + 1 + n by omega]
    rw [q_rn] at h ⊢
    by_cases c0 : g i = 0
    · rw [if_pos c0] at h ⊢; exact ih m (i + 1) (d + 1) e h
    · rw [if_neg c0] at h ⊢
      by_cases c1 : g i = 1
      · rw [if_pos c1] at h ⊢
        by_cases c2 : 1 ≤ d
        · rw [if_pos c2] at h ⊢; exact ih m (i + 1) d e h
        · rw [if_neg c2] at h; exact absurd h (by simp)
      · rw [if_neg c1] at h ⊢
        by_cases c2 : 2 ≤ d
        · rw [if_pos c2] at h ⊢; exact ih m (i + 1) (d - 1) e h
        · rw [if_neg c2] at h; exact absurd h (by simp)
theorem q_rn_cg (g g' : Nat → Nat) : ∀ (n i d : Nat), (∀ j, i ≤ j → j < i + n → g' j = g j) → q_rn g' n i d = q_rn g n i d := by
  intro n
  induction n with
  | zero => intro i d _; rfl
  | succ n ih =>
    intro i d h
    rw [q_rn, q_rn, h i (by omega) (by omega), ih (i + 1) (d + 1) (fun j a b => h j (by omega) (by omega)), ih (i + 1) d (fun j a b => h j (by omega) (by omega)), ih (i + 1) (d - 1) (fun j a b => h j (by omega) (by omega))]
theorem q_rn_wf (ks : Nat → Int32) (g : Nat → Nat) : ∀ (n i d : Nat), (∀ j, i ≤ j → j < i + n → q_kd (ks j) = g j) → q_rn g n i d = some 1 → q_wf ks n i d := by
  intro n
  induction n with
  | zero => intro i d _ h; exact Option.some.inj h
  | succ n ih =>
    intro i d h q
    have hi := h i (by omega) (by omega)
    have ht : ∀ j, i + 1 ≤ j → j < i + 1 + n → q_kd (ks j) = g j := fun j a b => h j (by omega) (by omega)
    rw [q_rn] at q
    show if q_kd (ks i) = 0 then q_wf ks n (i + 1) (d + 1) else if q_kd (ks i) = 1 then 1 ≤ d ∧ q_wf ks n (i + 1) d else 2 ≤ d ∧ q_wf ks n (i + 1) (d - 1)
    rw [hi]
    by_cases c0 : g i = 0
    · rw [if_pos c0] at q ⊢; exact ih _ _ ht q
    · rw [if_neg c0] at q ⊢
      by_cases c1 : g i = 1
      · rw [if_pos c1] at q ⊢
        by_cases c2 : 1 ≤ d
        · rw [if_pos c2] at q; exact ⟨c2, ih _ _ ht q⟩
        · rw [if_neg c2] at q; exact absurd q (by simp)
      · rw [if_neg c1] at q ⊢
        by_cases c2 : 2 ≤ d
        · rw [if_pos c2] at q; exact ⟨c2, ih _ _ ht q⟩
        · rw [if_neg c2] at q; exact absurd q (by simp)
theorem q_KN_gk {s v : Int32} {μ : MSt} {j : Nat} (h : q_KN s v (μ.1 13 (64 + j)) (μ.1 14 (64 + j))) : q_kd s = q_gk μ j := by
  unfold q_gk
  have n25 : ∀ j : Nat, j < 7 → q_kd (nI (25 + j)) = 0 := by decide
  rcases h with ⟨rfl, e1, e2⟩ | ⟨i, hi, rfl, e1, e2⟩ | ⟨rfl, e1, e2⟩ | ⟨h, e1⟩
  · rw [e1, if_neg (by decide)]; decide
  · rw [e1, if_neg (by decide)]; exact n25 i hi
  · rw [e1, if_pos rfl, e2, if_pos rfl]; decide
  · obtain ⟨a1, -, -, -, a5⟩ := q_BIN_kd h
    rw [e1, if_pos rfl, if_neg a5, a1]
def q_KO (o k : Nat) (P : List Int32) (σ μ : MSt) : Prop := (∀ j, j < k → q_KN (σ.1 (o + 8) j) (σ.1 (o + 9) j) (μ.1 13 (64 + j)) (μ.1 14 (64 + j))) ∧ ∀ i, i < P.length → q_KN (P.getD i 0) 0 (μ.1 13 (64 + (k + i))) (μ.1 14 (64 + (k + i)))
def q_EX (X : q_X) (o nb t : Nat) (P st : List Int32) (k kn op : Nat) (wo nm : Int32) (σ μ : MSt) : Prop := q_zB X o nb σ μ ∧ q_zA X t σ μ ∧ (σ.1 7 7 = nI (P ++ st).length ∧ q_stk (P ++ st) (σ.1 8)) ∧ (σ.1 (o + 7) 5 = nI k ∧ μ.1 2 17 = nI (k + P.length)) ∧ (σ.1 7 8 = nI kn ∧ μ.1 0 28 = nI kn) ∧ (σ.1 7 9 = nI op ∧ μ.1 0 27 = nI op) ∧ σ.1 7 10 = wo ∧ σ.1 7 11 = nm ∧ q_KO o k P σ μ ∧ kn ≤ 64 ∧ op ≤ 8 ∧ op ≤ st.length ∧ k + (P ++ st).length = kn + op
/-- what a law changes -/
def q_FE (o kb : Nat) (σ σ' : MSt) : Prop := (∀ r, r ≠ 7 → r ≠ 8 → r ≠ o + 7 → r ≠ o + 8 → r ≠ o + 9 → σ'.1 r = σ.1 r) ∧ (∀ j, (j < 2 ∨ j = 3 ∨ j = 6 ∨ 11 < j) → σ'.1 7 j = σ.1 7 j) ∧ (∀ j, j ≠ 5 → σ'.1 (o + 7) j = σ.1 (o + 7) j) ∧ (∀ r, r = o + 8 ∨ r = o + 9 → ∀ j, j < kb → σ'.1 r j = σ.1 r j) ∧ σ'.2 = σ.2
def q_FN (kb : Nat) (μ μ' : MSt) : Prop := (∀ r, r ≠ 0 → r ≠ 2 → r ≠ 13 → r ≠ 14 → μ'.1 r = μ.1 r) ∧ (∀ j, (j < 19 ∨ (24 < j ∧ j < 27) ∨ 28 < j) → μ'.1 0 j = μ.1 0 j) ∧ (∀ j, j ≠ 17 → μ'.1 2 j = μ.1 2 j) ∧ ∀ r, r = 13 ∨ r = 14 → ∀ j, j < 64 + kb → μ'.1 r j = μ.1 r j
theorem q_FE.rf {o kb : Nat} {σ : MSt} : q_FE o kb σ σ := ⟨fun _ _ _ _ _ _ => rfl, fun _ _ => rfl, fun _ _ => rfl, fun _ _ _ _ => rfl, rfl⟩
theorem q_FE.trans {o kb kc : Nat} {σ σ1 σ2 : MSt} (h : q_FE o kb σ σ1) (g : q_FE o kc σ1 σ2) (hk : kb ≤ kc) : q_FE o kb σ σ2 := ⟨fun r a b c d e => (g.1 r a b c d e).trans (h.1 r a b c d e), fun j a => (g.2.1 j a).trans (h.2.1 j a), fun j a => (g.2.2.1 j a).trans (h.2.2.1 j a), fun r a j hj => (g.2.2.2.1 r a j (by omega)).trans (h.2.2.2.1 r a j hj), g.2.2.2.2.trans h.2.2.2.2⟩
theorem q_FN.rf {kb : Nat} {μ : MSt} : q_FN kb μ μ := ⟨fun _ _ _ _ _ => rfl, fun _ _ => rfl, fun _ _ => rfl, fun _ _ _ _ => rfl⟩
theorem q_FN.trans {kb kc : Nat} {μ μ1 μ2 : MSt} (h : q_FN kb μ μ1) (g : q_FN kc μ1 μ2) (hk : kb ≤ kc) : q_FN kb μ μ2 := ⟨fun r a b c d => (g.1 r a b c d).trans (h.1 r a b c d), fun j a => (g.2.1 j a).trans (h.2.1 j a), fun j a => (g.2.2.1 j a).trans (h.2.2.1 j a), fun r a j hj => (g.2.2.2 r a j (by omega)).trans (h.2.2.2 r a j hj)⟩
theorem q_FE.gc {o kb : Nat} {σ σ' : MSt} (h : q_FE o kb σ σ') : q_GC o σ σ' := ⟨fun r a b c => h.1 r a b (by omega) (by omega) (by omega), h.2.2.2.2⟩
theorem q_FN.gm {kb : Nat} {μ μ' : MSt} (h : q_FN kb μ μ') : q_GM μ μ' := ⟨fun r a => h.1 r (by omega) (by omega) (by omega) (by omega), fun r i a b c => by
  by_cases c2 : r = 2
  · subst c2; exact h.2.2.1 i (by unfold q_hf at c; simp at c; omega)
  · by_cases c13 : r = 13 ∨ r = 14
    · exact h.2.2.2 r c13 i (by
        rcases c13 with rfl | rfl <;> (unfold q_hf at c; simp at c; omega))
    · rw [h.1 r (by omega) c2 (by omega) (by omega)], fun j a => h.2.1 j (by omega)⟩
theorem q_FM.fn {kb : Nat} {μ μ' : MSt} (h : q_FM μ μ') : q_FN kb μ μ' := ⟨fun r a _ _ _ => h.1 r a, fun j a => h.2 j (by omega), fun j _ => by rw [h.1 2 (by omega)], fun r a j _ => by rw [h.1 r (by omega)]⟩
theorem q_FC.fe {o kb : Nat} {σ σ' : MSt} (h : q_FC σ σ') (ho : o = 10 ∨ o = 30) : q_FE o kb σ σ' := ⟨fun r a _ _ _ _ => h.1 r a, fun j a => h.2.1 j (by omega) (by omega) (by omega), fun j _ => by rw [h.1 (o + 7) (by omega)], fun r a j _ => by rw [h.1 r (by omega)], h.2.2⟩
/-- how a piece of a law ends -/
def q_RES (X : q_X) (o nb idx n i t k kr op : Nat) (st : List Int32) (σ μ μ' : MSt) : Prop := q_FN kr μ μ' ∧ ((∃ t' P k' kn' nm' σ', t < t' ∧ t' - t ≤ n ∧ f_X7_readExpression_b22 n (nI i) σ = f_X7_readExpression_b22 (n - (t' - t)) (nI (i + (t' - t))) σ' ∧ q_EX X o nb t' P st k' kn' op 0 nm' σ' μ' ∧ k ≤ k' ∧ (∀ x, x ∈ P → ¬ x = 41 ∧ q_lo idx ≤ q_rk x) ∧ q_NX idx (xS X t') P ∧ q_FE o k σ σ' ∧ kr < k' + P.length ∧ ∀ d, q_rn (q_gk μ') (k' + P.length - kr) kr d = some (d + 1)) ∨ (∃ σ', f_X7_readExpression_b22 n (nI i) σ = some σ' ∧ q_CB X o σ' ∧ q_zD X σ' μ' ∧ q_GC o σ σ'))
