section
variable {X : q_X} {o nb nl nd nw nk t ln : Nat} {σ μ σ' μ' : MSt}
theorem d_setr (M : q_CM X) (h : q_CB X o σ) (d : ¬ σ.1 7 4 = 0) (p1 : Int32) : ∃ σ', (k_nm (mI σ 7 2 ((σ.1 7 2) + (1 : Int32))) fun σ2 => if p1 = (15 : Int32) then (k_ck (k_ch (σ2.1 7 1)) <| k_nm (σ2.1 7 1).toNatClampNeg fun o1022 => k_bd (f_X7_takeNumber (1 : Int32) (9 : Int32) σ2) fun q10 σ9 => k_nm (mI σ9 o1022 12 q10) fun σ11 => f_X7_readSetting_b75 σ11) else (if p1 = (16 : Int32) then (k_ck (k_ch (σ2.1 7 1)) <| k_nm (σ2.1 7 1).toNatClampNeg fun o1045 => k_bd (f_X7_takeNumber (0 : Int32) (100 : Int32) σ2) fun q7 σ6 => k_nm (mI σ6 o1045 13 q7) fun σ8 => f_X7_readSetting_b75 σ8) else (k_ck (k_ch (σ2.1 7 1)) <| k_nm (σ2.1 7 1).toNatClampNeg fun o1062 => k_bd (f_X7_takeNumber (0 : Int32) (99999 : Int32) σ2) fun q4 σ3 => k_nm (mI σ3 o1062 14 q4) fun σ5 => f_X7_readSetting_b75 σ5))) = some σ' ∧ q_DD X o σ σ' := by
  have s1 := q_DD.m7 h 2 (σ.1 7 2 + 1) (by omega)
  rw [e_nm]
  have d1 : ¬ (mI σ 7 2 (σ.1 7 2 + 1)).1 7 4 = 0 := by rw [s1.2.1]; exact d
  generalize mI σ 7 2 (σ.1 7 2 + 1) = σ1 at *
  have fin : ∀ E : Option MSt, (∃ σ', E = some σ' ∧ q_DD X o σ1 σ') → (∃ σ', E = some σ' ∧ q_DD X o σ σ') := fun E q => by
    obtain ⟨σ', y1, y2⟩ := q
    exact ⟨σ', y1, s1.trans y2⟩
  by_cases c : p1 = 15
  · rw [if_pos c]
    exact fin _ (d_set M s1.1 d1 1 9 12 (by omega))
  · rw [if_neg c]
    by_cases c2 : p1 = 16
    · rw [if_pos c2]
      exact fin _ (d_set M s1.1 d1 0 100 13 (by omega))
    · rw [if_neg c2]
      exact fin _ (d_set M s1.1 d1 0 99999 14 (by omega))
theorem l_set (M : q_CM X) (h : q_IV X o nb nl nd nw nk t ln σ μ) (w : Nat) (hw : 5 ≤ w ∧ w ≤ 7) (hs : xS X t = nI (10 + w)) : ∃ σ' μ', f_X7_readLine σ = some σ' ∧ f_X12_line μ = some μ' ∧ q_OUT X o t ln σ μ σ' μ' := by
  obtain ⟨B, A, P, h17, hln⟩ := id h
  have tl := q_IV.tl M h
  have ho := B.2.1
  have td := P.2.2.2.2.2.2.1 w (by omega) (by omega)
  have rl : f_X7_readLine σ = k_bv (f_X7_readSetting (nI (10 + w)) σ) fun σ3 => f_X7_readLine_b125 σ3 := by
    unfold f_X7_readLine f_X7_readLine_b95
    rw [A.2.2.1, s_sortOf M B.1 t tl.1, e_bdS, A.2.2.1, s_sortOf M B.1 t tl.1, e_bdS, hs]
    have : ∀ w : Nat, 5 ≤ w → w ≤ 7 → ¬ nI (10 + w) = 10 ∧ ¬ nI (10 + w) = 11 ∧ ¬ nI (10 + w) = 12 ∧ ¬ nI (10 + w) = 13 ∧ ¬ nI (10 + w) = 14 := by
      intro w h1 h2
      have : w = 5 ∨ w = 6 ∨ w = 7 := by omega
      rcases this with rfl | rfl | rfl <;> decide
    obtain ⟨a1, a2, a3, a4, a5⟩ := this w hw.1 hw.2
    rw [if_neg a1, if_neg a2, if_neg a3, if_neg a4, if_neg a5]
    have : w = 5 ∨ w = 6 ∨ w = 7 := by omega
    rcases this with rfl | rfl | rfl
    · rw [if_pos (show nI (10 + 5) = 15 from rfl)]
    · rw [if_neg (by decide), if_pos (show nI (10 + 6) = 16 from rfl)]
    · rw [if_neg (by decide), if_neg (by decide), if_pos (show nI (10 + 7) = 17 from rfl)]
  rw [rl, q_line0 h w (by omega) hs, if_neg (by omega), if_neg (by omega)]
  unfold f_X7_readSetting
  by_cases c : q_bt (μ.1 0 16) w = true
  · rw [if_pos c]
    obtain ⟨σd, μd, y1, y2, y3, y4⟩ := q_dl2 M h (fun s => s.1 7 3 ||| ((1 : Int32) <<< (nI (10 + w) &&& 31))) _ (fun σ0 C d => d_setr M C d (nI (10 + w)))
    rw [y2, e_bvS, q_b71d y3, s_onceF (10 + w) (by omega) (td.trans c) y1, e_bvS]
    exact y4
  · have c' : q_bt (μ.1 0 16) w = false := by cases q : q_bt (μ.1 0 16) w with | false => rfl | true => exact absurd q c
    obtain ⟨μ2, z1, B1, A1, P1, z17, gm, gc⟩ := q_st M h w 0 (by omega) hs (σ.1 7 3 ||| ((1 : Int32) <<< (nI (10 + w) &&& 31))) (P.2.2.2.2.2.2.s w (by omega))
    have q2 : (mI σ 7 3 (σ.1 7 3 ||| ((1 : Int32) <<< (nI (10 + w) &&& 31)))).1 7 2 = nI t := by rw [m_I, if_neg (by omega)]; exact A.2.2.1
    unfold f_X12_line_b71 f_X7_readSetting_b75
    rw [if_neg c, s_onceN (10 + w) (by omega) (td.trans c'), e_bvS, q2, nI_1, if_pos A.2.1, show ∀ (Q : MSt → Option MSt), (k_nm (mI (mI σ 7 3 (σ.1 7 3 ||| ((1 : Int32) <<< (nI (10 + w) &&& 31)))) 7 2 (nI (t + 1))) Q) = Q (mI (mI σ 7 3 (σ.1 7 3 ||| ((1 : Int32) <<< (nI (10 + w) &&& 31)))) 7 2 (nI (t + 1))) from fun _ => rfl, show ∀ (Q : MSt → Option MSt), (k_nm (mI μ 0 16 (μ.1 0 16 ||| ((1 : Int32) <<< (nI w &&& 31)))) Q) = Q (mI μ 0 16 (μ.1 0 16 ||| ((1 : Int32) <<< (nI w &&& 31)))) from fun _ => rfl, z1, e_bvS]
    generalize mI (mI σ 7 3 (σ.1 7 3 ||| ((1 : Int32) <<< (nI (10 + w) &&& 31)))) 7 2 (nI (t + 1)) = σ1 at *
    clear z1
    have : w = 5 ∨ w = 6 ∨ w = 7 := by omega
    rcases this with rfl | rfl | rfl
    · rw [if_pos (show nI (10 + 5) = 15 from rfl), if_neg (show ¬ nI 5 = 0 by decide), if_neg (show ¬ nI 5 = 1 by decide), if_neg (show ¬ nI 5 = 2 by decide), if_neg (show ¬ nI 5 = 3 by decide), if_neg (show ¬ nI 5 = 4 by decide), if_pos (show nI 5 = 5 from rfl)]
      exact l_setc M gc gm B1 A1 P1 z17 hln 5 1 9 (by omega) (by omega)
    · rw [if_neg (show ¬ nI (10 + 6) = 15 by decide), if_pos (show nI (10 + 6) = 16 from rfl), if_neg (show ¬ nI 6 = 0 by decide), if_neg (show ¬ nI 6 = 1 by decide), if_neg (show ¬ nI 6 = 2 by decide), if_neg (show ¬ nI 6 = 3 by decide), if_neg (show ¬ nI 6 = 4 by decide), if_neg (show ¬ nI 6 = 5 by decide), if_pos (show nI 6 = 6 from rfl)]
      exact l_setc M gc gm B1 A1 P1 z17 hln 6 0 100 (by omega) (by omega)
    · rw [if_neg (show ¬ nI (10 + 7) = 15 by decide), if_neg (show ¬ nI (10 + 7) = 16 by decide), if_neg (show ¬ nI 7 = 0 by decide), if_neg (show ¬ nI 7 = 1 by decide), if_neg (show ¬ nI 7 = 2 by decide), if_neg (show ¬ nI 7 = 3 by decide), if_neg (show ¬ nI 7 = 4 by decide), if_neg (show ¬ nI 7 = 5 by decide), if_neg (show ¬ nI 7 = 6 by decide), if_pos (show nI 7 = 7 from rfl)]
      exact l_setc M gc gm B1 A1 P1 z17 hln 7 0 99999 (by omega) (by omega)
/-! lanes -/
def q_lm (A B : Nat → Int32) (a b : Int32) (l : Nat) : Prop := (A l = a ∧ B l = b) ∨ (A l = b ∧ B l = a)
theorem q_lane_z (A B D : Nat → Int32) (a b : Int32) (n : Nat) (hD : ∀ l, l < n → ¬ D l = 0) : ∀ k l, n < l + k → ((q_lane A B D a b n k l = 0) ↔ ∀ i, l ≤ i → i < n → ¬ q_lm A B a b i) := by
  intro k
  induction k with
  | zero => intro l h; exact ⟨fun _ i h1 h2 => by omega, fun _ => rfl⟩
  | succ k ih =>
    intro l h
    unfold q_lane
    by_cases c : l < n
    · rw [if_pos c]
      by_cases e : (A l = a ∧ B l = b) ∨ (A l = b ∧ B l = a)
      · rw [if_pos e]
        exact ⟨fun q => absurd q (hD l c), fun q => absurd e (q l (Nat.le_refl _) c)⟩
      · rw [if_neg e, ih (l + 1) (by omega)]
        constructor
        · intro q i h1 h2
          by_cases ei : i = l
          · rw [ei]; exact e
          · exact q i (by omega) h2
        · intro q i h1 h2; exact q i (by omega) h2
    · rw [if_neg c]; exact ⟨fun _ i h1 h2 => by omega, fun _ => rfl⟩
/-- one lane more -/
theorem q_lane_s (A B D A' B' D' : Nat → Int32) (a b : Int32) (n : Nat) (hA : ∀ l, l < n → A' l = A l ∧ B' l = B l ∧ D' l = D l) : ∀ k l, l ≤ n → n < l + k → (¬ (∀ i, l ≤ i → i < n → ¬ q_lm A B a b i) → q_lane A' B' D' a b (n + 1) (k + 1) l = q_lane A B D a b n k l) ∧ ((∀ i, l ≤ i → i < n → ¬ q_lm A B a b i) → q_lane A' B' D' a b (n + 1) (k + 1) l = if (A' n = a ∧ B' n = b) ∨ (A' n = b ∧ B' n = a) then D' n else 0) := by
  intro k
  induction k with
  | zero => intro l h1 h2; omega
  | succ k ih =>
    intro l h1 h2
    by_cases c : l < n
    · obtain ⟨e1, e2, e3⟩ := hA l c
      have L : q_lane A' B' D' a b (n + 1) (k + 1 + 1) l = if (A' l = a ∧ B' l = b) ∨ (A' l = b ∧ B' l = a) then D' l else q_lane A' B' D' a b (n + 1) (k + 1) (l + 1) := by
        rw [q_lane, if_pos (by omega)]
      have R : q_lane A B D a b n (k + 1) l = if (A l = a ∧ B l = b) ∨ (A l = b ∧ B l = a) then D l else q_lane A B D a b n k (l + 1) := by
        rw [q_lane, if_pos c]
      rw [L, R, e1, e2, e3]
      by_cases e : (A l = a ∧ B l = b) ∨ (A l = b ∧ B l = a)
      · rw [if_pos e, if_pos e]
        exact ⟨fun _ => rfl, fun q => absurd e (q l (Nat.le_refl _) c)⟩
      · rw [if_neg e, if_neg e]
        obtain ⟨i1, i2⟩ := ih (l + 1) (by omega) (by omega)
        have tr : (∀ i, l + 1 ≤ i → i < n → ¬ q_lm A B a b i) → ∀ i, l ≤ i → i < n → ¬ q_lm A B a b i := fun q i h1 h2 => by
          by_cases ei : i = l
          · rw [ei]; exact e
          · exact q i (by omega) h2
        exact ⟨fun q => i1 (fun q2 => q (tr q2)), fun q => i2 (fun i h1 h2 => q i (by omega) h2)⟩
    · have el : l = n := by omega
      subst el
      refine ⟨fun q => absurd (fun i h1 h2 => by omega) q, fun _ => ?_⟩
      rw [q_lane, if_pos (by omega)]
      by_cases e : (A' l = a ∧ B' l = b) ∨ (A' l = b ∧ B' l = a)
      · rw [if_pos e, if_pos e]
      · rw [if_neg e, if_neg e]
        rw [q_lane, if_neg (by omega)]
end
