section
variable {X : q_X} {o nb nl nd nw nk t ln : Nat} {σ μ σ' μ' : MSt}
theorem q_numd (M : q_CM X) (C : q_CB X o σ) {a b x : Int32} (e : f_X7_takeNumber a b σ = some (x, σ')) (al : σ'.1 7 4 = 0) : σ.1 7 4 = 0 := by
  by_cases z : σ.1 7 4 = 0
  · exact z
  · obtain ⟨w, ew⟩ := d_num M C z a b
    have h3 : σ' = mI σ 7 2 (σ.1 7 2 + 1) := congrArg Prod.snd (Option.some.inj (e.symm.trans ew))
    rw [h3, m_I, if_neg (by omega)] at al
    exact al
theorem q_toldd (M : q_CM X) (C : q_CB X o σ) {x : Int32} (e : f_X7_toldBay σ = some (x, σ')) (al : σ'.1 7 4 = 0) : σ.1 7 4 = 0 := by
  by_cases z : σ.1 7 4 = 0
  · exact z
  · obtain ⟨w, ew⟩ := d_told M C z
    have h3 : σ' = σ := congrArg Prod.snd (Option.some.inj (e.symm.trans ew))
    rw [h3] at al
    exact al
theorem q_lane_f (A B D : Nat → Int32) (a b : Int32) (n : Nat) : ∀ k l, n < l + k → q_lane A B D a b n (k + 1) l = q_lane A B D a b n k l := by
  intro k
  induction k with
  | zero => intro l h; show (if l < n then _ else (0 : Int32)) = 0; rw [if_neg (by omega)]
  | succ k ih =>
    intro l h
    rw [q_lane]
    conv => rhs; rw [q_lane]
    rw [ih (l + 1) (by omega)]
theorem s_82d (d : ¬ μ.1 0 23 = 0) (x1 x2 x3 : Int32) : f_X12_laneLine_b82 x1 x2 x3 μ = f_X12_laneLine_b99 x1 x2 x3 μ := by
  unfold f_X12_laneLine_b82
  rw [if_neg d]
theorem s_14d (d : ¬ μ.1 0 23 = 0) (x1 x2 x3 x4 : Int32) (n : Nat) : f_X12_laneLine_b14 (n + 1) x1 x2 x3 x4 μ = f_X12_laneLine_b99 x1 x2 x3 μ := by
  show f_X12_laneLine_b14_s (f_X12_laneLine_b14 n) x1 x2 x3 x4 μ = _
  unfold f_X12_laneLine_b14_s
  rw [if_neg d, s_82d d, ite_self]
/-- the lanes so far, searched -/
theorem s_14 (a2 : μ.1 0 23 = 0) (hl : nl < 12) (x2 x3 : Int32) : ∀ (k n i : Nat), i + k = nl → k + 1 < n → ((∀ l, i ≤ l → l < nl → ¬ q_lm (fun l => μ.1 4 (12 + l)) (fun l => μ.1 5 (12 + l)) x2 x3 l) → f_X12_laneLine_b14 n (nI (12 + nl)) x2 x3 (nI (12 + i)) μ = f_X12_laneLine_b82 (nI (12 + nl)) x2 x3 μ) ∧ (¬ (∀ l, i ≤ l → l < nl → ¬ q_lm (fun l => μ.1 4 (12 + l)) (fun l => μ.1 5 (12 + l)) x2 x3 l) → ∀ μd, f_X12_wrong 3 μ = some μd → ¬ μd.1 0 23 = 0 → f_X12_laneLine_b14 n (nI (12 + nl)) x2 x3 (nI (12 + i)) μ = f_X12_laneLine_b99 (nI (12 + nl)) x2 x3 μd) := by
  intro k
  induction k with
  | zero =>
    intro n i h1 h2
    obtain ⟨n, rfl⟩ : ∃ z, n = z + 1 := ⟨n - 1, by omega⟩
    refine ⟨fun _ => ?_, fun q => absurd (fun l h3 h4 => by omega) q⟩
    show f_X12_laneLine_b14_s (f_X12_laneLine_b14 n) _ _ _ _ μ = _
    unfold f_X12_laneLine_b14_s
    rw [if_pos (nI_le (by omega) (by omega))]
  | succ k ih =>
    intro n i h1 h2
    obtain ⟨n, rfl⟩ : ∃ z, n = z + 1 := ⟨n - 1, by omega⟩
    obtain ⟨i1, i2⟩ := ih n (i + 1) (by omega) (by omega)
    have ik : k_inb (nI (12 + i)) 24 = true := e_in (by omega) (by decide)
    have st : f_X12_laneLine_b14 (n + 1) (nI (12 + nl)) x2 x3 (nI (12 + i)) μ = if (μ.1 4 (12 + i) = x2 ∧ μ.1 5 (12 + i) = x3) ∨ (μ.1 4 (12 + i) = x3 ∧ μ.1 5 (12 + i) = x2) then k_bv (f_X12_wrong 3 μ) fun σ1 => f_X12_laneLine_b14 n (nI (12 + nl)) x2 x3 (nI (12 + (i + 1))) σ1 else f_X12_laneLine_b14 n (nI (12 + nl)) x2 x3 (nI (12 + (i + 1))) μ := by
      show f_X12_laneLine_b14_s (f_X12_laneLine_b14 n) _ _ _ _ μ = _
      unfold f_X12_laneLine_b14_s f_X12_laneLine_b49 f_X12_laneLine_b71 f_X12_laneLine_b76
      rw [if_neg (nI_ge (by omega) (by omega)), if_pos a2]
      simp only [e_ck ik, nI_clamp (show 12 + i < 2 ^ 31 by omega), nI_1, e_nm]
      rw [show 12 + i + 1 = 12 + (i + 1) by omega]
      by_cases c1 : μ.1 4 (12 + i) = x2
      · by_cases c2 : μ.1 5 (12 + i) = x3
        · rw [if_pos c1, if_pos c2, if_pos (Or.inl ⟨c1, c2⟩)]
        · rw [if_pos c1, if_neg c2]
          by_cases c3 : μ.1 4 (12 + i) = x3
          · by_cases c4 : μ.1 5 (12 + i) = x2
            · rw [if_pos c3, if_pos c4, if_pos (Or.inr ⟨c3, c4⟩)]
            · rw [if_pos c3, if_neg c4, if_neg (by rintro (⟨-, q⟩ | ⟨-, q⟩); exact c2 q; exact c4 q)]
          · rw [if_neg c3, if_neg (by rintro (⟨-, q⟩ | ⟨q, -⟩); exact c2 q; exact c3 q)]
      · rw [if_neg c1]
        by_cases c3 : μ.1 4 (12 + i) = x3
        · by_cases c4 : μ.1 5 (12 + i) = x2
          · rw [if_pos c3, if_pos c4, if_pos (Or.inr ⟨c3, c4⟩)]
          · rw [if_pos c3, if_neg c4, if_neg (by rintro (⟨q, -⟩ | ⟨-, q⟩); exact c1 q; exact c4 q)]
        · rw [if_neg c3, if_neg (by rintro (⟨q, -⟩ | ⟨q, -⟩); exact c1 q; exact c3 q)]
    rw [st]
    constructor
    · intro q
      rw [if_neg (show ¬ ((μ.1 4 (12 + i) = x2 ∧ μ.1 5 (12 + i) = x3) ∨ (μ.1 4 (12 + i) = x3 ∧ μ.1 5 (12 + i) = x2)) from q i (Nat.le_refl _) (by omega))]
      exact i1 (fun l h3 h4 => q l (by omega) h4)
    · intro q μd hd dd
      by_cases c : (μ.1 4 (12 + i) = x2 ∧ μ.1 5 (12 + i) = x3) ∨ (μ.1 4 (12 + i) = x3 ∧ μ.1 5 (12 + i) = x2)
      · rw [if_pos c, hd, e_bvS]
        obtain ⟨m, rfl⟩ : ∃ z, n = z + 1 := ⟨n - 1, by omega⟩
        exact s_14d dd _ _ _ _ m
      · rw [if_neg c]
        refine i2 (fun q2 => q (fun l h3 h4 => ?_)) μd hd dd
        by_cases el : l = i
        · rw [el]; exact c
        · exact q2 l (by omega) h4
/-- may there be a lane? -/
theorem q_mid (M : q_CM X) (J : q_zJ X o nb t σ μ) (hl : nl < 12) (PL : r_pl nl (σ.1 (o + 2)) (μ.1 4) (μ.1 5) (μ.1 6)) (x1 x2 y1 y2 : Int32) (hx : σ.1 7 4 = 0 → ∃ a b, a < nb ∧ b < nb ∧ x1 = nI a ∧ y1 = nI a ∧ x2 = nI b ∧ y2 = nI b) : ∃ σ5 μ5, (if x1 = x2 then (k_bv (f_X7_fail (5 : Int32) σ) fun σ15 => f_X7_readLane_b73 x1 x2 σ15) else (k_ck (k_ch (σ.1 7 1)) <| k_nm (σ.1 7 1).toNatClampNeg fun o1057 => k_bd (f_X0_daysBetween o1057 x1 x2 σ) fun q13 σ12 => if q13 = 0 then (f_X7_readLane_b73 x1 x2 σ12) else (k_bv (f_X7_fail (3 : Int32) σ12) fun σ14 => f_X7_readLane_b73 x1 x2 σ14))) = f_X7_readLane_b73 x1 x2 σ5 ∧ f_X12_laneLine_b14 FU (nI (12 + nl)) y1 y2 12 μ = f_X12_laneLine_b99 (nI (12 + nl)) y1 y2 μ5 ∧ q_zJ X o nb t σ5 μ5 ∧ q_FC σ σ5 ∧ q_FM μ μ5 ∧ (σ5.1 7 4 = 0 → σ.1 7 4 = 0 ∧ ¬ x1 = x2 ∧ ∀ l, l < nl → ¬ q_lm (fun l => μ.1 4 (12 + l)) (fun l => μ.1 5 (12 + l)) y1 y2 l) := by
  obtain ⟨B, A⟩ := J
  obtain ⟨c1, c2⟩ := B.c
  have b4 := B.2.2.2.1
  have b5 := B.2.2.2.2.1
  have f14 : ∀ x, f_X12_laneLine_b14 FU (nI (12 + nl)) y1 y2 12 x = f_X12_laneLine_b14 FU (nI (12 + nl)) y1 y2 (nI (12 + 0)) x := fun _ => rfl
  rcases A with A | D
  · obtain ⟨a, b, ha, hb, rfl, rfl, rfl, rfl⟩ := hx A.1
    obtain ⟨s1, s2⟩ := s_14 A.2.1 hl (nI a) (nI b) nl FU 0 (by omega) (by unfold FU; omega)
    have hD : ∀ l, l < nl → ¬ μ.1 6 (12 + l) = 0 := fun l h3 => by
      obtain ⟨⟨k, k1, k2, e⟩, -⟩ := PL.2 l h3
      rw [e]
      exact fun q => by have := (q_nIe (a := k) (b := 0) (by omega) (by omega)).mp q; omega
    have zz := q_lane_z (fun l => μ.1 4 (12 + l)) (fun l => μ.1 5 (12 + l)) (fun l => μ.1 6 (12 + l)) (nI a) (nI b) nl hD 13 0 (by omega)
    have lab := PL.1 a b (by omega) (by omega)
    by_cases e : a = b
    · subst e
      obtain ⟨σ', μ', y1, y2, y3, y4, y5, y6⟩ := q_flt B A 5 (by decide)
      rw [if_pos rfl, y1, e_bvS]
      by_cases nm : ∀ l, 0 ≤ l → l < nl → ¬ q_lm (fun l => μ.1 4 (12 + l)) (fun l => μ.1 5 (12 + l)) (nI a) (nI a) l
      · refine ⟨σ', μ', rfl, ?_, ⟨y3, Or.inr y4⟩, y5, y6, fun q => absurd q y4.n.1⟩
        rw [f14, s1 nm]
        unfold f_X12_laneLine_b82
        rw [if_pos A.2.1, if_pos rfl, y2, e_bvS]
      · exact absurd (fun l _ h3 => by
          have hn := (PL.2 l h3).2
          rintro (⟨q1, q2⟩ | ⟨q1, q2⟩)
          · exact hn (q1.trans q2.symm)
          · exact hn (q1.trans q2.symm)) nm
    · have ne : ¬ nI a = nI b := fun q => e ((q_nIe (by omega) (by omega)).mp q)
      rw [if_neg ne, e_ck c1, e_nm, c2, s_X0_daysBetween o a b σ nb b5 b4 ha hb, e_bdS, lab]
      by_cases nm : ∀ l, 0 ≤ l → l < nl → ¬ q_lm (fun l => μ.1 4 (12 + l)) (fun l => μ.1 5 (12 + l)) (nI a) (nI b) l
      · rw [if_pos (zz.mpr nm)]
        refine ⟨σ, μ, rfl, ?_, ⟨B, Or.inl A⟩, q_FC.rf, q_FM.rf, fun q => ⟨A.1, ne, fun l hl => nm l (by omega) hl⟩⟩
        rw [f14, s1 nm]
        unfold f_X12_laneLine_b82
        rw [if_pos A.2.1, if_neg ne]
      · obtain ⟨σ', μ', y1, y2, y3, y4, y5, y6⟩ := q_flt B A 3 (by decide)
        rw [if_neg (fun q => nm (zz.mp q)), y1, e_bvS]
        exact ⟨σ', μ', rfl, by rw [f14]; exact s2 nm μ' y2 y4.n.2, ⟨y3, Or.inr y4⟩, y5, y6, fun q => absurd q y4.n.1⟩
  · obtain ⟨d1, d2⟩ := D.n
    obtain ⟨z, ez⟩ := x_daysBetween (o := o) x1 x2 nb b4 b5
    rw [q_fail_d d1, e_bvS, e_ck c1, e_nm, c2, ez, e_bdS, q_fail_d d1, e_bvS, ite_self, ite_self]
    exact ⟨σ, μ, rfl, s_14d d2 _ _ _ _ _, ⟨B, Or.inr D⟩, q_FC.rf, q_FM.rf, fun q => absurd q d1⟩
end
