/-! THE RELATION of the class's state and the reference's, between two calls -/
abbrev q_LG : Type := (Nat → Int32) × (Nat → Int32) × (Nat → Int32) × (Nat → Int32) × Int64
def q_lg (o : Nat) (σ : MSt) : q_LG := (σ.1 o, σ.1 (o + 1), σ.1 (o + 2), σ.1 (o + 3), σ.2 o 8)
def q_AG (nb d : Nat) (L : q_LG) (a : Nat) (U : Nat → Nat → Int32) : Prop := q_AN nb d L.1 L.2.1 L.2.2.1 L.2.2.2.1 L.2.2.2.2 a U
/-- a doing undone -/
def q_un (w b j l : Int32) (L : q_LG) : q_LG :=
  if w = 0 then (upd (upd (upd L.1 4 b) 5 (-1)) 6 (-1), L.2)
  else if w = 2 then (upd L.1 7 (if L.1 7 = 0 then 1 else 0), L.2)
  else (L.1, upd L.2.1 b.toNatClampNeg j, upd L.2.2.1 b.toNatClampNeg (L.2.2.1 b.toNatClampNeg - 1), upd L.2.2.2.1 b.toNatClampNeg l, L.2.2.2.2)
def q_UN (nb d : Nat) (σ : MSt) (U : Nat → Nat → Int32) : Prop := ∃ n, n ≤ 20 ∧ σ.1 62 5 = nI n ∧ U 0 45 = nI n ∧ ∃ ch : Nat → q_LG, ch n = q_lg 50 σ ∧ ∀ i, i < n → (σ.1 63 i = 0 ∨ σ.1 63 i = 1 ∨ σ.1 63 i = 2) ∧ (∃ b, b < 8 ∧ σ.1 64 i = nI b) ∧ ch i = q_un (σ.1 63 i) (σ.1 64 i) (σ.1 65 i) (σ.1 66 i) (ch (i + 1)) ∧ q_AG nb d (ch i) (4 + i) U
def q_IM (nb : Nat) (σ : MSt) (U : Nat → Nat → Int32) : Prop := σ.1 0 11 = U 0 44 ∧ (σ.1 0 11 = 0 ∨ (σ.1 0 11 = 1 ∧ ∃ d, d ≤ 9900 ∧ q_A nb d 54 σ 3 U))
def q_NO (nb : Nat) (σ : MSt) (U : Nat → Nat → Int32) : Prop := ∃ m, m ≤ 24 ∧ σ.1 78 7 = nI m ∧ U 0 59 = nI m ∧ σ.1 78 8 = U 0 60 ∧ (σ.1 78 8 = -1 ∨ ∃ k, k ≤ m ∧ σ.1 78 8 = nI k) ∧ ∀ i, i < m → σ.1 82 i = U 37 i ∧ ((σ.1 82 i = -1 ∧ (∃ b, b < nb ∧ σ.1 79 i = nI b ∧ U 34 i = nI b) ∧ (∃ k, k ≤ 99 ∧ σ.1 80 i = nI k ∧ U 35 i = nI k) ∧ σ.1 81 i = U 36 i ∧ (σ.1 81 i = 0 ∨ σ.1 81 i = 1)) ∨ ∃ k, k < i ∧ σ.1 82 i = nI k)
/-- a byte of the tape: the class's, the reference's -/
def q_BY (c u : Int32) : Prop := (∃ k, k < 128 ∧ c = nI k ∧ u = nI k) ∨ (c < 0 ∧ ∃ k, 128 ≤ k ∧ k < 256 ∧ u = nI k)
def q_TP (σ : MSt) (U : Nat → Nat → Int32) : Prop := ∃ n, n ≤ 700 ∧ σ.1 1 5 = nI n ∧ U 0 2 = nI n ∧ ∀ i, i < n → q_BY (σ.1 2 i) (U 1 i)
def q_FT (σ : MSt) (U : Nat → Nat → Int32) : Prop := σ.1 0 12 = U 0 25 ∧ σ.1 0 13 = U 0 26
def q_wrd : List Int32 := [68976640, 404165632, 139628544, 781651968, 646234112, 609258752, 690671232, 642945024, 404455424, 217518080, 284561408, 236238848, 522190848, 48365568, 486146048, 352111616, 404344832, 437740544, 236327936, 135926784, 452431872, 274273280]
def q_WD (σ : MSt) : Prop := ∀ i, i < 22 → σ.1 6 i = q_wrd.getD i 0
def RR (σ μ : MSt) : Prop := ∃ nb nl nd nw nk dn, q_TX nb nl nd nw nk σ.1 μ.1 ∧ dn ≤ 9900 ∧ q_A nb dn 50 σ 0 μ.1 ∧ q_IM nb σ μ.1 ∧ q_UN nb dn σ μ.1 ∧ q_NO nb σ μ.1 ∧ q_TP σ μ.1 ∧ q_FT σ μ.1 ∧ q_WD σ ∧ q_rest μ.1
theorem q_IM.fr {nb : Nat} {σ σ' μ μ' : MSt} (h : q_IM nb σ μ.1) (f : FL σ σ') (g : FX μ μ') : q_IM nb σ' μ'.1 := by
  unfold q_IM q_A at h ⊢
  rw [f.1 0 (by omega), g.2.2.2 44 (by omega) (by omega) (by omega) (by omega), f.1 54 (by omega), f.1 (54 + 1) (by omega), f.1 (54 + 2) (by omega), f.1 (54 + 3) (by omega), f.2 54 (by omega) (by omega)]
  refine ⟨h.1, h.2.imp id (fun q => ⟨q.1, ?_⟩)⟩
  obtain ⟨d, hd, q⟩ := q.2
  exact ⟨d, hd, q.eq (fun r x y => g.2.1 r x y 3 (by omega) (by omega)) (fun r x y b hb => g.2.2.1 r x y _ (by omega))⟩
theorem q_lg_fr {σ σ' : MSt} (f : FL σ σ') : q_lg 50 σ' = q_lg 50 σ := by
  unfold q_lg
  rw [f.1 50 (by omega), f.1 (50 + 1) (by omega), f.1 (50 + 2) (by omega), f.1 (50 + 3) (by omega), f.2 50 (by omega) (by omega)]
theorem q_UN.fr {nb d : Nat} {σ σ' μ μ' : MSt} (h : q_UN nb d σ μ.1) (f : FL σ σ') (g : FX μ μ') : q_UN nb d σ' μ'.1 := by
  unfold q_UN at h ⊢
  rw [f.1 62 (by omega), f.1 63 (by omega), f.1 64 (by omega), f.1 65 (by omega), f.1 66 (by omega), g.2.2.2 45 (by omega) (by omega) (by omega) (by omega), q_lg_fr f]
  obtain ⟨n, h1, h2, h3, ch, h4, h5⟩ := h
  refine ⟨n, h1, h2, h3, ch, h4, fun i hi => ?_⟩
  obtain ⟨a, b, c, q⟩ := h5 i hi
  exact ⟨a, b, c, q.eq (fun r x y => g.2.1 r x y _ (by omega) (by omega)) (fun r x y b hb => g.2.2.1 r x y _ (by omega))⟩
theorem q_NO.fr {nb : Nat} {σ σ' μ μ' : MSt} (h : q_NO nb σ μ.1) (f : FL σ σ') (g : FX μ μ') : q_NO nb σ' μ'.1 := by
  unfold q_NO at h ⊢
  rw [f.1 78 (by omega), f.1 79 (by omega), f.1 80 (by omega), f.1 81 (by omega), f.1 82 (by omega), g.2.2.2 59 (by omega) (by omega) (by omega) (by omega), g.2.2.2 60 (by omega) (by omega) (by omega) (by omega), g.1 34 (by omega), g.1 35 (by omega), g.1 36 (by omega), g.1 37 (by omega)]
  exact h
theorem q_TP.fr {σ σ' μ μ' : MSt} (h : q_TP σ μ.1) (f : FL σ σ') (g : FX μ μ') : q_TP σ' μ'.1 := by
  unfold q_TP at h ⊢
  rw [f.1 1 (by omega), f.1 2 (by omega), g.2.2.2 2 (by omega) (by omega) (by omega) (by omega), g.1 1 (by omega)]
  exact h
theorem q_FT.fr {σ σ' μ μ' : MSt} (h : q_FT σ μ.1) (f : FL σ σ') (g : FX μ μ') : q_FT σ' μ'.1 := by
  unfold q_FT at h ⊢
  rw [f.1 0 (by omega), g.2.2.2 25 (by omega) (by omega) (by omega) (by omega), g.2.2.2 26 (by omega) (by omega) (by omega) (by omega)]
  exact h
theorem q_WD.fr {σ σ' : MSt} (h : q_WD σ) (f : FL σ σ') : q_WD σ' := by
  unfold q_WD at h ⊢
  rw [f.1 6 (by omega)]
  exact h
theorem RR.fr {σ σ' μ μ' : MSt} (h : RR σ μ) (f : FL σ σ') (g : FX μ μ') : RR σ' μ' := by
  obtain ⟨nb, nl, nd, nw, nk, dn, h1, h2, h3, h4, h5, h6, h7, h8, h9, h10⟩ := h
  exact ⟨nb, nl, nd, nw, nk, dn, h1.fr f g, h2, h3.fr f g, h4.fr f g, h5.fr f g, h6.fr f g, h7.fr f g, h8.fr f g, h9.fr f, h10.FX g⟩
theorem q_of {x : Int32} {n : Nat} (h : 0 ≤ x.toInt ∧ x.toInt < n) (hn : n < 2 ^ 31) : ∃ b, b < n ∧ x = nI b := by
  refine ⟨x.toInt.toNat, by omega, ?_⟩
  apply Int32.toInt_inj.mp
  rw [nI_toInt (by omega)]
  omega
theorem q_t10 : ¬ (1 : Int32) = 0 := by decide
/-- a test of a bay or a deed, in both at once -/
theorem sim_fault : Sim_fault RR := by
  intro σ μ a0 h
  have h' : RR σ (mI μ 0 0 0) := h.fr FL.rf (FX.thrown μ 0)
  obtain ⟨nb, nl, nd, nw, nk, dn, -, -, -, -, -, -, -, h8, -, -⟩ := h'
  unfold f_X11_fault f_X12_fault f_X11_fault_b24 f_X12_fault_b29
  rw [e_nm, h8.1, h8.2]
  by_cases c : a0 = 0
  · rw [if_pos c, if_pos c]; exact ⟨_, _, _, rfl, rfl, h.fr FL.rf (FX.thrown μ 0)⟩
  · rw [if_neg c, if_neg c]
    by_cases c2 : a0 = 1
    · rw [if_pos c2, if_pos c2]; exact ⟨_, _, _, rfl, rfl, h.fr FL.rf (FX.thrown μ 0)⟩
    · rw [if_neg c2, if_neg c2]; exact ⟨_, _, _, rfl, rfl, h.fr FL.rf (FX.thrown μ 0)⟩
theorem sim_named : Sim_named RR := by
  intro σ μ a0 h
  have h' : RR σ (mI μ 0 0 0) := h.fr FL.rf (FX.thrown μ 0)
  have hk := h'
  obtain ⟨nb, nl, nd, nw, nk, dn, T, -⟩ := h'
  have i0 : k_inb (0 : Int32) 18 = true := by decide
  unfold f_X11_named f_X12_named
  rw [e_nm, e_ck i0, c_0, s_X0_find 10 a0 σ nb T.nbC T.le.1, e_bdS, T.nbM, show (0 : Int32) = nI 0 from rfl, s_X12_found 3 16 (by omega) 0 a0 _ nb (by have := T.le.1; omega) T.le.1, e_bdS]
  refine ⟨_, _, _, rfl, ?_, hk⟩
  rw [show (fun j => (mI μ 0 0 (nI 0)).1 3 (0 + j)) = (mI μ 0 0 0).1 3 from by funext j; rw [Nat.zero_add]; rfl, q_find_cong _ _ a0 nb (fun i hi => (T.name i hi).symm)]
  rfl
theorem sim_lane : Sim_lane RR := by
  intro σ μ a0 a1 h
  have h' : RR σ (mI μ 0 0 0) := h.fr FL.rf (FX.thrown μ 0)
  have hk := h'
  obtain ⟨nb, nl, nd, nw, nk, dn, T, -⟩ := h'
  unfold f_X11_lane f_X12_lane f_X11_lane_b22 f_X12_lane_b30 f_X12_lane_b31
  rw [e_nm, s_X0_hasBay 10 a0 σ nb T.nbC T.le.1, s_X12_isBay a0 _ nb T.nbM T.le.1, e_bdS, e_bdS, s_X0_hasBay 10 a1 σ nb T.nbC T.le.1, s_X12_isBay a1 _ nb T.nbM T.le.1, e_bdS, e_bdS]
  by_cases c : 0 ≤ a0.toInt ∧ a0.toInt < nb
  · by_cases c1 : 0 ≤ a1.toInt ∧ a1.toInt < nb
    · obtain ⟨x, hx, rfl⟩ := q_of c (by have := T.le.1; omega)
      obtain ⟨y, hy, rfl⟩ := q_of c1 (by have := T.le.1; omega)
      rw [if_pos c, if_pos c1, if_neg q_t10, if_neg q_t10, if_neg q_t10, if_neg q_t10, s_X0_daysBetween 10 x y σ nb T.nbC T.le.1 hx hy, s_X12_laneOf (nI x) (nI y) _ nl T.nlM T.le.2.1, e_bdS, e_bdS]
      exact ⟨_, _, _, rfl, by rw [(T.lane x y hx hy).1], hk⟩
    · rw [if_pos c, if_neg c1, if_neg q_t10, if_neg q_t10, if_pos rfl, if_pos rfl]
      exact ⟨_, _, _, rfl, rfl, hk⟩
  · rw [if_neg c, if_pos rfl, if_pos rfl]
    exact ⟨_, _, _, rfl, rfl, hk⟩
theorem sim_deed : Sim_deed RR := by
  intro σ μ a0 a1 h
  have h' : RR σ (mI μ 0 0 0) := h.fr FL.rf (FX.thrown μ 0)
  have hk := h'
  obtain ⟨nb, nl, nd, nw, nk, dn, T, -⟩ := h'
  unfold f_X11_deed f_X12_deed f_X12_deed_b57
  rw [e_nm, s_X0_hasDeed 10 a0 σ nd T.ndC T.le.2.2.1, s_X12_isDeed a0 _ nd T.ndM T.le.2.2.1, e_bdS, e_bdS]
  by_cases c : 0 ≤ a0.toInt ∧ a0.toInt < nd
  · have hnd := T.le.2.2.1
    obtain ⟨x, hx, rfl⟩ := q_of c (by omega)
    obtain ⟨⟨k1, -, p1, q1⟩, ⟨k2, -, p2, q2⟩, k3, -, p3, q3⟩ := T.deed x hx
    have i1 : k_inb (nI x) 12 = true := e_in (by omega) (by decide)
    have i2 : k_inb (nI x) 24 = true := e_in (by omega) (by decide)
    rw [if_pos c, if_neg q_t10, if_neg q_t10]
    simp only [e_ck i1, e_ck i2, nI_clamp (show x < 2 ^ 31 by omega)]
    rw [p1, p2, p3, q1, q2, q3]
    by_cases c0 : a1 = 0
    · rw [if_pos c0, if_pos c0]; exact ⟨_, _, _, rfl, rfl, hk⟩
    · rw [if_neg c0, if_neg c0]
      by_cases c1 : a1 = 1
      · rw [if_pos c1, if_pos c1]; exact ⟨_, _, _, rfl, rfl, hk⟩
      · rw [if_neg c1, if_neg c1]
        by_cases c2 : a1 = 2
        · rw [if_pos c2, if_pos c2]; exact ⟨_, _, _, rfl, rfl, hk⟩
        · rw [if_neg c2, if_neg c2]; exact ⟨_, _, _, rfl, rfl, hk⟩
  · rw [if_neg c, if_pos rfl, if_pos rfl]
    exact ⟨_, _, _, rfl, rfl, hk⟩
theorem sim_wind : Sim_wind RR := by
  intro σ μ a0 h
  have h' : RR σ (mI μ 0 0 0) := h.fr FL.rf (FX.thrown μ 0)
  have hk := h'
  obtain ⟨nb, nl, nd, nw, nk, dn, T, -, -, -, -, -, -, -, -, hr⟩ := h'
  unfold f_X11_wind f_X12_wind f_X11_wind_b23 f_X11_wind_b11 f_X11_wind_b23 f_X12_wind_b24 f_X12_wind_b25
  rw [e_nm]
  by_cases c : a0 < 0
  · rw [if_pos c, if_pos c]; exact ⟨_, _, _, rfl, rfl, hk⟩
  · rw [if_neg c, if_neg c]
    by_cases c1 : a0 ≤ 9999
    · rw [if_pos c1, if_neg (Int32.not_lt.mpr c1)]
      obtain ⟨x, hx, rfl⟩ := nI_of2 (n := 9999) (by decide) c c1
      rw [s_X0_galeOf 10 x (by omega) σ nw T.nwC T.le.2.2.2.1, s_X12_gale x (by omega) _ nw T.nwM T.le.2.2.2.1, e_bdS, e_bdS, q_gM_rest T hr x (by omega)]
      exact ⟨_, _, _, rfl, rfl, hk⟩
    · rw [if_neg c1, if_pos (Int32.not_le.mp c1)]; exact ⟨_, _, _, rfl, rfl, hk⟩
