def oX (Y : CY) (ao : Nat) (f : Nat → Int64) : va_W := [(ao, .inl (Y.2.2.1, 1, .inr (.inl f)))]
def AllSims (RR : MSt → MSt → Prop) : Prop := Sim_feed RR ∧ Sim_text RR ∧ Sim_fault RR ∧ Sim_named RR ∧ Sim_lane RR ∧ Sim_deed RR ∧ Sim_wind RR ∧ Sim_mood RR ∧ Sim_holds RR ∧ Sim_law RR ∧ Sim_sail RR ∧ Sim_kind RR ∧ Sim_copy RR ∧ Sim_go RR ∧ Sim_firstAdrift RR ∧ Sim_way RR ∧ Sim_never RR ∧ Sim_kindness RR ∧ Sim_winter RR ∧ Sim_copies RR ∧ Sim_bids RR ∧ Sim_rests RR ∧ Sim_rest RR ∧ Sim_note RR ∧ Sim_out RR ∧ Sim_known RR ∧ Sim_was RR ∧ Sim_tells RR ∧ Sim_chance RR ∧ Sim_tried RR ∧ Sim_undo RR ∧ Sim_keep RR ∧ Sim_back RR ∧ Sim_count RR
/-- the case of bay, as the loop needs it -/
def BayCase (p : Program) (l : Launch) (e : Env) (s : State) (m : MethodId) (args : Array Value) (below : List Frame) (meth : Method) (c : Code) (A : Nat → Prop) (G : va_G) (Y : CY) (b L : Nat) (xs : Nat → Int32) (Q : State → Prop) (RR : MSt → MSt → Prop) (ad am : Nat → Nat) (ao : Nat) : Prop := ∀ (cells slots : Nat), cells + 1 ≤ room_1.cells → slots + 6 ≤ room_1.slots → ∀ (x4 : Int32), vp_in (x4 + 1) L → vp_in (x4 + 2) L → ∀ (ls : Array Slot), lv_has ls 7 [(0, .ref b), (1, .ref (ad 0)), (2, .ref (am 0)), (3, .ref ao), (4, .int x4)] → ∀ (σ μ : MSt) (f : Nat → Int64), RR σ μ → ∀ (H : Heap) (locs : List Loc), k_W G (fun σ => wC ad Y σ ++ (wM am Y μ ++ oX Y ao f)) A s.heap σ H locs → (∀ (σ1 μ1 : MSt) (f1 : Nat → Int64), RR σ1 μ1 → ∀ (H : Heap) (locs : List Loc) (ls : Array Slot), lv_has ls 7 [(0, .ref b), (1, .ref (ad 0)), (2, .ref (am 0)), (3, .ref ao), (4, .int x4)] → k_W G (fun μ => wC ad Y σ1 ++ (wM am Y μ ++ oX Y ao f1)) A s.heap μ1 H locs → W p l e room_1 s m args below meth c H locs (cells + 1) (slots + 6) Q (F0 m 1352 ls [])) → W p l e room_1 s m args below meth c H locs cells slots Q (F0 m 344 ls [])
set_option maxHeartbeats 8000000 in
set_option maxRecDepth 100000 in
theorem law_loop {p : Program} {l : Launch} {e : Env} {s : State} {m : MethodId} {below : List Frame} {meth : Method} {c : Code} {A : Nat → Prop} {G : va_G} {Y : CY} {b L cb sb : Nat} {xs : Nat → Int32} {Q : State → Prop} (RR : MSt → MSt → Prop) (hL : L ≤ 3072) (hcb : cb ≤ 10000) (hsb : sb ≤ 100000) (C : k_C p s m #[Value.ref b] meth c code RL ret wsL_law 7 G Y A) (hX : va_X b L xs s s.heap) (hbl : b < s.heap.size) (hbA : ¬ A b) (ad am : Nat → Nat) (ao : Nat) (S : AllSims RR) (hbay : BayCase p l e s m #[Value.ref b] below meth c A G Y b L xs Q RR ad am ao)
    (hend : ∀ (cells slots : Nat), cells ≤ 20000 → slots ≤ 200000 → ∀ (H : Heap) (locs : List Loc) (ls : Array Slot), va_S A s.heap H locs → W p l e room_1 s m #[Value.ref b] below meth c H locs cells slots Q (F0 m 1358 ls [])) :
    ∀ (n i : Nat), i ≤ L → L < i + 6 * n → ∀ (x4 : Int32), x4 = nI i → ∀ (σ μ : MSt) (f : Nat → Int64), RR σ μ → ∀ (H : Heap) (locs : List Loc) (ls : Array Slot), k_W G (fun σ => wC ad Y σ ++ (wM am Y μ ++ oX Y ao f)) A s.heap σ H locs → lv_has ls 7 [(0, .ref b), (1, .ref (ad 0)), (2, .ref (am 0)), (3, .ref ao), (4, .int x4)] → W p l e room_1 s m #[Value.ref b] below meth c H locs (cb + i) (sb + i) Q (F0 m 23 ls []) := by
  have hx := C.1
  have hb := C.2.1
  intro n
  induction n with
  | zero => intro i hi h; omega
  | succ n ih =>
    intro i hi hn x4 ex4 σ μ f hR H locs ls hw hl
    refine lv_iload hx hb dL_law_23 (lv_at hl 4 rfl) ?_
    refine lv_aload_n hx hb dL_law_25 rfl (lv_at hl 0 rfl) ?_
    refine va_slen hx hb hX hbl hbA hw.2.2 dL_law_26 ?_
    refine lv_bipush (v := (6 : Int32)) hx hb dL_law_27 (by decide) ?_
    refine lv_isub hx hb dL_law_29 ?_
    refine lv_icmp_gt (tgt := 1358) hx hb dL_law_30 (by decide) (fun _ => hend _ _ (by omega) (by omega) H locs ls hw.2.2) (fun c1 => ?_)
    have hlt : i + 6 ≤ L := by
      rw [Int32.lt_iff_toInt_lt] at c1
      have e1 : (Int32.ofNat L - 6).toInt = (L : Int) - 6 := pk_sub_toInt (a := L) (b := 6) (by omega) (by decide)
      rw [e1, ex4, nI_toInt (by omega)] at c1
      omega
    have ix : ∀ k : Nat, k < 6 → vp_in (nI i + nI k) L := fun k hk => by rw [nI_add]; exact vp_in_nI (by omega) (by omega)
    have i0 : vp_in x4 L := by rw [ex4]; exact vp_in_nI (by omega) (by omega)
    have i1 : vp_in (x4 + 1) L := by rw [ex4]; exact ix 1 (by omega)
    have i2 : vp_in (x4 + 2) L := by rw [ex4]; exact ix 2 (by omega)
    have i3 : vp_in (x4 + 3) L := by rw [ex4]; exact ix 3 (by omega)
    have i4 : vp_in (x4 + 4) L := by rw [ex4]; exact ix 4 (by omega)
    have i5 : vp_in (x4 + 5) L := by rw [ex4]; exact ix 5 (by omega)
    have hcs : cb + i ≤ room_1.cells ∧ sb + i ≤ room_1.slots := ⟨by show _ ≤ 601024; omega, by show _ ≤ 7293034; omega⟩
    have back : ∀ (σ1 μ1 : MSt) (f1 : Nat → Int64) (cells slots : Nat), cells ≤ cb + (i + 6) → slots ≤ sb + (i + 6) → RR σ1 μ1 → ∀ (H : Heap) (locs : List Loc) (ls : Array Slot), lv_has ls 7 [(0, .ref b), (1, .ref (ad 0)), (2, .ref (am 0)), (3, .ref ao), (4, .int x4)] → k_W G (fun μ => wC ad Y σ1 ++ (wM am Y μ ++ oX Y ao f1)) A s.heap μ1 H locs → W p l e room_1 s m #[Value.ref b] below meth c H locs cells slots Q (F0 m 1352 ls []) := by
      intro σ1 μ1 f1 cells slots h1 h2 hR1 H locs ls hl hw
      obtain ⟨y4, ey⟩ : ∃ y : Int32, y = x4 + 6 := ⟨_, rfl⟩
      refine lv_iinc (v := y4) (lv' := [(4, .int y4), (0, .ref b), (1, .ref (ad 0)), (2, .ref (am 0)), (3, .ref ao)]) hx hb dL_law_1352 hl (k := 4) rfl (by rw [ey]; rfl) (by decide) rfl (fun ls hl => ?_)
      refine lv_goto (tgt := 23) hx hb dL_law_1355 (by decide) ?_
      refine W.widen (k := cb + (i + 6)) (n := sb + (i + 6)) h1 h2 ?_
      exact ih (i + 6) hlt (by omega) y4 (by rw [ey, ex4]; exact nI_add i 6) σ1 μ1 f1 hR1 H locs ls hw (lv_sub hl [1, 2, 3, 4, 0] rfl)
    refine lv_aload_n hx hb dL_law_33 rfl (lv_at hl 0 rfl) ?_
    refine lv_iload hx hb dL_law_34 (lv_at hl 4 rfl) ?_
    refine va_sld hx hb hX hbl hbA hw.2.2 i0 dL_law_36 ?_
    refine lv_bipush (v := (63 : Int32)) hx hb dL_law_37 (by decide) ?_
    refine lv_iand hx hb dL_law_39 ?_
    refine lv_topi (fun z ez => ?_)
    by_cases h0 : z = (0 : Int32)
    · refine lv_tableIn (tgt := 196) hx hb dL_law_40 (by rw [h0]; decide) (by rw [h0]; decide) (by rw [h0]; rfl) (by decide) ?_
      exact lc_0 RR C hX hbl hbA ad am (oX Y ao f) hcs x4 i1 i2 i3 i4 i5 ao ls hl S.1 σ μ hR H locs hw (fun σ1 μ1 hR1 H locs hw => back σ1 μ1 f _ _ (by omega) (by omega) hR1 H locs ls hl hw)
    by_cases h1 : z = (1 : Int32)
    · refine lv_tableIn (tgt := 269) hx hb dL_law_40 (by rw [h1]; decide) (by rw [h1]; decide) (by rw [h1]; rfl) (by decide) ?_
      exact lc_1 RR C hX hbl hbA ad am (oX Y ao f) hcs x4 i1 i2 i3 i4 i5 ao ls hl S.2.1 σ μ hR H locs hw (fun σ1 μ1 hR1 H locs hw => back σ1 μ1 f _ _ (by omega) (by omega) hR1 H locs ls hl hw)
    by_cases h2 : z = (2 : Int32)
    · refine lv_tableIn (tgt := 294) hx hb dL_law_40 (by rw [h2]; decide) (by rw [h2]; decide) (by rw [h2]; rfl) (by decide) ?_
      exact lc_2 RR C hX hbl hbA ad am (oX Y ao f) hcs x4 i1 i2 i3 i4 i5 ao ls hl S.2.2.1 σ μ hR H locs hw (fun σ1 μ1 hR1 H locs hw => back σ1 μ1 f _ _ (by omega) (by omega) hR1 H locs ls hl hw)
    by_cases h3 : z = (3 : Int32)
    · refine lv_tableIn (tgt := 319) hx hb dL_law_40 (by rw [h3]; decide) (by rw [h3]; decide) (by rw [h3]; rfl) (by decide) ?_
      exact lc_3 RR C hX hbl hbA ad am (oX Y ao f) hcs x4 i1 i2 i3 i4 i5 ao ls hl S.2.2.2.1 σ μ hR H locs hw (fun σ1 μ1 hR1 H locs hw => back σ1 μ1 f _ _ (by omega) (by omega) hR1 H locs ls hl hw)
    by_cases h4 : z = (4 : Int32)
    · refine lv_tableIn (tgt := 344) hx hb dL_law_40 (by rw [h4]; decide) (by rw [h4]; decide) (by rw [h4]; rfl) (by decide) ?_
      exact hbay (cb + i) (sb + i) (by show _ ≤ 601024; omega) (by show _ ≤ 7293034; omega) x4 i1 i2 ls hl σ μ f hR H locs hw (fun σ1 μ1 f1 hR1 H locs ls hl hw => back σ1 μ1 f1 _ _ (by omega) (by omega) hR1 H locs ls hl hw)
    by_cases h5 : z = (5 : Int32)
    · refine lv_tableIn (tgt := 412) hx hb dL_law_40 (by rw [h5]; decide) (by rw [h5]; decide) (by rw [h5]; rfl) (by decide) ?_
      exact lc_5 RR C hX hbl hbA ad am (oX Y ao f) hcs x4 i1 i2 i3 i4 i5 ao ls hl S.2.2.2.2.1 σ μ hR H locs hw (fun σ1 μ1 hR1 H locs hw => back σ1 μ1 f _ _ (by omega) (by omega) hR1 H locs ls hl hw)
    by_cases h6 : z = (6 : Int32)
    · refine lv_tableIn (tgt := 449) hx hb dL_law_40 (by rw [h6]; decide) (by rw [h6]; decide) (by rw [h6]; rfl) (by decide) ?_
      exact lc_6 RR C hX hbl hbA ad am (oX Y ao f) hcs x4 i1 i2 i3 i4 i5 ao ls hl S.2.2.2.2.2.1 σ μ hR H locs hw (fun σ1 μ1 hR1 H locs hw => back σ1 μ1 f _ _ (by omega) (by omega) hR1 H locs ls hl hw)
    by_cases h7 : z = (7 : Int32)
    · refine lv_tableIn (tgt := 486) hx hb dL_law_40 (by rw [h7]; decide) (by rw [h7]; decide) (by rw [h7]; rfl) (by decide) ?_
      exact lc_7 RR C hX hbl hbA ad am (oX Y ao f) hcs x4 i1 i2 i3 i4 i5 ao ls hl S.2.2.2.2.2.2.1 σ μ hR H locs hw (fun σ1 μ1 hR1 H locs hw => back σ1 μ1 f _ _ (by omega) (by omega) hR1 H locs ls hl hw)
    by_cases h8 : z = (8 : Int32)
    · refine lv_tableIn (tgt := 511) hx hb dL_law_40 (by rw [h8]; decide) (by rw [h8]; decide) (by rw [h8]; rfl) (by decide) ?_
      exact lc_8 RR C hX hbl hbA ad am (oX Y ao f) hcs x4 i1 i2 i3 i4 i5 ao ls hl S.2.2.2.2.2.2.2.1 σ μ hR H locs hw (fun σ1 μ1 hR1 H locs hw => back σ1 μ1 f _ _ (by omega) (by omega) hR1 H locs ls hl hw)
    by_cases h9 : z = (9 : Int32)
    · refine lv_tableIn (tgt := 548) hx hb dL_law_40 (by rw [h9]; decide) (by rw [h9]; decide) (by rw [h9]; rfl) (by decide) ?_
      exact lc_9 RR C hX hbl hbA ad am (oX Y ao f) hcs x4 i1 i2 i3 i4 i5 ao ls hl S.2.2.2.2.2.2.2.2.1 σ μ hR H locs hw (fun σ1 μ1 hR1 H locs hw => back σ1 μ1 f _ _ (by omega) (by omega) hR1 H locs ls hl hw)
    by_cases h10 : z = (10 : Int32)
    · refine lv_tableIn (tgt := 585) hx hb dL_law_40 (by rw [h10]; decide) (by rw [h10]; decide) (by rw [h10]; rfl) (by decide) ?_
      exact lc_10 RR C hX hbl hbA ad am (oX Y ao f) hcs x4 i1 i2 i3 i4 i5 ao ls hl S.2.2.2.2.2.2.2.2.2.1 σ μ hR H locs hw (fun σ1 μ1 hR1 H locs hw => back σ1 μ1 f _ _ (by omega) (by omega) hR1 H locs ls hl hw)
    by_cases h11 : z = (11 : Int32)
    · refine lv_tableIn (tgt := 623) hx hb dL_law_40 (by rw [h11]; decide) (by rw [h11]; decide) (by rw [h11]; rfl) (by decide) ?_
      exact lc_11 RR C hX hbl hbA ad am (oX Y ao f) hcs x4 i1 i2 i3 i4 i5 ao ls hl S.2.2.2.2.2.2.2.2.2.2.1 σ μ hR H locs hw (fun σ1 μ1 hR1 H locs hw => back σ1 μ1 f _ _ (by omega) (by omega) hR1 H locs ls hl hw)
    by_cases h12 : z = (12 : Int32)
    · refine lv_tableIn (tgt := 648) hx hb dL_law_40 (by rw [h12]; decide) (by rw [h12]; decide) (by rw [h12]; rfl) (by decide) ?_
      exact lc_12 RR C hX hbl hbA ad am (oX Y ao f) hcs x4 i1 i2 i3 i4 i5 ao ls hl S.2.2.2.2.2.2.2.2.2.2.2.1 σ μ hR H locs hw (fun σ1 μ1 hR1 H locs hw => back σ1 μ1 f _ _ (by omega) (by omega) hR1 H locs ls hl hw)
    by_cases h13 : z = (13 : Int32)
    · refine lv_tableIn (tgt := 685) hx hb dL_law_40 (by rw [h13]; decide) (by rw [h13]; decide) (by rw [h13]; rfl) (by decide) ?_
      exact lc_13 RR C hX hbl hbA ad am (oX Y ao f) hcs x4 i1 i2 i3 i4 i5 ao ls hl S.2.2.2.2.2.2.2.2.2.2.2.2.1 σ μ hR H locs hw (fun σ1 μ1 hR1 H locs hw => back σ1 μ1 f _ _ (by omega) (by omega) hR1 H locs ls hl hw)
    by_cases h14 : z = (14 : Int32)
    · refine lv_tableIn (tgt := 726) hx hb dL_law_40 (by rw [h14]; decide) (by rw [h14]; decide) (by rw [h14]; rfl) (by decide) ?_
      exact lc_14 RR C hX hbl hbA ad am (oX Y ao f) hcs x4 i1 i2 i3 i4 i5 ao ls hl S.2.2.2.2.2.2.2.2.2.2.2.2.2.1 σ μ hR H locs hw (fun σ1 μ1 hR1 H locs hw => back σ1 μ1 f _ _ (by omega) (by omega) hR1 H locs ls hl hw)
    by_cases h15 : z = (15 : Int32)
    · refine lv_tableIn (tgt := 751) hx hb dL_law_40 (by rw [h15]; decide) (by rw [h15]; decide) (by rw [h15]; rfl) (by decide) ?_
      exact lc_15 RR C hX hbl hbA ad am (oX Y ao f) hcs x4 i1 i2 i3 i4 i5 ao ls hl S.2.2.2.2.2.2.2.2.2.2.2.2.2.2.1 σ μ hR H locs hw (fun σ1 μ1 hR1 H locs hw => back σ1 μ1 f _ _ (by omega) (by omega) hR1 H locs ls hl hw)
    by_cases h16 : z = (16 : Int32)
    · refine lv_tableIn (tgt := 776) hx hb dL_law_40 (by rw [h16]; decide) (by rw [h16]; decide) (by rw [h16]; rfl) (by decide) ?_
      exact lc_16 RR C hX hbl hbA ad am (oX Y ao f) hcs x4 i1 i2 i3 i4 i5 ao ls hl S.2.2.2.2.2.2.2.2.2.2.2.2.2.2.2.1 σ μ hR H locs hw (fun σ1 μ1 hR1 H locs hw => back σ1 μ1 f _ _ (by omega) (by omega) hR1 H locs ls hl hw)
    by_cases h17 : z = (17 : Int32)
    · refine lv_tableIn (tgt := 813) hx hb dL_law_40 (by rw [h17]; decide) (by rw [h17]; decide) (by rw [h17]; rfl) (by decide) ?_
      exact lc_17 RR C hX hbl hbA ad am (oX Y ao f) hcs x4 i1 i2 i3 i4 i5 ao ls hl S.2.2.2.2.2.2.2.2.2.2.2.2.2.2.2.2.1 σ μ hR H locs hw (fun σ1 μ1 hR1 H locs hw => back σ1 μ1 f _ _ (by omega) (by omega) hR1 H locs ls hl hw)
    by_cases h18 : z = (18 : Int32)
    · refine lv_tableIn (tgt := 826) hx hb dL_law_40 (by rw [h18]; decide) (by rw [h18]; decide) (by rw [h18]; rfl) (by decide) ?_
      exact lc_18 RR C hX hbl hbA ad am (oX Y ao f) hcs x4 i1 i2 i3 i4 i5 ao ls hl S.2.2.2.2.2.2.2.2.2.2.2.2.2.2.2.2.2.1 σ μ hR H locs hw (fun σ1 μ1 hR1 H locs hw => back σ1 μ1 f _ _ (by omega) (by omega) hR1 H locs ls hl hw)
    by_cases h19 : z = (19 : Int32)
    · refine lv_tableIn (tgt := 863) hx hb dL_law_40 (by rw [h19]; decide) (by rw [h19]; decide) (by rw [h19]; rfl) (by decide) ?_
      exact lc_19 RR C hX hbl hbA ad am (oX Y ao f) hcs x4 i1 i2 i3 i4 i5 ao ls hl S.2.2.2.2.2.2.2.2.2.2.2.2.2.2.2.2.2.2.1 σ μ hR H locs hw (fun σ1 μ1 hR1 H locs hw => back σ1 μ1 f _ _ (by omega) (by omega) hR1 H locs ls hl hw)
    by_cases h20 : z = (20 : Int32)
    · refine lv_tableIn (tgt := 900) hx hb dL_law_40 (by rw [h20]; decide) (by rw [h20]; decide) (by rw [h20]; rfl) (by decide) ?_
      exact lc_20 RR C hX hbl hbA ad am (oX Y ao f) hcs x4 i1 i2 i3 i4 i5 ao ls hl S.2.2.2.2.2.2.2.2.2.2.2.2.2.2.2.2.2.2.2.1 σ μ hR H locs hw (fun σ1 μ1 hR1 H locs hw => back σ1 μ1 f _ _ (by omega) (by omega) hR1 H locs ls hl hw)
    by_cases h21 : z = (21 : Int32)
    · refine lv_tableIn (tgt := 938) hx hb dL_law_40 (by rw [h21]; decide) (by rw [h21]; decide) (by rw [h21]; rfl) (by decide) ?_
      exact lc_21 RR C hX hbl hbA ad am (oX Y ao f) hcs x4 i1 i2 i3 i4 i5 ao ls hl S.2.2.2.2.2.2.2.2.2.2.2.2.2.2.2.2.2.2.2.2.1 σ μ hR H locs hw (fun σ1 μ1 hR1 H locs hw => back σ1 μ1 f _ _ (by omega) (by omega) hR1 H locs ls hl hw)
    by_cases h22 : z = (22 : Int32)
    · refine lv_tableIn (tgt := 963) hx hb dL_law_40 (by rw [h22]; decide) (by rw [h22]; decide) (by rw [h22]; rfl) (by decide) ?_
      exact lc_22 RR C hX hbl hbA ad am (oX Y ao f) hcs x4 i1 i2 i3 i4 i5 ao ls hl S.2.2.2.2.2.2.2.2.2.2.2.2.2.2.2.2.2.2.2.2.2.1 σ μ hR H locs hw (fun σ1 μ1 hR1 H locs hw => back σ1 μ1 f _ _ (by omega) (by omega) hR1 H locs ls hl hw)
    by_cases h23 : z = (23 : Int32)
    · refine lv_tableIn (tgt := 988) hx hb dL_law_40 (by rw [h23]; decide) (by rw [h23]; decide) (by rw [h23]; rfl) (by decide) ?_
      exact lc_23 RR C hX hbl hbA ad am (oX Y ao f) hcs x4 i1 i2 i3 i4 i5 ao ls hl S.2.2.2.2.2.2.2.2.2.2.2.2.2.2.2.2.2.2.2.2.2.2.1 σ μ hR H locs hw (fun σ1 μ1 hR1 H locs hw => back σ1 μ1 f _ _ (by omega) (by omega) hR1 H locs ls hl hw)
    by_cases h24 : z = (24 : Int32)
    · refine lv_tableIn (tgt := 1025) hx hb dL_law_40 (by rw [h24]; decide) (by rw [h24]; decide) (by rw [h24]; rfl) (by decide) ?_
      exact lc_24 RR C hX hbl hbA ad am (oX Y ao f) hcs x4 i1 i2 i3 i4 i5 ao ls hl S.2.2.2.2.2.2.2.2.2.2.2.2.2.2.2.2.2.2.2.2.2.2.2.1 σ μ hR H locs hw (fun σ1 μ1 hR1 H locs hw => back σ1 μ1 f _ _ (by omega) (by omega) hR1 H locs ls hl hw)
    by_cases h25 : z = (25 : Int32)
    · refine lv_tableIn (tgt := 1090) hx hb dL_law_40 (by rw [h25]; decide) (by rw [h25]; decide) (by rw [h25]; rfl) (by decide) ?_
      exact lc_25 RR C hX hbl hbA ad am (oX Y ao f) hcs x4 i1 i2 i3 i4 i5 ao ls hl S.2.2.2.2.2.2.2.2.2.2.2.2.2.2.2.2.2.2.2.2.2.2.2.2.1 σ μ hR H locs hw (fun σ1 μ1 hR1 H locs hw => back σ1 μ1 f _ _ (by omega) (by omega) hR1 H locs ls hl hw)
    by_cases h26 : z = (26 : Int32)
    · refine lv_tableIn (tgt := 1115) hx hb dL_law_40 (by rw [h26]; decide) (by rw [h26]; decide) (by rw [h26]; rfl) (by decide) ?_
      exact lc_26 RR C hX hbl hbA ad am (oX Y ao f) hcs x4 i1 i2 i3 i4 i5 ao ls hl S.2.2.2.2.2.2.2.2.2.2.2.2.2.2.2.2.2.2.2.2.2.2.2.2.2.1 σ μ hR H locs hw (fun σ1 μ1 hR1 H locs hw => back σ1 μ1 f _ _ (by omega) (by omega) hR1 H locs ls hl hw)
    by_cases h27 : z = (27 : Int32)
    · refine lv_tableIn (tgt := 1140) hx hb dL_law_40 (by rw [h27]; decide) (by rw [h27]; decide) (by rw [h27]; rfl) (by decide) ?_
      exact lc_27 RR C hX hbl hbA ad am (oX Y ao f) hcs x4 i1 i2 i3 i4 i5 ao ls hl S.2.2.2.2.2.2.2.2.2.2.2.2.2.2.2.2.2.2.2.2.2.2.2.2.2.2.1 σ μ hR H locs hw (fun σ1 μ1 hR1 H locs hw => back σ1 μ1 f _ _ (by omega) (by omega) hR1 H locs ls hl hw)
    by_cases h28 : z = (28 : Int32)
    · refine lv_tableIn (tgt := 1165) hx hb dL_law_40 (by rw [h28]; decide) (by rw [h28]; decide) (by rw [h28]; rfl) (by decide) ?_
      exact lc_28 RR C hX hbl hbA ad am (oX Y ao f) hcs x4 i1 i2 i3 i4 i5 ao ls hl S.2.2.2.2.2.2.2.2.2.2.2.2.2.2.2.2.2.2.2.2.2.2.2.2.2.2.2.1 σ μ hR H locs hw (fun σ1 μ1 hR1 H locs hw => back σ1 μ1 f _ _ (by omega) (by omega) hR1 H locs ls hl hw)
    by_cases h29 : z = (29 : Int32)
    · refine lv_tableIn (tgt := 1190) hx hb dL_law_40 (by rw [h29]; decide) (by rw [h29]; decide) (by rw [h29]; rfl) (by decide) ?_
      exact lc_29 RR C hX hbl hbA ad am (oX Y ao f) hcs x4 i1 i2 i3 i4 i5 ao ls hl S.2.2.2.2.2.2.2.2.2.2.2.2.2.2.2.2.2.2.2.2.2.2.2.2.2.2.2.2.1 σ μ hR H locs hw (fun σ1 μ1 hR1 H locs hw => back σ1 μ1 f _ _ (by omega) (by omega) hR1 H locs ls hl hw)
    by_cases h30 : z = (30 : Int32)
    · refine lv_tableIn (tgt := 1239) hx hb dL_law_40 (by rw [h30]; decide) (by rw [h30]; decide) (by rw [h30]; rfl) (by decide) ?_
      exact lc_30 RR C hX hbl hbA ad am (oX Y ao f) hcs x4 i1 i2 i3 i4 i5 ao ls hl S.2.2.2.2.2.2.2.2.2.2.2.2.2.2.2.2.2.2.2.2.2.2.2.2.2.2.2.2.2.1 σ μ hR H locs hw (fun σ1 μ1 hR1 H locs hw => back σ1 μ1 f _ _ (by omega) (by omega) hR1 H locs ls hl hw)
    by_cases h31 : z = (31 : Int32)
    · refine lv_tableIn (tgt := 1288) hx hb dL_law_40 (by rw [h31]; decide) (by rw [h31]; decide) (by rw [h31]; rfl) (by decide) ?_
      exact lc_31 RR C hX hbl hbA ad am (oX Y ao f) hcs x4 i1 i2 i3 i4 i5 ao ls hl S.2.2.2.2.2.2.2.2.2.2.2.2.2.2.2.2.2.2.2.2.2.2.2.2.2.2.2.2.2.2.1 σ μ hR H locs hw (fun σ1 μ1 hR1 H locs hw => back σ1 μ1 f _ _ (by omega) (by omega) hR1 H locs ls hl hw)
    by_cases h32 : z = (32 : Int32)
    · refine lv_tableIn (tgt := 1301) hx hb dL_law_40 (by rw [h32]; decide) (by rw [h32]; decide) (by rw [h32]; rfl) (by decide) ?_
      exact lc_32 RR C hX hbl hbA ad am (oX Y ao f) hcs x4 i1 i2 i3 i4 i5 ao ls hl S.2.2.2.2.2.2.2.2.2.2.2.2.2.2.2.2.2.2.2.2.2.2.2.2.2.2.2.2.2.2.2.1 σ μ hR H locs hw (fun σ1 μ1 hR1 H locs hw => back σ1 μ1 f _ _ (by omega) (by omega) hR1 H locs ls hl hw)
    by_cases h33 : z = (33 : Int32)
    · refine lv_tableIn (tgt := 1314) hx hb dL_law_40 (by rw [h33]; decide) (by rw [h33]; decide) (by rw [h33]; rfl) (by decide) ?_
      exact lc_33 RR C hX hbl hbA ad am (oX Y ao f) hcs x4 i1 i2 i3 i4 i5 ao ls hl S.2.2.2.2.2.2.2.2.2.2.2.2.2.2.2.2.2.2.2.2.2.2.2.2.2.2.2.2.2.2.2.2.1 σ μ hR H locs hw (fun σ1 μ1 hR1 H locs hw => back σ1 μ1 f _ _ (by omega) (by omega) hR1 H locs ls hl hw)
    by_cases h34 : z = (34 : Int32)
    · refine lv_tableIn (tgt := 1327) hx hb dL_law_40 (by rw [h34]; decide) (by rw [h34]; decide) (by rw [h34]; rfl) (by decide) ?_
      exact lc_34 RR C hX hbl hbA ad am (oX Y ao f) hcs x4 i1 i2 i3 i4 i5 ao ls hl S.2.2.2.2.2.2.2.2.2.2.2.2.2.2.2.2.2.2.2.2.2.2.2.2.2.2.2.2.2.2.2.2.2 σ μ hR H locs hw (fun σ1 μ1 hR1 H locs hw => back σ1 μ1 f _ _ (by omega) (by omega) hR1 H locs ls hl hw)
    refine lv_tableOut (tgt := 1352) hx hb dL_law_40 (k_tout (fun k q1 q2 q3 => ?_)) (by decide) ?_
    · have q4 : z = Int32.ofInt k := by rw [← q3, Int32.ofInt_toInt]
      have q5 : k = 0 ∨ k = 1 ∨ k = 2 ∨ k = 3 ∨ k = 4 ∨ k = 5 ∨ k = 6 ∨ k = 7 ∨ k = 8 ∨ k = 9 ∨ k = 10 ∨ k = 11 ∨ k = 12 ∨ k = 13 ∨ k = 14 ∨ k = 15 ∨ k = 16 ∨ k = 17 ∨ k = 18 ∨ k = 19 ∨ k = 20 ∨ k = 21 ∨ k = 22 ∨ k = 23 ∨ k = 24 ∨ k = 25 ∨ k = 26 ∨ k = 27 ∨ k = 28 ∨ k = 29 ∨ k = 30 ∨ k = 31 ∨ k = 32 ∨ k = 33 ∨ k = 34 := by omega
      rcases q5 with rfl | rfl | rfl | rfl | rfl | rfl | rfl | rfl | rfl | rfl | rfl | rfl | rfl | rfl | rfl | rfl | rfl | rfl | rfl | rfl | rfl | rfl | rfl | rfl | rfl | rfl | rfl | rfl | rfl | rfl | rfl | rfl | rfl | rfl | rfl
      · exact h0 q4
      · exact h1 q4
      · exact h2 q4
      · exact h3 q4
      · exact h4 q4
      · exact h5 q4
      · exact h6 q4
      · exact h7 q4
      · exact h8 q4
      · exact h9 q4
      · exact h10 q4
      · exact h11 q4
      · exact h12 q4
      · exact h13 q4
      · exact h14 q4
      · exact h15 q4
      · exact h16 q4
      · exact h17 q4
      · exact h18 q4
      · exact h19 q4
      · exact h20 q4
      · exact h21 q4
      · exact h22 q4
      · exact h23 q4
      · exact h24 q4
      · exact h25 q4
      · exact h26 q4
      · exact h27 q4
      · exact h28 q4
      · exact h29 q4
      · exact h30 q4
      · exact h31 q4
      · exact h32 q4
      · exact h33 q4
      · exact h34 q4
    exact back σ μ f _ _ (by omega) (by omega) hR H locs ls hl hw
