/-! the start: classes, row classes, texts, statics -/
abbrev y_fl : List Cond := flatC (Jvm.Cond.and given_1 narrow_1)
set_option maxRecDepth 100000 in
theorem y_el : ∀ j, j < 106 → (Cond.eq (.elem (.field (.string "MoodAnchor$Tape" 28) "java/lang/String" "value" "[B") (.int (Int32.ofNat j))) (.int (k_byt.getD j 0))) ∈ y_fl := by decide +kernel
set_option maxRecDepth 100000 in
theorem y_n1 : Cond.exactly (.string "MoodAnchor$Tape" 28) "java/lang/String" ∈ y_fl := by decide +kernel
set_option maxRecDepth 100000 in
theorem y_n2 : Cond.eq (.field (.string "MoodAnchor$Tape" 28) "java/lang/String" "coder" "B") (.int 0) ∈ y_fl := by decide +kernel
set_option maxRecDepth 100000 in
theorem y_n3 : Cond.arrayOf (.field (.string "MoodAnchor$Tape" 28) "java/lang/String" "value" "[B") .byte ∈ y_fl := by decide +kernel
set_option maxRecDepth 100000 in
theorem y_n4 : Cond.eq (.length (.field (.string "MoodAnchor$Tape" 28) "java/lang/String" "value" "[B")) (.int 106) ∈ y_fl := by decide +kernel
set_option maxRecDepth 100000 in
theorem y_n5 : Cond.eq (.string "MoodAnchor$Tape" 28) (.string "MoodAnchorModel" 188) ∈ y_fl := by decide +kernel
set_option maxRecDepth 100000 in
theorem y_n6 : Cond.exactly (.string RX11 140) "java/lang/String" ∈ y_fl := by decide +kernel
set_option maxRecDepth 100000 in
theorem y_n7 : Cond.exactly (.string RX11 160) "java/lang/String" ∈ y_fl := by decide +kernel
set_option maxRecDepth 100000 in
theorem y_n8 : Cond.eq (.static "java/lang/String" "COMPACT_STRINGS" "Z") (.int 1) ∈ y_fl := by decide +kernel
set_option maxRecDepth 100000 in
theorem y_n9 : Cond.isRef (.static "jdk/internal/util/Preconditions" "SIOOBE_FORMATTER" "Ljava/util/function/BiFunction;") ∈ y_fl := by decide +kernel
set_option maxRecDepth 100000 in
theorem y_n10 : Cond.isRef (.static Bundle.tN "UNASSIGNED_STACK" Bundle.steD) ∈ y_fl := by decide +kernel
set_option maxRecDepth 100000 in
theorem y_n11 : Cond.isRef (.static Bundle.tN "SUPPRESSED_SENTINEL" Bundle.listD) ∈ y_fl := by decide +kernel
set_option maxRecDepth 100000 in
theorem y_n12 : Cond.not (.castable "java/util/NoSuchElementException" "java/lang/IndexOutOfBoundsException") ∈ y_fl := by decide +kernel
theorem y_arr {s : State} {args : Array Value} {ty : FieldType} (h : (Cond.arrayClass ty).before args s = true) : ∃ cA, s.vm.findClass ("[" ++ ty.toString) = some cA ∧ ArrOfT s cA ty := by
  obtain ⟨cA, kA, comp, h1, h2, h3⟩ := Cond.arrayClass_spec (show (Cond.arrayClass ty).holds args s none s [] = true from h)
  exact ⟨cA, h1, fun n z => ⟨fun k h => (by cases h), kA, h2, comp, h3⟩⟩
theorem y_str {s : State} {args : Array Value} {own : String} {k : Nat} (h : (Cond.exactly (.string own k) "java/lang/String").before args s = true) : ∃ a : Nat, (Term.string own k).eval args s none [] s = some (.ref a) := by
  obtain ⟨a, c, cA, kA, q1, -⟩ := Cond.exactly_spec (args := args) (first := s) (o := none) (s := s) (idx := []) (t := .string own k) (cls := "java/lang/String") h
  exact ⟨a, q1⟩
set_option maxHeartbeats 4000000 in
set_option maxRecDepth 100000 in
theorem z_start {s : State} {b : Nat} (hts : ∀ w ∈ lw_tbl, w.before #[Value.ref b] s = true) (hgv : (Jvm.Cond.and given_1 narrow_1).before #[Value.ref b] s = true) : ∃ (G : va_G) (Y : CY) (T : Nat × Nat), k_K G Y s ∧ k_E Y (fun q => s.heap.size ≤ q) s s.heap ∧ z_E T (fun q => s.heap.size ≤ q) s s.heap := by
  have hs : ∀ w ∈ y_fl, w.before #[Value.ref b] s = true := flat_of_before _ hgv
  have hA : ∀ a : Nat, a < s.heap.size → ¬ (fun q : Nat => s.heap.size ≤ q) a := fun a h => Nat.not_le.mpr h
  obtain ⟨c0, i0, h0⟩ := u_known (C := RX0) (T := TX0) (N := 15) (n := 15) hts inT_wsX00 (hts _ tw_n0)
  obtain ⟨c1, i1, h1⟩ := u_known (C := RX1) (T := TX1) (N := 9) (n := 9) hts inT_wsX10 (hts _ tw_n1)
  obtain ⟨c2, i2, h2⟩ := u_known (C := RX2) (T := TX2) (N := 6) (n := 6) hts inT_wsX20 (hts _ tw_n2)
  obtain ⟨c3, i3, h3⟩ := u_known (C := RX3) (T := TX3) (N := 5) (n := 5) hts inT_wsX30 (hts _ tw_n3)
  obtain ⟨c4, i4, h4⟩ := u_known (C := RX4) (T := TX4) (N := 6) (n := 6) hts inT_wsX40 (hts _ tw_n4)
  obtain ⟨c5, i5, h5⟩ := u_known (C := RX5) (T := TX5) (N := 12) (n := 12) hts inT_wsX50 (hts _ tw_n5)
  obtain ⟨c6, i6, h6⟩ := u_known (C := RX6) (T := TX6) (N := 9) (n := 9) hts inT_wsX60 (hts _ tw_n6)
  obtain ⟨c7, i7, h7⟩ := u_known (C := RX7) (T := TX7) (N := 12) (n := 12) hts inT_wsX70 (hts _ tw_n7)
  obtain ⟨c8, i8, h8⟩ := u_known (C := RX8) (T := TX8) (N := 8) (n := 8) hts inT_wsX80 (hts _ tw_n8)
  obtain ⟨c9, i9, h9⟩ := u_known (C := RX9) (T := TX9) (N := 9) (n := 9) hts inT_wsX90 (hts _ tw_n9)
  obtain ⟨c10, i10, h10⟩ := u_known (C := RX10) (T := TX10) (N := 7) (n := 7) hts inT_wsX100 (hts _ tw_n10)
  obtain ⟨c11, i11, h11⟩ := u_known (C := RX11) (T := TX11) (N := 14) (n := 14) hts inT_wsX110 (hts _ tw_n11)
  obtain ⟨c12, i12, h12⟩ := u_known (C := RX12) (T := TX12) (N := 66) (n := 66) hts inT_wsX120 (hts _ tw_n12)
  obtain ⟨aB, eB, rB⟩ := y_arr (hts _ tw_abyte)
  obtain ⟨aI, eI, rI⟩ := y_arr (hts _ tw_aint)
  obtain ⟨aL, eL, rL⟩ := y_arr (hts _ tw_along)
  obtain ⟨aZ, eZ, rZ⟩ := y_arr (hts _ tw_aboolean)
  have z1 : ∀ i : Nat, i < 1 → i = 0 := fun i h => by omega
  obtain ⟨adK, adV, hS, hev⟩ := vk_Sof (args := #[Value.ref b]) (s := s) (N := 1) (tm := fun _ => .string "MoodAnchor$Tape" 28) (len := [106]) (byt := [k_byt]) (A := fun q : Nat => s.heap.size ≤ q)
    (fun i hi => by rw [z1 i hi]; decide) (fun i hi => hs _ y_n1) (fun i hi => hs _ y_n2) (fun i hi => hs _ y_n3) (fun i hi => by rw [z1 i hi]; exact hs _ y_n4)
    (fun i hi j hj => by rw [z1 i hi] at hj ⊢; exact hs _ (y_el j hj)) (fun i j hi hj h => absurd ((z1 i hi).trans (z1 j hj).symm) h) hA
  have ev0 := hev 0 (by omega)
  obtain ⟨y, e1, e2⟩ := Cond.eq_one (show (Cond.eq (.string "MoodAnchor$Tape" 28) (.string "MoodAnchorModel" 188)).holds #[Value.ref b] s none s [] = true from hs _ y_n5)
  have ey : y = .ref (adK 0) := Option.some.inj (e1.symm.trans ev0)
  subst ey
  obtain ⟨t1, f1⟩ := y_str (hs _ y_n6)
  obtain ⟨t2, f2⟩ := y_str (hs _ y_n7)
  refine ⟨(fun k => [c0, c1, c2, c3, c4, c5, c6, c7, c8, c9, c10, c11, c12].getD k 0, fun k => [i0, i1, i2, i3, i4, i5, i6, i7, i8, i9, i10, i11, i12].getD k (fun _ => 0)), (aB, aI, aL, aZ, adK 0, adV 0), (t1, t2), ⟨⟨fun k q hq => ?_, fun k q hq => ?_⟩, fun w hw => va_Nw.of (k_tabs hw) (hts w (k_TTin w hw))⟩, ⟨⟨fun i hi => ?_, fun i j hi hj _ => by omega⟩, vk_R.of (hts _ tw_sM) e2, vk_R.of (hts _ tw_sT) e1, va_Zof (hts _ tw_lc) (hts _ tw_iS) (va_eqt (hs _ y_n8)) hA, va_Zqof (hts _ tw_lf) (hts _ tw_iP) (hs _ y_n9) hA⟩, vk_R.of (hts _ tw_s1) f1, vk_R.of (hts _ tw_s2) f2, vx_Zqof (hts _ tw_lU) (hts _ tw_iT) (hs _ y_n10) hA, vx_Zqof (hts _ tw_lN) (hts _ tw_iT) (hs _ y_n11) hA, fun w hw => va_Nw.of (z_Bont w hw) (hts w (z_Bin w hw)), va_Nc.of (hs _ y_n12)⟩
  · have hk : k < 13 := (List.getElem?_eq_some_iff.mp hq).1
    have hk2 : k = 0 ∨ k = 1 ∨ k = 2 ∨ k = 3 ∨ k = 4 ∨ k = 5 ∨ k = 6 ∨ k = 7 ∨ k = 8 ∨ k = 9 ∨ k = 10 ∨ k = 11 ∨ k = 12 := by omega
    rcases hk2 with rfl | rfl | rfl | rfl | rfl | rfl | rfl | rfl | rfl | rfl | rfl | rfl | rfl
    · cases hq; exact h0
    · cases hq; exact h1
    · cases hq; exact h2
    · cases hq; exact h3
    · cases hq; exact h4
    · cases hq; exact h5
    · cases hq; exact h6
    · cases hq; exact h7
    · cases hq; exact h8
    · cases hq; exact h9
    · cases hq; exact h10
    · cases hq; exact h11
    · cases hq; exact h12
  · have hk : k < 4 := (List.getElem?_eq_some_iff.mp hq).1
    have hk2 : k = 0 ∨ k = 1 ∨ k = 2 ∨ k = 3 := by omega
    rcases hk2 with rfl | rfl | rfl | rfl
    · cases hq; exact ⟨rB, eB⟩
    · cases hq; exact ⟨rI, eI⟩
    · cases hq; exact ⟨rL, eL⟩
    · cases hq; exact ⟨rZ, eZ⟩
  · have h0 := hS.1 0 (by omega)
    rw [z1 i hi]
    exact h0
