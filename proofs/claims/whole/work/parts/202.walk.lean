def f_X4_add_b39 (o : Nat)  (σ : MSt) : Option MSt :=
  some σ
def f_X4_add (o : Nat) (p1 : Int32) (p2 : Int32) (σ : MSt) : Option MSt :=
  if (64 : Int32) ≤ (σ.1 o 5) then
  (f_X4_add_b39 o σ)
  else
  (k_ck (k_inb (σ.1 o 5) 64) <|
  k_nm (mI σ (o + 1) ((σ.1 o 5)).toNatClampNeg p1) fun σ1 =>
  k_ck (k_inb (σ1.1 o 5) 64) <|
  k_nm (mI σ1 (o + 2) ((σ1.1 o 5)).toNatClampNeg p2) fun σ2 =>
  k_nm (mI σ2 o 5 ((σ2.1 o 5) + (1 : Int32))) fun σ3 =>
  f_X4_add_b39 o σ3)
def rmX4_add : Room := { frames := 0, cells := 0, slots := 0, locals := 0 }
set_option maxHeartbeats 4000000 in
set_option maxRecDepth 100000 in
theorem c_X4_add (l : Launch) (G : va_G) (Y : CY) (w : MSt → va_W) (ad : Nat → Nat) (o : Nat) (Lo : LayX4 ad w Y o) (p1 : Int32) (p2 : Int32) (σ : MSt) (σ' : MSt) (hf : f_X4_add o p1 p2 σ = some σ') : k_Mv l yX4_add wsX4_add rmX4_add G Y w [.ref (ad o), .int p1, .int p2] σ σ' := by
  refine k_ofv (own := RX4) (cc := cX4_add) (maxL := 3) none (by decide) rfl rfl (Nat.le_of_ble_eq_true rfl) ?_
  intro p e s m below meth c A C ls hl hw
  have hx := C.1
  have hb := C.2.1
  have hown := C.2.2.2.2.1
  have hts := C.2.2.2.2.2.1
  have hks := C.2.2.2.2.2.2.1
  have hl : lv_has ls 3 [(0, .ref (ad o)), (1, .int p1), (2, .int p2)] := hl
  have b39 : ∀ (σ : MSt) (H : Heap) (locs : List Loc) (ls : Array Slot), lv_has ls 3 [] → k_W G w A s.heap σ H locs → f_X4_add_b39 o σ = some σ' → W p l e rmX4_add s m [.ref (ad o), .int p1, .int p2].toArray below meth c H locs 0 0 (MQ below (k_Qv G w A σ') [.ref (ad o), .int p1, .int p2].toArray s 0 0 A) (F0 m 39 ls []) := by
    intro σ H locs ls hl hw hf
    unfold f_X4_add_b39 at hf
    exact k_vret C hw hf dX4_add_39
  unfold f_X4_add at hf
  refine lv_aload_n hx hb dX4_add_0 rfl (lv_at hl 0 rfl) ?_
  refine k_get C hw (LX4_o Lo) (ci := 4) rfl k_in4 5 (by decide) lk4_28 (v := .int (σ.1 o 5)) rfl dX4_add_1 ?_
  refine lv_bipush (v := (64 : Int32)) hx hb dX4_add_4 (by decide) ?_
  refine lv_icmp_ge (tgt := 39) hx hb dX4_add_6 (by decide) (fun h => ?_) (fun h => ?_)
  · have hf := k_ifT h hf
    exact b39 σ _ _ _ (lv_sub hl [] rfl) hw hf
  · have hf := k_ifF h hf
    refine lv_aload_n hx hb dX4_add_9 rfl (lv_at hl 0 rfl) ?_
    refine k_get C hw (LX4_o Lo) (ci := 4) rfl k_in4 0 (by decide) lk4_9 (v := .ref (ad (o + 1))) rfl dX4_add_10 ?_
    refine lv_aload_n hx hb dX4_add_13 rfl (lv_at hl 0 rfl) ?_
    refine k_get C hw (LX4_o Lo) (ci := 4) rfl k_in4 5 (by decide) lk4_28 (v := .int (σ.1 o 5)) rfl dX4_add_14 ?_
    refine lv_iload_n hx hb dX4_add_17 rfl (lv_at hl 1 rfl) ?_
    obtain ⟨hi, hf⟩ := k_ckE hf
    refine k_iast C hw (LX4_1 Lo) hi dX4_add_18 (fun σ1 eq H locs hw => ?_)
    have hf := k_nmE eq hf
    refine lv_aload_n hx hb dX4_add_19 rfl (lv_at hl 0 rfl) ?_
    refine k_get C hw (LX4_o Lo) (ci := 4) rfl k_in4 1 (by decide) lk4_15 (v := .ref (ad (o + 2))) rfl dX4_add_20 ?_
    refine lv_aload_n hx hb dX4_add_23 rfl (lv_at hl 0 rfl) ?_
    refine k_get C hw (LX4_o Lo) (ci := 4) rfl k_in4 5 (by decide) lk4_28 (v := .int (σ1.1 o 5)) rfl dX4_add_24 ?_
    refine lv_iload_n hx hb dX4_add_27 rfl (lv_at hl 2 rfl) ?_
    obtain ⟨hi, hf⟩ := k_ckE hf
    refine k_iast C hw (LX4_2 Lo) hi dX4_add_28 (fun σ2 eq H locs hw => ?_)
    have hf := k_nmE eq hf
    refine lv_aload_n hx hb dX4_add_29 rfl (lv_at hl 0 rfl) ?_
    refine lv_dup hx hb dX4_add_30 rfl ?_
    refine k_get C hw (LX4_o Lo) (ci := 4) rfl k_in4 5 (by decide) lk4_28 (v := .int (σ2.1 o 5)) rfl dX4_add_31 ?_
    refine lv_iconst (v := (1 : Int32)) hx hb dX4_add_34 (by decide) ?_
    refine lv_iadd hx hb dX4_add_35 ?_
    refine k_put C hw (LX4_o Lo) (ci := 4) rfl k_in4 tyX4 tyX4_ok nmX4 5 (by decide) lk4_28 rfl ⟨rfl, rfl⟩ rfl dX4_add_36 (fun σ3 eq H locs hw => ?_)
    have hf := k_nmE eq hf
    exact b39 σ3 _ _ _ (lv_sub hl [] rfl) hw hf
def f_X4_end_b19 (o : Nat)  (σ : MSt) : Option MSt :=
  some σ
def f_X4_end (o : Nat) (p1 : Int32) (σ : MSt) : Option MSt :=
  if p1 < 0 then
  (f_X4_end_b19 o σ)
  else
  (if (3 : Int32) ≤ p1 then
  (f_X4_end_b19 o σ)
  else
  (k_ck (k_inb p1 3) <|
  k_nm (mI σ (o + 4) (p1).toNatClampNeg (σ.1 o 5)) fun σ1 =>
  f_X4_end_b19 o σ1))
def rmX4_end : Room := { frames := 0, cells := 0, slots := 0, locals := 0 }
set_option maxHeartbeats 4000000 in
set_option maxRecDepth 100000 in
theorem c_X4_end (l : Launch) (G : va_G) (Y : CY) (w : MSt → va_W) (ad : Nat → Nat) (o : Nat) (Lo : LayX4 ad w Y o) (p1 : Int32) (σ : MSt) (σ' : MSt) (hf : f_X4_end o p1 σ = some σ') : k_Mv l yX4_end wsX4_end rmX4_end G Y w [.ref (ad o), .int p1] σ σ' := by
  refine k_ofv (own := RX4) (cc := cX4_end) (maxL := 2) none (by decide) rfl rfl (Nat.le_of_ble_eq_true rfl) ?_
  intro p e s m below meth c A C ls hl hw
  have hx := C.1
  have hb := C.2.1
  have hown := C.2.2.2.2.1
  have hts := C.2.2.2.2.2.1
  have hks := C.2.2.2.2.2.2.1
  have hl : lv_has ls 2 [(0, .ref (ad o)), (1, .int p1)] := hl
  have b19 : ∀ (σ : MSt) (H : Heap) (locs : List Loc) (ls : Array Slot), lv_has ls 2 [] → k_W G w A s.heap σ H locs → f_X4_end_b19 o σ = some σ' → W p l e rmX4_end s m [.ref (ad o), .int p1].toArray below meth c H locs 0 0 (MQ below (k_Qv G w A σ') [.ref (ad o), .int p1].toArray s 0 0 A) (F0 m 19 ls []) := by
    intro σ H locs ls hl hw hf
    unfold f_X4_end_b19 at hf
    exact k_vret C hw hf dX4_end_19
  unfold f_X4_end at hf
  refine lv_iload_n hx hb dX4_end_0 rfl (lv_at hl 1 rfl) ?_
  refine lv_if_lt (tgt := 19) hx hb dX4_end_1 (by decide) (fun h => ?_) (fun h => ?_)
  · have hf := k_ifT h hf
    exact b19 σ _ _ _ (lv_sub hl [] rfl) hw hf
  · have hf := k_ifF h hf
    refine lv_iload_n hx hb dX4_end_4 rfl (lv_at hl 1 rfl) ?_
    refine lv_iconst (v := (3 : Int32)) hx hb dX4_end_5 (by decide) ?_
    refine lv_icmp_ge (tgt := 19) hx hb dX4_end_6 (by decide) (fun h => ?_) (fun h => ?_)
    · have hf := k_ifT h hf
      exact b19 σ _ _ _ (lv_sub hl [] rfl) hw hf
    · have hf := k_ifF h hf
      refine lv_aload_n hx hb dX4_end_9 rfl (lv_at hl 0 rfl) ?_
      refine k_get C hw (LX4_o Lo) (ci := 4) rfl k_in4 3 (by decide) lk4_21 (v := .ref (ad (o + 4))) rfl dX4_end_10 ?_
      refine lv_iload_n hx hb dX4_end_13 rfl (lv_at hl 1 rfl) ?_
      refine lv_aload_n hx hb dX4_end_14 rfl (lv_at hl 0 rfl) ?_
      refine k_get C hw (LX4_o Lo) (ci := 4) rfl k_in4 5 (by decide) lk4_28 (v := .int (σ.1 o 5)) rfl dX4_end_15 ?_
      obtain ⟨hi, hf⟩ := k_ckE hf
      refine k_iast C hw (LX4_4 Lo) hi dX4_end_18 (fun σ1 eq H locs hw => ?_)
      have hf := k_nmE eq hf
      exact b19 σ1 _ _ _ (lv_sub hl [] rfl) hw hf
def f_X5_begin_b2_s (o : Nat) (o1 : Nat) (r2 : Int32 → MSt → Option MSt) (x2 : Int32) (σ : MSt) : Option MSt :=
  if (8 : Int32) ≤ x2 then
  (k_nm (mI σ o 3 (0 : Int32)) fun σ1 =>
  k_bd (f_X0_firstBay o1 σ1) fun q3 σ2 =>
  k_nm (mI σ2 o 4 q3) fun σ4 =>
  k_nm (mI σ4 o 5 (-1 : Int32)) fun σ5 =>
  k_nm (mI σ5 o 6 (-1 : Int32)) fun σ6 =>
  k_nm (mI σ6 o 7 (0 : Int32)) fun σ7 =>
  k_nm (mJ σ7 o 8 (((σ7.1 o1 14)).toInt64)) fun σ8 =>
  k_nm (mI σ8 o 9 (0 : Int32)) fun σ9 =>
  k_nm (mI σ9 o 10 (0 : Int32)) fun σ10 =>
  k_nm (mI σ10 o 11 (0 : Int32)) fun σ11 =>
  some σ11)
  else
  (k_ck (k_inb x2 8) <|
  k_nm (mI σ (o + 1) (x2).toNatClampNeg (0 : Int32)) fun σ12 =>
  k_ck (k_inb x2 8) <|
  k_nm (mI σ12 (o + 2) (x2).toNatClampNeg (0 : Int32)) fun σ13 =>
  k_ck (k_inb x2 8) <|
  k_nm (mI σ13 (o + 3) (x2).toNatClampNeg (-1 : Int32)) fun σ14 =>
  k_nm (x2 + (1 : Int32)) fun u15 =>
  r2 u15 σ14)
def f_X5_begin_b2 (o : Nat) (o1 : Nat) : Nat → Int32 → MSt → Option MSt
  | 0 => fun _ _ => none
  | n + 1 => f_X5_begin_b2_s o o1 (f_X5_begin_b2 o o1 n)
def f_X5_begin (o : Nat) (o1 : Nat)  (σ : MSt) : Option MSt :=
  f_X5_begin_b2 o o1 FU (0 : Int32) σ
def rmX5_begin : Room := { frames := 1, cells := 0, slots := 0, locals := 20 }
set_option maxHeartbeats 4000000 in
set_option maxRecDepth 100000 in
theorem c_X5_begin (l : Launch) (G : va_G) (Y : CY) (w : MSt → va_W) (ad : Nat → Nat) (o : Nat) (o1 : Nat) (Lo : LayX5 ad w Y o) (L1 : LayX0 ad w Y o1)  (σ : MSt) (σ' : MSt) (hf : f_X5_begin o o1 σ = some σ') : k_Mv l yX5_begin wsX5_begin rmX5_begin G Y w [.ref (ad o), .ref (ad o1)] σ σ' := by
  refine k_ofv (own := RX5) (cc := cX5_begin) (maxL := 3) none (by decide) rfl rfl (Nat.le_of_ble_eq_true rfl) ?_
  intro p e s m below meth c A C ls hl hw
  have hx := C.1
  have hb := C.2.1
  have hown := C.2.2.2.2.1
  have hts := C.2.2.2.2.2.1
  have hks := C.2.2.2.2.2.2.1
  have hl : lv_has ls 3 [(0, .ref (ad o)), (1, .ref (ad o1))] := hl
  have b2 : ∀ (n2 : Nat) (x2 : Int32) (σ : MSt) (H : Heap) (locs : List Loc) (ls : Array Slot), lv_has ls 3 [(0, .ref (ad o)), (1, .ref (ad o1)), (2, .int x2)] → k_W G w A s.heap σ H locs → f_X5_begin_b2 o o1 n2 x2 σ = some σ' → W p l e rmX5_begin s m [.ref (ad o), .ref (ad o1)].toArray below meth c H locs 0 0 (MQ below (k_Qv G w A σ') [.ref (ad o), .ref (ad o1)].toArray s 0 0 A) (F0 m 2 ls []) := by
    intro n2
    induction n2 with
    | zero =>
      intro x2 σ H locs ls hl hw hf
      have hf : (none : Option MSt) = some σ' := hf
      cases hf
    | succ n2 ih2 =>
      intro x2 σ H locs ls hl hw hf
      have hf : f_X5_begin_b2_s o o1 (f_X5_begin_b2 o o1 n2) x2 σ = some σ' := hf
      unfold f_X5_begin_b2_s at hf
      refine lv_iload_n hx hb dX5_begin_2 rfl (lv_at hl 2 rfl) ?_
      refine lv_bipush (v := (8 : Int32)) hx hb dX5_begin_3 (by decide) ?_
      refine lv_icmp_ge (tgt := 35) hx hb dX5_begin_5 (by decide) (fun h => ?_) (fun h => ?_)
      · have hf := k_ifT h hf
        refine lv_aload_n hx hb dX5_begin_35 rfl (lv_at hl 0 rfl) ?_
        refine lv_iconst (v := (0 : Int32)) hx hb dX5_begin_36 (by decide) ?_
        refine k_put C hw (LX5_o Lo) (ci := 5) rfl k_in5 tyX5 tyX5_ok nmX5 3 (by decide) lk5_31 rfl ⟨rfl, rfl⟩ rfl dX5_begin_37 (fun σ1 eq H locs hw => ?_)
        have hf := k_nmE eq hf
        refine lv_aload_n hx hb dX5_begin_40 rfl (lv_at hl 0 rfl) ?_
        refine lv_aload_n hx hb dX5_begin_41 rfl (lv_at hl 1 rfl) ?_
        obtain ⟨q3, σ2, hq, hf⟩ := k_bdE hf
        refine k_callVi C hw (c_X0_firstBay l G Y w ad o1 L1 σ1 q3 σ2 hq) (cwV 0 hts gX5_begin_X0_firstBay rfl rfl rfl (by decide +kernel) ⟨Nat.le_of_ble_eq_true rfl, Nat.le_of_ble_eq_true rfl⟩) (k_recv C hw (LX0_o L1) rfl) rfl hl.1 rfl (Nat.le_of_ble_eq_true rfl) dX5_begin_42 (fun H locs hw => ?_)
        refine k_put C hw (LX5_o Lo) (ci := 5) rfl k_in5 tyX5 tyX5_ok nmX5 4 (by decide) lk5_21 rfl ⟨rfl, rfl⟩ rfl dX5_begin_45 (fun σ4 eq H locs hw => ?_)
        have hf := k_nmE eq hf
        refine lv_aload_n hx hb dX5_begin_48 rfl (lv_at hl 0 rfl) ?_
        refine lv_iconst (v := (-1 : Int32)) hx hb dX5_begin_49 (by decide) ?_
        refine k_put C hw (LX5_o Lo) (ci := 5) rfl k_in5 tyX5 tyX5_ok nmX5 5 (by decide) lk5_25 rfl ⟨rfl, rfl⟩ rfl dX5_begin_50 (fun σ5 eq H locs hw => ?_)
        have hf := k_nmE eq hf
        refine lv_aload_n hx hb dX5_begin_53 rfl (lv_at hl 0 rfl) ?_
        refine lv_iconst (v := (-1 : Int32)) hx hb dX5_begin_54 (by decide) ?_
        refine k_put C hw (LX5_o Lo) (ci := 5) rfl k_in5 tyX5 tyX5_ok nmX5 6 (by decide) lk5_28 rfl ⟨rfl, rfl⟩ rfl dX5_begin_55 (fun σ6 eq H locs hw => ?_)
        have hf := k_nmE eq hf
        refine lv_aload_n hx hb dX5_begin_58 rfl (lv_at hl 0 rfl) ?_
        refine lv_iconst (v := (0 : Int32)) hx hb dX5_begin_59 (by decide) ?_
        refine k_put C hw (LX5_o Lo) (ci := 5) rfl k_in5 tyX5 tyX5_ok nmX5 7 (by decide) lk5_40 rfl ⟨rfl, rfl⟩ rfl dX5_begin_60 (fun σ7 eq H locs hw => ?_)
        have hf := k_nmE eq hf
        refine lv_aload_n hx hb dX5_begin_63 rfl (lv_at hl 0 rfl) ?_
        refine lv_aload_n hx hb dX5_begin_64 rfl (lv_at hl 1 rfl) ?_
        refine k_getN C hw (LX0_o L1) (ci := 0) rfl k_in0 14 (by decide) ln5_44 (v := .int (σ7.1 o1 14)) rfl dX5_begin_65 ?_
        refine lv_i2l (v := (((σ7.1 o1 14)).toInt64)) hx hb dX5_begin_68 rfl ?_
        refine k_putJ C hw (LX5_o Lo) (ci := 5) rfl k_in5 tyX5 tyX5_ok nmX5 8 (by decide) lk5_47 rfl ⟨rfl, rfl⟩ rfl dX5_begin_69 (fun σ8 eq H locs hw => ?_)
        have hf := k_nmE eq hf
        refine lv_aload_n hx hb dX5_begin_72 rfl (lv_at hl 0 rfl) ?_
        refine lv_iconst (v := (0 : Int32)) hx hb dX5_begin_73 (by decide) ?_
        refine k_put C hw (LX5_o Lo) (ci := 5) rfl k_in5 tyX5 tyX5_ok nmX5 9 (by decide) lk5_51 rfl ⟨rfl, rfl⟩ rfl dX5_begin_74 (fun σ9 eq H locs hw => ?_)
        have hf := k_nmE eq hf
        refine lv_aload_n hx hb dX5_begin_77 rfl (lv_at hl 0 rfl) ?_
        refine lv_iconst (v := (0 : Int32)) hx hb dX5_begin_78 (by decide) ?_
        refine k_put C hw (LX5_o Lo) (ci := 5) rfl k_in5 tyX5 tyX5_ok nmX5 10 (by decide) lk5_54 rfl ⟨rfl, rfl⟩ rfl dX5_begin_79 (fun σ10 eq H locs hw => ?_)
        have hf := k_nmE eq hf
        refine lv_aload_n hx hb dX5_begin_82 rfl (lv_at hl 0 rfl) ?_
        refine lv_iconst (v := (0 : Int32)) hx hb dX5_begin_83 (by decide) ?_
        refine k_put C hw (LX5_o Lo) (ci := 5) rfl k_in5 tyX5 tyX5_ok nmX5 11 (by decide) lk5_57 rfl ⟨rfl, rfl⟩ rfl dX5_begin_84 (fun σ11 eq H locs hw => ?_)
        have hf := k_nmE eq hf
        exact k_vret C hw hf dX5_begin_87
      · have hf := k_ifF h hf
        refine lv_aload_n hx hb dX5_begin_8 rfl (lv_at hl 0 rfl) ?_
        refine k_get C hw (LX5_o Lo) (ci := 5) rfl k_in5 0 (by decide) lk5_9 (v := .ref (ad (o + 1))) rfl dX5_begin_9 ?_
        refine lv_iload_n hx hb dX5_begin_12 rfl (lv_at hl 2 rfl) ?_
        refine lv_iconst (v := (0 : Int32)) hx hb dX5_begin_13 (by decide) ?_
        obtain ⟨hi, hf⟩ := k_ckE hf
        refine k_iast C hw (LX5_1 Lo) hi dX5_begin_14 (fun σ12 eq H locs hw => ?_)
        have hf := k_nmE eq hf
        refine lv_aload_n hx hb dX5_begin_15 rfl (lv_at hl 0 rfl) ?_
        refine k_get C hw (LX5_o Lo) (ci := 5) rfl k_in5 1 (by decide) lk5_15 (v := .ref (ad (o + 2))) rfl dX5_begin_16 ?_
        refine lv_iload_n hx hb dX5_begin_19 rfl (lv_at hl 2 rfl) ?_
        refine lv_iconst (v := (0 : Int32)) hx hb dX5_begin_20 (by decide) ?_
        obtain ⟨hi, hf⟩ := k_ckE hf
        refine k_iast C hw (LX5_2 Lo) hi dX5_begin_21 (fun σ13 eq H locs hw => ?_)
        have hf := k_nmE eq hf
        refine lv_aload_n hx hb dX5_begin_22 rfl (lv_at hl 0 rfl) ?_
        refine k_get C hw (LX5_o Lo) (ci := 5) rfl k_in5 2 (by decide) lk5_18 (v := .ref (ad (o + 3))) rfl dX5_begin_23 ?_
        refine lv_iload_n hx hb dX5_begin_26 rfl (lv_at hl 2 rfl) ?_
        refine lv_iconst (v := (-1 : Int32)) hx hb dX5_begin_27 (by decide) ?_
        obtain ⟨hi, hf⟩ := k_ckE hf
        refine k_iast C hw (LX5_3 Lo) hi dX5_begin_28 (fun σ14 eq H locs hw => ?_)
        have hf := k_nmE eq hf
        obtain ⟨u15, ex⟩ : ∃ y : Int32, y = (x2 + (1 : Int32)) := ⟨_, rfl⟩
        have hf := k_nmE ex hf
        refine lv_iinc (v := u15) (lv' := [(2, .int u15), (0, .ref (ad o)), (1, .ref (ad o1))]) hx hb dX5_begin_29 hl (k := 2) rfl (by rw [ex]; rfl) (by decide) rfl (fun ls hl => ?_)
        refine lv_goto (tgt := 2) hx hb dX5_begin_32 (by decide) ?_
        exact ih2 u15 σ14 _ _ _ (lv_sub hl [1, 2, 0] rfl) hw hf
  unfold f_X5_begin at hf
  refine lv_iconst (v := (0 : Int32)) hx hb dX5_begin_0 (by decide) ?_
  refine lv_istore_n (lv' := [(2, .int (0 : Int32)), (0, .ref (ad o)), (1, .ref (ad o1))]) hx hb dX5_begin_1 rfl hl (by decide) rfl (fun ls hl => ?_)
  exact b2 FU (0 : Int32) σ _ _ _ (lv_sub hl [1, 2, 0] rfl) hw hf
def f_X5_daysSince_b20 (o : Nat)  (σ : MSt) : Option (Int32 × MSt) :=
  some ((99 : Int32), σ)
def f_X5_daysSince (o : Nat) (p1 : Int32) (σ : MSt) : Option (Int32 × MSt) :=
  if p1 < 0 then
  (f_X5_daysSince_b20 o σ)
  else
  (if (8 : Int32) ≤ p1 then
  (f_X5_daysSince_b20 o σ)
  else
  (k_ck (k_inb p1 8) <|
  if (σ.1 (o + 3) (p1).toNatClampNeg) = (-1 : Int32) then
  (f_X5_daysSince_b20 o σ)
  else
  (k_ck (k_inb p1 8) <|
  some ((k_min (99 : Int32) ((σ.1 o 3) - (σ.1 (o + 3) (p1).toNatClampNeg))), σ))))
def rmX5_daysSince : Room := { frames := 1, cells := 0, slots := 0, locals := 23 }
set_option maxHeartbeats 4000000 in
set_option maxRecDepth 100000 in
theorem c_X5_daysSince (l : Launch) (G : va_G) (Y : CY) (w : MSt → va_W) (ad : Nat → Nat) (o : Nat) (Lo : LayX5 ad w Y o) (p1 : Int32) (σ : MSt) (r : Int32) (σ' : MSt) (hf : f_X5_daysSince o p1 σ = some (r, σ')) : k_Mi l yX5_daysSince wsX5_daysSince rmX5_daysSince G Y w [.ref (ad o), .int p1] σ r σ' := by
  refine k_ofi (own := RX5) (cc := cX5_daysSince) (maxL := 2) (some .int) (by decide) rfl rfl (Nat.le_of_ble_eq_true rfl) ?_
  intro p e s m below meth c A C ls hl hw
  have hx := C.1
  have hb := C.2.1
  have hown := C.2.2.2.2.1
  have hts := C.2.2.2.2.2.1
  have hks := C.2.2.2.2.2.2.1
  have hl : lv_has ls 2 [(0, .ref (ad o)), (1, .int p1)] := hl
  have b20 : ∀ (σ : MSt) (H : Heap) (locs : List Loc) (ls : Array Slot), lv_has ls 2 [] → k_W G w A s.heap σ H locs → f_X5_daysSince_b20 o σ = some (r, σ') → W p l e rmX5_daysSince s m [.ref (ad o), .int p1].toArray below meth c H locs 0 0 (MQ below (k_Qi G w A r σ') [.ref (ad o), .int p1].toArray s 0 0 A) (F0 m 20 ls []) := by
    intro σ H locs ls hl hw hf
    unfold f_X5_daysSince_b20 at hf
    refine lv_bipush (v := (99 : Int32)) hx hb dX5_daysSince_20 (by decide) ?_
    exact k_iret C hw hf dX5_daysSince_22
  unfold f_X5_daysSince at hf
  refine lv_iload_n hx hb dX5_daysSince_0 rfl (lv_at hl 1 rfl) ?_
  refine lv_if_lt (tgt := 20) hx hb dX5_daysSince_1 (by decide) (fun h => ?_) (fun h => ?_)
  · have hf := k_ifT h hf
    exact b20 σ _ _ _ (lv_sub hl [] rfl) hw hf
  · have hf := k_ifF h hf
    refine lv_iload_n hx hb dX5_daysSince_4 rfl (lv_at hl 1 rfl) ?_
    refine lv_bipush (v := (8 : Int32)) hx hb dX5_daysSince_5 (by decide) ?_
    refine lv_icmp_ge (tgt := 20) hx hb dX5_daysSince_7 (by decide) (fun h => ?_) (fun h => ?_)
    · have hf := k_ifT h hf
      exact b20 σ _ _ _ (lv_sub hl [] rfl) hw hf
    · have hf := k_ifF h hf
      refine lv_aload_n hx hb dX5_daysSince_10 rfl (lv_at hl 0 rfl) ?_
      refine k_get C hw (LX5_o Lo) (ci := 5) rfl k_in5 2 (by decide) lk5_18 (v := .ref (ad (o + 3))) rfl dX5_daysSince_11 ?_
      refine lv_iload_n hx hb dX5_daysSince_14 rfl (lv_at hl 1 rfl) ?_
      obtain ⟨hi, hf⟩ := k_ckE hf
      refine k_iald C hw (LX5_3 Lo) hi dX5_daysSince_15 ?_
      refine lv_iconst (v := (-1 : Int32)) hx hb dX5_daysSince_16 (by decide) ?_
      refine lv_icmp_ne (tgt := 23) hx hb dX5_daysSince_17 (by decide) (fun h => ?_) (fun h => ?_)
      · have hf := k_ifF h hf
        refine lv_bipush (v := (99 : Int32)) hx hb dX5_daysSince_23 (by decide) ?_
        refine lv_aload_n hx hb dX5_daysSince_25 rfl (lv_at hl 0 rfl) ?_
        refine k_get C hw (LX5_o Lo) (ci := 5) rfl k_in5 3 (by decide) lk5_31 (v := .int (σ.1 o 3)) rfl dX5_daysSince_26 ?_
        refine lv_aload_n hx hb dX5_daysSince_29 rfl (lv_at hl 0 rfl) ?_
        refine k_get C hw (LX5_o Lo) (ci := 5) rfl k_in5 2 (by decide) lk5_18 (v := .ref (ad (o + 3))) rfl dX5_daysSince_30 ?_
        refine lv_iload_n hx hb dX5_daysSince_33 rfl (lv_at hl 1 rfl) ?_
        obtain ⟨hi, hf⟩ := k_ckE hf
        refine k_iald C hw (LX5_3 Lo) hi dX5_daysSince_34 ?_
        refine lv_isub hx hb dX5_daysSince_35 ?_
        refine k_mmin C hl.1 ml5_60 ms_Lib_Math_min_name mi_Math mc_Lib_Math_min_name (Nat.le_of_ble_eq_true rfl) (Nat.le_of_ble_eq_true rfl) dX5_daysSince_36 ?_
        exact k_iret C hw hf dX5_daysSince_39
      · have hf := k_ifT h hf
        exact b20 σ _ _ _ (lv_sub hl [] rfl) hw hf
def f_X5_leaveFor (o : Nat) (p1 : Int32) (p2 : Int32) (σ : MSt) : Option MSt :=
  k_nm (mI σ o 4 (-1 : Int32)) fun σ1 =>
  k_nm (mI σ1 o 5 p1) fun σ2 =>
  k_nm (mI σ2 o 6 ((σ2.1 o 3) + p2)) fun σ3 =>
  some σ3
def rmX5_leaveFor : Room := { frames := 0, cells := 0, slots := 0, locals := 0 }
set_option maxHeartbeats 4000000 in
set_option maxRecDepth 100000 in
theorem c_X5_leaveFor (l : Launch) (G : va_G) (Y : CY) (w : MSt → va_W) (ad : Nat → Nat) (o : Nat) (Lo : LayX5 ad w Y o) (p1 : Int32) (p2 : Int32) (σ : MSt) (σ' : MSt) (hf : f_X5_leaveFor o p1 p2 σ = some σ') : k_Mv l yX5_leaveFor wsX5_leaveFor rmX5_leaveFor G Y w [.ref (ad o), .int p1, .int p2] σ σ' := by
  refine k_ofv (own := RX5) (cc := cX5_leaveFor) (maxL := 3) none (by decide) rfl rfl (Nat.le_of_ble_eq_true rfl) ?_
  intro p e s m below meth c A C ls hl hw
  have hx := C.1
  have hb := C.2.1
  have hown := C.2.2.2.2.1
  have hts := C.2.2.2.2.2.1
  have hks := C.2.2.2.2.2.2.1
  have hl : lv_has ls 3 [(0, .ref (ad o)), (1, .int p1), (2, .int p2)] := hl
  unfold f_X5_leaveFor at hf
  refine lv_aload_n hx hb dX5_leaveFor_0 rfl (lv_at hl 0 rfl) ?_
  refine lv_iconst (v := (-1 : Int32)) hx hb dX5_leaveFor_1 (by decide) ?_
  refine k_put C hw (LX5_o Lo) (ci := 5) rfl k_in5 tyX5 tyX5_ok nmX5 4 (by decide) lk5_21 rfl ⟨rfl, rfl⟩ rfl dX5_leaveFor_2 (fun σ1 eq H locs hw => ?_)
  have hf := k_nmE eq hf
  refine lv_aload_n hx hb dX5_leaveFor_5 rfl (lv_at hl 0 rfl) ?_
  refine lv_iload_n hx hb dX5_leaveFor_6 rfl (lv_at hl 1 rfl) ?_
  refine k_put C hw (LX5_o Lo) (ci := 5) rfl k_in5 tyX5 tyX5_ok nmX5 5 (by decide) lk5_25 rfl ⟨rfl, rfl⟩ rfl dX5_leaveFor_7 (fun σ2 eq H locs hw => ?_)
  have hf := k_nmE eq hf
  refine lv_aload_n hx hb dX5_leaveFor_10 rfl (lv_at hl 0 rfl) ?_
  refine lv_aload_n hx hb dX5_leaveFor_11 rfl (lv_at hl 0 rfl) ?_
  refine k_get C hw (LX5_o Lo) (ci := 5) rfl k_in5 3 (by decide) lk5_31 (v := .int (σ2.1 o 3)) rfl dX5_leaveFor_12 ?_
  refine lv_iload_n hx hb dX5_leaveFor_15 rfl (lv_at hl 2 rfl) ?_
  refine lv_iadd hx hb dX5_leaveFor_16 ?_
  refine k_put C hw (LX5_o Lo) (ci := 5) rfl k_in5 tyX5 tyX5_ok nmX5 6 (by decide) lk5_28 rfl ⟨rfl, rfl⟩ rfl dX5_leaveFor_17 (fun σ3 eq H locs hw => ?_)
  have hf := k_nmE eq hf
  exact k_vret C hw hf dX5_leaveFor_20
def f_X6_clear   (σ : MSt) : Option MSt :=
  k_nm (mI σ 78 7 (0 : Int32)) fun σ1 =>
  k_nm (mI σ1 78 8 (-1 : Int32)) fun σ2 =>
  some σ2
def rmX6_clear : Room := { frames := 0, cells := 0, slots := 0, locals := 0 }
set_option maxHeartbeats 4000000 in
set_option maxRecDepth 100000 in
theorem c_X6_clear (l : Launch) (G : va_G) (Y : CY) (w : MSt → va_W) (ad : Nat → Nat)  (LC : LayC ad w Y)  (σ : MSt) (σ' : MSt) (hf : f_X6_clear σ = some σ') : k_Mv l yX6_clear wsX6_clear rmX6_clear G Y w [.ref (ad 78)] σ σ' := by
  refine k_ofv (own := RX6) (cc := cX6_clear) (maxL := 1) none (by decide) rfl rfl (Nat.le_of_ble_eq_true rfl) ?_
  intro p e s m below meth c A C ls hl hw
  have hx := C.1
  have hb := C.2.1
  have hown := C.2.2.2.2.1
  have hts := C.2.2.2.2.2.1
  have hks := C.2.2.2.2.2.2.1
  have hl : lv_has ls 1 [(0, .ref (ad 78))] := hl
  unfold f_X6_clear at hf
  refine lv_aload_n hx hb dX6_clear_0 rfl (lv_at hl 0 rfl) ?_
  refine lv_iconst (v := (0 : Int32)) hx hb dX6_clear_1 (by decide) ?_
  refine k_put C hw (LC_78 LC) (ci := 6) rfl k_in6 tyX6 tyX6_ok nmX6 7 (by decide) lk6_40 rfl ⟨rfl, rfl⟩ rfl dX6_clear_2 (fun σ1 eq H locs hw => ?_)
  have hf := k_nmE eq hf
  refine lv_aload_n hx hb dX6_clear_5 rfl (lv_at hl 0 rfl) ?_
  refine lv_iconst (v := (-1 : Int32)) hx hb dX6_clear_6 (by decide) ?_
  refine k_put C hw (LC_78 LC) (ci := 6) rfl k_in6 tyX6 tyX6_ok nmX6 8 (by decide) lk6_36 rfl ⟨rfl, rfl⟩ rfl dX6_clear_7 (fun σ2 eq H locs hw => ?_)
  have hf := k_nmE eq hf
  exact k_vret C hw hf dX6_clear_10
def f_X6_knownBy_b26  (y0 : Int32) (σ : MSt) : Option (Int32 × MSt) :=
  some (y0, σ)
def f_X6_knownBy   (σ : MSt) : Option (Int32 × MSt) :=
  if (σ.1 78 8) = (-1 : Int32) then
  (f_X6_knownBy_b26 (σ.1 78 7) σ)
  else
  (f_X6_knownBy_b26 (k_min (σ.1 78 8) (σ.1 78 7)) σ)
def rmX6_knownBy : Room := { frames := 1, cells := 0, slots := 0, locals := 23 }
set_option maxHeartbeats 4000000 in
set_option maxRecDepth 100000 in
theorem c_X6_knownBy (l : Launch) (G : va_G) (Y : CY) (w : MSt → va_W) (ad : Nat → Nat)  (LC : LayC ad w Y)  (σ : MSt) (r : Int32) (σ' : MSt) (hf : f_X6_knownBy σ = some (r, σ')) : k_Mi l yX6_knownBy wsX6_knownBy rmX6_knownBy G Y w [.ref (ad 78)] σ r σ' := by
  refine k_ofi (own := RX6) (cc := cX6_knownBy) (maxL := 1) (some .int) (by decide) rfl rfl (Nat.le_of_ble_eq_true rfl) ?_
  intro p e s m below meth c A C ls hl hw
  have hx := C.1
  have hb := C.2.1
  have hown := C.2.2.2.2.1
  have hts := C.2.2.2.2.2.1
  have hks := C.2.2.2.2.2.2.1
  have hl : lv_has ls 1 [(0, .ref (ad 78))] := hl
  have b26 : ∀ (y0 : Int32) (σ : MSt) (H : Heap) (locs : List Loc) (ls : Array Slot), lv_has ls 1 [] → k_W G w A s.heap σ H locs → f_X6_knownBy_b26 y0 σ = some (r, σ') → W p l e rmX6_knownBy s m [.ref (ad 78)].toArray below meth c H locs 0 0 (MQ below (k_Qi G w A r σ') [.ref (ad 78)].toArray s 0 0 A) (F0 m 26 ls [.int y0]) := by
    intro y0 σ H locs ls hl hw hf
    unfold f_X6_knownBy_b26 at hf
    exact k_iret C hw hf dX6_knownBy_26
  unfold f_X6_knownBy at hf
  refine lv_aload_n hx hb dX6_knownBy_0 rfl (lv_at hl 0 rfl) ?_
  refine k_get C hw (LC_78 LC) (ci := 6) rfl k_in6 8 (by decide) lk6_36 (v := .int (σ.1 78 8)) rfl dX6_knownBy_1 ?_
  refine lv_iconst (v := (-1 : Int32)) hx hb dX6_knownBy_4 (by decide) ?_
  refine lv_icmp_ne (tgt := 15) hx hb dX6_knownBy_5 (by decide) (fun h => ?_) (fun h => ?_)
  · have hf := k_ifF h hf
    refine lv_aload_n hx hb dX6_knownBy_15 rfl (lv_at hl 0 rfl) ?_
    refine k_get C hw (LC_78 LC) (ci := 6) rfl k_in6 8 (by decide) lk6_36 (v := .int (σ.1 78 8)) rfl dX6_knownBy_16 ?_
    refine lv_aload_n hx hb dX6_knownBy_19 rfl (lv_at hl 0 rfl) ?_
    refine k_get C hw (LC_78 LC) (ci := 6) rfl k_in6 7 (by decide) lk6_40 (v := .int (σ.1 78 7)) rfl dX6_knownBy_20 ?_
    refine k_mmin C hl.1 ml6_43 ms_Lib_Math_min_name mi_Math mc_Lib_Math_min_name (Nat.le_of_ble_eq_true rfl) (Nat.le_of_ble_eq_true rfl) dX6_knownBy_23 ?_
    exact b26 (k_min (σ.1 78 8) (σ.1 78 7)) σ _ _ _ (lv_sub hl [] rfl) hw hf
  · have hf := k_ifT h hf
    refine lv_aload_n hx hb dX6_knownBy_8 rfl (lv_at hl 0 rfl) ?_
    refine k_get C hw (LC_78 LC) (ci := 6) rfl k_in6 7 (by decide) lk6_40 (v := .int (σ.1 78 7)) rfl dX6_knownBy_9 ?_
    refine lv_goto (tgt := 26) hx hb dX6_knownBy_12 (by decide) ?_
    exact b26 (σ.1 78 7) σ _ _ _ (lv_sub hl [] rfl) hw hf
def f_X6_addSight  (p1 : Int32) (p2 : Int32) (p3 : Int32) (σ : MSt) : Option (Int32 × MSt) :=
  if (σ.1 78 7) < (24 : Int32) then
  (k_ck (k_inb (σ.1 78 7) 24) <|
  k_nm (mI σ 79 ((σ.1 78 7)).toNatClampNeg p1) fun σ1 =>
  k_ck (k_inb (σ1.1 78 7) 24) <|
  k_nm (mI σ1 80 ((σ1.1 78 7)).toNatClampNeg p2) fun σ2 =>
  k_ck (k_inb (σ2.1 78 7) 24) <|
  k_nm (mI σ2 81 ((σ2.1 78 7)).toNatClampNeg (vp_nar .boolean p3)) fun σ3 =>
  k_ck (k_inb (σ3.1 78 7) 24) <|
  k_nm (mI σ3 82 ((σ3.1 78 7)).toNatClampNeg (-1 : Int32)) fun σ4 =>
  k_nm (mI σ4 78 7 ((σ4.1 78 7) + (1 : Int32))) fun σ5 =>
  some (((σ5.1 78 7) - (1 : Int32)), σ5))
  else
  (some ((-1 : Int32), σ))
def rmX6_addSight : Room := { frames := 0, cells := 0, slots := 0, locals := 0 }
set_option maxHeartbeats 4000000 in
set_option maxRecDepth 100000 in
theorem c_X6_addSight (l : Launch) (G : va_G) (Y : CY) (w : MSt → va_W) (ad : Nat → Nat)  (LC : LayC ad w Y) (p1 : Int32) (p2 : Int32) (p3 : Int32) (σ : MSt) (r : Int32) (σ' : MSt) (hf : f_X6_addSight p1 p2 p3 σ = some (r, σ')) : k_Mi l yX6_addSight wsX6_addSight rmX6_addSight G Y w [.ref (ad 78), .int p1, .int p2, .int p3] σ r σ' := by
  refine k_ofi (own := RX6) (cc := cX6_addSight) (maxL := 4) (some .int) (by decide) rfl rfl (Nat.le_of_ble_eq_true rfl) ?_
  intro p e s m below meth c A C ls hl hw
  have hx := C.1
  have hb := C.2.1
  have hown := C.2.2.2.2.1
  have hts := C.2.2.2.2.2.1
  have hks := C.2.2.2.2.2.2.1
  have hl : lv_has ls 4 [(0, .ref (ad 78)), (1, .int p1), (2, .int p2), (3, .int p3)] := hl
  unfold f_X6_addSight at hf
  refine lv_aload_n hx hb dX6_addSight_0 rfl (lv_at hl 0 rfl) ?_
  refine k_get C hw (LC_78 LC) (ci := 6) rfl k_in6 7 (by decide) lk6_40 (v := .int (σ.1 78 7)) rfl dX6_addSight_1 ?_
  refine lv_bipush (v := (24 : Int32)) hx hb dX6_addSight_4 (by decide) ?_
  refine lv_icmp_lt (tgt := 11) hx hb dX6_addSight_6 (by decide) (fun h => ?_) (fun h => ?_)
  · have hf := k_ifT h hf
    refine lv_aload_n hx hb dX6_addSight_11 rfl (lv_at hl 0 rfl) ?_
    refine k_get C hw (LC_78 LC) (ci := 6) rfl k_in6 2 (by decide) lk6_9 (v := .ref (ad 79)) rfl dX6_addSight_12 ?_
    refine lv_aload_n hx hb dX6_addSight_15 rfl (lv_at hl 0 rfl) ?_
    refine k_get C hw (LC_78 LC) (ci := 6) rfl k_in6 7 (by decide) lk6_40 (v := .int (σ.1 78 7)) rfl dX6_addSight_16 ?_
    refine lv_iload_n hx hb dX6_addSight_19 rfl (lv_at hl 1 rfl) ?_
    obtain ⟨hi, hf⟩ := k_ckE hf
    refine k_iast C hw (LC_79 LC) hi dX6_addSight_20 (fun σ1 eq H locs hw => ?_)
    have hf := k_nmE eq hf
    refine lv_aload_n hx hb dX6_addSight_21 rfl (lv_at hl 0 rfl) ?_
    refine k_get C hw (LC_78 LC) (ci := 6) rfl k_in6 3 (by decide) lk6_15 (v := .ref (ad 80)) rfl dX6_addSight_22 ?_
    refine lv_aload_n hx hb dX6_addSight_25 rfl (lv_at hl 0 rfl) ?_
    refine k_get C hw (LC_78 LC) (ci := 6) rfl k_in6 7 (by decide) lk6_40 (v := .int (σ1.1 78 7)) rfl dX6_addSight_26 ?_
    refine lv_iload_n hx hb dX6_addSight_29 rfl (lv_at hl 2 rfl) ?_
    obtain ⟨hi, hf⟩ := k_ckE hf
    refine k_iast C hw (LC_80 LC) hi dX6_addSight_30 (fun σ2 eq H locs hw => ?_)
    have hf := k_nmE eq hf
    refine lv_aload_n hx hb dX6_addSight_31 rfl (lv_at hl 0 rfl) ?_
    refine k_get C hw (LC_78 LC) (ci := 6) rfl k_in6 4 (by decide) lk6_18 (v := .ref (ad 81)) rfl dX6_addSight_32 ?_
    refine lv_aload_n hx hb dX6_addSight_35 rfl (lv_at hl 0 rfl) ?_
    refine k_get C hw (LC_78 LC) (ci := 6) rfl k_in6 7 (by decide) lk6_40 (v := .int (σ2.1 78 7)) rfl dX6_addSight_36 ?_
    refine lv_iload_n hx hb dX6_addSight_39 rfl (lv_at hl 3 rfl) ?_
    obtain ⟨hi, hf⟩ := k_ckE hf
    refine k_zast C hw (LC_81 LC) hi dX6_addSight_40 (fun σ3 eq H locs hw => ?_)
    have hf := k_nmE eq hf
    refine lv_aload_n hx hb dX6_addSight_41 rfl (lv_at hl 0 rfl) ?_
    refine k_get C hw (LC_78 LC) (ci := 6) rfl k_in6 5 (by decide) lk6_22 (v := .ref (ad 82)) rfl dX6_addSight_42 ?_
    refine lv_aload_n hx hb dX6_addSight_45 rfl (lv_at hl 0 rfl) ?_
    refine k_get C hw (LC_78 LC) (ci := 6) rfl k_in6 7 (by decide) lk6_40 (v := .int (σ3.1 78 7)) rfl dX6_addSight_46 ?_
    refine lv_iconst (v := (-1 : Int32)) hx hb dX6_addSight_49 (by decide) ?_
    obtain ⟨hi, hf⟩ := k_ckE hf
    refine k_iast C hw (LC_82 LC) hi dX6_addSight_50 (fun σ4 eq H locs hw => ?_)
    have hf := k_nmE eq hf
    refine lv_aload_n hx hb dX6_addSight_51 rfl (lv_at hl 0 rfl) ?_
    refine lv_dup hx hb dX6_addSight_52 rfl ?_
    refine k_get C hw (LC_78 LC) (ci := 6) rfl k_in6 7 (by decide) lk6_40 (v := .int (σ4.1 78 7)) rfl dX6_addSight_53 ?_
    refine lv_iconst (v := (1 : Int32)) hx hb dX6_addSight_56 (by decide) ?_
    refine lv_iadd hx hb dX6_addSight_57 ?_
    refine k_put C hw (LC_78 LC) (ci := 6) rfl k_in6 tyX6 tyX6_ok nmX6 7 (by decide) lk6_40 rfl ⟨rfl, rfl⟩ rfl dX6_addSight_58 (fun σ5 eq H locs hw => ?_)
    have hf := k_nmE eq hf
    refine lv_aload_n hx hb dX6_addSight_61 rfl (lv_at hl 0 rfl) ?_
    refine k_get C hw (LC_78 LC) (ci := 6) rfl k_in6 7 (by decide) lk6_40 (v := .int (σ5.1 78 7)) rfl dX6_addSight_62 ?_
    refine lv_iconst (v := (1 : Int32)) hx hb dX6_addSight_65 (by decide) ?_
    refine lv_isub hx hb dX6_addSight_66 ?_
    exact k_iret C hw hf dX6_addSight_67
  · have hf := k_ifF h hf
    refine lv_iconst (v := (-1 : Int32)) hx hb dX6_addSight_9 (by decide) ?_
    exact k_iret C hw hf dX6_addSight_10
def f_X6_addStrike_b25  (x2 : Int32) (σ : MSt) : Option (Int32 × MSt) :=
  some (x2, σ)
def f_X6_addStrike  (p1 : Int32) (σ : MSt) : Option (Int32 × MSt) :=
  k_bd (f_X6_addSight (0 : Int32) (0 : Int32) (0 : Int32) σ) fun q2 σ1 =>
  if q2 < 0 then
  (f_X6_addStrike_b25 q2 σ1)
  else
  (if (24 : Int32) ≤ q2 then
  (f_X6_addStrike_b25 q2 σ1)
  else
  (k_ck (k_inb q2 24) <|
  k_nm (mI σ1 82 (q2).toNatClampNeg p1) fun σ3 =>
  f_X6_addStrike_b25 q2 σ3))
def rmX6_addStrike : Room := { frames := 1, cells := 0, slots := 0, locals := 23 }
set_option maxHeartbeats 4000000 in
set_option maxRecDepth 100000 in
theorem c_X6_addStrike (l : Launch) (G : va_G) (Y : CY) (w : MSt → va_W) (ad : Nat → Nat)  (LC : LayC ad w Y) (p1 : Int32) (σ : MSt) (r : Int32) (σ' : MSt) (hf : f_X6_addStrike p1 σ = some (r, σ')) : k_Mi l yX6_addStrike wsX6_addStrike rmX6_addStrike G Y w [.ref (ad 78), .int p1] σ r σ' := by
  refine k_ofi (own := RX6) (cc := cX6_addStrike) (maxL := 3) (some .int) (by decide) rfl rfl (Nat.le_of_ble_eq_true rfl) ?_
  intro p e s m below meth c A C ls hl hw
  have hx := C.1
  have hb := C.2.1
  have hown := C.2.2.2.2.1
  have hts := C.2.2.2.2.2.1
  have hks := C.2.2.2.2.2.2.1
  have hl : lv_has ls 3 [(0, .ref (ad 78)), (1, .int p1)] := hl
  have b25 : ∀ (x2 : Int32) (σ : MSt) (H : Heap) (locs : List Loc) (ls : Array Slot), lv_has ls 3 [(2, .int x2)] → k_W G w A s.heap σ H locs → f_X6_addStrike_b25 x2 σ = some (r, σ') → W p l e rmX6_addStrike s m [.ref (ad 78), .int p1].toArray below meth c H locs 0 0 (MQ below (k_Qi G w A r σ') [.ref (ad 78), .int p1].toArray s 0 0 A) (F0 m 25 ls []) := by
    intro x2 σ H locs ls hl hw hf
    unfold f_X6_addStrike_b25 at hf
    refine lv_iload_n hx hb dX6_addStrike_25 rfl (lv_at hl 0 rfl) ?_
    exact k_iret C hw hf dX6_addStrike_26
  unfold f_X6_addStrike at hf
  refine lv_aload_n hx hb dX6_addStrike_0 rfl (lv_at hl 0 rfl) ?_
  refine lv_iconst (v := (0 : Int32)) hx hb dX6_addStrike_1 (by decide) ?_
  refine lv_iconst (v := (0 : Int32)) hx hb dX6_addStrike_2 (by decide) ?_
  refine lv_iconst (v := (0 : Int32)) hx hb dX6_addStrike_3 (by decide) ?_
  obtain ⟨q2, σ1, hq, hf⟩ := k_bdE hf
  refine k_callVi C hw (c_X6_addSight l G Y w ad LC (0 : Int32) (0 : Int32) (0 : Int32) σ q2 σ1 hq) (cwV 3 hts gX6_addStrike_X6_addSight rfl rfl rfl (by decide +kernel) ⟨Nat.le_of_ble_eq_true rfl, Nat.le_of_ble_eq_true rfl⟩) (k_recv C hw (LC_78 LC) rfl) rfl hl.1 rfl (Nat.le_of_ble_eq_true rfl) dX6_addStrike_4 (fun H locs hw => ?_)
  refine lv_istore_n (lv' := [(2, .int q2), (0, .ref (ad 78)), (1, .int p1)]) hx hb dX6_addStrike_7 rfl hl (by decide) rfl (fun ls hl => ?_)
  refine lv_iload_n hx hb dX6_addStrike_8 rfl (lv_at hl 0 rfl) ?_
  refine lv_if_lt (tgt := 25) hx hb dX6_addStrike_9 (by decide) (fun h => ?_) (fun h => ?_)
  · have hf := k_ifT h hf
    exact b25 q2 σ1 _ _ _ (lv_sub hl [0] rfl) hw hf
  · have hf := k_ifF h hf
    refine lv_iload_n hx hb dX6_addStrike_12 rfl (lv_at hl 0 rfl) ?_
    refine lv_bipush (v := (24 : Int32)) hx hb dX6_addStrike_13 (by decide) ?_
    refine lv_icmp_ge (tgt := 25) hx hb dX6_addStrike_15 (by decide) (fun h => ?_) (fun h => ?_)
    · have hf := k_ifT h hf
      exact b25 q2 σ1 _ _ _ (lv_sub hl [0] rfl) hw hf
    · have hf := k_ifF h hf
      refine lv_aload_n hx hb dX6_addStrike_18 rfl (lv_at hl 1 rfl) ?_
      refine k_get C hw (LC_78 LC) (ci := 6) rfl k_in6 5 (by decide) lk6_22 (v := .ref (ad 82)) rfl dX6_addStrike_19 ?_
      refine lv_iload_n hx hb dX6_addStrike_22 rfl (lv_at hl 0 rfl) ?_
      refine lv_iload_n hx hb dX6_addStrike_23 rfl (lv_at hl 2 rfl) ?_
      obtain ⟨hi, hf⟩ := k_ckE hf
      refine k_iast C hw (LC_82 LC) hi dX6_addStrike_24 (fun σ3 eq H locs hw => ?_)
      have hf := k_nmE eq hf
      exact b25 q2 σ3 _ _ _ (lv_sub hl [0] rfl) hw hf
def f_X6_strikeOut_b70  (r34 : Int32 → MSt → Option MSt) (x2 : Int32) (σ : MSt) : Option MSt :=
  k_nm (x2 + (-1 : Int32)) fun u1 =>
  r34 u1 σ
def f_X6_strikeOut_b34_s  (r34 : Int32 → MSt → Option MSt) (x2 : Int32) (σ : MSt) : Option MSt :=
  if x2 < 0 then
  (some σ)
  else
  (k_ck (k_inb x2 24) <|
  k_nm (σ.1 82 (x2).toNatClampNeg) fun u1 =>
  k_ck (k_inb x2 24) <|
  if (σ.1 83 (x2).toNatClampNeg) = 0 then
  (f_X6_strikeOut_b70 r34 x2 σ)
  else
  (if u1 < 0 then
  (f_X6_strikeOut_b70 r34 x2 σ)
  else
  (if x2 ≤ u1 then
  (f_X6_strikeOut_b70 r34 x2 σ)
  else
  (k_ck (k_inb u1 24) <|
  k_nm (mI σ 83 (u1).toNatClampNeg (vp_nar .boolean (0 : Int32))) fun σ2 =>
  f_X6_strikeOut_b70 r34 x2 σ2))))
def f_X6_strikeOut_b34  : Nat → Int32 → MSt → Option MSt
  | 0 => fun _ _ => none
  | n + 1 => f_X6_strikeOut_b34_s (f_X6_strikeOut_b34 n)
def f_X6_strikeOut_b12_s  (r12 : Int32 → Int32 → MSt → Option MSt) (x1 : Int32) (x2 : Int32) (σ : MSt) : Option MSt :=
  if x1 ≤ x2 then
  (k_nm (x1 - (1 : Int32)) fun u1 =>
  f_X6_strikeOut_b34 FU u1 σ)
  else
  (k_ck (k_inb x2 24) <|
  k_nm (mI σ 83 (x2).toNatClampNeg (vp_nar .boolean (1 : Int32))) fun σ2 =>
  k_nm (x2 + (1 : Int32)) fun u3 =>
  r12 x1 u3 σ2)
def f_X6_strikeOut_b12  : Nat → Int32 → Int32 → MSt → Option MSt
  | 0 => fun _ _ _ => none
  | n + 1 => f_X6_strikeOut_b12_s (f_X6_strikeOut_b12 n)
def f_X6_strikeOut   (σ : MSt) : Option MSt :=
  k_bd (f_X6_knownBy σ) fun q5 σ4 =>
  k_nm (k_min q5 (24 : Int32)) fun u6 =>
  f_X6_strikeOut_b12 FU u6 (0 : Int32) σ4
def rmX6_strikeOut : Room := { frames := 2, cells := 0, slots := 0, locals := 43 }
set_option maxHeartbeats 4000000 in
set_option maxRecDepth 100000 in
theorem c_X6_strikeOut (l : Launch) (G : va_G) (Y : CY) (w : MSt → va_W) (ad : Nat → Nat)  (LC : LayC ad w Y)  (σ : MSt) (σ' : MSt) (hf : f_X6_strikeOut σ = some σ') : k_Mv l yX6_strikeOut wsX6_strikeOut rmX6_strikeOut G Y w [.ref (ad 78)] σ σ' := by
  refine k_ofv (own := RX6) (cc := cX6_strikeOut) (maxL := 4) none (by decide) rfl rfl (Nat.le_of_ble_eq_true rfl) ?_
  intro p e s m below meth c A C ls hl hw
  have hx := C.1
  have hb := C.2.1
  have hown := C.2.2.2.2.1
  have hts := C.2.2.2.2.2.1
  have hks := C.2.2.2.2.2.2.1
  have hl : lv_has ls 4 [(0, .ref (ad 78))] := hl
  have b34 : ∀ (n34 : Nat) (x2 : Int32) (σ : MSt) (H : Heap) (locs : List Loc) (ls : Array Slot), lv_has ls 4 [(0, .ref (ad 78)), (2, .int x2)] → k_W G w A s.heap σ H locs → f_X6_strikeOut_b34 n34 x2 σ = some σ' → W p l e rmX6_strikeOut s m [.ref (ad 78)].toArray below meth c H locs 0 0 (MQ below (k_Qv G w A σ') [.ref (ad 78)].toArray s 0 0 A) (F0 m 34 ls []) := by
    intro n34
    induction n34 with
    | zero =>
      intro x2 σ H locs ls hl hw hf
      have hf : (none : Option MSt) = some σ' := hf
      cases hf
    | succ n34 ih34 =>
      have b70 : ∀ (x2 : Int32) (σ : MSt) (H : Heap) (locs : List Loc) (ls : Array Slot), lv_has ls 4 [(0, .ref (ad 78)), (2, .int x2)] → k_W G w A s.heap σ H locs → f_X6_strikeOut_b70 (f_X6_strikeOut_b34 n34) x2 σ = some σ' → W p l e rmX6_strikeOut s m [.ref (ad 78)].toArray below meth c H locs 0 0 (MQ below (k_Qv G w A σ') [.ref (ad 78)].toArray s 0 0 A) (F0 m 70 ls []) := by
        intro x2 σ H locs ls hl hw hf
        unfold f_X6_strikeOut_b70 at hf
        obtain ⟨u1, ex⟩ : ∃ y : Int32, y = (x2 + (-1 : Int32)) := ⟨_, rfl⟩
        have hf := k_nmE ex hf
        refine lv_iinc (v := u1) (lv' := [(2, .int u1), (0, .ref (ad 78))]) hx hb dX6_strikeOut_70 hl (k := 1) rfl (by rw [ex]; rfl) (by decide) rfl (fun ls hl => ?_)
        refine lv_goto (tgt := 34) hx hb dX6_strikeOut_73 (by decide) ?_
        exact ih34 u1 σ _ _ _ (lv_sub hl [1, 0] rfl) hw hf
      intro x2 σ H locs ls hl hw hf
      have hf : f_X6_strikeOut_b34_s (f_X6_strikeOut_b34 n34) x2 σ = some σ' := hf
      unfold f_X6_strikeOut_b34_s at hf
      refine lv_iload_n hx hb dX6_strikeOut_34 rfl (lv_at hl 1 rfl) ?_
      refine lv_if_lt (tgt := 76) hx hb dX6_strikeOut_35 (by decide) (fun h => ?_) (fun h => ?_)
      · have hf := k_ifT h hf
        exact k_vret C hw hf dX6_strikeOut_76
      · have hf := k_ifF h hf
        refine lv_aload_n hx hb dX6_strikeOut_38 rfl (lv_at hl 0 rfl) ?_
        refine k_get C hw (LC_78 LC) (ci := 6) rfl k_in6 5 (by decide) lk6_22 (v := .ref (ad 82)) rfl dX6_strikeOut_39 ?_
        refine lv_iload_n hx hb dX6_strikeOut_42 rfl (lv_at hl 1 rfl) ?_
        obtain ⟨hi, hf⟩ := k_ckE hf
        refine k_iald C hw (LC_82 LC) hi dX6_strikeOut_43 ?_
        refine lv_topi (fun u1 ex => ?_)
        have hf := k_nmE ex hf
        refine lv_istore_n (lv' := [(3, .int u1), (0, .ref (ad 78)), (2, .int x2)]) hx hb dX6_strikeOut_44 rfl hl (by decide) rfl (fun ls hl => ?_)
        refine lv_aload_n hx hb dX6_strikeOut_45 rfl (lv_at hl 1 rfl) ?_
        refine k_get C hw (LC_78 LC) (ci := 6) rfl k_in6 6 (by decide) lk6_25 (v := .ref (ad 83)) rfl dX6_strikeOut_46 ?_
        refine lv_iload_n hx hb dX6_strikeOut_49 rfl (lv_at hl 2 rfl) ?_
        obtain ⟨hi, hf⟩ := k_ckE hf
        refine k_zald C hw (LC_83 LC) hi dX6_strikeOut_50 ?_
        refine lv_if_eq (tgt := 70) hx hb dX6_strikeOut_51 (by decide) (fun h => ?_) (fun h => ?_)
        · have hf := k_ifT h hf
          exact b70 x2 σ _ _ _ (lv_sub hl [1, 2] rfl) hw hf
        · have hf := k_ifF h hf
          refine lv_iload_n hx hb dX6_strikeOut_54 rfl (lv_at hl 0 rfl) ?_
          refine lv_if_lt (tgt := 70) hx hb dX6_strikeOut_55 (by decide) (fun h => ?_) (fun h => ?_)
          · have hf := k_ifT h hf
            exact b70 x2 σ _ _ _ (lv_sub hl [1, 2] rfl) hw hf
          · have hf := k_ifF h hf
            refine lv_iload_n hx hb dX6_strikeOut_58 rfl (lv_at hl 0 rfl) ?_
            refine lv_iload_n hx hb dX6_strikeOut_59 rfl (lv_at hl 2 rfl) ?_
            refine lv_icmp_ge (tgt := 70) hx hb dX6_strikeOut_60 (by decide) (fun h => ?_) (fun h => ?_)
            · have hf := k_ifT h hf
              exact b70 x2 σ _ _ _ (lv_sub hl [1, 2] rfl) hw hf
            · have hf := k_ifF h hf
              refine lv_aload_n hx hb dX6_strikeOut_63 rfl (lv_at hl 1 rfl) ?_
              refine k_get C hw (LC_78 LC) (ci := 6) rfl k_in6 6 (by decide) lk6_25 (v := .ref (ad 83)) rfl dX6_strikeOut_64 ?_
              refine lv_iload_n hx hb dX6_strikeOut_67 rfl (lv_at hl 0 rfl) ?_
              refine lv_iconst (v := (0 : Int32)) hx hb dX6_strikeOut_68 (by decide) ?_
              obtain ⟨hi, hf⟩ := k_ckE hf
              refine k_zast C hw (LC_83 LC) hi dX6_strikeOut_69 (fun σ2 eq H locs hw => ?_)
              have hf := k_nmE eq hf
              exact b70 x2 σ2 _ _ _ (lv_sub hl [1, 2] rfl) hw hf
  have b12 : ∀ (n12 : Nat) (x1 : Int32) (x2 : Int32) (σ : MSt) (H : Heap) (locs : List Loc) (ls : Array Slot), lv_has ls 4 [(0, .ref (ad 78)), (1, .int x1), (2, .int x2)] → k_W G w A s.heap σ H locs → f_X6_strikeOut_b12 n12 x1 x2 σ = some σ' → W p l e rmX6_strikeOut s m [.ref (ad 78)].toArray below meth c H locs 0 0 (MQ below (k_Qv G w A σ') [.ref (ad 78)].toArray s 0 0 A) (F0 m 12 ls []) := by
    intro n12
    induction n12 with
    | zero =>
      intro x1 x2 σ H locs ls hl hw hf
      have hf : (none : Option MSt) = some σ' := hf
      cases hf
    | succ n12 ih12 =>
      intro x1 x2 σ H locs ls hl hw hf
      have hf : f_X6_strikeOut_b12_s (f_X6_strikeOut_b12 n12) x1 x2 σ = some σ' := hf
      unfold f_X6_strikeOut_b12_s at hf
      refine lv_iload_n hx hb dX6_strikeOut_12 rfl (lv_at hl 2 rfl) ?_
      refine lv_iload_n hx hb dX6_strikeOut_13 rfl (lv_at hl 1 rfl) ?_
      refine lv_icmp_ge (tgt := 30) hx hb dX6_strikeOut_14 (by decide) (fun h => ?_) (fun h => ?_)
      · have hf := k_ifT h hf
        refine lv_iload_n hx hb dX6_strikeOut_30 rfl (lv_at hl 1 rfl) ?_
        refine lv_iconst (v := (1 : Int32)) hx hb dX6_strikeOut_31 (by decide) ?_
        refine lv_isub hx hb dX6_strikeOut_32 ?_
        refine lv_topi (fun u1 ex => ?_)
        have hf := k_nmE ex hf
        refine lv_istore_n (lv' := [(2, .int u1), (0, .ref (ad 78)), (1, .int x1)]) hx hb dX6_strikeOut_33 rfl hl (by decide) rfl (fun ls hl => ?_)
        exact b34 FU u1 σ _ _ _ (lv_sub hl [1, 0] rfl) hw hf
      · have hf := k_ifF h hf
        refine lv_aload_n hx hb dX6_strikeOut_17 rfl (lv_at hl 0 rfl) ?_
        refine k_get C hw (LC_78 LC) (ci := 6) rfl k_in6 6 (by decide) lk6_25 (v := .ref (ad 83)) rfl dX6_strikeOut_18 ?_
        refine lv_iload_n hx hb dX6_strikeOut_21 rfl (lv_at hl 2 rfl) ?_
        refine lv_iconst (v := (1 : Int32)) hx hb dX6_strikeOut_22 (by decide) ?_
        obtain ⟨hi, hf⟩ := k_ckE hf
        refine k_zast C hw (LC_83 LC) hi dX6_strikeOut_23 (fun σ2 eq H locs hw => ?_)
        have hf := k_nmE eq hf
        obtain ⟨u3, ex⟩ : ∃ y : Int32, y = (x2 + (1 : Int32)) := ⟨_, rfl⟩
        have hf := k_nmE ex hf
        refine lv_iinc (v := u3) (lv' := [(2, .int u3), (0, .ref (ad 78)), (1, .int x1)]) hx hb dX6_strikeOut_24 hl (k := 2) rfl (by rw [ex]; rfl) (by decide) rfl (fun ls hl => ?_)
        refine lv_goto (tgt := 12) hx hb dX6_strikeOut_27 (by decide) ?_
        exact ih12 x1 u3 σ2 _ _ _ (lv_sub hl [1, 2, 0] rfl) hw hf
  unfold f_X6_strikeOut at hf
  refine lv_aload_n hx hb dX6_strikeOut_0 rfl (lv_at hl 0 rfl) ?_
  obtain ⟨q5, σ4, hq, hf⟩ := k_bdE hf
  refine k_callVi C hw (c_X6_knownBy l G Y w ad LC σ q5 σ4 hq) (cwV 0 hts gX6_strikeOut_X6_knownBy rfl rfl rfl (by decide +kernel) ⟨Nat.le_of_ble_eq_true rfl, Nat.le_of_ble_eq_true rfl⟩) (k_recv C hw (LC_78 LC) rfl) rfl hl.1 rfl (Nat.le_of_ble_eq_true rfl) dX6_strikeOut_1 (fun H locs hw => ?_)
  refine lv_bipush (v := (24 : Int32)) hx hb dX6_strikeOut_4 (by decide) ?_
  refine k_mmin C hl.1 ml6_43 ms_Lib_Math_min_name mi_Math mc_Lib_Math_min_name (Nat.le_of_ble_eq_true rfl) (Nat.le_of_ble_eq_true rfl) dX6_strikeOut_6 ?_
  refine lv_topi (fun u6 ex => ?_)
  have hf := k_nmE ex hf
  refine lv_istore_n (lv' := [(1, .int u6), (0, .ref (ad 78))]) hx hb dX6_strikeOut_9 rfl hl (by decide) rfl (fun ls hl => ?_)
  refine lv_iconst (v := (0 : Int32)) hx hb dX6_strikeOut_10 (by decide) ?_
  refine lv_istore_n (lv' := [(2, .int (0 : Int32)), (1, .int u6), (0, .ref (ad 78))]) hx hb dX6_strikeOut_11 rfl hl (by decide) rfl (fun ls hl => ?_)
  exact b12 FU u6 (0 : Int32) σ4 _ _ _ (lv_sub hl [2, 1, 0] rfl) hw hf
def f_X6_agrees_b75  (r13 : Int32 → Int32 → Int32 → Int32 → MSt → Option (Int32 × MSt)) (x1 : Int32) (x2 : Int32) (x3 : Int32) (x4 : Int32) (σ : MSt) : Option (Int32 × MSt) :=
  k_nm (x4 + (1 : Int32)) fun u1 =>
  r13 x1 x2 x3 u1 σ
def f_X6_agrees_b13_s  (r13 : Int32 → Int32 → Int32 → Int32 → MSt → Option (Int32 × MSt)) (x1 : Int32) (x2 : Int32) (x3 : Int32) (x4 : Int32) (σ : MSt) : Option (Int32 × MSt) :=
  if x3 ≤ x4 then
  (some ((1 : Int32), σ))
  else
  (k_ck (k_inb x4 24) <|
  if (σ.1 83 (x4).toNatClampNeg) = 0 then
  (f_X6_agrees_b75 r13 x1 x2 x3 x4 σ)
  else
  (k_ck (k_inb x4 24) <|
  if (σ.1 82 (x4).toNatClampNeg) = (-1 : Int32) then
  (k_ck (k_inb x4 24) <|
  k_ck (k_inb x4 24) <|
  k_bd (f_X3_seesFromText (σ.1 79 (x4).toNatClampNeg) (σ.1 80 (x4).toNatClampNeg) x1 x2 σ) fun q2 σ1 =>
  k_ck (k_inb x4 24) <|
  if q2 = (σ1.1 81 (x4).toNatClampNeg) then
  (f_X6_agrees_b75 r13 x1 x2 x3 x4 σ1)
  else
  (some ((0 : Int32), σ1)))
  else
  (f_X6_agrees_b75 r13 x1 x2 x3 x4 σ)))
def f_X6_agrees_b13  : Nat → Int32 → Int32 → Int32 → Int32 → MSt → Option (Int32 × MSt)
  | 0 => fun _ _ _ _ _ => none
  | n + 1 => f_X6_agrees_b13_s (f_X6_agrees_b13 n)
def f_X6_agrees  (p1 : Int32) (p2 : Int32) (σ : MSt) : Option (Int32 × MSt) :=
  k_bd (f_X6_knownBy σ) fun q4 σ3 =>
  k_nm (k_min q4 (24 : Int32)) fun u5 =>
  f_X6_agrees_b13 FU p1 p2 u5 (0 : Int32) σ3
def rmX6_agrees : Room := { frames := 4, cells := 0, slots := 0, locals := 99 }
set_option maxHeartbeats 4000000 in
set_option maxRecDepth 100000 in
theorem c_X6_agrees (l : Launch) (G : va_G) (Y : CY) (w : MSt → va_W) (ad : Nat → Nat)  (LC : LayC ad w Y) (p1 : Int32) (p2 : Int32) (σ : MSt) (r : Int32) (σ' : MSt) (hf : f_X6_agrees p1 p2 σ = some (r, σ')) : k_Mi l yX6_agrees wsX6_agrees rmX6_agrees G Y w [.ref (ad 78), .int p1, .int p2] σ r σ' := by
  refine k_ofi (own := RX6) (cc := cX6_agrees) (maxL := 5) (some .boolean) (by decide) rfl rfl (Nat.le_of_ble_eq_true rfl) ?_
  intro p e s m below meth c A C ls hl hw
  have hx := C.1
  have hb := C.2.1
  have hown := C.2.2.2.2.1
  have hts := C.2.2.2.2.2.1
  have hks := C.2.2.2.2.2.2.1
  have hl : lv_has ls 5 [(0, .ref (ad 78)), (1, .int p1), (2, .int p2)] := hl
  have b13 : ∀ (n13 : Nat) (x1 : Int32) (x2 : Int32) (x3 : Int32) (x4 : Int32) (σ : MSt) (H : Heap) (locs : List Loc) (ls : Array Slot), lv_has ls 5 [(0, .ref (ad 78)), (1, .int x1), (2, .int x2), (3, .int x3), (4, .int x4)] → k_W G w A s.heap σ H locs → f_X6_agrees_b13 n13 x1 x2 x3 x4 σ = some (r, σ') → W p l e rmX6_agrees s m [.ref (ad 78), .int p1, .int p2].toArray below meth c H locs 0 0 (MQ below (k_Qi G w A r σ') [.ref (ad 78), .int p1, .int p2].toArray s 0 0 A) (F0 m 13 ls []) := by
    intro n13
    induction n13 with
    | zero =>
      intro x1 x2 x3 x4 σ H locs ls hl hw hf
      have hf : (none : Option (Int32 × MSt)) = some (r, σ') := hf
      cases hf
    | succ n13 ih13 =>
      have b75 : ∀ (x1 : Int32) (x2 : Int32) (x3 : Int32) (x4 : Int32) (σ : MSt) (H : Heap) (locs : List Loc) (ls : Array Slot), lv_has ls 5 [(0, .ref (ad 78)), (1, .int x1), (2, .int x2), (3, .int x3), (4, .int x4)] → k_W G w A s.heap σ H locs → f_X6_agrees_b75 (f_X6_agrees_b13 n13) x1 x2 x3 x4 σ = some (r, σ') → W p l e rmX6_agrees s m [.ref (ad 78), .int p1, .int p2].toArray below meth c H locs 0 0 (MQ below (k_Qi G w A r σ') [.ref (ad 78), .int p1, .int p2].toArray s 0 0 A) (F0 m 75 ls []) := by
        intro x1 x2 x3 x4 σ H locs ls hl hw hf
        unfold f_X6_agrees_b75 at hf
        obtain ⟨u1, ex⟩ : ∃ y : Int32, y = (x4 + (1 : Int32)) := ⟨_, rfl⟩
        have hf := k_nmE ex hf
        refine lv_iinc (v := u1) (lv' := [(4, .int u1), (0, .ref (ad 78)), (1, .int x1), (2, .int x2), (3, .int x3)]) hx hb dX6_agrees_75 hl (k := 4) rfl (by rw [ex]; rfl) (by decide) rfl (fun ls hl => ?_)
        refine lv_goto (tgt := 13) hx hb dX6_agrees_78 (by decide) ?_
        exact ih13 x1 x2 x3 u1 σ _ _ _ (lv_sub hl [1, 2, 3, 4, 0] rfl) hw hf
      intro x1 x2 x3 x4 σ H locs ls hl hw hf
      have hf : f_X6_agrees_b13_s (f_X6_agrees_b13 n13) x1 x2 x3 x4 σ = some (r, σ') := hf
      unfold f_X6_agrees_b13_s at hf
      refine lv_iload hx hb dX6_agrees_13 (lv_at hl 4 rfl) ?_
      refine lv_iload_n hx hb dX6_agrees_15 rfl (lv_at hl 3 rfl) ?_
      refine lv_icmp_ge (tgt := 81) hx hb dX6_agrees_16 (by decide) (fun h => ?_) (fun h => ?_)
      · have hf := k_ifT h hf
        refine lv_iconst (v := (1 : Int32)) hx hb dX6_agrees_81 (by decide) ?_
        exact k_zret C hw rfl hf dX6_agrees_82
      · have hf := k_ifF h hf
        refine lv_aload_n hx hb dX6_agrees_19 rfl (lv_at hl 0 rfl) ?_
        refine k_get C hw (LC_78 LC) (ci := 6) rfl k_in6 6 (by decide) lk6_25 (v := .ref (ad 83)) rfl dX6_agrees_20 ?_
        refine lv_iload hx hb dX6_agrees_23 (lv_at hl 4 rfl) ?_
        obtain ⟨hi, hf⟩ := k_ckE hf
        refine k_zald C hw (LC_83 LC) hi dX6_agrees_25 ?_
        refine lv_if_eq (tgt := 75) hx hb dX6_agrees_26 (by decide) (fun h => ?_) (fun h => ?_)
        · have hf := k_ifT h hf
          exact b75 x1 x2 x3 x4 σ _ _ _ (lv_sub hl [0, 1, 2, 3, 4] rfl) hw hf
        · have hf := k_ifF h hf
          refine lv_aload_n hx hb dX6_agrees_29 rfl (lv_at hl 0 rfl) ?_
          refine k_get C hw (LC_78 LC) (ci := 6) rfl k_in6 5 (by decide) lk6_22 (v := .ref (ad 82)) rfl dX6_agrees_30 ?_
          refine lv_iload hx hb dX6_agrees_33 (lv_at hl 4 rfl) ?_
          obtain ⟨hi, hf⟩ := k_ckE hf
          refine k_iald C hw (LC_82 LC) hi dX6_agrees_35 ?_
          refine lv_iconst (v := (-1 : Int32)) hx hb dX6_agrees_36 (by decide) ?_
          refine lv_icmp_ne (tgt := 75) hx hb dX6_agrees_37 (by decide) (fun h => ?_) (fun h => ?_)
          · have hf := k_ifF h hf
            exact b75 x1 x2 x3 x4 σ _ _ _ (lv_sub hl [0, 1, 2, 3, 4] rfl) hw hf
          · have hf := k_ifT h hf
            refine lv_aload_n hx hb dX6_agrees_40 rfl (lv_at hl 0 rfl) ?_
            refine k_get C hw (LC_78 LC) (ci := 6) rfl k_in6 1 (by decide) lk6_32 (v := .ref (ad 67)) rfl dX6_agrees_41 ?_
            refine lv_aload_n hx hb dX6_agrees_44 rfl (lv_at hl 0 rfl) ?_
            refine k_get C hw (LC_78 LC) (ci := 6) rfl k_in6 2 (by decide) lk6_9 (v := .ref (ad 79)) rfl dX6_agrees_45 ?_
            refine lv_iload hx hb dX6_agrees_48 (lv_at hl 4 rfl) ?_
            obtain ⟨hi, hf⟩ := k_ckE hf
            refine k_iald C hw (LC_79 LC) hi dX6_agrees_50 ?_
            refine lv_aload_n hx hb dX6_agrees_51 rfl (lv_at hl 0 rfl) ?_
            refine k_get C hw (LC_78 LC) (ci := 6) rfl k_in6 3 (by decide) lk6_15 (v := .ref (ad 80)) rfl dX6_agrees_52 ?_
            refine lv_iload hx hb dX6_agrees_55 (lv_at hl 4 rfl) ?_
            obtain ⟨hi, hf⟩ := k_ckE hf
            refine k_iald C hw (LC_80 LC) hi dX6_agrees_57 ?_
            refine lv_iload_n hx hb dX6_agrees_58 rfl (lv_at hl 1 rfl) ?_
            refine lv_iload_n hx hb dX6_agrees_59 rfl (lv_at hl 2 rfl) ?_
            obtain ⟨q2, σ1, hq, hf⟩ := k_bdE hf
            refine k_callVi C hw (c_X3_seesFromText l G Y w ad LC (σ.1 79 (x4).toNatClampNeg) (σ.1 80 (x4).toNatClampNeg) x1 x2 σ q2 σ1 hq) (cwV 4 hts gX6_agrees_X3_seesFromText rfl rfl rfl (by decide +kernel) ⟨Nat.le_of_ble_eq_true rfl, Nat.le_of_ble_eq_true rfl⟩) (k_recv C hw (LC_67 LC) rfl) rfl hl.1 rfl (Nat.le_of_ble_eq_true rfl) dX6_agrees_60 (fun H locs hw => ?_)
            refine lv_aload_n hx hb dX6_agrees_63 rfl (lv_at hl 0 rfl) ?_
            refine k_get C hw (LC_78 LC) (ci := 6) rfl k_in6 4 (by decide) lk6_18 (v := .ref (ad 81)) rfl dX6_agrees_64 ?_
            refine lv_iload hx hb dX6_agrees_67 (lv_at hl 4 rfl) ?_
            obtain ⟨hi, hf⟩ := k_ckE hf
            refine k_zald C hw (LC_81 LC) hi dX6_agrees_69 ?_
            refine lv_icmp_eq (tgt := 75) hx hb dX6_agrees_70 (by decide) (fun h => ?_) (fun h => ?_)
            · have hf := k_ifT h hf
              exact b75 x1 x2 x3 x4 σ1 _ _ _ (lv_sub hl [0, 1, 2, 3, 4] rfl) hw hf
            · have hf := k_ifF h hf
              refine lv_iconst (v := (0 : Int32)) hx hb dX6_agrees_73 (by decide) ?_
              exact k_zret C hw rfl hf dX6_agrees_74
  unfold f_X6_agrees at hf
  refine lv_aload_n hx hb dX6_agrees_0 rfl (lv_at hl 0 rfl) ?_
  obtain ⟨q4, σ3, hq, hf⟩ := k_bdE hf
  refine k_callVi C hw (c_X6_knownBy l G Y w ad LC σ q4 σ3 hq) (cwV 0 hts gX6_agrees_X6_knownBy rfl rfl rfl (by decide +kernel) ⟨Nat.le_of_ble_eq_true rfl, Nat.le_of_ble_eq_true rfl⟩) (k_recv C hw (LC_78 LC) rfl) rfl hl.1 rfl (Nat.le_of_ble_eq_true rfl) dX6_agrees_1 (fun H locs hw => ?_)
  refine lv_bipush (v := (24 : Int32)) hx hb dX6_agrees_4 (by decide) ?_
  refine k_mmin C hl.1 ml6_43 ms_Lib_Math_min_name mi_Math mc_Lib_Math_min_name (Nat.le_of_ble_eq_true rfl) (Nat.le_of_ble_eq_true rfl) dX6_agrees_6 ?_
  refine lv_topi (fun u5 ex => ?_)
  have hf := k_nmE ex hf
  refine lv_istore_n (lv' := [(3, .int u5), (0, .ref (ad 78)), (1, .int p1), (2, .int p2)]) hx hb dX6_agrees_9 rfl hl (by decide) rfl (fun ls hl => ?_)
  refine lv_iconst (v := (0 : Int32)) hx hb dX6_agrees_10 (by decide) ?_
  refine lv_istore (lv' := [(4, .int (0 : Int32)), (3, .int u5), (0, .ref (ad 78)), (1, .int p1), (2, .int p2)]) hx hb dX6_agrees_11 hl (by decide) rfl (fun ls hl => ?_)
  exact b13 FU p1 p2 u5 (0 : Int32) σ3 _ _ _ (lv_sub hl [2, 3, 4, 1, 0] rfl) hw hf
def f_X6_joysOf_b29  (r8 : Int32 → Int32 → Int32 → MSt → Option (Int32 × MSt)) (x1 : Int32) (x2 : Int32) (x3 : Int32) (σ : MSt) : Option (Int32 × MSt) :=
  k_nm (x3 + (1 : Int32)) fun u1 =>
  r8 x1 x2 u1 σ
def f_X6_joysOf_b8_s  (r8 : Int32 → Int32 → Int32 → MSt → Option (Int32 × MSt)) (x1 : Int32) (x2 : Int32) (x3 : Int32) (σ : MSt) : Option (Int32 × MSt) :=
  if (9 : Int32) < x3 then
  (some (x2, σ))
  else
  (k_bd (f_X6_agrees x1 x3 σ) fun q2 σ1 =>
  if q2 = 0 then
  (f_X6_joysOf_b29 r8 x1 x2 x3 σ1)
  else
  (k_nm (x2 ||| ((1 : Int32) <<< (x3 &&& 31))) fun u3 =>
  f_X6_joysOf_b29 r8 x1 u3 x3 σ1))
def f_X6_joysOf_b8  : Nat → Int32 → Int32 → Int32 → MSt → Option (Int32 × MSt)
  | 0 => fun _ _ _ _ => none
  | n + 1 => f_X6_joysOf_b8_s (f_X6_joysOf_b8 n)
def f_X6_joysOf  (p1 : Int32) (σ : MSt) : Option (Int32 × MSt) :=
  k_bv (f_X6_strikeOut σ) fun σ4 =>
  f_X6_joysOf_b8 FU p1 (0 : Int32) (0 : Int32) σ4
def rmX6_joysOf : Room := { frames := 5, cells := 0, slots := 0, locals := 123 }
set_option maxHeartbeats 4000000 in
set_option maxRecDepth 100000 in
theorem c_X6_joysOf (l : Launch) (G : va_G) (Y : CY) (w : MSt → va_W) (ad : Nat → Nat)  (LC : LayC ad w Y) (p1 : Int32) (σ : MSt) (r : Int32) (σ' : MSt) (hf : f_X6_joysOf p1 σ = some (r, σ')) : k_Mi l yX6_joysOf wsX6_joysOf rmX6_joysOf G Y w [.ref (ad 78), .int p1] σ r σ' := by
  refine k_ofi (own := RX6) (cc := cX6_joysOf) (maxL := 4) (some .int) (by decide) rfl rfl (Nat.le_of_ble_eq_true rfl) ?_
  intro p e s m below meth c A C ls hl hw
  have hx := C.1
  have hb := C.2.1
  have hown := C.2.2.2.2.1
  have hts := C.2.2.2.2.2.1
  have hks := C.2.2.2.2.2.2.1
  have hl : lv_has ls 4 [(0, .ref (ad 78)), (1, .int p1)] := hl
  have b8 : ∀ (n8 : Nat) (x1 : Int32) (x2 : Int32) (x3 : Int32) (σ : MSt) (H : Heap) (locs : List Loc) (ls : Array Slot), lv_has ls 4 [(0, .ref (ad 78)), (1, .int x1), (2, .int x2), (3, .int x3)] → k_W G w A s.heap σ H locs → f_X6_joysOf_b8 n8 x1 x2 x3 σ = some (r, σ') → W p l e rmX6_joysOf s m [.ref (ad 78), .int p1].toArray below meth c H locs 0 0 (MQ below (k_Qi G w A r σ') [.ref (ad 78), .int p1].toArray s 0 0 A) (F0 m 8 ls []) := by
    intro n8
    induction n8 with
    | zero =>
      intro x1 x2 x3 σ H locs ls hl hw hf
      have hf : (none : Option (Int32 × MSt)) = some (r, σ') := hf
      cases hf
    | succ n8 ih8 =>
      have b29 : ∀ (x1 : Int32) (x2 : Int32) (x3 : Int32) (σ : MSt) (H : Heap) (locs : List Loc) (ls : Array Slot), lv_has ls 4 [(0, .ref (ad 78)), (1, .int x1), (2, .int x2), (3, .int x3)] → k_W G w A s.heap σ H locs → f_X6_joysOf_b29 (f_X6_joysOf_b8 n8) x1 x2 x3 σ = some (r, σ') → W p l e rmX6_joysOf s m [.ref (ad 78), .int p1].toArray below meth c H locs 0 0 (MQ below (k_Qi G w A r σ') [.ref (ad 78), .int p1].toArray s 0 0 A) (F0 m 29 ls []) := by
        intro x1 x2 x3 σ H locs ls hl hw hf
        unfold f_X6_joysOf_b29 at hf
        obtain ⟨u1, ex⟩ : ∃ y : Int32, y = (x3 + (1 : Int32)) := ⟨_, rfl⟩
        have hf := k_nmE ex hf
        refine lv_iinc (v := u1) (lv' := [(3, .int u1), (0, .ref (ad 78)), (1, .int x1), (2, .int x2)]) hx hb dX6_joysOf_29 hl (k := 3) rfl (by rw [ex]; rfl) (by decide) rfl (fun ls hl => ?_)
        refine lv_goto (tgt := 8) hx hb dX6_joysOf_32 (by decide) ?_
        exact ih8 x1 x2 u1 σ _ _ _ (lv_sub hl [1, 2, 3, 0] rfl) hw hf
      intro x1 x2 x3 σ H locs ls hl hw hf
      have hf : f_X6_joysOf_b8_s (f_X6_joysOf_b8 n8) x1 x2 x3 σ = some (r, σ') := hf
      unfold f_X6_joysOf_b8_s at hf
      refine lv_iload_n hx hb dX6_joysOf_8 rfl (lv_at hl 3 rfl) ?_
      refine lv_bipush (v := (9 : Int32)) hx hb dX6_joysOf_9 (by decide) ?_
      refine lv_icmp_gt (tgt := 35) hx hb dX6_joysOf_11 (by decide) (fun h => ?_) (fun h => ?_)
      · have hf := k_ifT h hf
        refine lv_iload_n hx hb dX6_joysOf_35 rfl (lv_at hl 2 rfl) ?_
        exact k_iret C hw hf dX6_joysOf_36
      · have hf := k_ifF h hf
        refine lv_aload_n hx hb dX6_joysOf_14 rfl (lv_at hl 0 rfl) ?_
        refine lv_iload_n hx hb dX6_joysOf_15 rfl (lv_at hl 1 rfl) ?_
        refine lv_iload_n hx hb dX6_joysOf_16 rfl (lv_at hl 3 rfl) ?_
        obtain ⟨q2, σ1, hq, hf⟩ := k_bdE hf
        refine k_callVi C hw (c_X6_agrees l G Y w ad LC x1 x3 σ q2 σ1 hq) (cwV 2 hts gX6_joysOf_X6_agrees rfl rfl rfl (by decide +kernel) ⟨Nat.le_of_ble_eq_true rfl, Nat.le_of_ble_eq_true rfl⟩) (k_recv C hw (LC_78 LC) rfl) rfl hl.1 rfl (Nat.le_of_ble_eq_true rfl) dX6_joysOf_17 (fun H locs hw => ?_)
        refine lv_if_eq (tgt := 29) hx hb dX6_joysOf_20 (by decide) (fun h => ?_) (fun h => ?_)
        · have hf := k_ifT h hf
          exact b29 x1 x2 x3 σ1 _ _ _ (lv_sub hl [0, 1, 2, 3] rfl) hw hf
        · have hf := k_ifF h hf
          refine lv_iload_n hx hb dX6_joysOf_23 rfl (lv_at hl 2 rfl) ?_
          refine lv_iconst (v := (1 : Int32)) hx hb dX6_joysOf_24 (by decide) ?_
          refine lv_iload_n hx hb dX6_joysOf_25 rfl (lv_at hl 3 rfl) ?_
          refine lv_ishl hx hb dX6_joysOf_26 ?_
          refine lv_ior hx hb dX6_joysOf_27 ?_
          refine lv_topi (fun u3 ex => ?_)
          have hf := k_nmE ex hf
          refine lv_istore_n (lv' := [(2, .int u3), (0, .ref (ad 78)), (1, .int x1), (3, .int x3)]) hx hb dX6_joysOf_28 rfl hl (by decide) rfl (fun ls hl => ?_)
          exact b29 x1 u3 x3 σ1 _ _ _ (lv_sub hl [1, 2, 0, 3] rfl) hw hf
  unfold f_X6_joysOf at hf
  refine lv_aload_n hx hb dX6_joysOf_0 rfl (lv_at hl 0 rfl) ?_
  obtain ⟨σ4, hq, hf⟩ := k_bvE hf
  refine k_callVv C hw (c_X6_strikeOut l G Y w ad LC σ σ4 hq) (cwV 0 hts gX6_joysOf_X6_strikeOut rfl rfl rfl (by decide +kernel) ⟨Nat.le_of_ble_eq_true rfl, Nat.le_of_ble_eq_true rfl⟩) (k_recv C hw (LC_78 LC) rfl) rfl hl.1 rfl (Nat.le_of_ble_eq_true rfl) dX6_joysOf_1 (fun H locs hw => ?_)
  refine lv_iconst (v := (0 : Int32)) hx hb dX6_joysOf_4 (by decide) ?_
  refine lv_istore_n (lv' := [(2, .int (0 : Int32)), (0, .ref (ad 78)), (1, .int p1)]) hx hb dX6_joysOf_5 rfl hl (by decide) rfl (fun ls hl => ?_)
  refine lv_iconst (v := (0 : Int32)) hx hb dX6_joysOf_6 (by decide) ?_
  refine lv_istore_n (lv' := [(3, .int (0 : Int32)), (2, .int (0 : Int32)), (0, .ref (ad 78)), (1, .int p1)]) hx hb dX6_joysOf_7 rfl hl (by decide) rfl (fun ls hl => ?_)
  exact b8 FU p1 (0 : Int32) (0 : Int32) σ4 _ _ _ (lv_sub hl [2, 3, 1, 0] rfl) hw hf
def f_X6_lean_b56  (r6 : Int32 → Int32 → Int32 → Int32 → Int32 → MSt → Option (Int32 × MSt)) (x1 : Int32) (x2 : Int32) (x3 : Int32) (x4 : Int32) (x5 : Int32) (σ : MSt) : Option (Int32 × MSt) :=
  k_nm (x5 + (1 : Int32)) fun u1 =>
  r6 x1 x2 x3 x4 u1 σ
def f_X6_lean_b53  (r6 : Int32 → Int32 → Int32 → Int32 → Int32 → MSt → Option (Int32 × MSt)) (x1 : Int32) (x2 : Int32) (x3 : Int32) (x5 : Int32) (y0 : Int32) (y1 : Int32) (σ : MSt) : Option (Int32 × MSt) :=
  k_nm (y0 + y1) fun u1 =>
  f_X6_lean_b56 r6 x1 x2 x3 u1 x5 σ
def f_X6_lean_b6_s  (r6 : Int32 → Int32 → Int32 → Int32 → Int32 → MSt → Option (Int32 × MSt)) (x1 : Int32) (x2 : Int32) (x3 : Int32) (x4 : Int32) (x5 : Int32) (σ : MSt) : Option (Int32 × MSt) :=
  if (9 : Int32) < x5 then
  (some (x4, σ))
  else
  (if ((x2 >>> (x5 &&& 31)) &&& (1 : Int32)) = (1 : Int32) then
  (k_ck (k_inb x1 12) <|
  k_bd (f_X3_seesFromText (σ.1 13 (x1).toNatClampNeg) x3 x1 x5 σ) fun q2 σ1 =>
  if q2 = 0 then
  (f_X6_lean_b53 r6 x1 x2 x3 x5 x4 (-1 : Int32) σ1)
  else
  (f_X6_lean_b53 r6 x1 x2 x3 x5 x4 (1 : Int32) σ1))
  else
  (f_X6_lean_b56 r6 x1 x2 x3 x4 x5 σ))
def f_X6_lean_b6  : Nat → Int32 → Int32 → Int32 → Int32 → Int32 → MSt → Option (Int32 × MSt)
  | 0 => fun _ _ _ _ _ _ => none
  | n + 1 => f_X6_lean_b6_s (f_X6_lean_b6 n)
def f_X6_lean  (p1 : Int32) (p2 : Int32) (p3 : Int32) (σ : MSt) : Option (Int32 × MSt) :=
  f_X6_lean_b6 FU p1 p2 p3 (0 : Int32) (0 : Int32) σ
def rmX6_lean : Room := { frames := 4, cells := 0, slots := 0, locals := 99 }
set_option maxHeartbeats 4000000 in
set_option maxRecDepth 100000 in
theorem c_X6_lean (l : Launch) (G : va_G) (Y : CY) (w : MSt → va_W) (ad : Nat → Nat)  (LC : LayC ad w Y) (p1 : Int32) (p2 : Int32) (p3 : Int32) (σ : MSt) (r : Int32) (σ' : MSt) (hf : f_X6_lean p1 p2 p3 σ = some (r, σ')) : k_Mi l yX6_lean wsX6_lean rmX6_lean G Y w [.ref (ad 78), .int p1, .int p2, .int p3] σ r σ' := by
  refine k_ofi (own := RX6) (cc := cX6_lean) (maxL := 6) (some .int) (by decide) rfl rfl (Nat.le_of_ble_eq_true rfl) ?_
  intro p e s m below meth c A C ls hl hw
  have hx := C.1
  have hb := C.2.1
  have hown := C.2.2.2.2.1
  have hts := C.2.2.2.2.2.1
  have hks := C.2.2.2.2.2.2.1
  have hl : lv_has ls 6 [(0, .ref (ad 78)), (1, .int p1), (2, .int p2), (3, .int p3)] := hl
  have b6 : ∀ (n6 : Nat) (x1 : Int32) (x2 : Int32) (x3 : Int32) (x4 : Int32) (x5 : Int32) (σ : MSt) (H : Heap) (locs : List Loc) (ls : Array Slot), lv_has ls 6 [(0, .ref (ad 78)), (1, .int x1), (2, .int x2), (3, .int x3), (4, .int x4), (5, .int x5)] → k_W G w A s.heap σ H locs → f_X6_lean_b6 n6 x1 x2 x3 x4 x5 σ = some (r, σ') → W p l e rmX6_lean s m [.ref (ad 78), .int p1, .int p2, .int p3].toArray below meth c H locs 0 0 (MQ below (k_Qi G w A r σ') [.ref (ad 78), .int p1, .int p2, .int p3].toArray s 0 0 A) (F0 m 6 ls []) := by
    intro n6
    induction n6 with
    | zero =>
      intro x1 x2 x3 x4 x5 σ H locs ls hl hw hf
      have hf : (none : Option (Int32 × MSt)) = some (r, σ') := hf
      cases hf
    | succ n6 ih6 =>
      have b56 : ∀ (x1 : Int32) (x2 : Int32) (x3 : Int32) (x4 : Int32) (x5 : Int32) (σ : MSt) (H : Heap) (locs : List Loc) (ls : Array Slot), lv_has ls 6 [(0, .ref (ad 78)), (1, .int x1), (2, .int x2), (3, .int x3), (4, .int x4), (5, .int x5)] → k_W G w A s.heap σ H locs → f_X6_lean_b56 (f_X6_lean_b6 n6) x1 x2 x3 x4 x5 σ = some (r, σ') → W p l e rmX6_lean s m [.ref (ad 78), .int p1, .int p2, .int p3].toArray below meth c H locs 0 0 (MQ below (k_Qi G w A r σ') [.ref (ad 78), .int p1, .int p2, .int p3].toArray s 0 0 A) (F0 m 56 ls []) := by
        intro x1 x2 x3 x4 x5 σ H locs ls hl hw hf
        unfold f_X6_lean_b56 at hf
        obtain ⟨u1, ex⟩ : ∃ y : Int32, y = (x5 + (1 : Int32)) := ⟨_, rfl⟩
        have hf := k_nmE ex hf
        refine lv_iinc (v := u1) (lv' := [(5, .int u1), (0, .ref (ad 78)), (1, .int x1), (2, .int x2), (3, .int x3), (4, .int x4)]) hx hb dX6_lean_56 hl (k := 5) rfl (by rw [ex]; rfl) (by decide) rfl (fun ls hl => ?_)
        refine lv_goto (tgt := 6) hx hb dX6_lean_59 (by decide) ?_
        exact ih6 x1 x2 x3 x4 u1 σ _ _ _ (lv_sub hl [1, 2, 3, 4, 5, 0] rfl) hw hf
      have b53 : ∀ (x1 : Int32) (x2 : Int32) (x3 : Int32) (x5 : Int32) (y0 : Int32) (y1 : Int32) (σ : MSt) (H : Heap) (locs : List Loc) (ls : Array Slot), lv_has ls 6 [(0, .ref (ad 78)), (1, .int x1), (2, .int x2), (3, .int x3), (5, .int x5)] → k_W G w A s.heap σ H locs → f_X6_lean_b53 (f_X6_lean_b6 n6) x1 x2 x3 x5 y0 y1 σ = some (r, σ') → W p l e rmX6_lean s m [.ref (ad 78), .int p1, .int p2, .int p3].toArray below meth c H locs 0 0 (MQ below (k_Qi G w A r σ') [.ref (ad 78), .int p1, .int p2, .int p3].toArray s 0 0 A) (F0 m 53 ls [.int y1, .int y0]) := by
        intro x1 x2 x3 x5 y0 y1 σ H locs ls hl hw hf
        unfold f_X6_lean_b53 at hf
        refine lv_iadd hx hb dX6_lean_53 ?_
        refine lv_topi (fun u1 ex => ?_)
        have hf := k_nmE ex hf
        refine lv_istore (lv' := [(4, .int u1), (0, .ref (ad 78)), (1, .int x1), (2, .int x2), (3, .int x3), (5, .int x5)]) hx hb dX6_lean_54 hl (by decide) rfl (fun ls hl => ?_)
        exact b56 x1 x2 x3 u1 x5 σ _ _ _ (lv_sub hl [1, 2, 3, 4, 0, 5] rfl) hw hf
      intro x1 x2 x3 x4 x5 σ H locs ls hl hw hf
      have hf : f_X6_lean_b6_s (f_X6_lean_b6 n6) x1 x2 x3 x4 x5 σ = some (r, σ') := hf
      unfold f_X6_lean_b6_s at hf
      refine lv_iload hx hb dX6_lean_6 (lv_at hl 5 rfl) ?_
      refine lv_bipush (v := (9 : Int32)) hx hb dX6_lean_8 (by decide) ?_
      refine lv_icmp_gt (tgt := 62) hx hb dX6_lean_10 (by decide) (fun h => ?_) (fun h => ?_)
      · have hf := k_ifT h hf
        refine lv_iload hx hb dX6_lean_62 (lv_at hl 4 rfl) ?_
        exact k_iret C hw hf dX6_lean_64
      · have hf := k_ifF h hf
        refine lv_iload_n hx hb dX6_lean_13 rfl (lv_at hl 2 rfl) ?_
        refine lv_iload hx hb dX6_lean_14 (lv_at hl 5 rfl) ?_
        refine lv_ishr hx hb dX6_lean_16 ?_
        refine lv_iconst (v := (1 : Int32)) hx hb dX6_lean_17 (by decide) ?_
        refine lv_iand hx hb dX6_lean_18 ?_
        refine lv_iconst (v := (1 : Int32)) hx hb dX6_lean_19 (by decide) ?_
        refine lv_icmp_ne (tgt := 56) hx hb dX6_lean_20 (by decide) (fun h => ?_) (fun h => ?_)
        · have hf := k_ifF h hf
          exact b56 x1 x2 x3 x4 x5 σ _ _ _ (lv_sub hl [0, 1, 2, 3, 4, 5] rfl) hw hf
        · have hf := k_ifT h hf
          refine lv_iload hx hb dX6_lean_23 (lv_at hl 4 rfl) ?_
          refine lv_aload_n hx hb dX6_lean_25 rfl (lv_at hl 0 rfl) ?_
          refine k_get C hw (LC_78 LC) (ci := 6) rfl k_in6 1 (by decide) lk6_32 (v := .ref (ad 67)) rfl dX6_lean_26 ?_
          refine lv_aload_n hx hb dX6_lean_29 rfl (lv_at hl 0 rfl) ?_
          refine k_get C hw (LC_78 LC) (ci := 6) rfl k_in6 0 (by decide) lk6_28 (v := .ref (ad 10)) rfl dX6_lean_30 ?_
          refine k_getN C hw (LC_10 LC) (ci := 0) rfl k_in0 2 (by decide) ln6_87 (v := .ref (ad 13)) rfl dX6_lean_33 ?_
          refine lv_iload_n hx hb dX6_lean_36 rfl (lv_at hl 1 rfl) ?_
          obtain ⟨hi, hf⟩ := k_ckE hf
          refine k_iald C hw (LC_13 LC) hi dX6_lean_37 ?_
          refine lv_iload_n hx hb dX6_lean_38 rfl (lv_at hl 3 rfl) ?_
          refine lv_iload_n hx hb dX6_lean_39 rfl (lv_at hl 1 rfl) ?_
          refine lv_iload hx hb dX6_lean_40 (lv_at hl 5 rfl) ?_
          obtain ⟨q2, σ1, hq, hf⟩ := k_bdE hf
          refine k_callVi C hw (c_X3_seesFromText l G Y w ad LC (σ.1 13 (x1).toNatClampNeg) x3 x1 x5 σ q2 σ1 hq) (cwV 4 hts gX6_lean_X3_seesFromText rfl rfl rfl (by decide +kernel) ⟨Nat.le_of_ble_eq_true rfl, Nat.le_of_ble_eq_true rfl⟩) (k_recv C hw (LC_67 LC) rfl) rfl hl.1 rfl (Nat.le_of_ble_eq_true rfl) dX6_lean_42 (fun H locs hw => ?_)
          refine lv_if_eq (tgt := 52) hx hb dX6_lean_45 (by decide) (fun h => ?_) (fun h => ?_)
          · have hf := k_ifT h hf
            refine lv_iconst (v := (-1 : Int32)) hx hb dX6_lean_52 (by decide) ?_
            exact b53 x1 x2 x3 x5 x4 (-1 : Int32) σ1 _ _ _ (lv_sub hl [0, 1, 2, 3, 5] rfl) hw hf
          · have hf := k_ifF h hf
            refine lv_iconst (v := (1 : Int32)) hx hb dX6_lean_48 (by decide) ?_
            refine lv_goto (tgt := 53) hx hb dX6_lean_49 (by decide) ?_
            exact b53 x1 x2 x3 x5 x4 (1 : Int32) σ1 _ _ _ (lv_sub hl [0, 1, 2, 3, 5] rfl) hw hf
  unfold f_X6_lean at hf
  refine lv_iconst (v := (0 : Int32)) hx hb dX6_lean_0 (by decide) ?_
  refine lv_istore (lv' := [(4, .int (0 : Int32)), (0, .ref (ad 78)), (1, .int p1), (2, .int p2), (3, .int p3)]) hx hb dX6_lean_1 hl (by decide) rfl (fun ls hl => ?_)
  refine lv_iconst (v := (0 : Int32)) hx hb dX6_lean_3 (by decide) ?_
  refine lv_istore (lv' := [(5, .int (0 : Int32)), (4, .int (0 : Int32)), (0, .ref (ad 78)), (1, .int p1), (2, .int p2), (3, .int p3)]) hx hb dX6_lean_4 hl (by decide) rfl (fun ls hl => ?_)
  exact b6 FU p1 p2 p3 (0 : Int32) (0 : Int32) σ _ _ _ (lv_sub hl [2, 3, 4, 5, 1, 0] rfl) hw hf
def f_X6_tellingDate_b70  (r33 : Int32 → Int32 → Int32 → Int32 → Int32 → Int32 → MSt → Option (Int32 × MSt)) (x1 : Int32) (x2 : Int32) (x3 : Int32) (x4 : Int32) (x5 : Int32) (x6 : Int32) (σ : MSt) : Option (Int32 × MSt) :=
  k_nm (x6 + (1 : Int32)) fun u1 =>
  r33 x1 x2 x3 x4 x5 u1 σ
def f_X6_tellingDate_b33_s  (r33 : Int32 → Int32 → Int32 → Int32 → Int32 → Int32 → MSt → Option (Int32 × MSt)) (x1 : Int32) (x2 : Int32) (x3 : Int32) (x4 : Int32) (x5 : Int32) (x6 : Int32) (σ : MSt) : Option (Int32 × MSt) :=
  if (x3 + (20 : Int32)) ≤ x6 then
  (some (x4, σ))
  else
  (k_bd (f_X6_lean x1 x2 x6 σ) fun q2 σ1 =>
  k_nm (k_abs q2) fun u3 =>
  if x5 ≤ u3 then
  (f_X6_tellingDate_b70 r33 x1 x2 x3 x4 x5 x6 σ1)
  else
  (f_X6_tellingDate_b70 r33 x1 x2 x3 x6 u3 x6 σ1))
def f_X6_tellingDate_b33  : Nat → Int32 → Int32 → Int32 → Int32 → Int32 → Int32 → MSt → Option (Int32 × MSt)
  | 0 => fun _ _ _ _ _ _ _ => none
  | n + 1 => f_X6_tellingDate_b33_s (f_X6_tellingDate_b33 n)
def f_X6_tellingDate  (p1 : Int32) (p2 : Int32) (σ : MSt) : Option (Int32 × MSt) :=
  k_bd (f_X0_hasDeed 10 p1 σ) fun q5 σ4 =>
  if q5 = 0 then
  (some ((-1 : Int32), σ4))
  else
  (k_ck (k_inb p1 12) <|
  k_nm (σ4.1 14 (p1).toNatClampNeg) fun u6 =>
  f_X6_tellingDate_b33 FU p1 p2 u6 u6 (11 : Int32) u6 σ4)
def rmX6_tellingDate : Room := { frames := 5, cells := 0, slots := 0, locals := 124 }
set_option maxHeartbeats 4000000 in
set_option maxRecDepth 100000 in
theorem c_X6_tellingDate (l : Launch) (G : va_G) (Y : CY) (w : MSt → va_W) (ad : Nat → Nat)  (LC : LayC ad w Y) (p1 : Int32) (p2 : Int32) (σ : MSt) (r : Int32) (σ' : MSt) (hf : f_X6_tellingDate p1 p2 σ = some (r, σ')) : k_Mi l yX6_tellingDate wsX6_tellingDate rmX6_tellingDate G Y w [.ref (ad 78), .int p1, .int p2] σ r σ' := by
  refine k_ofi (own := RX6) (cc := cX6_tellingDate) (maxL := 8) (some .int) (by decide) rfl rfl (Nat.le_of_ble_eq_true rfl) ?_
  intro p e s m below meth c A C ls hl hw
  have hx := C.1
  have hb := C.2.1
  have hown := C.2.2.2.2.1
  have hts := C.2.2.2.2.2.1
  have hks := C.2.2.2.2.2.2.1
  have hl : lv_has ls 8 [(0, .ref (ad 78)), (1, .int p1), (2, .int p2)] := hl
  have b33 : ∀ (n33 : Nat) (x1 : Int32) (x2 : Int32) (x3 : Int32) (x4 : Int32) (x5 : Int32) (x6 : Int32) (σ : MSt) (H : Heap) (locs : List Loc) (ls : Array Slot), lv_has ls 8 [(0, .ref (ad 78)), (1, .int x1), (2, .int x2), (3, .int x3), (4, .int x4), (5, .int x5), (6, .int x6)] → k_W G w A s.heap σ H locs → f_X6_tellingDate_b33 n33 x1 x2 x3 x4 x5 x6 σ = some (r, σ') → W p l e rmX6_tellingDate s m [.ref (ad 78), .int p1, .int p2].toArray below meth c H locs 0 0 (MQ below (k_Qi G w A r σ') [.ref (ad 78), .int p1, .int p2].toArray s 0 0 A) (F0 m 33 ls []) := by
    intro n33
    induction n33 with
    | zero =>
      intro x1 x2 x3 x4 x5 x6 σ H locs ls hl hw hf
      have hf : (none : Option (Int32 × MSt)) = some (r, σ') := hf
      cases hf
    | succ n33 ih33 =>
      have b70 : ∀ (x1 : Int32) (x2 : Int32) (x3 : Int32) (x4 : Int32) (x5 : Int32) (x6 : Int32) (σ : MSt) (H : Heap) (locs : List Loc) (ls : Array Slot), lv_has ls 8 [(0, .ref (ad 78)), (1, .int x1), (2, .int x2), (3, .int x3), (4, .int x4), (5, .int x5), (6, .int x6)] → k_W G w A s.heap σ H locs → f_X6_tellingDate_b70 (f_X6_tellingDate_b33 n33) x1 x2 x3 x4 x5 x6 σ = some (r, σ') → W p l e rmX6_tellingDate s m [.ref (ad 78), .int p1, .int p2].toArray below meth c H locs 0 0 (MQ below (k_Qi G w A r σ') [.ref (ad 78), .int p1, .int p2].toArray s 0 0 A) (F0 m 70 ls []) := by
        intro x1 x2 x3 x4 x5 x6 σ H locs ls hl hw hf
        unfold f_X6_tellingDate_b70 at hf
        obtain ⟨u1, ex⟩ : ∃ y : Int32, y = (x6 + (1 : Int32)) := ⟨_, rfl⟩
        have hf := k_nmE ex hf
        refine lv_iinc (v := u1) (lv' := [(6, .int u1), (0, .ref (ad 78)), (1, .int x1), (2, .int x2), (3, .int x3), (4, .int x4), (5, .int x5)]) hx hb dX6_tellingDate_70 hl (k := 6) rfl (by rw [ex]; rfl) (by decide) rfl (fun ls hl => ?_)
        refine lv_goto (tgt := 33) hx hb dX6_tellingDate_73 (by decide) ?_
        exact ih33 x1 x2 x3 x4 x5 u1 σ _ _ _ (lv_sub hl [1, 2, 3, 4, 5, 6, 0] rfl) hw hf
      intro x1 x2 x3 x4 x5 x6 σ H locs ls hl hw hf
      have hf : f_X6_tellingDate_b33_s (f_X6_tellingDate_b33 n33) x1 x2 x3 x4 x5 x6 σ = some (r, σ') := hf
      unfold f_X6_tellingDate_b33_s at hf
      refine lv_iload hx hb dX6_tellingDate_33 (lv_at hl 6 rfl) ?_
      refine lv_iload_n hx hb dX6_tellingDate_35 rfl (lv_at hl 3 rfl) ?_
      refine lv_bipush (v := (20 : Int32)) hx hb dX6_tellingDate_36 (by decide) ?_
      refine lv_iadd hx hb dX6_tellingDate_38 ?_
      refine lv_icmp_ge (tgt := 76) hx hb dX6_tellingDate_39 (by decide) (fun h => ?_) (fun h => ?_)
      · have hf := k_ifT h hf
        refine lv_iload hx hb dX6_tellingDate_76 (lv_at hl 4 rfl) ?_
        exact k_iret C hw hf dX6_tellingDate_78
      · have hf := k_ifF h hf
        refine lv_aload_n hx hb dX6_tellingDate_42 rfl (lv_at hl 0 rfl) ?_
        refine lv_iload_n hx hb dX6_tellingDate_43 rfl (lv_at hl 1 rfl) ?_
        refine lv_iload_n hx hb dX6_tellingDate_44 rfl (lv_at hl 2 rfl) ?_
        refine lv_iload hx hb dX6_tellingDate_45 (lv_at hl 6 rfl) ?_
        obtain ⟨q2, σ1, hq, hf⟩ := k_bdE hf
        refine k_callVi C hw (c_X6_lean l G Y w ad LC x1 x2 x6 σ q2 σ1 hq) (cwV 3 hts gX6_tellingDate_X6_lean rfl rfl rfl (by decide +kernel) ⟨Nat.le_of_ble_eq_true rfl, Nat.le_of_ble_eq_true rfl⟩) (k_recv C hw (LC_78 LC) rfl) rfl hl.1 rfl (Nat.le_of_ble_eq_true rfl) dX6_tellingDate_47 (fun H locs hw => ?_)
        refine k_mabs C hl.1 ml6_83 ms_Lib_Math_abs_name mi_Math mc_Lib_Math_abs_name (Nat.le_of_ble_eq_true rfl) (Nat.le_of_ble_eq_true rfl) dX6_tellingDate_50 ?_
        refine lv_topi (fun u3 ex => ?_)
        have hf := k_nmE ex hf
        refine lv_istore (lv' := [(7, .int u3), (0, .ref (ad 78)), (1, .int x1), (2, .int x2), (3, .int x3), (4, .int x4), (5, .int x5), (6, .int x6)]) hx hb dX6_tellingDate_53 hl (by decide) rfl (fun ls hl => ?_)
        refine lv_iload hx hb dX6_tellingDate_55 (lv_at hl 0 rfl) ?_
        refine lv_iload hx hb dX6_tellingDate_57 (lv_at hl 6 rfl) ?_
        refine lv_icmp_ge (tgt := 70) hx hb dX6_tellingDate_59 (by decide) (fun h => ?_) (fun h => ?_)
        · have hf := k_ifT h hf
          exact b70 x1 x2 x3 x4 x5 x6 σ1 _ _ _ (lv_sub hl [1, 2, 3, 4, 5, 6, 7] rfl) hw hf
        · have hf := k_ifF h hf
          refine lv_iload hx hb dX6_tellingDate_62 (lv_at hl 7 rfl) ?_
          refine lv_istore (lv' := [(4, .int x6), (7, .int u3), (0, .ref (ad 78)), (1, .int x1), (2, .int x2), (3, .int x3), (5, .int x5), (6, .int x6)]) hx hb dX6_tellingDate_64 hl (by decide) rfl (fun ls hl => ?_)
          refine lv_iload hx hb dX6_tellingDate_66 (lv_at hl 1 rfl) ?_
          refine lv_istore (lv' := [(5, .int u3), (4, .int x6), (7, .int u3), (0, .ref (ad 78)), (1, .int x1), (2, .int x2), (3, .int x3), (6, .int x6)]) hx hb dX6_tellingDate_68 hl (by decide) rfl (fun ls hl => ?_)
          exact b70 x1 x2 x3 x6 u3 x6 σ1 _ _ _ (lv_sub hl [3, 4, 5, 6, 1, 0, 7] rfl) hw hf
  unfold f_X6_tellingDate at hf
  refine lv_aload_n hx hb dX6_tellingDate_0 rfl (lv_at hl 0 rfl) ?_
  refine k_get C hw (LC_78 LC) (ci := 6) rfl k_in6 0 (by decide) lk6_28 (v := .ref (ad 10)) rfl dX6_tellingDate_1 ?_
  refine lv_iload_n hx hb dX6_tellingDate_4 rfl (lv_at hl 1 rfl) ?_
  obtain ⟨q5, σ4, hq, hf⟩ := k_bdE hf
  refine k_callVi C hw (c_X0_hasDeed l G Y w ad 10 (LCL_10 LC) p1 σ q5 σ4 hq) (cwV 1 hts gX6_tellingDate_X0_hasDeed rfl rfl rfl (by decide +kernel) ⟨Nat.le_of_ble_eq_true rfl, Nat.le_of_ble_eq_true rfl⟩) (k_recv C hw (LC_10 LC) rfl) rfl hl.1 rfl (Nat.le_of_ble_eq_true rfl) dX6_tellingDate_5 (fun H locs hw => ?_)
  refine lv_if_ne (tgt := 13) hx hb dX6_tellingDate_8 (by decide) (fun h => ?_) (fun h => ?_)
  · have hf := k_ifF h hf
    refine lv_aload_n hx hb dX6_tellingDate_13 rfl (lv_at hl 0 rfl) ?_
    refine k_get C hw (LC_78 LC) (ci := 6) rfl k_in6 0 (by decide) lk6_28 (v := .ref (ad 10)) rfl dX6_tellingDate_14 ?_
    refine k_getN C hw (LC_10 LC) (ci := 0) rfl k_in0 3 (by decide) ln6_76 (v := .ref (ad 14)) rfl dX6_tellingDate_17 ?_
    refine lv_iload_n hx hb dX6_tellingDate_20 rfl (lv_at hl 1 rfl) ?_
    obtain ⟨hi, hf⟩ := k_ckE hf
    refine k_iald C hw (LC_14 LC) hi dX6_tellingDate_21 ?_
    refine lv_topi (fun u6 ex => ?_)
    have hf := k_nmE ex hf
    refine lv_istore_n (lv' := [(3, .int u6), (0, .ref (ad 78)), (1, .int p1), (2, .int p2)]) hx hb dX6_tellingDate_22 rfl hl (by decide) rfl (fun ls hl => ?_)
    refine lv_iload_n hx hb dX6_tellingDate_23 rfl (lv_at hl 0 rfl) ?_
    refine lv_istore (lv' := [(4, .int u6), (3, .int u6), (0, .ref (ad 78)), (1, .int p1), (2, .int p2)]) hx hb dX6_tellingDate_24 hl (by decide) rfl (fun ls hl => ?_)
    refine lv_bipush (v := (11 : Int32)) hx hb dX6_tellingDate_26 (by decide) ?_
    refine lv_istore (lv' := [(5, .int (11 : Int32)), (4, .int u6), (3, .int u6), (0, .ref (ad 78)), (1, .int p1), (2, .int p2)]) hx hb dX6_tellingDate_28 hl (by decide) rfl (fun ls hl => ?_)
    refine lv_iload_n hx hb dX6_tellingDate_30 rfl (lv_at hl 2 rfl) ?_
    refine lv_istore (lv' := [(6, .int u6), (5, .int (11 : Int32)), (4, .int u6), (3, .int u6), (0, .ref (ad 78)), (1, .int p1), (2, .int p2)]) hx hb dX6_tellingDate_31 hl (by decide) rfl (fun ls hl => ?_)
    exact b33 FU p1 p2 u6 u6 (11 : Int32) u6 σ4 _ _ _ (lv_sub hl [4, 5, 6, 3, 2, 1, 0] rfl) hw hf
  · have hf := k_ifT h hf
    refine lv_iconst (v := (-1 : Int32)) hx hb dX6_tellingDate_11 (by decide) ?_
    exact k_iret C hw hf dX6_tellingDate_12
def f_X9_sortOf_b22  (y0 : Int32) (σ : MSt) : Option (Int32 × MSt) :=
  some (y0, σ)
def f_X9_sortOf_b21   (σ : MSt) : Option (Int32 × MSt) :=
  f_X9_sortOf_b22 (0 : Int32) σ
def f_X9_sortOf  (p1 : Int32) (σ : MSt) : Option (Int32 × MSt) :=
  if p1 < 0 then
  (f_X9_sortOf_b21 σ)
  else
  (if (σ.1 1 7) ≤ p1 then
  (f_X9_sortOf_b21 σ)
  else
  (k_ck (k_inb p1 700) <|
  f_X9_sortOf_b22 (σ.1 3 (p1).toNatClampNeg) σ))
def rmX9_sortOf : Room := { frames := 0, cells := 0, slots := 0, locals := 0 }
set_option maxHeartbeats 4000000 in
set_option maxRecDepth 100000 in
theorem c_X9_sortOf (l : Launch) (G : va_G) (Y : CY) (w : MSt → va_W) (ad : Nat → Nat)  (LC : LayC ad w Y) (p1 : Int32) (σ : MSt) (r : Int32) (σ' : MSt) (hf : f_X9_sortOf p1 σ = some (r, σ')) : k_Mi l yX9_sortOf wsX9_sortOf rmX9_sortOf G Y w [.ref (ad 1), .int p1] σ r σ' := by
  refine k_ofi (own := RX9) (cc := cX9_sortOf) (maxL := 2) (some .int) (by decide) rfl rfl (Nat.le_of_ble_eq_true rfl) ?_
  intro p e s m below meth c A C ls hl hw
  have hx := C.1
  have hb := C.2.1
  have hown := C.2.2.2.2.1
  have hts := C.2.2.2.2.2.1
  have hks := C.2.2.2.2.2.2.1
  have hl : lv_has ls 2 [(0, .ref (ad 1)), (1, .int p1)] := hl
  have b22 : ∀ (y0 : Int32) (σ : MSt) (H : Heap) (locs : List Loc) (ls : Array Slot), lv_has ls 2 [] → k_W G w A s.heap σ H locs → f_X9_sortOf_b22 y0 σ = some (r, σ') → W p l e rmX9_sortOf s m [.ref (ad 1), .int p1].toArray below meth c H locs 0 0 (MQ below (k_Qi G w A r σ') [.ref (ad 1), .int p1].toArray s 0 0 A) (F0 m 22 ls [.int y0]) := by
    intro y0 σ H locs ls hl hw hf
    unfold f_X9_sortOf_b22 at hf
    exact k_iret C hw hf dX9_sortOf_22
  have b21 : ∀ (σ : MSt) (H : Heap) (locs : List Loc) (ls : Array Slot), lv_has ls 2 [] → k_W G w A s.heap σ H locs → f_X9_sortOf_b21 σ = some (r, σ') → W p l e rmX9_sortOf s m [.ref (ad 1), .int p1].toArray below meth c H locs 0 0 (MQ below (k_Qi G w A r σ') [.ref (ad 1), .int p1].toArray s 0 0 A) (F0 m 21 ls []) := by
    intro σ H locs ls hl hw hf
    unfold f_X9_sortOf_b21 at hf
    refine lv_iconst (v := (0 : Int32)) hx hb dX9_sortOf_21 (by decide) ?_
    exact b22 (0 : Int32) σ _ _ _ (lv_sub hl [] rfl) hw hf
  unfold f_X9_sortOf at hf
  refine lv_iload_n hx hb dX9_sortOf_0 rfl (lv_at hl 1 rfl) ?_
  refine lv_if_lt (tgt := 21) hx hb dX9_sortOf_1 (by decide) (fun h => ?_) (fun h => ?_)
  · have hf := k_ifT h hf
    exact b21 σ _ _ _ (lv_sub hl [] rfl) hw hf
  · have hf := k_ifF h hf
    refine lv_iload_n hx hb dX9_sortOf_4 rfl (lv_at hl 1 rfl) ?_
    refine lv_aload_n hx hb dX9_sortOf_5 rfl (lv_at hl 0 rfl) ?_
    refine k_get C hw (LC_1 LC) (ci := 9) rfl k_in9 7 (by decide) lk9_52 (v := .int (σ.1 1 7)) rfl dX9_sortOf_6 ?_
    refine lv_icmp_ge (tgt := 21) hx hb dX9_sortOf_9 (by decide) (fun h => ?_) (fun h => ?_)
    · have hf := k_ifT h hf
      exact b21 σ _ _ _ (lv_sub hl [] rfl) hw hf
    · have hf := k_ifF h hf
      refine lv_aload_n hx hb dX9_sortOf_12 rfl (lv_at hl 0 rfl) ?_
      refine k_get C hw (LC_1 LC) (ci := 9) rfl k_in9 1 (by decide) lk9_15 (v := .ref (ad 3)) rfl dX9_sortOf_13 ?_
      refine lv_iload_n hx hb dX9_sortOf_16 rfl (lv_at hl 1 rfl) ?_
      obtain ⟨hi, hf⟩ := k_ckE hf
      refine k_iald C hw (LC_3 LC) hi dX9_sortOf_17 ?_
      refine lv_goto (tgt := 22) hx hb dX9_sortOf_18 (by decide) ?_
      exact b22 (σ.1 3 (p1).toNatClampNeg) σ _ _ _ (lv_sub hl [] rfl) hw hf
def f_X7_fail_b20   (σ : MSt) : Option MSt :=
  some σ
def f_X7_fail  (p1 : Int32) (σ : MSt) : Option MSt :=
  if (σ.1 7 4) = 0 then
  (k_nm (mI σ 7 4 p1) fun σ1 =>
  k_nm (mI σ1 7 5 (σ1.1 7 2)) fun σ2 =>
  f_X7_fail_b20 σ2)
  else
  (f_X7_fail_b20 σ)
def rmX7_fail : Room := { frames := 0, cells := 0, slots := 0, locals := 0 }
set_option maxHeartbeats 4000000 in
set_option maxRecDepth 100000 in
theorem c_X7_fail (l : Launch) (G : va_G) (Y : CY) (w : MSt → va_W) (ad : Nat → Nat)  (LC : LayC ad w Y) (p1 : Int32) (σ : MSt) (σ' : MSt) (hf : f_X7_fail p1 σ = some σ') : k_Mv l yX7_fail wsX7_fail rmX7_fail G Y w [.ref (ad 7), .int p1] σ σ' := by
  refine k_ofv (own := RX7) (cc := cX7_fail) (maxL := 2) none (by decide) rfl rfl (Nat.le_of_ble_eq_true rfl) ?_
  intro p e s m below meth c A C ls hl hw
  have hx := C.1
  have hb := C.2.1
  have hown := C.2.2.2.2.1
  have hts := C.2.2.2.2.2.1
  have hks := C.2.2.2.2.2.2.1
  have hl : lv_has ls 2 [(0, .ref (ad 7)), (1, .int p1)] := hl
  have b20 : ∀ (σ : MSt) (H : Heap) (locs : List Loc) (ls : Array Slot), lv_has ls 2 [] → k_W G w A s.heap σ H locs → f_X7_fail_b20 σ = some σ' → W p l e rmX7_fail s m [.ref (ad 7), .int p1].toArray below meth c H locs 0 0 (MQ below (k_Qv G w A σ') [.ref (ad 7), .int p1].toArray s 0 0 A) (F0 m 20 ls []) := by
    intro σ H locs ls hl hw hf
    unfold f_X7_fail_b20 at hf
    exact k_vret C hw hf dX7_fail_20
  unfold f_X7_fail at hf
  refine lv_aload_n hx hb dX7_fail_0 rfl (lv_at hl 0 rfl) ?_
  refine k_get C hw (LC_7 LC) (ci := 7) rfl k_in7 4 (by decide) lk7_35 (v := .int (σ.1 7 4)) rfl dX7_fail_1 ?_
  refine lv_if_ne (tgt := 20) hx hb dX7_fail_4 (by decide) (fun h => ?_) (fun h => ?_)
  · have hf := k_ifF h hf
    exact b20 σ _ _ _ (lv_sub hl [] rfl) hw hf
  · have hf := k_ifT h hf
    refine lv_aload_n hx hb dX7_fail_7 rfl (lv_at hl 0 rfl) ?_
    refine lv_iload_n hx hb dX7_fail_8 rfl (lv_at hl 1 rfl) ?_
    refine k_put C hw (LC_7 LC) (ci := 7) rfl k_in7 tyX7 tyX7_ok nmX7 4 (by decide) lk7_35 rfl ⟨rfl, rfl⟩ rfl dX7_fail_9 (fun σ1 eq H locs hw => ?_)
    have hf := k_nmE eq hf
    refine lv_aload_n hx hb dX7_fail_12 rfl (lv_at hl 0 rfl) ?_
    refine lv_aload_n hx hb dX7_fail_13 rfl (lv_at hl 0 rfl) ?_
    refine k_get C hw (LC_7 LC) (ci := 7) rfl k_in7 2 (by decide) lk7_28 (v := .int (σ1.1 7 2)) rfl dX7_fail_14 ?_
    refine k_put C hw (LC_7 LC) (ci := 7) rfl k_in7 tyX7 tyX7_ok nmX7 5 (by decide) lk7_50 rfl ⟨rfl, rfl⟩ rfl dX7_fail_17 (fun σ2 eq H locs hw => ?_)
    have hf := k_nmE eq hf
    exact b20 σ2 _ _ _ (lv_sub hl [] rfl) hw hf
def f_X7_needRoom_b10   (σ : MSt) : Option MSt :=
  some σ
def f_X7_needRoom  (p1 : Int32) (p2 : Int32) (σ : MSt) : Option MSt :=
  if p1 < p2 then
  (f_X7_needRoom_b10 σ)
  else
  (k_bv (f_X7_fail (2 : Int32) σ) fun σ1 =>
  f_X7_needRoom_b10 σ1)
def rmX7_needRoom : Room := { frames := 1, cells := 0, slots := 0, locals := 21 }
set_option maxHeartbeats 4000000 in
set_option maxRecDepth 100000 in
theorem c_X7_needRoom (l : Launch) (G : va_G) (Y : CY) (w : MSt → va_W) (ad : Nat → Nat)  (LC : LayC ad w Y) (p1 : Int32) (p2 : Int32) (σ : MSt) (σ' : MSt) (hf : f_X7_needRoom p1 p2 σ = some σ') : k_Mv l yX7_needRoom wsX7_needRoom rmX7_needRoom G Y w [.ref (ad 7), .int p1, .int p2] σ σ' := by
  refine k_ofv (own := RX7) (cc := cX7_needRoom) (maxL := 3) none (by decide) rfl rfl (Nat.le_of_ble_eq_true rfl) ?_
  intro p e s m below meth c A C ls hl hw
  have hx := C.1
  have hb := C.2.1
  have hown := C.2.2.2.2.1
  have hts := C.2.2.2.2.2.1
  have hks := C.2.2.2.2.2.2.1
  have hl : lv_has ls 3 [(0, .ref (ad 7)), (1, .int p1), (2, .int p2)] := hl
  have b10 : ∀ (σ : MSt) (H : Heap) (locs : List Loc) (ls : Array Slot), lv_has ls 3 [] → k_W G w A s.heap σ H locs → f_X7_needRoom_b10 σ = some σ' → W p l e rmX7_needRoom s m [.ref (ad 7), .int p1, .int p2].toArray below meth c H locs 0 0 (MQ below (k_Qv G w A σ') [.ref (ad 7), .int p1, .int p2].toArray s 0 0 A) (F0 m 10 ls []) := by
    intro σ H locs ls hl hw hf
    unfold f_X7_needRoom_b10 at hf
    exact k_vret C hw hf dX7_needRoom_10
  unfold f_X7_needRoom at hf
  refine lv_iload_n hx hb dX7_needRoom_0 rfl (lv_at hl 1 rfl) ?_
  refine lv_iload_n hx hb dX7_needRoom_1 rfl (lv_at hl 2 rfl) ?_
  refine lv_icmp_lt (tgt := 10) hx hb dX7_needRoom_2 (by decide) (fun h => ?_) (fun h => ?_)
  · have hf := k_ifT h hf
    exact b10 σ _ _ _ (lv_sub hl [] rfl) hw hf
  · have hf := k_ifF h hf
    refine lv_aload_n hx hb dX7_needRoom_5 rfl (lv_at hl 0 rfl) ?_
    refine lv_iconst (v := (2 : Int32)) hx hb dX7_needRoom_6 (by decide) ?_
    obtain ⟨σ1, hq, hf⟩ := k_bvE hf
    refine k_callVv C hw (c_X7_fail l G Y w ad LC (2 : Int32) σ σ1 hq) (cwV 1 hts gX7_needRoom_X7_fail rfl rfl rfl (by decide +kernel) ⟨Nat.le_of_ble_eq_true rfl, Nat.le_of_ble_eq_true rfl⟩) (k_recv C hw (LC_7 LC) rfl) rfl hl.1 rfl (Nat.le_of_ble_eq_true rfl) dX7_needRoom_7 (fun H locs hw => ?_)
    exact b10 σ1 _ _ _ (lv_sub hl [] rfl) hw hf
def f_X9_valueOf_b22  (y0 : Int32) (σ : MSt) : Option (Int32 × MSt) :=
  some (y0, σ)
def f_X9_valueOf_b21   (σ : MSt) : Option (Int32 × MSt) :=
  f_X9_valueOf_b22 (0 : Int32) σ
def f_X9_valueOf  (p1 : Int32) (σ : MSt) : Option (Int32 × MSt) :=
  if p1 < 0 then
  (f_X9_valueOf_b21 σ)
  else
  (if (σ.1 1 7) ≤ p1 then
  (f_X9_valueOf_b21 σ)
  else
  (k_ck (k_inb p1 700) <|
  f_X9_valueOf_b22 (σ.1 4 (p1).toNatClampNeg) σ))
def rmX9_valueOf : Room := { frames := 0, cells := 0, slots := 0, locals := 0 }
set_option maxHeartbeats 4000000 in
set_option maxRecDepth 100000 in
theorem c_X9_valueOf (l : Launch) (G : va_G) (Y : CY) (w : MSt → va_W) (ad : Nat → Nat)  (LC : LayC ad w Y) (p1 : Int32) (σ : MSt) (r : Int32) (σ' : MSt) (hf : f_X9_valueOf p1 σ = some (r, σ')) : k_Mi l yX9_valueOf wsX9_valueOf rmX9_valueOf G Y w [.ref (ad 1), .int p1] σ r σ' := by
  refine k_ofi (own := RX9) (cc := cX9_valueOf) (maxL := 2) (some .int) (by decide) rfl rfl (Nat.le_of_ble_eq_true rfl) ?_
  intro p e s m below meth c A C ls hl hw
  have hx := C.1
  have hb := C.2.1
  have hown := C.2.2.2.2.1
  have hts := C.2.2.2.2.2.1
  have hks := C.2.2.2.2.2.2.1
  have hl : lv_has ls 2 [(0, .ref (ad 1)), (1, .int p1)] := hl
  have b22 : ∀ (y0 : Int32) (σ : MSt) (H : Heap) (locs : List Loc) (ls : Array Slot), lv_has ls 2 [] → k_W G w A s.heap σ H locs → f_X9_valueOf_b22 y0 σ = some (r, σ') → W p l e rmX9_valueOf s m [.ref (ad 1), .int p1].toArray below meth c H locs 0 0 (MQ below (k_Qi G w A r σ') [.ref (ad 1), .int p1].toArray s 0 0 A) (F0 m 22 ls [.int y0]) := by
    intro y0 σ H locs ls hl hw hf
    unfold f_X9_valueOf_b22 at hf
    exact k_iret C hw hf dX9_valueOf_22
  have b21 : ∀ (σ : MSt) (H : Heap) (locs : List Loc) (ls : Array Slot), lv_has ls 2 [] → k_W G w A s.heap σ H locs → f_X9_valueOf_b21 σ = some (r, σ') → W p l e rmX9_valueOf s m [.ref (ad 1), .int p1].toArray below meth c H locs 0 0 (MQ below (k_Qi G w A r σ') [.ref (ad 1), .int p1].toArray s 0 0 A) (F0 m 21 ls []) := by
    intro σ H locs ls hl hw hf
    unfold f_X9_valueOf_b21 at hf
    refine lv_iconst (v := (0 : Int32)) hx hb dX9_valueOf_21 (by decide) ?_
    exact b22 (0 : Int32) σ _ _ _ (lv_sub hl [] rfl) hw hf
  unfold f_X9_valueOf at hf
  refine lv_iload_n hx hb dX9_valueOf_0 rfl (lv_at hl 1 rfl) ?_
  refine lv_if_lt (tgt := 21) hx hb dX9_valueOf_1 (by decide) (fun h => ?_) (fun h => ?_)
  · have hf := k_ifT h hf
    exact b21 σ _ _ _ (lv_sub hl [] rfl) hw hf
  · have hf := k_ifF h hf
    refine lv_iload_n hx hb dX9_valueOf_4 rfl (lv_at hl 1 rfl) ?_
    refine lv_aload_n hx hb dX9_valueOf_5 rfl (lv_at hl 0 rfl) ?_
    refine k_get C hw (LC_1 LC) (ci := 9) rfl k_in9 7 (by decide) lk9_52 (v := .int (σ.1 1 7)) rfl dX9_valueOf_6 ?_
    refine lv_icmp_ge (tgt := 21) hx hb dX9_valueOf_9 (by decide) (fun h => ?_) (fun h => ?_)
    · have hf := k_ifT h hf
      exact b21 σ _ _ _ (lv_sub hl [] rfl) hw hf
    · have hf := k_ifF h hf
      refine lv_aload_n hx hb dX9_valueOf_12 rfl (lv_at hl 0 rfl) ?_
      refine k_get C hw (LC_1 LC) (ci := 9) rfl k_in9 2 (by decide) lk9_19 (v := .ref (ad 4)) rfl dX9_valueOf_13 ?_
      refine lv_iload_n hx hb dX9_valueOf_16 rfl (lv_at hl 1 rfl) ?_
      obtain ⟨hi, hf⟩ := k_ckE hf
      refine k_iald C hw (LC_4 LC) hi dX9_valueOf_17 ?_
      refine lv_goto (tgt := 22) hx hb dX9_valueOf_18 (by decide) ?_
      exact b22 (σ.1 4 (p1).toNatClampNeg) σ _ _ _ (lv_sub hl [] rfl) hw hf
def f_X7_readBay_b98   (σ : MSt) : Option MSt :=
  k_nm (mI σ 7 2 ((σ.1 7 2) + (1 : Int32))) fun σ1 =>
  some σ1
def f_X7_readBay_b73   (σ : MSt) : Option MSt :=
  if (σ.1 7 4) = 0 then
  (k_ck (k_ch (σ.1 7 1)) <|
  k_nm (σ.1 7 1).toNatClampNeg fun o1081 =>
  k_bd (f_X9_valueOf (σ.1 7 2) σ) fun q2 σ1 =>
  k_bv (f_X0_addBay o1081 q2 σ1) fun σ3 =>
  f_X7_readBay_b98 σ3)
  else
  (f_X7_readBay_b98 σ)
def f_X7_readBay   (σ : MSt) : Option MSt :=
  k_ck (k_ch (σ.1 7 1)) <|
  k_nm (σ.1 7 1).toNatClampNeg fun o1002 =>
  k_bv (f_X7_needRoom (σ.1 o1002 7) (8 : Int32) σ) fun σ4 =>
  k_nm (mI σ4 7 2 ((σ4.1 7 2) + (1 : Int32))) fun σ5 =>
  k_bd (f_X9_sortOf (σ5.1 7 2) σ5) fun q7 σ6 =>
  if q7 = (2 : Int32) then
  (k_ck (k_ch (σ6.1 7 1)) <|
  k_nm (σ6.1 7 1).toNatClampNeg fun o1047 =>
  k_bd (f_X9_valueOf (σ6.1 7 2) σ6) fun q9 σ8 =>
  k_bd (f_X0_find o1047 q9 σ8) fun q11 σ10 =>
  if q11 = (-1 : Int32) then
  (f_X7_readBay_b73 σ10)
  else
  (k_bv (f_X7_fail (3 : Int32) σ10) fun σ12 =>
  f_X7_readBay_b73 σ12))
  else
  (k_bv (f_X7_fail (1 : Int32) σ6) fun σ13 =>
  f_X7_readBay_b73 σ13)
def rmX7_readBay : Room := { frames := 2, cells := 0, slots := 0, locals := 43 }
set_option maxHeartbeats 4000000 in
set_option maxRecDepth 100000 in
theorem c_X7_readBay (l : Launch) (G : va_G) (Y : CY) (w : MSt → va_W) (ad : Nat → Nat)  (LC : LayC ad w Y)  (σ : MSt) (σ' : MSt) (hf : f_X7_readBay σ = some σ') : k_Mv l yX7_readBay wsX7_readBay rmX7_readBay G Y w [.ref (ad 7)] σ σ' := by
  refine k_ofv (own := RX7) (cc := cX7_readBay) (maxL := 1) none (by decide) rfl rfl (Nat.le_of_ble_eq_true rfl) ?_
  intro p e s m below meth c A C ls hl hw
  have hx := C.1
  have hb := C.2.1
  have hown := C.2.2.2.2.1
  have hts := C.2.2.2.2.2.1
  have hks := C.2.2.2.2.2.2.1
  have hl : lv_has ls 1 [(0, .ref (ad 7))] := hl
  have b98 : ∀ (σ : MSt) (H : Heap) (locs : List Loc) (ls : Array Slot), lv_has ls 1 [(0, .ref (ad 7))] → k_W G w A s.heap σ H locs → f_X7_readBay_b98 σ = some σ' → W p l e rmX7_readBay s m [.ref (ad 7)].toArray below meth c H locs 0 0 (MQ below (k_Qv G w A σ') [.ref (ad 7)].toArray s 0 0 A) (F0 m 98 ls []) := by
    intro σ H locs ls hl hw hf
    unfold f_X7_readBay_b98 at hf
    refine lv_aload_n hx hb dX7_readBay_98 rfl (lv_at hl 0 rfl) ?_
    refine lv_dup hx hb dX7_readBay_99 rfl ?_
    refine k_get C hw (LC_7 LC) (ci := 7) rfl k_in7 2 (by decide) lk7_28 (v := .int (σ.1 7 2)) rfl dX7_readBay_100 ?_
    refine lv_iconst (v := (1 : Int32)) hx hb dX7_readBay_103 (by decide) ?_
    refine lv_iadd hx hb dX7_readBay_104 ?_
    refine k_put C hw (LC_7 LC) (ci := 7) rfl k_in7 tyX7 tyX7_ok nmX7 2 (by decide) lk7_28 rfl ⟨rfl, rfl⟩ rfl dX7_readBay_105 (fun σ1 eq H locs hw => ?_)
    have hf := k_nmE eq hf
    exact k_vret C hw hf dX7_readBay_108
  have b73 : ∀ (σ : MSt) (H : Heap) (locs : List Loc) (ls : Array Slot), lv_has ls 1 [(0, .ref (ad 7))] → k_W G w A s.heap σ H locs → f_X7_readBay_b73 σ = some σ' → W p l e rmX7_readBay s m [.ref (ad 7)].toArray below meth c H locs 0 0 (MQ below (k_Qv G w A σ') [.ref (ad 7)].toArray s 0 0 A) (F0 m 73 ls []) := by
    intro σ H locs ls hl hw hf
    unfold f_X7_readBay_b73 at hf
    refine lv_aload_n hx hb dX7_readBay_73 rfl (lv_at hl 0 rfl) ?_
    refine k_get C hw (LC_7 LC) (ci := 7) rfl k_in7 4 (by decide) lk7_35 (v := .int (σ.1 7 4)) rfl dX7_readBay_74 ?_
    refine lv_if_ne (tgt := 98) hx hb dX7_readBay_77 (by decide) (fun h => ?_) (fun h => ?_)
    · have hf := k_ifF h hf
      exact b98 σ _ _ _ (lv_sub hl [0] rfl) hw hf
    · have hf := k_ifT h hf
      refine lv_aload_n hx hb dX7_readBay_80 rfl (lv_at hl 0 rfl) ?_
      obtain ⟨hc, hf⟩ := k_ckE hf
      obtain ⟨o1081, eo⟩ : ∃ y : Nat, y = (σ.1 7 1).toNatClampNeg := ⟨_, rfl⟩
      have hf := k_nmE eo hf
      have Lo1081 := k_chL LC hc eo
      refine k_get C hw (LC_7 LC) (ci := 7) rfl k_in7 1 (by decide) lk7_19 (v := .ref (ad o1081)) (congrArg some (k_chR hc eo)) dX7_readBay_81 ?_
      refine lv_aload_n hx hb dX7_readBay_84 rfl (lv_at hl 0 rfl) ?_
      refine k_get C hw (LC_7 LC) (ci := 7) rfl k_in7 0 (by decide) lk7_15 (v := .ref (ad 1)) rfl dX7_readBay_85 ?_
      refine lv_aload_n hx hb dX7_readBay_88 rfl (lv_at hl 0 rfl) ?_
      refine k_get C hw (LC_7 LC) (ci := 7) rfl k_in7 2 (by decide) lk7_28 (v := .int (σ.1 7 2)) rfl dX7_readBay_89 ?_
      obtain ⟨q2, σ1, hq, hf⟩ := k_bdE hf
      refine k_callVi C hw (c_X9_valueOf l G Y w ad LC (σ.1 7 2) σ q2 σ1 hq) (cwV 1 hts gX7_readBay_X9_valueOf rfl rfl rfl (by decide +kernel) ⟨Nat.le_of_ble_eq_true rfl, Nat.le_of_ble_eq_true rfl⟩) (k_recv C hw (LC_1 LC) rfl) rfl hl.1 rfl (Nat.le_of_ble_eq_true rfl) dX7_readBay_92 (fun H locs hw => ?_)
      obtain ⟨σ3, hq, hf⟩ := k_bvE hf
      refine k_callVv C hw (c_X0_addBay l G Y w ad o1081 Lo1081 q2 σ1 σ3 hq) (cwV 1 hts gX7_readBay_X0_addBay rfl rfl rfl (by decide +kernel) ⟨Nat.le_of_ble_eq_true rfl, Nat.le_of_ble_eq_true rfl⟩) (k_recv C hw (LX0_o Lo1081) rfl) rfl hl.1 rfl (Nat.le_of_ble_eq_true rfl) dX7_readBay_95 (fun H locs hw => ?_)
      exact b98 σ3 _ _ _ (lv_sub hl [0] rfl) hw hf
  unfold f_X7_readBay at hf
  refine lv_aload_n hx hb dX7_readBay_0 rfl (lv_at hl 0 rfl) ?_
  refine lv_aload_n hx hb dX7_readBay_1 rfl (lv_at hl 0 rfl) ?_
  obtain ⟨hc, hf⟩ := k_ckE hf
  obtain ⟨o1002, eo⟩ : ∃ y : Nat, y = (σ.1 7 1).toNatClampNeg := ⟨_, rfl⟩
  have hf := k_nmE eo hf
  have Lo1002 := k_chL LC hc eo
  refine k_get C hw (LC_7 LC) (ci := 7) rfl k_in7 1 (by decide) lk7_19 (v := .ref (ad o1002)) (congrArg some (k_chR hc eo)) dX7_readBay_2 ?_
  refine k_getN C hw (LX0_o Lo1002) (ci := 0) rfl k_in0 7 (by decide) ln7_81 (v := .int (σ.1 o1002 7)) rfl dX7_readBay_5 ?_
  refine lv_bipush (v := (8 : Int32)) hx hb dX7_readBay_8 (by decide) ?_
  obtain ⟨σ4, hq, hf⟩ := k_bvE hf
  refine k_callVv C hw (c_X7_needRoom l G Y w ad LC (σ.1 o1002 7) (8 : Int32) σ σ4 hq) (cwV 2 hts gX7_readBay_X7_needRoom rfl rfl rfl (by decide +kernel) ⟨Nat.le_of_ble_eq_true rfl, Nat.le_of_ble_eq_true rfl⟩) (k_recv C hw (LC_7 LC) rfl) rfl hl.1 rfl (Nat.le_of_ble_eq_true rfl) dX7_readBay_10 (fun H locs hw => ?_)
  refine lv_aload_n hx hb dX7_readBay_13 rfl (lv_at hl 0 rfl) ?_
  refine lv_dup hx hb dX7_readBay_14 rfl ?_
  refine k_get C hw (LC_7 LC) (ci := 7) rfl k_in7 2 (by decide) lk7_28 (v := .int (σ4.1 7 2)) rfl dX7_readBay_15 ?_
  refine lv_iconst (v := (1 : Int32)) hx hb dX7_readBay_18 (by decide) ?_
  refine lv_iadd hx hb dX7_readBay_19 ?_
  refine k_put C hw (LC_7 LC) (ci := 7) rfl k_in7 tyX7 tyX7_ok nmX7 2 (by decide) lk7_28 rfl ⟨rfl, rfl⟩ rfl dX7_readBay_20 (fun σ5 eq H locs hw => ?_)
  have hf := k_nmE eq hf
  refine lv_aload_n hx hb dX7_readBay_23 rfl (lv_at hl 0 rfl) ?_
  refine k_get C hw (LC_7 LC) (ci := 7) rfl k_in7 0 (by decide) lk7_15 (v := .ref (ad 1)) rfl dX7_readBay_24 ?_
  refine lv_aload_n hx hb dX7_readBay_27 rfl (lv_at hl 0 rfl) ?_
  refine k_get C hw (LC_7 LC) (ci := 7) rfl k_in7 2 (by decide) lk7_28 (v := .int (σ5.1 7 2)) rfl dX7_readBay_28 ?_
  obtain ⟨q7, σ6, hq, hf⟩ := k_bdE hf
  refine k_callVi C hw (c_X9_sortOf l G Y w ad LC (σ5.1 7 2) σ5 q7 σ6 hq) (cwV 1 hts gX7_readBay_X9_sortOf rfl rfl rfl (by decide +kernel) ⟨Nat.le_of_ble_eq_true rfl, Nat.le_of_ble_eq_true rfl⟩) (k_recv C hw (LC_1 LC) rfl) rfl hl.1 rfl (Nat.le_of_ble_eq_true rfl) dX7_readBay_31 (fun H locs hw => ?_)
  refine lv_iconst (v := (2 : Int32)) hx hb dX7_readBay_34 (by decide) ?_
  refine lv_icmp_eq (tgt := 46) hx hb dX7_readBay_35 (by decide) (fun h => ?_) (fun h => ?_)
  · have hf := k_ifT h hf
    refine lv_aload_n hx hb dX7_readBay_46 rfl (lv_at hl 0 rfl) ?_
    obtain ⟨hc, hf⟩ := k_ckE hf
    obtain ⟨o1047, eo⟩ : ∃ y : Nat, y = (σ6.1 7 1).toNatClampNeg := ⟨_, rfl⟩
    have hf := k_nmE eo hf
    have Lo1047 := k_chL LC hc eo
    refine k_get C hw (LC_7 LC) (ci := 7) rfl k_in7 1 (by decide) lk7_19 (v := .ref (ad o1047)) (congrArg some (k_chR hc eo)) dX7_readBay_47 ?_
    refine lv_aload_n hx hb dX7_readBay_50 rfl (lv_at hl 0 rfl) ?_
    refine k_get C hw (LC_7 LC) (ci := 7) rfl k_in7 0 (by decide) lk7_15 (v := .ref (ad 1)) rfl dX7_readBay_51 ?_
    refine lv_aload_n hx hb dX7_readBay_54 rfl (lv_at hl 0 rfl) ?_
    refine k_get C hw (LC_7 LC) (ci := 7) rfl k_in7 2 (by decide) lk7_28 (v := .int (σ6.1 7 2)) rfl dX7_readBay_55 ?_
    obtain ⟨q9, σ8, hq, hf⟩ := k_bdE hf
    refine k_callVi C hw (c_X9_valueOf l G Y w ad LC (σ6.1 7 2) σ6 q9 σ8 hq) (cwV 1 hts gX7_readBay_X9_valueOf rfl rfl rfl (by decide +kernel) ⟨Nat.le_of_ble_eq_true rfl, Nat.le_of_ble_eq_true rfl⟩) (k_recv C hw (LC_1 LC) rfl) rfl hl.1 rfl (Nat.le_of_ble_eq_true rfl) dX7_readBay_58 (fun H locs hw => ?_)
    obtain ⟨q11, σ10, hq, hf⟩ := k_bdE hf
    refine k_callVi C hw (c_X0_find l G Y w ad o1047 Lo1047 q9 σ8 q11 σ10 hq) (cwV 1 hts gX7_readBay_X0_find rfl rfl rfl (by decide +kernel) ⟨Nat.le_of_ble_eq_true rfl, Nat.le_of_ble_eq_true rfl⟩) (k_recv C hw (LX0_o Lo1047) rfl) rfl hl.1 rfl (Nat.le_of_ble_eq_true rfl) dX7_readBay_61 (fun H locs hw => ?_)
    refine lv_iconst (v := (-1 : Int32)) hx hb dX7_readBay_64 (by decide) ?_
    refine lv_icmp_eq (tgt := 73) hx hb dX7_readBay_65 (by decide) (fun h => ?_) (fun h => ?_)
    · have hf := k_ifT h hf
      exact b73 σ10 _ _ _ (lv_sub hl [0] rfl) hw hf
    · have hf := k_ifF h hf
      refine lv_aload_n hx hb dX7_readBay_68 rfl (lv_at hl 0 rfl) ?_
      refine lv_iconst (v := (3 : Int32)) hx hb dX7_readBay_69 (by decide) ?_
      obtain ⟨σ12, hq, hf⟩ := k_bvE hf
      refine k_callVv C hw (c_X7_fail l G Y w ad LC (3 : Int32) σ10 σ12 hq) (cwV 1 hts gX7_readBay_X7_fail rfl rfl rfl (by decide +kernel) ⟨Nat.le_of_ble_eq_true rfl, Nat.le_of_ble_eq_true rfl⟩) (k_recv C hw (LC_7 LC) rfl) rfl hl.1 rfl (Nat.le_of_ble_eq_true rfl) dX7_readBay_70 (fun H locs hw => ?_)
      exact b73 σ12 _ _ _ (lv_sub hl [0] rfl) hw hf
  · have hf := k_ifF h hf
    refine lv_aload_n hx hb dX7_readBay_38 rfl (lv_at hl 0 rfl) ?_
    refine lv_iconst (v := (1 : Int32)) hx hb dX7_readBay_39 (by decide) ?_
    obtain ⟨σ13, hq, hf⟩ := k_bvE hf
    refine k_callVv C hw (c_X7_fail l G Y w ad LC (1 : Int32) σ6 σ13 hq) (cwV 1 hts gX7_readBay_X7_fail rfl rfl rfl (by decide +kernel) ⟨Nat.le_of_ble_eq_true rfl, Nat.le_of_ble_eq_true rfl⟩) (k_recv C hw (LC_7 LC) rfl) rfl hl.1 rfl (Nat.le_of_ble_eq_true rfl) dX7_readBay_40 (fun H locs hw => ?_)
    refine lv_goto (tgt := 73) hx hb dX7_readBay_43 (by decide) ?_
    exact b73 σ13 _ _ _ (lv_sub hl [0] rfl) hw hf
def f_X7_toldBay_b51  (x1 : Int32) (σ : MSt) : Option (Int32 × MSt) :=
  some (x1, σ)
def f_X7_toldBay   (σ : MSt) : Option (Int32 × MSt) :=
  k_bd (f_X9_sortOf (σ.1 7 2) σ) fun q2 σ1 =>
  if q2 = (2 : Int32) then
  (k_ck (k_ch (σ1.1 7 1)) <|
  k_nm (σ1.1 7 1).toNatClampNeg fun o1023 =>
  k_bd (f_X9_valueOf (σ1.1 7 2) σ1) fun q4 σ3 =>
  k_bd (f_X0_find o1023 q4 σ3) fun q6 σ5 =>
  if q6 = (-1 : Int32) then
  (k_bv (f_X7_fail (4 : Int32) σ5) fun σ7 =>
  f_X7_toldBay_b51 q6 σ7)
  else
  (f_X7_toldBay_b51 q6 σ5))
  else
  (k_bv (f_X7_fail (1 : Int32) σ1) fun σ8 =>
  some ((-1 : Int32), σ8))
def rmX7_toldBay : Room := { frames := 1, cells := 0, slots := 0, locals := 22 }
set_option maxHeartbeats 4000000 in
set_option maxRecDepth 100000 in
theorem c_X7_toldBay (l : Launch) (G : va_G) (Y : CY) (w : MSt → va_W) (ad : Nat → Nat)  (LC : LayC ad w Y)  (σ : MSt) (r : Int32) (σ' : MSt) (hf : f_X7_toldBay σ = some (r, σ')) : k_Mi l yX7_toldBay wsX7_toldBay rmX7_toldBay G Y w [.ref (ad 7)] σ r σ' := by
  refine k_ofi (own := RX7) (cc := cX7_toldBay) (maxL := 2) (some .int) (by decide) rfl rfl (Nat.le_of_ble_eq_true rfl) ?_
  intro p e s m below meth c A C ls hl hw
  have hx := C.1
  have hb := C.2.1
  have hown := C.2.2.2.2.1
  have hts := C.2.2.2.2.2.1
  have hks := C.2.2.2.2.2.2.1
  have hl : lv_has ls 2 [(0, .ref (ad 7))] := hl
  have b51 : ∀ (x1 : Int32) (σ : MSt) (H : Heap) (locs : List Loc) (ls : Array Slot), lv_has ls 2 [(1, .int x1)] → k_W G w A s.heap σ H locs → f_X7_toldBay_b51 x1 σ = some (r, σ') → W p l e rmX7_toldBay s m [.ref (ad 7)].toArray below meth c H locs 0 0 (MQ below (k_Qi G w A r σ') [.ref (ad 7)].toArray s 0 0 A) (F0 m 51 ls []) := by
    intro x1 σ H locs ls hl hw hf
    unfold f_X7_toldBay_b51 at hf
    refine lv_iload_n hx hb dX7_toldBay_51 rfl (lv_at hl 0 rfl) ?_
    exact k_iret C hw hf dX7_toldBay_52
  unfold f_X7_toldBay at hf
  refine lv_aload_n hx hb dX7_toldBay_0 rfl (lv_at hl 0 rfl) ?_
  refine k_get C hw (LC_7 LC) (ci := 7) rfl k_in7 0 (by decide) lk7_15 (v := .ref (ad 1)) rfl dX7_toldBay_1 ?_
  refine lv_aload_n hx hb dX7_toldBay_4 rfl (lv_at hl 0 rfl) ?_
  refine k_get C hw (LC_7 LC) (ci := 7) rfl k_in7 2 (by decide) lk7_28 (v := .int (σ.1 7 2)) rfl dX7_toldBay_5 ?_
  obtain ⟨q2, σ1, hq, hf⟩ := k_bdE hf
  refine k_callVi C hw (c_X9_sortOf l G Y w ad LC (σ.1 7 2) σ q2 σ1 hq) (cwV 1 hts gX7_toldBay_X9_sortOf rfl rfl rfl (by decide +kernel) ⟨Nat.le_of_ble_eq_true rfl, Nat.le_of_ble_eq_true rfl⟩) (k_recv C hw (LC_1 LC) rfl) rfl hl.1 rfl (Nat.le_of_ble_eq_true rfl) dX7_toldBay_8 (fun H locs hw => ?_)
  refine lv_iconst (v := (2 : Int32)) hx hb dX7_toldBay_11 (by decide) ?_
  refine lv_icmp_eq (tgt := 22) hx hb dX7_toldBay_12 (by decide) (fun h => ?_) (fun h => ?_)
  · have hf := k_ifT h hf
    refine lv_aload_n hx hb dX7_toldBay_22 rfl (lv_at hl 0 rfl) ?_
    obtain ⟨hc, hf⟩ := k_ckE hf
    obtain ⟨o1023, eo⟩ : ∃ y : Nat, y = (σ1.1 7 1).toNatClampNeg := ⟨_, rfl⟩
    have hf := k_nmE eo hf
    have Lo1023 := k_chL LC hc eo
    refine k_get C hw (LC_7 LC) (ci := 7) rfl k_in7 1 (by decide) lk7_19 (v := .ref (ad o1023)) (congrArg some (k_chR hc eo)) dX7_toldBay_23 ?_
    refine lv_aload_n hx hb dX7_toldBay_26 rfl (lv_at hl 0 rfl) ?_
    refine k_get C hw (LC_7 LC) (ci := 7) rfl k_in7 0 (by decide) lk7_15 (v := .ref (ad 1)) rfl dX7_toldBay_27 ?_
    refine lv_aload_n hx hb dX7_toldBay_30 rfl (lv_at hl 0 rfl) ?_
    refine k_get C hw (LC_7 LC) (ci := 7) rfl k_in7 2 (by decide) lk7_28 (v := .int (σ1.1 7 2)) rfl dX7_toldBay_31 ?_
    obtain ⟨q4, σ3, hq, hf⟩ := k_bdE hf
    refine k_callVi C hw (c_X9_valueOf l G Y w ad LC (σ1.1 7 2) σ1 q4 σ3 hq) (cwV 1 hts gX7_toldBay_X9_valueOf rfl rfl rfl (by decide +kernel) ⟨Nat.le_of_ble_eq_true rfl, Nat.le_of_ble_eq_true rfl⟩) (k_recv C hw (LC_1 LC) rfl) rfl hl.1 rfl (Nat.le_of_ble_eq_true rfl) dX7_toldBay_34 (fun H locs hw => ?_)
    obtain ⟨q6, σ5, hq, hf⟩ := k_bdE hf
    refine k_callVi C hw (c_X0_find l G Y w ad o1023 Lo1023 q4 σ3 q6 σ5 hq) (cwV 1 hts gX7_toldBay_X0_find rfl rfl rfl (by decide +kernel) ⟨Nat.le_of_ble_eq_true rfl, Nat.le_of_ble_eq_true rfl⟩) (k_recv C hw (LX0_o Lo1023) rfl) rfl hl.1 rfl (Nat.le_of_ble_eq_true rfl) dX7_toldBay_37 (fun H locs hw => ?_)
    refine lv_istore_n (lv' := [(1, .int q6), (0, .ref (ad 7))]) hx hb dX7_toldBay_40 rfl hl (by decide) rfl (fun ls hl => ?_)
    refine lv_iload_n hx hb dX7_toldBay_41 rfl (lv_at hl 0 rfl) ?_
    refine lv_iconst (v := (-1 : Int32)) hx hb dX7_toldBay_42 (by decide) ?_
    refine lv_icmp_ne (tgt := 51) hx hb dX7_toldBay_43 (by decide) (fun h => ?_) (fun h => ?_)
    · have hf := k_ifF h hf
      exact b51 q6 σ5 _ _ _ (lv_sub hl [0] rfl) hw hf
    · have hf := k_ifT h hf
      refine lv_aload_n hx hb dX7_toldBay_46 rfl (lv_at hl 1 rfl) ?_
      refine lv_iconst (v := (4 : Int32)) hx hb dX7_toldBay_47 (by decide) ?_
      obtain ⟨σ7, hq, hf⟩ := k_bvE hf
      refine k_callVv C hw (c_X7_fail l G Y w ad LC (4 : Int32) σ5 σ7 hq) (cwV 1 hts gX7_toldBay_X7_fail rfl rfl rfl (by decide +kernel) ⟨Nat.le_of_ble_eq_true rfl, Nat.le_of_ble_eq_true rfl⟩) (k_recv C hw (LC_7 LC) rfl) rfl hl.1 rfl (Nat.le_of_ble_eq_true rfl) dX7_toldBay_48 (fun H locs hw => ?_)
      exact b51 q6 σ7 _ _ _ (lv_sub hl [0] rfl) hw hf
  · have hf := k_ifF h hf
    refine lv_aload_n hx hb dX7_toldBay_15 rfl (lv_at hl 0 rfl) ?_
    refine lv_iconst (v := (1 : Int32)) hx hb dX7_toldBay_16 (by decide) ?_
    obtain ⟨σ8, hq, hf⟩ := k_bvE hf
    refine k_callVv C hw (c_X7_fail l G Y w ad LC (1 : Int32) σ1 σ8 hq) (cwV 1 hts gX7_toldBay_X7_fail rfl rfl rfl (by decide +kernel) ⟨Nat.le_of_ble_eq_true rfl, Nat.le_of_ble_eq_true rfl⟩) (k_recv C hw (LC_7 LC) rfl) rfl hl.1 rfl (Nat.le_of_ble_eq_true rfl) dX7_toldBay_17 (fun H locs hw => ?_)
    refine lv_iconst (v := (-1 : Int32)) hx hb dX7_toldBay_20 (by decide) ?_
    exact k_iret C hw hf dX7_toldBay_21
def f_X7_takeNumber_b50  (x3 : Int32) (σ : MSt) : Option (Int32 × MSt) :=
  k_nm (mI σ 7 2 ((σ.1 7 2) + (1 : Int32))) fun σ1 =>
  some (x3, σ1)
def f_X7_takeNumber_b45  (x3 : Int32) (σ : MSt) : Option (Int32 × MSt) :=
  k_bv (f_X7_fail (2 : Int32) σ) fun σ1 =>
  f_X7_takeNumber_b50 x3 σ1
def f_X7_takeNumber  (p1 : Int32) (p2 : Int32) (σ : MSt) : Option (Int32 × MSt) :=
  k_bd (f_X9_valueOf (σ.1 7 2) σ) fun q3 σ2 =>
  k_bd (f_X9_sortOf (σ2.1 7 2) σ2) fun q5 σ4 =>
  if q5 = (3 : Int32) then
  (if q3 < p1 then
  (f_X7_takeNumber_b45 q3 σ4)
  else
  (if q3 ≤ p2 then
  (f_X7_takeNumber_b50 q3 σ4)
  else
  (f_X7_takeNumber_b45 q3 σ4)))
  else
  (k_bv (f_X7_fail (1 : Int32) σ4) fun σ6 =>
  f_X7_takeNumber_b50 q3 σ6)
def rmX7_takeNumber : Room := { frames := 1, cells := 0, slots := 0, locals := 21 }
set_option maxHeartbeats 4000000 in
set_option maxRecDepth 100000 in
theorem c_X7_takeNumber (l : Launch) (G : va_G) (Y : CY) (w : MSt → va_W) (ad : Nat → Nat)  (LC : LayC ad w Y) (p1 : Int32) (p2 : Int32) (σ : MSt) (r : Int32) (σ' : MSt) (hf : f_X7_takeNumber p1 p2 σ = some (r, σ')) : k_Mi l yX7_takeNumber wsX7_takeNumber rmX7_takeNumber G Y w [.ref (ad 7), .int p1, .int p2] σ r σ' := by
  refine k_ofi (own := RX7) (cc := cX7_takeNumber) (maxL := 4) (some .int) (by decide) rfl rfl (Nat.le_of_ble_eq_true rfl) ?_
  intro p e s m below meth c A C ls hl hw
  have hx := C.1
  have hb := C.2.1
  have hown := C.2.2.2.2.1
  have hts := C.2.2.2.2.2.1
  have hks := C.2.2.2.2.2.2.1
  have hl : lv_has ls 4 [(0, .ref (ad 7)), (1, .int p1), (2, .int p2)] := hl
  have b50 : ∀ (x3 : Int32) (σ : MSt) (H : Heap) (locs : List Loc) (ls : Array Slot), lv_has ls 4 [(0, .ref (ad 7)), (3, .int x3)] → k_W G w A s.heap σ H locs → f_X7_takeNumber_b50 x3 σ = some (r, σ') → W p l e rmX7_takeNumber s m [.ref (ad 7), .int p1, .int p2].toArray below meth c H locs 0 0 (MQ below (k_Qi G w A r σ') [.ref (ad 7), .int p1, .int p2].toArray s 0 0 A) (F0 m 50 ls []) := by
    intro x3 σ H locs ls hl hw hf
    unfold f_X7_takeNumber_b50 at hf
    refine lv_aload_n hx hb dX7_takeNumber_50 rfl (lv_at hl 0 rfl) ?_
    refine lv_dup hx hb dX7_takeNumber_51 rfl ?_
    refine k_get C hw (LC_7 LC) (ci := 7) rfl k_in7 2 (by decide) lk7_28 (v := .int (σ.1 7 2)) rfl dX7_takeNumber_52 ?_
    refine lv_iconst (v := (1 : Int32)) hx hb dX7_takeNumber_55 (by decide) ?_
    refine lv_iadd hx hb dX7_takeNumber_56 ?_
    refine k_put C hw (LC_7 LC) (ci := 7) rfl k_in7 tyX7 tyX7_ok nmX7 2 (by decide) lk7_28 rfl ⟨rfl, rfl⟩ rfl dX7_takeNumber_57 (fun σ1 eq H locs hw => ?_)
    have hf := k_nmE eq hf
    refine lv_iload_n hx hb dX7_takeNumber_60 rfl (lv_at hl 1 rfl) ?_
    exact k_iret C hw hf dX7_takeNumber_61
  have b45 : ∀ (x3 : Int32) (σ : MSt) (H : Heap) (locs : List Loc) (ls : Array Slot), lv_has ls 4 [(0, .ref (ad 7)), (3, .int x3)] → k_W G w A s.heap σ H locs → f_X7_takeNumber_b45 x3 σ = some (r, σ') → W p l e rmX7_takeNumber s m [.ref (ad 7), .int p1, .int p2].toArray below meth c H locs 0 0 (MQ below (k_Qi G w A r σ') [.ref (ad 7), .int p1, .int p2].toArray s 0 0 A) (F0 m 45 ls []) := by
    intro x3 σ H locs ls hl hw hf
    unfold f_X7_takeNumber_b45 at hf
    refine lv_aload_n hx hb dX7_takeNumber_45 rfl (lv_at hl 0 rfl) ?_
    refine lv_iconst (v := (2 : Int32)) hx hb dX7_takeNumber_46 (by decide) ?_
    obtain ⟨σ1, hq, hf⟩ := k_bvE hf
    refine k_callVv C hw (c_X7_fail l G Y w ad LC (2 : Int32) σ σ1 hq) (cwV 1 hts gX7_takeNumber_X7_fail rfl rfl rfl (by decide +kernel) ⟨Nat.le_of_ble_eq_true rfl, Nat.le_of_ble_eq_true rfl⟩) (k_recv C hw (LC_7 LC) rfl) rfl hl.1 rfl (Nat.le_of_ble_eq_true rfl) dX7_takeNumber_47 (fun H locs hw => ?_)
    exact b50 x3 σ1 _ _ _ (lv_sub hl [0, 1] rfl) hw hf
  unfold f_X7_takeNumber at hf
  refine lv_aload_n hx hb dX7_takeNumber_0 rfl (lv_at hl 0 rfl) ?_
  refine k_get C hw (LC_7 LC) (ci := 7) rfl k_in7 0 (by decide) lk7_15 (v := .ref (ad 1)) rfl dX7_takeNumber_1 ?_
  refine lv_aload_n hx hb dX7_takeNumber_4 rfl (lv_at hl 0 rfl) ?_
  refine k_get C hw (LC_7 LC) (ci := 7) rfl k_in7 2 (by decide) lk7_28 (v := .int (σ.1 7 2)) rfl dX7_takeNumber_5 ?_
  obtain ⟨q3, σ2, hq, hf⟩ := k_bdE hf
  refine k_callVi C hw (c_X9_valueOf l G Y w ad LC (σ.1 7 2) σ q3 σ2 hq) (cwV 1 hts gX7_takeNumber_X9_valueOf rfl rfl rfl (by decide +kernel) ⟨Nat.le_of_ble_eq_true rfl, Nat.le_of_ble_eq_true rfl⟩) (k_recv C hw (LC_1 LC) rfl) rfl hl.1 rfl (Nat.le_of_ble_eq_true rfl) dX7_takeNumber_8 (fun H locs hw => ?_)
  refine lv_istore_n (lv' := [(3, .int q3), (0, .ref (ad 7)), (1, .int p1), (2, .int p2)]) hx hb dX7_takeNumber_11 rfl hl (by decide) rfl (fun ls hl => ?_)
  refine lv_aload_n hx hb dX7_takeNumber_12 rfl (lv_at hl 1 rfl) ?_
  refine k_get C hw (LC_7 LC) (ci := 7) rfl k_in7 0 (by decide) lk7_15 (v := .ref (ad 1)) rfl dX7_takeNumber_13 ?_
  refine lv_aload_n hx hb dX7_takeNumber_16 rfl (lv_at hl 1 rfl) ?_
  refine k_get C hw (LC_7 LC) (ci := 7) rfl k_in7 2 (by decide) lk7_28 (v := .int (σ2.1 7 2)) rfl dX7_takeNumber_17 ?_
  obtain ⟨q5, σ4, hq, hf⟩ := k_bdE hf
  refine k_callVi C hw (c_X9_sortOf l G Y w ad LC (σ2.1 7 2) σ2 q5 σ4 hq) (cwV 1 hts gX7_takeNumber_X9_sortOf rfl rfl rfl (by decide +kernel) ⟨Nat.le_of_ble_eq_true rfl, Nat.le_of_ble_eq_true rfl⟩) (k_recv C hw (LC_1 LC) rfl) rfl hl.1 rfl (Nat.le_of_ble_eq_true rfl) dX7_takeNumber_20 (fun H locs hw => ?_)
  refine lv_iconst (v := (3 : Int32)) hx hb dX7_takeNumber_23 (by decide) ?_
  refine lv_icmp_eq (tgt := 35) hx hb dX7_takeNumber_24 (by decide) (fun h => ?_) (fun h => ?_)
  · have hf := k_ifT h hf
    refine lv_iload_n hx hb dX7_takeNumber_35 rfl (lv_at hl 0 rfl) ?_
    refine lv_iload_n hx hb dX7_takeNumber_36 rfl (lv_at hl 2 rfl) ?_
    refine lv_icmp_lt (tgt := 45) hx hb dX7_takeNumber_37 (by decide) (fun h => ?_) (fun h => ?_)
    · have hf := k_ifT h hf
      exact b45 q3 σ4 _ _ _ (lv_sub hl [1, 0] rfl) hw hf
    · have hf := k_ifF h hf
      refine lv_iload_n hx hb dX7_takeNumber_40 rfl (lv_at hl 0 rfl) ?_
      refine lv_iload_n hx hb dX7_takeNumber_41 rfl (lv_at hl 3 rfl) ?_
      refine lv_icmp_le (tgt := 50) hx hb dX7_takeNumber_42 (by decide) (fun h => ?_) (fun h => ?_)
      · have hf := k_ifT h hf
        exact b50 q3 σ4 _ _ _ (lv_sub hl [1, 0] rfl) hw hf
      · have hf := k_ifF h hf
        exact b45 q3 σ4 _ _ _ (lv_sub hl [1, 0] rfl) hw hf
  · have hf := k_ifF h hf
    refine lv_aload_n hx hb dX7_takeNumber_27 rfl (lv_at hl 1 rfl) ?_
    refine lv_iconst (v := (1 : Int32)) hx hb dX7_takeNumber_28 (by decide) ?_
    obtain ⟨σ6, hq, hf⟩ := k_bvE hf
    refine k_callVv C hw (c_X7_fail l G Y w ad LC (1 : Int32) σ4 σ6 hq) (cwV 1 hts gX7_takeNumber_X7_fail rfl rfl rfl (by decide +kernel) ⟨Nat.le_of_ble_eq_true rfl, Nat.le_of_ble_eq_true rfl⟩) (k_recv C hw (LC_7 LC) rfl) rfl hl.1 rfl (Nat.le_of_ble_eq_true rfl) dX7_takeNumber_29 (fun H locs hw => ?_)
    refine lv_goto (tgt := 50) hx hb dX7_takeNumber_32 (by decide) ?_
    exact b50 q3 σ6 _ _ _ (lv_sub hl [1, 0] rfl) hw hf
def f_X7_readLane_b108   (σ : MSt) : Option MSt :=
  some σ
def f_X7_readLane_b73  (x1 : Int32) (x2 : Int32) (σ : MSt) : Option MSt :=
  k_nm (mI σ 7 2 ((σ.1 7 2) + (1 : Int32))) fun σ1 =>
  k_bd (f_X7_takeNumber (1 : Int32) (9 : Int32) σ1) fun q3 σ2 =>
  if (σ2.1 7 4) = 0 then
  (k_ck (k_ch (σ2.1 7 1)) <|
  k_nm (σ2.1 7 1).toNatClampNeg fun o1099 =>
  k_bv (f_X0_addLane o1099 x1 x2 q3 σ2) fun σ4 =>
  f_X7_readLane_b108 σ4)
  else
  (f_X7_readLane_b108 σ2)
def f_X7_readLane   (σ : MSt) : Option MSt :=
  k_ck (k_ch (σ.1 7 1)) <|
  k_nm (σ.1 7 1).toNatClampNeg fun o1002 =>
  k_bv (f_X7_needRoom (σ.1 o1002 8) (12 : Int32) σ) fun σ5 =>
  k_nm (mI σ5 7 2 ((σ5.1 7 2) + (1 : Int32))) fun σ6 =>
  k_bd (f_X7_toldBay σ6) fun q8 σ7 =>
  k_nm (mI σ7 7 2 ((σ7.1 7 2) + (1 : Int32))) fun σ9 =>
  k_bd (f_X7_toldBay σ9) fun q11 σ10 =>
  if q8 = q11 then
  (k_bv (f_X7_fail (5 : Int32) σ10) fun σ15 =>
  f_X7_readLane_b73 q8 q11 σ15)
  else
  (k_ck (k_ch (σ10.1 7 1)) <|
  k_nm (σ10.1 7 1).toNatClampNeg fun o1057 =>
  k_bd (f_X0_daysBetween o1057 q8 q11 σ10) fun q13 σ12 =>
  if q13 = 0 then
  (f_X7_readLane_b73 q8 q11 σ12)
  else
  (k_bv (f_X7_fail (3 : Int32) σ12) fun σ14 =>
  f_X7_readLane_b73 q8 q11 σ14))
def rmX7_readLane : Room := { frames := 2, cells := 0, slots := 0, locals := 44 }
set_option maxHeartbeats 4000000 in
set_option maxRecDepth 100000 in
theorem c_X7_readLane (l : Launch) (G : va_G) (Y : CY) (w : MSt → va_W) (ad : Nat → Nat)  (LC : LayC ad w Y)  (σ : MSt) (σ' : MSt) (hf : f_X7_readLane σ = some σ') : k_Mv l yX7_readLane wsX7_readLane rmX7_readLane G Y w [.ref (ad 7)] σ σ' := by
  refine k_ofv (own := RX7) (cc := cX7_readLane) (maxL := 4) none (by decide) rfl rfl (Nat.le_of_ble_eq_true rfl) ?_
  intro p e s m below meth c A C ls hl hw
  have hx := C.1
  have hb := C.2.1
  have hown := C.2.2.2.2.1
  have hts := C.2.2.2.2.2.1
  have hks := C.2.2.2.2.2.2.1
  have hl : lv_has ls 4 [(0, .ref (ad 7))] := hl
  have b108 : ∀ (σ : MSt) (H : Heap) (locs : List Loc) (ls : Array Slot), lv_has ls 4 [] → k_W G w A s.heap σ H locs → f_X7_readLane_b108 σ = some σ' → W p l e rmX7_readLane s m [.ref (ad 7)].toArray below meth c H locs 0 0 (MQ below (k_Qv G w A σ') [.ref (ad 7)].toArray s 0 0 A) (F0 m 108 ls []) := by
    intro σ H locs ls hl hw hf
    unfold f_X7_readLane_b108 at hf
    exact k_vret C hw hf dX7_readLane_108
  have b73 : ∀ (x1 : Int32) (x2 : Int32) (σ : MSt) (H : Heap) (locs : List Loc) (ls : Array Slot), lv_has ls 4 [(0, .ref (ad 7)), (1, .int x1), (2, .int x2)] → k_W G w A s.heap σ H locs → f_X7_readLane_b73 x1 x2 σ = some σ' → W p l e rmX7_readLane s m [.ref (ad 7)].toArray below meth c H locs 0 0 (MQ below (k_Qv G w A σ') [.ref (ad 7)].toArray s 0 0 A) (F0 m 73 ls []) := by
    intro x1 x2 σ H locs ls hl hw hf
    unfold f_X7_readLane_b73 at hf
    refine lv_aload_n hx hb dX7_readLane_73 rfl (lv_at hl 0 rfl) ?_
    refine lv_dup hx hb dX7_readLane_74 rfl ?_
    refine k_get C hw (LC_7 LC) (ci := 7) rfl k_in7 2 (by decide) lk7_28 (v := .int (σ.1 7 2)) rfl dX7_readLane_75 ?_
    refine lv_iconst (v := (1 : Int32)) hx hb dX7_readLane_78 (by decide) ?_
    refine lv_iadd hx hb dX7_readLane_79 ?_
    refine k_put C hw (LC_7 LC) (ci := 7) rfl k_in7 tyX7 tyX7_ok nmX7 2 (by decide) lk7_28 rfl ⟨rfl, rfl⟩ rfl dX7_readLane_80 (fun σ1 eq H locs hw => ?_)
    have hf := k_nmE eq hf
    refine lv_aload_n hx hb dX7_readLane_83 rfl (lv_at hl 0 rfl) ?_
    refine lv_iconst (v := (1 : Int32)) hx hb dX7_readLane_84 (by decide) ?_
    refine lv_bipush (v := (9 : Int32)) hx hb dX7_readLane_85 (by decide) ?_
    obtain ⟨q3, σ2, hq, hf⟩ := k_bdE hf
    refine k_callVi C hw (c_X7_takeNumber l G Y w ad LC (1 : Int32) (9 : Int32) σ1 q3 σ2 hq) (cwV 2 hts gX7_readLane_X7_takeNumber rfl rfl rfl (by decide +kernel) ⟨Nat.le_of_ble_eq_true rfl, Nat.le_of_ble_eq_true rfl⟩) (k_recv C hw (LC_7 LC) rfl) rfl hl.1 rfl (Nat.le_of_ble_eq_true rfl) dX7_readLane_87 (fun H locs hw => ?_)
    refine lv_istore_n (lv' := [(3, .int q3), (0, .ref (ad 7)), (1, .int x1), (2, .int x2)]) hx hb dX7_readLane_90 rfl hl (by decide) rfl (fun ls hl => ?_)
    refine lv_aload_n hx hb dX7_readLane_91 rfl (lv_at hl 1 rfl) ?_
    refine k_get C hw (LC_7 LC) (ci := 7) rfl k_in7 4 (by decide) lk7_35 (v := .int (σ2.1 7 4)) rfl dX7_readLane_92 ?_
    refine lv_if_ne (tgt := 108) hx hb dX7_readLane_95 (by decide) (fun h => ?_) (fun h => ?_)
    · have hf := k_ifF h hf
      exact b108 σ2 _ _ _ (lv_sub hl [] rfl) hw hf
    · have hf := k_ifT h hf
      refine lv_aload_n hx hb dX7_readLane_98 rfl (lv_at hl 1 rfl) ?_
      obtain ⟨hc, hf⟩ := k_ckE hf
      obtain ⟨o1099, eo⟩ : ∃ y : Nat, y = (σ2.1 7 1).toNatClampNeg := ⟨_, rfl⟩
      have hf := k_nmE eo hf
      have Lo1099 := k_chL LC hc eo
      refine k_get C hw (LC_7 LC) (ci := 7) rfl k_in7 1 (by decide) lk7_19 (v := .ref (ad o1099)) (congrArg some (k_chR hc eo)) dX7_readLane_99 ?_
      refine lv_iload_n hx hb dX7_readLane_102 rfl (lv_at hl 2 rfl) ?_
      refine lv_iload_n hx hb dX7_readLane_103 rfl (lv_at hl 3 rfl) ?_
      refine lv_iload_n hx hb dX7_readLane_104 rfl (lv_at hl 0 rfl) ?_
      obtain ⟨σ4, hq, hf⟩ := k_bvE hf
      refine k_callVv C hw (c_X0_addLane l G Y w ad o1099 Lo1099 x1 x2 q3 σ2 σ4 hq) (cwV 3 hts gX7_readLane_X0_addLane rfl rfl rfl (by decide +kernel) ⟨Nat.le_of_ble_eq_true rfl, Nat.le_of_ble_eq_true rfl⟩) (k_recv C hw (LX0_o Lo1099) rfl) rfl hl.1 rfl (Nat.le_of_ble_eq_true rfl) dX7_readLane_105 (fun H locs hw => ?_)
      exact b108 σ4 _ _ _ (lv_sub hl [] rfl) hw hf
  unfold f_X7_readLane at hf
  refine lv_aload_n hx hb dX7_readLane_0 rfl (lv_at hl 0 rfl) ?_
  refine lv_aload_n hx hb dX7_readLane_1 rfl (lv_at hl 0 rfl) ?_
  obtain ⟨hc, hf⟩ := k_ckE hf
  obtain ⟨o1002, eo⟩ : ∃ y : Nat, y = (σ.1 7 1).toNatClampNeg := ⟨_, rfl⟩
  have hf := k_nmE eo hf
  have Lo1002 := k_chL LC hc eo
  refine k_get C hw (LC_7 LC) (ci := 7) rfl k_in7 1 (by decide) lk7_19 (v := .ref (ad o1002)) (congrArg some (k_chR hc eo)) dX7_readLane_2 ?_
  refine k_getN C hw (LX0_o Lo1002) (ci := 0) rfl k_in0 8 (by decide) ln7_97 (v := .int (σ.1 o1002 8)) rfl dX7_readLane_5 ?_
  refine lv_bipush (v := (12 : Int32)) hx hb dX7_readLane_8 (by decide) ?_
  obtain ⟨σ5, hq, hf⟩ := k_bvE hf
  refine k_callVv C hw (c_X7_needRoom l G Y w ad LC (σ.1 o1002 8) (12 : Int32) σ σ5 hq) (cwV 2 hts gX7_readLane_X7_needRoom rfl rfl rfl (by decide +kernel) ⟨Nat.le_of_ble_eq_true rfl, Nat.le_of_ble_eq_true rfl⟩) (k_recv C hw (LC_7 LC) rfl) rfl hl.1 rfl (Nat.le_of_ble_eq_true rfl) dX7_readLane_10 (fun H locs hw => ?_)
  refine lv_aload_n hx hb dX7_readLane_13 rfl (lv_at hl 0 rfl) ?_
  refine lv_dup hx hb dX7_readLane_14 rfl ?_
  refine k_get C hw (LC_7 LC) (ci := 7) rfl k_in7 2 (by decide) lk7_28 (v := .int (σ5.1 7 2)) rfl dX7_readLane_15 ?_
  refine lv_iconst (v := (1 : Int32)) hx hb dX7_readLane_18 (by decide) ?_
  refine lv_iadd hx hb dX7_readLane_19 ?_
  refine k_put C hw (LC_7 LC) (ci := 7) rfl k_in7 tyX7 tyX7_ok nmX7 2 (by decide) lk7_28 rfl ⟨rfl, rfl⟩ rfl dX7_readLane_20 (fun σ6 eq H locs hw => ?_)
  have hf := k_nmE eq hf
  refine lv_aload_n hx hb dX7_readLane_23 rfl (lv_at hl 0 rfl) ?_
  obtain ⟨q8, σ7, hq, hf⟩ := k_bdE hf
  refine k_callVi C hw (c_X7_toldBay l G Y w ad LC σ6 q8 σ7 hq) (cwV 0 hts gX7_readLane_X7_toldBay rfl rfl rfl (by decide +kernel) ⟨Nat.le_of_ble_eq_true rfl, Nat.le_of_ble_eq_true rfl⟩) (k_recv C hw (LC_7 LC) rfl) rfl hl.1 rfl (Nat.le_of_ble_eq_true rfl) dX7_readLane_24 (fun H locs hw => ?_)
  refine lv_istore_n (lv' := [(1, .int q8), (0, .ref (ad 7))]) hx hb dX7_readLane_27 rfl hl (by decide) rfl (fun ls hl => ?_)
  refine lv_aload_n hx hb dX7_readLane_28 rfl (lv_at hl 1 rfl) ?_
  refine lv_dup hx hb dX7_readLane_29 rfl ?_
  refine k_get C hw (LC_7 LC) (ci := 7) rfl k_in7 2 (by decide) lk7_28 (v := .int (σ7.1 7 2)) rfl dX7_readLane_30 ?_
  refine lv_iconst (v := (1 : Int32)) hx hb dX7_readLane_33 (by decide) ?_
  refine lv_iadd hx hb dX7_readLane_34 ?_
  refine k_put C hw (LC_7 LC) (ci := 7) rfl k_in7 tyX7 tyX7_ok nmX7 2 (by decide) lk7_28 rfl ⟨rfl, rfl⟩ rfl dX7_readLane_35 (fun σ9 eq H locs hw => ?_)
  have hf := k_nmE eq hf
  refine lv_aload_n hx hb dX7_readLane_38 rfl (lv_at hl 1 rfl) ?_
  obtain ⟨q11, σ10, hq, hf⟩ := k_bdE hf
  refine k_callVi C hw (c_X7_toldBay l G Y w ad LC σ9 q11 σ10 hq) (cwV 0 hts gX7_readLane_X7_toldBay rfl rfl rfl (by decide +kernel) ⟨Nat.le_of_ble_eq_true rfl, Nat.le_of_ble_eq_true rfl⟩) (k_recv C hw (LC_7 LC) rfl) rfl hl.1 rfl (Nat.le_of_ble_eq_true rfl) dX7_readLane_39 (fun H locs hw => ?_)
  refine lv_istore_n (lv' := [(2, .int q11), (1, .int q8), (0, .ref (ad 7))]) hx hb dX7_readLane_42 rfl hl (by decide) rfl (fun ls hl => ?_)
  refine lv_iload_n hx hb dX7_readLane_43 rfl (lv_at hl 1 rfl) ?_
  refine lv_iload_n hx hb dX7_readLane_44 rfl (lv_at hl 0 rfl) ?_
  refine lv_icmp_ne (tgt := 56) hx hb dX7_readLane_45 (by decide) (fun h => ?_) (fun h => ?_)
  · have hf := k_ifF h hf
    refine lv_aload_n hx hb dX7_readLane_56 rfl (lv_at hl 2 rfl) ?_
    obtain ⟨hc, hf⟩ := k_ckE hf
    obtain ⟨o1057, eo⟩ : ∃ y : Nat, y = (σ10.1 7 1).toNatClampNeg := ⟨_, rfl⟩
    have hf := k_nmE eo hf
    have Lo1057 := k_chL LC hc eo
    refine k_get C hw (LC_7 LC) (ci := 7) rfl k_in7 1 (by decide) lk7_19 (v := .ref (ad o1057)) (congrArg some (k_chR hc eo)) dX7_readLane_57 ?_
    refine lv_iload_n hx hb dX7_readLane_60 rfl (lv_at hl 1 rfl) ?_
    refine lv_iload_n hx hb dX7_readLane_61 rfl (lv_at hl 0 rfl) ?_
    obtain ⟨q13, σ12, hq, hf⟩ := k_bdE hf
    refine k_callVi C hw (c_X0_daysBetween l G Y w ad o1057 Lo1057 q8 q11 σ10 q13 σ12 hq) (cwV 2 hts gX7_readLane_X0_daysBetween rfl rfl rfl (by decide +kernel) ⟨Nat.le_of_ble_eq_true rfl, Nat.le_of_ble_eq_true rfl⟩) (k_recv C hw (LX0_o Lo1057) rfl) rfl hl.1 rfl (Nat.le_of_ble_eq_true rfl) dX7_readLane_62 (fun H locs hw => ?_)
    refine lv_if_eq (tgt := 73) hx hb dX7_readLane_65 (by decide) (fun h => ?_) (fun h => ?_)
    · have hf := k_ifT h hf
      exact b73 q8 q11 σ12 _ _ _ (lv_sub hl [2, 1, 0] rfl) hw hf
    · have hf := k_ifF h hf
      refine lv_aload_n hx hb dX7_readLane_68 rfl (lv_at hl 2 rfl) ?_
      refine lv_iconst (v := (3 : Int32)) hx hb dX7_readLane_69 (by decide) ?_
      obtain ⟨σ14, hq, hf⟩ := k_bvE hf
      refine k_callVv C hw (c_X7_fail l G Y w ad LC (3 : Int32) σ12 σ14 hq) (cwV 1 hts gX7_readLane_X7_fail rfl rfl rfl (by decide +kernel) ⟨Nat.le_of_ble_eq_true rfl, Nat.le_of_ble_eq_true rfl⟩) (k_recv C hw (LC_7 LC) rfl) rfl hl.1 rfl (Nat.le_of_ble_eq_true rfl) dX7_readLane_70 (fun H locs hw => ?_)
      exact b73 q8 q11 σ14 _ _ _ (lv_sub hl [2, 1, 0] rfl) hw hf
  · have hf := k_ifT h hf
    refine lv_aload_n hx hb dX7_readLane_48 rfl (lv_at hl 2 rfl) ?_
    refine lv_iconst (v := (5 : Int32)) hx hb dX7_readLane_49 (by decide) ?_
    obtain ⟨σ15, hq, hf⟩ := k_bvE hf
    refine k_callVv C hw (c_X7_fail l G Y w ad LC (5 : Int32) σ10 σ15 hq) (cwV 1 hts gX7_readLane_X7_fail rfl rfl rfl (by decide +kernel) ⟨Nat.le_of_ble_eq_true rfl, Nat.le_of_ble_eq_true rfl⟩) (k_recv C hw (LC_7 LC) rfl) rfl hl.1 rfl (Nat.le_of_ble_eq_true rfl) dX7_readLane_50 (fun H locs hw => ?_)
    refine lv_goto (tgt := 73) hx hb dX7_readLane_53 (by decide) ?_
    exact b73 q8 q11 σ15 _ _ _ (lv_sub hl [2, 1, 0] rfl) hw hf
def f_X7_readDeed_b71   (σ : MSt) : Option MSt :=
  some σ
def f_X7_readDeed   (σ : MSt) : Option MSt :=
  k_ck (k_ch (σ.1 7 1)) <|
  k_nm (σ.1 7 1).toNatClampNeg fun o1002 =>
  k_bv (f_X7_needRoom (σ.1 o1002 9) (12 : Int32) σ) fun σ1 =>
  k_nm (mI σ1 7 2 ((σ1.1 7 2) + (1 : Int32))) fun σ2 =>
  k_bd (f_X7_toldBay σ2) fun q4 σ3 =>
  k_nm (mI σ3 7 2 ((σ3.1 7 2) + (1 : Int32))) fun σ5 =>
  k_bd (f_X7_takeNumber (0 : Int32) (99 : Int32) σ5) fun q7 σ6 =>
  k_bd (f_X7_takeNumber (0 : Int32) (9 : Int32) σ6) fun q9 σ8 =>
  if (σ8.1 7 4) = 0 then
  (k_ck (k_ch (σ8.1 7 1)) <|
  k_nm (σ8.1 7 1).toNatClampNeg fun o1062 =>
  k_bv (f_X0_addDeed o1062 q4 q7 q9 σ8) fun σ10 =>
  f_X7_readDeed_b71 σ10)
  else
  (f_X7_readDeed_b71 σ8)
def rmX7_readDeed : Room := { frames := 2, cells := 0, slots := 0, locals := 44 }
set_option maxHeartbeats 4000000 in
set_option maxRecDepth 100000 in
theorem c_X7_readDeed (l : Launch) (G : va_G) (Y : CY) (w : MSt → va_W) (ad : Nat → Nat)  (LC : LayC ad w Y)  (σ : MSt) (σ' : MSt) (hf : f_X7_readDeed σ = some σ') : k_Mv l yX7_readDeed wsX7_readDeed rmX7_readDeed G Y w [.ref (ad 7)] σ σ' := by
  refine k_ofv (own := RX7) (cc := cX7_readDeed) (maxL := 4) none (by decide) rfl rfl (Nat.le_of_ble_eq_true rfl) ?_
  intro p e s m below meth c A C ls hl hw
  have hx := C.1
  have hb := C.2.1
  have hown := C.2.2.2.2.1
  have hts := C.2.2.2.2.2.1
  have hks := C.2.2.2.2.2.2.1
  have hl : lv_has ls 4 [(0, .ref (ad 7))] := hl
  have b71 : ∀ (σ : MSt) (H : Heap) (locs : List Loc) (ls : Array Slot), lv_has ls 4 [] → k_W G w A s.heap σ H locs → f_X7_readDeed_b71 σ = some σ' → W p l e rmX7_readDeed s m [.ref (ad 7)].toArray below meth c H locs 0 0 (MQ below (k_Qv G w A σ') [.ref (ad 7)].toArray s 0 0 A) (F0 m 71 ls []) := by
    intro σ H locs ls hl hw hf
    unfold f_X7_readDeed_b71 at hf
    exact k_vret C hw hf dX7_readDeed_71
  unfold f_X7_readDeed at hf
  refine lv_aload_n hx hb dX7_readDeed_0 rfl (lv_at hl 0 rfl) ?_
  refine lv_aload_n hx hb dX7_readDeed_1 rfl (lv_at hl 0 rfl) ?_
  obtain ⟨hc, hf⟩ := k_ckE hf
  obtain ⟨o1002, eo⟩ : ∃ y : Nat, y = (σ.1 7 1).toNatClampNeg := ⟨_, rfl⟩
  have hf := k_nmE eo hf
  have Lo1002 := k_chL LC hc eo
  refine k_get C hw (LC_7 LC) (ci := 7) rfl k_in7 1 (by decide) lk7_19 (v := .ref (ad o1002)) (congrArg some (k_chR hc eo)) dX7_readDeed_2 ?_
  refine k_getN C hw (LX0_o Lo1002) (ci := 0) rfl k_in0 9 (by decide) ln7_115 (v := .int (σ.1 o1002 9)) rfl dX7_readDeed_5 ?_
  refine lv_bipush (v := (12 : Int32)) hx hb dX7_readDeed_8 (by decide) ?_
  obtain ⟨σ1, hq, hf⟩ := k_bvE hf
  refine k_callVv C hw (c_X7_needRoom l G Y w ad LC (σ.1 o1002 9) (12 : Int32) σ σ1 hq) (cwV 2 hts gX7_readDeed_X7_needRoom rfl rfl rfl (by decide +kernel) ⟨Nat.le_of_ble_eq_true rfl, Nat.le_of_ble_eq_true rfl⟩) (k_recv C hw (LC_7 LC) rfl) rfl hl.1 rfl (Nat.le_of_ble_eq_true rfl) dX7_readDeed_10 (fun H locs hw => ?_)
  refine lv_aload_n hx hb dX7_readDeed_13 rfl (lv_at hl 0 rfl) ?_
  refine lv_dup hx hb dX7_readDeed_14 rfl ?_
  refine k_get C hw (LC_7 LC) (ci := 7) rfl k_in7 2 (by decide) lk7_28 (v := .int (σ1.1 7 2)) rfl dX7_readDeed_15 ?_
  refine lv_iconst (v := (1 : Int32)) hx hb dX7_readDeed_18 (by decide) ?_
  refine lv_iadd hx hb dX7_readDeed_19 ?_
  refine k_put C hw (LC_7 LC) (ci := 7) rfl k_in7 tyX7 tyX7_ok nmX7 2 (by decide) lk7_28 rfl ⟨rfl, rfl⟩ rfl dX7_readDeed_20 (fun σ2 eq H locs hw => ?_)
  have hf := k_nmE eq hf
  refine lv_aload_n hx hb dX7_readDeed_23 rfl (lv_at hl 0 rfl) ?_
  obtain ⟨q4, σ3, hq, hf⟩ := k_bdE hf
  refine k_callVi C hw (c_X7_toldBay l G Y w ad LC σ2 q4 σ3 hq) (cwV 0 hts gX7_readDeed_X7_toldBay rfl rfl rfl (by decide +kernel) ⟨Nat.le_of_ble_eq_true rfl, Nat.le_of_ble_eq_true rfl⟩) (k_recv C hw (LC_7 LC) rfl) rfl hl.1 rfl (Nat.le_of_ble_eq_true rfl) dX7_readDeed_24 (fun H locs hw => ?_)
  refine lv_istore_n (lv' := [(1, .int q4), (0, .ref (ad 7))]) hx hb dX7_readDeed_27 rfl hl (by decide) rfl (fun ls hl => ?_)
  refine lv_aload_n hx hb dX7_readDeed_28 rfl (lv_at hl 1 rfl) ?_
  refine lv_dup hx hb dX7_readDeed_29 rfl ?_
  refine k_get C hw (LC_7 LC) (ci := 7) rfl k_in7 2 (by decide) lk7_28 (v := .int (σ3.1 7 2)) rfl dX7_readDeed_30 ?_
  refine lv_iconst (v := (1 : Int32)) hx hb dX7_readDeed_33 (by decide) ?_
  refine lv_iadd hx hb dX7_readDeed_34 ?_
  refine k_put C hw (LC_7 LC) (ci := 7) rfl k_in7 tyX7 tyX7_ok nmX7 2 (by decide) lk7_28 rfl ⟨rfl, rfl⟩ rfl dX7_readDeed_35 (fun σ5 eq H locs hw => ?_)
  have hf := k_nmE eq hf
  refine lv_aload_n hx hb dX7_readDeed_38 rfl (lv_at hl 1 rfl) ?_
  refine lv_iconst (v := (0 : Int32)) hx hb dX7_readDeed_39 (by decide) ?_
  refine lv_bipush (v := (99 : Int32)) hx hb dX7_readDeed_40 (by decide) ?_
  obtain ⟨q7, σ6, hq, hf⟩ := k_bdE hf
  refine k_callVi C hw (c_X7_takeNumber l G Y w ad LC (0 : Int32) (99 : Int32) σ5 q7 σ6 hq) (cwV 2 hts gX7_readDeed_X7_takeNumber rfl rfl rfl (by decide +kernel) ⟨Nat.le_of_ble_eq_true rfl, Nat.le_of_ble_eq_true rfl⟩) (k_recv C hw (LC_7 LC) rfl) rfl hl.1 rfl (Nat.le_of_ble_eq_true rfl) dX7_readDeed_42 (fun H locs hw => ?_)
  refine lv_istore_n (lv' := [(2, .int q7), (1, .int q4), (0, .ref (ad 7))]) hx hb dX7_readDeed_45 rfl hl (by decide) rfl (fun ls hl => ?_)
  refine lv_aload_n hx hb dX7_readDeed_46 rfl (lv_at hl 2 rfl) ?_
  refine lv_iconst (v := (0 : Int32)) hx hb dX7_readDeed_47 (by decide) ?_
  refine lv_bipush (v := (9 : Int32)) hx hb dX7_readDeed_48 (by decide) ?_
  obtain ⟨q9, σ8, hq, hf⟩ := k_bdE hf
  refine k_callVi C hw (c_X7_takeNumber l G Y w ad LC (0 : Int32) (9 : Int32) σ6 q9 σ8 hq) (cwV 2 hts gX7_readDeed_X7_takeNumber rfl rfl rfl (by decide +kernel) ⟨Nat.le_of_ble_eq_true rfl, Nat.le_of_ble_eq_true rfl⟩) (k_recv C hw (LC_7 LC) rfl) rfl hl.1 rfl (Nat.le_of_ble_eq_true rfl) dX7_readDeed_50 (fun H locs hw => ?_)
  refine lv_istore_n (lv' := [(3, .int q9), (2, .int q7), (1, .int q4), (0, .ref (ad 7))]) hx hb dX7_readDeed_53 rfl hl (by decide) rfl (fun ls hl => ?_)
  refine lv_aload_n hx hb dX7_readDeed_54 rfl (lv_at hl 3 rfl) ?_
  refine k_get C hw (LC_7 LC) (ci := 7) rfl k_in7 4 (by decide) lk7_35 (v := .int (σ8.1 7 4)) rfl dX7_readDeed_55 ?_
  refine lv_if_ne (tgt := 71) hx hb dX7_readDeed_58 (by decide) (fun h => ?_) (fun h => ?_)
  · have hf := k_ifF h hf
    exact b71 σ8 _ _ _ (lv_sub hl [] rfl) hw hf
  · have hf := k_ifT h hf
    refine lv_aload_n hx hb dX7_readDeed_61 rfl (lv_at hl 3 rfl) ?_
    obtain ⟨hc, hf⟩ := k_ckE hf
    obtain ⟨o1062, eo⟩ : ∃ y : Nat, y = (σ8.1 7 1).toNatClampNeg := ⟨_, rfl⟩
    have hf := k_nmE eo hf
    have Lo1062 := k_chL LC hc eo
    refine k_get C hw (LC_7 LC) (ci := 7) rfl k_in7 1 (by decide) lk7_19 (v := .ref (ad o1062)) (congrArg some (k_chR hc eo)) dX7_readDeed_62 ?_
    refine lv_iload_n hx hb dX7_readDeed_65 rfl (lv_at hl 2 rfl) ?_
    refine lv_iload_n hx hb dX7_readDeed_66 rfl (lv_at hl 1 rfl) ?_
    refine lv_iload_n hx hb dX7_readDeed_67 rfl (lv_at hl 0 rfl) ?_
    obtain ⟨σ10, hq, hf⟩ := k_bvE hf
    refine k_callVv C hw (c_X0_addDeed l G Y w ad o1062 Lo1062 q4 q7 q9 σ8 σ10 hq) (cwV 3 hts gX7_readDeed_X0_addDeed rfl rfl rfl (by decide +kernel) ⟨Nat.le_of_ble_eq_true rfl, Nat.le_of_ble_eq_true rfl⟩) (k_recv C hw (LX0_o Lo1062) rfl) rfl hl.1 rfl (Nat.le_of_ble_eq_true rfl) dX7_readDeed_68 (fun H locs hw => ?_)
    exact b71 σ10 _ _ _ (lv_sub hl [] rfl) hw hf
def f_X7_readWind_b46   (σ : MSt) : Option MSt :=
  some σ
def f_X7_readWind   (σ : MSt) : Option MSt :=
  k_ck (k_ch (σ.1 7 1)) <|
  k_nm (σ.1 7 1).toNatClampNeg fun o1002 =>
  k_bv (f_X7_needRoom (σ.1 o1002 10) (20 : Int32) σ) fun σ1 =>
  k_nm (mI σ1 7 2 ((σ1.1 7 2) + (1 : Int32))) fun σ2 =>
  k_bd (f_X7_takeNumber (0 : Int32) (9 : Int32) σ2) fun q4 σ3 =>
  if (σ3.1 7 4) = 0 then
  (k_ck (k_ch (σ3.1 7 1)) <|
  k_nm (σ3.1 7 1).toNatClampNeg fun o1039 =>
  k_bv (f_X0_addWind o1039 q4 σ3) fun σ5 =>
  f_X7_readWind_b46 σ5)
  else
  (f_X7_readWind_b46 σ3)
def rmX7_readWind : Room := { frames := 2, cells := 0, slots := 0, locals := 44 }
set_option maxHeartbeats 4000000 in
set_option maxRecDepth 100000 in
theorem c_X7_readWind (l : Launch) (G : va_G) (Y : CY) (w : MSt → va_W) (ad : Nat → Nat)  (LC : LayC ad w Y)  (σ : MSt) (σ' : MSt) (hf : f_X7_readWind σ = some σ') : k_Mv l yX7_readWind wsX7_readWind rmX7_readWind G Y w [.ref (ad 7)] σ σ' := by
  refine k_ofv (own := RX7) (cc := cX7_readWind) (maxL := 2) none (by decide) rfl rfl (Nat.le_of_ble_eq_true rfl) ?_
  intro p e s m below meth c A C ls hl hw
  have hx := C.1
  have hb := C.2.1
  have hown := C.2.2.2.2.1
  have hts := C.2.2.2.2.2.1
  have hks := C.2.2.2.2.2.2.1
  have hl : lv_has ls 2 [(0, .ref (ad 7))] := hl
  have b46 : ∀ (σ : MSt) (H : Heap) (locs : List Loc) (ls : Array Slot), lv_has ls 2 [] → k_W G w A s.heap σ H locs → f_X7_readWind_b46 σ = some σ' → W p l e rmX7_readWind s m [.ref (ad 7)].toArray below meth c H locs 0 0 (MQ below (k_Qv G w A σ') [.ref (ad 7)].toArray s 0 0 A) (F0 m 46 ls []) := by
    intro σ H locs ls hl hw hf
    unfold f_X7_readWind_b46 at hf
    exact k_vret C hw hf dX7_readWind_46
  unfold f_X7_readWind at hf
  refine lv_aload_n hx hb dX7_readWind_0 rfl (lv_at hl 0 rfl) ?_
  refine lv_aload_n hx hb dX7_readWind_1 rfl (lv_at hl 0 rfl) ?_
  obtain ⟨hc, hf⟩ := k_ckE hf
  obtain ⟨o1002, eo⟩ : ∃ y : Nat, y = (σ.1 7 1).toNatClampNeg := ⟨_, rfl⟩
  have hf := k_nmE eo hf
  have Lo1002 := k_chL LC hc eo
  refine k_get C hw (LC_7 LC) (ci := 7) rfl k_in7 1 (by decide) lk7_19 (v := .ref (ad o1002)) (congrArg some (k_chR hc eo)) dX7_readWind_2 ?_
  refine k_getN C hw (LX0_o Lo1002) (ci := 0) rfl k_in0 10 (by decide) ln7_121 (v := .int (σ.1 o1002 10)) rfl dX7_readWind_5 ?_
  refine lv_bipush (v := (20 : Int32)) hx hb dX7_readWind_8 (by decide) ?_
  obtain ⟨σ1, hq, hf⟩ := k_bvE hf
  refine k_callVv C hw (c_X7_needRoom l G Y w ad LC (σ.1 o1002 10) (20 : Int32) σ σ1 hq) (cwV 2 hts gX7_readWind_X7_needRoom rfl rfl rfl (by decide +kernel) ⟨Nat.le_of_ble_eq_true rfl, Nat.le_of_ble_eq_true rfl⟩) (k_recv C hw (LC_7 LC) rfl) rfl hl.1 rfl (Nat.le_of_ble_eq_true rfl) dX7_readWind_10 (fun H locs hw => ?_)
  refine lv_aload_n hx hb dX7_readWind_13 rfl (lv_at hl 0 rfl) ?_
  refine lv_dup hx hb dX7_readWind_14 rfl ?_
  refine k_get C hw (LC_7 LC) (ci := 7) rfl k_in7 2 (by decide) lk7_28 (v := .int (σ1.1 7 2)) rfl dX7_readWind_15 ?_
  refine lv_iconst (v := (1 : Int32)) hx hb dX7_readWind_18 (by decide) ?_
  refine lv_iadd hx hb dX7_readWind_19 ?_
  refine k_put C hw (LC_7 LC) (ci := 7) rfl k_in7 tyX7 tyX7_ok nmX7 2 (by decide) lk7_28 rfl ⟨rfl, rfl⟩ rfl dX7_readWind_20 (fun σ2 eq H locs hw => ?_)
  have hf := k_nmE eq hf
  refine lv_aload_n hx hb dX7_readWind_23 rfl (lv_at hl 0 rfl) ?_
  refine lv_iconst (v := (0 : Int32)) hx hb dX7_readWind_24 (by decide) ?_
  refine lv_bipush (v := (9 : Int32)) hx hb dX7_readWind_25 (by decide) ?_
  obtain ⟨q4, σ3, hq, hf⟩ := k_bdE hf
  refine k_callVi C hw (c_X7_takeNumber l G Y w ad LC (0 : Int32) (9 : Int32) σ2 q4 σ3 hq) (cwV 2 hts gX7_readWind_X7_takeNumber rfl rfl rfl (by decide +kernel) ⟨Nat.le_of_ble_eq_true rfl, Nat.le_of_ble_eq_true rfl⟩) (k_recv C hw (LC_7 LC) rfl) rfl hl.1 rfl (Nat.le_of_ble_eq_true rfl) dX7_readWind_27 (fun H locs hw => ?_)
  refine lv_istore_n (lv' := [(1, .int q4), (0, .ref (ad 7))]) hx hb dX7_readWind_30 rfl hl (by decide) rfl (fun ls hl => ?_)
  refine lv_aload_n hx hb dX7_readWind_31 rfl (lv_at hl 1 rfl) ?_
  refine k_get C hw (LC_7 LC) (ci := 7) rfl k_in7 4 (by decide) lk7_35 (v := .int (σ3.1 7 4)) rfl dX7_readWind_32 ?_
  refine lv_if_ne (tgt := 46) hx hb dX7_readWind_35 (by decide) (fun h => ?_) (fun h => ?_)
  · have hf := k_ifF h hf
    exact b46 σ3 _ _ _ (lv_sub hl [] rfl) hw hf
  · have hf := k_ifT h hf
    refine lv_aload_n hx hb dX7_readWind_38 rfl (lv_at hl 1 rfl) ?_
    obtain ⟨hc, hf⟩ := k_ckE hf
    obtain ⟨o1039, eo⟩ : ∃ y : Nat, y = (σ3.1 7 1).toNatClampNeg := ⟨_, rfl⟩
    have hf := k_nmE eo hf
    have Lo1039 := k_chL LC hc eo
    refine k_get C hw (LC_7 LC) (ci := 7) rfl k_in7 1 (by decide) lk7_19 (v := .ref (ad o1039)) (congrArg some (k_chR hc eo)) dX7_readWind_39 ?_
    refine lv_iload_n hx hb dX7_readWind_42 rfl (lv_at hl 0 rfl) ?_
    obtain ⟨σ5, hq, hf⟩ := k_bvE hf
    refine k_callVv C hw (c_X0_addWind l G Y w ad o1039 Lo1039 q4 σ3 σ5 hq) (cwV 1 hts gX7_readWind_X0_addWind rfl rfl rfl (by decide +kernel) ⟨Nat.le_of_ble_eq_true rfl, Nat.le_of_ble_eq_true rfl⟩) (k_recv C hw (LX0_o Lo1039) rfl) rfl hl.1 rfl (Nat.le_of_ble_eq_true rfl) dX7_readWind_43 (fun H locs hw => ?_)
    exact b46 σ5 _ _ _ (lv_sub hl [] rfl) hw hf
def f_X7_needOnce_b18  (x2 : Int32) (σ : MSt) : Option MSt :=
  k_nm (mI σ 7 3 ((σ.1 7 3) ||| x2)) fun σ1 =>
  some σ1
def f_X7_needOnce  (p1 : Int32) (σ : MSt) : Option MSt :=
  k_nm ((1 : Int32) <<< (p1 &&& 31)) fun u2 =>
  if ((σ.1 7 3) &&& u2) = 0 then
  (f_X7_needOnce_b18 u2 σ)
  else
  (k_bv (f_X7_fail (3 : Int32) σ) fun σ3 =>
  f_X7_needOnce_b18 u2 σ3)
def rmX7_needOnce : Room := { frames := 1, cells := 0, slots := 0, locals := 21 }
set_option maxHeartbeats 4000000 in
set_option maxRecDepth 100000 in
theorem c_X7_needOnce (l : Launch) (G : va_G) (Y : CY) (w : MSt → va_W) (ad : Nat → Nat)  (LC : LayC ad w Y) (p1 : Int32) (σ : MSt) (σ' : MSt) (hf : f_X7_needOnce p1 σ = some σ') : k_Mv l yX7_needOnce wsX7_needOnce rmX7_needOnce G Y w [.ref (ad 7), .int p1] σ σ' := by
  refine k_ofv (own := RX7) (cc := cX7_needOnce) (maxL := 3) none (by decide) rfl rfl (Nat.le_of_ble_eq_true rfl) ?_
  intro p e s m below meth c A C ls hl hw
  have hx := C.1
  have hb := C.2.1
  have hown := C.2.2.2.2.1
  have hts := C.2.2.2.2.2.1
  have hks := C.2.2.2.2.2.2.1
  have hl : lv_has ls 3 [(0, .ref (ad 7)), (1, .int p1)] := hl
  have b18 : ∀ (x2 : Int32) (σ : MSt) (H : Heap) (locs : List Loc) (ls : Array Slot), lv_has ls 3 [(0, .ref (ad 7)), (2, .int x2)] → k_W G w A s.heap σ H locs → f_X7_needOnce_b18 x2 σ = some σ' → W p l e rmX7_needOnce s m [.ref (ad 7), .int p1].toArray below meth c H locs 0 0 (MQ below (k_Qv G w A σ') [.ref (ad 7), .int p1].toArray s 0 0 A) (F0 m 18 ls []) := by
    intro x2 σ H locs ls hl hw hf
    unfold f_X7_needOnce_b18 at hf
    refine lv_aload_n hx hb dX7_needOnce_18 rfl (lv_at hl 0 rfl) ?_
    refine lv_dup hx hb dX7_needOnce_19 rfl ?_
    refine k_get C hw (LC_7 LC) (ci := 7) rfl k_in7 3 (by decide) lk7_32 (v := .int (σ.1 7 3)) rfl dX7_needOnce_20 ?_
    refine lv_iload_n hx hb dX7_needOnce_23 rfl (lv_at hl 1 rfl) ?_
    refine lv_ior hx hb dX7_needOnce_24 ?_
    refine k_put C hw (LC_7 LC) (ci := 7) rfl k_in7 tyX7 tyX7_ok nmX7 3 (by decide) lk7_32 rfl ⟨rfl, rfl⟩ rfl dX7_needOnce_25 (fun σ1 eq H locs hw => ?_)
    have hf := k_nmE eq hf
    exact k_vret C hw hf dX7_needOnce_28
  unfold f_X7_needOnce at hf
  refine lv_iconst (v := (1 : Int32)) hx hb dX7_needOnce_0 (by decide) ?_
  refine lv_iload_n hx hb dX7_needOnce_1 rfl (lv_at hl 1 rfl) ?_
  refine lv_ishl hx hb dX7_needOnce_2 ?_
  refine lv_topi (fun u2 ex => ?_)
  have hf := k_nmE ex hf
  refine lv_istore_n (lv' := [(2, .int u2), (0, .ref (ad 7)), (1, .int p1)]) hx hb dX7_needOnce_3 rfl hl (by decide) rfl (fun ls hl => ?_)
  refine lv_aload_n hx hb dX7_needOnce_4 rfl (lv_at hl 1 rfl) ?_
  refine k_get C hw (LC_7 LC) (ci := 7) rfl k_in7 3 (by decide) lk7_32 (v := .int (σ.1 7 3)) rfl dX7_needOnce_5 ?_
  refine lv_iload_n hx hb dX7_needOnce_8 rfl (lv_at hl 0 rfl) ?_
  refine lv_iand hx hb dX7_needOnce_9 ?_
  refine lv_if_eq (tgt := 18) hx hb dX7_needOnce_10 (by decide) (fun h => ?_) (fun h => ?_)
  · have hf := k_ifT h hf
    exact b18 u2 σ _ _ _ (lv_sub hl [1, 0] rfl) hw hf
  · have hf := k_ifF h hf
    refine lv_aload_n hx hb dX7_needOnce_13 rfl (lv_at hl 1 rfl) ?_
    refine lv_iconst (v := (3 : Int32)) hx hb dX7_needOnce_14 (by decide) ?_
    obtain ⟨σ3, hq, hf⟩ := k_bvE hf
    refine k_callVv C hw (c_X7_fail l G Y w ad LC (3 : Int32) σ σ3 hq) (cwV 1 hts gX7_needOnce_X7_fail rfl rfl rfl (by decide +kernel) ⟨Nat.le_of_ble_eq_true rfl, Nat.le_of_ble_eq_true rfl⟩) (k_recv C hw (LC_7 LC) rfl) rfl hl.1 rfl (Nat.le_of_ble_eq_true rfl) dX7_needOnce_15 (fun H locs hw => ?_)
    exact b18 u2 σ3 _ _ _ (lv_sub hl [1, 0] rfl) hw hf
def f_X7_readShip   (σ : MSt) : Option MSt :=
  k_bv (f_X7_needOnce (14 : Int32) σ) fun σ1 =>
  k_nm (mI σ1 7 2 ((σ1.1 7 2) + (1 : Int32))) fun σ2 =>
  k_ck (k_ch (σ2.1 7 1)) <|
  k_nm (σ2.1 7 1).toNatClampNeg fun o1017 =>
  k_bd (f_X7_toldBay σ2) fun q4 σ3 =>
  k_nm (mI σ3 o1017 11 q4) fun σ5 =>
  k_nm (mI σ5 7 2 ((σ5.1 7 2) + (1 : Int32))) fun σ6 =>
  some σ6
def rmX7_readShip : Room := { frames := 2, cells := 0, slots := 0, locals := 43 }
set_option maxHeartbeats 4000000 in
set_option maxRecDepth 100000 in
theorem c_X7_readShip (l : Launch) (G : va_G) (Y : CY) (w : MSt → va_W) (ad : Nat → Nat)  (LC : LayC ad w Y)  (σ : MSt) (σ' : MSt) (hf : f_X7_readShip σ = some σ') : k_Mv l yX7_readShip wsX7_readShip rmX7_readShip G Y w [.ref (ad 7)] σ σ' := by
  refine k_ofv (own := RX7) (cc := cX7_readShip) (maxL := 1) none (by decide) rfl rfl (Nat.le_of_ble_eq_true rfl) ?_
  intro p e s m below meth c A C ls hl hw
  have hx := C.1
  have hb := C.2.1
  have hown := C.2.2.2.2.1
  have hts := C.2.2.2.2.2.1
  have hks := C.2.2.2.2.2.2.1
  have hl : lv_has ls 1 [(0, .ref (ad 7))] := hl
  unfold f_X7_readShip at hf
  refine lv_aload_n hx hb dX7_readShip_0 rfl (lv_at hl 0 rfl) ?_
  refine lv_bipush (v := (14 : Int32)) hx hb dX7_readShip_1 (by decide) ?_
  obtain ⟨σ1, hq, hf⟩ := k_bvE hf
  refine k_callVv C hw (c_X7_needOnce l G Y w ad LC (14 : Int32) σ σ1 hq) (cwV 1 hts gX7_readShip_X7_needOnce rfl rfl rfl (by decide +kernel) ⟨Nat.le_of_ble_eq_true rfl, Nat.le_of_ble_eq_true rfl⟩) (k_recv C hw (LC_7 LC) rfl) rfl hl.1 rfl (Nat.le_of_ble_eq_true rfl) dX7_readShip_3 (fun H locs hw => ?_)
  refine lv_aload_n hx hb dX7_readShip_6 rfl (lv_at hl 0 rfl) ?_
  refine lv_dup hx hb dX7_readShip_7 rfl ?_
  refine k_get C hw (LC_7 LC) (ci := 7) rfl k_in7 2 (by decide) lk7_28 (v := .int (σ1.1 7 2)) rfl dX7_readShip_8 ?_
  refine lv_iconst (v := (1 : Int32)) hx hb dX7_readShip_11 (by decide) ?_
  refine lv_iadd hx hb dX7_readShip_12 ?_
  refine k_put C hw (LC_7 LC) (ci := 7) rfl k_in7 tyX7 tyX7_ok nmX7 2 (by decide) lk7_28 rfl ⟨rfl, rfl⟩ rfl dX7_readShip_13 (fun σ2 eq H locs hw => ?_)
  have hf := k_nmE eq hf
  refine lv_aload_n hx hb dX7_readShip_16 rfl (lv_at hl 0 rfl) ?_
  obtain ⟨hc, hf⟩ := k_ckE hf
  obtain ⟨o1017, eo⟩ : ∃ y : Nat, y = (σ2.1 7 1).toNatClampNeg := ⟨_, rfl⟩
  have hf := k_nmE eo hf
  have Lo1017 := k_chL LC hc eo
  refine k_get C hw (LC_7 LC) (ci := 7) rfl k_in7 1 (by decide) lk7_19 (v := .ref (ad o1017)) (congrArg some (k_chR hc eo)) dX7_readShip_17 ?_
  refine lv_aload_n hx hb dX7_readShip_20 rfl (lv_at hl 0 rfl) ?_
  obtain ⟨q4, σ3, hq, hf⟩ := k_bdE hf
  refine k_callVi C hw (c_X7_toldBay l G Y w ad LC σ2 q4 σ3 hq) (cwV 0 hts gX7_readShip_X7_toldBay rfl rfl rfl (by decide +kernel) ⟨Nat.le_of_ble_eq_true rfl, Nat.le_of_ble_eq_true rfl⟩) (k_recv C hw (LC_7 LC) rfl) rfl hl.1 rfl (Nat.le_of_ble_eq_true rfl) dX7_readShip_21 (fun H locs hw => ?_)
  refine k_putN C hw (LX0_o Lo1017) (ci := 0) rfl k_in0 tyX0 tyX0_ok nmX0 11 (by decide) ln7_130 rfl ⟨rfl, rfl⟩ rfl dX7_readShip_24 (fun σ5 eq H locs hw => ?_)
  have hf := k_nmE eq hf
  refine lv_aload_n hx hb dX7_readShip_27 rfl (lv_at hl 0 rfl) ?_
  refine lv_dup hx hb dX7_readShip_28 rfl ?_
  refine k_get C hw (LC_7 LC) (ci := 7) rfl k_in7 2 (by decide) lk7_28 (v := .int (σ5.1 7 2)) rfl dX7_readShip_29 ?_
  refine lv_iconst (v := (1 : Int32)) hx hb dX7_readShip_32 (by decide) ?_
  refine lv_iadd hx hb dX7_readShip_33 ?_
  refine k_put C hw (LC_7 LC) (ci := 7) rfl k_in7 tyX7 tyX7_ok nmX7 2 (by decide) lk7_28 rfl ⟨rfl, rfl⟩ rfl dX7_readShip_34 (fun σ6 eq H locs hw => ?_)
  have hf := k_nmE eq hf
  exact k_vret C hw hf dX7_readShip_37
def f_X7_readSetting_b75   (σ : MSt) : Option MSt :=
  some σ
def f_X7_readSetting  (p1 : Int32) (σ : MSt) : Option MSt :=
  k_bv (f_X7_needOnce p1 σ) fun σ1 =>
  k_nm (mI σ1 7 2 ((σ1.1 7 2) + (1 : Int32))) fun σ2 =>
  if p1 = (15 : Int32) then
  (k_ck (k_ch (σ2.1 7 1)) <|
  k_nm (σ2.1 7 1).toNatClampNeg fun o1022 =>
  k_bd (f_X7_takeNumber (1 : Int32) (9 : Int32) σ2) fun q10 σ9 =>
  k_nm (mI σ9 o1022 12 q10) fun σ11 =>
  f_X7_readSetting_b75 σ11)
  else
  (if p1 = (16 : Int32) then
  (k_ck (k_ch (σ2.1 7 1)) <|
  k_nm (σ2.1 7 1).toNatClampNeg fun o1045 =>
  k_bd (f_X7_takeNumber (0 : Int32) (100 : Int32) σ2) fun q7 σ6 =>
  k_nm (mI σ6 o1045 13 q7) fun σ8 =>
  f_X7_readSetting_b75 σ8)
  else
  (k_ck (k_ch (σ2.1 7 1)) <|
  k_nm (σ2.1 7 1).toNatClampNeg fun o1062 =>
  k_bd (f_X7_takeNumber (0 : Int32) (99999 : Int32) σ2) fun q4 σ3 =>
  k_nm (mI σ3 o1062 14 q4) fun σ5 =>
  f_X7_readSetting_b75 σ5))
def rmX7_readSetting : Room := { frames := 2, cells := 0, slots := 0, locals := 44 }
set_option maxHeartbeats 4000000 in
set_option maxRecDepth 100000 in
theorem c_X7_readSetting (l : Launch) (G : va_G) (Y : CY) (w : MSt → va_W) (ad : Nat → Nat)  (LC : LayC ad w Y) (p1 : Int32) (σ : MSt) (σ' : MSt) (hf : f_X7_readSetting p1 σ = some σ') : k_Mv l yX7_readSetting wsX7_readSetting rmX7_readSetting G Y w [.ref (ad 7), .int p1] σ σ' := by
  refine k_ofv (own := RX7) (cc := cX7_readSetting) (maxL := 2) none (by decide) rfl rfl (Nat.le_of_ble_eq_true rfl) ?_
  intro p e s m below meth c A C ls hl hw
  have hx := C.1
  have hb := C.2.1
  have hown := C.2.2.2.2.1
  have hts := C.2.2.2.2.2.1
  have hks := C.2.2.2.2.2.2.1
  have hl : lv_has ls 2 [(0, .ref (ad 7)), (1, .int p1)] := hl
  have b75 : ∀ (σ : MSt) (H : Heap) (locs : List Loc) (ls : Array Slot), lv_has ls 2 [] → k_W G w A s.heap σ H locs → f_X7_readSetting_b75 σ = some σ' → W p l e rmX7_readSetting s m [.ref (ad 7), .int p1].toArray below meth c H locs 0 0 (MQ below (k_Qv G w A σ') [.ref (ad 7), .int p1].toArray s 0 0 A) (F0 m 75 ls []) := by
    intro σ H locs ls hl hw hf
    unfold f_X7_readSetting_b75 at hf
    exact k_vret C hw hf dX7_readSetting_75
  unfold f_X7_readSetting at hf
  refine lv_aload_n hx hb dX7_readSetting_0 rfl (lv_at hl 0 rfl) ?_
  refine lv_iload_n hx hb dX7_readSetting_1 rfl (lv_at hl 1 rfl) ?_
  obtain ⟨σ1, hq, hf⟩ := k_bvE hf
  refine k_callVv C hw (c_X7_needOnce l G Y w ad LC p1 σ σ1 hq) (cwV 1 hts gX7_readSetting_X7_needOnce rfl rfl rfl (by decide +kernel) ⟨Nat.le_of_ble_eq_true rfl, Nat.le_of_ble_eq_true rfl⟩) (k_recv C hw (LC_7 LC) rfl) rfl hl.1 rfl (Nat.le_of_ble_eq_true rfl) dX7_readSetting_2 (fun H locs hw => ?_)
  refine lv_aload_n hx hb dX7_readSetting_5 rfl (lv_at hl 0 rfl) ?_
  refine lv_dup hx hb dX7_readSetting_6 rfl ?_
  refine k_get C hw (LC_7 LC) (ci := 7) rfl k_in7 2 (by decide) lk7_28 (v := .int (σ1.1 7 2)) rfl dX7_readSetting_7 ?_
  refine lv_iconst (v := (1 : Int32)) hx hb dX7_readSetting_10 (by decide) ?_
  refine lv_iadd hx hb dX7_readSetting_11 ?_
  refine k_put C hw (LC_7 LC) (ci := 7) rfl k_in7 tyX7 tyX7_ok nmX7 2 (by decide) lk7_28 rfl ⟨rfl, rfl⟩ rfl dX7_readSetting_12 (fun σ2 eq H locs hw => ?_)
  have hf := k_nmE eq hf
  refine lv_iload_n hx hb dX7_readSetting_15 rfl (lv_at hl 1 rfl) ?_
  refine lv_bipush (v := (15 : Int32)) hx hb dX7_readSetting_16 (by decide) ?_
  refine lv_icmp_ne (tgt := 38) hx hb dX7_readSetting_18 (by decide) (fun h => ?_) (fun h => ?_)
  · have hf := k_ifF h hf
    refine lv_iload_n hx hb dX7_readSetting_38 rfl (lv_at hl 1 rfl) ?_
    refine lv_bipush (v := (16 : Int32)) hx hb dX7_readSetting_39 (by decide) ?_
    refine lv_icmp_ne (tgt := 61) hx hb dX7_readSetting_41 (by decide) (fun h => ?_) (fun h => ?_)
    · have hf := k_ifF h hf
      refine lv_aload_n hx hb dX7_readSetting_61 rfl (lv_at hl 0 rfl) ?_
      obtain ⟨hc, hf⟩ := k_ckE hf
      obtain ⟨o1062, eo⟩ : ∃ y : Nat, y = (σ2.1 7 1).toNatClampNeg := ⟨_, rfl⟩
      have hf := k_nmE eo hf
      have Lo1062 := k_chL LC hc eo
      refine k_get C hw (LC_7 LC) (ci := 7) rfl k_in7 1 (by decide) lk7_19 (v := .ref (ad o1062)) (congrArg some (k_chR hc eo)) dX7_readSetting_62 ?_
      refine lv_aload_n hx hb dX7_readSetting_65 rfl (lv_at hl 0 rfl) ?_
      refine lv_iconst (v := (0 : Int32)) hx hb dX7_readSetting_66 (by decide) ?_
      refine lv_ldc (v := (99999 : Int32)) hx hb hown (hks.ts _ ck7_139) dX7_readSetting_67 ?_
      obtain ⟨q4, σ3, hq, hf⟩ := k_bdE hf
      refine k_callVi C hw (c_X7_takeNumber l G Y w ad LC (0 : Int32) (99999 : Int32) σ2 q4 σ3 hq) (cwV 2 hts gX7_readSetting_X7_takeNumber rfl rfl rfl (by decide +kernel) ⟨Nat.le_of_ble_eq_true rfl, Nat.le_of_ble_eq_true rfl⟩) (k_recv C hw (LC_7 LC) rfl) rfl hl.1 rfl (Nat.le_of_ble_eq_true rfl) dX7_readSetting_69 (fun H locs hw => ?_)
      refine k_putN C hw (LX0_o Lo1062) (ci := 0) rfl k_in0 tyX0 tyX0_ok nmX0 14 (by decide) ln7_140 rfl ⟨rfl, rfl⟩ rfl dX7_readSetting_72 (fun σ5 eq H locs hw => ?_)
      have hf := k_nmE eq hf
      exact b75 σ5 _ _ _ (lv_sub hl [] rfl) hw hf
    · have hf := k_ifT h hf
      refine lv_aload_n hx hb dX7_readSetting_44 rfl (lv_at hl 0 rfl) ?_
      obtain ⟨hc, hf⟩ := k_ckE hf
      obtain ⟨o1045, eo⟩ : ∃ y : Nat, y = (σ2.1 7 1).toNatClampNeg := ⟨_, rfl⟩
      have hf := k_nmE eo hf
      have Lo1045 := k_chL LC hc eo
      refine k_get C hw (LC_7 LC) (ci := 7) rfl k_in7 1 (by decide) lk7_19 (v := .ref (ad o1045)) (congrArg some (k_chR hc eo)) dX7_readSetting_45 ?_
      refine lv_aload_n hx hb dX7_readSetting_48 rfl (lv_at hl 0 rfl) ?_
      refine lv_iconst (v := (0 : Int32)) hx hb dX7_readSetting_49 (by decide) ?_
      refine lv_bipush (v := (100 : Int32)) hx hb dX7_readSetting_50 (by decide) ?_
      obtain ⟨q7, σ6, hq, hf⟩ := k_bdE hf
      refine k_callVi C hw (c_X7_takeNumber l G Y w ad LC (0 : Int32) (100 : Int32) σ2 q7 σ6 hq) (cwV 2 hts gX7_readSetting_X7_takeNumber rfl rfl rfl (by decide +kernel) ⟨Nat.le_of_ble_eq_true rfl, Nat.le_of_ble_eq_true rfl⟩) (k_recv C hw (LC_7 LC) rfl) rfl hl.1 rfl (Nat.le_of_ble_eq_true rfl) dX7_readSetting_52 (fun H locs hw => ?_)
      refine k_putN C hw (LX0_o Lo1045) (ci := 0) rfl k_in0 tyX0 tyX0_ok nmX0 13 (by decide) ln7_136 rfl ⟨rfl, rfl⟩ rfl dX7_readSetting_55 (fun σ8 eq H locs hw => ?_)
      have hf := k_nmE eq hf
      refine lv_goto (tgt := 75) hx hb dX7_readSetting_58 (by decide) ?_
      exact b75 σ8 _ _ _ (lv_sub hl [] rfl) hw hf
  · have hf := k_ifT h hf
    refine lv_aload_n hx hb dX7_readSetting_21 rfl (lv_at hl 0 rfl) ?_
    obtain ⟨hc, hf⟩ := k_ckE hf
    obtain ⟨o1022, eo⟩ : ∃ y : Nat, y = (σ2.1 7 1).toNatClampNeg := ⟨_, rfl⟩
    have hf := k_nmE eo hf
    have Lo1022 := k_chL LC hc eo
    refine k_get C hw (LC_7 LC) (ci := 7) rfl k_in7 1 (by decide) lk7_19 (v := .ref (ad o1022)) (congrArg some (k_chR hc eo)) dX7_readSetting_22 ?_
    refine lv_aload_n hx hb dX7_readSetting_25 rfl (lv_at hl 0 rfl) ?_
    refine lv_iconst (v := (1 : Int32)) hx hb dX7_readSetting_26 (by decide) ?_
    refine lv_bipush (v := (9 : Int32)) hx hb dX7_readSetting_27 (by decide) ?_
    obtain ⟨q10, σ9, hq, hf⟩ := k_bdE hf
    refine k_callVi C hw (c_X7_takeNumber l G Y w ad LC (1 : Int32) (9 : Int32) σ2 q10 σ9 hq) (cwV 2 hts gX7_readSetting_X7_takeNumber rfl rfl rfl (by decide +kernel) ⟨Nat.le_of_ble_eq_true rfl, Nat.le_of_ble_eq_true rfl⟩) (k_recv C hw (LC_7 LC) rfl) rfl hl.1 rfl (Nat.le_of_ble_eq_true rfl) dX7_readSetting_29 (fun H locs hw => ?_)
    refine k_putN C hw (LX0_o Lo1022) (ci := 0) rfl k_in0 tyX0 tyX0_ok nmX0 12 (by decide) ln7_133 rfl ⟨rfl, rfl⟩ rfl dX7_readSetting_32 (fun σ11 eq H locs hw => ?_)
    have hf := k_nmE eq hf
    refine lv_goto (tgt := 75) hx hb dX7_readSetting_35 (by decide) ?_
    exact b75 σ11 _ _ _ (lv_sub hl [] rfl) hw hf
def f_X7_countKnot_b14   (σ : MSt) : Option MSt :=
  k_nm (mI σ 7 8 ((σ.1 7 8) + (1 : Int32))) fun σ1 =>
  some σ1
def f_X7_countKnot   (σ : MSt) : Option MSt :=
  if (σ.1 7 8) < (64 : Int32) then
  (f_X7_countKnot_b14 σ)
  else
  (k_bv (f_X7_fail (2 : Int32) σ) fun σ2 =>
  f_X7_countKnot_b14 σ2)
def rmX7_countKnot : Room := { frames := 1, cells := 0, slots := 0, locals := 21 }
set_option maxHeartbeats 4000000 in
set_option maxRecDepth 100000 in
theorem c_X7_countKnot (l : Launch) (G : va_G) (Y : CY) (w : MSt → va_W) (ad : Nat → Nat)  (LC : LayC ad w Y)  (σ : MSt) (σ' : MSt) (hf : f_X7_countKnot σ = some σ') : k_Mv l yX7_countKnot wsX7_countKnot rmX7_countKnot G Y w [.ref (ad 7)] σ σ' := by
  refine k_ofv (own := RX7) (cc := cX7_countKnot) (maxL := 1) none (by decide) rfl rfl (Nat.le_of_ble_eq_true rfl) ?_
  intro p e s m below meth c A C ls hl hw
  have hx := C.1
  have hb := C.2.1
  have hown := C.2.2.2.2.1
  have hts := C.2.2.2.2.2.1
  have hks := C.2.2.2.2.2.2.1
  have hl : lv_has ls 1 [(0, .ref (ad 7))] := hl
  have b14 : ∀ (σ : MSt) (H : Heap) (locs : List Loc) (ls : Array Slot), lv_has ls 1 [(0, .ref (ad 7))] → k_W G w A s.heap σ H locs → f_X7_countKnot_b14 σ = some σ' → W p l e rmX7_countKnot s m [.ref (ad 7)].toArray below meth c H locs 0 0 (MQ below (k_Qv G w A σ') [.ref (ad 7)].toArray s 0 0 A) (F0 m 14 ls []) := by
    intro σ H locs ls hl hw hf
    unfold f_X7_countKnot_b14 at hf
    refine lv_aload_n hx hb dX7_countKnot_14 rfl (lv_at hl 0 rfl) ?_
    refine lv_dup hx hb dX7_countKnot_15 rfl ?_
    refine k_get C hw (LC_7 LC) (ci := 7) rfl k_in7 8 (by decide) lk7_38 (v := .int (σ.1 7 8)) rfl dX7_countKnot_16 ?_
    refine lv_iconst (v := (1 : Int32)) hx hb dX7_countKnot_19 (by decide) ?_
    refine lv_iadd hx hb dX7_countKnot_20 ?_
    refine k_put C hw (LC_7 LC) (ci := 7) rfl k_in7 tyX7 tyX7_ok nmX7 8 (by decide) lk7_38 rfl ⟨rfl, rfl⟩ rfl dX7_countKnot_21 (fun σ1 eq H locs hw => ?_)
    have hf := k_nmE eq hf
    exact k_vret C hw hf dX7_countKnot_24
  unfold f_X7_countKnot at hf
  refine lv_aload_n hx hb dX7_countKnot_0 rfl (lv_at hl 0 rfl) ?_
  refine k_get C hw (LC_7 LC) (ci := 7) rfl k_in7 8 (by decide) lk7_38 (v := .int (σ.1 7 8)) rfl dX7_countKnot_1 ?_
  refine lv_bipush (v := (64 : Int32)) hx hb dX7_countKnot_4 (by decide) ?_
  refine lv_icmp_lt (tgt := 14) hx hb dX7_countKnot_6 (by decide) (fun h => ?_) (fun h => ?_)
  · have hf := k_ifT h hf
    exact b14 σ _ _ _ (lv_sub hl [0] rfl) hw hf
  · have hf := k_ifF h hf
    refine lv_aload_n hx hb dX7_countKnot_9 rfl (lv_at hl 0 rfl) ?_
    refine lv_iconst (v := (2 : Int32)) hx hb dX7_countKnot_10 (by decide) ?_
    obtain ⟨σ2, hq, hf⟩ := k_bvE hf
    refine k_callVv C hw (c_X7_fail l G Y w ad LC (2 : Int32) σ σ2 hq) (cwV 1 hts gX7_countKnot_X7_fail rfl rfl rfl (by decide +kernel) ⟨Nat.le_of_ble_eq_true rfl, Nat.le_of_ble_eq_true rfl⟩) (k_recv C hw (LC_7 LC) rfl) rfl hl.1 rfl (Nat.le_of_ble_eq_true rfl) dX7_countKnot_11 (fun H locs hw => ?_)
    exact b14 σ2 _ _ _ (lv_sub hl [0] rfl) hw hf
def f_X7_letWait_b32   (σ : MSt) : Option MSt :=
  some σ
def f_X7_letWait  (p1 : Int32) (σ : MSt) : Option MSt :=
  if (72 : Int32) ≤ (σ.1 7 7) then
  (f_X7_letWait_b32 σ)
  else
  (k_ck (k_inb (σ.1 7 7) 72) <|
  k_nm (mI σ 8 ((σ.1 7 7)).toNatClampNeg p1) fun σ1 =>
  k_nm (mI σ1 7 7 ((σ1.1 7 7) + (1 : Int32))) fun σ2 =>
  f_X7_letWait_b32 σ2)
def rmX7_letWait : Room := { frames := 0, cells := 0, slots := 0, locals := 0 }
set_option maxHeartbeats 4000000 in
set_option maxRecDepth 100000 in
theorem c_X7_letWait (l : Launch) (G : va_G) (Y : CY) (w : MSt → va_W) (ad : Nat → Nat)  (LC : LayC ad w Y) (p1 : Int32) (σ : MSt) (σ' : MSt) (hf : f_X7_letWait p1 σ = some σ') : k_Mv l yX7_letWait wsX7_letWait rmX7_letWait G Y w [.ref (ad 7), .int p1] σ σ' := by
  refine k_ofv (own := RX7) (cc := cX7_letWait) (maxL := 2) none (by decide) rfl rfl (Nat.le_of_ble_eq_true rfl) ?_
  intro p e s m below meth c A C ls hl hw
  have hx := C.1
  have hb := C.2.1
  have hown := C.2.2.2.2.1
  have hts := C.2.2.2.2.2.1
  have hks := C.2.2.2.2.2.2.1
  have hl : lv_has ls 2 [(0, .ref (ad 7)), (1, .int p1)] := hl
  have b32 : ∀ (σ : MSt) (H : Heap) (locs : List Loc) (ls : Array Slot), lv_has ls 2 [] → k_W G w A s.heap σ H locs → f_X7_letWait_b32 σ = some σ' → W p l e rmX7_letWait s m [.ref (ad 7), .int p1].toArray below meth c H locs 0 0 (MQ below (k_Qv G w A σ') [.ref (ad 7), .int p1].toArray s 0 0 A) (F0 m 32 ls []) := by
    intro σ H locs ls hl hw hf
    unfold f_X7_letWait_b32 at hf
    exact k_vret C hw hf dX7_letWait_32
  unfold f_X7_letWait at hf
  refine lv_aload_n hx hb dX7_letWait_0 rfl (lv_at hl 0 rfl) ?_
  refine k_get C hw (LC_7 LC) (ci := 7) rfl k_in7 7 (by decide) lk7_158 (v := .int (σ.1 7 7)) rfl dX7_letWait_1 ?_
  refine lv_aload_n hx hb dX7_letWait_4 rfl (lv_at hl 0 rfl) ?_
  refine k_get C hw (LC_7 LC) (ci := 7) rfl k_in7 6 (by decide) lk7_9 (v := .ref (ad 8)) rfl dX7_letWait_5 ?_
  refine k_alen C hw (LC_8 LC) (v := (72 : Int32)) (by decide) dX7_letWait_8 ?_
  refine lv_icmp_ge (tgt := 32) hx hb dX7_letWait_9 (by decide) (fun h => ?_) (fun h => ?_)
  · have hf := k_ifT h hf
    exact b32 σ _ _ _ (lv_sub hl [] rfl) hw hf
  · have hf := k_ifF h hf
    refine lv_aload_n hx hb dX7_letWait_12 rfl (lv_at hl 0 rfl) ?_
    refine k_get C hw (LC_7 LC) (ci := 7) rfl k_in7 6 (by decide) lk7_9 (v := .ref (ad 8)) rfl dX7_letWait_13 ?_
    refine lv_aload_n hx hb dX7_letWait_16 rfl (lv_at hl 0 rfl) ?_
    refine k_get C hw (LC_7 LC) (ci := 7) rfl k_in7 7 (by decide) lk7_158 (v := .int (σ.1 7 7)) rfl dX7_letWait_17 ?_
    refine lv_iload_n hx hb dX7_letWait_20 rfl (lv_at hl 1 rfl) ?_
    obtain ⟨hi, hf⟩ := k_ckE hf
    refine k_iast C hw (LC_8 LC) hi dX7_letWait_21 (fun σ1 eq H locs hw => ?_)
    have hf := k_nmE eq hf
    refine lv_aload_n hx hb dX7_letWait_22 rfl (lv_at hl 0 rfl) ?_
    refine lv_dup hx hb dX7_letWait_23 rfl ?_
    refine k_get C hw (LC_7 LC) (ci := 7) rfl k_in7 7 (by decide) lk7_158 (v := .int (σ1.1 7 7)) rfl dX7_letWait_24 ?_
    refine lv_iconst (v := (1 : Int32)) hx hb dX7_letWait_27 (by decide) ?_
    refine lv_iadd hx hb dX7_letWait_28 ?_
    refine k_put C hw (LC_7 LC) (ci := 7) rfl k_in7 tyX7 tyX7_ok nmX7 7 (by decide) lk7_158 rfl ⟨rfl, rfl⟩ rfl dX7_letWait_29 (fun σ2 eq H locs hw => ?_)
    have hf := k_nmE eq hf
    exact b32 σ2 _ _ _ (lv_sub hl [] rfl) hw hf
def f_X7_readOperand_b168   (σ : MSt) : Option MSt :=
  some σ
def f_X7_readOperand_b163   (σ : MSt) : Option MSt :=
  k_bv (f_X7_fail (1 : Int32) σ) fun σ1 =>
  f_X7_readOperand_b168 σ1
def f_X7_readOperand_b97  (x1 : Int32) (σ : MSt) : Option MSt :=
  if x1 = (41 : Int32) then
  (k_bv (f_X7_needRoom (σ.1 7 9) (8 : Int32) σ) fun σ3 =>
  k_nm (mI σ3 7 9 ((σ3.1 7 9) + (1 : Int32))) fun σ4 =>
  k_bv (f_X7_letWait (41 : Int32) σ4) fun σ5 =>
  k_nm (mI σ5 7 11 (1 : Int32)) fun σ6 =>
  f_X7_readOperand_b168 σ6)
  else
  (if x1 = (24 : Int32) then
  (if (σ.1 7 11) = 0 then
  (f_X7_readOperand_b163 σ)
  else
  (k_bv (f_X7_countKnot σ) fun σ1 =>
  k_bv (f_X7_letWait (24 : Int32) σ1) fun σ2 =>
  f_X7_readOperand_b168 σ2))
  else
  (f_X7_readOperand_b163 σ))
def f_X7_readOperand_b27   (σ : MSt) : Option MSt :=
  k_bv (f_X7_countKnot σ) fun σ1 =>
  k_ck (k_ch (σ1.1 7 1)) <|
  k_nm (σ1.1 7 1).toNatClampNeg fun o1032 =>
  k_bd (f_X9_valueOf (σ1.1 7 2) σ1) fun q3 σ2 =>
  k_bv (f_X4_add (o1032 + 7) (3 : Int32) q3 σ2) fun σ4 =>
  k_nm (mI σ4 7 10 (0 : Int32)) fun σ5 =>
  f_X7_readOperand_b168 σ5
def f_X7_readOperand  (p1 : Int32) (σ : MSt) : Option MSt :=
  if p1 = (3 : Int32) then
  (k_bd (f_X9_valueOf (σ.1 7 2) σ) fun q10 σ9 =>
  if q10 ≤ (9999 : Int32) then
  (f_X7_readOperand_b27 σ9)
  else
  (k_bv (f_X7_fail (2 : Int32) σ9) fun σ11 =>
  f_X7_readOperand_b27 σ11))
  else
  (if p1 < (25 : Int32) then
  (f_X7_readOperand_b97 p1 σ)
  else
  (if (31 : Int32) < p1 then
  (f_X7_readOperand_b97 p1 σ)
  else
  (k_bv (f_X7_countKnot σ) fun σ6 =>
  k_ck (k_ch (σ6.1 7 1)) <|
  k_nm (σ6.1 7 1).toNatClampNeg fun o1078 =>
  k_bv (f_X4_add (o1078 + 7) p1 (0 : Int32) σ6) fun σ7 =>
  k_nm (mI σ7 7 10 (0 : Int32)) fun σ8 =>
  f_X7_readOperand_b168 σ8)))
def rmX7_readOperand : Room := { frames := 2, cells := 0, slots := 0, locals := 43 }
set_option maxHeartbeats 4000000 in
set_option maxRecDepth 100000 in
theorem c_X7_readOperand (l : Launch) (G : va_G) (Y : CY) (w : MSt → va_W) (ad : Nat → Nat)  (LC : LayC ad w Y) (p1 : Int32) (σ : MSt) (σ' : MSt) (hf : f_X7_readOperand p1 σ = some σ') : k_Mv l yX7_readOperand wsX7_readOperand rmX7_readOperand G Y w [.ref (ad 7), .int p1] σ σ' := by
  refine k_ofv (own := RX7) (cc := cX7_readOperand) (maxL := 2) none (by decide) rfl rfl (Nat.le_of_ble_eq_true rfl) ?_
  intro p e s m below meth c A C ls hl hw
  have hx := C.1
  have hb := C.2.1
  have hown := C.2.2.2.2.1
  have hts := C.2.2.2.2.2.1
  have hks := C.2.2.2.2.2.2.1
  have hl : lv_has ls 2 [(0, .ref (ad 7)), (1, .int p1)] := hl
  have b168 : ∀ (σ : MSt) (H : Heap) (locs : List Loc) (ls : Array Slot), lv_has ls 2 [] → k_W G w A s.heap σ H locs → f_X7_readOperand_b168 σ = some σ' → W p l e rmX7_readOperand s m [.ref (ad 7), .int p1].toArray below meth c H locs 0 0 (MQ below (k_Qv G w A σ') [.ref (ad 7), .int p1].toArray s 0 0 A) (F0 m 168 ls []) := by
    intro σ H locs ls hl hw hf
    unfold f_X7_readOperand_b168 at hf
    exact k_vret C hw hf dX7_readOperand_168
  have b163 : ∀ (σ : MSt) (H : Heap) (locs : List Loc) (ls : Array Slot), lv_has ls 2 [(0, .ref (ad 7))] → k_W G w A s.heap σ H locs → f_X7_readOperand_b163 σ = some σ' → W p l e rmX7_readOperand s m [.ref (ad 7), .int p1].toArray below meth c H locs 0 0 (MQ below (k_Qv G w A σ') [.ref (ad 7), .int p1].toArray s 0 0 A) (F0 m 163 ls []) := by
    intro σ H locs ls hl hw hf
    unfold f_X7_readOperand_b163 at hf
    refine lv_aload_n hx hb dX7_readOperand_163 rfl (lv_at hl 0 rfl) ?_
    refine lv_iconst (v := (1 : Int32)) hx hb dX7_readOperand_164 (by decide) ?_
    obtain ⟨σ1, hq, hf⟩ := k_bvE hf
    refine k_callVv C hw (c_X7_fail l G Y w ad LC (1 : Int32) σ σ1 hq) (cwV 1 hts gX7_readOperand_X7_fail rfl rfl rfl (by decide +kernel) ⟨Nat.le_of_ble_eq_true rfl, Nat.le_of_ble_eq_true rfl⟩) (k_recv C hw (LC_7 LC) rfl) rfl hl.1 rfl (Nat.le_of_ble_eq_true rfl) dX7_readOperand_165 (fun H locs hw => ?_)
    exact b168 σ1 _ _ _ (lv_sub hl [] rfl) hw hf
  have b97 : ∀ (x1 : Int32) (σ : MSt) (H : Heap) (locs : List Loc) (ls : Array Slot), lv_has ls 2 [(0, .ref (ad 7)), (1, .int x1)] → k_W G w A s.heap σ H locs → f_X7_readOperand_b97 x1 σ = some σ' → W p l e rmX7_readOperand s m [.ref (ad 7), .int p1].toArray below meth c H locs 0 0 (MQ below (k_Qv G w A σ') [.ref (ad 7), .int p1].toArray s 0 0 A) (F0 m 97 ls []) := by
    intro x1 σ H locs ls hl hw hf
    unfold f_X7_readOperand_b97 at hf
    refine lv_iload_n hx hb dX7_readOperand_97 rfl (lv_at hl 1 rfl) ?_
    refine lv_bipush (v := (41 : Int32)) hx hb dX7_readOperand_98 (by decide) ?_
    refine lv_icmp_ne (tgt := 137) hx hb dX7_readOperand_100 (by decide) (fun h => ?_) (fun h => ?_)
    · have hf := k_ifF h hf
      refine lv_iload_n hx hb dX7_readOperand_137 rfl (lv_at hl 1 rfl) ?_
      refine lv_bipush (v := (24 : Int32)) hx hb dX7_readOperand_138 (by decide) ?_
      refine lv_icmp_ne (tgt := 163) hx hb dX7_readOperand_140 (by decide) (fun h => ?_) (fun h => ?_)
      · have hf := k_ifF h hf
        exact b163 σ _ _ _ (lv_sub hl [0] rfl) hw hf
      · have hf := k_ifT h hf
        refine lv_aload_n hx hb dX7_readOperand_143 rfl (lv_at hl 0 rfl) ?_
        refine k_get C hw (LC_7 LC) (ci := 7) rfl k_in7 11 (by decide) lk7_168 (v := .int (σ.1 7 11)) rfl dX7_readOperand_144 ?_
        refine lv_if_eq (tgt := 163) hx hb dX7_readOperand_147 (by decide) (fun h => ?_) (fun h => ?_)
        · have hf := k_ifT h hf
          exact b163 σ _ _ _ (lv_sub hl [0] rfl) hw hf
        · have hf := k_ifF h hf
          refine lv_aload_n hx hb dX7_readOperand_150 rfl (lv_at hl 0 rfl) ?_
          obtain ⟨σ1, hq, hf⟩ := k_bvE hf
          refine k_callVv C hw (c_X7_countKnot l G Y w ad LC σ σ1 hq) (cwV 0 hts gX7_readOperand_X7_countKnot rfl rfl rfl (by decide +kernel) ⟨Nat.le_of_ble_eq_true rfl, Nat.le_of_ble_eq_true rfl⟩) (k_recv C hw (LC_7 LC) rfl) rfl hl.1 rfl (Nat.le_of_ble_eq_true rfl) dX7_readOperand_151 (fun H locs hw => ?_)
          refine lv_aload_n hx hb dX7_readOperand_154 rfl (lv_at hl 0 rfl) ?_
          refine lv_bipush (v := (24 : Int32)) hx hb dX7_readOperand_155 (by decide) ?_
          obtain ⟨σ2, hq, hf⟩ := k_bvE hf
          refine k_callVv C hw (c_X7_letWait l G Y w ad LC (24 : Int32) σ1 σ2 hq) (cwV 1 hts gX7_readOperand_X7_letWait rfl rfl rfl (by decide +kernel) ⟨Nat.le_of_ble_eq_true rfl, Nat.le_of_ble_eq_true rfl⟩) (k_recv C hw (LC_7 LC) rfl) rfl hl.1 rfl (Nat.le_of_ble_eq_true rfl) dX7_readOperand_157 (fun H locs hw => ?_)
          refine lv_goto (tgt := 168) hx hb dX7_readOperand_160 (by decide) ?_
          exact b168 σ2 _ _ _ (lv_sub hl [] rfl) hw hf
    · have hf := k_ifT h hf
      refine lv_aload_n hx hb dX7_readOperand_103 rfl (lv_at hl 0 rfl) ?_
      refine lv_aload_n hx hb dX7_readOperand_104 rfl (lv_at hl 0 rfl) ?_
      refine k_get C hw (LC_7 LC) (ci := 7) rfl k_in7 9 (by decide) lk7_161 (v := .int (σ.1 7 9)) rfl dX7_readOperand_105 ?_
      refine lv_bipush (v := (8 : Int32)) hx hb dX7_readOperand_108 (by decide) ?_
      obtain ⟨σ3, hq, hf⟩ := k_bvE hf
      refine k_callVv C hw (c_X7_needRoom l G Y w ad LC (σ.1 7 9) (8 : Int32) σ σ3 hq) (cwV 2 hts gX7_readOperand_X7_needRoom rfl rfl rfl (by decide +kernel) ⟨Nat.le_of_ble_eq_true rfl, Nat.le_of_ble_eq_true rfl⟩) (k_recv C hw (LC_7 LC) rfl) rfl hl.1 rfl (Nat.le_of_ble_eq_true rfl) dX7_readOperand_110 (fun H locs hw => ?_)
      refine lv_aload_n hx hb dX7_readOperand_113 rfl (lv_at hl 0 rfl) ?_
      refine lv_dup hx hb dX7_readOperand_114 rfl ?_
      refine k_get C hw (LC_7 LC) (ci := 7) rfl k_in7 9 (by decide) lk7_161 (v := .int (σ3.1 7 9)) rfl dX7_readOperand_115 ?_
      refine lv_iconst (v := (1 : Int32)) hx hb dX7_readOperand_118 (by decide) ?_
      refine lv_iadd hx hb dX7_readOperand_119 ?_
      refine k_put C hw (LC_7 LC) (ci := 7) rfl k_in7 tyX7 tyX7_ok nmX7 9 (by decide) lk7_161 rfl ⟨rfl, rfl⟩ rfl dX7_readOperand_120 (fun σ4 eq H locs hw => ?_)
      have hf := k_nmE eq hf
      refine lv_aload_n hx hb dX7_readOperand_123 rfl (lv_at hl 0 rfl) ?_
      refine lv_bipush (v := (41 : Int32)) hx hb dX7_readOperand_124 (by decide) ?_
      obtain ⟨σ5, hq, hf⟩ := k_bvE hf
      refine k_callVv C hw (c_X7_letWait l G Y w ad LC (41 : Int32) σ4 σ5 hq) (cwV 1 hts gX7_readOperand_X7_letWait rfl rfl rfl (by decide +kernel) ⟨Nat.le_of_ble_eq_true rfl, Nat.le_of_ble_eq_true rfl⟩) (k_recv C hw (LC_7 LC) rfl) rfl hl.1 rfl (Nat.le_of_ble_eq_true rfl) dX7_readOperand_126 (fun H locs hw => ?_)
      refine lv_aload_n hx hb dX7_readOperand_129 rfl (lv_at hl 0 rfl) ?_
      refine lv_iconst (v := (1 : Int32)) hx hb dX7_readOperand_130 (by decide) ?_
      refine k_put C hw (LC_7 LC) (ci := 7) rfl k_in7 tyX7 tyX7_ok nmX7 11 (by decide) lk7_168 rfl ⟨rfl, rfl⟩ rfl dX7_readOperand_131 (fun σ6 eq H locs hw => ?_)
      have hf := k_nmE eq hf
      refine lv_goto (tgt := 168) hx hb dX7_readOperand_134 (by decide) ?_
      exact b168 σ6 _ _ _ (lv_sub hl [] rfl) hw hf
  have b27 : ∀ (σ : MSt) (H : Heap) (locs : List Loc) (ls : Array Slot), lv_has ls 2 [(0, .ref (ad 7))] → k_W G w A s.heap σ H locs → f_X7_readOperand_b27 σ = some σ' → W p l e rmX7_readOperand s m [.ref (ad 7), .int p1].toArray below meth c H locs 0 0 (MQ below (k_Qv G w A σ') [.ref (ad 7), .int p1].toArray s 0 0 A) (F0 m 27 ls []) := by
    intro σ H locs ls hl hw hf
    unfold f_X7_readOperand_b27 at hf
    refine lv_aload_n hx hb dX7_readOperand_27 rfl (lv_at hl 0 rfl) ?_
    obtain ⟨σ1, hq, hf⟩ := k_bvE hf
    refine k_callVv C hw (c_X7_countKnot l G Y w ad LC σ σ1 hq) (cwV 0 hts gX7_readOperand_X7_countKnot rfl rfl rfl (by decide +kernel) ⟨Nat.le_of_ble_eq_true rfl, Nat.le_of_ble_eq_true rfl⟩) (k_recv C hw (LC_7 LC) rfl) rfl hl.1 rfl (Nat.le_of_ble_eq_true rfl) dX7_readOperand_28 (fun H locs hw => ?_)
    refine lv_aload_n hx hb dX7_readOperand_31 rfl (lv_at hl 0 rfl) ?_
    obtain ⟨hc, hf⟩ := k_ckE hf
    obtain ⟨o1032, eo⟩ : ∃ y : Nat, y = (σ1.1 7 1).toNatClampNeg := ⟨_, rfl⟩
    have hf := k_nmE eo hf
    have Lo1032 := k_chL LC hc eo
    refine k_get C hw (LC_7 LC) (ci := 7) rfl k_in7 1 (by decide) lk7_19 (v := .ref (ad o1032)) (congrArg some (k_chR hc eo)) dX7_readOperand_32 ?_
    refine k_getN C hw (LX0_o Lo1032) (ci := 0) rfl k_in0 6 (by decide) ln7_143 (v := .ref (ad (o1032 + 7))) rfl dX7_readOperand_35 ?_
    refine lv_iconst (v := (3 : Int32)) hx hb dX7_readOperand_38 (by decide) ?_
    refine lv_aload_n hx hb dX7_readOperand_39 rfl (lv_at hl 0 rfl) ?_
    refine k_get C hw (LC_7 LC) (ci := 7) rfl k_in7 0 (by decide) lk7_15 (v := .ref (ad 1)) rfl dX7_readOperand_40 ?_
    refine lv_aload_n hx hb dX7_readOperand_43 rfl (lv_at hl 0 rfl) ?_
    refine k_get C hw (LC_7 LC) (ci := 7) rfl k_in7 2 (by decide) lk7_28 (v := .int (σ1.1 7 2)) rfl dX7_readOperand_44 ?_
    obtain ⟨q3, σ2, hq, hf⟩ := k_bdE hf
    refine k_callVi C hw (c_X9_valueOf l G Y w ad LC (σ1.1 7 2) σ1 q3 σ2 hq) (cwV 1 hts gX7_readOperand_X9_valueOf rfl rfl rfl (by decide +kernel) ⟨Nat.le_of_ble_eq_true rfl, Nat.le_of_ble_eq_true rfl⟩) (k_recv C hw (LC_1 LC) rfl) rfl hl.1 rfl (Nat.le_of_ble_eq_true rfl) dX7_readOperand_47 (fun H locs hw => ?_)
    obtain ⟨σ4, hq, hf⟩ := k_bvE hf
    refine k_callVv C hw (c_X4_add l G Y w ad (o1032 + 7) (LX0_laws Lo1032) (3 : Int32) q3 σ2 σ4 hq) (cwV 2 hts gX7_readOperand_X4_add rfl rfl rfl (by decide +kernel) ⟨Nat.le_of_ble_eq_true rfl, Nat.le_of_ble_eq_true rfl⟩) (k_recv C hw (LX4_o (LX0_laws Lo1032)) rfl) rfl hl.1 rfl (Nat.le_of_ble_eq_true rfl) dX7_readOperand_50 (fun H locs hw => ?_)
    refine lv_aload_n hx hb dX7_readOperand_53 rfl (lv_at hl 0 rfl) ?_
    refine lv_iconst (v := (0 : Int32)) hx hb dX7_readOperand_54 (by decide) ?_
    refine k_put C hw (LC_7 LC) (ci := 7) rfl k_in7 tyX7 tyX7_ok nmX7 10 (by decide) lk7_164 rfl ⟨rfl, rfl⟩ rfl dX7_readOperand_55 (fun σ5 eq H locs hw => ?_)
    have hf := k_nmE eq hf
    refine lv_goto (tgt := 168) hx hb dX7_readOperand_58 (by decide) ?_
    exact b168 σ5 _ _ _ (lv_sub hl [] rfl) hw hf
  unfold f_X7_readOperand at hf
  refine lv_iload_n hx hb dX7_readOperand_0 rfl (lv_at hl 1 rfl) ?_
  refine lv_iconst (v := (3 : Int32)) hx hb dX7_readOperand_1 (by decide) ?_
  refine lv_icmp_ne (tgt := 61) hx hb dX7_readOperand_2 (by decide) (fun h => ?_) (fun h => ?_)
  · have hf := k_ifF h hf
    refine lv_iload_n hx hb dX7_readOperand_61 rfl (lv_at hl 1 rfl) ?_
    refine lv_bipush (v := (25 : Int32)) hx hb dX7_readOperand_62 (by decide) ?_
    refine lv_icmp_lt (tgt := 97) hx hb dX7_readOperand_64 (by decide) (fun h => ?_) (fun h => ?_)
    · have hf := k_ifT h hf
      exact b97 p1 σ _ _ _ (lv_sub hl [0, 1] rfl) hw hf
    · have hf := k_ifF h hf
      refine lv_iload_n hx hb dX7_readOperand_67 rfl (lv_at hl 1 rfl) ?_
      refine lv_bipush (v := (31 : Int32)) hx hb dX7_readOperand_68 (by decide) ?_
      refine lv_icmp_gt (tgt := 97) hx hb dX7_readOperand_70 (by decide) (fun h => ?_) (fun h => ?_)
      · have hf := k_ifT h hf
        exact b97 p1 σ _ _ _ (lv_sub hl [0, 1] rfl) hw hf
      · have hf := k_ifF h hf
        refine lv_aload_n hx hb dX7_readOperand_73 rfl (lv_at hl 0 rfl) ?_
        obtain ⟨σ6, hq, hf⟩ := k_bvE hf
        refine k_callVv C hw (c_X7_countKnot l G Y w ad LC σ σ6 hq) (cwV 0 hts gX7_readOperand_X7_countKnot rfl rfl rfl (by decide +kernel) ⟨Nat.le_of_ble_eq_true rfl, Nat.le_of_ble_eq_true rfl⟩) (k_recv C hw (LC_7 LC) rfl) rfl hl.1 rfl (Nat.le_of_ble_eq_true rfl) dX7_readOperand_74 (fun H locs hw => ?_)
        refine lv_aload_n hx hb dX7_readOperand_77 rfl (lv_at hl 0 rfl) ?_
        obtain ⟨hc, hf⟩ := k_ckE hf
        obtain ⟨o1078, eo⟩ : ∃ y : Nat, y = (σ6.1 7 1).toNatClampNeg := ⟨_, rfl⟩
        have hf := k_nmE eo hf
        have Lo1078 := k_chL LC hc eo
        refine k_get C hw (LC_7 LC) (ci := 7) rfl k_in7 1 (by decide) lk7_19 (v := .ref (ad o1078)) (congrArg some (k_chR hc eo)) dX7_readOperand_78 ?_
        refine k_getN C hw (LX0_o Lo1078) (ci := 0) rfl k_in0 6 (by decide) ln7_143 (v := .ref (ad (o1078 + 7))) rfl dX7_readOperand_81 ?_
        refine lv_iload_n hx hb dX7_readOperand_84 rfl (lv_at hl 1 rfl) ?_
        refine lv_iconst (v := (0 : Int32)) hx hb dX7_readOperand_85 (by decide) ?_
        obtain ⟨σ7, hq, hf⟩ := k_bvE hf
        refine k_callVv C hw (c_X4_add l G Y w ad (o1078 + 7) (LX0_laws Lo1078) p1 (0 : Int32) σ6 σ7 hq) (cwV 2 hts gX7_readOperand_X4_add rfl rfl rfl (by decide +kernel) ⟨Nat.le_of_ble_eq_true rfl, Nat.le_of_ble_eq_true rfl⟩) (k_recv C hw (LX4_o (LX0_laws Lo1078)) rfl) rfl hl.1 rfl (Nat.le_of_ble_eq_true rfl) dX7_readOperand_86 (fun H locs hw => ?_)
        refine lv_aload_n hx hb dX7_readOperand_89 rfl (lv_at hl 0 rfl) ?_
        refine lv_iconst (v := (0 : Int32)) hx hb dX7_readOperand_90 (by decide) ?_
        refine k_put C hw (LC_7 LC) (ci := 7) rfl k_in7 tyX7 tyX7_ok nmX7 10 (by decide) lk7_164 rfl ⟨rfl, rfl⟩ rfl dX7_readOperand_91 (fun σ8 eq H locs hw => ?_)
        have hf := k_nmE eq hf
        refine lv_goto (tgt := 168) hx hb dX7_readOperand_94 (by decide) ?_
        exact b168 σ8 _ _ _ (lv_sub hl [] rfl) hw hf
  · have hf := k_ifT h hf
    refine lv_aload_n hx hb dX7_readOperand_5 rfl (lv_at hl 0 rfl) ?_
    refine k_get C hw (LC_7 LC) (ci := 7) rfl k_in7 0 (by decide) lk7_15 (v := .ref (ad 1)) rfl dX7_readOperand_6 ?_
    refine lv_aload_n hx hb dX7_readOperand_9 rfl (lv_at hl 0 rfl) ?_
    refine k_get C hw (LC_7 LC) (ci := 7) rfl k_in7 2 (by decide) lk7_28 (v := .int (σ.1 7 2)) rfl dX7_readOperand_10 ?_
    obtain ⟨q10, σ9, hq, hf⟩ := k_bdE hf
    refine k_callVi C hw (c_X9_valueOf l G Y w ad LC (σ.1 7 2) σ q10 σ9 hq) (cwV 1 hts gX7_readOperand_X9_valueOf rfl rfl rfl (by decide +kernel) ⟨Nat.le_of_ble_eq_true rfl, Nat.le_of_ble_eq_true rfl⟩) (k_recv C hw (LC_1 LC) rfl) rfl hl.1 rfl (Nat.le_of_ble_eq_true rfl) dX7_readOperand_13 (fun H locs hw => ?_)
    refine lv_sipush (v := (9999 : Int32)) hx hb dX7_readOperand_16 (by decide) ?_
    refine lv_icmp_le (tgt := 27) hx hb dX7_readOperand_19 (by decide) (fun h => ?_) (fun h => ?_)
    · have hf := k_ifT h hf
      exact b27 σ9 _ _ _ (lv_sub hl [0] rfl) hw hf
    · have hf := k_ifF h hf
      refine lv_aload_n hx hb dX7_readOperand_22 rfl (lv_at hl 0 rfl) ?_
      refine lv_iconst (v := (2 : Int32)) hx hb dX7_readOperand_23 (by decide) ?_
      obtain ⟨σ11, hq, hf⟩ := k_bvE hf
      refine k_callVv C hw (c_X7_fail l G Y w ad LC (2 : Int32) σ9 σ11 hq) (cwV 1 hts gX7_readOperand_X7_fail rfl rfl rfl (by decide +kernel) ⟨Nat.le_of_ble_eq_true rfl, Nat.le_of_ble_eq_true rfl⟩) (k_recv C hw (LC_7 LC) rfl) rfl hl.1 rfl (Nat.le_of_ble_eq_true rfl) dX7_readOperand_24 (fun H locs hw => ?_)
      exact b27 σ11 _ _ _ (lv_sub hl [0] rfl) hw hf
