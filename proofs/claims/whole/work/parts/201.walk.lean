def f_X4_feel_b34 (o : Nat) (o1 : Nat) (x2 : Int64) (σ : MSt) : Option MSt :=
  k_nm (mI σ o1 7 (((k_lmax (0 : Int64) (k_lmin (100 : Int64) x2))).toInt32)) fun σ1 =>
  some σ1
def f_X4_feel (o : Nat) (o1 : Nat)  (σ : MSt) : Option MSt :=
  k_nm (mI σ o1 7 (0 : Int32)) fun σ2 =>
  k_bl (f_X4_worth o o1 (0 : Int32) σ2) fun q4 σ3 =>
  if (lg_cmp q4 (-9223372036854775808 : Int64)) = 0 then
  (k_nm (((((10 : Int32) * (σ3.1 o1 0)) - (σ3.1 o1 3))).toInt64) fun u5 =>
  f_X4_feel_b34 o o1 u5 σ3)
  else
  (f_X4_feel_b34 o o1 q4 σ3)
def rmX4_feel : Room := { frames := 2, cells := 0, slots := 0, locals := 51 }
set_option maxHeartbeats 4000000 in
set_option maxRecDepth 100000 in
theorem c_X4_feel (l : Launch) (G : va_G) (Y : CY) (w : MSt → va_W) (ad : Nat → Nat) (o : Nat) (o1 : Nat) (Lo : LayX4 ad w Y o) (L1 : LayX8 ad w Y o1)  (σ : MSt) (σ' : MSt) (hf : f_X4_feel o o1 σ = some σ') : k_Mv l yX4_feel wsX4_feel rmX4_feel G Y w [.ref (ad o), .ref (ad o1)] σ σ' := by
  refine k_ofv (own := RX4) (cc := cX4_feel) (maxL := 4) none (by decide) rfl rfl (Nat.le_of_ble_eq_true rfl) ?_
  intro p e s m below meth c A C ls hl hw
  have hx := C.1
  have hb := C.2.1
  have hown := C.2.2.2.2.1
  have hts := C.2.2.2.2.2.1
  have hks := C.2.2.2.2.2.2.1
  have hl : lv_has ls 4 [(0, .ref (ad o)), (1, .ref (ad o1))] := hl
  have b34 : ∀ (x2 : Int64) (σ : MSt) (H : Heap) (locs : List Loc) (ls : Array Slot), lv_has ls 4 [(1, .ref (ad o1)), (2, .long x2)] → k_W G w A s.heap σ H locs → f_X4_feel_b34 o o1 x2 σ = some σ' → W p l e rmX4_feel s m [.ref (ad o), .ref (ad o1)].toArray below meth c H locs 0 0 (MQ below (k_Qv G w A σ') [.ref (ad o), .ref (ad o1)].toArray s 0 0 A) (F0 m 34 ls []) := by
    intro x2 σ H locs ls hl hw hf
    unfold f_X4_feel_b34 at hf
    refine lv_aload_n hx hb dX4_feel_34 rfl (lv_at hl 0 rfl) ?_
    refine lv_lconst (v := (0 : Int64)) hx hb dX4_feel_35 (by decide) ?_
    refine lv_ldc2 (v := (100 : Int64)) hx hb hown (hks.ts _ ck4_49) dX4_feel_36 ?_
    refine lv_lload_n hx hb dX4_feel_39 rfl (lv_at hl 1 rfl) ?_
    refine k_mminl C hl.1 ml4_51 ms_Lib_MathLoose_min_long_x mi_Math mc_Lib_MathLoose_min_long_x (Nat.le_of_ble_eq_true rfl) (Nat.le_of_ble_eq_true rfl) dX4_feel_40 ?_
    refine k_mmaxl C hl.1 ml4_57 ms_Lib_MathLoose_max_long_x mi_Math mc_Lib_MathLoose_max_long_x (Nat.le_of_ble_eq_true rfl) (Nat.le_of_ble_eq_true rfl) dX4_feel_43 ?_
    refine lv_l2i (v := (((k_lmax (0 : Int64) (k_lmin (100 : Int64) x2))).toInt32)) hx hb dX4_feel_46 rfl ?_
    refine k_putN C hw (LX8_o L1) (ci := 8) rfl k_in8 tyX8 tyX8_ok nmX8 7 (by decide) ln4_32 rfl ⟨rfl, rfl⟩ rfl dX4_feel_47 (fun σ1 eq H locs hw => ?_)
    have hf := k_nmE eq hf
    exact k_vret C hw hf dX4_feel_50
  unfold f_X4_feel at hf
  refine lv_aload_n hx hb dX4_feel_0 rfl (lv_at hl 1 rfl) ?_
  refine lv_iconst (v := (0 : Int32)) hx hb dX4_feel_1 (by decide) ?_
  refine k_putN C hw (LX8_o L1) (ci := 8) rfl k_in8 tyX8 tyX8_ok nmX8 7 (by decide) ln4_32 rfl ⟨rfl, rfl⟩ rfl dX4_feel_2 (fun σ2 eq H locs hw => ?_)
  have hf := k_nmE eq hf
  refine lv_aload_n hx hb dX4_feel_5 rfl (lv_at hl 0 rfl) ?_
  refine lv_iconst (v := (0 : Int32)) hx hb dX4_feel_6 (by decide) ?_
  refine lv_aload_n hx hb dX4_feel_7 rfl (lv_at hl 1 rfl) ?_
  obtain ⟨q4, σ3, hq, hf⟩ := k_blE hf
  refine k_callVl C hw (c_X4_worth l G Y w ad o o1 Lo L1 (0 : Int32) σ2 q4 σ3 hq) (cwV 2 hts gX4_feel_X4_worth rfl rfl rfl (by decide +kernel) ⟨Nat.le_of_ble_eq_true rfl, Nat.le_of_ble_eq_true rfl⟩) (k_recv C hw (LX4_o Lo) rfl) rfl hl.1 rfl (Nat.le_of_ble_eq_true rfl) dX4_feel_8 (fun H locs hw => ?_)
  refine lv_lstore_n (lv' := [(2, .long q4), (0, .ref (ad o)), (1, .ref (ad o1))]) hx hb dX4_feel_11 rfl hl (by decide) rfl (fun ls hl => ?_)
  refine lv_lload_n hx hb dX4_feel_12 rfl (lv_at hl 0 rfl) ?_
  refine lv_ldc2 (v := (-9223372036854775808 : Int64)) hx hb hown (hks.ts _ ck4_41) dX4_feel_13 ?_
  refine W.lcmp hx hb dX4_feel_16 ?_
  refine lv_if_ne (tgt := 34) hx hb dX4_feel_17 (by decide) (fun h => ?_) (fun h => ?_)
  · have hf := k_ifF h hf
    exact b34 q4 σ3 _ _ _ (lv_sub hl [2, 0] rfl) hw hf
  · have hf := k_ifT h hf
    refine lv_bipush (v := (10 : Int32)) hx hb dX4_feel_20 (by decide) ?_
    refine lv_aload_n hx hb dX4_feel_22 rfl (lv_at hl 2 rfl) ?_
    refine k_getN C hw (LX8_o L1) (ci := 8) rfl k_in8 0 (by decide) ln4_43 (v := .int (σ3.1 o1 0)) rfl dX4_feel_23 ?_
    refine lv_imul hx hb dX4_feel_26 ?_
    refine lv_aload_n hx hb dX4_feel_27 rfl (lv_at hl 2 rfl) ?_
    refine k_getN C hw (LX8_o L1) (ci := 8) rfl k_in8 3 (by decide) ln4_46 (v := .int (σ3.1 o1 3)) rfl dX4_feel_28 ?_
    refine lv_isub hx hb dX4_feel_31 ?_
    refine lv_i2l (v := (((((10 : Int32) * (σ3.1 o1 0)) - (σ3.1 o1 3))).toInt64)) hx hb dX4_feel_32 rfl ?_
    refine lv_topl (fun u5 ex => ?_)
    have hf := k_nmE ex hf
    refine lv_lstore_n (lv' := [(2, .long u5), (0, .ref (ad o)), (1, .ref (ad o1))]) hx hb dX4_feel_33 rfl hl (by decide) rfl (fun ls hl => ?_)
    exact b34 u5 σ3 _ _ _ (lv_sub hl [2, 0] rfl) hw hf
def f_X4_grips_b48 (o : Nat) (o1 : Nat) (y0 : Int32) (σ : MSt) : Option (Int32 × MSt) :=
  k_ck (k_bo y0) <|
  some (y0, σ)
def f_X4_grips (o : Nat) (o1 : Nat)  (σ : MSt) : Option (Int32 × MSt) :=
  k_bl (f_X4_worth o o1 (1 : Int32) σ) fun q2 σ1 =>
  if (lg_cmp q2 (-9223372036854775808 : Int64)) = 0 then
  (if (σ1.1 o1 7) < ((10 : Int32) * (σ1.1 o1 5)) then
  (f_X4_grips_b48 o o1 (0 : Int32) σ1)
  else
  (f_X4_grips_b48 o o1 (1 : Int32) σ1))
  else
  (if (lg_cmp q2 (0 : Int64)) = 0 then
  (f_X4_grips_b48 o o1 (0 : Int32) σ1)
  else
  (f_X4_grips_b48 o o1 (1 : Int32) σ1))
def rmX4_grips : Room := { frames := 2, cells := 0, slots := 0, locals := 51 }
set_option maxHeartbeats 4000000 in
set_option maxRecDepth 100000 in
theorem c_X4_grips (l : Launch) (G : va_G) (Y : CY) (w : MSt → va_W) (ad : Nat → Nat) (o : Nat) (o1 : Nat) (Lo : LayX4 ad w Y o) (L1 : LayX8 ad w Y o1)  (σ : MSt) (r : Int32) (σ' : MSt) (hf : f_X4_grips o o1 σ = some (r, σ')) : k_Mi l yX4_grips wsX4_grips rmX4_grips G Y w [.ref (ad o), .ref (ad o1)] σ r σ' := by
  refine k_ofi (own := RX4) (cc := cX4_grips) (maxL := 4) (some .boolean) (by decide) rfl rfl (Nat.le_of_ble_eq_true rfl) ?_
  intro p e s m below meth c A C ls hl hw
  have hx := C.1
  have hb := C.2.1
  have hown := C.2.2.2.2.1
  have hts := C.2.2.2.2.2.1
  have hks := C.2.2.2.2.2.2.1
  have hl : lv_has ls 4 [(0, .ref (ad o)), (1, .ref (ad o1))] := hl
  have b48 : ∀ (y0 : Int32) (σ : MSt) (H : Heap) (locs : List Loc) (ls : Array Slot), lv_has ls 4 [] → k_W G w A s.heap σ H locs → f_X4_grips_b48 o o1 y0 σ = some (r, σ') → W p l e rmX4_grips s m [.ref (ad o), .ref (ad o1)].toArray below meth c H locs 0 0 (MQ below (k_Qi G w A r σ') [.ref (ad o), .ref (ad o1)].toArray s 0 0 A) (F0 m 48 ls [.int y0]) := by
    intro y0 σ H locs ls hl hw hf
    unfold f_X4_grips_b48 at hf
    obtain ⟨hz, hf⟩ := k_ckE hf
    exact k_zret C hw (k_boE hz).1 hf dX4_grips_48
  unfold f_X4_grips at hf
  refine lv_aload_n hx hb dX4_grips_0 rfl (lv_at hl 0 rfl) ?_
  refine lv_iconst (v := (1 : Int32)) hx hb dX4_grips_1 (by decide) ?_
  refine lv_aload_n hx hb dX4_grips_2 rfl (lv_at hl 1 rfl) ?_
  obtain ⟨q2, σ1, hq, hf⟩ := k_blE hf
  refine k_callVl C hw (c_X4_worth l G Y w ad o o1 Lo L1 (1 : Int32) σ q2 σ1 hq) (cwV 2 hts gX4_grips_X4_worth rfl rfl rfl (by decide +kernel) ⟨Nat.le_of_ble_eq_true rfl, Nat.le_of_ble_eq_true rfl⟩) (k_recv C hw (LX4_o Lo) rfl) rfl hl.1 rfl (Nat.le_of_ble_eq_true rfl) dX4_grips_3 (fun H locs hw => ?_)
  refine lv_lstore_n (lv' := [(2, .long q2), (0, .ref (ad o)), (1, .ref (ad o1))]) hx hb dX4_grips_6 rfl hl (by decide) rfl (fun ls hl => ?_)
  refine lv_lload_n hx hb dX4_grips_7 rfl (lv_at hl 0 rfl) ?_
  refine lv_ldc2 (v := (-9223372036854775808 : Int64)) hx hb hown (hks.ts _ ck4_41) dX4_grips_8 ?_
  refine W.lcmp hx hb dX4_grips_11 ?_
  refine lv_if_ne (tgt := 37) hx hb dX4_grips_12 (by decide) (fun h => ?_) (fun h => ?_)
  · have hf := k_ifF h hf
    refine lv_lload_n hx hb dX4_grips_37 rfl (lv_at hl 0 rfl) ?_
    refine lv_lconst (v := (0 : Int64)) hx hb dX4_grips_38 (by decide) ?_
    refine W.lcmp hx hb dX4_grips_39 ?_
    refine lv_if_eq (tgt := 47) hx hb dX4_grips_40 (by decide) (fun h => ?_) (fun h => ?_)
    · have hf := k_ifT h hf
      refine lv_iconst (v := (0 : Int32)) hx hb dX4_grips_47 (by decide) ?_
      exact b48 (0 : Int32) σ1 _ _ _ (lv_sub hl [] rfl) hw hf
    · have hf := k_ifF h hf
      refine lv_iconst (v := (1 : Int32)) hx hb dX4_grips_43 (by decide) ?_
      refine lv_goto (tgt := 48) hx hb dX4_grips_44 (by decide) ?_
      exact b48 (1 : Int32) σ1 _ _ _ (lv_sub hl [] rfl) hw hf
  · have hf := k_ifT h hf
    refine lv_aload_n hx hb dX4_grips_15 rfl (lv_at hl 2 rfl) ?_
    refine k_getN C hw (LX8_o L1) (ci := 8) rfl k_in8 7 (by decide) ln4_32 (v := .int (σ1.1 o1 7)) rfl dX4_grips_16 ?_
    refine lv_bipush (v := (10 : Int32)) hx hb dX4_grips_19 (by decide) ?_
    refine lv_aload_n hx hb dX4_grips_21 rfl (lv_at hl 2 rfl) ?_
    refine k_getN C hw (LX8_o L1) (ci := 8) rfl k_in8 5 (by decide) ln4_60 (v := .int (σ1.1 o1 5)) rfl dX4_grips_22 ?_
    refine lv_imul hx hb dX4_grips_25 ?_
    refine lv_icmp_lt (tgt := 33) hx hb dX4_grips_26 (by decide) (fun h => ?_) (fun h => ?_)
    · have hf := k_ifT h hf
      refine lv_iconst (v := (0 : Int32)) hx hb dX4_grips_33 (by decide) ?_
      refine lv_goto (tgt := 48) hx hb dX4_grips_34 (by decide) ?_
      exact b48 (0 : Int32) σ1 _ _ _ (lv_sub hl [] rfl) hw hf
    · have hf := k_ifF h hf
      refine lv_iconst (v := (1 : Int32)) hx hb dX4_grips_29 (by decide) ?_
      refine lv_goto (tgt := 48) hx hb dX4_grips_30 (by decide) ?_
      exact b48 (1 : Int32) σ1 _ _ _ (lv_sub hl [] rfl) hw hf
def f_X4_gainOf_b31 (o : Nat) (o1 : Nat) (y0 : Int32) (σ : MSt) : Option (Int32 × MSt) :=
  some (y0, σ)
def f_X4_gainOf (o : Nat) (o1 : Nat)  (σ : MSt) : Option (Int32 × MSt) :=
  k_bl (f_X4_worth o o1 (2 : Int32) σ) fun q2 σ1 =>
  if (lg_cmp q2 (-9223372036854775808 : Int64)) = 0 then
  (f_X4_gainOf_b31 o o1 (1 : Int32) σ1)
  else
  (f_X4_gainOf_b31 o o1 (((k_lmax (0 : Int64) (k_lmin (9 : Int64) q2))).toInt32) σ1)
def rmX4_gainOf : Room := { frames := 2, cells := 0, slots := 0, locals := 51 }
set_option maxHeartbeats 4000000 in
set_option maxRecDepth 100000 in
theorem c_X4_gainOf (l : Launch) (G : va_G) (Y : CY) (w : MSt → va_W) (ad : Nat → Nat) (o : Nat) (o1 : Nat) (Lo : LayX4 ad w Y o) (L1 : LayX8 ad w Y o1)  (σ : MSt) (r : Int32) (σ' : MSt) (hf : f_X4_gainOf o o1 σ = some (r, σ')) : k_Mi l yX4_gainOf wsX4_gainOf rmX4_gainOf G Y w [.ref (ad o), .ref (ad o1)] σ r σ' := by
  refine k_ofi (own := RX4) (cc := cX4_gainOf) (maxL := 4) (some .int) (by decide) rfl rfl (Nat.le_of_ble_eq_true rfl) ?_
  intro p e s m below meth c A C ls hl hw
  have hx := C.1
  have hb := C.2.1
  have hown := C.2.2.2.2.1
  have hts := C.2.2.2.2.2.1
  have hks := C.2.2.2.2.2.2.1
  have hl : lv_has ls 4 [(0, .ref (ad o)), (1, .ref (ad o1))] := hl
  have b31 : ∀ (y0 : Int32) (σ : MSt) (H : Heap) (locs : List Loc) (ls : Array Slot), lv_has ls 4 [] → k_W G w A s.heap σ H locs → f_X4_gainOf_b31 o o1 y0 σ = some (r, σ') → W p l e rmX4_gainOf s m [.ref (ad o), .ref (ad o1)].toArray below meth c H locs 0 0 (MQ below (k_Qi G w A r σ') [.ref (ad o), .ref (ad o1)].toArray s 0 0 A) (F0 m 31 ls [.int y0]) := by
    intro y0 σ H locs ls hl hw hf
    unfold f_X4_gainOf_b31 at hf
    exact k_iret C hw hf dX4_gainOf_31
  unfold f_X4_gainOf at hf
  refine lv_aload_n hx hb dX4_gainOf_0 rfl (lv_at hl 0 rfl) ?_
  refine lv_iconst (v := (2 : Int32)) hx hb dX4_gainOf_1 (by decide) ?_
  refine lv_aload_n hx hb dX4_gainOf_2 rfl (lv_at hl 1 rfl) ?_
  obtain ⟨q2, σ1, hq, hf⟩ := k_blE hf
  refine k_callVl C hw (c_X4_worth l G Y w ad o o1 Lo L1 (2 : Int32) σ q2 σ1 hq) (cwV 2 hts gX4_gainOf_X4_worth rfl rfl rfl (by decide +kernel) ⟨Nat.le_of_ble_eq_true rfl, Nat.le_of_ble_eq_true rfl⟩) (k_recv C hw (LX4_o Lo) rfl) rfl hl.1 rfl (Nat.le_of_ble_eq_true rfl) dX4_gainOf_3 (fun H locs hw => ?_)
  refine lv_lstore_n (lv' := [(2, .long q2), (0, .ref (ad o)), (1, .ref (ad o1))]) hx hb dX4_gainOf_6 rfl hl (by decide) rfl (fun ls hl => ?_)
  refine lv_lload_n hx hb dX4_gainOf_7 rfl (lv_at hl 0 rfl) ?_
  refine lv_ldc2 (v := (-9223372036854775808 : Int64)) hx hb hown (hks.ts _ ck4_41) dX4_gainOf_8 ?_
  refine W.lcmp hx hb dX4_gainOf_11 ?_
  refine lv_if_ne (tgt := 19) hx hb dX4_gainOf_12 (by decide) (fun h => ?_) (fun h => ?_)
  · have hf := k_ifF h hf
    refine lv_lconst (v := (0 : Int64)) hx hb dX4_gainOf_19 (by decide) ?_
    refine lv_ldc2 (v := (9 : Int64)) hx hb hown (hks.ts _ ck4_63) dX4_gainOf_20 ?_
    refine lv_lload_n hx hb dX4_gainOf_23 rfl (lv_at hl 0 rfl) ?_
    refine k_mminl C hl.1 ml4_51 ms_Lib_MathLoose_min_long_x mi_Math mc_Lib_MathLoose_min_long_x (Nat.le_of_ble_eq_true rfl) (Nat.le_of_ble_eq_true rfl) dX4_gainOf_24 ?_
    refine k_mmaxl C hl.1 ml4_57 ms_Lib_MathLoose_max_long_x mi_Math mc_Lib_MathLoose_max_long_x (Nat.le_of_ble_eq_true rfl) (Nat.le_of_ble_eq_true rfl) dX4_gainOf_27 ?_
    refine lv_l2i (v := (((k_lmax (0 : Int64) (k_lmin (9 : Int64) q2))).toInt32)) hx hb dX4_gainOf_30 rfl ?_
    exact b31 (((k_lmax (0 : Int64) (k_lmin (9 : Int64) q2))).toInt32) σ1 _ _ _ (lv_sub hl [] rfl) hw hf
  · have hf := k_ifT h hf
    refine lv_iconst (v := (1 : Int32)) hx hb dX4_gainOf_15 (by decide) ?_
    refine lv_goto (tgt := 31) hx hb dX4_gainOf_16 (by decide) ?_
    exact b31 (1 : Int32) σ1 _ _ _ (lv_sub hl [] rfl) hw hf
def f_X5_drag_b28 (o : Nat)  (σ : MSt) : Option MSt :=
  some σ
def f_X5_drag (o : Nat) (p1 : Int32) (σ : MSt) : Option MSt :=
  if p1 < 0 then
  (f_X5_drag_b28 o σ)
  else
  (if (8 : Int32) ≤ p1 then
  (f_X5_drag_b28 o σ)
  else
  (k_ck (k_inb p1 8) <|
  k_ck (k_inb p1 8) <|
  k_nm (mI σ (o + 1) (p1).toNatClampNeg (k_max (0 : Int32) ((σ.1 (o + 1) (p1).toNatClampNeg) - (2 : Int32)))) fun σ1 =>
  f_X5_drag_b28 o σ1))
def rmX5_drag : Room := { frames := 1, cells := 0, slots := 0, locals := 23 }
set_option maxHeartbeats 4000000 in
set_option maxRecDepth 100000 in
theorem c_X5_drag (l : Launch) (G : va_G) (Y : CY) (w : MSt → va_W) (ad : Nat → Nat) (o : Nat) (Lo : LayX5 ad w Y o) (p1 : Int32) (σ : MSt) (σ' : MSt) (hf : f_X5_drag o p1 σ = some σ') : k_Mv l yX5_drag wsX5_drag rmX5_drag G Y w [.ref (ad o), .int p1] σ σ' := by
  refine k_ofv (own := RX5) (cc := cX5_drag) (maxL := 2) none (by decide) rfl rfl (Nat.le_of_ble_eq_true rfl) ?_
  intro p e s m below meth c A C ls hl hw
  have hx := C.1
  have hb := C.2.1
  have hown := C.2.2.2.2.1
  have hts := C.2.2.2.2.2.1
  have hks := C.2.2.2.2.2.2.1
  have hl : lv_has ls 2 [(0, .ref (ad o)), (1, .int p1)] := hl
  have b28 : ∀ (σ : MSt) (H : Heap) (locs : List Loc) (ls : Array Slot), lv_has ls 2 [] → k_W G w A s.heap σ H locs → f_X5_drag_b28 o σ = some σ' → W p l e rmX5_drag s m [.ref (ad o), .int p1].toArray below meth c H locs 0 0 (MQ below (k_Qv G w A σ') [.ref (ad o), .int p1].toArray s 0 0 A) (F0 m 28 ls []) := by
    intro σ H locs ls hl hw hf
    unfold f_X5_drag_b28 at hf
    exact k_vret C hw hf dX5_drag_28
  unfold f_X5_drag at hf
  refine lv_iload_n hx hb dX5_drag_0 rfl (lv_at hl 1 rfl) ?_
  refine lv_if_lt (tgt := 28) hx hb dX5_drag_1 (by decide) (fun h => ?_) (fun h => ?_)
  · have hf := k_ifT h hf
    exact b28 σ _ _ _ (lv_sub hl [] rfl) hw hf
  · have hf := k_ifF h hf
    refine lv_iload_n hx hb dX5_drag_4 rfl (lv_at hl 1 rfl) ?_
    refine lv_bipush (v := (8 : Int32)) hx hb dX5_drag_5 (by decide) ?_
    refine lv_icmp_ge (tgt := 28) hx hb dX5_drag_7 (by decide) (fun h => ?_) (fun h => ?_)
    · have hf := k_ifT h hf
      exact b28 σ _ _ _ (lv_sub hl [] rfl) hw hf
    · have hf := k_ifF h hf
      refine lv_aload_n hx hb dX5_drag_10 rfl (lv_at hl 0 rfl) ?_
      refine k_get C hw (LX5_o Lo) (ci := 5) rfl k_in5 0 (by decide) lk5_9 (v := .ref (ad (o + 1))) rfl dX5_drag_11 ?_
      refine lv_iload_n hx hb dX5_drag_14 rfl (lv_at hl 1 rfl) ?_
      refine lv_iconst (v := (0 : Int32)) hx hb dX5_drag_15 (by decide) ?_
      refine lv_aload_n hx hb dX5_drag_16 rfl (lv_at hl 0 rfl) ?_
      refine k_get C hw (LX5_o Lo) (ci := 5) rfl k_in5 0 (by decide) lk5_9 (v := .ref (ad (o + 1))) rfl dX5_drag_17 ?_
      refine lv_iload_n hx hb dX5_drag_20 rfl (lv_at hl 1 rfl) ?_
      obtain ⟨hi, hf⟩ := k_ckE hf
      refine k_iald C hw (LX5_1 Lo) hi dX5_drag_21 ?_
      refine lv_iconst (v := (2 : Int32)) hx hb dX5_drag_22 (by decide) ?_
      refine lv_isub hx hb dX5_drag_23 ?_
      refine k_mmax C hl.1 ml5_66 ms_Lib_Math_max_name mi_Math mc_Lib_Math_max_name (Nat.le_of_ble_eq_true rfl) (Nat.le_of_ble_eq_true rfl) dX5_drag_24 ?_
      obtain ⟨hi, hf⟩ := k_ckE hf
      refine k_iast C hw (LX5_1 Lo) hi dX5_drag_27 (fun σ1 eq H locs hw => ?_)
      have hf := k_nmE eq hf
      exact b28 σ1 _ _ _ (lv_sub hl [] rfl) hw hf
def f_X1_lieByAnchor_b109 (o1 : Nat)  (σ : MSt) : Option MSt :=
  some σ
def f_X1_lieByAnchor (o1 : Nat) (p2 : Int32) (σ : MSt) : Option MSt :=
  k_bv (f_X8_recall 72 o1 (σ.1 o1 4) σ) fun σ1 =>
  k_bv (f_X8_set 72 (σ1.1 o1 3) p2 (1 : Int32) σ1) fun σ2 =>
  k_bv (f_X4_feel 17 72 σ2) fun σ3 =>
  k_bd (f_X4_grips 17 72 σ3) fun q5 σ4 =>
  if q5 = 0 then
  (k_nm (mI σ4 o1 10 ((σ4.1 o1 10) + (1 : Int32))) fun σ6 =>
  k_bv (f_X5_drag o1 (σ6.1 o1 4) σ6) fun σ7 =>
  f_X1_lieByAnchor_b109 o1 σ7)
  else
  (k_nm (mI σ4 o1 9 ((σ4.1 o1 9) + (1 : Int32))) fun σ8 =>
  k_bd (f_X4_gainOf 17 72 σ8) fun q10 σ9 =>
  k_bv (f_X5_remember o1 (σ8.1 o1 4) q10 σ9) fun σ11 =>
  f_X1_lieByAnchor_b109 o1 σ11)
def rmX1_lieByAnchor : Room := { frames := 3, cells := 0, slots := 0, locals := 74 }
set_option maxHeartbeats 4000000 in
set_option maxRecDepth 100000 in
theorem c_X1_lieByAnchor (l : Launch) (G : va_G) (Y : CY) (w : MSt → va_W) (ad : Nat → Nat) (o1 : Nat) (LC : LayC ad w Y) (L1 : LayX5 ad w Y o1) (p2 : Int32) (σ : MSt) (σ' : MSt) (hf : f_X1_lieByAnchor o1 p2 σ = some σ') : k_Mv l yX1_lieByAnchor wsX1_lieByAnchor rmX1_lieByAnchor G Y w [.ref (ad 71), .ref (ad o1), .int p2] σ σ' := by
  refine k_ofv (own := RX1) (cc := cX1_lieByAnchor) (maxL := 3) none (by decide) rfl rfl (Nat.le_of_ble_eq_true rfl) ?_
  intro p e s m below meth c A C ls hl hw
  have hx := C.1
  have hb := C.2.1
  have hown := C.2.2.2.2.1
  have hts := C.2.2.2.2.2.1
  have hks := C.2.2.2.2.2.2.1
  have hl : lv_has ls 3 [(0, .ref (ad 71)), (1, .ref (ad o1)), (2, .int p2)] := hl
  have b109 : ∀ (σ : MSt) (H : Heap) (locs : List Loc) (ls : Array Slot), lv_has ls 3 [] → k_W G w A s.heap σ H locs → f_X1_lieByAnchor_b109 o1 σ = some σ' → W p l e rmX1_lieByAnchor s m [.ref (ad 71), .ref (ad o1), .int p2].toArray below meth c H locs 0 0 (MQ below (k_Qv G w A σ') [.ref (ad 71), .ref (ad o1), .int p2].toArray s 0 0 A) (F0 m 109 ls []) := by
    intro σ H locs ls hl hw hf
    unfold f_X1_lieByAnchor_b109 at hf
    exact k_vret C hw hf dX1_lieByAnchor_109
  unfold f_X1_lieByAnchor at hf
  refine lv_aload_n hx hb dX1_lieByAnchor_0 rfl (lv_at hl 0 rfl) ?_
  refine k_get C hw (LC_71 LC) (ci := 1) rfl k_in1 3 (by decide) lk1_21 (v := .ref (ad 72)) rfl dX1_lieByAnchor_1 ?_
  refine lv_aload_n hx hb dX1_lieByAnchor_4 rfl (lv_at hl 1 rfl) ?_
  refine lv_aload_n hx hb dX1_lieByAnchor_5 rfl (lv_at hl 1 rfl) ?_
  refine k_getN C hw (LX5_o L1) (ci := 5) rfl k_in5 4 (by decide) ln1_112 (v := .int (σ.1 o1 4)) rfl dX1_lieByAnchor_6 ?_
  obtain ⟨σ1, hq, hf⟩ := k_bvE hf
  refine k_callVv C hw (c_X8_recall l G Y w ad 72 o1 (LCL_72 LC) L1 (σ.1 o1 4) σ σ1 hq) (cwV 2 hts gX1_lieByAnchor_X8_recall rfl rfl rfl (by decide +kernel) ⟨Nat.le_of_ble_eq_true rfl, Nat.le_of_ble_eq_true rfl⟩) (k_recv C hw (LC_72 LC) rfl) rfl hl.1 rfl (Nat.le_of_ble_eq_true rfl) dX1_lieByAnchor_9 (fun H locs hw => ?_)
  refine lv_aload_n hx hb dX1_lieByAnchor_12 rfl (lv_at hl 0 rfl) ?_
  refine k_get C hw (LC_71 LC) (ci := 1) rfl k_in1 3 (by decide) lk1_21 (v := .ref (ad 72)) rfl dX1_lieByAnchor_13 ?_
  refine lv_aload_n hx hb dX1_lieByAnchor_16 rfl (lv_at hl 1 rfl) ?_
  refine k_getN C hw (LX5_o L1) (ci := 5) rfl k_in5 3 (by decide) ln1_78 (v := .int (σ1.1 o1 3)) rfl dX1_lieByAnchor_17 ?_
  refine lv_iload_n hx hb dX1_lieByAnchor_20 rfl (lv_at hl 2 rfl) ?_
  refine lv_iconst (v := (1 : Int32)) hx hb dX1_lieByAnchor_21 (by decide) ?_
  obtain ⟨σ2, hq, hf⟩ := k_bvE hf
  refine k_callVv C hw (c_X8_set l G Y w ad 72 (LCL_72 LC) (σ1.1 o1 3) p2 (1 : Int32) σ1 σ2 hq) (cwV 3 hts gX1_lieByAnchor_X8_set rfl rfl rfl (by decide +kernel) ⟨Nat.le_of_ble_eq_true rfl, Nat.le_of_ble_eq_true rfl⟩) (k_recv C hw (LC_72 LC) rfl) rfl hl.1 rfl (Nat.le_of_ble_eq_true rfl) dX1_lieByAnchor_22 (fun H locs hw => ?_)
  refine lv_aload_n hx hb dX1_lieByAnchor_25 rfl (lv_at hl 0 rfl) ?_
  refine k_get C hw (LC_71 LC) (ci := 1) rfl k_in1 0 (by decide) lk1_25 (v := .ref (ad 10)) rfl dX1_lieByAnchor_26 ?_
  refine k_getN C hw (LC_10 LC) (ci := 0) rfl k_in0 6 (by decide) ln1_135 (v := .ref (ad 17)) rfl dX1_lieByAnchor_29 ?_
  refine lv_aload_n hx hb dX1_lieByAnchor_32 rfl (lv_at hl 0 rfl) ?_
  refine k_get C hw (LC_71 LC) (ci := 1) rfl k_in1 3 (by decide) lk1_21 (v := .ref (ad 72)) rfl dX1_lieByAnchor_33 ?_
  obtain ⟨σ3, hq, hf⟩ := k_bvE hf
  refine k_callVv C hw (c_X4_feel l G Y w ad 17 72 (LCL_17 LC) (LCL_72 LC) σ2 σ3 hq) (cwV 1 hts gX1_lieByAnchor_X4_feel rfl rfl rfl (by decide +kernel) ⟨Nat.le_of_ble_eq_true rfl, Nat.le_of_ble_eq_true rfl⟩) (k_recv C hw (LC_17 LC) rfl) rfl hl.1 rfl (Nat.le_of_ble_eq_true rfl) dX1_lieByAnchor_36 (fun H locs hw => ?_)
  refine lv_aload_n hx hb dX1_lieByAnchor_39 rfl (lv_at hl 0 rfl) ?_
  refine k_get C hw (LC_71 LC) (ci := 1) rfl k_in1 0 (by decide) lk1_25 (v := .ref (ad 10)) rfl dX1_lieByAnchor_40 ?_
  refine k_getN C hw (LC_10 LC) (ci := 0) rfl k_in0 6 (by decide) ln1_135 (v := .ref (ad 17)) rfl dX1_lieByAnchor_43 ?_
  refine lv_aload_n hx hb dX1_lieByAnchor_46 rfl (lv_at hl 0 rfl) ?_
  refine k_get C hw (LC_71 LC) (ci := 1) rfl k_in1 3 (by decide) lk1_21 (v := .ref (ad 72)) rfl dX1_lieByAnchor_47 ?_
  obtain ⟨q5, σ4, hq, hf⟩ := k_bdE hf
  refine k_callVi C hw (c_X4_grips l G Y w ad 17 72 (LCL_17 LC) (LCL_72 LC) σ3 q5 σ4 hq) (cwV 1 hts gX1_lieByAnchor_X4_grips rfl rfl rfl (by decide +kernel) ⟨Nat.le_of_ble_eq_true rfl, Nat.le_of_ble_eq_true rfl⟩) (k_recv C hw (LC_17 LC) rfl) rfl hl.1 rfl (Nat.le_of_ble_eq_true rfl) dX1_lieByAnchor_50 (fun H locs hw => ?_)
  refine lv_if_eq (tgt := 91) hx hb dX1_lieByAnchor_53 (by decide) (fun h => ?_) (fun h => ?_)
  · have hf := k_ifT h hf
    refine lv_aload_n hx hb dX1_lieByAnchor_91 rfl (lv_at hl 1 rfl) ?_
    refine lv_dup hx hb dX1_lieByAnchor_92 rfl ?_
    refine k_getN C hw (LX5_o L1) (ci := 5) rfl k_in5 10 (by decide) ln1_63 (v := .int (σ4.1 o1 10)) rfl dX1_lieByAnchor_93 ?_
    refine lv_iconst (v := (1 : Int32)) hx hb dX1_lieByAnchor_96 (by decide) ?_
    refine lv_iadd hx hb dX1_lieByAnchor_97 ?_
    refine k_putN C hw (LX5_o L1) (ci := 5) rfl k_in5 tyX5 tyX5_ok nmX5 10 (by decide) ln1_63 rfl ⟨rfl, rfl⟩ rfl dX1_lieByAnchor_98 (fun σ6 eq H locs hw => ?_)
    have hf := k_nmE eq hf
    refine lv_aload_n hx hb dX1_lieByAnchor_101 rfl (lv_at hl 1 rfl) ?_
    refine lv_aload_n hx hb dX1_lieByAnchor_102 rfl (lv_at hl 1 rfl) ?_
    refine k_getN C hw (LX5_o L1) (ci := 5) rfl k_in5 4 (by decide) ln1_112 (v := .int (σ6.1 o1 4)) rfl dX1_lieByAnchor_103 ?_
    obtain ⟨σ7, hq, hf⟩ := k_bvE hf
    refine k_callVv C hw (c_X5_drag l G Y w ad o1 L1 (σ6.1 o1 4) σ6 σ7 hq) (cwV 1 hts gX1_lieByAnchor_X5_drag rfl rfl rfl (by decide +kernel) ⟨Nat.le_of_ble_eq_true rfl, Nat.le_of_ble_eq_true rfl⟩) (k_recv C hw (LX5_o L1) rfl) rfl hl.1 rfl (Nat.le_of_ble_eq_true rfl) dX1_lieByAnchor_106 (fun H locs hw => ?_)
    exact b109 σ7 _ _ _ (lv_sub hl [] rfl) hw hf
  · have hf := k_ifF h hf
    refine lv_aload_n hx hb dX1_lieByAnchor_56 rfl (lv_at hl 1 rfl) ?_
    refine lv_dup hx hb dX1_lieByAnchor_57 rfl ?_
    refine k_getN C hw (LX5_o L1) (ci := 5) rfl k_in5 9 (by decide) ln1_125 (v := .int (σ4.1 o1 9)) rfl dX1_lieByAnchor_58 ?_
    refine lv_iconst (v := (1 : Int32)) hx hb dX1_lieByAnchor_61 (by decide) ?_
    refine lv_iadd hx hb dX1_lieByAnchor_62 ?_
    refine k_putN C hw (LX5_o L1) (ci := 5) rfl k_in5 tyX5 tyX5_ok nmX5 9 (by decide) ln1_125 rfl ⟨rfl, rfl⟩ rfl dX1_lieByAnchor_63 (fun σ8 eq H locs hw => ?_)
    have hf := k_nmE eq hf
    refine lv_aload_n hx hb dX1_lieByAnchor_66 rfl (lv_at hl 1 rfl) ?_
    refine lv_aload_n hx hb dX1_lieByAnchor_67 rfl (lv_at hl 1 rfl) ?_
    refine k_getN C hw (LX5_o L1) (ci := 5) rfl k_in5 4 (by decide) ln1_112 (v := .int (σ8.1 o1 4)) rfl dX1_lieByAnchor_68 ?_
    refine lv_aload_n hx hb dX1_lieByAnchor_71 rfl (lv_at hl 0 rfl) ?_
    refine k_get C hw (LC_71 LC) (ci := 1) rfl k_in1 0 (by decide) lk1_25 (v := .ref (ad 10)) rfl dX1_lieByAnchor_72 ?_
    refine k_getN C hw (LC_10 LC) (ci := 0) rfl k_in0 6 (by decide) ln1_135 (v := .ref (ad 17)) rfl dX1_lieByAnchor_75 ?_
    refine lv_aload_n hx hb dX1_lieByAnchor_78 rfl (lv_at hl 0 rfl) ?_
    refine k_get C hw (LC_71 LC) (ci := 1) rfl k_in1 3 (by decide) lk1_21 (v := .ref (ad 72)) rfl dX1_lieByAnchor_79 ?_
    obtain ⟨q10, σ9, hq, hf⟩ := k_bdE hf
    refine k_callVi C hw (c_X4_gainOf l G Y w ad 17 72 (LCL_17 LC) (LCL_72 LC) σ8 q10 σ9 hq) (cwV 1 hts gX1_lieByAnchor_X4_gainOf rfl rfl rfl (by decide +kernel) ⟨Nat.le_of_ble_eq_true rfl, Nat.le_of_ble_eq_true rfl⟩) (k_recv C hw (LC_17 LC) rfl) rfl hl.1 rfl (Nat.le_of_ble_eq_true rfl) dX1_lieByAnchor_82 (fun H locs hw => ?_)
    obtain ⟨σ11, hq, hf⟩ := k_bvE hf
    refine k_callVv C hw (c_X5_remember l G Y w ad o1 L1 (σ8.1 o1 4) q10 σ9 σ11 hq) (cwV 2 hts gX1_lieByAnchor_X5_remember rfl rfl rfl (by decide +kernel) ⟨Nat.le_of_ble_eq_true rfl, Nat.le_of_ble_eq_true rfl⟩) (k_recv C hw (LX5_o L1) rfl) rfl hl.1 rfl (Nat.le_of_ble_eq_true rfl) dX1_lieByAnchor_85 (fun H locs hw => ?_)
    refine lv_goto (tgt := 109) hx hb dX1_lieByAnchor_88 (by decide) ?_
    exact b109 σ11 _ _ _ (lv_sub hl [] rfl) hw hf
def f_X1_pass_b208 (o1 : Nat)  (σ : MSt) : Option MSt :=
  k_nm (mI σ o1 3 ((σ.1 o1 3) + (1 : Int32))) fun σ1 =>
  some σ1
def f_X1_pass_b194 (o1 : Nat) (x2 : Int32) (σ : MSt) : Option MSt :=
  if (σ.1 o1 4) = (-1 : Int32) then
  (f_X1_pass_b208 o1 σ)
  else
  (k_bv (f_X1_lieByAnchor o1 x2 σ) fun σ1 =>
  f_X1_pass_b208 o1 σ1)
def f_X1_pass_b149 (o1 : Nat) (y0 : Int32) (σ : MSt) : Option MSt :=
  if (σ.1 o1 5) = (-1 : Int32) then
  (if (σ.1 o1 4) = (-1 : Int32) then
  (f_X1_pass_b194 o1 y0 σ)
  else
  (if (σ.1 o1 7) = 0 then
  (f_X1_pass_b194 o1 y0 σ)
  else
  (k_bv (f_X1_lieByCopy o1 σ) fun σ1 =>
  f_X1_pass_b208 o1 σ1)))
  else
  (k_nm (mI σ o1 11 ((σ.1 o1 11) + (1 : Int32))) fun σ2 =>
  f_X1_pass_b208 o1 σ2)
def f_X1_pass_b110 (o1 : Nat)  (σ : MSt) : Option MSt :=
  if (σ.1 71 5) = 0 then
  (if (σ.1 71 6) = 0 then
  (k_bd (f_X0_galeOf 10 (σ.1 o1 3) σ) fun q2 σ1 =>
  f_X1_pass_b149 o1 q2 σ1)
  else
  (f_X1_pass_b149 o1 (0 : Int32) σ))
  else
  (k_bd (f_X5_draw o1 σ) fun q4 σ3 =>
  f_X1_pass_b149 o1 (k_rem q4 (10 : Int32)) σ3)
def f_X1_pass_b83 (o1 : Nat)  (σ : MSt) : Option MSt :=
  if (σ.1 o1 5) = (-1 : Int32) then
  (f_X1_pass_b110 o1 σ)
  else
  (if (σ.1 o1 3) < (σ.1 o1 6) then
  (f_X1_pass_b110 o1 σ)
  else
  (k_bv (f_X5_lieIn o1 (σ.1 o1 5) σ) fun σ1 =>
  f_X1_pass_b110 o1 σ1))
def f_X1_pass_b77 (o1 : Nat) (r2 : Int32 → MSt → Option MSt) (x2 : Int32) (σ : MSt) : Option MSt :=
  k_nm (x2 + (1 : Int32)) fun u1 =>
  r2 u1 σ
def f_X1_pass_b74 (o1 : Nat) (r2 : Int32 → MSt → Option MSt) (x2 : Int32) (y1 : Int32) (y2 : Int32) (σ : MSt) : Option MSt :=
  k_bv (f_X5_remember o1 y1 y2 σ) fun σ1 =>
  f_X1_pass_b77 o1 r2 x2 σ1
def f_X1_pass_b2_s (o1 : Nat) (r2 : Int32 → MSt → Option MSt) (x2 : Int32) (σ : MSt) : Option MSt :=
  if (σ.1 10 9) ≤ x2 then
  (f_X1_pass_b83 o1 σ)
  else
  (if (12 : Int32) ≤ x2 then
  (f_X1_pass_b83 o1 σ)
  else
  (k_ck (k_inb x2 12) <|
  if (σ.1 14 (x2).toNatClampNeg) = (σ.1 o1 3) then
  (if x2 = (σ.1 71 8) then
  (f_X1_pass_b77 o1 r2 x2 σ)
  else
  (k_ck (k_inb x2 12) <|
  if (σ.1 71 7) = 0 then
  (k_ck (k_inb x2 12) <|
  f_X1_pass_b74 o1 r2 x2 (σ.1 13 (x2).toNatClampNeg) (σ.1 15 (x2).toNatClampNeg) σ)
  else
  (f_X1_pass_b74 o1 r2 x2 (σ.1 13 (x2).toNatClampNeg) (9 : Int32) σ)))
  else
  (f_X1_pass_b77 o1 r2 x2 σ)))
def f_X1_pass_b2 (o1 : Nat) : Nat → Int32 → MSt → Option MSt
  | 0 => fun _ _ => none
  | n + 1 => f_X1_pass_b2_s o1 (f_X1_pass_b2 o1 n)
def f_X1_pass (o1 : Nat)  (σ : MSt) : Option MSt :=
  f_X1_pass_b2 o1 FU (0 : Int32) σ
def rmX1_pass : Room := { frames := 4, cells := 0, slots := 0, locals := 96 }
set_option maxHeartbeats 4000000 in
set_option maxRecDepth 100000 in
theorem c_X1_pass (l : Launch) (G : va_G) (Y : CY) (w : MSt → va_W) (ad : Nat → Nat) (o1 : Nat) (LC : LayC ad w Y) (L1 : LayX5 ad w Y o1)  (σ : MSt) (σ' : MSt) (hf : f_X1_pass o1 σ = some σ') : k_Mv l yX1_pass wsX1_pass rmX1_pass G Y w [.ref (ad 71), .ref (ad o1)] σ σ' := by
  refine k_ofv (own := RX1) (cc := cX1_pass) (maxL := 3) none (by decide) rfl rfl (Nat.le_of_ble_eq_true rfl) ?_
  intro p e s m below meth c A C ls hl hw
  have hx := C.1
  have hb := C.2.1
  have hown := C.2.2.2.2.1
  have hts := C.2.2.2.2.2.1
  have hks := C.2.2.2.2.2.2.1
  have hl : lv_has ls 3 [(0, .ref (ad 71)), (1, .ref (ad o1))] := hl
  have b208 : ∀ (σ : MSt) (H : Heap) (locs : List Loc) (ls : Array Slot), lv_has ls 3 [(1, .ref (ad o1))] → k_W G w A s.heap σ H locs → f_X1_pass_b208 o1 σ = some σ' → W p l e rmX1_pass s m [.ref (ad 71), .ref (ad o1)].toArray below meth c H locs 0 0 (MQ below (k_Qv G w A σ') [.ref (ad 71), .ref (ad o1)].toArray s 0 0 A) (F0 m 208 ls []) := by
    intro σ H locs ls hl hw hf
    unfold f_X1_pass_b208 at hf
    refine lv_aload_n hx hb dX1_pass_208 rfl (lv_at hl 0 rfl) ?_
    refine lv_dup hx hb dX1_pass_209 rfl ?_
    refine k_getN C hw (LX5_o L1) (ci := 5) rfl k_in5 3 (by decide) ln1_78 (v := .int (σ.1 o1 3)) rfl dX1_pass_210 ?_
    refine lv_iconst (v := (1 : Int32)) hx hb dX1_pass_213 (by decide) ?_
    refine lv_iadd hx hb dX1_pass_214 ?_
    refine k_putN C hw (LX5_o L1) (ci := 5) rfl k_in5 tyX5 tyX5_ok nmX5 3 (by decide) ln1_78 rfl ⟨rfl, rfl⟩ rfl dX1_pass_215 (fun σ1 eq H locs hw => ?_)
    have hf := k_nmE eq hf
    exact k_vret C hw hf dX1_pass_218
  have b194 : ∀ (x2 : Int32) (σ : MSt) (H : Heap) (locs : List Loc) (ls : Array Slot), lv_has ls 3 [(0, .ref (ad 71)), (1, .ref (ad o1)), (2, .int x2)] → k_W G w A s.heap σ H locs → f_X1_pass_b194 o1 x2 σ = some σ' → W p l e rmX1_pass s m [.ref (ad 71), .ref (ad o1)].toArray below meth c H locs 0 0 (MQ below (k_Qv G w A σ') [.ref (ad 71), .ref (ad o1)].toArray s 0 0 A) (F0 m 194 ls []) := by
    intro x2 σ H locs ls hl hw hf
    unfold f_X1_pass_b194 at hf
    refine lv_aload_n hx hb dX1_pass_194 rfl (lv_at hl 1 rfl) ?_
    refine k_getN C hw (LX5_o L1) (ci := 5) rfl k_in5 4 (by decide) ln1_112 (v := .int (σ.1 o1 4)) rfl dX1_pass_195 ?_
    refine lv_iconst (v := (-1 : Int32)) hx hb dX1_pass_198 (by decide) ?_
    refine lv_icmp_eq (tgt := 208) hx hb dX1_pass_199 (by decide) (fun h => ?_) (fun h => ?_)
    · have hf := k_ifT h hf
      exact b208 σ _ _ _ (lv_sub hl [1] rfl) hw hf
    · have hf := k_ifF h hf
      refine lv_aload_n hx hb dX1_pass_202 rfl (lv_at hl 0 rfl) ?_
      refine lv_aload_n hx hb dX1_pass_203 rfl (lv_at hl 1 rfl) ?_
      refine lv_iload_n hx hb dX1_pass_204 rfl (lv_at hl 2 rfl) ?_
      obtain ⟨σ1, hq, hf⟩ := k_bvE hf
      refine k_callVv C hw (c_X1_lieByAnchor l G Y w ad o1 LC L1 x2 σ σ1 hq) (cwV 2 hts gX1_pass_X1_lieByAnchor rfl rfl rfl (by decide +kernel) ⟨Nat.le_of_ble_eq_true rfl, Nat.le_of_ble_eq_true rfl⟩) (k_recv C hw (LC_71 LC) rfl) rfl hl.1 rfl (Nat.le_of_ble_eq_true rfl) dX1_pass_205 (fun H locs hw => ?_)
      exact b208 σ1 _ _ _ (lv_sub hl [1] rfl) hw hf
  have b149 : ∀ (y0 : Int32) (σ : MSt) (H : Heap) (locs : List Loc) (ls : Array Slot), lv_has ls 3 [(0, .ref (ad 71)), (1, .ref (ad o1))] → k_W G w A s.heap σ H locs → f_X1_pass_b149 o1 y0 σ = some σ' → W p l e rmX1_pass s m [.ref (ad 71), .ref (ad o1)].toArray below meth c H locs 0 0 (MQ below (k_Qv G w A σ') [.ref (ad 71), .ref (ad o1)].toArray s 0 0 A) (F0 m 149 ls [.int y0]) := by
    intro y0 σ H locs ls hl hw hf
    unfold f_X1_pass_b149 at hf
    refine lv_istore_n (lv' := [(2, .int y0), (0, .ref (ad 71)), (1, .ref (ad o1))]) hx hb dX1_pass_149 rfl hl (by decide) rfl (fun ls hl => ?_)
    refine lv_aload_n hx hb dX1_pass_150 rfl (lv_at hl 2 rfl) ?_
    refine k_getN C hw (LX5_o L1) (ci := 5) rfl k_in5 5 (by decide) ln1_91 (v := .int (σ.1 o1 5)) rfl dX1_pass_151 ?_
    refine lv_iconst (v := (-1 : Int32)) hx hb dX1_pass_154 (by decide) ?_
    refine lv_icmp_eq (tgt := 171) hx hb dX1_pass_155 (by decide) (fun h => ?_) (fun h => ?_)
    · have hf := k_ifT h hf
      refine lv_aload_n hx hb dX1_pass_171 rfl (lv_at hl 2 rfl) ?_
      refine k_getN C hw (LX5_o L1) (ci := 5) rfl k_in5 4 (by decide) ln1_112 (v := .int (σ.1 o1 4)) rfl dX1_pass_172 ?_
      refine lv_iconst (v := (-1 : Int32)) hx hb dX1_pass_175 (by decide) ?_
      refine lv_icmp_eq (tgt := 194) hx hb dX1_pass_176 (by decide) (fun h => ?_) (fun h => ?_)
      · have hf := k_ifT h hf
        exact b194 y0 σ _ _ _ (lv_sub hl [1, 2, 0] rfl) hw hf
      · have hf := k_ifF h hf
        refine lv_aload_n hx hb dX1_pass_179 rfl (lv_at hl 2 rfl) ?_
        refine k_getN C hw (LX5_o L1) (ci := 5) rfl k_in5 7 (by decide) ln1_60 (v := .int (σ.1 o1 7)) rfl dX1_pass_180 ?_
        refine lv_if_eq (tgt := 194) hx hb dX1_pass_183 (by decide) (fun h => ?_) (fun h => ?_)
        · have hf := k_ifT h hf
          exact b194 y0 σ _ _ _ (lv_sub hl [1, 2, 0] rfl) hw hf
        · have hf := k_ifF h hf
          refine lv_aload_n hx hb dX1_pass_186 rfl (lv_at hl 1 rfl) ?_
          refine lv_aload_n hx hb dX1_pass_187 rfl (lv_at hl 2 rfl) ?_
          obtain ⟨σ1, hq, hf⟩ := k_bvE hf
          refine k_callVv C hw (c_X1_lieByCopy l G Y w ad o1 LC L1 σ σ1 hq) (cwV 1 hts gX1_pass_X1_lieByCopy rfl rfl rfl (by decide +kernel) ⟨Nat.le_of_ble_eq_true rfl, Nat.le_of_ble_eq_true rfl⟩) (k_recv C hw (LC_71 LC) rfl) rfl hl.1 rfl (Nat.le_of_ble_eq_true rfl) dX1_pass_188 (fun H locs hw => ?_)
          refine lv_goto (tgt := 208) hx hb dX1_pass_191 (by decide) ?_
          exact b208 σ1 _ _ _ (lv_sub hl [2] rfl) hw hf
    · have hf := k_ifF h hf
      refine lv_aload_n hx hb dX1_pass_158 rfl (lv_at hl 2 rfl) ?_
      refine lv_dup hx hb dX1_pass_159 rfl ?_
      refine k_getN C hw (LX5_o L1) (ci := 5) rfl k_in5 11 (by decide) ln1_109 (v := .int (σ.1 o1 11)) rfl dX1_pass_160 ?_
      refine lv_iconst (v := (1 : Int32)) hx hb dX1_pass_163 (by decide) ?_
      refine lv_iadd hx hb dX1_pass_164 ?_
      refine k_putN C hw (LX5_o L1) (ci := 5) rfl k_in5 tyX5 tyX5_ok nmX5 11 (by decide) ln1_109 rfl ⟨rfl, rfl⟩ rfl dX1_pass_165 (fun σ2 eq H locs hw => ?_)
      have hf := k_nmE eq hf
      refine lv_goto (tgt := 208) hx hb dX1_pass_168 (by decide) ?_
      exact b208 σ2 _ _ _ (lv_sub hl [2] rfl) hw hf
  have b110 : ∀ (σ : MSt) (H : Heap) (locs : List Loc) (ls : Array Slot), lv_has ls 3 [(0, .ref (ad 71)), (1, .ref (ad o1))] → k_W G w A s.heap σ H locs → f_X1_pass_b110 o1 σ = some σ' → W p l e rmX1_pass s m [.ref (ad 71), .ref (ad o1)].toArray below meth c H locs 0 0 (MQ below (k_Qv G w A σ') [.ref (ad 71), .ref (ad o1)].toArray s 0 0 A) (F0 m 110 ls []) := by
    intro σ H locs ls hl hw hf
    unfold f_X1_pass_b110 at hf
    refine lv_aload_n hx hb dX1_pass_110 rfl (lv_at hl 0 rfl) ?_
    refine k_get C hw (LC_71 LC) (ci := 1) rfl k_in1 5 (by decide) lk1_40 (v := .int (σ.1 71 5)) rfl dX1_pass_111 ?_
    refine lv_if_eq (tgt := 127) hx hb dX1_pass_114 (by decide) (fun h => ?_) (fun h => ?_)
    · have hf := k_ifT h hf
      refine lv_aload_n hx hb dX1_pass_127 rfl (lv_at hl 0 rfl) ?_
      refine k_get C hw (LC_71 LC) (ci := 1) rfl k_in1 6 (by decide) lk1_43 (v := .int (σ.1 71 6)) rfl dX1_pass_128 ?_
      refine lv_if_eq (tgt := 138) hx hb dX1_pass_131 (by decide) (fun h => ?_) (fun h => ?_)
      · have hf := k_ifT h hf
        refine lv_aload_n hx hb dX1_pass_138 rfl (lv_at hl 0 rfl) ?_
        refine k_get C hw (LC_71 LC) (ci := 1) rfl k_in1 0 (by decide) lk1_25 (v := .ref (ad 10)) rfl dX1_pass_139 ?_
        refine lv_aload_n hx hb dX1_pass_142 rfl (lv_at hl 1 rfl) ?_
        refine k_getN C hw (LX5_o L1) (ci := 5) rfl k_in5 3 (by decide) ln1_78 (v := .int (σ.1 o1 3)) rfl dX1_pass_143 ?_
        obtain ⟨q2, σ1, hq, hf⟩ := k_bdE hf
        refine k_callVi C hw (c_X0_galeOf l G Y w ad 10 (LCL_10 LC) (σ.1 o1 3) σ q2 σ1 hq) (cwV 1 hts gX1_pass_X0_galeOf rfl rfl rfl (by decide +kernel) ⟨Nat.le_of_ble_eq_true rfl, Nat.le_of_ble_eq_true rfl⟩) (k_recv C hw (LC_10 LC) rfl) rfl hl.1 rfl (Nat.le_of_ble_eq_true rfl) dX1_pass_146 (fun H locs hw => ?_)
        exact b149 q2 σ1 _ _ _ (lv_sub hl [0, 1] rfl) hw hf
      · have hf := k_ifF h hf
        refine lv_iconst (v := (0 : Int32)) hx hb dX1_pass_134 (by decide) ?_
        refine lv_goto (tgt := 149) hx hb dX1_pass_135 (by decide) ?_
        exact b149 (0 : Int32) σ _ _ _ (lv_sub hl [0, 1] rfl) hw hf
    · have hf := k_ifF h hf
      refine lv_aload_n hx hb dX1_pass_117 rfl (lv_at hl 1 rfl) ?_
      obtain ⟨q4, σ3, hq, hf⟩ := k_bdE hf
      refine k_callVi C hw (c_X5_draw l G Y w ad o1 L1 σ q4 σ3 hq) (cwV 0 hts gX1_pass_X5_draw rfl rfl rfl (by decide +kernel) ⟨Nat.le_of_ble_eq_true rfl, Nat.le_of_ble_eq_true rfl⟩) (k_recv C hw (LX5_o L1) rfl) rfl hl.1 rfl (Nat.le_of_ble_eq_true rfl) dX1_pass_118 (fun H locs hw => ?_)
      refine lv_bipush (v := (10 : Int32)) hx hb dX1_pass_121 (by decide) ?_
      refine k_irem C dX1_pass_123 (by decide) ?_
      refine lv_goto (tgt := 149) hx hb dX1_pass_124 (by decide) ?_
      exact b149 (k_rem q4 (10 : Int32)) σ3 _ _ _ (lv_sub hl [0, 1] rfl) hw hf
  have b83 : ∀ (σ : MSt) (H : Heap) (locs : List Loc) (ls : Array Slot), lv_has ls 3 [(0, .ref (ad 71)), (1, .ref (ad o1))] → k_W G w A s.heap σ H locs → f_X1_pass_b83 o1 σ = some σ' → W p l e rmX1_pass s m [.ref (ad 71), .ref (ad o1)].toArray below meth c H locs 0 0 (MQ below (k_Qv G w A σ') [.ref (ad 71), .ref (ad o1)].toArray s 0 0 A) (F0 m 83 ls []) := by
    intro σ H locs ls hl hw hf
    unfold f_X1_pass_b83 at hf
    refine lv_aload_n hx hb dX1_pass_83 rfl (lv_at hl 1 rfl) ?_
    refine k_getN C hw (LX5_o L1) (ci := 5) rfl k_in5 5 (by decide) ln1_91 (v := .int (σ.1 o1 5)) rfl dX1_pass_84 ?_
    refine lv_iconst (v := (-1 : Int32)) hx hb dX1_pass_87 (by decide) ?_
    refine lv_icmp_eq (tgt := 110) hx hb dX1_pass_88 (by decide) (fun h => ?_) (fun h => ?_)
    · have hf := k_ifT h hf
      exact b110 σ _ _ _ (lv_sub hl [0, 1] rfl) hw hf
    · have hf := k_ifF h hf
      refine lv_aload_n hx hb dX1_pass_91 rfl (lv_at hl 1 rfl) ?_
      refine k_getN C hw (LX5_o L1) (ci := 5) rfl k_in5 6 (by decide) ln1_94 (v := .int (σ.1 o1 6)) rfl dX1_pass_92 ?_
      refine lv_aload_n hx hb dX1_pass_95 rfl (lv_at hl 1 rfl) ?_
      refine k_getN C hw (LX5_o L1) (ci := 5) rfl k_in5 3 (by decide) ln1_78 (v := .int (σ.1 o1 3)) rfl dX1_pass_96 ?_
      refine lv_icmp_gt (tgt := 110) hx hb dX1_pass_99 (by decide) (fun h => ?_) (fun h => ?_)
      · have hf := k_ifT h hf
        exact b110 σ _ _ _ (lv_sub hl [0, 1] rfl) hw hf
      · have hf := k_ifF h hf
        refine lv_aload_n hx hb dX1_pass_102 rfl (lv_at hl 1 rfl) ?_
        refine lv_aload_n hx hb dX1_pass_103 rfl (lv_at hl 1 rfl) ?_
        refine k_getN C hw (LX5_o L1) (ci := 5) rfl k_in5 5 (by decide) ln1_91 (v := .int (σ.1 o1 5)) rfl dX1_pass_104 ?_
        obtain ⟨σ1, hq, hf⟩ := k_bvE hf
        refine k_callVv C hw (c_X5_lieIn l G Y w ad o1 L1 (σ.1 o1 5) σ σ1 hq) (cwV 1 hts gX1_pass_X5_lieIn rfl rfl rfl (by decide +kernel) ⟨Nat.le_of_ble_eq_true rfl, Nat.le_of_ble_eq_true rfl⟩) (k_recv C hw (LX5_o L1) rfl) rfl hl.1 rfl (Nat.le_of_ble_eq_true rfl) dX1_pass_107 (fun H locs hw => ?_)
        exact b110 σ1 _ _ _ (lv_sub hl [0, 1] rfl) hw hf
  have b2 : ∀ (n2 : Nat) (x2 : Int32) (σ : MSt) (H : Heap) (locs : List Loc) (ls : Array Slot), lv_has ls 3 [(0, .ref (ad 71)), (1, .ref (ad o1)), (2, .int x2)] → k_W G w A s.heap σ H locs → f_X1_pass_b2 o1 n2 x2 σ = some σ' → W p l e rmX1_pass s m [.ref (ad 71), .ref (ad o1)].toArray below meth c H locs 0 0 (MQ below (k_Qv G w A σ') [.ref (ad 71), .ref (ad o1)].toArray s 0 0 A) (F0 m 2 ls []) := by
    intro n2
    induction n2 with
    | zero =>
      intro x2 σ H locs ls hl hw hf
      have hf : (none : Option MSt) = some σ' := hf
      cases hf
    | succ n2 ih2 =>
      have b77 : ∀ (x2 : Int32) (σ : MSt) (H : Heap) (locs : List Loc) (ls : Array Slot), lv_has ls 3 [(0, .ref (ad 71)), (1, .ref (ad o1)), (2, .int x2)] → k_W G w A s.heap σ H locs → f_X1_pass_b77 o1 (f_X1_pass_b2 o1 n2) x2 σ = some σ' → W p l e rmX1_pass s m [.ref (ad 71), .ref (ad o1)].toArray below meth c H locs 0 0 (MQ below (k_Qv G w A σ') [.ref (ad 71), .ref (ad o1)].toArray s 0 0 A) (F0 m 77 ls []) := by
        intro x2 σ H locs ls hl hw hf
        unfold f_X1_pass_b77 at hf
        obtain ⟨u1, ex⟩ : ∃ y : Int32, y = (x2 + (1 : Int32)) := ⟨_, rfl⟩
        have hf := k_nmE ex hf
        refine lv_iinc (v := u1) (lv' := [(2, .int u1), (0, .ref (ad 71)), (1, .ref (ad o1))]) hx hb dX1_pass_77 hl (k := 2) rfl (by rw [ex]; rfl) (by decide) rfl (fun ls hl => ?_)
        refine lv_goto (tgt := 2) hx hb dX1_pass_80 (by decide) ?_
        exact ih2 u1 σ _ _ _ (lv_sub hl [1, 2, 0] rfl) hw hf
      have b74 : ∀ (x2 : Int32) (y1 : Int32) (y2 : Int32) (σ : MSt) (H : Heap) (locs : List Loc) (ls : Array Slot), lv_has ls 3 [(0, .ref (ad 71)), (1, .ref (ad o1)), (2, .int x2)] → k_W G w A s.heap σ H locs → f_X1_pass_b74 o1 (f_X1_pass_b2 o1 n2) x2 y1 y2 σ = some σ' → W p l e rmX1_pass s m [.ref (ad 71), .ref (ad o1)].toArray below meth c H locs 0 0 (MQ below (k_Qv G w A σ') [.ref (ad 71), .ref (ad o1)].toArray s 0 0 A) (F0 m 74 ls [.int y2, .int y1, .ref (ad o1)]) := by
        intro x2 y1 y2 σ H locs ls hl hw hf
        unfold f_X1_pass_b74 at hf
        obtain ⟨σ1, hq, hf⟩ := k_bvE hf
        refine k_callVv C hw (c_X5_remember l G Y w ad o1 L1 y1 y2 σ σ1 hq) (cwV 2 hts gX1_pass_X5_remember rfl rfl rfl (by decide +kernel) ⟨Nat.le_of_ble_eq_true rfl, Nat.le_of_ble_eq_true rfl⟩) (k_recv C hw (LX5_o L1) rfl) rfl hl.1 rfl (Nat.le_of_ble_eq_true rfl) dX1_pass_74 (fun H locs hw => ?_)
        exact b77 x2 σ1 _ _ _ (lv_sub hl [0, 1, 2] rfl) hw hf
      intro x2 σ H locs ls hl hw hf
      have hf : f_X1_pass_b2_s o1 (f_X1_pass_b2 o1 n2) x2 σ = some σ' := hf
      unfold f_X1_pass_b2_s at hf
      refine lv_iload_n hx hb dX1_pass_2 rfl (lv_at hl 2 rfl) ?_
      refine lv_aload_n hx hb dX1_pass_3 rfl (lv_at hl 0 rfl) ?_
      refine k_get C hw (LC_71 LC) (ci := 1) rfl k_in1 0 (by decide) lk1_25 (v := .ref (ad 10)) rfl dX1_pass_4 ?_
      refine k_getN C hw (LC_10 LC) (ci := 0) rfl k_in0 9 (by decide) ln1_69 (v := .int (σ.1 10 9)) rfl dX1_pass_7 ?_
      refine lv_icmp_ge (tgt := 83) hx hb dX1_pass_10 (by decide) (fun h => ?_) (fun h => ?_)
      · have hf := k_ifT h hf
        exact b83 σ _ _ _ (lv_sub hl [0, 1] rfl) hw hf
      · have hf := k_ifF h hf
        refine lv_iload_n hx hb dX1_pass_13 rfl (lv_at hl 2 rfl) ?_
        refine lv_bipush (v := (12 : Int32)) hx hb dX1_pass_14 (by decide) ?_
        refine lv_icmp_ge (tgt := 83) hx hb dX1_pass_16 (by decide) (fun h => ?_) (fun h => ?_)
        · have hf := k_ifT h hf
          exact b83 σ _ _ _ (lv_sub hl [0, 1] rfl) hw hf
        · have hf := k_ifF h hf
          refine lv_aload_n hx hb dX1_pass_19 rfl (lv_at hl 0 rfl) ?_
          refine k_get C hw (LC_71 LC) (ci := 1) rfl k_in1 0 (by decide) lk1_25 (v := .ref (ad 10)) rfl dX1_pass_20 ?_
          refine k_getN C hw (LC_10 LC) (ci := 0) rfl k_in0 3 (by decide) ln1_74 (v := .ref (ad 14)) rfl dX1_pass_23 ?_
          refine lv_iload_n hx hb dX1_pass_26 rfl (lv_at hl 2 rfl) ?_
          obtain ⟨hi, hf⟩ := k_ckE hf
          refine k_iald C hw (LC_14 LC) hi dX1_pass_27 ?_
          refine lv_aload_n hx hb dX1_pass_28 rfl (lv_at hl 1 rfl) ?_
          refine k_getN C hw (LX5_o L1) (ci := 5) rfl k_in5 3 (by decide) ln1_78 (v := .int (σ.1 o1 3)) rfl dX1_pass_29 ?_
          refine lv_icmp_ne (tgt := 77) hx hb dX1_pass_32 (by decide) (fun h => ?_) (fun h => ?_)
          · have hf := k_ifF h hf
            exact b77 x2 σ _ _ _ (lv_sub hl [0, 1, 2] rfl) hw hf
          · have hf := k_ifT h hf
            refine lv_iload_n hx hb dX1_pass_35 rfl (lv_at hl 2 rfl) ?_
            refine lv_aload_n hx hb dX1_pass_36 rfl (lv_at hl 0 rfl) ?_
            refine k_get C hw (LC_71 LC) (ci := 1) rfl k_in1 8 (by decide) lk1_49 (v := .int (σ.1 71 8)) rfl dX1_pass_37 ?_
            refine lv_icmp_eq (tgt := 77) hx hb dX1_pass_40 (by decide) (fun h => ?_) (fun h => ?_)
            · have hf := k_ifT h hf
              exact b77 x2 σ _ _ _ (lv_sub hl [0, 1, 2] rfl) hw hf
            · have hf := k_ifF h hf
              refine lv_aload_n hx hb dX1_pass_43 rfl (lv_at hl 1 rfl) ?_
              refine lv_aload_n hx hb dX1_pass_44 rfl (lv_at hl 0 rfl) ?_
              refine k_get C hw (LC_71 LC) (ci := 1) rfl k_in1 0 (by decide) lk1_25 (v := .ref (ad 10)) rfl dX1_pass_45 ?_
              refine k_getN C hw (LC_10 LC) (ci := 0) rfl k_in0 2 (by decide) ln1_81 (v := .ref (ad 13)) rfl dX1_pass_48 ?_
              refine lv_iload_n hx hb dX1_pass_51 rfl (lv_at hl 2 rfl) ?_
              obtain ⟨hi, hf⟩ := k_ckE hf
              refine k_iald C hw (LC_13 LC) hi dX1_pass_52 ?_
              refine lv_aload_n hx hb dX1_pass_53 rfl (lv_at hl 0 rfl) ?_
              refine k_get C hw (LC_71 LC) (ci := 1) rfl k_in1 7 (by decide) lk1_46 (v := .int (σ.1 71 7)) rfl dX1_pass_54 ?_
              refine lv_if_eq (tgt := 65) hx hb dX1_pass_57 (by decide) (fun h => ?_) (fun h => ?_)
              · have hf := k_ifT h hf
                refine lv_aload_n hx hb dX1_pass_65 rfl (lv_at hl 0 rfl) ?_
                refine k_get C hw (LC_71 LC) (ci := 1) rfl k_in1 0 (by decide) lk1_25 (v := .ref (ad 10)) rfl dX1_pass_66 ?_
                refine k_getN C hw (LC_10 LC) (ci := 0) rfl k_in0 4 (by decide) ln1_84 (v := .ref (ad 15)) rfl dX1_pass_69 ?_
                refine lv_iload_n hx hb dX1_pass_72 rfl (lv_at hl 2 rfl) ?_
                obtain ⟨hi, hf⟩ := k_ckE hf
                refine k_iald C hw (LC_15 LC) hi dX1_pass_73 ?_
                exact b74 x2 (σ.1 13 (x2).toNatClampNeg) (σ.1 15 (x2).toNatClampNeg) σ _ _ _ (lv_sub hl [0, 1, 2] rfl) hw hf
              · have hf := k_ifF h hf
                refine lv_bipush (v := (9 : Int32)) hx hb dX1_pass_60 (by decide) ?_
                refine lv_goto (tgt := 74) hx hb dX1_pass_62 (by decide) ?_
                exact b74 x2 (σ.1 13 (x2).toNatClampNeg) (9 : Int32) σ _ _ _ (lv_sub hl [0, 1, 2] rfl) hw hf
  unfold f_X1_pass at hf
  refine lv_iconst (v := (0 : Int32)) hx hb dX1_pass_0 (by decide) ?_
  refine lv_istore_n (lv' := [(2, .int (0 : Int32)), (0, .ref (ad 71)), (1, .ref (ad o1))]) hx hb dX1_pass_1 rfl hl (by decide) rfl (fun ls hl => ?_)
  exact b2 FU (0 : Int32) σ _ _ _ (lv_sub hl [1, 2, 0] rfl) hw hf
def f_X1_firstAdriftOf_b10_s  (r10 : Int32 → Int32 → Int32 → MSt → Option (Int32 × MSt)) (x1 : Int32) (x2 : Int32) (x3 : Int32) (σ : MSt) : Option (Int32 × MSt) :=
  if x1 < x3 then
  (some ((-2 : Int32), σ))
  else
  (k_bv (f_X1_pass 58 σ) fun σ1 =>
  if (σ1.1 58 10) ≤ x2 then
  (k_nm (x3 + (1 : Int32)) fun u2 =>
  r10 x1 x2 u2 σ1)
  else
  (some (x3, σ1)))
def f_X1_firstAdriftOf_b10  : Nat → Int32 → Int32 → Int32 → MSt → Option (Int32 × MSt)
  | 0 => fun _ _ _ _ => none
  | n + 1 => f_X1_firstAdriftOf_b10_s (f_X1_firstAdriftOf_b10 n)
def f_X1_firstAdriftOf  (p1 : Int32) (σ : MSt) : Option (Int32 × MSt) :=
  k_nm (σ.1 58 10) fun u3 =>
  f_X1_firstAdriftOf_b10 FU p1 u3 (1 : Int32) σ
def rmX1_firstAdriftOf : Room := { frames := 5, cells := 0, slots := 0, locals := 118 }
set_option maxHeartbeats 4000000 in
set_option maxRecDepth 100000 in
theorem c_X1_firstAdriftOf (l : Launch) (G : va_G) (Y : CY) (w : MSt → va_W) (ad : Nat → Nat)  (LC : LayC ad w Y) (p1 : Int32) (σ : MSt) (r : Int32) (σ' : MSt) (hf : f_X1_firstAdriftOf p1 σ = some (r, σ')) : k_Mi l yX1_firstAdriftOf wsX1_firstAdriftOf rmX1_firstAdriftOf G Y w [.ref (ad 71), .int p1] σ r σ' := by
  refine k_ofi (own := RX1) (cc := cX1_firstAdriftOf) (maxL := 4) (some .int) (by decide) rfl rfl (Nat.le_of_ble_eq_true rfl) ?_
  intro p e s m below meth c A C ls hl hw
  have hx := C.1
  have hb := C.2.1
  have hown := C.2.2.2.2.1
  have hts := C.2.2.2.2.2.1
  have hks := C.2.2.2.2.2.2.1
  have hl : lv_has ls 4 [(0, .ref (ad 71)), (1, .int p1)] := hl
  have b10 : ∀ (n10 : Nat) (x1 : Int32) (x2 : Int32) (x3 : Int32) (σ : MSt) (H : Heap) (locs : List Loc) (ls : Array Slot), lv_has ls 4 [(0, .ref (ad 71)), (1, .int x1), (2, .int x2), (3, .int x3)] → k_W G w A s.heap σ H locs → f_X1_firstAdriftOf_b10 n10 x1 x2 x3 σ = some (r, σ') → W p l e rmX1_firstAdriftOf s m [.ref (ad 71), .int p1].toArray below meth c H locs 0 0 (MQ below (k_Qi G w A r σ') [.ref (ad 71), .int p1].toArray s 0 0 A) (F0 m 10 ls []) := by
    intro n10
    induction n10 with
    | zero =>
      intro x1 x2 x3 σ H locs ls hl hw hf
      have hf : (none : Option (Int32 × MSt)) = some (r, σ') := hf
      cases hf
    | succ n10 ih10 =>
      intro x1 x2 x3 σ H locs ls hl hw hf
      have hf : f_X1_firstAdriftOf_b10_s (f_X1_firstAdriftOf_b10 n10) x1 x2 x3 σ = some (r, σ') := hf
      unfold f_X1_firstAdriftOf_b10_s at hf
      refine lv_iload_n hx hb dX1_firstAdriftOf_10 rfl (lv_at hl 3 rfl) ?_
      refine lv_iload_n hx hb dX1_firstAdriftOf_11 rfl (lv_at hl 1 rfl) ?_
      refine lv_icmp_gt (tgt := 42) hx hb dX1_firstAdriftOf_12 (by decide) (fun h => ?_) (fun h => ?_)
      · have hf := k_ifT h hf
        refine lv_bipush (v := (-2 : Int32)) hx hb dX1_firstAdriftOf_42 (by decide) ?_
        exact k_iret C hw hf dX1_firstAdriftOf_44
      · have hf := k_ifF h hf
        refine lv_aload_n hx hb dX1_firstAdriftOf_15 rfl (lv_at hl 0 rfl) ?_
        refine lv_aload_n hx hb dX1_firstAdriftOf_16 rfl (lv_at hl 0 rfl) ?_
        refine k_get C hw (LC_71 LC) (ci := 1) rfl k_in1 2 (by decide) lk1_12 (v := .ref (ad 58)) rfl dX1_firstAdriftOf_17 ?_
        obtain ⟨σ1, hq, hf⟩ := k_bvE hf
        refine k_callVv C hw (c_X1_pass l G Y w ad 58 LC (LCL_58 LC) σ σ1 hq) (cwV 1 hts gX1_firstAdriftOf_X1_pass rfl rfl rfl (by decide +kernel) ⟨Nat.le_of_ble_eq_true rfl, Nat.le_of_ble_eq_true rfl⟩) (k_recv C hw (LC_71 LC) rfl) rfl hl.1 rfl (Nat.le_of_ble_eq_true rfl) dX1_firstAdriftOf_20 (fun H locs hw => ?_)
        refine lv_aload_n hx hb dX1_firstAdriftOf_23 rfl (lv_at hl 0 rfl) ?_
        refine k_get C hw (LC_71 LC) (ci := 1) rfl k_in1 2 (by decide) lk1_12 (v := .ref (ad 58)) rfl dX1_firstAdriftOf_24 ?_
        refine k_getN C hw (LC_58 LC) (ci := 5) rfl k_in5 10 (by decide) ln1_63 (v := .int (σ1.1 58 10)) rfl dX1_firstAdriftOf_27 ?_
        refine lv_iload_n hx hb dX1_firstAdriftOf_30 rfl (lv_at hl 2 rfl) ?_
        refine lv_icmp_le (tgt := 36) hx hb dX1_firstAdriftOf_31 (by decide) (fun h => ?_) (fun h => ?_)
        · have hf := k_ifT h hf
          obtain ⟨u2, ex⟩ : ∃ y : Int32, y = (x3 + (1 : Int32)) := ⟨_, rfl⟩
          have hf := k_nmE ex hf
          refine lv_iinc (v := u2) (lv' := [(3, .int u2), (0, .ref (ad 71)), (1, .int x1), (2, .int x2)]) hx hb dX1_firstAdriftOf_36 hl (k := 3) rfl (by rw [ex]; rfl) (by decide) rfl (fun ls hl => ?_)
          refine lv_goto (tgt := 10) hx hb dX1_firstAdriftOf_39 (by decide) ?_
          exact ih10 x1 x2 u2 σ1 _ _ _ (lv_sub hl [1, 2, 3, 0] rfl) hw hf
        · have hf := k_ifF h hf
          refine lv_iload_n hx hb dX1_firstAdriftOf_34 rfl (lv_at hl 3 rfl) ?_
          exact k_iret C hw hf dX1_firstAdriftOf_35
  unfold f_X1_firstAdriftOf at hf
  refine lv_aload_n hx hb dX1_firstAdriftOf_0 rfl (lv_at hl 0 rfl) ?_
  refine k_get C hw (LC_71 LC) (ci := 1) rfl k_in1 2 (by decide) lk1_12 (v := .ref (ad 58)) rfl dX1_firstAdriftOf_1 ?_
  refine k_getN C hw (LC_58 LC) (ci := 5) rfl k_in5 10 (by decide) ln1_63 (v := .int (σ.1 58 10)) rfl dX1_firstAdriftOf_4 ?_
  refine lv_topi (fun u3 ex => ?_)
  have hf := k_nmE ex hf
  refine lv_istore_n (lv' := [(2, .int u3), (0, .ref (ad 71)), (1, .int p1)]) hx hb dX1_firstAdriftOf_7 rfl hl (by decide) rfl (fun ls hl => ?_)
  refine lv_iconst (v := (1 : Int32)) hx hb dX1_firstAdriftOf_8 (by decide) ?_
  refine lv_istore_n (lv' := [(3, .int (1 : Int32)), (2, .int u3), (0, .ref (ad 71)), (1, .int p1)]) hx hb dX1_firstAdriftOf_9 rfl hl (by decide) rfl (fun ls hl => ?_)
  exact b10 FU p1 u3 (1 : Int32) σ _ _ _ (lv_sub hl [2, 3, 1, 0] rfl) hw hf
def f_X1_adriftOf_b10_s  (r10 : Int32 → Int32 → Int32 → MSt → Option (Int32 × MSt)) (x1 : Int32) (x2 : Int32) (x3 : Int32) (σ : MSt) : Option (Int32 × MSt) :=
  if x1 ≤ x3 then
  (some (((σ.1 58 10) - x2), σ))
  else
  (k_bv (f_X1_pass 58 σ) fun σ1 =>
  k_nm (x3 + (1 : Int32)) fun u2 =>
  r10 x1 x2 u2 σ1)
def f_X1_adriftOf_b10  : Nat → Int32 → Int32 → Int32 → MSt → Option (Int32 × MSt)
  | 0 => fun _ _ _ _ => none
  | n + 1 => f_X1_adriftOf_b10_s (f_X1_adriftOf_b10 n)
def f_X1_adriftOf  (p1 : Int32) (σ : MSt) : Option (Int32 × MSt) :=
  k_nm (σ.1 58 10) fun u3 =>
  f_X1_adriftOf_b10 FU p1 u3 (0 : Int32) σ
def rmX1_adriftOf : Room := { frames := 5, cells := 0, slots := 0, locals := 118 }
set_option maxHeartbeats 4000000 in
set_option maxRecDepth 100000 in
theorem c_X1_adriftOf (l : Launch) (G : va_G) (Y : CY) (w : MSt → va_W) (ad : Nat → Nat)  (LC : LayC ad w Y) (p1 : Int32) (σ : MSt) (r : Int32) (σ' : MSt) (hf : f_X1_adriftOf p1 σ = some (r, σ')) : k_Mi l yX1_adriftOf wsX1_adriftOf rmX1_adriftOf G Y w [.ref (ad 71), .int p1] σ r σ' := by
  refine k_ofi (own := RX1) (cc := cX1_adriftOf) (maxL := 4) (some .int) (by decide) rfl rfl (Nat.le_of_ble_eq_true rfl) ?_
  intro p e s m below meth c A C ls hl hw
  have hx := C.1
  have hb := C.2.1
  have hown := C.2.2.2.2.1
  have hts := C.2.2.2.2.2.1
  have hks := C.2.2.2.2.2.2.1
  have hl : lv_has ls 4 [(0, .ref (ad 71)), (1, .int p1)] := hl
  have b10 : ∀ (n10 : Nat) (x1 : Int32) (x2 : Int32) (x3 : Int32) (σ : MSt) (H : Heap) (locs : List Loc) (ls : Array Slot), lv_has ls 4 [(0, .ref (ad 71)), (1, .int x1), (2, .int x2), (3, .int x3)] → k_W G w A s.heap σ H locs → f_X1_adriftOf_b10 n10 x1 x2 x3 σ = some (r, σ') → W p l e rmX1_adriftOf s m [.ref (ad 71), .int p1].toArray below meth c H locs 0 0 (MQ below (k_Qi G w A r σ') [.ref (ad 71), .int p1].toArray s 0 0 A) (F0 m 10 ls []) := by
    intro n10
    induction n10 with
    | zero =>
      intro x1 x2 x3 σ H locs ls hl hw hf
      have hf : (none : Option (Int32 × MSt)) = some (r, σ') := hf
      cases hf
    | succ n10 ih10 =>
      intro x1 x2 x3 σ H locs ls hl hw hf
      have hf : f_X1_adriftOf_b10_s (f_X1_adriftOf_b10 n10) x1 x2 x3 σ = some (r, σ') := hf
      unfold f_X1_adriftOf_b10_s at hf
      refine lv_iload_n hx hb dX1_adriftOf_10 rfl (lv_at hl 3 rfl) ?_
      refine lv_iload_n hx hb dX1_adriftOf_11 rfl (lv_at hl 1 rfl) ?_
      refine lv_icmp_ge (tgt := 29) hx hb dX1_adriftOf_12 (by decide) (fun h => ?_) (fun h => ?_)
      · have hf := k_ifT h hf
        refine lv_aload_n hx hb dX1_adriftOf_29 rfl (lv_at hl 0 rfl) ?_
        refine k_get C hw (LC_71 LC) (ci := 1) rfl k_in1 2 (by decide) lk1_12 (v := .ref (ad 58)) rfl dX1_adriftOf_30 ?_
        refine k_getN C hw (LC_58 LC) (ci := 5) rfl k_in5 10 (by decide) ln1_63 (v := .int (σ.1 58 10)) rfl dX1_adriftOf_33 ?_
        refine lv_iload_n hx hb dX1_adriftOf_36 rfl (lv_at hl 2 rfl) ?_
        refine lv_isub hx hb dX1_adriftOf_37 ?_
        exact k_iret C hw hf dX1_adriftOf_38
      · have hf := k_ifF h hf
        refine lv_aload_n hx hb dX1_adriftOf_15 rfl (lv_at hl 0 rfl) ?_
        refine lv_aload_n hx hb dX1_adriftOf_16 rfl (lv_at hl 0 rfl) ?_
        refine k_get C hw (LC_71 LC) (ci := 1) rfl k_in1 2 (by decide) lk1_12 (v := .ref (ad 58)) rfl dX1_adriftOf_17 ?_
        obtain ⟨σ1, hq, hf⟩ := k_bvE hf
        refine k_callVv C hw (c_X1_pass l G Y w ad 58 LC (LCL_58 LC) σ σ1 hq) (cwV 1 hts gX1_adriftOf_X1_pass rfl rfl rfl (by decide +kernel) ⟨Nat.le_of_ble_eq_true rfl, Nat.le_of_ble_eq_true rfl⟩) (k_recv C hw (LC_71 LC) rfl) rfl hl.1 rfl (Nat.le_of_ble_eq_true rfl) dX1_adriftOf_20 (fun H locs hw => ?_)
        obtain ⟨u2, ex⟩ : ∃ y : Int32, y = (x3 + (1 : Int32)) := ⟨_, rfl⟩
        have hf := k_nmE ex hf
        refine lv_iinc (v := u2) (lv' := [(3, .int u2), (0, .ref (ad 71)), (1, .int x1), (2, .int x2)]) hx hb dX1_adriftOf_23 hl (k := 3) rfl (by rw [ex]; rfl) (by decide) rfl (fun ls hl => ?_)
        refine lv_goto (tgt := 10) hx hb dX1_adriftOf_26 (by decide) ?_
        exact ih10 x1 x2 u2 σ1 _ _ _ (lv_sub hl [1, 2, 3, 0] rfl) hw hf
  unfold f_X1_adriftOf at hf
  refine lv_aload_n hx hb dX1_adriftOf_0 rfl (lv_at hl 0 rfl) ?_
  refine k_get C hw (LC_71 LC) (ci := 1) rfl k_in1 2 (by decide) lk1_12 (v := .ref (ad 58)) rfl dX1_adriftOf_1 ?_
  refine k_getN C hw (LC_58 LC) (ci := 5) rfl k_in5 10 (by decide) ln1_63 (v := .int (σ.1 58 10)) rfl dX1_adriftOf_4 ?_
  refine lv_topi (fun u3 ex => ?_)
  have hf := k_nmE ex hf
  refine lv_istore_n (lv' := [(2, .int u3), (0, .ref (ad 71)), (1, .int p1)]) hx hb dX1_adriftOf_7 rfl hl (by decide) rfl (fun ls hl => ?_)
  refine lv_iconst (v := (0 : Int32)) hx hb dX1_adriftOf_8 (by decide) ?_
  refine lv_istore_n (lv' := [(3, .int (0 : Int32)), (2, .int u3), (0, .ref (ad 71)), (1, .int p1)]) hx hb dX1_adriftOf_9 rfl hl (by decide) rfl (fun ls hl => ?_)
  exact b10 FU p1 u3 (0 : Int32) σ _ _ _ (lv_sub hl [2, 3, 1, 0] rfl) hw hf
def f_X2_clear   (σ : MSt) : Option MSt :=
  k_nm (mI σ 62 5 (0 : Int32)) fun σ1 =>
  some σ1
def rmX2_clear : Room := { frames := 0, cells := 0, slots := 0, locals := 0 }
set_option maxHeartbeats 4000000 in
set_option maxRecDepth 100000 in
theorem c_X2_clear (l : Launch) (G : va_G) (Y : CY) (w : MSt → va_W) (ad : Nat → Nat)  (LC : LayC ad w Y)  (σ : MSt) (σ' : MSt) (hf : f_X2_clear σ = some σ') : k_Mv l yX2_clear wsX2_clear rmX2_clear G Y w [.ref (ad 62)] σ σ' := by
  refine k_ofv (own := RX2) (cc := cX2_clear) (maxL := 1) none (by decide) rfl rfl (Nat.le_of_ble_eq_true rfl) ?_
  intro p e s m below meth c A C ls hl hw
  have hx := C.1
  have hb := C.2.1
  have hown := C.2.2.2.2.1
  have hts := C.2.2.2.2.2.1
  have hks := C.2.2.2.2.2.2.1
  have hl : lv_has ls 1 [(0, .ref (ad 62))] := hl
  unfold f_X2_clear at hf
  refine lv_aload_n hx hb dX2_clear_0 rfl (lv_at hl 0 rfl) ?_
  refine lv_iconst (v := (0 : Int32)) hx hb dX2_clear_1 (by decide) ?_
  refine k_put C hw (LC_62 LC) (ci := 2) rfl k_in2 tyX2 tyX2_ok nmX2 5 (by decide) lk2_28 rfl ⟨rfl, rfl⟩ rfl dX2_clear_2 (fun σ1 eq H locs hw => ?_)
  have hf := k_nmE eq hf
  exact k_vret C hw hf dX2_clear_5
def f_X2_forgetFirst_b2_s  (r2 : Int32 → MSt → Option MSt) (x1 : Int32) (σ : MSt) : Option MSt :=
  if (20 : Int32) ≤ x1 then
  (k_nm (mI σ 62 5 (19 : Int32)) fun σ1 =>
  some σ1)
  else
  (k_ck (k_inb x1 20) <|
  k_ck (k_inb (x1 - (1 : Int32)) 20) <|
  k_nm (mI σ 63 ((x1 - (1 : Int32))).toNatClampNeg (σ.1 63 (x1).toNatClampNeg)) fun σ2 =>
  k_ck (k_inb x1 20) <|
  k_ck (k_inb (x1 - (1 : Int32)) 20) <|
  k_nm (mI σ2 64 ((x1 - (1 : Int32))).toNatClampNeg (σ2.1 64 (x1).toNatClampNeg)) fun σ3 =>
  k_ck (k_inb x1 20) <|
  k_ck (k_inb (x1 - (1 : Int32)) 20) <|
  k_nm (mI σ3 65 ((x1 - (1 : Int32))).toNatClampNeg (σ3.1 65 (x1).toNatClampNeg)) fun σ4 =>
  k_ck (k_inb x1 20) <|
  k_ck (k_inb (x1 - (1 : Int32)) 20) <|
  k_nm (mI σ4 66 ((x1 - (1 : Int32))).toNatClampNeg (σ4.1 66 (x1).toNatClampNeg)) fun σ5 =>
  k_nm (x1 + (1 : Int32)) fun u6 =>
  r2 u6 σ5)
def f_X2_forgetFirst_b2  : Nat → Int32 → MSt → Option MSt
  | 0 => fun _ _ => none
  | n + 1 => f_X2_forgetFirst_b2_s (f_X2_forgetFirst_b2 n)
def f_X2_forgetFirst   (σ : MSt) : Option MSt :=
  f_X2_forgetFirst_b2 FU (1 : Int32) σ
def rmX2_forgetFirst : Room := { frames := 0, cells := 0, slots := 0, locals := 0 }
set_option maxHeartbeats 4000000 in
set_option maxRecDepth 100000 in
theorem c_X2_forgetFirst (l : Launch) (G : va_G) (Y : CY) (w : MSt → va_W) (ad : Nat → Nat)  (LC : LayC ad w Y)  (σ : MSt) (σ' : MSt) (hf : f_X2_forgetFirst σ = some σ') : k_Mv l yX2_forgetFirst wsX2_forgetFirst rmX2_forgetFirst G Y w [.ref (ad 62)] σ σ' := by
  refine k_ofv (own := RX2) (cc := cX2_forgetFirst) (maxL := 2) none (by decide) rfl rfl (Nat.le_of_ble_eq_true rfl) ?_
  intro p e s m below meth c A C ls hl hw
  have hx := C.1
  have hb := C.2.1
  have hown := C.2.2.2.2.1
  have hts := C.2.2.2.2.2.1
  have hks := C.2.2.2.2.2.2.1
  have hl : lv_has ls 2 [(0, .ref (ad 62))] := hl
  have b2 : ∀ (n2 : Nat) (x1 : Int32) (σ : MSt) (H : Heap) (locs : List Loc) (ls : Array Slot), lv_has ls 2 [(0, .ref (ad 62)), (1, .int x1)] → k_W G w A s.heap σ H locs → f_X2_forgetFirst_b2 n2 x1 σ = some σ' → W p l e rmX2_forgetFirst s m [.ref (ad 62)].toArray below meth c H locs 0 0 (MQ below (k_Qv G w A σ') [.ref (ad 62)].toArray s 0 0 A) (F0 m 2 ls []) := by
    intro n2
    induction n2 with
    | zero =>
      intro x1 σ H locs ls hl hw hf
      have hf : (none : Option MSt) = some σ' := hf
      cases hf
    | succ n2 ih2 =>
      intro x1 σ H locs ls hl hw hf
      have hf : f_X2_forgetFirst_b2_s (f_X2_forgetFirst_b2 n2) x1 σ = some σ' := hf
      unfold f_X2_forgetFirst_b2_s at hf
      refine lv_iload_n hx hb dX2_forgetFirst_2 rfl (lv_at hl 1 rfl) ?_
      refine lv_bipush (v := (20 : Int32)) hx hb dX2_forgetFirst_3 (by decide) ?_
      refine lv_icmp_ge (tgt := 70) hx hb dX2_forgetFirst_5 (by decide) (fun h => ?_) (fun h => ?_)
      · have hf := k_ifT h hf
        refine lv_aload_n hx hb dX2_forgetFirst_70 rfl (lv_at hl 0 rfl) ?_
        refine lv_bipush (v := (19 : Int32)) hx hb dX2_forgetFirst_71 (by decide) ?_
        refine k_put C hw (LC_62 LC) (ci := 2) rfl k_in2 tyX2 tyX2_ok nmX2 5 (by decide) lk2_28 rfl ⟨rfl, rfl⟩ rfl dX2_forgetFirst_73 (fun σ1 eq H locs hw => ?_)
        have hf := k_nmE eq hf
        exact k_vret C hw hf dX2_forgetFirst_76
      · have hf := k_ifF h hf
        refine lv_aload_n hx hb dX2_forgetFirst_8 rfl (lv_at hl 0 rfl) ?_
        refine k_get C hw (LC_62 LC) (ci := 2) rfl k_in2 1 (by decide) lk2_9 (v := .ref (ad 63)) rfl dX2_forgetFirst_9 ?_
        refine lv_iload_n hx hb dX2_forgetFirst_12 rfl (lv_at hl 1 rfl) ?_
        refine lv_iconst (v := (1 : Int32)) hx hb dX2_forgetFirst_13 (by decide) ?_
        refine lv_isub hx hb dX2_forgetFirst_14 ?_
        refine lv_aload_n hx hb dX2_forgetFirst_15 rfl (lv_at hl 0 rfl) ?_
        refine k_get C hw (LC_62 LC) (ci := 2) rfl k_in2 1 (by decide) lk2_9 (v := .ref (ad 63)) rfl dX2_forgetFirst_16 ?_
        refine lv_iload_n hx hb dX2_forgetFirst_19 rfl (lv_at hl 1 rfl) ?_
        obtain ⟨hi, hf⟩ := k_ckE hf
        refine k_iald C hw (LC_63 LC) hi dX2_forgetFirst_20 ?_
        obtain ⟨hi, hf⟩ := k_ckE hf
        refine k_iast C hw (LC_63 LC) hi dX2_forgetFirst_21 (fun σ2 eq H locs hw => ?_)
        have hf := k_nmE eq hf
        refine lv_aload_n hx hb dX2_forgetFirst_22 rfl (lv_at hl 0 rfl) ?_
        refine k_get C hw (LC_62 LC) (ci := 2) rfl k_in2 2 (by decide) lk2_15 (v := .ref (ad 64)) rfl dX2_forgetFirst_23 ?_
        refine lv_iload_n hx hb dX2_forgetFirst_26 rfl (lv_at hl 1 rfl) ?_
        refine lv_iconst (v := (1 : Int32)) hx hb dX2_forgetFirst_27 (by decide) ?_
        refine lv_isub hx hb dX2_forgetFirst_28 ?_
        refine lv_aload_n hx hb dX2_forgetFirst_29 rfl (lv_at hl 0 rfl) ?_
        refine k_get C hw (LC_62 LC) (ci := 2) rfl k_in2 2 (by decide) lk2_15 (v := .ref (ad 64)) rfl dX2_forgetFirst_30 ?_
        refine lv_iload_n hx hb dX2_forgetFirst_33 rfl (lv_at hl 1 rfl) ?_
        obtain ⟨hi, hf⟩ := k_ckE hf
        refine k_iald C hw (LC_64 LC) hi dX2_forgetFirst_34 ?_
        obtain ⟨hi, hf⟩ := k_ckE hf
        refine k_iast C hw (LC_64 LC) hi dX2_forgetFirst_35 (fun σ3 eq H locs hw => ?_)
        have hf := k_nmE eq hf
        refine lv_aload_n hx hb dX2_forgetFirst_36 rfl (lv_at hl 0 rfl) ?_
        refine k_get C hw (LC_62 LC) (ci := 2) rfl k_in2 3 (by decide) lk2_18 (v := .ref (ad 65)) rfl dX2_forgetFirst_37 ?_
        refine lv_iload_n hx hb dX2_forgetFirst_40 rfl (lv_at hl 1 rfl) ?_
        refine lv_iconst (v := (1 : Int32)) hx hb dX2_forgetFirst_41 (by decide) ?_
        refine lv_isub hx hb dX2_forgetFirst_42 ?_
        refine lv_aload_n hx hb dX2_forgetFirst_43 rfl (lv_at hl 0 rfl) ?_
        refine k_get C hw (LC_62 LC) (ci := 2) rfl k_in2 3 (by decide) lk2_18 (v := .ref (ad 65)) rfl dX2_forgetFirst_44 ?_
        refine lv_iload_n hx hb dX2_forgetFirst_47 rfl (lv_at hl 1 rfl) ?_
        obtain ⟨hi, hf⟩ := k_ckE hf
        refine k_iald C hw (LC_65 LC) hi dX2_forgetFirst_48 ?_
        obtain ⟨hi, hf⟩ := k_ckE hf
        refine k_iast C hw (LC_65 LC) hi dX2_forgetFirst_49 (fun σ4 eq H locs hw => ?_)
        have hf := k_nmE eq hf
        refine lv_aload_n hx hb dX2_forgetFirst_50 rfl (lv_at hl 0 rfl) ?_
        refine k_get C hw (LC_62 LC) (ci := 2) rfl k_in2 4 (by decide) lk2_21 (v := .ref (ad 66)) rfl dX2_forgetFirst_51 ?_
        refine lv_iload_n hx hb dX2_forgetFirst_54 rfl (lv_at hl 1 rfl) ?_
        refine lv_iconst (v := (1 : Int32)) hx hb dX2_forgetFirst_55 (by decide) ?_
        refine lv_isub hx hb dX2_forgetFirst_56 ?_
        refine lv_aload_n hx hb dX2_forgetFirst_57 rfl (lv_at hl 0 rfl) ?_
        refine k_get C hw (LC_62 LC) (ci := 2) rfl k_in2 4 (by decide) lk2_21 (v := .ref (ad 66)) rfl dX2_forgetFirst_58 ?_
        refine lv_iload_n hx hb dX2_forgetFirst_61 rfl (lv_at hl 1 rfl) ?_
        obtain ⟨hi, hf⟩ := k_ckE hf
        refine k_iald C hw (LC_66 LC) hi dX2_forgetFirst_62 ?_
        obtain ⟨hi, hf⟩ := k_ckE hf
        refine k_iast C hw (LC_66 LC) hi dX2_forgetFirst_63 (fun σ5 eq H locs hw => ?_)
        have hf := k_nmE eq hf
        obtain ⟨u6, ex⟩ : ∃ y : Int32, y = (x1 + (1 : Int32)) := ⟨_, rfl⟩
        have hf := k_nmE ex hf
        refine lv_iinc (v := u6) (lv' := [(1, .int u6), (0, .ref (ad 62))]) hx hb dX2_forgetFirst_64 hl (k := 1) rfl (by rw [ex]; rfl) (by decide) rfl (fun ls hl => ?_)
        refine lv_goto (tgt := 2) hx hb dX2_forgetFirst_67 (by decide) ?_
        exact ih2 u6 σ5 _ _ _ (lv_sub hl [1, 0] rfl) hw hf
  unfold f_X2_forgetFirst at hf
  refine lv_iconst (v := (1 : Int32)) hx hb dX2_forgetFirst_0 (by decide) ?_
  refine lv_istore_n (lv' := [(1, .int (1 : Int32)), (0, .ref (ad 62))]) hx hb dX2_forgetFirst_1 rfl hl (by decide) rfl (fun ls hl => ?_)
  exact b2 FU (1 : Int32) σ _ _ _ (lv_sub hl [1, 0] rfl) hw hf
def f_X2_add_b24  (x1 : Int32) (x2 : Int32) (σ : MSt) : Option MSt :=
  k_ck (k_inb (σ.1 62 5) 20) <|
  k_nm (mI σ 63 ((σ.1 62 5)).toNatClampNeg x1) fun σ1 =>
  k_ck (k_inb (σ1.1 62 5) 20) <|
  k_nm (mI σ1 64 ((σ1.1 62 5)).toNatClampNeg x2) fun σ2 =>
  k_ck (k_inb x2 8) <|
  k_ck (k_inb (σ2.1 62 5) 20) <|
  k_nm (mI σ2 65 ((σ2.1 62 5)).toNatClampNeg (σ2.1 51 (x2).toNatClampNeg)) fun σ3 =>
  k_ck (k_inb x2 8) <|
  k_ck (k_inb (σ3.1 62 5) 20) <|
  k_nm (mI σ3 66 ((σ3.1 62 5)).toNatClampNeg (σ3.1 53 (x2).toNatClampNeg)) fun σ4 =>
  k_nm (mI σ4 62 5 ((σ4.1 62 5) + (1 : Int32))) fun σ5 =>
  some σ5
def f_X2_add_b10   (σ : MSt) : Option MSt :=
  some σ
def f_X2_add  (p1 : Int32) (p2 : Int32) (σ : MSt) : Option MSt :=
  if p2 < 0 then
  (f_X2_add_b10 σ)
  else
  (if p2 < (8 : Int32) then
  (if (σ.1 62 5) < (20 : Int32) then
  (f_X2_add_b24 p1 p2 σ)
  else
  (k_bv (f_X2_forgetFirst σ) fun σ1 =>
  f_X2_add_b24 p1 p2 σ1))
  else
  (f_X2_add_b10 σ))
def rmX2_add : Room := { frames := 1, cells := 0, slots := 0, locals := 21 }
set_option maxHeartbeats 4000000 in
set_option maxRecDepth 100000 in
theorem c_X2_add (l : Launch) (G : va_G) (Y : CY) (w : MSt → va_W) (ad : Nat → Nat)  (LC : LayC ad w Y) (p1 : Int32) (p2 : Int32) (σ : MSt) (σ' : MSt) (hf : f_X2_add p1 p2 σ = some σ') : k_Mv l yX2_add wsX2_add rmX2_add G Y w [.ref (ad 62), .int p1, .int p2] σ σ' := by
  refine k_ofv (own := RX2) (cc := cX2_add) (maxL := 3) none (by decide) rfl rfl (Nat.le_of_ble_eq_true rfl) ?_
  intro p e s m below meth c A C ls hl hw
  have hx := C.1
  have hb := C.2.1
  have hown := C.2.2.2.2.1
  have hts := C.2.2.2.2.2.1
  have hks := C.2.2.2.2.2.2.1
  have hl : lv_has ls 3 [(0, .ref (ad 62)), (1, .int p1), (2, .int p2)] := hl
  have b24 : ∀ (x1 : Int32) (x2 : Int32) (σ : MSt) (H : Heap) (locs : List Loc) (ls : Array Slot), lv_has ls 3 [(0, .ref (ad 62)), (1, .int x1), (2, .int x2)] → k_W G w A s.heap σ H locs → f_X2_add_b24 x1 x2 σ = some σ' → W p l e rmX2_add s m [.ref (ad 62), .int p1, .int p2].toArray below meth c H locs 0 0 (MQ below (k_Qv G w A σ') [.ref (ad 62), .int p1, .int p2].toArray s 0 0 A) (F0 m 24 ls []) := by
    intro x1 x2 σ H locs ls hl hw hf
    unfold f_X2_add_b24 at hf
    refine lv_aload_n hx hb dX2_add_24 rfl (lv_at hl 0 rfl) ?_
    refine k_get C hw (LC_62 LC) (ci := 2) rfl k_in2 1 (by decide) lk2_9 (v := .ref (ad 63)) rfl dX2_add_25 ?_
    refine lv_aload_n hx hb dX2_add_28 rfl (lv_at hl 0 rfl) ?_
    refine k_get C hw (LC_62 LC) (ci := 2) rfl k_in2 5 (by decide) lk2_28 (v := .int (σ.1 62 5)) rfl dX2_add_29 ?_
    refine lv_iload_n hx hb dX2_add_32 rfl (lv_at hl 1 rfl) ?_
    obtain ⟨hi, hf⟩ := k_ckE hf
    refine k_iast C hw (LC_63 LC) hi dX2_add_33 (fun σ1 eq H locs hw => ?_)
    have hf := k_nmE eq hf
    refine lv_aload_n hx hb dX2_add_34 rfl (lv_at hl 0 rfl) ?_
    refine k_get C hw (LC_62 LC) (ci := 2) rfl k_in2 2 (by decide) lk2_15 (v := .ref (ad 64)) rfl dX2_add_35 ?_
    refine lv_aload_n hx hb dX2_add_38 rfl (lv_at hl 0 rfl) ?_
    refine k_get C hw (LC_62 LC) (ci := 2) rfl k_in2 5 (by decide) lk2_28 (v := .int (σ1.1 62 5)) rfl dX2_add_39 ?_
    refine lv_iload_n hx hb dX2_add_42 rfl (lv_at hl 2 rfl) ?_
    obtain ⟨hi, hf⟩ := k_ckE hf
    refine k_iast C hw (LC_64 LC) hi dX2_add_43 (fun σ2 eq H locs hw => ?_)
    have hf := k_nmE eq hf
    refine lv_aload_n hx hb dX2_add_44 rfl (lv_at hl 0 rfl) ?_
    refine k_get C hw (LC_62 LC) (ci := 2) rfl k_in2 3 (by decide) lk2_18 (v := .ref (ad 65)) rfl dX2_add_45 ?_
    refine lv_aload_n hx hb dX2_add_48 rfl (lv_at hl 0 rfl) ?_
    refine k_get C hw (LC_62 LC) (ci := 2) rfl k_in2 5 (by decide) lk2_28 (v := .int (σ2.1 62 5)) rfl dX2_add_49 ?_
    refine lv_aload_n hx hb dX2_add_52 rfl (lv_at hl 0 rfl) ?_
    refine k_get C hw (LC_62 LC) (ci := 2) rfl k_in2 0 (by decide) lk2_24 (v := .ref (ad 50)) rfl dX2_add_53 ?_
    refine k_getN C hw (LC_50 LC) (ci := 5) rfl k_in5 0 (by decide) ln2_39 (v := .ref (ad 51)) rfl dX2_add_56 ?_
    refine lv_iload_n hx hb dX2_add_59 rfl (lv_at hl 2 rfl) ?_
    obtain ⟨hi, hf⟩ := k_ckE hf
    refine k_iald C hw (LC_51 LC) hi dX2_add_60 ?_
    obtain ⟨hi, hf⟩ := k_ckE hf
    refine k_iast C hw (LC_65 LC) hi dX2_add_61 (fun σ3 eq H locs hw => ?_)
    have hf := k_nmE eq hf
    refine lv_aload_n hx hb dX2_add_62 rfl (lv_at hl 0 rfl) ?_
    refine k_get C hw (LC_62 LC) (ci := 2) rfl k_in2 4 (by decide) lk2_21 (v := .ref (ad 66)) rfl dX2_add_63 ?_
    refine lv_aload_n hx hb dX2_add_66 rfl (lv_at hl 0 rfl) ?_
    refine k_get C hw (LC_62 LC) (ci := 2) rfl k_in2 5 (by decide) lk2_28 (v := .int (σ3.1 62 5)) rfl dX2_add_67 ?_
    refine lv_aload_n hx hb dX2_add_70 rfl (lv_at hl 0 rfl) ?_
    refine k_get C hw (LC_62 LC) (ci := 2) rfl k_in2 0 (by decide) lk2_24 (v := .ref (ad 50)) rfl dX2_add_71 ?_
    refine k_getN C hw (LC_50 LC) (ci := 5) rfl k_in5 2 (by decide) ln2_42 (v := .ref (ad 53)) rfl dX2_add_74 ?_
    refine lv_iload_n hx hb dX2_add_77 rfl (lv_at hl 2 rfl) ?_
    obtain ⟨hi, hf⟩ := k_ckE hf
    refine k_iald C hw (LC_53 LC) hi dX2_add_78 ?_
    obtain ⟨hi, hf⟩ := k_ckE hf
    refine k_iast C hw (LC_66 LC) hi dX2_add_79 (fun σ4 eq H locs hw => ?_)
    have hf := k_nmE eq hf
    refine lv_aload_n hx hb dX2_add_80 rfl (lv_at hl 0 rfl) ?_
    refine lv_dup hx hb dX2_add_81 rfl ?_
    refine k_get C hw (LC_62 LC) (ci := 2) rfl k_in2 5 (by decide) lk2_28 (v := .int (σ4.1 62 5)) rfl dX2_add_82 ?_
    refine lv_iconst (v := (1 : Int32)) hx hb dX2_add_85 (by decide) ?_
    refine lv_iadd hx hb dX2_add_86 ?_
    refine k_put C hw (LC_62 LC) (ci := 2) rfl k_in2 tyX2 tyX2_ok nmX2 5 (by decide) lk2_28 rfl ⟨rfl, rfl⟩ rfl dX2_add_87 (fun σ5 eq H locs hw => ?_)
    have hf := k_nmE eq hf
    exact k_vret C hw hf dX2_add_90
  have b10 : ∀ (σ : MSt) (H : Heap) (locs : List Loc) (ls : Array Slot), lv_has ls 3 [] → k_W G w A s.heap σ H locs → f_X2_add_b10 σ = some σ' → W p l e rmX2_add s m [.ref (ad 62), .int p1, .int p2].toArray below meth c H locs 0 0 (MQ below (k_Qv G w A σ') [.ref (ad 62), .int p1, .int p2].toArray s 0 0 A) (F0 m 10 ls []) := by
    intro σ H locs ls hl hw hf
    unfold f_X2_add_b10 at hf
    exact k_vret C hw hf dX2_add_10
  unfold f_X2_add at hf
  refine lv_iload_n hx hb dX2_add_0 rfl (lv_at hl 2 rfl) ?_
  refine lv_if_lt (tgt := 10) hx hb dX2_add_1 (by decide) (fun h => ?_) (fun h => ?_)
  · have hf := k_ifT h hf
    exact b10 σ _ _ _ (lv_sub hl [] rfl) hw hf
  · have hf := k_ifF h hf
    refine lv_iload_n hx hb dX2_add_4 rfl (lv_at hl 2 rfl) ?_
    refine lv_bipush (v := (8 : Int32)) hx hb dX2_add_5 (by decide) ?_
    refine lv_icmp_lt (tgt := 11) hx hb dX2_add_7 (by decide) (fun h => ?_) (fun h => ?_)
    · have hf := k_ifT h hf
      refine lv_aload_n hx hb dX2_add_11 rfl (lv_at hl 0 rfl) ?_
      refine k_get C hw (LC_62 LC) (ci := 2) rfl k_in2 5 (by decide) lk2_28 (v := .int (σ.1 62 5)) rfl dX2_add_12 ?_
      refine lv_bipush (v := (20 : Int32)) hx hb dX2_add_15 (by decide) ?_
      refine lv_icmp_lt (tgt := 24) hx hb dX2_add_17 (by decide) (fun h => ?_) (fun h => ?_)
      · have hf := k_ifT h hf
        exact b24 p1 p2 σ _ _ _ (lv_sub hl [0, 1, 2] rfl) hw hf
      · have hf := k_ifF h hf
        refine lv_aload_n hx hb dX2_add_20 rfl (lv_at hl 0 rfl) ?_
        obtain ⟨σ1, hq, hf⟩ := k_bvE hf
        refine k_callVv C hw (c_X2_forgetFirst l G Y w ad LC σ σ1 hq) (cwV 0 hts gX2_add_X2_forgetFirst rfl rfl rfl (by decide +kernel) ⟨Nat.le_of_ble_eq_true rfl, Nat.le_of_ble_eq_true rfl⟩) (k_recv C hw (LC_62 LC) rfl) rfl hl.1 rfl (Nat.le_of_ble_eq_true rfl) dX2_add_21 (fun H locs hw => ?_)
        exact b24 p1 p2 σ1 _ _ _ (lv_sub hl [0, 1, 2] rfl) hw hf
    · have hf := k_ifF h hf
      exact b10 σ _ _ _ (lv_sub hl [] rfl) hw hf
def f_X2_sailed  (p1 : Int32) (σ : MSt) : Option MSt :=
  k_bv (f_X2_add (0 : Int32) p1 σ) fun σ1 =>
  some σ1
def rmX2_sailed : Room := { frames := 2, cells := 0, slots := 0, locals := 43 }
set_option maxHeartbeats 4000000 in
set_option maxRecDepth 100000 in
theorem c_X2_sailed (l : Launch) (G : va_G) (Y : CY) (w : MSt → va_W) (ad : Nat → Nat)  (LC : LayC ad w Y) (p1 : Int32) (σ : MSt) (σ' : MSt) (hf : f_X2_sailed p1 σ = some σ') : k_Mv l yX2_sailed wsX2_sailed rmX2_sailed G Y w [.ref (ad 62), .int p1] σ σ' := by
  refine k_ofv (own := RX2) (cc := cX2_sailed) (maxL := 2) none (by decide) rfl rfl (Nat.le_of_ble_eq_true rfl) ?_
  intro p e s m below meth c A C ls hl hw
  have hx := C.1
  have hb := C.2.1
  have hown := C.2.2.2.2.1
  have hts := C.2.2.2.2.2.1
  have hks := C.2.2.2.2.2.2.1
  have hl : lv_has ls 2 [(0, .ref (ad 62)), (1, .int p1)] := hl
  unfold f_X2_sailed at hf
  refine lv_aload_n hx hb dX2_sailed_0 rfl (lv_at hl 0 rfl) ?_
  refine lv_iconst (v := (0 : Int32)) hx hb dX2_sailed_1 (by decide) ?_
  refine lv_iload_n hx hb dX2_sailed_2 rfl (lv_at hl 1 rfl) ?_
  obtain ⟨σ1, hq, hf⟩ := k_bvE hf
  refine k_callVv C hw (c_X2_add l G Y w ad LC (0 : Int32) p1 σ σ1 hq) (cwV 2 hts gX2_sailed_X2_add rfl rfl rfl (by decide +kernel) ⟨Nat.le_of_ble_eq_true rfl, Nat.le_of_ble_eq_true rfl⟩) (k_recv C hw (LC_62 LC) rfl) rfl hl.1 rfl (Nat.le_of_ble_eq_true rfl) dX2_sailed_3 (fun H locs hw => ?_)
  exact k_vret C hw hf dX2_sailed_6
def f_X2_wasKind  (p1 : Int32) (σ : MSt) : Option MSt :=
  k_bv (f_X2_add (1 : Int32) p1 σ) fun σ1 =>
  some σ1
def rmX2_wasKind : Room := { frames := 2, cells := 0, slots := 0, locals := 43 }
set_option maxHeartbeats 4000000 in
set_option maxRecDepth 100000 in
theorem c_X2_wasKind (l : Launch) (G : va_G) (Y : CY) (w : MSt → va_W) (ad : Nat → Nat)  (LC : LayC ad w Y) (p1 : Int32) (σ : MSt) (σ' : MSt) (hf : f_X2_wasKind p1 σ = some σ') : k_Mv l yX2_wasKind wsX2_wasKind rmX2_wasKind G Y w [.ref (ad 62), .int p1] σ σ' := by
  refine k_ofv (own := RX2) (cc := cX2_wasKind) (maxL := 2) none (by decide) rfl rfl (Nat.le_of_ble_eq_true rfl) ?_
  intro p e s m below meth c A C ls hl hw
  have hx := C.1
  have hb := C.2.1
  have hown := C.2.2.2.2.1
  have hts := C.2.2.2.2.2.1
  have hks := C.2.2.2.2.2.2.1
  have hl : lv_has ls 2 [(0, .ref (ad 62)), (1, .int p1)] := hl
  unfold f_X2_wasKind at hf
  refine lv_aload_n hx hb dX2_wasKind_0 rfl (lv_at hl 0 rfl) ?_
  refine lv_iconst (v := (1 : Int32)) hx hb dX2_wasKind_1 (by decide) ?_
  refine lv_iload_n hx hb dX2_wasKind_2 rfl (lv_at hl 1 rfl) ?_
  obtain ⟨σ1, hq, hf⟩ := k_bvE hf
  refine k_callVv C hw (c_X2_add l G Y w ad LC (1 : Int32) p1 σ σ1 hq) (cwV 2 hts gX2_wasKind_X2_add rfl rfl rfl (by decide +kernel) ⟨Nat.le_of_ble_eq_true rfl, Nat.le_of_ble_eq_true rfl⟩) (k_recv C hw (LC_62 LC) rfl) rfl hl.1 rfl (Nat.le_of_ble_eq_true rfl) dX2_wasKind_3 (fun H locs hw => ?_)
  exact k_vret C hw hf dX2_wasKind_6
def f_X2_copied   (σ : MSt) : Option MSt :=
  k_bv (f_X2_add (2 : Int32) (0 : Int32) σ) fun σ1 =>
  some σ1
def rmX2_copied : Room := { frames := 2, cells := 0, slots := 0, locals := 43 }
set_option maxHeartbeats 4000000 in
set_option maxRecDepth 100000 in
theorem c_X2_copied (l : Launch) (G : va_G) (Y : CY) (w : MSt → va_W) (ad : Nat → Nat)  (LC : LayC ad w Y)  (σ : MSt) (σ' : MSt) (hf : f_X2_copied σ = some σ') : k_Mv l yX2_copied wsX2_copied rmX2_copied G Y w [.ref (ad 62)] σ σ' := by
  refine k_ofv (own := RX2) (cc := cX2_copied) (maxL := 1) none (by decide) rfl rfl (Nat.le_of_ble_eq_true rfl) ?_
  intro p e s m below meth c A C ls hl hw
  have hx := C.1
  have hb := C.2.1
  have hown := C.2.2.2.2.1
  have hts := C.2.2.2.2.2.1
  have hks := C.2.2.2.2.2.2.1
  have hl : lv_has ls 1 [(0, .ref (ad 62))] := hl
  unfold f_X2_copied at hf
  refine lv_aload_n hx hb dX2_copied_0 rfl (lv_at hl 0 rfl) ?_
  refine lv_iconst (v := (2 : Int32)) hx hb dX2_copied_1 (by decide) ?_
  refine lv_iconst (v := (0 : Int32)) hx hb dX2_copied_2 (by decide) ?_
  obtain ⟨σ1, hq, hf⟩ := k_bvE hf
  refine k_callVv C hw (c_X2_add l G Y w ad LC (2 : Int32) (0 : Int32) σ σ1 hq) (cwV 2 hts gX2_copied_X2_add rfl rfl rfl (by decide +kernel) ⟨Nat.le_of_ble_eq_true rfl, Nat.le_of_ble_eq_true rfl⟩) (k_recv C hw (LC_62 LC) rfl) rfl hl.1 rfl (Nat.le_of_ble_eq_true rfl) dX2_copied_3 (fun H locs hw => ?_)
  exact k_vret C hw hf dX2_copied_6
def f_X2_takeBack_b158   (σ : MSt) : Option (Int32 × MSt) :=
  some ((σ.1 62 5), σ)
def f_X2_takeBack_b93  (y1 : Int32) (σ : MSt) : Option (Int32 × MSt) :=
  k_ck (k_bo y1) <|
  k_nm (mI σ 50 7 y1) fun σ1 =>
  f_X2_takeBack_b158 σ1
def f_X2_takeBack_b16   (σ : MSt) : Option (Int32 × MSt) :=
  some ((-1 : Int32), σ)
def f_X2_takeBack   (σ : MSt) : Option (Int32 × MSt) :=
  if (σ.1 62 5) ≤ 0 then
  (f_X2_takeBack_b16 σ)
  else
  (if (σ.1 62 5) ≤ (20 : Int32) then
  (k_nm (mI σ 62 5 ((σ.1 62 5) - (1 : Int32))) fun σ1 =>
  k_ck (k_inb (σ1.1 62 5) 20) <|
  k_nm (σ1.1 64 ((σ1.1 62 5)).toNatClampNeg) fun u2 =>
  k_ck (k_inb (σ1.1 62 5) 20) <|
  if (σ1.1 63 ((σ1.1 62 5)).toNatClampNeg) = 0 then
  (k_bv (f_X5_lieIn 50 u2 σ1) fun σ6 =>
  f_X2_takeBack_b158 σ6)
  else
  (k_ck (k_inb (σ1.1 62 5) 20) <|
  if (σ1.1 63 ((σ1.1 62 5)).toNatClampNeg) = (2 : Int32) then
  (if (σ1.1 50 7) = 0 then
  (f_X2_takeBack_b93 (1 : Int32) σ1)
  else
  (f_X2_takeBack_b93 (0 : Int32) σ1))
  else
  (if u2 < 0 then
  (f_X2_takeBack_b158 σ1)
  else
  (if (8 : Int32) ≤ u2 then
  (f_X2_takeBack_b158 σ1)
  else
  (k_ck (k_inb (σ1.1 62 5) 20) <|
  k_ck (k_inb u2 8) <|
  k_nm (mI σ1 51 (u2).toNatClampNeg (σ1.1 65 ((σ1.1 62 5)).toNatClampNeg)) fun σ3 =>
  k_ck (k_inb u2 8) <|
  k_ck (k_inb u2 8) <|
  k_nm (mI σ3 52 (u2).toNatClampNeg ((σ3.1 52 (u2).toNatClampNeg) - (1 : Int32))) fun σ4 =>
  k_ck (k_inb (σ4.1 62 5) 20) <|
  k_ck (k_inb u2 8) <|
  k_nm (mI σ4 53 (u2).toNatClampNeg (σ4.1 66 ((σ4.1 62 5)).toNatClampNeg)) fun σ5 =>
  f_X2_takeBack_b158 σ5)))))
  else
  (f_X2_takeBack_b16 σ))
def rmX2_takeBack : Room := { frames := 1, cells := 0, slots := 0, locals := 21 }
set_option maxHeartbeats 4000000 in
set_option maxRecDepth 100000 in
theorem c_X2_takeBack (l : Launch) (G : va_G) (Y : CY) (w : MSt → va_W) (ad : Nat → Nat)  (LC : LayC ad w Y)  (σ : MSt) (r : Int32) (σ' : MSt) (hf : f_X2_takeBack σ = some (r, σ')) : k_Mi l yX2_takeBack wsX2_takeBack rmX2_takeBack G Y w [.ref (ad 62)] σ r σ' := by
  refine k_ofi (own := RX2) (cc := cX2_takeBack) (maxL := 2) (some .int) (by decide) rfl rfl (Nat.le_of_ble_eq_true rfl) ?_
  intro p e s m below meth c A C ls hl hw
  have hx := C.1
  have hb := C.2.1
  have hown := C.2.2.2.2.1
  have hts := C.2.2.2.2.2.1
  have hks := C.2.2.2.2.2.2.1
  have hl : lv_has ls 2 [(0, .ref (ad 62))] := hl
  have b158 : ∀ (σ : MSt) (H : Heap) (locs : List Loc) (ls : Array Slot), lv_has ls 2 [(0, .ref (ad 62))] → k_W G w A s.heap σ H locs → f_X2_takeBack_b158 σ = some (r, σ') → W p l e rmX2_takeBack s m [.ref (ad 62)].toArray below meth c H locs 0 0 (MQ below (k_Qi G w A r σ') [.ref (ad 62)].toArray s 0 0 A) (F0 m 158 ls []) := by
    intro σ H locs ls hl hw hf
    unfold f_X2_takeBack_b158 at hf
    refine lv_aload_n hx hb dX2_takeBack_158 rfl (lv_at hl 0 rfl) ?_
    refine k_get C hw (LC_62 LC) (ci := 2) rfl k_in2 5 (by decide) lk2_28 (v := .int (σ.1 62 5)) rfl dX2_takeBack_159 ?_
    exact k_iret C hw hf dX2_takeBack_162
  have b93 : ∀ (y1 : Int32) (σ : MSt) (H : Heap) (locs : List Loc) (ls : Array Slot), lv_has ls 2 [(0, .ref (ad 62))] → k_W G w A s.heap σ H locs → f_X2_takeBack_b93 y1 σ = some (r, σ') → W p l e rmX2_takeBack s m [.ref (ad 62)].toArray below meth c H locs 0 0 (MQ below (k_Qi G w A r σ') [.ref (ad 62)].toArray s 0 0 A) (F0 m 93 ls [.int y1, .ref (ad 50)]) := by
    intro y1 σ H locs ls hl hw hf
    unfold f_X2_takeBack_b93 at hf
    obtain ⟨hz, hf⟩ := k_ckE hf
    refine k_putN C hw (LC_50 LC) (ci := 5) rfl k_in5 tyX5 tyX5_ok nmX5 7 (by decide) ln2_47 rfl (k_boE hz) rfl dX2_takeBack_93 (fun σ1 eq H locs hw => ?_)
    have hf := k_nmE eq hf
    refine lv_goto (tgt := 158) hx hb dX2_takeBack_96 (by decide) ?_
    exact b158 σ1 _ _ _ (lv_sub hl [0] rfl) hw hf
  have b16 : ∀ (σ : MSt) (H : Heap) (locs : List Loc) (ls : Array Slot), lv_has ls 2 [] → k_W G w A s.heap σ H locs → f_X2_takeBack_b16 σ = some (r, σ') → W p l e rmX2_takeBack s m [.ref (ad 62)].toArray below meth c H locs 0 0 (MQ below (k_Qi G w A r σ') [.ref (ad 62)].toArray s 0 0 A) (F0 m 16 ls []) := by
    intro σ H locs ls hl hw hf
    unfold f_X2_takeBack_b16 at hf
    refine lv_iconst (v := (-1 : Int32)) hx hb dX2_takeBack_16 (by decide) ?_
    exact k_iret C hw hf dX2_takeBack_17
  unfold f_X2_takeBack at hf
  refine lv_aload_n hx hb dX2_takeBack_0 rfl (lv_at hl 0 rfl) ?_
  refine k_get C hw (LC_62 LC) (ci := 2) rfl k_in2 5 (by decide) lk2_28 (v := .int (σ.1 62 5)) rfl dX2_takeBack_1 ?_
  refine lv_if_le (tgt := 16) hx hb dX2_takeBack_4 (by decide) (fun h => ?_) (fun h => ?_)
  · have hf := k_ifT h hf
    exact b16 σ _ _ _ (lv_sub hl [] rfl) hw hf
  · have hf := k_ifF h hf
    refine lv_aload_n hx hb dX2_takeBack_7 rfl (lv_at hl 0 rfl) ?_
    refine k_get C hw (LC_62 LC) (ci := 2) rfl k_in2 5 (by decide) lk2_28 (v := .int (σ.1 62 5)) rfl dX2_takeBack_8 ?_
    refine lv_bipush (v := (20 : Int32)) hx hb dX2_takeBack_11 (by decide) ?_
    refine lv_icmp_le (tgt := 18) hx hb dX2_takeBack_13 (by decide) (fun h => ?_) (fun h => ?_)
    · have hf := k_ifT h hf
      refine lv_aload_n hx hb dX2_takeBack_18 rfl (lv_at hl 0 rfl) ?_
      refine lv_dup hx hb dX2_takeBack_19 rfl ?_
      refine k_get C hw (LC_62 LC) (ci := 2) rfl k_in2 5 (by decide) lk2_28 (v := .int (σ.1 62 5)) rfl dX2_takeBack_20 ?_
      refine lv_iconst (v := (1 : Int32)) hx hb dX2_takeBack_23 (by decide) ?_
      refine lv_isub hx hb dX2_takeBack_24 ?_
      refine k_put C hw (LC_62 LC) (ci := 2) rfl k_in2 tyX2 tyX2_ok nmX2 5 (by decide) lk2_28 rfl ⟨rfl, rfl⟩ rfl dX2_takeBack_25 (fun σ1 eq H locs hw => ?_)
      have hf := k_nmE eq hf
      refine lv_aload_n hx hb dX2_takeBack_28 rfl (lv_at hl 0 rfl) ?_
      refine k_get C hw (LC_62 LC) (ci := 2) rfl k_in2 2 (by decide) lk2_15 (v := .ref (ad 64)) rfl dX2_takeBack_29 ?_
      refine lv_aload_n hx hb dX2_takeBack_32 rfl (lv_at hl 0 rfl) ?_
      refine k_get C hw (LC_62 LC) (ci := 2) rfl k_in2 5 (by decide) lk2_28 (v := .int (σ1.1 62 5)) rfl dX2_takeBack_33 ?_
      obtain ⟨hi, hf⟩ := k_ckE hf
      refine k_iald C hw (LC_64 LC) hi dX2_takeBack_36 ?_
      refine lv_topi (fun u2 ex => ?_)
      have hf := k_nmE ex hf
      refine lv_istore_n (lv' := [(1, .int u2), (0, .ref (ad 62))]) hx hb dX2_takeBack_37 rfl hl (by decide) rfl (fun ls hl => ?_)
      refine lv_aload_n hx hb dX2_takeBack_38 rfl (lv_at hl 1 rfl) ?_
      refine k_get C hw (LC_62 LC) (ci := 2) rfl k_in2 1 (by decide) lk2_9 (v := .ref (ad 63)) rfl dX2_takeBack_39 ?_
      refine lv_aload_n hx hb dX2_takeBack_42 rfl (lv_at hl 1 rfl) ?_
      refine k_get C hw (LC_62 LC) (ci := 2) rfl k_in2 5 (by decide) lk2_28 (v := .int (σ1.1 62 5)) rfl dX2_takeBack_43 ?_
      obtain ⟨hi, hf⟩ := k_ckE hf
      refine k_iald C hw (LC_63 LC) hi dX2_takeBack_46 ?_
      refine lv_if_ne (tgt := 61) hx hb dX2_takeBack_47 (by decide) (fun h => ?_) (fun h => ?_)
      · have hf := k_ifF h hf
        refine lv_aload_n hx hb dX2_takeBack_61 rfl (lv_at hl 1 rfl) ?_
        refine k_get C hw (LC_62 LC) (ci := 2) rfl k_in2 1 (by decide) lk2_9 (v := .ref (ad 63)) rfl dX2_takeBack_62 ?_
        refine lv_aload_n hx hb dX2_takeBack_65 rfl (lv_at hl 1 rfl) ?_
        refine k_get C hw (LC_62 LC) (ci := 2) rfl k_in2 5 (by decide) lk2_28 (v := .int (σ1.1 62 5)) rfl dX2_takeBack_66 ?_
        obtain ⟨hi, hf⟩ := k_ckE hf
        refine k_iald C hw (LC_63 LC) hi dX2_takeBack_69 ?_
        refine lv_iconst (v := (2 : Int32)) hx hb dX2_takeBack_70 (by decide) ?_
        refine lv_icmp_ne (tgt := 99) hx hb dX2_takeBack_71 (by decide) (fun h => ?_) (fun h => ?_)
        · have hf := k_ifF h hf
          refine lv_iload_n hx hb dX2_takeBack_99 rfl (lv_at hl 0 rfl) ?_
          refine lv_if_lt (tgt := 158) hx hb dX2_takeBack_100 (by decide) (fun h => ?_) (fun h => ?_)
          · have hf := k_ifT h hf
            exact b158 σ1 _ _ _ (lv_sub hl [1] rfl) hw hf
          · have hf := k_ifF h hf
            refine lv_iload_n hx hb dX2_takeBack_103 rfl (lv_at hl 0 rfl) ?_
            refine lv_bipush (v := (8 : Int32)) hx hb dX2_takeBack_104 (by decide) ?_
            refine lv_icmp_ge (tgt := 158) hx hb dX2_takeBack_106 (by decide) (fun h => ?_) (fun h => ?_)
            · have hf := k_ifT h hf
              exact b158 σ1 _ _ _ (lv_sub hl [1] rfl) hw hf
            · have hf := k_ifF h hf
              refine lv_aload_n hx hb dX2_takeBack_109 rfl (lv_at hl 1 rfl) ?_
              refine k_get C hw (LC_62 LC) (ci := 2) rfl k_in2 0 (by decide) lk2_24 (v := .ref (ad 50)) rfl dX2_takeBack_110 ?_
              refine k_getN C hw (LC_50 LC) (ci := 5) rfl k_in5 0 (by decide) ln2_39 (v := .ref (ad 51)) rfl dX2_takeBack_113 ?_
              refine lv_iload_n hx hb dX2_takeBack_116 rfl (lv_at hl 0 rfl) ?_
              refine lv_aload_n hx hb dX2_takeBack_117 rfl (lv_at hl 1 rfl) ?_
              refine k_get C hw (LC_62 LC) (ci := 2) rfl k_in2 3 (by decide) lk2_18 (v := .ref (ad 65)) rfl dX2_takeBack_118 ?_
              refine lv_aload_n hx hb dX2_takeBack_121 rfl (lv_at hl 1 rfl) ?_
              refine k_get C hw (LC_62 LC) (ci := 2) rfl k_in2 5 (by decide) lk2_28 (v := .int (σ1.1 62 5)) rfl dX2_takeBack_122 ?_
              obtain ⟨hi, hf⟩ := k_ckE hf
              refine k_iald C hw (LC_65 LC) hi dX2_takeBack_125 ?_
              obtain ⟨hi, hf⟩ := k_ckE hf
              refine k_iast C hw (LC_51 LC) hi dX2_takeBack_126 (fun σ3 eq H locs hw => ?_)
              have hf := k_nmE eq hf
              refine lv_aload_n hx hb dX2_takeBack_127 rfl (lv_at hl 1 rfl) ?_
              refine k_get C hw (LC_62 LC) (ci := 2) rfl k_in2 0 (by decide) lk2_24 (v := .ref (ad 50)) rfl dX2_takeBack_128 ?_
              refine k_getN C hw (LC_50 LC) (ci := 5) rfl k_in5 1 (by decide) ln2_51 (v := .ref (ad 52)) rfl dX2_takeBack_131 ?_
              refine lv_iload_n hx hb dX2_takeBack_134 rfl (lv_at hl 0 rfl) ?_
              refine lv_dup2_11 hx hb dX2_takeBack_135 rfl rfl ?_
              obtain ⟨hi, hf⟩ := k_ckE hf
              refine k_iald C hw (LC_52 LC) hi dX2_takeBack_136 ?_
              refine lv_iconst (v := (1 : Int32)) hx hb dX2_takeBack_137 (by decide) ?_
              refine lv_isub hx hb dX2_takeBack_138 ?_
              obtain ⟨hi, hf⟩ := k_ckE hf
              refine k_iast C hw (LC_52 LC) hi dX2_takeBack_139 (fun σ4 eq H locs hw => ?_)
              have hf := k_nmE eq hf
              refine lv_aload_n hx hb dX2_takeBack_140 rfl (lv_at hl 1 rfl) ?_
              refine k_get C hw (LC_62 LC) (ci := 2) rfl k_in2 0 (by decide) lk2_24 (v := .ref (ad 50)) rfl dX2_takeBack_141 ?_
              refine k_getN C hw (LC_50 LC) (ci := 5) rfl k_in5 2 (by decide) ln2_42 (v := .ref (ad 53)) rfl dX2_takeBack_144 ?_
              refine lv_iload_n hx hb dX2_takeBack_147 rfl (lv_at hl 0 rfl) ?_
              refine lv_aload_n hx hb dX2_takeBack_148 rfl (lv_at hl 1 rfl) ?_
              refine k_get C hw (LC_62 LC) (ci := 2) rfl k_in2 4 (by decide) lk2_21 (v := .ref (ad 66)) rfl dX2_takeBack_149 ?_
              refine lv_aload_n hx hb dX2_takeBack_152 rfl (lv_at hl 1 rfl) ?_
              refine k_get C hw (LC_62 LC) (ci := 2) rfl k_in2 5 (by decide) lk2_28 (v := .int (σ4.1 62 5)) rfl dX2_takeBack_153 ?_
              obtain ⟨hi, hf⟩ := k_ckE hf
              refine k_iald C hw (LC_66 LC) hi dX2_takeBack_156 ?_
              obtain ⟨hi, hf⟩ := k_ckE hf
              refine k_iast C hw (LC_53 LC) hi dX2_takeBack_157 (fun σ5 eq H locs hw => ?_)
              have hf := k_nmE eq hf
              exact b158 σ5 _ _ _ (lv_sub hl [1] rfl) hw hf
        · have hf := k_ifT h hf
          refine lv_aload_n hx hb dX2_takeBack_74 rfl (lv_at hl 1 rfl) ?_
          refine k_get C hw (LC_62 LC) (ci := 2) rfl k_in2 0 (by decide) lk2_24 (v := .ref (ad 50)) rfl dX2_takeBack_75 ?_
          refine lv_aload_n hx hb dX2_takeBack_78 rfl (lv_at hl 1 rfl) ?_
          refine k_get C hw (LC_62 LC) (ci := 2) rfl k_in2 0 (by decide) lk2_24 (v := .ref (ad 50)) rfl dX2_takeBack_79 ?_
          refine k_getN C hw (LC_50 LC) (ci := 5) rfl k_in5 7 (by decide) ln2_47 (v := .int (σ1.1 50 7)) rfl dX2_takeBack_82 ?_
          refine lv_if_ne (tgt := 92) hx hb dX2_takeBack_85 (by decide) (fun h => ?_) (fun h => ?_)
          · have hf := k_ifF h hf
            refine lv_iconst (v := (0 : Int32)) hx hb dX2_takeBack_92 (by decide) ?_
            exact b93 (0 : Int32) σ1 _ _ _ (lv_sub hl [1] rfl) hw hf
          · have hf := k_ifT h hf
            refine lv_iconst (v := (1 : Int32)) hx hb dX2_takeBack_88 (by decide) ?_
            refine lv_goto (tgt := 93) hx hb dX2_takeBack_89 (by decide) ?_
            exact b93 (1 : Int32) σ1 _ _ _ (lv_sub hl [1] rfl) hw hf
      · have hf := k_ifT h hf
        refine lv_aload_n hx hb dX2_takeBack_50 rfl (lv_at hl 1 rfl) ?_
        refine k_get C hw (LC_62 LC) (ci := 2) rfl k_in2 0 (by decide) lk2_24 (v := .ref (ad 50)) rfl dX2_takeBack_51 ?_
        refine lv_iload_n hx hb dX2_takeBack_54 rfl (lv_at hl 0 rfl) ?_
        obtain ⟨σ6, hq, hf⟩ := k_bvE hf
        refine k_callVv C hw (c_X5_lieIn l G Y w ad 50 (LCL_50 LC) u2 σ1 σ6 hq) (cwV 1 hts gX2_takeBack_X5_lieIn rfl rfl rfl (by decide +kernel) ⟨Nat.le_of_ble_eq_true rfl, Nat.le_of_ble_eq_true rfl⟩) (k_recv C hw (LC_50 LC) rfl) rfl hl.1 rfl (Nat.le_of_ble_eq_true rfl) dX2_takeBack_55 (fun H locs hw => ?_)
        refine lv_goto (tgt := 158) hx hb dX2_takeBack_58 (by decide) ?_
        exact b158 σ6 _ _ _ (lv_sub hl [1] rfl) hw hf
    · have hf := k_ifF h hf
      exact b16 σ _ _ _ (lv_sub hl [] rfl) hw hf
def f_X8_add (o : Nat) (p1 : Int32) (p2 : Int32) (σ : MSt) : Option MSt :=
  k_nm (mI σ o 0 (k_min (9999 : Int32) ((σ.1 o 0) + p1))) fun σ1 =>
  k_nm (mI σ1 o 1 ((σ1.1 o 1) + (1 : Int32))) fun σ2 =>
  k_nm (mI σ2 o 2 (k_max (σ2.1 o 2) p2)) fun σ3 =>
  some σ3
def rmX8_add : Room := { frames := 1, cells := 0, slots := 0, locals := 23 }
set_option maxHeartbeats 4000000 in
set_option maxRecDepth 100000 in
theorem c_X8_add (l : Launch) (G : va_G) (Y : CY) (w : MSt → va_W) (ad : Nat → Nat) (o : Nat) (Lo : LayX8 ad w Y o) (p1 : Int32) (p2 : Int32) (σ : MSt) (σ' : MSt) (hf : f_X8_add o p1 p2 σ = some σ') : k_Mv l yX8_add wsX8_add rmX8_add G Y w [.ref (ad o), .int p1, .int p2] σ σ' := by
  refine k_ofv (own := RX8) (cc := cX8_add) (maxL := 3) none (by decide) rfl rfl (Nat.le_of_ble_eq_true rfl) ?_
  intro p e s m below meth c A C ls hl hw
  have hx := C.1
  have hb := C.2.1
  have hown := C.2.2.2.2.1
  have hts := C.2.2.2.2.2.1
  have hks := C.2.2.2.2.2.2.1
  have hl : lv_has ls 3 [(0, .ref (ad o)), (1, .int p1), (2, .int p2)] := hl
  unfold f_X8_add at hf
  refine lv_aload_n hx hb dX8_add_0 rfl (lv_at hl 0 rfl) ?_
  refine lv_sipush (v := (9999 : Int32)) hx hb dX8_add_1 (by decide) ?_
  refine lv_aload_n hx hb dX8_add_4 rfl (lv_at hl 0 rfl) ?_
  refine k_get C hw (LX8_o Lo) (ci := 8) rfl k_in8 0 (by decide) lk8_9 (v := .int (σ.1 o 0)) rfl dX8_add_5 ?_
  refine lv_iload_n hx hb dX8_add_8 rfl (lv_at hl 1 rfl) ?_
  refine lv_iadd hx hb dX8_add_9 ?_
  refine k_mmin C hl.1 ml8_33 ms_Lib_Math_min_name mi_Math mc_Lib_Math_min_name (Nat.le_of_ble_eq_true rfl) (Nat.le_of_ble_eq_true rfl) dX8_add_10 ?_
  refine k_put C hw (LX8_o Lo) (ci := 8) rfl k_in8 tyX8 tyX8_ok nmX8 0 (by decide) lk8_9 rfl ⟨rfl, rfl⟩ rfl dX8_add_13 (fun σ1 eq H locs hw => ?_)
  have hf := k_nmE eq hf
  refine lv_aload_n hx hb dX8_add_16 rfl (lv_at hl 0 rfl) ?_
  refine lv_dup hx hb dX8_add_17 rfl ?_
  refine k_get C hw (LX8_o Lo) (ci := 8) rfl k_in8 1 (by decide) lk8_15 (v := .int (σ1.1 o 1)) rfl dX8_add_18 ?_
  refine lv_iconst (v := (1 : Int32)) hx hb dX8_add_21 (by decide) ?_
  refine lv_iadd hx hb dX8_add_22 ?_
  refine k_put C hw (LX8_o Lo) (ci := 8) rfl k_in8 tyX8 tyX8_ok nmX8 1 (by decide) lk8_15 rfl ⟨rfl, rfl⟩ rfl dX8_add_23 (fun σ2 eq H locs hw => ?_)
  have hf := k_nmE eq hf
  refine lv_aload_n hx hb dX8_add_26 rfl (lv_at hl 0 rfl) ?_
  refine lv_aload_n hx hb dX8_add_27 rfl (lv_at hl 0 rfl) ?_
  refine k_get C hw (LX8_o Lo) (ci := 8) rfl k_in8 2 (by decide) lk8_18 (v := .int (σ2.1 o 2)) rfl dX8_add_28 ?_
  refine lv_iload_n hx hb dX8_add_31 rfl (lv_at hl 2 rfl) ?_
  refine k_mmax C hl.1 ml8_39 ms_Lib_Math_max_name mi_Math mc_Lib_Math_max_name (Nat.le_of_ble_eq_true rfl) (Nat.le_of_ble_eq_true rfl) dX8_add_32 ?_
  refine k_put C hw (LX8_o Lo) (ci := 8) rfl k_in8 tyX8 tyX8_ok nmX8 2 (by decide) lk8_18 rfl ⟨rfl, rfl⟩ rfl dX8_add_35 (fun σ3 eq H locs hw => ?_)
  have hf := k_nmE eq hf
  exact k_vret C hw hf dX8_add_38
def f_X3_addDeeds_b85  (x2 : Int32) (σ : MSt) : Option MSt :=
  k_bd (f_X0_galeOf 10 x2 σ) fun q2 σ1 =>
  k_bv (f_X8_set 70 x2 q2 (0 : Int32) σ1) fun σ3 =>
  some σ3
def f_X3_addDeeds_b79  (r2 : Int32 → Int32 → Int32 → MSt → Option MSt) (x1 : Int32) (x2 : Int32) (x3 : Int32) (σ : MSt) : Option MSt :=
  k_nm (x3 + (1 : Int32)) fun u1 =>
  r2 x1 x2 u1 σ
def f_X3_addDeeds_b2_s  (r2 : Int32 → Int32 → Int32 → MSt → Option MSt) (x1 : Int32) (x2 : Int32) (x3 : Int32) (σ : MSt) : Option MSt :=
  if (σ.1 10 9) ≤ x3 then
  (f_X3_addDeeds_b85 x2 σ)
  else
  (if (12 : Int32) ≤ x3 then
  (f_X3_addDeeds_b85 x2 σ)
  else
  (k_ck (k_inb x3 12) <|
  k_nm (σ.1 14 (x3).toNatClampNeg) fun u1 =>
  k_ck (k_inb x3 12) <|
  if (σ.1 13 (x3).toNatClampNeg) = x1 then
  (if u1 < (σ.1 50 3) then
  (f_X3_addDeeds_b79 r2 x1 x2 x3 σ)
  else
  (if x2 < u1 then
  (f_X3_addDeeds_b79 r2 x1 x2 x3 σ)
  else
  (k_ck (k_inb x3 12) <|
  k_bv (f_X8_add 70 (σ.1 15 (x3).toNatClampNeg) u1 σ) fun σ2 =>
  f_X3_addDeeds_b79 r2 x1 x2 x3 σ2)))
  else
  (f_X3_addDeeds_b79 r2 x1 x2 x3 σ)))
def f_X3_addDeeds_b2  : Nat → Int32 → Int32 → Int32 → MSt → Option MSt
  | 0 => fun _ _ _ _ => none
  | n + 1 => f_X3_addDeeds_b2_s (f_X3_addDeeds_b2 n)
def f_X3_addDeeds  (p1 : Int32) (p2 : Int32) (σ : MSt) : Option MSt :=
  f_X3_addDeeds_b2 FU p1 p2 (0 : Int32) σ
def rmX3_addDeeds : Room := { frames := 2, cells := 0, slots := 0, locals := 46 }
set_option maxHeartbeats 4000000 in
set_option maxRecDepth 100000 in
theorem c_X3_addDeeds (l : Launch) (G : va_G) (Y : CY) (w : MSt → va_W) (ad : Nat → Nat)  (LC : LayC ad w Y) (p1 : Int32) (p2 : Int32) (σ : MSt) (σ' : MSt) (hf : f_X3_addDeeds p1 p2 σ = some σ') : k_Mv l yX3_addDeeds wsX3_addDeeds rmX3_addDeeds G Y w [.ref (ad 67), .int p1, .int p2] σ σ' := by
  refine k_ofv (own := RX3) (cc := cX3_addDeeds) (maxL := 5) none (by decide) rfl rfl (Nat.le_of_ble_eq_true rfl) ?_
  intro p e s m below meth c A C ls hl hw
  have hx := C.1
  have hb := C.2.1
  have hown := C.2.2.2.2.1
  have hts := C.2.2.2.2.2.1
  have hks := C.2.2.2.2.2.2.1
  have hl : lv_has ls 5 [(0, .ref (ad 67)), (1, .int p1), (2, .int p2)] := hl
  have b85 : ∀ (x2 : Int32) (σ : MSt) (H : Heap) (locs : List Loc) (ls : Array Slot), lv_has ls 5 [(0, .ref (ad 67)), (2, .int x2)] → k_W G w A s.heap σ H locs → f_X3_addDeeds_b85 x2 σ = some σ' → W p l e rmX3_addDeeds s m [.ref (ad 67), .int p1, .int p2].toArray below meth c H locs 0 0 (MQ below (k_Qv G w A σ') [.ref (ad 67), .int p1, .int p2].toArray s 0 0 A) (F0 m 85 ls []) := by
    intro x2 σ H locs ls hl hw hf
    unfold f_X3_addDeeds_b85 at hf
    refine lv_aload_n hx hb dX3_addDeeds_85 rfl (lv_at hl 0 rfl) ?_
    refine k_get C hw (LC_67 LC) (ci := 3) rfl k_in3 2 (by decide) lk3_12 (v := .ref (ad 70)) rfl dX3_addDeeds_86 ?_
    refine lv_iload_n hx hb dX3_addDeeds_89 rfl (lv_at hl 1 rfl) ?_
    refine lv_aload_n hx hb dX3_addDeeds_90 rfl (lv_at hl 0 rfl) ?_
    refine k_get C hw (LC_67 LC) (ci := 3) rfl k_in3 0 (by decide) lk3_25 (v := .ref (ad 10)) rfl dX3_addDeeds_91 ?_
    refine lv_iload_n hx hb dX3_addDeeds_94 rfl (lv_at hl 1 rfl) ?_
    obtain ⟨q2, σ1, hq, hf⟩ := k_bdE hf
    refine k_callVi C hw (c_X0_galeOf l G Y w ad 10 (LCL_10 LC) x2 σ q2 σ1 hq) (cwV 1 hts gX3_addDeeds_X0_galeOf rfl rfl rfl (by decide +kernel) ⟨Nat.le_of_ble_eq_true rfl, Nat.le_of_ble_eq_true rfl⟩) (k_recv C hw (LC_10 LC) rfl) rfl hl.1 rfl (Nat.le_of_ble_eq_true rfl) dX3_addDeeds_95 (fun H locs hw => ?_)
    refine lv_iconst (v := (0 : Int32)) hx hb dX3_addDeeds_98 (by decide) ?_
    obtain ⟨σ3, hq, hf⟩ := k_bvE hf
    refine k_callVv C hw (c_X8_set l G Y w ad 70 (LCL_70 LC) x2 q2 (0 : Int32) σ1 σ3 hq) (cwV 3 hts gX3_addDeeds_X8_set rfl rfl rfl (by decide +kernel) ⟨Nat.le_of_ble_eq_true rfl, Nat.le_of_ble_eq_true rfl⟩) (k_recv C hw (LC_70 LC) rfl) rfl hl.1 rfl (Nat.le_of_ble_eq_true rfl) dX3_addDeeds_99 (fun H locs hw => ?_)
    exact k_vret C hw hf dX3_addDeeds_102
  have b2 : ∀ (n2 : Nat) (x1 : Int32) (x2 : Int32) (x3 : Int32) (σ : MSt) (H : Heap) (locs : List Loc) (ls : Array Slot), lv_has ls 5 [(0, .ref (ad 67)), (1, .int x1), (2, .int x2), (3, .int x3)] → k_W G w A s.heap σ H locs → f_X3_addDeeds_b2 n2 x1 x2 x3 σ = some σ' → W p l e rmX3_addDeeds s m [.ref (ad 67), .int p1, .int p2].toArray below meth c H locs 0 0 (MQ below (k_Qv G w A σ') [.ref (ad 67), .int p1, .int p2].toArray s 0 0 A) (F0 m 2 ls []) := by
    intro n2
    induction n2 with
    | zero =>
      intro x1 x2 x3 σ H locs ls hl hw hf
      have hf : (none : Option MSt) = some σ' := hf
      cases hf
    | succ n2 ih2 =>
      have b79 : ∀ (x1 : Int32) (x2 : Int32) (x3 : Int32) (σ : MSt) (H : Heap) (locs : List Loc) (ls : Array Slot), lv_has ls 5 [(0, .ref (ad 67)), (1, .int x1), (2, .int x2), (3, .int x3)] → k_W G w A s.heap σ H locs → f_X3_addDeeds_b79 (f_X3_addDeeds_b2 n2) x1 x2 x3 σ = some σ' → W p l e rmX3_addDeeds s m [.ref (ad 67), .int p1, .int p2].toArray below meth c H locs 0 0 (MQ below (k_Qv G w A σ') [.ref (ad 67), .int p1, .int p2].toArray s 0 0 A) (F0 m 79 ls []) := by
        intro x1 x2 x3 σ H locs ls hl hw hf
        unfold f_X3_addDeeds_b79 at hf
        obtain ⟨u1, ex⟩ : ∃ y : Int32, y = (x3 + (1 : Int32)) := ⟨_, rfl⟩
        have hf := k_nmE ex hf
        refine lv_iinc (v := u1) (lv' := [(3, .int u1), (0, .ref (ad 67)), (1, .int x1), (2, .int x2)]) hx hb dX3_addDeeds_79 hl (k := 3) rfl (by rw [ex]; rfl) (by decide) rfl (fun ls hl => ?_)
        refine lv_goto (tgt := 2) hx hb dX3_addDeeds_82 (by decide) ?_
        exact ih2 x1 x2 u1 σ _ _ _ (lv_sub hl [1, 2, 3, 0] rfl) hw hf
      intro x1 x2 x3 σ H locs ls hl hw hf
      have hf : f_X3_addDeeds_b2_s (f_X3_addDeeds_b2 n2) x1 x2 x3 σ = some σ' := hf
      unfold f_X3_addDeeds_b2_s at hf
      refine lv_iload_n hx hb dX3_addDeeds_2 rfl (lv_at hl 3 rfl) ?_
      refine lv_aload_n hx hb dX3_addDeeds_3 rfl (lv_at hl 0 rfl) ?_
      refine k_get C hw (LC_67 LC) (ci := 3) rfl k_in3 0 (by decide) lk3_25 (v := .ref (ad 10)) rfl dX3_addDeeds_4 ?_
      refine k_getN C hw (LC_10 LC) (ci := 0) rfl k_in0 9 (by decide) ln3_72 (v := .int (σ.1 10 9)) rfl dX3_addDeeds_7 ?_
      refine lv_icmp_ge (tgt := 85) hx hb dX3_addDeeds_10 (by decide) (fun h => ?_) (fun h => ?_)
      · have hf := k_ifT h hf
        exact b85 x2 σ _ _ _ (lv_sub hl [0, 2] rfl) hw hf
      · have hf := k_ifF h hf
        refine lv_iload_n hx hb dX3_addDeeds_13 rfl (lv_at hl 3 rfl) ?_
        refine lv_bipush (v := (12 : Int32)) hx hb dX3_addDeeds_14 (by decide) ?_
        refine lv_icmp_ge (tgt := 85) hx hb dX3_addDeeds_16 (by decide) (fun h => ?_) (fun h => ?_)
        · have hf := k_ifT h hf
          exact b85 x2 σ _ _ _ (lv_sub hl [0, 2] rfl) hw hf
        · have hf := k_ifF h hf
          refine lv_aload_n hx hb dX3_addDeeds_19 rfl (lv_at hl 0 rfl) ?_
          refine k_get C hw (LC_67 LC) (ci := 3) rfl k_in3 0 (by decide) lk3_25 (v := .ref (ad 10)) rfl dX3_addDeeds_20 ?_
          refine k_getN C hw (LC_10 LC) (ci := 0) rfl k_in0 3 (by decide) ln3_78 (v := .ref (ad 14)) rfl dX3_addDeeds_23 ?_
          refine lv_iload_n hx hb dX3_addDeeds_26 rfl (lv_at hl 3 rfl) ?_
          obtain ⟨hi, hf⟩ := k_ckE hf
          refine k_iald C hw (LC_14 LC) hi dX3_addDeeds_27 ?_
          refine lv_topi (fun u1 ex => ?_)
          have hf := k_nmE ex hf
          refine lv_istore (lv' := [(4, .int u1), (0, .ref (ad 67)), (1, .int x1), (2, .int x2), (3, .int x3)]) hx hb dX3_addDeeds_28 hl (by decide) rfl (fun ls hl => ?_)
          refine lv_aload_n hx hb dX3_addDeeds_30 rfl (lv_at hl 1 rfl) ?_
          refine k_get C hw (LC_67 LC) (ci := 3) rfl k_in3 0 (by decide) lk3_25 (v := .ref (ad 10)) rfl dX3_addDeeds_31 ?_
          refine k_getN C hw (LC_10 LC) (ci := 0) rfl k_in0 2 (by decide) ln3_75 (v := .ref (ad 13)) rfl dX3_addDeeds_34 ?_
          refine lv_iload_n hx hb dX3_addDeeds_37 rfl (lv_at hl 4 rfl) ?_
          obtain ⟨hi, hf⟩ := k_ckE hf
          refine k_iald C hw (LC_13 LC) hi dX3_addDeeds_38 ?_
          refine lv_iload_n hx hb dX3_addDeeds_39 rfl (lv_at hl 2 rfl) ?_
          refine lv_icmp_ne (tgt := 79) hx hb dX3_addDeeds_40 (by decide) (fun h => ?_) (fun h => ?_)
          · have hf := k_ifF h hf
            exact b79 x1 x2 x3 σ _ _ _ (lv_sub hl [1, 2, 3, 4] rfl) hw hf
          · have hf := k_ifT h hf
            refine lv_iload hx hb dX3_addDeeds_43 (lv_at hl 0 rfl) ?_
            refine lv_aload_n hx hb dX3_addDeeds_45 rfl (lv_at hl 1 rfl) ?_
            refine k_get C hw (LC_67 LC) (ci := 3) rfl k_in3 1 (by decide) lk3_29 (v := .ref (ad 50)) rfl dX3_addDeeds_46 ?_
            refine k_getN C hw (LC_50 LC) (ci := 5) rfl k_in5 3 (by decide) ln3_61 (v := .int (σ.1 50 3)) rfl dX3_addDeeds_49 ?_
            refine lv_icmp_lt (tgt := 79) hx hb dX3_addDeeds_52 (by decide) (fun h => ?_) (fun h => ?_)
            · have hf := k_ifT h hf
              exact b79 x1 x2 x3 σ _ _ _ (lv_sub hl [1, 2, 3, 4] rfl) hw hf
            · have hf := k_ifF h hf
              refine lv_iload hx hb dX3_addDeeds_55 (lv_at hl 0 rfl) ?_
              refine lv_iload_n hx hb dX3_addDeeds_57 rfl (lv_at hl 3 rfl) ?_
              refine lv_icmp_gt (tgt := 79) hx hb dX3_addDeeds_58 (by decide) (fun h => ?_) (fun h => ?_)
              · have hf := k_ifT h hf
                exact b79 x1 x2 x3 σ _ _ _ (lv_sub hl [1, 2, 3, 4] rfl) hw hf
              · have hf := k_ifF h hf
                refine lv_aload_n hx hb dX3_addDeeds_61 rfl (lv_at hl 1 rfl) ?_
                refine k_get C hw (LC_67 LC) (ci := 3) rfl k_in3 2 (by decide) lk3_12 (v := .ref (ad 70)) rfl dX3_addDeeds_62 ?_
                refine lv_aload_n hx hb dX3_addDeeds_65 rfl (lv_at hl 1 rfl) ?_
                refine k_get C hw (LC_67 LC) (ci := 3) rfl k_in3 0 (by decide) lk3_25 (v := .ref (ad 10)) rfl dX3_addDeeds_66 ?_
                refine k_getN C hw (LC_10 LC) (ci := 0) rfl k_in0 4 (by decide) ln3_81 (v := .ref (ad 15)) rfl dX3_addDeeds_69 ?_
                refine lv_iload_n hx hb dX3_addDeeds_72 rfl (lv_at hl 4 rfl) ?_
                obtain ⟨hi, hf⟩ := k_ckE hf
                refine k_iald C hw (LC_15 LC) hi dX3_addDeeds_73 ?_
                refine lv_iload hx hb dX3_addDeeds_74 (lv_at hl 0 rfl) ?_
                obtain ⟨σ2, hq, hf⟩ := k_bvE hf
                refine k_callVv C hw (c_X8_add l G Y w ad 70 (LCL_70 LC) (σ.1 15 (x3).toNatClampNeg) u1 σ σ2 hq) (cwV 2 hts gX3_addDeeds_X8_add rfl rfl rfl (by decide +kernel) ⟨Nat.le_of_ble_eq_true rfl, Nat.le_of_ble_eq_true rfl⟩) (k_recv C hw (LC_70 LC) rfl) rfl hl.1 rfl (Nat.le_of_ble_eq_true rfl) dX3_addDeeds_76 (fun H locs hw => ?_)
                exact b79 x1 x2 x3 σ2 _ _ _ (lv_sub hl [1, 2, 3, 4] rfl) hw hf
  unfold f_X3_addDeeds at hf
  refine lv_iconst (v := (0 : Int32)) hx hb dX3_addDeeds_0 (by decide) ?_
  refine lv_istore_n (lv' := [(3, .int (0 : Int32)), (0, .ref (ad 67)), (1, .int p1), (2, .int p2)]) hx hb dX3_addDeeds_1 rfl hl (by decide) rfl (fun ls hl => ?_)
  exact b2 FU p1 p2 (0 : Int32) σ _ _ _ (lv_sub hl [1, 2, 3, 0] rfl) hw hf
def f_X3_moodOf  (p1 : Int32) (p2 : Int32) (σ : MSt) : Option (Int32 × MSt) :=
  k_bv (f_X8_recall 70 50 p1 σ) fun σ1 =>
  k_bv (f_X3_addDeeds p1 p2 σ1) fun σ2 =>
  k_bv (f_X4_feel 17 70 σ2) fun σ3 =>
  some ((σ3.1 70 7), σ3)
def rmX3_moodOf : Room := { frames := 3, cells := 0, slots := 0, locals := 74 }
set_option maxHeartbeats 4000000 in
set_option maxRecDepth 100000 in
theorem c_X3_moodOf (l : Launch) (G : va_G) (Y : CY) (w : MSt → va_W) (ad : Nat → Nat)  (LC : LayC ad w Y) (p1 : Int32) (p2 : Int32) (σ : MSt) (r : Int32) (σ' : MSt) (hf : f_X3_moodOf p1 p2 σ = some (r, σ')) : k_Mi l yX3_moodOf wsX3_moodOf rmX3_moodOf G Y w [.ref (ad 67), .int p1, .int p2] σ r σ' := by
  refine k_ofi (own := RX3) (cc := cX3_moodOf) (maxL := 3) (some .int) (by decide) rfl rfl (Nat.le_of_ble_eq_true rfl) ?_
  intro p e s m below meth c A C ls hl hw
  have hx := C.1
  have hb := C.2.1
  have hown := C.2.2.2.2.1
  have hts := C.2.2.2.2.2.1
  have hks := C.2.2.2.2.2.2.1
  have hl : lv_has ls 3 [(0, .ref (ad 67)), (1, .int p1), (2, .int p2)] := hl
  unfold f_X3_moodOf at hf
  refine lv_aload_n hx hb dX3_moodOf_0 rfl (lv_at hl 0 rfl) ?_
  refine k_get C hw (LC_67 LC) (ci := 3) rfl k_in3 2 (by decide) lk3_12 (v := .ref (ad 70)) rfl dX3_moodOf_1 ?_
  refine lv_aload_n hx hb dX3_moodOf_4 rfl (lv_at hl 0 rfl) ?_
  refine k_get C hw (LC_67 LC) (ci := 3) rfl k_in3 1 (by decide) lk3_29 (v := .ref (ad 50)) rfl dX3_moodOf_5 ?_
  refine lv_iload_n hx hb dX3_moodOf_8 rfl (lv_at hl 1 rfl) ?_
  obtain ⟨σ1, hq, hf⟩ := k_bvE hf
  refine k_callVv C hw (c_X8_recall l G Y w ad 70 50 (LCL_70 LC) (LCL_50 LC) p1 σ σ1 hq) (cwV 2 hts gX3_moodOf_X8_recall rfl rfl rfl (by decide +kernel) ⟨Nat.le_of_ble_eq_true rfl, Nat.le_of_ble_eq_true rfl⟩) (k_recv C hw (LC_70 LC) rfl) rfl hl.1 rfl (Nat.le_of_ble_eq_true rfl) dX3_moodOf_9 (fun H locs hw => ?_)
  refine lv_aload_n hx hb dX3_moodOf_12 rfl (lv_at hl 0 rfl) ?_
  refine lv_iload_n hx hb dX3_moodOf_13 rfl (lv_at hl 1 rfl) ?_
  refine lv_iload_n hx hb dX3_moodOf_14 rfl (lv_at hl 2 rfl) ?_
  obtain ⟨σ2, hq, hf⟩ := k_bvE hf
  refine k_callVv C hw (c_X3_addDeeds l G Y w ad LC p1 p2 σ1 σ2 hq) (cwV 2 hts gX3_moodOf_X3_addDeeds rfl rfl rfl (by decide +kernel) ⟨Nat.le_of_ble_eq_true rfl, Nat.le_of_ble_eq_true rfl⟩) (k_recv C hw (LC_67 LC) rfl) rfl hl.1 rfl (Nat.le_of_ble_eq_true rfl) dX3_moodOf_15 (fun H locs hw => ?_)
  refine lv_aload_n hx hb dX3_moodOf_18 rfl (lv_at hl 0 rfl) ?_
  refine k_get C hw (LC_67 LC) (ci := 3) rfl k_in3 0 (by decide) lk3_25 (v := .ref (ad 10)) rfl dX3_moodOf_19 ?_
  refine k_getN C hw (LC_10 LC) (ci := 0) rfl k_in0 6 (by decide) ln3_41 (v := .ref (ad 17)) rfl dX3_moodOf_22 ?_
  refine lv_aload_n hx hb dX3_moodOf_25 rfl (lv_at hl 0 rfl) ?_
  refine k_get C hw (LC_67 LC) (ci := 3) rfl k_in3 2 (by decide) lk3_12 (v := .ref (ad 70)) rfl dX3_moodOf_26 ?_
  obtain ⟨σ3, hq, hf⟩ := k_bvE hf
  refine k_callVv C hw (c_X4_feel l G Y w ad 17 70 (LCL_17 LC) (LCL_70 LC) σ2 σ3 hq) (cwV 1 hts gX3_moodOf_X4_feel rfl rfl rfl (by decide +kernel) ⟨Nat.le_of_ble_eq_true rfl, Nat.le_of_ble_eq_true rfl⟩) (k_recv C hw (LC_17 LC) rfl) rfl hl.1 rfl (Nat.le_of_ble_eq_true rfl) dX3_moodOf_29 (fun H locs hw => ?_)
  refine lv_aload_n hx hb dX3_moodOf_32 rfl (lv_at hl 0 rfl) ?_
  refine k_get C hw (LC_67 LC) (ci := 3) rfl k_in3 2 (by decide) lk3_12 (v := .ref (ad 70)) rfl dX3_moodOf_33 ?_
  refine k_getN C hw (LC_70 LC) (ci := 8) rfl k_in8 7 (by decide) ln3_53 (v := .int (σ3.1 70 7)) rfl dX3_moodOf_36 ?_
  exact k_iret C hw hf dX3_moodOf_39
def f_X3_sees  (p1 : Int32) (p2 : Int32) (σ : MSt) : Option (Int32 × MSt) :=
  k_bv (f_X8_recall 70 50 p1 σ) fun σ1 =>
  k_bv (f_X3_addDeeds p1 p2 σ1) fun σ2 =>
  k_bv (f_X4_feel 17 70 σ2) fun σ3 =>
  k_bd (f_X4_grips 17 70 σ3) fun q5 σ4 =>
  k_ck (k_bo q5) <|
  some (q5, σ4)
def rmX3_sees : Room := { frames := 3, cells := 0, slots := 0, locals := 74 }
set_option maxHeartbeats 4000000 in
set_option maxRecDepth 100000 in
theorem c_X3_sees (l : Launch) (G : va_G) (Y : CY) (w : MSt → va_W) (ad : Nat → Nat)  (LC : LayC ad w Y) (p1 : Int32) (p2 : Int32) (σ : MSt) (r : Int32) (σ' : MSt) (hf : f_X3_sees p1 p2 σ = some (r, σ')) : k_Mi l yX3_sees wsX3_sees rmX3_sees G Y w [.ref (ad 67), .int p1, .int p2] σ r σ' := by
  refine k_ofi (own := RX3) (cc := cX3_sees) (maxL := 3) (some .boolean) (by decide) rfl rfl (Nat.le_of_ble_eq_true rfl) ?_
  intro p e s m below meth c A C ls hl hw
  have hx := C.1
  have hb := C.2.1
  have hown := C.2.2.2.2.1
  have hts := C.2.2.2.2.2.1
  have hks := C.2.2.2.2.2.2.1
  have hl : lv_has ls 3 [(0, .ref (ad 67)), (1, .int p1), (2, .int p2)] := hl
  unfold f_X3_sees at hf
  refine lv_aload_n hx hb dX3_sees_0 rfl (lv_at hl 0 rfl) ?_
  refine k_get C hw (LC_67 LC) (ci := 3) rfl k_in3 2 (by decide) lk3_12 (v := .ref (ad 70)) rfl dX3_sees_1 ?_
  refine lv_aload_n hx hb dX3_sees_4 rfl (lv_at hl 0 rfl) ?_
  refine k_get C hw (LC_67 LC) (ci := 3) rfl k_in3 1 (by decide) lk3_29 (v := .ref (ad 50)) rfl dX3_sees_5 ?_
  refine lv_iload_n hx hb dX3_sees_8 rfl (lv_at hl 1 rfl) ?_
  obtain ⟨σ1, hq, hf⟩ := k_bvE hf
  refine k_callVv C hw (c_X8_recall l G Y w ad 70 50 (LCL_70 LC) (LCL_50 LC) p1 σ σ1 hq) (cwV 2 hts gX3_sees_X8_recall rfl rfl rfl (by decide +kernel) ⟨Nat.le_of_ble_eq_true rfl, Nat.le_of_ble_eq_true rfl⟩) (k_recv C hw (LC_70 LC) rfl) rfl hl.1 rfl (Nat.le_of_ble_eq_true rfl) dX3_sees_9 (fun H locs hw => ?_)
  refine lv_aload_n hx hb dX3_sees_12 rfl (lv_at hl 0 rfl) ?_
  refine lv_iload_n hx hb dX3_sees_13 rfl (lv_at hl 1 rfl) ?_
  refine lv_iload_n hx hb dX3_sees_14 rfl (lv_at hl 2 rfl) ?_
  obtain ⟨σ2, hq, hf⟩ := k_bvE hf
  refine k_callVv C hw (c_X3_addDeeds l G Y w ad LC p1 p2 σ1 σ2 hq) (cwV 2 hts gX3_sees_X3_addDeeds rfl rfl rfl (by decide +kernel) ⟨Nat.le_of_ble_eq_true rfl, Nat.le_of_ble_eq_true rfl⟩) (k_recv C hw (LC_67 LC) rfl) rfl hl.1 rfl (Nat.le_of_ble_eq_true rfl) dX3_sees_15 (fun H locs hw => ?_)
  refine lv_aload_n hx hb dX3_sees_18 rfl (lv_at hl 0 rfl) ?_
  refine k_get C hw (LC_67 LC) (ci := 3) rfl k_in3 0 (by decide) lk3_25 (v := .ref (ad 10)) rfl dX3_sees_19 ?_
  refine k_getN C hw (LC_10 LC) (ci := 0) rfl k_in0 6 (by decide) ln3_41 (v := .ref (ad 17)) rfl dX3_sees_22 ?_
  refine lv_aload_n hx hb dX3_sees_25 rfl (lv_at hl 0 rfl) ?_
  refine k_get C hw (LC_67 LC) (ci := 3) rfl k_in3 2 (by decide) lk3_12 (v := .ref (ad 70)) rfl dX3_sees_26 ?_
  obtain ⟨σ3, hq, hf⟩ := k_bvE hf
  refine k_callVv C hw (c_X4_feel l G Y w ad 17 70 (LCL_17 LC) (LCL_70 LC) σ2 σ3 hq) (cwV 1 hts gX3_sees_X4_feel rfl rfl rfl (by decide +kernel) ⟨Nat.le_of_ble_eq_true rfl, Nat.le_of_ble_eq_true rfl⟩) (k_recv C hw (LC_17 LC) rfl) rfl hl.1 rfl (Nat.le_of_ble_eq_true rfl) dX3_sees_29 (fun H locs hw => ?_)
  refine lv_aload_n hx hb dX3_sees_32 rfl (lv_at hl 0 rfl) ?_
  refine k_get C hw (LC_67 LC) (ci := 3) rfl k_in3 0 (by decide) lk3_25 (v := .ref (ad 10)) rfl dX3_sees_33 ?_
  refine k_getN C hw (LC_10 LC) (ci := 0) rfl k_in0 6 (by decide) ln3_41 (v := .ref (ad 17)) rfl dX3_sees_36 ?_
  refine lv_aload_n hx hb dX3_sees_39 rfl (lv_at hl 0 rfl) ?_
  refine k_get C hw (LC_67 LC) (ci := 3) rfl k_in3 2 (by decide) lk3_12 (v := .ref (ad 70)) rfl dX3_sees_40 ?_
  obtain ⟨q5, σ4, hq, hf⟩ := k_bdE hf
  refine k_callVi C hw (c_X4_grips l G Y w ad 17 70 (LCL_17 LC) (LCL_70 LC) σ3 q5 σ4 hq) (cwV 1 hts gX3_sees_X4_grips rfl rfl rfl (by decide +kernel) ⟨Nat.le_of_ble_eq_true rfl, Nat.le_of_ble_eq_true rfl⟩) (k_recv C hw (LC_17 LC) rfl) rfl hl.1 rfl (Nat.le_of_ble_eq_true rfl) dX3_sees_43 (fun H locs hw => ?_)
  obtain ⟨hz, hf⟩ := k_ckE hf
  exact k_zret C hw (k_boE hz).1 hf dX3_sees_46
def f_X3_seesWithKindness  (p1 : Int32) (p2 : Int32) (p3 : Int32) (σ : MSt) : Option (Int32 × MSt) :=
  k_bv (f_X8_recall 70 50 p1 σ) fun σ1 =>
  k_bv (f_X8_add 70 p3 (σ1.1 50 3) σ1) fun σ2 =>
  k_bv (f_X3_addDeeds p1 p2 σ2) fun σ3 =>
  k_bv (f_X4_feel 17 70 σ3) fun σ4 =>
  k_bd (f_X4_grips 17 70 σ4) fun q6 σ5 =>
  k_ck (k_bo q6) <|
  some (q6, σ5)
def rmX3_seesWithKindness : Room := { frames := 3, cells := 0, slots := 0, locals := 74 }
set_option maxHeartbeats 4000000 in
set_option maxRecDepth 100000 in
theorem c_X3_seesWithKindness (l : Launch) (G : va_G) (Y : CY) (w : MSt → va_W) (ad : Nat → Nat)  (LC : LayC ad w Y) (p1 : Int32) (p2 : Int32) (p3 : Int32) (σ : MSt) (r : Int32) (σ' : MSt) (hf : f_X3_seesWithKindness p1 p2 p3 σ = some (r, σ')) : k_Mi l yX3_seesWithKindness wsX3_seesWithKindness rmX3_seesWithKindness G Y w [.ref (ad 67), .int p1, .int p2, .int p3] σ r σ' := by
  refine k_ofi (own := RX3) (cc := cX3_seesWithKindness) (maxL := 4) (some .boolean) (by decide) rfl rfl (Nat.le_of_ble_eq_true rfl) ?_
  intro p e s m below meth c A C ls hl hw
  have hx := C.1
  have hb := C.2.1
  have hown := C.2.2.2.2.1
  have hts := C.2.2.2.2.2.1
  have hks := C.2.2.2.2.2.2.1
  have hl : lv_has ls 4 [(0, .ref (ad 67)), (1, .int p1), (2, .int p2), (3, .int p3)] := hl
  unfold f_X3_seesWithKindness at hf
  refine lv_aload_n hx hb dX3_seesWithKindness_0 rfl (lv_at hl 0 rfl) ?_
  refine k_get C hw (LC_67 LC) (ci := 3) rfl k_in3 2 (by decide) lk3_12 (v := .ref (ad 70)) rfl dX3_seesWithKindness_1 ?_
  refine lv_aload_n hx hb dX3_seesWithKindness_4 rfl (lv_at hl 0 rfl) ?_
  refine k_get C hw (LC_67 LC) (ci := 3) rfl k_in3 1 (by decide) lk3_29 (v := .ref (ad 50)) rfl dX3_seesWithKindness_5 ?_
  refine lv_iload_n hx hb dX3_seesWithKindness_8 rfl (lv_at hl 1 rfl) ?_
  obtain ⟨σ1, hq, hf⟩ := k_bvE hf
  refine k_callVv C hw (c_X8_recall l G Y w ad 70 50 (LCL_70 LC) (LCL_50 LC) p1 σ σ1 hq) (cwV 2 hts gX3_seesWithKindness_X8_recall rfl rfl rfl (by decide +kernel) ⟨Nat.le_of_ble_eq_true rfl, Nat.le_of_ble_eq_true rfl⟩) (k_recv C hw (LC_70 LC) rfl) rfl hl.1 rfl (Nat.le_of_ble_eq_true rfl) dX3_seesWithKindness_9 (fun H locs hw => ?_)
  refine lv_aload_n hx hb dX3_seesWithKindness_12 rfl (lv_at hl 0 rfl) ?_
  refine k_get C hw (LC_67 LC) (ci := 3) rfl k_in3 2 (by decide) lk3_12 (v := .ref (ad 70)) rfl dX3_seesWithKindness_13 ?_
  refine lv_iload_n hx hb dX3_seesWithKindness_16 rfl (lv_at hl 3 rfl) ?_
  refine lv_aload_n hx hb dX3_seesWithKindness_17 rfl (lv_at hl 0 rfl) ?_
  refine k_get C hw (LC_67 LC) (ci := 3) rfl k_in3 1 (by decide) lk3_29 (v := .ref (ad 50)) rfl dX3_seesWithKindness_18 ?_
  refine k_getN C hw (LC_50 LC) (ci := 5) rfl k_in5 3 (by decide) ln3_61 (v := .int (σ1.1 50 3)) rfl dX3_seesWithKindness_21 ?_
  obtain ⟨σ2, hq, hf⟩ := k_bvE hf
  refine k_callVv C hw (c_X8_add l G Y w ad 70 (LCL_70 LC) p3 (σ1.1 50 3) σ1 σ2 hq) (cwV 2 hts gX3_seesWithKindness_X8_add rfl rfl rfl (by decide +kernel) ⟨Nat.le_of_ble_eq_true rfl, Nat.le_of_ble_eq_true rfl⟩) (k_recv C hw (LC_70 LC) rfl) rfl hl.1 rfl (Nat.le_of_ble_eq_true rfl) dX3_seesWithKindness_24 (fun H locs hw => ?_)
  refine lv_aload_n hx hb dX3_seesWithKindness_27 rfl (lv_at hl 0 rfl) ?_
  refine lv_iload_n hx hb dX3_seesWithKindness_28 rfl (lv_at hl 1 rfl) ?_
  refine lv_iload_n hx hb dX3_seesWithKindness_29 rfl (lv_at hl 2 rfl) ?_
  obtain ⟨σ3, hq, hf⟩ := k_bvE hf
  refine k_callVv C hw (c_X3_addDeeds l G Y w ad LC p1 p2 σ2 σ3 hq) (cwV 2 hts gX3_seesWithKindness_X3_addDeeds rfl rfl rfl (by decide +kernel) ⟨Nat.le_of_ble_eq_true rfl, Nat.le_of_ble_eq_true rfl⟩) (k_recv C hw (LC_67 LC) rfl) rfl hl.1 rfl (Nat.le_of_ble_eq_true rfl) dX3_seesWithKindness_30 (fun H locs hw => ?_)
  refine lv_aload_n hx hb dX3_seesWithKindness_33 rfl (lv_at hl 0 rfl) ?_
  refine k_get C hw (LC_67 LC) (ci := 3) rfl k_in3 0 (by decide) lk3_25 (v := .ref (ad 10)) rfl dX3_seesWithKindness_34 ?_
  refine k_getN C hw (LC_10 LC) (ci := 0) rfl k_in0 6 (by decide) ln3_41 (v := .ref (ad 17)) rfl dX3_seesWithKindness_37 ?_
  refine lv_aload_n hx hb dX3_seesWithKindness_40 rfl (lv_at hl 0 rfl) ?_
  refine k_get C hw (LC_67 LC) (ci := 3) rfl k_in3 2 (by decide) lk3_12 (v := .ref (ad 70)) rfl dX3_seesWithKindness_41 ?_
  obtain ⟨σ4, hq, hf⟩ := k_bvE hf
  refine k_callVv C hw (c_X4_feel l G Y w ad 17 70 (LCL_17 LC) (LCL_70 LC) σ3 σ4 hq) (cwV 1 hts gX3_seesWithKindness_X4_feel rfl rfl rfl (by decide +kernel) ⟨Nat.le_of_ble_eq_true rfl, Nat.le_of_ble_eq_true rfl⟩) (k_recv C hw (LC_17 LC) rfl) rfl hl.1 rfl (Nat.le_of_ble_eq_true rfl) dX3_seesWithKindness_44 (fun H locs hw => ?_)
  refine lv_aload_n hx hb dX3_seesWithKindness_47 rfl (lv_at hl 0 rfl) ?_
  refine k_get C hw (LC_67 LC) (ci := 3) rfl k_in3 0 (by decide) lk3_25 (v := .ref (ad 10)) rfl dX3_seesWithKindness_48 ?_
  refine k_getN C hw (LC_10 LC) (ci := 0) rfl k_in0 6 (by decide) ln3_41 (v := .ref (ad 17)) rfl dX3_seesWithKindness_51 ?_
  refine lv_aload_n hx hb dX3_seesWithKindness_54 rfl (lv_at hl 0 rfl) ?_
  refine k_get C hw (LC_67 LC) (ci := 3) rfl k_in3 2 (by decide) lk3_12 (v := .ref (ad 70)) rfl dX3_seesWithKindness_55 ?_
  obtain ⟨q6, σ5, hq, hf⟩ := k_bdE hf
  refine k_callVi C hw (c_X4_grips l G Y w ad 17 70 (LCL_17 LC) (LCL_70 LC) σ4 q6 σ5 hq) (cwV 1 hts gX3_seesWithKindness_X4_grips rfl rfl rfl (by decide +kernel) ⟨Nat.le_of_ble_eq_true rfl, Nat.le_of_ble_eq_true rfl⟩) (k_recv C hw (LC_17 LC) rfl) rfl hl.1 rfl (Nat.le_of_ble_eq_true rfl) dX3_seesWithKindness_58 (fun H locs hw => ?_)
  obtain ⟨hz, hf⟩ := k_ckE hf
  exact k_zret C hw (k_boE hz).1 hf dX3_seesWithKindness_61
def f_X3_seesFromText_b101  (x2 : Int32) (σ : MSt) : Option (Int32 × MSt) :=
  k_bd (f_X0_galeOf 10 x2 σ) fun q2 σ1 =>
  k_bv (f_X8_set 70 x2 q2 (0 : Int32) σ1) fun σ3 =>
  k_bv (f_X4_feel 17 70 σ3) fun σ4 =>
  k_bd (f_X4_grips 17 70 σ4) fun q6 σ5 =>
  k_ck (k_bo q6) <|
  some (q6, σ5)
def f_X3_seesFromText_b95  (r10 : Int32 → Int32 → Int32 → Int32 → Int32 → MSt → Option (Int32 × MSt)) (x1 : Int32) (x2 : Int32) (x3 : Int32) (x4 : Int32) (x5 : Int32) (σ : MSt) : Option (Int32 × MSt) :=
  k_nm (x5 + (1 : Int32)) fun u1 =>
  r10 x1 x2 x3 x4 u1 σ
def f_X3_seesFromText_b82  (r10 : Int32 → Int32 → Int32 → Int32 → Int32 → MSt → Option (Int32 × MSt)) (x1 : Int32) (x2 : Int32) (x3 : Int32) (x4 : Int32) (x5 : Int32) (y1 : Int32) (σ : MSt) : Option (Int32 × MSt) :=
  k_ck (k_inb x5 12) <|
  k_bv (f_X8_add 70 y1 (σ.1 14 (x5).toNatClampNeg) σ) fun σ1 =>
  f_X3_seesFromText_b95 r10 x1 x2 x3 x4 x5 σ1
def f_X3_seesFromText_b10_s  (r10 : Int32 → Int32 → Int32 → Int32 → Int32 → MSt → Option (Int32 × MSt)) (x1 : Int32) (x2 : Int32) (x3 : Int32) (x4 : Int32) (x5 : Int32) (σ : MSt) : Option (Int32 × MSt) :=
  if (σ.1 10 9) ≤ x5 then
  (f_X3_seesFromText_b101 x2 σ)
  else
  (if (12 : Int32) ≤ x5 then
  (f_X3_seesFromText_b101 x2 σ)
  else
  (k_ck (k_inb x5 12) <|
  if (σ.1 13 (x5).toNatClampNeg) = x1 then
  (k_ck (k_inb x5 12) <|
  if x2 < (σ.1 14 (x5).toNatClampNeg) then
  (f_X3_seesFromText_b95 r10 x1 x2 x3 x4 x5 σ)
  else
  (if x5 = x3 then
  (f_X3_seesFromText_b82 r10 x1 x2 x3 x4 x5 x4 σ)
  else
  (k_ck (k_inb x5 12) <|
  f_X3_seesFromText_b82 r10 x1 x2 x3 x4 x5 (σ.1 15 (x5).toNatClampNeg) σ)))
  else
  (f_X3_seesFromText_b95 r10 x1 x2 x3 x4 x5 σ)))
def f_X3_seesFromText_b10  : Nat → Int32 → Int32 → Int32 → Int32 → Int32 → MSt → Option (Int32 × MSt)
  | 0 => fun _ _ _ _ _ _ => none
  | n + 1 => f_X3_seesFromText_b10_s (f_X3_seesFromText_b10 n)
def f_X3_seesFromText  (p1 : Int32) (p2 : Int32) (p3 : Int32) (p4 : Int32) (σ : MSt) : Option (Int32 × MSt) :=
  k_bv (f_X8_forget 70 σ) fun σ1 =>
  f_X3_seesFromText_b10 FU p1 p2 p3 p4 (0 : Int32) σ1
def rmX3_seesFromText : Room := { frames := 3, cells := 0, slots := 0, locals := 74 }
set_option maxHeartbeats 4000000 in
set_option maxRecDepth 100000 in
theorem c_X3_seesFromText (l : Launch) (G : va_G) (Y : CY) (w : MSt → va_W) (ad : Nat → Nat)  (LC : LayC ad w Y) (p1 : Int32) (p2 : Int32) (p3 : Int32) (p4 : Int32) (σ : MSt) (r : Int32) (σ' : MSt) (hf : f_X3_seesFromText p1 p2 p3 p4 σ = some (r, σ')) : k_Mi l yX3_seesFromText wsX3_seesFromText rmX3_seesFromText G Y w [.ref (ad 67), .int p1, .int p2, .int p3, .int p4] σ r σ' := by
  refine k_ofi (own := RX3) (cc := cX3_seesFromText) (maxL := 6) (some .boolean) (by decide) rfl rfl (Nat.le_of_ble_eq_true rfl) ?_
  intro p e s m below meth c A C ls hl hw
  have hx := C.1
  have hb := C.2.1
  have hown := C.2.2.2.2.1
  have hts := C.2.2.2.2.2.1
  have hks := C.2.2.2.2.2.2.1
  have hl : lv_has ls 6 [(0, .ref (ad 67)), (1, .int p1), (2, .int p2), (3, .int p3), (4, .int p4)] := hl
  have b101 : ∀ (x2 : Int32) (σ : MSt) (H : Heap) (locs : List Loc) (ls : Array Slot), lv_has ls 6 [(0, .ref (ad 67)), (2, .int x2)] → k_W G w A s.heap σ H locs → f_X3_seesFromText_b101 x2 σ = some (r, σ') → W p l e rmX3_seesFromText s m [.ref (ad 67), .int p1, .int p2, .int p3, .int p4].toArray below meth c H locs 0 0 (MQ below (k_Qi G w A r σ') [.ref (ad 67), .int p1, .int p2, .int p3, .int p4].toArray s 0 0 A) (F0 m 101 ls []) := by
    intro x2 σ H locs ls hl hw hf
    unfold f_X3_seesFromText_b101 at hf
    refine lv_aload_n hx hb dX3_seesFromText_101 rfl (lv_at hl 0 rfl) ?_
    refine k_get C hw (LC_67 LC) (ci := 3) rfl k_in3 2 (by decide) lk3_12 (v := .ref (ad 70)) rfl dX3_seesFromText_102 ?_
    refine lv_iload_n hx hb dX3_seesFromText_105 rfl (lv_at hl 1 rfl) ?_
    refine lv_aload_n hx hb dX3_seesFromText_106 rfl (lv_at hl 0 rfl) ?_
    refine k_get C hw (LC_67 LC) (ci := 3) rfl k_in3 0 (by decide) lk3_25 (v := .ref (ad 10)) rfl dX3_seesFromText_107 ?_
    refine lv_iload_n hx hb dX3_seesFromText_110 rfl (lv_at hl 1 rfl) ?_
    obtain ⟨q2, σ1, hq, hf⟩ := k_bdE hf
    refine k_callVi C hw (c_X0_galeOf l G Y w ad 10 (LCL_10 LC) x2 σ q2 σ1 hq) (cwV 1 hts gX3_seesFromText_X0_galeOf rfl rfl rfl (by decide +kernel) ⟨Nat.le_of_ble_eq_true rfl, Nat.le_of_ble_eq_true rfl⟩) (k_recv C hw (LC_10 LC) rfl) rfl hl.1 rfl (Nat.le_of_ble_eq_true rfl) dX3_seesFromText_111 (fun H locs hw => ?_)
    refine lv_iconst (v := (0 : Int32)) hx hb dX3_seesFromText_114 (by decide) ?_
    obtain ⟨σ3, hq, hf⟩ := k_bvE hf
    refine k_callVv C hw (c_X8_set l G Y w ad 70 (LCL_70 LC) x2 q2 (0 : Int32) σ1 σ3 hq) (cwV 3 hts gX3_seesFromText_X8_set rfl rfl rfl (by decide +kernel) ⟨Nat.le_of_ble_eq_true rfl, Nat.le_of_ble_eq_true rfl⟩) (k_recv C hw (LC_70 LC) rfl) rfl hl.1 rfl (Nat.le_of_ble_eq_true rfl) dX3_seesFromText_115 (fun H locs hw => ?_)
    refine lv_aload_n hx hb dX3_seesFromText_118 rfl (lv_at hl 0 rfl) ?_
    refine k_get C hw (LC_67 LC) (ci := 3) rfl k_in3 0 (by decide) lk3_25 (v := .ref (ad 10)) rfl dX3_seesFromText_119 ?_
    refine k_getN C hw (LC_10 LC) (ci := 0) rfl k_in0 6 (by decide) ln3_41 (v := .ref (ad 17)) rfl dX3_seesFromText_122 ?_
    refine lv_aload_n hx hb dX3_seesFromText_125 rfl (lv_at hl 0 rfl) ?_
    refine k_get C hw (LC_67 LC) (ci := 3) rfl k_in3 2 (by decide) lk3_12 (v := .ref (ad 70)) rfl dX3_seesFromText_126 ?_
    obtain ⟨σ4, hq, hf⟩ := k_bvE hf
    refine k_callVv C hw (c_X4_feel l G Y w ad 17 70 (LCL_17 LC) (LCL_70 LC) σ3 σ4 hq) (cwV 1 hts gX3_seesFromText_X4_feel rfl rfl rfl (by decide +kernel) ⟨Nat.le_of_ble_eq_true rfl, Nat.le_of_ble_eq_true rfl⟩) (k_recv C hw (LC_17 LC) rfl) rfl hl.1 rfl (Nat.le_of_ble_eq_true rfl) dX3_seesFromText_129 (fun H locs hw => ?_)
    refine lv_aload_n hx hb dX3_seesFromText_132 rfl (lv_at hl 0 rfl) ?_
    refine k_get C hw (LC_67 LC) (ci := 3) rfl k_in3 0 (by decide) lk3_25 (v := .ref (ad 10)) rfl dX3_seesFromText_133 ?_
    refine k_getN C hw (LC_10 LC) (ci := 0) rfl k_in0 6 (by decide) ln3_41 (v := .ref (ad 17)) rfl dX3_seesFromText_136 ?_
    refine lv_aload_n hx hb dX3_seesFromText_139 rfl (lv_at hl 0 rfl) ?_
    refine k_get C hw (LC_67 LC) (ci := 3) rfl k_in3 2 (by decide) lk3_12 (v := .ref (ad 70)) rfl dX3_seesFromText_140 ?_
    obtain ⟨q6, σ5, hq, hf⟩ := k_bdE hf
    refine k_callVi C hw (c_X4_grips l G Y w ad 17 70 (LCL_17 LC) (LCL_70 LC) σ4 q6 σ5 hq) (cwV 1 hts gX3_seesFromText_X4_grips rfl rfl rfl (by decide +kernel) ⟨Nat.le_of_ble_eq_true rfl, Nat.le_of_ble_eq_true rfl⟩) (k_recv C hw (LC_17 LC) rfl) rfl hl.1 rfl (Nat.le_of_ble_eq_true rfl) dX3_seesFromText_143 (fun H locs hw => ?_)
    obtain ⟨hz, hf⟩ := k_ckE hf
    exact k_zret C hw (k_boE hz).1 hf dX3_seesFromText_146
  have b10 : ∀ (n10 : Nat) (x1 : Int32) (x2 : Int32) (x3 : Int32) (x4 : Int32) (x5 : Int32) (σ : MSt) (H : Heap) (locs : List Loc) (ls : Array Slot), lv_has ls 6 [(0, .ref (ad 67)), (1, .int x1), (2, .int x2), (3, .int x3), (4, .int x4), (5, .int x5)] → k_W G w A s.heap σ H locs → f_X3_seesFromText_b10 n10 x1 x2 x3 x4 x5 σ = some (r, σ') → W p l e rmX3_seesFromText s m [.ref (ad 67), .int p1, .int p2, .int p3, .int p4].toArray below meth c H locs 0 0 (MQ below (k_Qi G w A r σ') [.ref (ad 67), .int p1, .int p2, .int p3, .int p4].toArray s 0 0 A) (F0 m 10 ls []) := by
    intro n10
    induction n10 with
    | zero =>
      intro x1 x2 x3 x4 x5 σ H locs ls hl hw hf
      have hf : (none : Option (Int32 × MSt)) = some (r, σ') := hf
      cases hf
    | succ n10 ih10 =>
      have b95 : ∀ (x1 : Int32) (x2 : Int32) (x3 : Int32) (x4 : Int32) (x5 : Int32) (σ : MSt) (H : Heap) (locs : List Loc) (ls : Array Slot), lv_has ls 6 [(0, .ref (ad 67)), (1, .int x1), (2, .int x2), (3, .int x3), (4, .int x4), (5, .int x5)] → k_W G w A s.heap σ H locs → f_X3_seesFromText_b95 (f_X3_seesFromText_b10 n10) x1 x2 x3 x4 x5 σ = some (r, σ') → W p l e rmX3_seesFromText s m [.ref (ad 67), .int p1, .int p2, .int p3, .int p4].toArray below meth c H locs 0 0 (MQ below (k_Qi G w A r σ') [.ref (ad 67), .int p1, .int p2, .int p3, .int p4].toArray s 0 0 A) (F0 m 95 ls []) := by
        intro x1 x2 x3 x4 x5 σ H locs ls hl hw hf
        unfold f_X3_seesFromText_b95 at hf
        obtain ⟨u1, ex⟩ : ∃ y : Int32, y = (x5 + (1 : Int32)) := ⟨_, rfl⟩
        have hf := k_nmE ex hf
        refine lv_iinc (v := u1) (lv' := [(5, .int u1), (0, .ref (ad 67)), (1, .int x1), (2, .int x2), (3, .int x3), (4, .int x4)]) hx hb dX3_seesFromText_95 hl (k := 5) rfl (by rw [ex]; rfl) (by decide) rfl (fun ls hl => ?_)
        refine lv_goto (tgt := 10) hx hb dX3_seesFromText_98 (by decide) ?_
        exact ih10 x1 x2 x3 x4 u1 σ _ _ _ (lv_sub hl [1, 2, 3, 4, 5, 0] rfl) hw hf
      have b82 : ∀ (x1 : Int32) (x2 : Int32) (x3 : Int32) (x4 : Int32) (x5 : Int32) (y1 : Int32) (σ : MSt) (H : Heap) (locs : List Loc) (ls : Array Slot), lv_has ls 6 [(0, .ref (ad 67)), (1, .int x1), (2, .int x2), (3, .int x3), (4, .int x4), (5, .int x5)] → k_W G w A s.heap σ H locs → f_X3_seesFromText_b82 (f_X3_seesFromText_b10 n10) x1 x2 x3 x4 x5 y1 σ = some (r, σ') → W p l e rmX3_seesFromText s m [.ref (ad 67), .int p1, .int p2, .int p3, .int p4].toArray below meth c H locs 0 0 (MQ below (k_Qi G w A r σ') [.ref (ad 67), .int p1, .int p2, .int p3, .int p4].toArray s 0 0 A) (F0 m 82 ls [.int y1, .ref (ad 70)]) := by
        intro x1 x2 x3 x4 x5 y1 σ H locs ls hl hw hf
        unfold f_X3_seesFromText_b82 at hf
        refine lv_aload_n hx hb dX3_seesFromText_82 rfl (lv_at hl 0 rfl) ?_
        refine k_get C hw (LC_67 LC) (ci := 3) rfl k_in3 0 (by decide) lk3_25 (v := .ref (ad 10)) rfl dX3_seesFromText_83 ?_
        refine k_getN C hw (LC_10 LC) (ci := 0) rfl k_in0 3 (by decide) ln3_78 (v := .ref (ad 14)) rfl dX3_seesFromText_86 ?_
        refine lv_iload hx hb dX3_seesFromText_89 (lv_at hl 5 rfl) ?_
        obtain ⟨hi, hf⟩ := k_ckE hf
        refine k_iald C hw (LC_14 LC) hi dX3_seesFromText_91 ?_
        obtain ⟨σ1, hq, hf⟩ := k_bvE hf
        refine k_callVv C hw (c_X8_add l G Y w ad 70 (LCL_70 LC) y1 (σ.1 14 (x5).toNatClampNeg) σ σ1 hq) (cwV 2 hts gX3_seesFromText_X8_add rfl rfl rfl (by decide +kernel) ⟨Nat.le_of_ble_eq_true rfl, Nat.le_of_ble_eq_true rfl⟩) (k_recv C hw (LC_70 LC) rfl) rfl hl.1 rfl (Nat.le_of_ble_eq_true rfl) dX3_seesFromText_92 (fun H locs hw => ?_)
        exact b95 x1 x2 x3 x4 x5 σ1 _ _ _ (lv_sub hl [0, 1, 2, 3, 4, 5] rfl) hw hf
      intro x1 x2 x3 x4 x5 σ H locs ls hl hw hf
      have hf : f_X3_seesFromText_b10_s (f_X3_seesFromText_b10 n10) x1 x2 x3 x4 x5 σ = some (r, σ') := hf
      unfold f_X3_seesFromText_b10_s at hf
      refine lv_iload hx hb dX3_seesFromText_10 (lv_at hl 5 rfl) ?_
      refine lv_aload_n hx hb dX3_seesFromText_12 rfl (lv_at hl 0 rfl) ?_
      refine k_get C hw (LC_67 LC) (ci := 3) rfl k_in3 0 (by decide) lk3_25 (v := .ref (ad 10)) rfl dX3_seesFromText_13 ?_
      refine k_getN C hw (LC_10 LC) (ci := 0) rfl k_in0 9 (by decide) ln3_72 (v := .int (σ.1 10 9)) rfl dX3_seesFromText_16 ?_
      refine lv_icmp_ge (tgt := 101) hx hb dX3_seesFromText_19 (by decide) (fun h => ?_) (fun h => ?_)
      · have hf := k_ifT h hf
        exact b101 x2 σ _ _ _ (lv_sub hl [0, 2] rfl) hw hf
      · have hf := k_ifF h hf
        refine lv_iload hx hb dX3_seesFromText_22 (lv_at hl 5 rfl) ?_
        refine lv_bipush (v := (12 : Int32)) hx hb dX3_seesFromText_24 (by decide) ?_
        refine lv_icmp_ge (tgt := 101) hx hb dX3_seesFromText_26 (by decide) (fun h => ?_) (fun h => ?_)
        · have hf := k_ifT h hf
          exact b101 x2 σ _ _ _ (lv_sub hl [0, 2] rfl) hw hf
        · have hf := k_ifF h hf
          refine lv_aload_n hx hb dX3_seesFromText_29 rfl (lv_at hl 0 rfl) ?_
          refine k_get C hw (LC_67 LC) (ci := 3) rfl k_in3 0 (by decide) lk3_25 (v := .ref (ad 10)) rfl dX3_seesFromText_30 ?_
          refine k_getN C hw (LC_10 LC) (ci := 0) rfl k_in0 2 (by decide) ln3_75 (v := .ref (ad 13)) rfl dX3_seesFromText_33 ?_
          refine lv_iload hx hb dX3_seesFromText_36 (lv_at hl 5 rfl) ?_
          obtain ⟨hi, hf⟩ := k_ckE hf
          refine k_iald C hw (LC_13 LC) hi dX3_seesFromText_38 ?_
          refine lv_iload_n hx hb dX3_seesFromText_39 rfl (lv_at hl 1 rfl) ?_
          refine lv_icmp_ne (tgt := 95) hx hb dX3_seesFromText_40 (by decide) (fun h => ?_) (fun h => ?_)
          · have hf := k_ifF h hf
            exact b95 x1 x2 x3 x4 x5 σ _ _ _ (lv_sub hl [0, 1, 2, 3, 4, 5] rfl) hw hf
          · have hf := k_ifT h hf
            refine lv_aload_n hx hb dX3_seesFromText_43 rfl (lv_at hl 0 rfl) ?_
            refine k_get C hw (LC_67 LC) (ci := 3) rfl k_in3 0 (by decide) lk3_25 (v := .ref (ad 10)) rfl dX3_seesFromText_44 ?_
            refine k_getN C hw (LC_10 LC) (ci := 0) rfl k_in0 3 (by decide) ln3_78 (v := .ref (ad 14)) rfl dX3_seesFromText_47 ?_
            refine lv_iload hx hb dX3_seesFromText_50 (lv_at hl 5 rfl) ?_
            obtain ⟨hi, hf⟩ := k_ckE hf
            refine k_iald C hw (LC_14 LC) hi dX3_seesFromText_52 ?_
            refine lv_iload_n hx hb dX3_seesFromText_53 rfl (lv_at hl 2 rfl) ?_
            refine lv_icmp_gt (tgt := 95) hx hb dX3_seesFromText_54 (by decide) (fun h => ?_) (fun h => ?_)
            · have hf := k_ifT h hf
              exact b95 x1 x2 x3 x4 x5 σ _ _ _ (lv_sub hl [0, 1, 2, 3, 4, 5] rfl) hw hf
            · have hf := k_ifF h hf
              refine lv_aload_n hx hb dX3_seesFromText_57 rfl (lv_at hl 0 rfl) ?_
              refine k_get C hw (LC_67 LC) (ci := 3) rfl k_in3 2 (by decide) lk3_12 (v := .ref (ad 70)) rfl dX3_seesFromText_58 ?_
              refine lv_iload hx hb dX3_seesFromText_61 (lv_at hl 5 rfl) ?_
              refine lv_iload_n hx hb dX3_seesFromText_63 rfl (lv_at hl 3 rfl) ?_
              refine lv_icmp_ne (tgt := 72) hx hb dX3_seesFromText_64 (by decide) (fun h => ?_) (fun h => ?_)
              · have hf := k_ifF h hf
                refine lv_aload_n hx hb dX3_seesFromText_72 rfl (lv_at hl 0 rfl) ?_
                refine k_get C hw (LC_67 LC) (ci := 3) rfl k_in3 0 (by decide) lk3_25 (v := .ref (ad 10)) rfl dX3_seesFromText_73 ?_
                refine k_getN C hw (LC_10 LC) (ci := 0) rfl k_in0 4 (by decide) ln3_81 (v := .ref (ad 15)) rfl dX3_seesFromText_76 ?_
                refine lv_iload hx hb dX3_seesFromText_79 (lv_at hl 5 rfl) ?_
                obtain ⟨hi, hf⟩ := k_ckE hf
                refine k_iald C hw (LC_15 LC) hi dX3_seesFromText_81 ?_
                exact b82 x1 x2 x3 x4 x5 (σ.1 15 (x5).toNatClampNeg) σ _ _ _ (lv_sub hl [0, 1, 2, 3, 4, 5] rfl) hw hf
              · have hf := k_ifT h hf
                refine lv_iload hx hb dX3_seesFromText_67 (lv_at hl 4 rfl) ?_
                refine lv_goto (tgt := 82) hx hb dX3_seesFromText_69 (by decide) ?_
                exact b82 x1 x2 x3 x4 x5 x4 σ _ _ _ (lv_sub hl [0, 1, 2, 3, 4, 5] rfl) hw hf
  unfold f_X3_seesFromText at hf
  refine lv_aload_n hx hb dX3_seesFromText_0 rfl (lv_at hl 0 rfl) ?_
  refine k_get C hw (LC_67 LC) (ci := 3) rfl k_in3 2 (by decide) lk3_12 (v := .ref (ad 70)) rfl dX3_seesFromText_1 ?_
  obtain ⟨σ1, hq, hf⟩ := k_bvE hf
  refine k_callVv C hw (c_X8_forget l G Y w ad 70 (LCL_70 LC) σ σ1 hq) (cwV 0 hts gX3_seesFromText_X8_forget rfl rfl rfl (by decide +kernel) ⟨Nat.le_of_ble_eq_true rfl, Nat.le_of_ble_eq_true rfl⟩) (k_recv C hw (LC_70 LC) rfl) rfl hl.1 rfl (Nat.le_of_ble_eq_true rfl) dX3_seesFromText_4 (fun H locs hw => ?_)
  refine lv_iconst (v := (0 : Int32)) hx hb dX3_seesFromText_7 (by decide) ?_
  refine lv_istore (lv' := [(5, .int (0 : Int32)), (0, .ref (ad 67)), (1, .int p1), (2, .int p2), (3, .int p3), (4, .int p4)]) hx hb dX3_seesFromText_8 hl (by decide) rfl (fun ls hl => ?_)
  exact b10 FU p1 p2 p3 p4 (0 : Int32) σ1 _ _ _ (lv_sub hl [1, 2, 3, 4, 5, 0] rfl) hw hf
def f_X3_countNights_b72   (σ : MSt) : Option MSt :=
  some σ
def f_X3_countNights_b60  (r2 : Int32 → Int32 → MSt → Option MSt) (r28 : Int32 → Int32 → Int32 → MSt → Option MSt) (x1 : Int32) (x2 : Int32) (x3 : Int32) (σ : MSt) : Option MSt :=
  k_nm (x3 + (1 : Int32)) fun u1 =>
  r28 x1 x2 u1 σ
def f_X3_countNights_b28_s  (r2 : Int32 → Int32 → MSt → Option MSt) (r28 : Int32 → Int32 → Int32 → MSt → Option MSt) (x1 : Int32) (x2 : Int32) (x3 : Int32) (σ : MSt) : Option MSt :=
  if x1 ≤ x3 then
  (k_nm (x2 + (1 : Int32)) fun u1 =>
  r2 x1 u1 σ)
  else
  (k_bd (f_X3_sees x2 ((σ.1 50 3) + x3) σ) fun q3 σ2 =>
  if q3 = 0 then
  (f_X3_countNights_b60 r2 r28 x1 x2 x3 σ2)
  else
  (k_ck (k_inb x2 8) <|
  k_ck (k_inb x2 8) <|
  k_nm (mI σ2 68 (x2).toNatClampNeg ((σ2.1 68 (x2).toNatClampNeg) + (1 : Int32))) fun σ4 =>
  f_X3_countNights_b60 r2 r28 x1 x2 x3 σ4))
def f_X3_countNights_b28  (r2 : Int32 → Int32 → MSt → Option MSt) : Nat → Int32 → Int32 → Int32 → MSt → Option MSt
  | 0 => fun _ _ _ _ => none
  | n + 1 => f_X3_countNights_b28_s r2 (f_X3_countNights_b28 r2 n)
def f_X3_countNights_b2_s  (r2 : Int32 → Int32 → MSt → Option MSt) (x1 : Int32) (x2 : Int32) (σ : MSt) : Option MSt :=
  if (σ.1 10 7) ≤ x2 then
  (f_X3_countNights_b72 σ)
  else
  (if (8 : Int32) ≤ x2 then
  (f_X3_countNights_b72 σ)
  else
  (k_ck (k_inb x2 8) <|
  k_nm (mI σ 68 (x2).toNatClampNeg (0 : Int32)) fun σ1 =>
  f_X3_countNights_b28 r2 FU x1 x2 (0 : Int32) σ1))
def f_X3_countNights_b2  : Nat → Int32 → Int32 → MSt → Option MSt
  | 0 => fun _ _ _ => none
  | n + 1 => f_X3_countNights_b2_s (f_X3_countNights_b2 n)
def f_X3_countNights  (p1 : Int32) (σ : MSt) : Option MSt :=
  f_X3_countNights_b2 FU p1 (0 : Int32) σ
def rmX3_countNights : Room := { frames := 4, cells := 0, slots := 0, locals := 96 }
set_option maxHeartbeats 4000000 in
set_option maxRecDepth 100000 in
theorem c_X3_countNights (l : Launch) (G : va_G) (Y : CY) (w : MSt → va_W) (ad : Nat → Nat)  (LC : LayC ad w Y) (p1 : Int32) (σ : MSt) (σ' : MSt) (hf : f_X3_countNights p1 σ = some σ') : k_Mv l yX3_countNights wsX3_countNights rmX3_countNights G Y w [.ref (ad 67), .int p1] σ σ' := by
  refine k_ofv (own := RX3) (cc := cX3_countNights) (maxL := 4) none (by decide) rfl rfl (Nat.le_of_ble_eq_true rfl) ?_
  intro p e s m below meth c A C ls hl hw
  have hx := C.1
  have hb := C.2.1
  have hown := C.2.2.2.2.1
  have hts := C.2.2.2.2.2.1
  have hks := C.2.2.2.2.2.2.1
  have hl : lv_has ls 4 [(0, .ref (ad 67)), (1, .int p1)] := hl
  have b72 : ∀ (σ : MSt) (H : Heap) (locs : List Loc) (ls : Array Slot), lv_has ls 4 [] → k_W G w A s.heap σ H locs → f_X3_countNights_b72 σ = some σ' → W p l e rmX3_countNights s m [.ref (ad 67), .int p1].toArray below meth c H locs 0 0 (MQ below (k_Qv G w A σ') [.ref (ad 67), .int p1].toArray s 0 0 A) (F0 m 72 ls []) := by
    intro σ H locs ls hl hw hf
    unfold f_X3_countNights_b72 at hf
    exact k_vret C hw hf dX3_countNights_72
  have b2 : ∀ (n2 : Nat) (x1 : Int32) (x2 : Int32) (σ : MSt) (H : Heap) (locs : List Loc) (ls : Array Slot), lv_has ls 4 [(0, .ref (ad 67)), (1, .int x1), (2, .int x2)] → k_W G w A s.heap σ H locs → f_X3_countNights_b2 n2 x1 x2 σ = some σ' → W p l e rmX3_countNights s m [.ref (ad 67), .int p1].toArray below meth c H locs 0 0 (MQ below (k_Qv G w A σ') [.ref (ad 67), .int p1].toArray s 0 0 A) (F0 m 2 ls []) := by
    intro n2
    induction n2 with
    | zero =>
      intro x1 x2 σ H locs ls hl hw hf
      have hf : (none : Option MSt) = some σ' := hf
      cases hf
    | succ n2 ih2 =>
      have b28 : ∀ (n28 : Nat) (x1 : Int32) (x2 : Int32) (x3 : Int32) (σ : MSt) (H : Heap) (locs : List Loc) (ls : Array Slot), lv_has ls 4 [(0, .ref (ad 67)), (1, .int x1), (2, .int x2), (3, .int x3)] → k_W G w A s.heap σ H locs → f_X3_countNights_b28 (f_X3_countNights_b2 n2) n28 x1 x2 x3 σ = some σ' → W p l e rmX3_countNights s m [.ref (ad 67), .int p1].toArray below meth c H locs 0 0 (MQ below (k_Qv G w A σ') [.ref (ad 67), .int p1].toArray s 0 0 A) (F0 m 28 ls []) := by
        intro n28
        induction n28 with
        | zero =>
          intro x1 x2 x3 σ H locs ls hl hw hf
          have hf : (none : Option MSt) = some σ' := hf
          cases hf
        | succ n28 ih28 =>
          have b60 : ∀ (x1 : Int32) (x2 : Int32) (x3 : Int32) (σ : MSt) (H : Heap) (locs : List Loc) (ls : Array Slot), lv_has ls 4 [(0, .ref (ad 67)), (1, .int x1), (2, .int x2), (3, .int x3)] → k_W G w A s.heap σ H locs → f_X3_countNights_b60 (f_X3_countNights_b2 n2) (f_X3_countNights_b28 (f_X3_countNights_b2 n2) n28) x1 x2 x3 σ = some σ' → W p l e rmX3_countNights s m [.ref (ad 67), .int p1].toArray below meth c H locs 0 0 (MQ below (k_Qv G w A σ') [.ref (ad 67), .int p1].toArray s 0 0 A) (F0 m 60 ls []) := by
            intro x1 x2 x3 σ H locs ls hl hw hf
            unfold f_X3_countNights_b60 at hf
            obtain ⟨u1, ex⟩ : ∃ y : Int32, y = (x3 + (1 : Int32)) := ⟨_, rfl⟩
            have hf := k_nmE ex hf
            refine lv_iinc (v := u1) (lv' := [(3, .int u1), (0, .ref (ad 67)), (1, .int x1), (2, .int x2)]) hx hb dX3_countNights_60 hl (k := 3) rfl (by rw [ex]; rfl) (by decide) rfl (fun ls hl => ?_)
            refine lv_goto (tgt := 28) hx hb dX3_countNights_63 (by decide) ?_
            exact ih28 x1 x2 u1 σ _ _ _ (lv_sub hl [1, 2, 3, 0] rfl) hw hf
          intro x1 x2 x3 σ H locs ls hl hw hf
          have hf : f_X3_countNights_b28_s (f_X3_countNights_b2 n2) (f_X3_countNights_b28 (f_X3_countNights_b2 n2) n28) x1 x2 x3 σ = some σ' := hf
          unfold f_X3_countNights_b28_s at hf
          refine lv_iload_n hx hb dX3_countNights_28 rfl (lv_at hl 3 rfl) ?_
          refine lv_iload_n hx hb dX3_countNights_29 rfl (lv_at hl 1 rfl) ?_
          refine lv_icmp_ge (tgt := 66) hx hb dX3_countNights_30 (by decide) (fun h => ?_) (fun h => ?_)
          · have hf := k_ifT h hf
            obtain ⟨u1, ex⟩ : ∃ y : Int32, y = (x2 + (1 : Int32)) := ⟨_, rfl⟩
            have hf := k_nmE ex hf
            refine lv_iinc (v := u1) (lv' := [(2, .int u1), (0, .ref (ad 67)), (1, .int x1), (3, .int x3)]) hx hb dX3_countNights_66 hl (k := 2) rfl (by rw [ex]; rfl) (by decide) rfl (fun ls hl => ?_)
            refine lv_goto (tgt := 2) hx hb dX3_countNights_69 (by decide) ?_
            exact ih2 x1 u1 σ _ _ _ (lv_sub hl [1, 2, 0] rfl) hw hf
          · have hf := k_ifF h hf
            refine lv_aload_n hx hb dX3_countNights_33 rfl (lv_at hl 0 rfl) ?_
            refine lv_iload_n hx hb dX3_countNights_34 rfl (lv_at hl 2 rfl) ?_
            refine lv_aload_n hx hb dX3_countNights_35 rfl (lv_at hl 0 rfl) ?_
            refine k_get C hw (LC_67 LC) (ci := 3) rfl k_in3 1 (by decide) lk3_29 (v := .ref (ad 50)) rfl dX3_countNights_36 ?_
            refine k_getN C hw (LC_50 LC) (ci := 5) rfl k_in5 3 (by decide) ln3_61 (v := .int (σ.1 50 3)) rfl dX3_countNights_39 ?_
            refine lv_iload_n hx hb dX3_countNights_42 rfl (lv_at hl 3 rfl) ?_
            refine lv_iadd hx hb dX3_countNights_43 ?_
            obtain ⟨q3, σ2, hq, hf⟩ := k_bdE hf
            refine k_callVi C hw (c_X3_sees l G Y w ad LC x2 ((σ.1 50 3) + x3) σ q3 σ2 hq) (cwV 2 hts gX3_countNights_X3_sees rfl rfl rfl (by decide +kernel) ⟨Nat.le_of_ble_eq_true rfl, Nat.le_of_ble_eq_true rfl⟩) (k_recv C hw (LC_67 LC) rfl) rfl hl.1 rfl (Nat.le_of_ble_eq_true rfl) dX3_countNights_44 (fun H locs hw => ?_)
            refine lv_if_eq (tgt := 60) hx hb dX3_countNights_47 (by decide) (fun h => ?_) (fun h => ?_)
            · have hf := k_ifT h hf
              exact b60 x1 x2 x3 σ2 _ _ _ (lv_sub hl [0, 1, 2, 3] rfl) hw hf
            · have hf := k_ifF h hf
              refine lv_aload_n hx hb dX3_countNights_50 rfl (lv_at hl 0 rfl) ?_
              refine k_get C hw (LC_67 LC) (ci := 3) rfl k_in3 3 (by decide) lk3_18 (v := .ref (ad 68)) rfl dX3_countNights_51 ?_
              refine lv_iload_n hx hb dX3_countNights_54 rfl (lv_at hl 2 rfl) ?_
              refine lv_dup2_11 hx hb dX3_countNights_55 rfl rfl ?_
              obtain ⟨hi, hf⟩ := k_ckE hf
              refine k_iald C hw (LC_68 LC) hi dX3_countNights_56 ?_
              refine lv_iconst (v := (1 : Int32)) hx hb dX3_countNights_57 (by decide) ?_
              refine lv_iadd hx hb dX3_countNights_58 ?_
              obtain ⟨hi, hf⟩ := k_ckE hf
              refine k_iast C hw (LC_68 LC) hi dX3_countNights_59 (fun σ4 eq H locs hw => ?_)
              have hf := k_nmE eq hf
              exact b60 x1 x2 x3 σ4 _ _ _ (lv_sub hl [0, 1, 2, 3] rfl) hw hf
      intro x1 x2 σ H locs ls hl hw hf
      have hf : f_X3_countNights_b2_s (f_X3_countNights_b2 n2) x1 x2 σ = some σ' := hf
      unfold f_X3_countNights_b2_s at hf
      refine lv_iload_n hx hb dX3_countNights_2 rfl (lv_at hl 2 rfl) ?_
      refine lv_aload_n hx hb dX3_countNights_3 rfl (lv_at hl 0 rfl) ?_
      refine k_get C hw (LC_67 LC) (ci := 3) rfl k_in3 0 (by decide) lk3_25 (v := .ref (ad 10)) rfl dX3_countNights_4 ?_
      refine k_getN C hw (LC_10 LC) (ci := 0) rfl k_in0 7 (by decide) ln3_92 (v := .int (σ.1 10 7)) rfl dX3_countNights_7 ?_
      refine lv_icmp_ge (tgt := 72) hx hb dX3_countNights_10 (by decide) (fun h => ?_) (fun h => ?_)
      · have hf := k_ifT h hf
        exact b72 σ _ _ _ (lv_sub hl [] rfl) hw hf
      · have hf := k_ifF h hf
        refine lv_iload_n hx hb dX3_countNights_13 rfl (lv_at hl 2 rfl) ?_
        refine lv_bipush (v := (8 : Int32)) hx hb dX3_countNights_14 (by decide) ?_
        refine lv_icmp_ge (tgt := 72) hx hb dX3_countNights_16 (by decide) (fun h => ?_) (fun h => ?_)
        · have hf := k_ifT h hf
          exact b72 σ _ _ _ (lv_sub hl [] rfl) hw hf
        · have hf := k_ifF h hf
          refine lv_aload_n hx hb dX3_countNights_19 rfl (lv_at hl 0 rfl) ?_
          refine k_get C hw (LC_67 LC) (ci := 3) rfl k_in3 3 (by decide) lk3_18 (v := .ref (ad 68)) rfl dX3_countNights_20 ?_
          refine lv_iload_n hx hb dX3_countNights_23 rfl (lv_at hl 2 rfl) ?_
          refine lv_iconst (v := (0 : Int32)) hx hb dX3_countNights_24 (by decide) ?_
          obtain ⟨hi, hf⟩ := k_ckE hf
          refine k_iast C hw (LC_68 LC) hi dX3_countNights_25 (fun σ1 eq H locs hw => ?_)
          have hf := k_nmE eq hf
          refine lv_iconst (v := (0 : Int32)) hx hb dX3_countNights_26 (by decide) ?_
          refine lv_istore_n (lv' := [(3, .int (0 : Int32)), (0, .ref (ad 67)), (1, .int x1), (2, .int x2)]) hx hb dX3_countNights_27 rfl hl (by decide) rfl (fun ls hl => ?_)
          exact b28 FU x1 x2 (0 : Int32) σ1 _ _ _ (lv_sub hl [1, 2, 3, 0] rfl) hw hf
  unfold f_X3_countNights at hf
  refine lv_iconst (v := (0 : Int32)) hx hb dX3_countNights_0 (by decide) ?_
  refine lv_istore_n (lv' := [(2, .int (0 : Int32)), (0, .ref (ad 67)), (1, .int p1)]) hx hb dX3_countNights_1 rfl hl (by decide) rfl (fun ls hl => ?_)
  exact b2 FU p1 (0 : Int32) σ _ _ _ (lv_sub hl [1, 2, 0] rfl) hw hf
def f_X3_shareOf_b34  (y0 : Int32) (σ : MSt) : Option (Int32 × MSt) :=
  some (y0, σ)
def f_X3_shareOf_b10   (σ : MSt) : Option (Int32 × MSt) :=
  some ((0 : Int32), σ)
def f_X3_shareOf  (p1 : Int32) (p2 : Int32) (σ : MSt) : Option (Int32 × MSt) :=
  if p1 < 0 then
  (f_X3_shareOf_b10 σ)
  else
  (if p1 < (8 : Int32) then
  (if p1 = p2 then
  (k_ck (k_inb p1 8) <|
  f_X3_shareOf_b34 ((σ.1 68 (p1).toNatClampNeg) / (2 : Int32)) σ)
  else
  (k_ck (k_inb p1 8) <|
  f_X3_shareOf_b34 (σ.1 68 (p1).toNatClampNeg) σ))
  else
  (f_X3_shareOf_b10 σ))
def rmX3_shareOf : Room := { frames := 0, cells := 0, slots := 0, locals := 0 }
set_option maxHeartbeats 4000000 in
set_option maxRecDepth 100000 in
theorem c_X3_shareOf (l : Launch) (G : va_G) (Y : CY) (w : MSt → va_W) (ad : Nat → Nat)  (LC : LayC ad w Y) (p1 : Int32) (p2 : Int32) (σ : MSt) (r : Int32) (σ' : MSt) (hf : f_X3_shareOf p1 p2 σ = some (r, σ')) : k_Mi l yX3_shareOf wsX3_shareOf rmX3_shareOf G Y w [.ref (ad 67), .int p1, .int p2] σ r σ' := by
  refine k_ofi (own := RX3) (cc := cX3_shareOf) (maxL := 3) (some .int) (by decide) rfl rfl (Nat.le_of_ble_eq_true rfl) ?_
  intro p e s m below meth c A C ls hl hw
  have hx := C.1
  have hb := C.2.1
  have hown := C.2.2.2.2.1
  have hts := C.2.2.2.2.2.1
  have hks := C.2.2.2.2.2.2.1
  have hl : lv_has ls 3 [(0, .ref (ad 67)), (1, .int p1), (2, .int p2)] := hl
  have b34 : ∀ (y0 : Int32) (σ : MSt) (H : Heap) (locs : List Loc) (ls : Array Slot), lv_has ls 3 [] → k_W G w A s.heap σ H locs → f_X3_shareOf_b34 y0 σ = some (r, σ') → W p l e rmX3_shareOf s m [.ref (ad 67), .int p1, .int p2].toArray below meth c H locs 0 0 (MQ below (k_Qi G w A r σ') [.ref (ad 67), .int p1, .int p2].toArray s 0 0 A) (F0 m 34 ls [.int y0]) := by
    intro y0 σ H locs ls hl hw hf
    unfold f_X3_shareOf_b34 at hf
    exact k_iret C hw hf dX3_shareOf_34
  have b10 : ∀ (σ : MSt) (H : Heap) (locs : List Loc) (ls : Array Slot), lv_has ls 3 [] → k_W G w A s.heap σ H locs → f_X3_shareOf_b10 σ = some (r, σ') → W p l e rmX3_shareOf s m [.ref (ad 67), .int p1, .int p2].toArray below meth c H locs 0 0 (MQ below (k_Qi G w A r σ') [.ref (ad 67), .int p1, .int p2].toArray s 0 0 A) (F0 m 10 ls []) := by
    intro σ H locs ls hl hw hf
    unfold f_X3_shareOf_b10 at hf
    refine lv_iconst (v := (0 : Int32)) hx hb dX3_shareOf_10 (by decide) ?_
    exact k_iret C hw hf dX3_shareOf_11
  unfold f_X3_shareOf at hf
  refine lv_iload_n hx hb dX3_shareOf_0 rfl (lv_at hl 1 rfl) ?_
  refine lv_if_lt (tgt := 10) hx hb dX3_shareOf_1 (by decide) (fun h => ?_) (fun h => ?_)
  · have hf := k_ifT h hf
    exact b10 σ _ _ _ (lv_sub hl [] rfl) hw hf
  · have hf := k_ifF h hf
    refine lv_iload_n hx hb dX3_shareOf_4 rfl (lv_at hl 1 rfl) ?_
    refine lv_bipush (v := (8 : Int32)) hx hb dX3_shareOf_5 (by decide) ?_
    refine lv_icmp_lt (tgt := 12) hx hb dX3_shareOf_7 (by decide) (fun h => ?_) (fun h => ?_)
    · have hf := k_ifT h hf
      refine lv_iload_n hx hb dX3_shareOf_12 rfl (lv_at hl 1 rfl) ?_
      refine lv_iload_n hx hb dX3_shareOf_13 rfl (lv_at hl 2 rfl) ?_
      refine lv_icmp_ne (tgt := 28) hx hb dX3_shareOf_14 (by decide) (fun h => ?_) (fun h => ?_)
      · have hf := k_ifF h hf
        refine lv_aload_n hx hb dX3_shareOf_28 rfl (lv_at hl 0 rfl) ?_
        refine k_get C hw (LC_67 LC) (ci := 3) rfl k_in3 3 (by decide) lk3_18 (v := .ref (ad 68)) rfl dX3_shareOf_29 ?_
        refine lv_iload_n hx hb dX3_shareOf_32 rfl (lv_at hl 1 rfl) ?_
        obtain ⟨hi, hf⟩ := k_ckE hf
        refine k_iald C hw (LC_68 LC) hi dX3_shareOf_33 ?_
        exact b34 (σ.1 68 (p1).toNatClampNeg) σ _ _ _ (lv_sub hl [] rfl) hw hf
      · have hf := k_ifT h hf
        refine lv_aload_n hx hb dX3_shareOf_17 rfl (lv_at hl 0 rfl) ?_
        refine k_get C hw (LC_67 LC) (ci := 3) rfl k_in3 3 (by decide) lk3_18 (v := .ref (ad 68)) rfl dX3_shareOf_18 ?_
        refine lv_iload_n hx hb dX3_shareOf_21 rfl (lv_at hl 1 rfl) ?_
        obtain ⟨hi, hf⟩ := k_ckE hf
        refine k_iald C hw (LC_68 LC) hi dX3_shareOf_22 ?_
        refine lv_iconst (v := (2 : Int32)) hx hb dX3_shareOf_23 (by decide) ?_
        refine lv_idiv hx hb dX3_shareOf_24 (by decide) ?_
        refine lv_goto (tgt := 34) hx hb dX3_shareOf_25 (by decide) ?_
        exact b34 ((σ.1 68 (p1).toNatClampNeg) / (2 : Int32)) σ _ _ _ (lv_sub hl [] rfl) hw hf
    · have hf := k_ifF h hf
      exact b10 σ _ _ _ (lv_sub hl [] rfl) hw hf
def f_X3_isBestBeside_b42   (σ : MSt) : Option (Int32 × MSt) :=
  some ((1 : Int32), σ)
def f_X3_isBestBeside_b2_s  (r2 : Int32 → Int32 → Int32 → MSt → Option (Int32 × MSt)) (x1 : Int32) (x2 : Int32) (x3 : Int32) (σ : MSt) : Option (Int32 × MSt) :=
  if (σ.1 10 7) ≤ x3 then
  (f_X3_isBestBeside_b42 σ)
  else
  (if (8 : Int32) ≤ x3 then
  (f_X3_isBestBeside_b42 σ)
  else
  (k_bd (f_X3_shareOf x3 x2 σ) fun q2 σ1 =>
  k_bd (f_X3_shareOf x1 x2 σ1) fun q4 σ3 =>
  if q2 ≤ q4 then
  (k_nm (x3 + (1 : Int32)) fun u5 =>
  r2 x1 x2 u5 σ3)
  else
  (some ((0 : Int32), σ3))))
def f_X3_isBestBeside_b2  : Nat → Int32 → Int32 → Int32 → MSt → Option (Int32 × MSt)
  | 0 => fun _ _ _ _ => none
  | n + 1 => f_X3_isBestBeside_b2_s (f_X3_isBestBeside_b2 n)
def f_X3_isBestBeside  (p1 : Int32) (p2 : Int32) (σ : MSt) : Option (Int32 × MSt) :=
  f_X3_isBestBeside_b2 FU p1 p2 (0 : Int32) σ
def rmX3_isBestBeside : Room := { frames := 1, cells := 0, slots := 0, locals := 22 }
set_option maxHeartbeats 4000000 in
set_option maxRecDepth 100000 in
theorem c_X3_isBestBeside (l : Launch) (G : va_G) (Y : CY) (w : MSt → va_W) (ad : Nat → Nat)  (LC : LayC ad w Y) (p1 : Int32) (p2 : Int32) (σ : MSt) (r : Int32) (σ' : MSt) (hf : f_X3_isBestBeside p1 p2 σ = some (r, σ')) : k_Mi l yX3_isBestBeside wsX3_isBestBeside rmX3_isBestBeside G Y w [.ref (ad 67), .int p1, .int p2] σ r σ' := by
  refine k_ofi (own := RX3) (cc := cX3_isBestBeside) (maxL := 4) (some .boolean) (by decide) rfl rfl (Nat.le_of_ble_eq_true rfl) ?_
  intro p e s m below meth c A C ls hl hw
  have hx := C.1
  have hb := C.2.1
  have hown := C.2.2.2.2.1
  have hts := C.2.2.2.2.2.1
  have hks := C.2.2.2.2.2.2.1
  have hl : lv_has ls 4 [(0, .ref (ad 67)), (1, .int p1), (2, .int p2)] := hl
  have b42 : ∀ (σ : MSt) (H : Heap) (locs : List Loc) (ls : Array Slot), lv_has ls 4 [] → k_W G w A s.heap σ H locs → f_X3_isBestBeside_b42 σ = some (r, σ') → W p l e rmX3_isBestBeside s m [.ref (ad 67), .int p1, .int p2].toArray below meth c H locs 0 0 (MQ below (k_Qi G w A r σ') [.ref (ad 67), .int p1, .int p2].toArray s 0 0 A) (F0 m 42 ls []) := by
    intro σ H locs ls hl hw hf
    unfold f_X3_isBestBeside_b42 at hf
    refine lv_iconst (v := (1 : Int32)) hx hb dX3_isBestBeside_42 (by decide) ?_
    exact k_zret C hw rfl hf dX3_isBestBeside_43
  have b2 : ∀ (n2 : Nat) (x1 : Int32) (x2 : Int32) (x3 : Int32) (σ : MSt) (H : Heap) (locs : List Loc) (ls : Array Slot), lv_has ls 4 [(0, .ref (ad 67)), (1, .int x1), (2, .int x2), (3, .int x3)] → k_W G w A s.heap σ H locs → f_X3_isBestBeside_b2 n2 x1 x2 x3 σ = some (r, σ') → W p l e rmX3_isBestBeside s m [.ref (ad 67), .int p1, .int p2].toArray below meth c H locs 0 0 (MQ below (k_Qi G w A r σ') [.ref (ad 67), .int p1, .int p2].toArray s 0 0 A) (F0 m 2 ls []) := by
    intro n2
    induction n2 with
    | zero =>
      intro x1 x2 x3 σ H locs ls hl hw hf
      have hf : (none : Option (Int32 × MSt)) = some (r, σ') := hf
      cases hf
    | succ n2 ih2 =>
      intro x1 x2 x3 σ H locs ls hl hw hf
      have hf : f_X3_isBestBeside_b2_s (f_X3_isBestBeside_b2 n2) x1 x2 x3 σ = some (r, σ') := hf
      unfold f_X3_isBestBeside_b2_s at hf
      refine lv_iload_n hx hb dX3_isBestBeside_2 rfl (lv_at hl 3 rfl) ?_
      refine lv_aload_n hx hb dX3_isBestBeside_3 rfl (lv_at hl 0 rfl) ?_
      refine k_get C hw (LC_67 LC) (ci := 3) rfl k_in3 0 (by decide) lk3_25 (v := .ref (ad 10)) rfl dX3_isBestBeside_4 ?_
      refine k_getN C hw (LC_10 LC) (ci := 0) rfl k_in0 7 (by decide) ln3_92 (v := .int (σ.1 10 7)) rfl dX3_isBestBeside_7 ?_
      refine lv_icmp_ge (tgt := 42) hx hb dX3_isBestBeside_10 (by decide) (fun h => ?_) (fun h => ?_)
      · have hf := k_ifT h hf
        exact b42 σ _ _ _ (lv_sub hl [] rfl) hw hf
      · have hf := k_ifF h hf
        refine lv_iload_n hx hb dX3_isBestBeside_13 rfl (lv_at hl 3 rfl) ?_
        refine lv_bipush (v := (8 : Int32)) hx hb dX3_isBestBeside_14 (by decide) ?_
        refine lv_icmp_ge (tgt := 42) hx hb dX3_isBestBeside_16 (by decide) (fun h => ?_) (fun h => ?_)
        · have hf := k_ifT h hf
          exact b42 σ _ _ _ (lv_sub hl [] rfl) hw hf
        · have hf := k_ifF h hf
          refine lv_aload_n hx hb dX3_isBestBeside_19 rfl (lv_at hl 0 rfl) ?_
          refine lv_iload_n hx hb dX3_isBestBeside_20 rfl (lv_at hl 3 rfl) ?_
          refine lv_iload_n hx hb dX3_isBestBeside_21 rfl (lv_at hl 2 rfl) ?_
          obtain ⟨q2, σ1, hq, hf⟩ := k_bdE hf
          refine k_callVi C hw (c_X3_shareOf l G Y w ad LC x3 x2 σ q2 σ1 hq) (cwV 2 hts gX3_isBestBeside_X3_shareOf rfl rfl rfl (by decide +kernel) ⟨Nat.le_of_ble_eq_true rfl, Nat.le_of_ble_eq_true rfl⟩) (k_recv C hw (LC_67 LC) rfl) rfl hl.1 rfl (Nat.le_of_ble_eq_true rfl) dX3_isBestBeside_22 (fun H locs hw => ?_)
          refine lv_aload_n hx hb dX3_isBestBeside_25 rfl (lv_at hl 0 rfl) ?_
          refine lv_iload_n hx hb dX3_isBestBeside_26 rfl (lv_at hl 1 rfl) ?_
          refine lv_iload_n hx hb dX3_isBestBeside_27 rfl (lv_at hl 2 rfl) ?_
          obtain ⟨q4, σ3, hq, hf⟩ := k_bdE hf
          refine k_callVi C hw (c_X3_shareOf l G Y w ad LC x1 x2 σ1 q4 σ3 hq) (cwV 2 hts gX3_isBestBeside_X3_shareOf rfl rfl rfl (by decide +kernel) ⟨Nat.le_of_ble_eq_true rfl, Nat.le_of_ble_eq_true rfl⟩) (k_recv C hw (LC_67 LC) rfl) rfl hl.1 rfl (Nat.le_of_ble_eq_true rfl) dX3_isBestBeside_28 (fun H locs hw => ?_)
          refine lv_icmp_le (tgt := 36) hx hb dX3_isBestBeside_31 (by decide) (fun h => ?_) (fun h => ?_)
          · have hf := k_ifT h hf
            obtain ⟨u5, ex⟩ : ∃ y : Int32, y = (x3 + (1 : Int32)) := ⟨_, rfl⟩
            have hf := k_nmE ex hf
            refine lv_iinc (v := u5) (lv' := [(3, .int u5), (0, .ref (ad 67)), (1, .int x1), (2, .int x2)]) hx hb dX3_isBestBeside_36 hl (k := 3) rfl (by rw [ex]; rfl) (by decide) rfl (fun ls hl => ?_)
            refine lv_goto (tgt := 2) hx hb dX3_isBestBeside_39 (by decide) ?_
            exact ih2 x1 x2 u5 σ3 _ _ _ (lv_sub hl [1, 2, 3, 0] rfl) hw hf
          · have hf := k_ifF h hf
            refine lv_iconst (v := (0 : Int32)) hx hb dX3_isBestBeside_34 (by decide) ?_
            exact k_zret C hw rfl hf dX3_isBestBeside_35
  unfold f_X3_isBestBeside at hf
  refine lv_iconst (v := (0 : Int32)) hx hb dX3_isBestBeside_0 (by decide) ?_
  refine lv_istore_n (lv' := [(3, .int (0 : Int32)), (0, .ref (ad 67)), (1, .int p1), (2, .int p2)]) hx hb dX3_isBestBeside_1 rfl hl (by decide) rfl (fun ls hl => ?_)
  exact b2 FU p1 p2 (0 : Int32) σ _ _ _ (lv_sub hl [1, 2, 3, 0] rfl) hw hf
def f_X3_findRests_b94  (x1 : Int32) (σ : MSt) : Option (Int32 × MSt) :=
  some (x1, σ)
def f_X3_findRests_b88  (r4 : Int32 → Int32 → MSt → Option (Int32 × MSt)) (x1 : Int32) (x2 : Int32) (σ : MSt) : Option (Int32 × MSt) :=
  k_nm (x2 + (1 : Int32)) fun u1 =>
  r4 x1 u1 σ
def f_X3_findRests_b82  (r4 : Int32 → Int32 → MSt → Option (Int32 × MSt)) (r23 : Int32 → Int32 → Int32 → MSt → Option (Int32 × MSt)) (x1 : Int32) (x2 : Int32) (x3 : Int32) (σ : MSt) : Option (Int32 × MSt) :=
  k_nm (x3 + (1 : Int32)) fun u1 =>
  r23 x1 x2 u1 σ
def f_X3_findRests_b23_s  (r4 : Int32 → Int32 → MSt → Option (Int32 × MSt)) (r23 : Int32 → Int32 → Int32 → MSt → Option (Int32 × MSt)) (x1 : Int32) (x2 : Int32) (x3 : Int32) (σ : MSt) : Option (Int32 × MSt) :=
  if (σ.1 10 7) ≤ x3 then
  (f_X3_findRests_b88 r4 x1 x2 σ)
  else
  (if (8 : Int32) ≤ x3 then
  (f_X3_findRests_b88 r4 x1 x2 σ)
  else
  (k_bd (f_X3_isBestBeside x2 x3 σ) fun q2 σ1 =>
  if q2 = 0 then
  (f_X3_findRests_b82 r4 r23 x1 x2 x3 σ1)
  else
  (k_bd (f_X3_isBestBeside x3 x2 σ1) fun q4 σ3 =>
  if q4 = 0 then
  (f_X3_findRests_b82 r4 r23 x1 x2 x3 σ3)
  else
  (if (64 : Int32) ≤ x1 then
  (f_X3_findRests_b82 r4 r23 x1 x2 x3 σ3)
  else
  (k_ck (k_inb x1 64) <|
  k_nm (mI σ3 69 (x1).toNatClampNeg (((10 : Int32) * x2) + x3)) fun σ5 =>
  k_nm (x1 + (1 : Int32)) fun u6 =>
  f_X3_findRests_b82 r4 r23 u6 x2 x3 σ5)))))
def f_X3_findRests_b23  (r4 : Int32 → Int32 → MSt → Option (Int32 × MSt)) : Nat → Int32 → Int32 → Int32 → MSt → Option (Int32 × MSt)
  | 0 => fun _ _ _ _ => none
  | n + 1 => f_X3_findRests_b23_s r4 (f_X3_findRests_b23 r4 n)
def f_X3_findRests_b4_s  (r4 : Int32 → Int32 → MSt → Option (Int32 × MSt)) (x1 : Int32) (x2 : Int32) (σ : MSt) : Option (Int32 × MSt) :=
  if (σ.1 10 7) ≤ x2 then
  (f_X3_findRests_b94 x1 σ)
  else
  (if (8 : Int32) ≤ x2 then
  (f_X3_findRests_b94 x1 σ)
  else
  (f_X3_findRests_b23 r4 FU x1 x2 (0 : Int32) σ))
def f_X3_findRests_b4  : Nat → Int32 → Int32 → MSt → Option (Int32 × MSt)
  | 0 => fun _ _ _ => none
  | n + 1 => f_X3_findRests_b4_s (f_X3_findRests_b4 n)
def f_X3_findRests   (σ : MSt) : Option (Int32 × MSt) :=
  f_X3_findRests_b4 FU (0 : Int32) (0 : Int32) σ
def rmX3_findRests : Room := { frames := 2, cells := 0, slots := 0, locals := 45 }
set_option maxHeartbeats 4000000 in
set_option maxRecDepth 100000 in
theorem c_X3_findRests (l : Launch) (G : va_G) (Y : CY) (w : MSt → va_W) (ad : Nat → Nat)  (LC : LayC ad w Y)  (σ : MSt) (r : Int32) (σ' : MSt) (hf : f_X3_findRests σ = some (r, σ')) : k_Mi l yX3_findRests wsX3_findRests rmX3_findRests G Y w [.ref (ad 67)] σ r σ' := by
  refine k_ofi (own := RX3) (cc := cX3_findRests) (maxL := 4) (some .int) (by decide) rfl rfl (Nat.le_of_ble_eq_true rfl) ?_
  intro p e s m below meth c A C ls hl hw
  have hx := C.1
  have hb := C.2.1
  have hown := C.2.2.2.2.1
  have hts := C.2.2.2.2.2.1
  have hks := C.2.2.2.2.2.2.1
  have hl : lv_has ls 4 [(0, .ref (ad 67))] := hl
  have b94 : ∀ (x1 : Int32) (σ : MSt) (H : Heap) (locs : List Loc) (ls : Array Slot), lv_has ls 4 [(1, .int x1)] → k_W G w A s.heap σ H locs → f_X3_findRests_b94 x1 σ = some (r, σ') → W p l e rmX3_findRests s m [.ref (ad 67)].toArray below meth c H locs 0 0 (MQ below (k_Qi G w A r σ') [.ref (ad 67)].toArray s 0 0 A) (F0 m 94 ls []) := by
    intro x1 σ H locs ls hl hw hf
    unfold f_X3_findRests_b94 at hf
    refine lv_iload_n hx hb dX3_findRests_94 rfl (lv_at hl 0 rfl) ?_
    exact k_iret C hw hf dX3_findRests_95
  have b4 : ∀ (n4 : Nat) (x1 : Int32) (x2 : Int32) (σ : MSt) (H : Heap) (locs : List Loc) (ls : Array Slot), lv_has ls 4 [(0, .ref (ad 67)), (1, .int x1), (2, .int x2)] → k_W G w A s.heap σ H locs → f_X3_findRests_b4 n4 x1 x2 σ = some (r, σ') → W p l e rmX3_findRests s m [.ref (ad 67)].toArray below meth c H locs 0 0 (MQ below (k_Qi G w A r σ') [.ref (ad 67)].toArray s 0 0 A) (F0 m 4 ls []) := by
    intro n4
    induction n4 with
    | zero =>
      intro x1 x2 σ H locs ls hl hw hf
      have hf : (none : Option (Int32 × MSt)) = some (r, σ') := hf
      cases hf
    | succ n4 ih4 =>
      have b88 : ∀ (x1 : Int32) (x2 : Int32) (σ : MSt) (H : Heap) (locs : List Loc) (ls : Array Slot), lv_has ls 4 [(0, .ref (ad 67)), (1, .int x1), (2, .int x2)] → k_W G w A s.heap σ H locs → f_X3_findRests_b88 (f_X3_findRests_b4 n4) x1 x2 σ = some (r, σ') → W p l e rmX3_findRests s m [.ref (ad 67)].toArray below meth c H locs 0 0 (MQ below (k_Qi G w A r σ') [.ref (ad 67)].toArray s 0 0 A) (F0 m 88 ls []) := by
        intro x1 x2 σ H locs ls hl hw hf
        unfold f_X3_findRests_b88 at hf
        obtain ⟨u1, ex⟩ : ∃ y : Int32, y = (x2 + (1 : Int32)) := ⟨_, rfl⟩
        have hf := k_nmE ex hf
        refine lv_iinc (v := u1) (lv' := [(2, .int u1), (0, .ref (ad 67)), (1, .int x1)]) hx hb dX3_findRests_88 hl (k := 2) rfl (by rw [ex]; rfl) (by decide) rfl (fun ls hl => ?_)
        refine lv_goto (tgt := 4) hx hb dX3_findRests_91 (by decide) ?_
        exact ih4 x1 u1 σ _ _ _ (lv_sub hl [1, 2, 0] rfl) hw hf
      have b23 : ∀ (n23 : Nat) (x1 : Int32) (x2 : Int32) (x3 : Int32) (σ : MSt) (H : Heap) (locs : List Loc) (ls : Array Slot), lv_has ls 4 [(0, .ref (ad 67)), (1, .int x1), (2, .int x2), (3, .int x3)] → k_W G w A s.heap σ H locs → f_X3_findRests_b23 (f_X3_findRests_b4 n4) n23 x1 x2 x3 σ = some (r, σ') → W p l e rmX3_findRests s m [.ref (ad 67)].toArray below meth c H locs 0 0 (MQ below (k_Qi G w A r σ') [.ref (ad 67)].toArray s 0 0 A) (F0 m 23 ls []) := by
        intro n23
        induction n23 with
        | zero =>
          intro x1 x2 x3 σ H locs ls hl hw hf
          have hf : (none : Option (Int32 × MSt)) = some (r, σ') := hf
          cases hf
        | succ n23 ih23 =>
          have b82 : ∀ (x1 : Int32) (x2 : Int32) (x3 : Int32) (σ : MSt) (H : Heap) (locs : List Loc) (ls : Array Slot), lv_has ls 4 [(0, .ref (ad 67)), (1, .int x1), (2, .int x2), (3, .int x3)] → k_W G w A s.heap σ H locs → f_X3_findRests_b82 (f_X3_findRests_b4 n4) (f_X3_findRests_b23 (f_X3_findRests_b4 n4) n23) x1 x2 x3 σ = some (r, σ') → W p l e rmX3_findRests s m [.ref (ad 67)].toArray below meth c H locs 0 0 (MQ below (k_Qi G w A r σ') [.ref (ad 67)].toArray s 0 0 A) (F0 m 82 ls []) := by
            intro x1 x2 x3 σ H locs ls hl hw hf
            unfold f_X3_findRests_b82 at hf
            obtain ⟨u1, ex⟩ : ∃ y : Int32, y = (x3 + (1 : Int32)) := ⟨_, rfl⟩
            have hf := k_nmE ex hf
            refine lv_iinc (v := u1) (lv' := [(3, .int u1), (0, .ref (ad 67)), (1, .int x1), (2, .int x2)]) hx hb dX3_findRests_82 hl (k := 3) rfl (by rw [ex]; rfl) (by decide) rfl (fun ls hl => ?_)
            refine lv_goto (tgt := 23) hx hb dX3_findRests_85 (by decide) ?_
            exact ih23 x1 x2 u1 σ _ _ _ (lv_sub hl [1, 2, 3, 0] rfl) hw hf
          intro x1 x2 x3 σ H locs ls hl hw hf
          have hf : f_X3_findRests_b23_s (f_X3_findRests_b4 n4) (f_X3_findRests_b23 (f_X3_findRests_b4 n4) n23) x1 x2 x3 σ = some (r, σ') := hf
          unfold f_X3_findRests_b23_s at hf
          refine lv_iload_n hx hb dX3_findRests_23 rfl (lv_at hl 3 rfl) ?_
          refine lv_aload_n hx hb dX3_findRests_24 rfl (lv_at hl 0 rfl) ?_
          refine k_get C hw (LC_67 LC) (ci := 3) rfl k_in3 0 (by decide) lk3_25 (v := .ref (ad 10)) rfl dX3_findRests_25 ?_
          refine k_getN C hw (LC_10 LC) (ci := 0) rfl k_in0 7 (by decide) ln3_92 (v := .int (σ.1 10 7)) rfl dX3_findRests_28 ?_
          refine lv_icmp_ge (tgt := 88) hx hb dX3_findRests_31 (by decide) (fun h => ?_) (fun h => ?_)
          · have hf := k_ifT h hf
            exact b88 x1 x2 σ _ _ _ (lv_sub hl [0, 1, 2] rfl) hw hf
          · have hf := k_ifF h hf
            refine lv_iload_n hx hb dX3_findRests_34 rfl (lv_at hl 3 rfl) ?_
            refine lv_bipush (v := (8 : Int32)) hx hb dX3_findRests_35 (by decide) ?_
            refine lv_icmp_ge (tgt := 88) hx hb dX3_findRests_37 (by decide) (fun h => ?_) (fun h => ?_)
            · have hf := k_ifT h hf
              exact b88 x1 x2 σ _ _ _ (lv_sub hl [0, 1, 2] rfl) hw hf
            · have hf := k_ifF h hf
              refine lv_aload_n hx hb dX3_findRests_40 rfl (lv_at hl 0 rfl) ?_
              refine lv_iload_n hx hb dX3_findRests_41 rfl (lv_at hl 2 rfl) ?_
              refine lv_iload_n hx hb dX3_findRests_42 rfl (lv_at hl 3 rfl) ?_
              obtain ⟨q2, σ1, hq, hf⟩ := k_bdE hf
              refine k_callVi C hw (c_X3_isBestBeside l G Y w ad LC x2 x3 σ q2 σ1 hq) (cwV 2 hts gX3_findRests_X3_isBestBeside rfl rfl rfl (by decide +kernel) ⟨Nat.le_of_ble_eq_true rfl, Nat.le_of_ble_eq_true rfl⟩) (k_recv C hw (LC_67 LC) rfl) rfl hl.1 rfl (Nat.le_of_ble_eq_true rfl) dX3_findRests_43 (fun H locs hw => ?_)
              refine lv_if_eq (tgt := 82) hx hb dX3_findRests_46 (by decide) (fun h => ?_) (fun h => ?_)
              · have hf := k_ifT h hf
                exact b82 x1 x2 x3 σ1 _ _ _ (lv_sub hl [0, 1, 2, 3] rfl) hw hf
              · have hf := k_ifF h hf
                refine lv_aload_n hx hb dX3_findRests_49 rfl (lv_at hl 0 rfl) ?_
                refine lv_iload_n hx hb dX3_findRests_50 rfl (lv_at hl 3 rfl) ?_
                refine lv_iload_n hx hb dX3_findRests_51 rfl (lv_at hl 2 rfl) ?_
                obtain ⟨q4, σ3, hq, hf⟩ := k_bdE hf
                refine k_callVi C hw (c_X3_isBestBeside l G Y w ad LC x3 x2 σ1 q4 σ3 hq) (cwV 2 hts gX3_findRests_X3_isBestBeside rfl rfl rfl (by decide +kernel) ⟨Nat.le_of_ble_eq_true rfl, Nat.le_of_ble_eq_true rfl⟩) (k_recv C hw (LC_67 LC) rfl) rfl hl.1 rfl (Nat.le_of_ble_eq_true rfl) dX3_findRests_52 (fun H locs hw => ?_)
                refine lv_if_eq (tgt := 82) hx hb dX3_findRests_55 (by decide) (fun h => ?_) (fun h => ?_)
                · have hf := k_ifT h hf
                  exact b82 x1 x2 x3 σ3 _ _ _ (lv_sub hl [0, 1, 2, 3] rfl) hw hf
                · have hf := k_ifF h hf
                  refine lv_iload_n hx hb dX3_findRests_58 rfl (lv_at hl 1 rfl) ?_
                  refine lv_aload_n hx hb dX3_findRests_59 rfl (lv_at hl 0 rfl) ?_
                  refine k_get C hw (LC_67 LC) (ci := 3) rfl k_in3 4 (by decide) lk3_22 (v := .ref (ad 69)) rfl dX3_findRests_60 ?_
                  refine k_alen C hw (LC_69 LC) (v := (64 : Int32)) (by decide) dX3_findRests_63 ?_
                  refine lv_icmp_ge (tgt := 82) hx hb dX3_findRests_64 (by decide) (fun h => ?_) (fun h => ?_)
                  · have hf := k_ifT h hf
                    exact b82 x1 x2 x3 σ3 _ _ _ (lv_sub hl [0, 1, 2, 3] rfl) hw hf
                  · have hf := k_ifF h hf
                    refine lv_aload_n hx hb dX3_findRests_67 rfl (lv_at hl 0 rfl) ?_
                    refine k_get C hw (LC_67 LC) (ci := 3) rfl k_in3 4 (by decide) lk3_22 (v := .ref (ad 69)) rfl dX3_findRests_68 ?_
                    refine lv_iload_n hx hb dX3_findRests_71 rfl (lv_at hl 1 rfl) ?_
                    refine lv_bipush (v := (10 : Int32)) hx hb dX3_findRests_72 (by decide) ?_
                    refine lv_iload_n hx hb dX3_findRests_74 rfl (lv_at hl 2 rfl) ?_
                    refine lv_imul hx hb dX3_findRests_75 ?_
                    refine lv_iload_n hx hb dX3_findRests_76 rfl (lv_at hl 3 rfl) ?_
                    refine lv_iadd hx hb dX3_findRests_77 ?_
                    obtain ⟨hi, hf⟩ := k_ckE hf
                    refine k_iast C hw (LC_69 LC) hi dX3_findRests_78 (fun σ5 eq H locs hw => ?_)
                    have hf := k_nmE eq hf
                    obtain ⟨u6, ex⟩ : ∃ y : Int32, y = (x1 + (1 : Int32)) := ⟨_, rfl⟩
                    have hf := k_nmE ex hf
                    refine lv_iinc (v := u6) (lv' := [(1, .int u6), (0, .ref (ad 67)), (2, .int x2), (3, .int x3)]) hx hb dX3_findRests_79 hl (k := 1) rfl (by rw [ex]; rfl) (by decide) rfl (fun ls hl => ?_)
                    exact b82 u6 x2 x3 σ5 _ _ _ (lv_sub hl [1, 0, 2, 3] rfl) hw hf
      intro x1 x2 σ H locs ls hl hw hf
      have hf : f_X3_findRests_b4_s (f_X3_findRests_b4 n4) x1 x2 σ = some (r, σ') := hf
      unfold f_X3_findRests_b4_s at hf
      refine lv_iload_n hx hb dX3_findRests_4 rfl (lv_at hl 2 rfl) ?_
      refine lv_aload_n hx hb dX3_findRests_5 rfl (lv_at hl 0 rfl) ?_
      refine k_get C hw (LC_67 LC) (ci := 3) rfl k_in3 0 (by decide) lk3_25 (v := .ref (ad 10)) rfl dX3_findRests_6 ?_
      refine k_getN C hw (LC_10 LC) (ci := 0) rfl k_in0 7 (by decide) ln3_92 (v := .int (σ.1 10 7)) rfl dX3_findRests_9 ?_
      refine lv_icmp_ge (tgt := 94) hx hb dX3_findRests_12 (by decide) (fun h => ?_) (fun h => ?_)
      · have hf := k_ifT h hf
        exact b94 x1 σ _ _ _ (lv_sub hl [1] rfl) hw hf
      · have hf := k_ifF h hf
        refine lv_iload_n hx hb dX3_findRests_15 rfl (lv_at hl 2 rfl) ?_
        refine lv_bipush (v := (8 : Int32)) hx hb dX3_findRests_16 (by decide) ?_
        refine lv_icmp_ge (tgt := 94) hx hb dX3_findRests_18 (by decide) (fun h => ?_) (fun h => ?_)
        · have hf := k_ifT h hf
          exact b94 x1 σ _ _ _ (lv_sub hl [1] rfl) hw hf
        · have hf := k_ifF h hf
          refine lv_iconst (v := (0 : Int32)) hx hb dX3_findRests_21 (by decide) ?_
          refine lv_istore_n (lv' := [(3, .int (0 : Int32)), (0, .ref (ad 67)), (1, .int x1), (2, .int x2)]) hx hb dX3_findRests_22 rfl hl (by decide) rfl (fun ls hl => ?_)
          exact b23 FU x1 x2 (0 : Int32) σ _ _ _ (lv_sub hl [1, 2, 3, 0] rfl) hw hf
  unfold f_X3_findRests at hf
  refine lv_iconst (v := (0 : Int32)) hx hb dX3_findRests_0 (by decide) ?_
  refine lv_istore_n (lv' := [(1, .int (0 : Int32)), (0, .ref (ad 67))]) hx hb dX3_findRests_1 rfl hl (by decide) rfl (fun ls hl => ?_)
  refine lv_iconst (v := (0 : Int32)) hx hb dX3_findRests_2 (by decide) ?_
  refine lv_istore_n (lv' := [(2, .int (0 : Int32)), (1, .int (0 : Int32)), (0, .ref (ad 67))]) hx hb dX3_findRests_3 rfl hl (by decide) rfl (fun ls hl => ?_)
  exact b4 FU (0 : Int32) (0 : Int32) σ _ _ _ (lv_sub hl [2, 1, 0] rfl) hw hf
def f_X4_begin_b19 (o : Nat)  (σ : MSt) : Option MSt :=
  some σ
def f_X4_begin (o : Nat) (p1 : Int32) (σ : MSt) : Option MSt :=
  if p1 < 0 then
  (f_X4_begin_b19 o σ)
  else
  (if (3 : Int32) ≤ p1 then
  (f_X4_begin_b19 o σ)
  else
  (k_ck (k_inb p1 3) <|
  k_nm (mI σ (o + 3) (p1).toNatClampNeg (σ.1 o 5)) fun σ1 =>
  f_X4_begin_b19 o σ1))
def rmX4_begin : Room := { frames := 0, cells := 0, slots := 0, locals := 0 }
set_option maxHeartbeats 4000000 in
set_option maxRecDepth 100000 in
theorem c_X4_begin (l : Launch) (G : va_G) (Y : CY) (w : MSt → va_W) (ad : Nat → Nat) (o : Nat) (Lo : LayX4 ad w Y o) (p1 : Int32) (σ : MSt) (σ' : MSt) (hf : f_X4_begin o p1 σ = some σ') : k_Mv l yX4_begin wsX4_begin rmX4_begin G Y w [.ref (ad o), .int p1] σ σ' := by
  refine k_ofv (own := RX4) (cc := cX4_begin) (maxL := 2) none (by decide) rfl rfl (Nat.le_of_ble_eq_true rfl) ?_
  intro p e s m below meth c A C ls hl hw
  have hx := C.1
  have hb := C.2.1
  have hown := C.2.2.2.2.1
  have hts := C.2.2.2.2.2.1
  have hks := C.2.2.2.2.2.2.1
  have hl : lv_has ls 2 [(0, .ref (ad o)), (1, .int p1)] := hl
  have b19 : ∀ (σ : MSt) (H : Heap) (locs : List Loc) (ls : Array Slot), lv_has ls 2 [] → k_W G w A s.heap σ H locs → f_X4_begin_b19 o σ = some σ' → W p l e rmX4_begin s m [.ref (ad o), .int p1].toArray below meth c H locs 0 0 (MQ below (k_Qv G w A σ') [.ref (ad o), .int p1].toArray s 0 0 A) (F0 m 19 ls []) := by
    intro σ H locs ls hl hw hf
    unfold f_X4_begin_b19 at hf
    exact k_vret C hw hf dX4_begin_19
  unfold f_X4_begin at hf
  refine lv_iload_n hx hb dX4_begin_0 rfl (lv_at hl 1 rfl) ?_
  refine lv_if_lt (tgt := 19) hx hb dX4_begin_1 (by decide) (fun h => ?_) (fun h => ?_)
  · have hf := k_ifT h hf
    exact b19 σ _ _ _ (lv_sub hl [] rfl) hw hf
  · have hf := k_ifF h hf
    refine lv_iload_n hx hb dX4_begin_4 rfl (lv_at hl 1 rfl) ?_
    refine lv_iconst (v := (3 : Int32)) hx hb dX4_begin_5 (by decide) ?_
    refine lv_icmp_ge (tgt := 19) hx hb dX4_begin_6 (by decide) (fun h => ?_) (fun h => ?_)
    · have hf := k_ifT h hf
      exact b19 σ _ _ _ (lv_sub hl [] rfl) hw hf
    · have hf := k_ifF h hf
      refine lv_aload_n hx hb dX4_begin_9 rfl (lv_at hl 0 rfl) ?_
      refine k_get C hw (LX4_o Lo) (ci := 4) rfl k_in4 2 (by decide) lk4_18 (v := .ref (ad (o + 3))) rfl dX4_begin_10 ?_
      refine lv_iload_n hx hb dX4_begin_13 rfl (lv_at hl 1 rfl) ?_
      refine lv_aload_n hx hb dX4_begin_14 rfl (lv_at hl 0 rfl) ?_
      refine k_get C hw (LX4_o Lo) (ci := 4) rfl k_in4 5 (by decide) lk4_28 (v := .int (σ.1 o 5)) rfl dX4_begin_15 ?_
      obtain ⟨hi, hf⟩ := k_ckE hf
      refine k_iast C hw (LX4_3 Lo) hi dX4_begin_18 (fun σ1 eq H locs hw => ?_)
      have hf := k_nmE eq hf
      exact b19 σ1 _ _ _ (lv_sub hl [] rfl) hw hf
