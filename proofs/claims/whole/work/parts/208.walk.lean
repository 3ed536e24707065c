def f_X12_moodBy_b54  (x6 : Int32) (σ : MSt) : Option (Int32 × MSt) :=
  some (x6, σ)
def f_X12_moodBy  (p1 : Int32) (p2 : Int32) (p3 : Int32) (p4 : Int32) (p5 : Int32) (σ : MSt) : Option (Int32 × MSt) :=
  k_bv (f_X12_calls p1 p2 p3 p4 (0 : Int32) p5 σ) fun σ1 =>
  k_ck (k_inb (1 : Int32) 7) <|
  k_nm (((k_lmax (0 : Int64) (k_lmin (100 : Int64) (((10 : Int64) * ((p1).toInt64)) - (σ1.2 15 ((1 : Int32)).toNatClampNeg))))).toInt32) fun u2 =>
  k_bd (f_X12_hasLaw (0 : Int32) σ1) fun q4 σ3 =>
  if q4 = 0 then
  (f_X12_moodBy_b54 u2 σ3)
  else
  (k_bd (f_X12_goes (0 : Int32) σ3) fun q6 σ5 =>
  if q6 = 0 then
  (f_X12_moodBy_b54 u2 σ5)
  else
  (k_ck (k_inb (0 : Int32) 64) <|
  some ((((k_lmax (0 : Int64) (k_lmin (100 : Int64) (σ5.2 16 ((0 : Int32)).toNatClampNeg)))).toInt32), σ5)))
def rmX12_moodBy : Room := { frames := 3, cells := 0, slots := 0, locals := 72 }
set_option maxHeartbeats 4000000 in
set_option maxRecDepth 100000 in
theorem c_X12_moodBy (l : Launch) (G : va_G) (Y : CY) (w : MSt → va_W) (ad : Nat → Nat)  (LM : LayM ad w Y) (p1 : Int32) (p2 : Int32) (p3 : Int32) (p4 : Int32) (p5 : Int32) (σ : MSt) (r : Int32) (σ' : MSt) (hf : f_X12_moodBy p1 p2 p3 p4 p5 σ = some (r, σ')) : k_Mi l yX12_moodBy wsX12_moodBy rmX12_moodBy G Y w [.ref (ad 0), .int p1, .int p2, .int p3, .int p4, .int p5] σ r σ' := by
  refine k_ofi (own := RX12) (cc := cX12_moodBy) (maxL := 7) (some .int) (by decide) rfl rfl (Nat.le_of_ble_eq_true rfl) ?_
  intro p e s m below meth c A C ls hl hw
  have hx := C.1
  have hb := C.2.1
  have hown := C.2.2.2.2.1
  have hts := C.2.2.2.2.2.1
  have hks := C.2.2.2.2.2.2.1
  have hl : lv_has ls 7 [(0, .ref (ad 0)), (1, .int p1), (2, .int p2), (3, .int p3), (4, .int p4), (5, .int p5)] := hl
  have b54 : ∀ (x6 : Int32) (σ : MSt) (H : Heap) (locs : List Loc) (ls : Array Slot), lv_has ls 7 [(6, .int x6)] → k_W G w A s.heap σ H locs → f_X12_moodBy_b54 x6 σ = some (r, σ') → W p l e rmX12_moodBy s m [.ref (ad 0), .int p1, .int p2, .int p3, .int p4, .int p5].toArray below meth c H locs 0 0 (MQ below (k_Qi G w A r σ') [.ref (ad 0), .int p1, .int p2, .int p3, .int p4, .int p5].toArray s 0 0 A) (F0 m 54 ls []) := by
    intro x6 σ H locs ls hl hw hf
    unfold f_X12_moodBy_b54 at hf
    refine lv_iload hx hb dX12_moodBy_54 (lv_at hl 0 rfl) ?_
    exact k_iret C hw hf dX12_moodBy_56
  unfold f_X12_moodBy at hf
  refine lv_aload_n hx hb dX12_moodBy_0 rfl (lv_at hl 0 rfl) ?_
  refine lv_iload_n hx hb dX12_moodBy_1 rfl (lv_at hl 1 rfl) ?_
  refine lv_iload_n hx hb dX12_moodBy_2 rfl (lv_at hl 2 rfl) ?_
  refine lv_iload_n hx hb dX12_moodBy_3 rfl (lv_at hl 3 rfl) ?_
  refine lv_iload hx hb dX12_moodBy_4 (lv_at hl 4 rfl) ?_
  refine lv_iconst (v := (0 : Int32)) hx hb dX12_moodBy_6 (by decide) ?_
  refine lv_iload hx hb dX12_moodBy_7 (lv_at hl 5 rfl) ?_
  obtain ⟨σ1, hq, hf⟩ := k_bvE hf
  refine k_callVv C hw (c_X12_calls l G Y w ad LM p1 p2 p3 p4 (0 : Int32) p5 σ σ1 hq) (cwV 6 hts gX12_moodBy_X12_calls rfl rfl rfl (by decide +kernel) ⟨Nat.le_of_ble_eq_true rfl, Nat.le_of_ble_eq_true rfl⟩) (k_recv C hw (LM_0 LM) rfl) rfl hl.1 rfl (Nat.le_of_ble_eq_true rfl) dX12_moodBy_9 (fun H locs hw => ?_)
  refine lv_lconst (v := (0 : Int64)) hx hb dX12_moodBy_12 (by decide) ?_
  refine lv_ldc2 (v := (100 : Int64)) hx hb hown (hks.ts _ ck12_350) dX12_moodBy_13 ?_
  refine lv_ldc2 (v := (10 : Int64)) hx hb hown (hks.ts _ ck12_352) dX12_moodBy_16 ?_
  refine lv_iload_n hx hb dX12_moodBy_19 rfl (lv_at hl 1 rfl) ?_
  refine lv_i2l (v := ((p1).toInt64)) hx hb dX12_moodBy_20 rfl ?_
  refine lv_lmul hx hb dX12_moodBy_21 ?_
  refine lv_aload_n hx hb dX12_moodBy_22 rfl (lv_at hl 0 rfl) ?_
  refine k_get C hw (LM_0 LM) (ci := 12) rfl k_in12 29 (by decide) lk12_56 (v := .ref (ad 15)) rfl dX12_moodBy_23 ?_
  refine lv_iconst (v := (1 : Int32)) hx hb dX12_moodBy_26 (by decide) ?_
  obtain ⟨hi, hf⟩ := k_ckE hf
  refine k_lald C hw (LM_15 LM) hi dX12_moodBy_27 ?_
  refine lv_lsub hx hb dX12_moodBy_28 ?_
  refine k_mminl C hl.1 ml12_354 ms_Lib_MathLoose_min_long_x mi_Math mc_Lib_MathLoose_min_long_x (Nat.le_of_ble_eq_true rfl) (Nat.le_of_ble_eq_true rfl) dX12_moodBy_29 ?_
  refine k_mmaxl C hl.1 ml12_357 ms_Lib_MathLoose_max_long_x mi_Math mc_Lib_MathLoose_max_long_x (Nat.le_of_ble_eq_true rfl) (Nat.le_of_ble_eq_true rfl) dX12_moodBy_32 ?_
  refine lv_l2i (v := (((k_lmax (0 : Int64) (k_lmin (100 : Int64) (((10 : Int64) * ((p1).toInt64)) - (σ1.2 15 ((1 : Int32)).toNatClampNeg))))).toInt32)) hx hb dX12_moodBy_35 rfl ?_
  refine lv_topi (fun u2 ex => ?_)
  have hf := k_nmE ex hf
  refine lv_istore (lv' := [(6, .int u2), (0, .ref (ad 0)), (1, .int p1), (2, .int p2), (3, .int p3), (4, .int p4), (5, .int p5)]) hx hb dX12_moodBy_36 hl (by decide) rfl (fun ls hl => ?_)
  refine lv_aload_n hx hb dX12_moodBy_38 rfl (lv_at hl 1 rfl) ?_
  refine lv_iconst (v := (0 : Int32)) hx hb dX12_moodBy_39 (by decide) ?_
  obtain ⟨q4, σ3, hq, hf⟩ := k_bdE hf
  refine k_callVi C hw (c_X12_hasLaw l G Y w ad LM (0 : Int32) σ1 q4 σ3 hq) (cwV 1 hts gX12_moodBy_X12_hasLaw rfl rfl rfl (by decide +kernel) ⟨Nat.le_of_ble_eq_true rfl, Nat.le_of_ble_eq_true rfl⟩) (k_recv C hw (LM_0 LM) rfl) rfl hl.1 rfl (Nat.le_of_ble_eq_true rfl) dX12_moodBy_40 (fun H locs hw => ?_)
  refine lv_if_eq (tgt := 54) hx hb dX12_moodBy_43 (by decide) (fun h => ?_) (fun h => ?_)
  · have hf := k_ifT h hf
    exact b54 u2 σ3 _ _ _ (lv_sub hl [0] rfl) hw hf
  · have hf := k_ifF h hf
    refine lv_aload_n hx hb dX12_moodBy_46 rfl (lv_at hl 1 rfl) ?_
    refine lv_iconst (v := (0 : Int32)) hx hb dX12_moodBy_47 (by decide) ?_
    obtain ⟨q6, σ5, hq, hf⟩ := k_bdE hf
    refine k_callVi C hw (c_X12_goes l G Y w ad LM (0 : Int32) σ3 q6 σ5 hq) (cwV 1 hts gX12_moodBy_X12_goes rfl rfl rfl (by decide +kernel) ⟨Nat.le_of_ble_eq_true rfl, Nat.le_of_ble_eq_true rfl⟩) (k_recv C hw (LM_0 LM) rfl) rfl hl.1 rfl (Nat.le_of_ble_eq_true rfl) dX12_moodBy_48 (fun H locs hw => ?_)
    refine lv_if_ne (tgt := 57) hx hb dX12_moodBy_51 (by decide) (fun h => ?_) (fun h => ?_)
    · have hf := k_ifF h hf
      refine lv_lconst (v := (0 : Int64)) hx hb dX12_moodBy_57 (by decide) ?_
      refine lv_ldc2 (v := (100 : Int64)) hx hb hown (hks.ts _ ck12_350) dX12_moodBy_58 ?_
      refine lv_aload_n hx hb dX12_moodBy_61 rfl (lv_at hl 1 rfl) ?_
      refine k_get C hw (LM_0 LM) (ci := 12) rfl k_in12 30 (by decide) lk12_60 (v := .ref (ad 16)) rfl dX12_moodBy_62 ?_
      refine lv_iconst (v := (0 : Int32)) hx hb dX12_moodBy_65 (by decide) ?_
      obtain ⟨hi, hf⟩ := k_ckE hf
      refine k_lald C hw (LM_16 LM) hi dX12_moodBy_66 ?_
      refine k_mminl C hl.1 ml12_354 ms_Lib_MathLoose_min_long_x mi_Math mc_Lib_MathLoose_min_long_x (Nat.le_of_ble_eq_true rfl) (Nat.le_of_ble_eq_true rfl) dX12_moodBy_67 ?_
      refine k_mmaxl C hl.1 ml12_357 ms_Lib_MathLoose_max_long_x mi_Math mc_Lib_MathLoose_max_long_x (Nat.le_of_ble_eq_true rfl) (Nat.le_of_ble_eq_true rfl) dX12_moodBy_70 ?_
      refine lv_l2i (v := (((k_lmax (0 : Int64) (k_lmin (100 : Int64) (σ5.2 16 ((0 : Int32)).toNatClampNeg)))).toInt32)) hx hb dX12_moodBy_73 rfl ?_
      exact k_iret C hw hf dX12_moodBy_74
    · have hf := k_ifT h hf
      exact b54 u2 σ5 _ _ _ (lv_sub hl [0] rfl) hw hf
def f_X12_holdsBy_b80  (y0 : Int32) (σ : MSt) : Option (Int32 × MSt) :=
  k_ck (k_bo y0) <|
  some (y0, σ)
def f_X12_holdsBy_b61  (x4 : Int32) (x6 : Int32) (σ : MSt) : Option (Int32 × MSt) :=
  k_bd (f_X12_galeOf x4 σ) fun q2 σ1 =>
  if x6 < ((10 : Int32) * q2) then
  (f_X12_holdsBy_b80 (0 : Int32) σ1)
  else
  (f_X12_holdsBy_b80 (1 : Int32) σ1)
def f_X12_holdsBy  (p1 : Int32) (p2 : Int32) (p3 : Int32) (p4 : Int32) (p5 : Int32) (σ : MSt) : Option (Int32 × MSt) :=
  k_bd (f_X12_moodBy p1 p2 p3 p4 p5 σ) fun q4 σ3 =>
  k_bv (f_X12_calls p1 p2 p3 p4 q4 p5 σ3) fun σ5 =>
  k_bd (f_X12_hasLaw (1 : Int32) σ5) fun q7 σ6 =>
  if q7 = 0 then
  (f_X12_holdsBy_b61 p4 q4 σ6)
  else
  (k_bd (f_X12_goes (1 : Int32) σ6) fun q9 σ8 =>
  if q9 = 0 then
  (f_X12_holdsBy_b61 p4 q4 σ8)
  else
  (k_ck (k_inb (0 : Int32) 64) <|
  if (lg_cmp (σ8.2 16 ((0 : Int32)).toNatClampNeg) (0 : Int64)) = 0 then
  (f_X12_holdsBy_b80 (0 : Int32) σ8)
  else
  (f_X12_holdsBy_b80 (1 : Int32) σ8)))
def rmX12_holdsBy : Room := { frames := 4, cells := 0, slots := 0, locals := 98 }
set_option maxHeartbeats 4000000 in
set_option maxRecDepth 100000 in
theorem c_X12_holdsBy (l : Launch) (G : va_G) (Y : CY) (w : MSt → va_W) (ad : Nat → Nat)  (LM : LayM ad w Y) (p1 : Int32) (p2 : Int32) (p3 : Int32) (p4 : Int32) (p5 : Int32) (σ : MSt) (r : Int32) (σ' : MSt) (hf : f_X12_holdsBy p1 p2 p3 p4 p5 σ = some (r, σ')) : k_Mi l yX12_holdsBy wsX12_holdsBy rmX12_holdsBy G Y w [.ref (ad 0), .int p1, .int p2, .int p3, .int p4, .int p5] σ r σ' := by
  refine k_ofi (own := RX12) (cc := cX12_holdsBy) (maxL := 7) (some .boolean) (by decide) rfl rfl (Nat.le_of_ble_eq_true rfl) ?_
  intro p e s m below meth c A C ls hl hw
  have hx := C.1
  have hb := C.2.1
  have hown := C.2.2.2.2.1
  have hts := C.2.2.2.2.2.1
  have hks := C.2.2.2.2.2.2.1
  have hl : lv_has ls 7 [(0, .ref (ad 0)), (1, .int p1), (2, .int p2), (3, .int p3), (4, .int p4), (5, .int p5)] := hl
  have b80 : ∀ (y0 : Int32) (σ : MSt) (H : Heap) (locs : List Loc) (ls : Array Slot), lv_has ls 7 [] → k_W G w A s.heap σ H locs → f_X12_holdsBy_b80 y0 σ = some (r, σ') → W p l e rmX12_holdsBy s m [.ref (ad 0), .int p1, .int p2, .int p3, .int p4, .int p5].toArray below meth c H locs 0 0 (MQ below (k_Qi G w A r σ') [.ref (ad 0), .int p1, .int p2, .int p3, .int p4, .int p5].toArray s 0 0 A) (F0 m 80 ls [.int y0]) := by
    intro y0 σ H locs ls hl hw hf
    unfold f_X12_holdsBy_b80 at hf
    obtain ⟨hz, hf⟩ := k_ckE hf
    exact k_zret C hw (k_boE hz).1 hf dX12_holdsBy_80
  have b61 : ∀ (x4 : Int32) (x6 : Int32) (σ : MSt) (H : Heap) (locs : List Loc) (ls : Array Slot), lv_has ls 7 [(0, .ref (ad 0)), (4, .int x4), (6, .int x6)] → k_W G w A s.heap σ H locs → f_X12_holdsBy_b61 x4 x6 σ = some (r, σ') → W p l e rmX12_holdsBy s m [.ref (ad 0), .int p1, .int p2, .int p3, .int p4, .int p5].toArray below meth c H locs 0 0 (MQ below (k_Qi G w A r σ') [.ref (ad 0), .int p1, .int p2, .int p3, .int p4, .int p5].toArray s 0 0 A) (F0 m 61 ls []) := by
    intro x4 x6 σ H locs ls hl hw hf
    unfold f_X12_holdsBy_b61 at hf
    refine lv_iload hx hb dX12_holdsBy_61 (lv_at hl 2 rfl) ?_
    refine lv_bipush (v := (10 : Int32)) hx hb dX12_holdsBy_63 (by decide) ?_
    refine lv_aload_n hx hb dX12_holdsBy_65 rfl (lv_at hl 0 rfl) ?_
    refine lv_iload hx hb dX12_holdsBy_66 (lv_at hl 1 rfl) ?_
    obtain ⟨q2, σ1, hq, hf⟩ := k_bdE hf
    refine k_callVi C hw (c_X12_galeOf l G Y w ad LM x4 σ q2 σ1 hq) (cwV 1 hts gX12_holdsBy_X12_galeOf rfl rfl rfl (by decide +kernel) ⟨Nat.le_of_ble_eq_true rfl, Nat.le_of_ble_eq_true rfl⟩) (k_recv C hw (LM_0 LM) rfl) rfl hl.1 rfl (Nat.le_of_ble_eq_true rfl) dX12_holdsBy_68 (fun H locs hw => ?_)
    refine lv_imul hx hb dX12_holdsBy_71 ?_
    refine lv_icmp_lt (tgt := 79) hx hb dX12_holdsBy_72 (by decide) (fun h => ?_) (fun h => ?_)
    · have hf := k_ifT h hf
      refine lv_iconst (v := (0 : Int32)) hx hb dX12_holdsBy_79 (by decide) ?_
      exact b80 (0 : Int32) σ1 _ _ _ (lv_sub hl [] rfl) hw hf
    · have hf := k_ifF h hf
      refine lv_iconst (v := (1 : Int32)) hx hb dX12_holdsBy_75 (by decide) ?_
      refine lv_goto (tgt := 80) hx hb dX12_holdsBy_76 (by decide) ?_
      exact b80 (1 : Int32) σ1 _ _ _ (lv_sub hl [] rfl) hw hf
  unfold f_X12_holdsBy at hf
  refine lv_aload_n hx hb dX12_holdsBy_0 rfl (lv_at hl 0 rfl) ?_
  refine lv_iload_n hx hb dX12_holdsBy_1 rfl (lv_at hl 1 rfl) ?_
  refine lv_iload_n hx hb dX12_holdsBy_2 rfl (lv_at hl 2 rfl) ?_
  refine lv_iload_n hx hb dX12_holdsBy_3 rfl (lv_at hl 3 rfl) ?_
  refine lv_iload hx hb dX12_holdsBy_4 (lv_at hl 4 rfl) ?_
  refine lv_iload hx hb dX12_holdsBy_6 (lv_at hl 5 rfl) ?_
  obtain ⟨q4, σ3, hq, hf⟩ := k_bdE hf
  refine k_callVi C hw (c_X12_moodBy l G Y w ad LM p1 p2 p3 p4 p5 σ q4 σ3 hq) (cwV 5 hts gX12_holdsBy_X12_moodBy rfl rfl rfl (by decide +kernel) ⟨Nat.le_of_ble_eq_true rfl, Nat.le_of_ble_eq_true rfl⟩) (k_recv C hw (LM_0 LM) rfl) rfl hl.1 rfl (Nat.le_of_ble_eq_true rfl) dX12_holdsBy_8 (fun H locs hw => ?_)
  refine lv_istore (lv' := [(6, .int q4), (0, .ref (ad 0)), (1, .int p1), (2, .int p2), (3, .int p3), (4, .int p4), (5, .int p5)]) hx hb dX12_holdsBy_11 hl (by decide) rfl (fun ls hl => ?_)
  refine lv_aload_n hx hb dX12_holdsBy_13 rfl (lv_at hl 1 rfl) ?_
  refine lv_iload_n hx hb dX12_holdsBy_14 rfl (lv_at hl 2 rfl) ?_
  refine lv_iload_n hx hb dX12_holdsBy_15 rfl (lv_at hl 3 rfl) ?_
  refine lv_iload_n hx hb dX12_holdsBy_16 rfl (lv_at hl 4 rfl) ?_
  refine lv_iload hx hb dX12_holdsBy_17 (lv_at hl 5 rfl) ?_
  refine lv_iload hx hb dX12_holdsBy_19 (lv_at hl 0 rfl) ?_
  refine lv_iload hx hb dX12_holdsBy_21 (lv_at hl 6 rfl) ?_
  obtain ⟨σ5, hq, hf⟩ := k_bvE hf
  refine k_callVv C hw (c_X12_calls l G Y w ad LM p1 p2 p3 p4 q4 p5 σ3 σ5 hq) (cwV 6 hts gX12_holdsBy_X12_calls rfl rfl rfl (by decide +kernel) ⟨Nat.le_of_ble_eq_true rfl, Nat.le_of_ble_eq_true rfl⟩) (k_recv C hw (LM_0 LM) rfl) rfl hl.1 rfl (Nat.le_of_ble_eq_true rfl) dX12_holdsBy_23 (fun H locs hw => ?_)
  refine lv_aload_n hx hb dX12_holdsBy_26 rfl (lv_at hl 1 rfl) ?_
  refine lv_iconst (v := (1 : Int32)) hx hb dX12_holdsBy_27 (by decide) ?_
  obtain ⟨q7, σ6, hq, hf⟩ := k_bdE hf
  refine k_callVi C hw (c_X12_hasLaw l G Y w ad LM (1 : Int32) σ5 q7 σ6 hq) (cwV 1 hts gX12_holdsBy_X12_hasLaw rfl rfl rfl (by decide +kernel) ⟨Nat.le_of_ble_eq_true rfl, Nat.le_of_ble_eq_true rfl⟩) (k_recv C hw (LM_0 LM) rfl) rfl hl.1 rfl (Nat.le_of_ble_eq_true rfl) dX12_holdsBy_28 (fun H locs hw => ?_)
  refine lv_if_eq (tgt := 61) hx hb dX12_holdsBy_31 (by decide) (fun h => ?_) (fun h => ?_)
  · have hf := k_ifT h hf
    exact b61 p4 q4 σ6 _ _ _ (lv_sub hl [1, 5, 0] rfl) hw hf
  · have hf := k_ifF h hf
    refine lv_aload_n hx hb dX12_holdsBy_34 rfl (lv_at hl 1 rfl) ?_
    refine lv_iconst (v := (1 : Int32)) hx hb dX12_holdsBy_35 (by decide) ?_
    obtain ⟨q9, σ8, hq, hf⟩ := k_bdE hf
    refine k_callVi C hw (c_X12_goes l G Y w ad LM (1 : Int32) σ6 q9 σ8 hq) (cwV 1 hts gX12_holdsBy_X12_goes rfl rfl rfl (by decide +kernel) ⟨Nat.le_of_ble_eq_true rfl, Nat.le_of_ble_eq_true rfl⟩) (k_recv C hw (LM_0 LM) rfl) rfl hl.1 rfl (Nat.le_of_ble_eq_true rfl) dX12_holdsBy_36 (fun H locs hw => ?_)
    refine lv_if_eq (tgt := 61) hx hb dX12_holdsBy_39 (by decide) (fun h => ?_) (fun h => ?_)
    · have hf := k_ifT h hf
      exact b61 p4 q4 σ8 _ _ _ (lv_sub hl [1, 5, 0] rfl) hw hf
    · have hf := k_ifF h hf
      refine lv_aload_n hx hb dX12_holdsBy_42 rfl (lv_at hl 1 rfl) ?_
      refine k_get C hw (LM_0 LM) (ci := 12) rfl k_in12 30 (by decide) lk12_60 (v := .ref (ad 16)) rfl dX12_holdsBy_43 ?_
      refine lv_iconst (v := (0 : Int32)) hx hb dX12_holdsBy_46 (by decide) ?_
      obtain ⟨hi, hf⟩ := k_ckE hf
      refine k_lald C hw (LM_16 LM) hi dX12_holdsBy_47 ?_
      refine lv_lconst (v := (0 : Int64)) hx hb dX12_holdsBy_48 (by decide) ?_
      refine W.lcmp hx hb dX12_holdsBy_49 ?_
      refine lv_if_eq (tgt := 57) hx hb dX12_holdsBy_50 (by decide) (fun h => ?_) (fun h => ?_)
      · have hf := k_ifT h hf
        refine lv_iconst (v := (0 : Int32)) hx hb dX12_holdsBy_57 (by decide) ?_
        refine lv_goto (tgt := 80) hx hb dX12_holdsBy_58 (by decide) ?_
        exact b80 (0 : Int32) σ8 _ _ _ (lv_sub hl [] rfl) hw hf
      · have hf := k_ifF h hf
        refine lv_iconst (v := (1 : Int32)) hx hb dX12_holdsBy_53 (by decide) ?_
        refine lv_goto (tgt := 80) hx hb dX12_holdsBy_54 (by decide) ?_
        exact b80 (1 : Int32) σ8 _ _ _ (lv_sub hl [] rfl) hw hf
def f_X12_adds  (p1 : Int32) (p2 : Int32) (σ : MSt) : Option MSt :=
  k_nm (mI σ 0 51 (k_min (9999 : Int32) ((σ.1 0 51) + p1))) fun σ1 =>
  k_nm (mI σ1 0 52 ((σ1.1 0 52) + (1 : Int32))) fun σ2 =>
  k_nm (mI σ2 0 53 (k_max (σ2.1 0 53) p2)) fun σ3 =>
  some σ3
def rmX12_adds : Room := { frames := 1, cells := 0, slots := 0, locals := 23 }
set_option maxHeartbeats 4000000 in
set_option maxRecDepth 100000 in
theorem c_X12_adds (l : Launch) (G : va_G) (Y : CY) (w : MSt → va_W) (ad : Nat → Nat)  (LM : LayM ad w Y) (p1 : Int32) (p2 : Int32) (σ : MSt) (σ' : MSt) (hf : f_X12_adds p1 p2 σ = some σ') : k_Mv l yX12_adds wsX12_adds rmX12_adds G Y w [.ref (ad 0), .int p1, .int p2] σ σ' := by
  refine k_ofv (own := RX12) (cc := cX12_adds) (maxL := 3) none (by decide) rfl rfl (Nat.le_of_ble_eq_true rfl) ?_
  intro p e s m below meth c A C ls hl hw
  have hx := C.1
  have hb := C.2.1
  have hown := C.2.2.2.2.1
  have hts := C.2.2.2.2.2.1
  have hks := C.2.2.2.2.2.2.1
  have hl : lv_has ls 3 [(0, .ref (ad 0)), (1, .int p1), (2, .int p2)] := hl
  unfold f_X12_adds at hf
  refine lv_aload_n hx hb dX12_adds_0 rfl (lv_at hl 0 rfl) ?_
  refine lv_sipush (v := (9999 : Int32)) hx hb dX12_adds_1 (by decide) ?_
  refine lv_aload_n hx hb dX12_adds_4 rfl (lv_at hl 0 rfl) ?_
  refine k_get C hw (LM_0 LM) (ci := 12) rfl k_in12 51 (by decide) lk12_370 (v := .int (σ.1 0 51)) rfl dX12_adds_5 ?_
  refine lv_iload_n hx hb dX12_adds_8 rfl (lv_at hl 1 rfl) ?_
  refine lv_iadd hx hb dX12_adds_9 ?_
  refine k_mmin C hl.1 ml12_340 ms_Lib_Math_min_name mi_Math mc_Lib_Math_min_name (Nat.le_of_ble_eq_true rfl) (Nat.le_of_ble_eq_true rfl) dX12_adds_10 ?_
  refine k_put C hw (LM_0 LM) (ci := 12) rfl k_in12 tyX12 tyX12_ok nmX12 51 (by decide) lk12_370 rfl ⟨rfl, rfl⟩ rfl dX12_adds_13 (fun σ1 eq H locs hw => ?_)
  have hf := k_nmE eq hf
  refine lv_aload_n hx hb dX12_adds_16 rfl (lv_at hl 0 rfl) ?_
  refine lv_dup hx hb dX12_adds_17 rfl ?_
  refine k_get C hw (LM_0 LM) (ci := 12) rfl k_in12 52 (by decide) lk12_373 (v := .int (σ1.1 0 52)) rfl dX12_adds_18 ?_
  refine lv_iconst (v := (1 : Int32)) hx hb dX12_adds_21 (by decide) ?_
  refine lv_iadd hx hb dX12_adds_22 ?_
  refine k_put C hw (LM_0 LM) (ci := 12) rfl k_in12 tyX12 tyX12_ok nmX12 52 (by decide) lk12_373 rfl ⟨rfl, rfl⟩ rfl dX12_adds_23 (fun σ2 eq H locs hw => ?_)
  have hf := k_nmE eq hf
  refine lv_aload_n hx hb dX12_adds_26 rfl (lv_at hl 0 rfl) ?_
  refine lv_aload_n hx hb dX12_adds_27 rfl (lv_at hl 0 rfl) ?_
  refine k_get C hw (LM_0 LM) (ci := 12) rfl k_in12 53 (by decide) lk12_376 (v := .int (σ2.1 0 53)) rfl dX12_adds_28 ?_
  refine lv_iload_n hx hb dX12_adds_31 rfl (lv_at hl 2 rfl) ?_
  refine k_mmax C hl.1 ml12_385 ms_Lib_Math_max_name mi_Math mc_Lib_Math_max_name (Nat.le_of_ble_eq_true rfl) (Nat.le_of_ble_eq_true rfl) dX12_adds_32 ?_
  refine k_put C hw (LM_0 LM) (ci := 12) rfl k_in12 tyX12 tyX12_ok nmX12 53 (by decide) lk12_376 rfl ⟨rfl, rfl⟩ rfl dX12_adds_35 (fun σ3 eq H locs hw => ?_)
  have hf := k_nmE eq hf
  exact k_vret C hw hf dX12_adds_38
def f_X12_foresees_b132  (r66 : Int32 → Int32 → Int32 → Int32 → MSt → Option MSt) (x1 : Int32) (x2 : Int32) (x3 : Int32) (x5 : Int32) (σ : MSt) : Option MSt :=
  k_nm (x5 + (1 : Int32)) fun u1 =>
  r66 x1 x2 x3 u1 σ
def f_X12_foresees_b66_s  (r66 : Int32 → Int32 → Int32 → Int32 → MSt → Option MSt) (x1 : Int32) (x2 : Int32) (x3 : Int32) (x5 : Int32) (σ : MSt) : Option MSt :=
  k_ck (k_inb (2 : Int32) 18) <|
  if (σ.1 2 ((2 : Int32)).toNatClampNeg) ≤ x5 then
  (some σ)
  else
  (k_ck (k_inb x5 24) <|
  if (σ.1 7 (x5).toNatClampNeg) = x2 then
  (k_ck (k_inb x5 24) <|
  k_ck (k_inb x1 24) <|
  if (σ.1 8 (x5).toNatClampNeg) < (σ.1 17 (x1).toNatClampNeg) then
  (f_X12_foresees_b132 r66 x1 x2 x3 x5 σ)
  else
  (k_ck (k_inb x5 24) <|
  if x3 < (σ.1 8 (x5).toNatClampNeg) then
  (f_X12_foresees_b132 r66 x1 x2 x3 x5 σ)
  else
  (k_bd (f_X12_joyIn x5 σ) fun q2 σ1 =>
  k_ck (k_inb x5 24) <|
  k_bv (f_X12_adds q2 (σ1.1 8 (x5).toNatClampNeg) σ1) fun σ3 =>
  f_X12_foresees_b132 r66 x1 x2 x3 x5 σ3)))
  else
  (f_X12_foresees_b132 r66 x1 x2 x3 x5 σ))
def f_X12_foresees_b66  : Nat → Int32 → Int32 → Int32 → Int32 → MSt → Option MSt
  | 0 => fun _ _ _ _ _ => none
  | n + 1 => f_X12_foresees_b66_s (f_X12_foresees_b66 n)
def f_X12_foresees_b63  (x1 : Int32) (x2 : Int32) (x3 : Int32) (σ : MSt) : Option MSt :=
  f_X12_foresees_b66 FU x1 x2 x3 (0 : Int32) σ
def f_X12_foresees  (p1 : Int32) (p2 : Int32) (p3 : Int32) (p4 : Int32) (σ : MSt) : Option MSt :=
  k_ck (k_inb (((8 : Int32) * p1) + p2) 192) <|
  k_nm (mI σ 0 51 (σ.1 26 ((((8 : Int32) * p1) + p2)).toNatClampNeg)) fun σ1 =>
  k_ck (k_inb (((8 : Int32) * p1) + p2) 192) <|
  k_nm (mI σ1 0 52 (σ1.1 27 ((((8 : Int32) * p1) + p2)).toNatClampNeg)) fun σ2 =>
  k_ck (k_inb (((8 : Int32) * p1) + p2) 192) <|
  k_nm (mI σ2 0 53 (σ2.1 28 ((((8 : Int32) * p1) + p2)).toNatClampNeg)) fun σ3 =>
  if p4 = (-1 : Int32) then
  (f_X12_foresees_b63 p1 p2 p3 σ3)
  else
  (k_ck (k_inb p1 24) <|
  k_bv (f_X12_adds p4 (σ3.1 17 (p1).toNatClampNeg) σ3) fun σ4 =>
  f_X12_foresees_b63 p1 p2 p3 σ4)
def rmX12_foresees : Room := { frames := 2, cells := 0, slots := 0, locals := 45 }
set_option maxHeartbeats 4000000 in
set_option maxRecDepth 100000 in
theorem c_X12_foresees (l : Launch) (G : va_G) (Y : CY) (w : MSt → va_W) (ad : Nat → Nat)  (LM : LayM ad w Y) (p1 : Int32) (p2 : Int32) (p3 : Int32) (p4 : Int32) (σ : MSt) (σ' : MSt) (hf : f_X12_foresees p1 p2 p3 p4 σ = some σ') : k_Mv l yX12_foresees wsX12_foresees rmX12_foresees G Y w [.ref (ad 0), .int p1, .int p2, .int p3, .int p4] σ σ' := by
  refine k_ofv (own := RX12) (cc := cX12_foresees) (maxL := 6) none (by decide) rfl rfl (Nat.le_of_ble_eq_true rfl) ?_
  intro p e s m below meth c A C ls hl hw
  have hx := C.1
  have hb := C.2.1
  have hown := C.2.2.2.2.1
  have hts := C.2.2.2.2.2.1
  have hks := C.2.2.2.2.2.2.1
  have hl : lv_has ls 6 [(0, .ref (ad 0)), (1, .int p1), (2, .int p2), (3, .int p3), (4, .int p4)] := hl
  have b66 : ∀ (n66 : Nat) (x1 : Int32) (x2 : Int32) (x3 : Int32) (x5 : Int32) (σ : MSt) (H : Heap) (locs : List Loc) (ls : Array Slot), lv_has ls 6 [(0, .ref (ad 0)), (1, .int x1), (2, .int x2), (3, .int x3), (5, .int x5)] → k_W G w A s.heap σ H locs → f_X12_foresees_b66 n66 x1 x2 x3 x5 σ = some σ' → W p l e rmX12_foresees s m [.ref (ad 0), .int p1, .int p2, .int p3, .int p4].toArray below meth c H locs 0 0 (MQ below (k_Qv G w A σ') [.ref (ad 0), .int p1, .int p2, .int p3, .int p4].toArray s 0 0 A) (F0 m 66 ls []) := by
    intro n66
    induction n66 with
    | zero =>
      intro x1 x2 x3 x5 σ H locs ls hl hw hf
      have hf : (none : Option MSt) = some σ' := hf
      cases hf
    | succ n66 ih66 =>
      have b132 : ∀ (x1 : Int32) (x2 : Int32) (x3 : Int32) (x5 : Int32) (σ : MSt) (H : Heap) (locs : List Loc) (ls : Array Slot), lv_has ls 6 [(0, .ref (ad 0)), (1, .int x1), (2, .int x2), (3, .int x3), (5, .int x5)] → k_W G w A s.heap σ H locs → f_X12_foresees_b132 (f_X12_foresees_b66 n66) x1 x2 x3 x5 σ = some σ' → W p l e rmX12_foresees s m [.ref (ad 0), .int p1, .int p2, .int p3, .int p4].toArray below meth c H locs 0 0 (MQ below (k_Qv G w A σ') [.ref (ad 0), .int p1, .int p2, .int p3, .int p4].toArray s 0 0 A) (F0 m 132 ls []) := by
        intro x1 x2 x3 x5 σ H locs ls hl hw hf
        unfold f_X12_foresees_b132 at hf
        obtain ⟨u1, ex⟩ : ∃ y : Int32, y = (x5 + (1 : Int32)) := ⟨_, rfl⟩
        have hf := k_nmE ex hf
        refine lv_iinc (v := u1) (lv' := [(5, .int u1), (0, .ref (ad 0)), (1, .int x1), (2, .int x2), (3, .int x3)]) hx hb dX12_foresees_132 hl (k := 4) rfl (by rw [ex]; rfl) (by decide) rfl (fun ls hl => ?_)
        refine lv_goto (tgt := 66) hx hb dX12_foresees_135 (by decide) ?_
        exact ih66 x1 x2 x3 u1 σ _ _ _ (lv_sub hl [1, 2, 3, 4, 0] rfl) hw hf
      intro x1 x2 x3 x5 σ H locs ls hl hw hf
      have hf : f_X12_foresees_b66_s (f_X12_foresees_b66 n66) x1 x2 x3 x5 σ = some σ' := hf
      unfold f_X12_foresees_b66_s at hf
      refine lv_iload hx hb dX12_foresees_66 (lv_at hl 4 rfl) ?_
      refine lv_aload_n hx hb dX12_foresees_68 rfl (lv_at hl 0 rfl) ?_
      refine k_get C hw (LM_0 LM) (ci := 12) rfl k_in12 3 (by decide) lk12_13 (v := .ref (ad 2)) rfl dX12_foresees_69 ?_
      refine lv_iconst (v := (2 : Int32)) hx hb dX12_foresees_72 (by decide) ?_
      obtain ⟨hi, hf⟩ := k_ckE hf
      refine k_iald C hw (LM_2 LM) hi dX12_foresees_73 ?_
      refine lv_icmp_ge (tgt := 138) hx hb dX12_foresees_74 (by decide) (fun h => ?_) (fun h => ?_)
      · have hf := k_ifT h hf
        exact k_vret C hw hf dX12_foresees_138
      · have hf := k_ifF h hf
        refine lv_aload_n hx hb dX12_foresees_77 rfl (lv_at hl 0 rfl) ?_
        refine k_get C hw (LM_0 LM) (ci := 12) rfl k_in12 8 (by decide) lk12_28 (v := .ref (ad 7)) rfl dX12_foresees_78 ?_
        refine lv_iload hx hb dX12_foresees_81 (lv_at hl 4 rfl) ?_
        obtain ⟨hi, hf⟩ := k_ckE hf
        refine k_iald C hw (LM_7 LM) hi dX12_foresees_83 ?_
        refine lv_iload_n hx hb dX12_foresees_84 rfl (lv_at hl 2 rfl) ?_
        refine lv_icmp_ne (tgt := 132) hx hb dX12_foresees_85 (by decide) (fun h => ?_) (fun h => ?_)
        · have hf := k_ifF h hf
          exact b132 x1 x2 x3 x5 σ _ _ _ (lv_sub hl [0, 1, 2, 3, 4] rfl) hw hf
        · have hf := k_ifT h hf
          refine lv_aload_n hx hb dX12_foresees_88 rfl (lv_at hl 0 rfl) ?_
          refine k_get C hw (LM_0 LM) (ci := 12) rfl k_in12 9 (by decide) lk12_31 (v := .ref (ad 8)) rfl dX12_foresees_89 ?_
          refine lv_iload hx hb dX12_foresees_92 (lv_at hl 4 rfl) ?_
          obtain ⟨hi, hf⟩ := k_ckE hf
          refine k_iald C hw (LM_8 LM) hi dX12_foresees_94 ?_
          refine lv_aload_n hx hb dX12_foresees_95 rfl (lv_at hl 0 rfl) ?_
          refine k_get C hw (LM_0 LM) (ci := 12) rfl k_in12 32 (by decide) lk12_63 (v := .ref (ad 17)) rfl dX12_foresees_96 ?_
          refine lv_iload_n hx hb dX12_foresees_99 rfl (lv_at hl 1 rfl) ?_
          obtain ⟨hi, hf⟩ := k_ckE hf
          refine k_iald C hw (LM_17 LM) hi dX12_foresees_100 ?_
          refine lv_icmp_lt (tgt := 132) hx hb dX12_foresees_101 (by decide) (fun h => ?_) (fun h => ?_)
          · have hf := k_ifT h hf
            exact b132 x1 x2 x3 x5 σ _ _ _ (lv_sub hl [0, 1, 2, 3, 4] rfl) hw hf
          · have hf := k_ifF h hf
            refine lv_aload_n hx hb dX12_foresees_104 rfl (lv_at hl 0 rfl) ?_
            refine k_get C hw (LM_0 LM) (ci := 12) rfl k_in12 9 (by decide) lk12_31 (v := .ref (ad 8)) rfl dX12_foresees_105 ?_
            refine lv_iload hx hb dX12_foresees_108 (lv_at hl 4 rfl) ?_
            obtain ⟨hi, hf⟩ := k_ckE hf
            refine k_iald C hw (LM_8 LM) hi dX12_foresees_110 ?_
            refine lv_iload_n hx hb dX12_foresees_111 rfl (lv_at hl 3 rfl) ?_
            refine lv_icmp_gt (tgt := 132) hx hb dX12_foresees_112 (by decide) (fun h => ?_) (fun h => ?_)
            · have hf := k_ifT h hf
              exact b132 x1 x2 x3 x5 σ _ _ _ (lv_sub hl [0, 1, 2, 3, 4] rfl) hw hf
            · have hf := k_ifF h hf
              refine lv_aload_n hx hb dX12_foresees_115 rfl (lv_at hl 0 rfl) ?_
              refine lv_aload_n hx hb dX12_foresees_116 rfl (lv_at hl 0 rfl) ?_
              refine lv_iload hx hb dX12_foresees_117 (lv_at hl 4 rfl) ?_
              obtain ⟨q2, σ1, hq, hf⟩ := k_bdE hf
              refine k_callVi C hw (c_X12_joyIn l G Y w ad LM x5 σ q2 σ1 hq) (cwV 1 hts gX12_foresees_X12_joyIn rfl rfl rfl (by decide +kernel) ⟨Nat.le_of_ble_eq_true rfl, Nat.le_of_ble_eq_true rfl⟩) (k_recv C hw (LM_0 LM) rfl) rfl hl.1 rfl (Nat.le_of_ble_eq_true rfl) dX12_foresees_119 (fun H locs hw => ?_)
              refine lv_aload_n hx hb dX12_foresees_122 rfl (lv_at hl 0 rfl) ?_
              refine k_get C hw (LM_0 LM) (ci := 12) rfl k_in12 9 (by decide) lk12_31 (v := .ref (ad 8)) rfl dX12_foresees_123 ?_
              refine lv_iload hx hb dX12_foresees_126 (lv_at hl 4 rfl) ?_
              obtain ⟨hi, hf⟩ := k_ckE hf
              refine k_iald C hw (LM_8 LM) hi dX12_foresees_128 ?_
              obtain ⟨σ3, hq, hf⟩ := k_bvE hf
              refine k_callVv C hw (c_X12_adds l G Y w ad LM q2 (σ1.1 8 (x5).toNatClampNeg) σ1 σ3 hq) (cwV 2 hts gX12_foresees_X12_adds rfl rfl rfl (by decide +kernel) ⟨Nat.le_of_ble_eq_true rfl, Nat.le_of_ble_eq_true rfl⟩) (k_recv C hw (LM_0 LM) rfl) rfl hl.1 rfl (Nat.le_of_ble_eq_true rfl) dX12_foresees_129 (fun H locs hw => ?_)
              exact b132 x1 x2 x3 x5 σ3 _ _ _ (lv_sub hl [0, 1, 2, 3, 4] rfl) hw hf
  have b63 : ∀ (x1 : Int32) (x2 : Int32) (x3 : Int32) (σ : MSt) (H : Heap) (locs : List Loc) (ls : Array Slot), lv_has ls 6 [(0, .ref (ad 0)), (1, .int x1), (2, .int x2), (3, .int x3)] → k_W G w A s.heap σ H locs → f_X12_foresees_b63 x1 x2 x3 σ = some σ' → W p l e rmX12_foresees s m [.ref (ad 0), .int p1, .int p2, .int p3, .int p4].toArray below meth c H locs 0 0 (MQ below (k_Qv G w A σ') [.ref (ad 0), .int p1, .int p2, .int p3, .int p4].toArray s 0 0 A) (F0 m 63 ls []) := by
    intro x1 x2 x3 σ H locs ls hl hw hf
    unfold f_X12_foresees_b63 at hf
    refine lv_iconst (v := (0 : Int32)) hx hb dX12_foresees_63 (by decide) ?_
    refine lv_istore (lv' := [(5, .int (0 : Int32)), (0, .ref (ad 0)), (1, .int x1), (2, .int x2), (3, .int x3)]) hx hb dX12_foresees_64 hl (by decide) rfl (fun ls hl => ?_)
    exact b66 FU x1 x2 x3 (0 : Int32) σ _ _ _ (lv_sub hl [1, 2, 3, 4, 0] rfl) hw hf
  unfold f_X12_foresees at hf
  refine lv_aload_n hx hb dX12_foresees_0 rfl (lv_at hl 0 rfl) ?_
  refine lv_aload_n hx hb dX12_foresees_1 rfl (lv_at hl 0 rfl) ?_
  refine k_get C hw (LM_0 LM) (ci := 12) rfl k_in12 41 (by decide) lk12_90 (v := .ref (ad 26)) rfl dX12_foresees_2 ?_
  refine lv_bipush (v := (8 : Int32)) hx hb dX12_foresees_5 (by decide) ?_
  refine lv_iload_n hx hb dX12_foresees_7 rfl (lv_at hl 1 rfl) ?_
  refine lv_imul hx hb dX12_foresees_8 ?_
  refine lv_iload_n hx hb dX12_foresees_9 rfl (lv_at hl 2 rfl) ?_
  refine lv_iadd hx hb dX12_foresees_10 ?_
  obtain ⟨hi, hf⟩ := k_ckE hf
  refine k_iald C hw (LM_26 LM) hi dX12_foresees_11 ?_
  refine k_put C hw (LM_0 LM) (ci := 12) rfl k_in12 tyX12 tyX12_ok nmX12 51 (by decide) lk12_370 rfl ⟨rfl, rfl⟩ rfl dX12_foresees_12 (fun σ1 eq H locs hw => ?_)
  have hf := k_nmE eq hf
  refine lv_aload_n hx hb dX12_foresees_15 rfl (lv_at hl 0 rfl) ?_
  refine lv_aload_n hx hb dX12_foresees_16 rfl (lv_at hl 0 rfl) ?_
  refine k_get C hw (LM_0 LM) (ci := 12) rfl k_in12 42 (by decide) lk12_93 (v := .ref (ad 27)) rfl dX12_foresees_17 ?_
  refine lv_bipush (v := (8 : Int32)) hx hb dX12_foresees_20 (by decide) ?_
  refine lv_iload_n hx hb dX12_foresees_22 rfl (lv_at hl 1 rfl) ?_
  refine lv_imul hx hb dX12_foresees_23 ?_
  refine lv_iload_n hx hb dX12_foresees_24 rfl (lv_at hl 2 rfl) ?_
  refine lv_iadd hx hb dX12_foresees_25 ?_
  obtain ⟨hi, hf⟩ := k_ckE hf
  refine k_iald C hw (LM_27 LM) hi dX12_foresees_26 ?_
  refine k_put C hw (LM_0 LM) (ci := 12) rfl k_in12 tyX12 tyX12_ok nmX12 52 (by decide) lk12_373 rfl ⟨rfl, rfl⟩ rfl dX12_foresees_27 (fun σ2 eq H locs hw => ?_)
  have hf := k_nmE eq hf
  refine lv_aload_n hx hb dX12_foresees_30 rfl (lv_at hl 0 rfl) ?_
  refine lv_aload_n hx hb dX12_foresees_31 rfl (lv_at hl 0 rfl) ?_
  refine k_get C hw (LM_0 LM) (ci := 12) rfl k_in12 43 (by decide) lk12_96 (v := .ref (ad 28)) rfl dX12_foresees_32 ?_
  refine lv_bipush (v := (8 : Int32)) hx hb dX12_foresees_35 (by decide) ?_
  refine lv_iload_n hx hb dX12_foresees_37 rfl (lv_at hl 1 rfl) ?_
  refine lv_imul hx hb dX12_foresees_38 ?_
  refine lv_iload_n hx hb dX12_foresees_39 rfl (lv_at hl 2 rfl) ?_
  refine lv_iadd hx hb dX12_foresees_40 ?_
  obtain ⟨hi, hf⟩ := k_ckE hf
  refine k_iald C hw (LM_28 LM) hi dX12_foresees_41 ?_
  refine k_put C hw (LM_0 LM) (ci := 12) rfl k_in12 tyX12 tyX12_ok nmX12 53 (by decide) lk12_376 rfl ⟨rfl, rfl⟩ rfl dX12_foresees_42 (fun σ3 eq H locs hw => ?_)
  have hf := k_nmE eq hf
  refine lv_iload hx hb dX12_foresees_45 (lv_at hl 4 rfl) ?_
  refine lv_iconst (v := (-1 : Int32)) hx hb dX12_foresees_47 (by decide) ?_
  refine lv_icmp_eq (tgt := 63) hx hb dX12_foresees_48 (by decide) (fun h => ?_) (fun h => ?_)
  · have hf := k_ifT h hf
    exact b63 p1 p2 p3 σ3 _ _ _ (lv_sub hl [0, 1, 2, 3] rfl) hw hf
  · have hf := k_ifF h hf
    refine lv_aload_n hx hb dX12_foresees_51 rfl (lv_at hl 0 rfl) ?_
    refine lv_iload hx hb dX12_foresees_52 (lv_at hl 4 rfl) ?_
    refine lv_aload_n hx hb dX12_foresees_54 rfl (lv_at hl 0 rfl) ?_
    refine k_get C hw (LM_0 LM) (ci := 12) rfl k_in12 32 (by decide) lk12_63 (v := .ref (ad 17)) rfl dX12_foresees_55 ?_
    refine lv_iload_n hx hb dX12_foresees_58 rfl (lv_at hl 1 rfl) ?_
    obtain ⟨hi, hf⟩ := k_ckE hf
    refine k_iald C hw (LM_17 LM) hi dX12_foresees_59 ?_
    obtain ⟨σ4, hq, hf⟩ := k_bvE hf
    refine k_callVv C hw (c_X12_adds l G Y w ad LM p4 (σ3.1 17 (p1).toNatClampNeg) σ3 σ4 hq) (cwV 2 hts gX12_foresees_X12_adds rfl rfl rfl (by decide +kernel) ⟨Nat.le_of_ble_eq_true rfl, Nat.le_of_ble_eq_true rfl⟩) (k_recv C hw (LM_0 LM) rfl) rfl hl.1 rfl (Nat.le_of_ble_eq_true rfl) dX12_foresees_60 (fun H locs hw => ?_)
    exact b63 p1 p2 p3 σ4 _ _ _ (lv_sub hl [0, 1, 2, 3] rfl) hw hf
def f_X12_willHold  (p1 : Int32) (p2 : Int32) (p3 : Int32) (p4 : Int32) (σ : MSt) : Option (Int32 × MSt) :=
  k_bv (f_X12_foresees p1 p2 p3 p4 σ) fun σ1 =>
  k_bd (f_X12_holdsBy (σ1.1 0 51) (σ1.1 0 52) (σ1.1 0 53) p3 (0 : Int32) σ1) fun q3 σ2 =>
  k_ck (k_bo q3) <|
  some (q3, σ2)
def rmX12_willHold : Room := { frames := 5, cells := 0, slots := 0, locals := 124 }
set_option maxHeartbeats 4000000 in
set_option maxRecDepth 100000 in
theorem c_X12_willHold (l : Launch) (G : va_G) (Y : CY) (w : MSt → va_W) (ad : Nat → Nat)  (LM : LayM ad w Y) (p1 : Int32) (p2 : Int32) (p3 : Int32) (p4 : Int32) (σ : MSt) (r : Int32) (σ' : MSt) (hf : f_X12_willHold p1 p2 p3 p4 σ = some (r, σ')) : k_Mi l yX12_willHold wsX12_willHold rmX12_willHold G Y w [.ref (ad 0), .int p1, .int p2, .int p3, .int p4] σ r σ' := by
  refine k_ofi (own := RX12) (cc := cX12_willHold) (maxL := 5) (some .boolean) (by decide) rfl rfl (Nat.le_of_ble_eq_true rfl) ?_
  intro p e s m below meth c A C ls hl hw
  have hx := C.1
  have hb := C.2.1
  have hown := C.2.2.2.2.1
  have hts := C.2.2.2.2.2.1
  have hks := C.2.2.2.2.2.2.1
  have hl : lv_has ls 5 [(0, .ref (ad 0)), (1, .int p1), (2, .int p2), (3, .int p3), (4, .int p4)] := hl
  unfold f_X12_willHold at hf
  refine lv_aload_n hx hb dX12_willHold_0 rfl (lv_at hl 0 rfl) ?_
  refine lv_iload_n hx hb dX12_willHold_1 rfl (lv_at hl 1 rfl) ?_
  refine lv_iload_n hx hb dX12_willHold_2 rfl (lv_at hl 2 rfl) ?_
  refine lv_iload_n hx hb dX12_willHold_3 rfl (lv_at hl 3 rfl) ?_
  refine lv_iload hx hb dX12_willHold_4 (lv_at hl 4 rfl) ?_
  obtain ⟨σ1, hq, hf⟩ := k_bvE hf
  refine k_callVv C hw (c_X12_foresees l G Y w ad LM p1 p2 p3 p4 σ σ1 hq) (cwV 4 hts gX12_willHold_X12_foresees rfl rfl rfl (by decide +kernel) ⟨Nat.le_of_ble_eq_true rfl, Nat.le_of_ble_eq_true rfl⟩) (k_recv C hw (LM_0 LM) rfl) rfl hl.1 rfl (Nat.le_of_ble_eq_true rfl) dX12_willHold_6 (fun H locs hw => ?_)
  refine lv_aload_n hx hb dX12_willHold_9 rfl (lv_at hl 0 rfl) ?_
  refine lv_aload_n hx hb dX12_willHold_10 rfl (lv_at hl 0 rfl) ?_
  refine k_get C hw (LM_0 LM) (ci := 12) rfl k_in12 51 (by decide) lk12_370 (v := .int (σ1.1 0 51)) rfl dX12_willHold_11 ?_
  refine lv_aload_n hx hb dX12_willHold_14 rfl (lv_at hl 0 rfl) ?_
  refine k_get C hw (LM_0 LM) (ci := 12) rfl k_in12 52 (by decide) lk12_373 (v := .int (σ1.1 0 52)) rfl dX12_willHold_15 ?_
  refine lv_aload_n hx hb dX12_willHold_18 rfl (lv_at hl 0 rfl) ?_
  refine k_get C hw (LM_0 LM) (ci := 12) rfl k_in12 53 (by decide) lk12_376 (v := .int (σ1.1 0 53)) rfl dX12_willHold_19 ?_
  refine lv_iload_n hx hb dX12_willHold_22 rfl (lv_at hl 3 rfl) ?_
  refine lv_iconst (v := (0 : Int32)) hx hb dX12_willHold_23 (by decide) ?_
  obtain ⟨q3, σ2, hq, hf⟩ := k_bdE hf
  refine k_callVi C hw (c_X12_holdsBy l G Y w ad LM (σ1.1 0 51) (σ1.1 0 52) (σ1.1 0 53) p3 (0 : Int32) σ1 q3 σ2 hq) (cwV 5 hts gX12_willHold_X12_holdsBy rfl rfl rfl (by decide +kernel) ⟨Nat.le_of_ble_eq_true rfl, Nat.le_of_ble_eq_true rfl⟩) (k_recv C hw (LM_0 LM) rfl) rfl hl.1 rfl (Nat.le_of_ble_eq_true rfl) dX12_willHold_24 (fun H locs hw => ?_)
  obtain ⟨hz, hf⟩ := k_ckE hf
  exact k_zret C hw (k_boE hz).1 hf dX12_willHold_27
def f_X12_remembers  (p1 : Int32) (p2 : Int32) (p3 : Int32) (σ : MSt) : Option MSt :=
  k_nm (((8 : Int32) * p1) + p2) fun u1 =>
  k_ck (k_inb u1 192) <|
  k_ck (k_inb u1 192) <|
  k_nm (mI σ 26 (u1).toNatClampNeg (k_min (9999 : Int32) ((σ.1 26 (u1).toNatClampNeg) + p3))) fun σ2 =>
  k_ck (k_inb u1 192) <|
  k_ck (k_inb u1 192) <|
  k_nm (mI σ2 27 (u1).toNatClampNeg ((σ2.1 27 (u1).toNatClampNeg) + (1 : Int32))) fun σ3 =>
  k_ck (k_inb p1 24) <|
  k_ck (k_inb u1 192) <|
  k_nm (mI σ3 28 (u1).toNatClampNeg (σ3.1 17 (p1).toNatClampNeg)) fun σ4 =>
  some σ4
def rmX12_remembers : Room := { frames := 1, cells := 0, slots := 0, locals := 23 }
set_option maxHeartbeats 4000000 in
set_option maxRecDepth 100000 in
theorem c_X12_remembers (l : Launch) (G : va_G) (Y : CY) (w : MSt → va_W) (ad : Nat → Nat)  (LM : LayM ad w Y) (p1 : Int32) (p2 : Int32) (p3 : Int32) (σ : MSt) (σ' : MSt) (hf : f_X12_remembers p1 p2 p3 σ = some σ') : k_Mv l yX12_remembers wsX12_remembers rmX12_remembers G Y w [.ref (ad 0), .int p1, .int p2, .int p3] σ σ' := by
  refine k_ofv (own := RX12) (cc := cX12_remembers) (maxL := 5) none (by decide) rfl rfl (Nat.le_of_ble_eq_true rfl) ?_
  intro p e s m below meth c A C ls hl hw
  have hx := C.1
  have hb := C.2.1
  have hown := C.2.2.2.2.1
  have hts := C.2.2.2.2.2.1
  have hks := C.2.2.2.2.2.2.1
  have hl : lv_has ls 5 [(0, .ref (ad 0)), (1, .int p1), (2, .int p2), (3, .int p3)] := hl
  unfold f_X12_remembers at hf
  refine lv_bipush (v := (8 : Int32)) hx hb dX12_remembers_0 (by decide) ?_
  refine lv_iload_n hx hb dX12_remembers_2 rfl (lv_at hl 1 rfl) ?_
  refine lv_imul hx hb dX12_remembers_3 ?_
  refine lv_iload_n hx hb dX12_remembers_4 rfl (lv_at hl 2 rfl) ?_
  refine lv_iadd hx hb dX12_remembers_5 ?_
  refine lv_topi (fun u1 ex => ?_)
  have hf := k_nmE ex hf
  refine lv_istore (lv' := [(4, .int u1), (0, .ref (ad 0)), (1, .int p1), (2, .int p2), (3, .int p3)]) hx hb dX12_remembers_6 hl (by decide) rfl (fun ls hl => ?_)
  refine lv_aload_n hx hb dX12_remembers_8 rfl (lv_at hl 1 rfl) ?_
  refine k_get C hw (LM_0 LM) (ci := 12) rfl k_in12 41 (by decide) lk12_90 (v := .ref (ad 26)) rfl dX12_remembers_9 ?_
  refine lv_iload hx hb dX12_remembers_12 (lv_at hl 0 rfl) ?_
  refine lv_sipush (v := (9999 : Int32)) hx hb dX12_remembers_14 (by decide) ?_
  refine lv_aload_n hx hb dX12_remembers_17 rfl (lv_at hl 1 rfl) ?_
  refine k_get C hw (LM_0 LM) (ci := 12) rfl k_in12 41 (by decide) lk12_90 (v := .ref (ad 26)) rfl dX12_remembers_18 ?_
  refine lv_iload hx hb dX12_remembers_21 (lv_at hl 0 rfl) ?_
  obtain ⟨hi, hf⟩ := k_ckE hf
  refine k_iald C hw (LM_26 LM) hi dX12_remembers_23 ?_
  refine lv_iload_n hx hb dX12_remembers_24 rfl (lv_at hl 4 rfl) ?_
  refine lv_iadd hx hb dX12_remembers_25 ?_
  refine k_mmin C hl.1 ml12_340 ms_Lib_Math_min_name mi_Math mc_Lib_Math_min_name (Nat.le_of_ble_eq_true rfl) (Nat.le_of_ble_eq_true rfl) dX12_remembers_26 ?_
  obtain ⟨hi, hf⟩ := k_ckE hf
  refine k_iast C hw (LM_26 LM) hi dX12_remembers_29 (fun σ2 eq H locs hw => ?_)
  have hf := k_nmE eq hf
  refine lv_aload_n hx hb dX12_remembers_30 rfl (lv_at hl 1 rfl) ?_
  refine k_get C hw (LM_0 LM) (ci := 12) rfl k_in12 42 (by decide) lk12_93 (v := .ref (ad 27)) rfl dX12_remembers_31 ?_
  refine lv_iload hx hb dX12_remembers_34 (lv_at hl 0 rfl) ?_
  refine lv_dup2_11 hx hb dX12_remembers_36 rfl rfl ?_
  obtain ⟨hi, hf⟩ := k_ckE hf
  refine k_iald C hw (LM_27 LM) hi dX12_remembers_37 ?_
  refine lv_iconst (v := (1 : Int32)) hx hb dX12_remembers_38 (by decide) ?_
  refine lv_iadd hx hb dX12_remembers_39 ?_
  obtain ⟨hi, hf⟩ := k_ckE hf
  refine k_iast C hw (LM_27 LM) hi dX12_remembers_40 (fun σ3 eq H locs hw => ?_)
  have hf := k_nmE eq hf
  refine lv_aload_n hx hb dX12_remembers_41 rfl (lv_at hl 1 rfl) ?_
  refine k_get C hw (LM_0 LM) (ci := 12) rfl k_in12 43 (by decide) lk12_96 (v := .ref (ad 28)) rfl dX12_remembers_42 ?_
  refine lv_iload hx hb dX12_remembers_45 (lv_at hl 0 rfl) ?_
  refine lv_aload_n hx hb dX12_remembers_47 rfl (lv_at hl 1 rfl) ?_
  refine k_get C hw (LM_0 LM) (ci := 12) rfl k_in12 32 (by decide) lk12_63 (v := .ref (ad 17)) rfl dX12_remembers_48 ?_
  refine lv_iload_n hx hb dX12_remembers_51 rfl (lv_at hl 2 rfl) ?_
  obtain ⟨hi, hf⟩ := k_ckE hf
  refine k_iald C hw (LM_17 LM) hi dX12_remembers_52 ?_
  obtain ⟨hi, hf⟩ := k_ckE hf
  refine k_iast C hw (LM_28 LM) hi dX12_remembers_53 (fun σ4 eq H locs hw => ?_)
  have hf := k_nmE eq hf
  exact k_vret C hw hf dX12_remembers_54
def f_X12_gainOf_b106  (y0 : Int32) (σ : MSt) : Option (Int32 × MSt) :=
  some (y0, σ)
def f_X12_gainOf_b105   (σ : MSt) : Option (Int32 × MSt) :=
  f_X12_gainOf_b106 (1 : Int32) σ
def f_X12_gainOf  (p1 : Int32) (p2 : Int32) (σ : MSt) : Option (Int32 × MSt) :=
  k_nm (((8 : Int32) * p1) + p2) fun u1 =>
  k_ck (k_inb u1 192) <|
  k_ck (k_inb u1 192) <|
  k_ck (k_inb u1 192) <|
  k_ck (k_inb p1 24) <|
  k_bd (f_X12_moodBy (σ.1 26 (u1).toNatClampNeg) (σ.1 27 (u1).toNatClampNeg) (σ.1 28 (u1).toNatClampNeg) (σ.1 17 (p1).toNatClampNeg) (1 : Int32) σ) fun q3 σ2 =>
  k_ck (k_inb u1 192) <|
  k_ck (k_inb u1 192) <|
  k_ck (k_inb u1 192) <|
  k_ck (k_inb p1 24) <|
  k_bv (f_X12_calls (σ2.1 26 (u1).toNatClampNeg) (σ2.1 27 (u1).toNatClampNeg) (σ2.1 28 (u1).toNatClampNeg) (σ2.1 17 (p1).toNatClampNeg) q3 (1 : Int32) σ2) fun σ4 =>
  k_bd (f_X12_hasLaw (2 : Int32) σ4) fun q6 σ5 =>
  if q6 = 0 then
  (f_X12_gainOf_b105 σ5)
  else
  (k_bd (f_X12_goes (2 : Int32) σ5) fun q8 σ7 =>
  if q8 = 0 then
  (f_X12_gainOf_b105 σ7)
  else
  (k_ck (k_inb (0 : Int32) 64) <|
  f_X12_gainOf_b106 (((k_lmax (0 : Int64) (k_lmin (9 : Int64) (σ7.2 16 ((0 : Int32)).toNatClampNeg)))).toInt32) σ7))
def rmX12_gainOf : Room := { frames := 4, cells := 0, slots := 0, locals := 98 }
set_option maxHeartbeats 4000000 in
set_option maxRecDepth 100000 in
theorem c_X12_gainOf (l : Launch) (G : va_G) (Y : CY) (w : MSt → va_W) (ad : Nat → Nat)  (LM : LayM ad w Y) (p1 : Int32) (p2 : Int32) (σ : MSt) (r : Int32) (σ' : MSt) (hf : f_X12_gainOf p1 p2 σ = some (r, σ')) : k_Mi l yX12_gainOf wsX12_gainOf rmX12_gainOf G Y w [.ref (ad 0), .int p1, .int p2] σ r σ' := by
  refine k_ofi (own := RX12) (cc := cX12_gainOf) (maxL := 5) (some .int) (by decide) rfl rfl (Nat.le_of_ble_eq_true rfl) ?_
  intro p e s m below meth c A C ls hl hw
  have hx := C.1
  have hb := C.2.1
  have hown := C.2.2.2.2.1
  have hts := C.2.2.2.2.2.1
  have hks := C.2.2.2.2.2.2.1
  have hl : lv_has ls 5 [(0, .ref (ad 0)), (1, .int p1), (2, .int p2)] := hl
  have b106 : ∀ (y0 : Int32) (σ : MSt) (H : Heap) (locs : List Loc) (ls : Array Slot), lv_has ls 5 [] → k_W G w A s.heap σ H locs → f_X12_gainOf_b106 y0 σ = some (r, σ') → W p l e rmX12_gainOf s m [.ref (ad 0), .int p1, .int p2].toArray below meth c H locs 0 0 (MQ below (k_Qi G w A r σ') [.ref (ad 0), .int p1, .int p2].toArray s 0 0 A) (F0 m 106 ls [.int y0]) := by
    intro y0 σ H locs ls hl hw hf
    unfold f_X12_gainOf_b106 at hf
    exact k_iret C hw hf dX12_gainOf_106
  have b105 : ∀ (σ : MSt) (H : Heap) (locs : List Loc) (ls : Array Slot), lv_has ls 5 [] → k_W G w A s.heap σ H locs → f_X12_gainOf_b105 σ = some (r, σ') → W p l e rmX12_gainOf s m [.ref (ad 0), .int p1, .int p2].toArray below meth c H locs 0 0 (MQ below (k_Qi G w A r σ') [.ref (ad 0), .int p1, .int p2].toArray s 0 0 A) (F0 m 105 ls []) := by
    intro σ H locs ls hl hw hf
    unfold f_X12_gainOf_b105 at hf
    refine lv_iconst (v := (1 : Int32)) hx hb dX12_gainOf_105 (by decide) ?_
    exact b106 (1 : Int32) σ _ _ _ (lv_sub hl [] rfl) hw hf
  unfold f_X12_gainOf at hf
  refine lv_bipush (v := (8 : Int32)) hx hb dX12_gainOf_0 (by decide) ?_
  refine lv_iload_n hx hb dX12_gainOf_2 rfl (lv_at hl 1 rfl) ?_
  refine lv_imul hx hb dX12_gainOf_3 ?_
  refine lv_iload_n hx hb dX12_gainOf_4 rfl (lv_at hl 2 rfl) ?_
  refine lv_iadd hx hb dX12_gainOf_5 ?_
  refine lv_topi (fun u1 ex => ?_)
  have hf := k_nmE ex hf
  refine lv_istore_n (lv' := [(3, .int u1), (0, .ref (ad 0)), (1, .int p1), (2, .int p2)]) hx hb dX12_gainOf_6 rfl hl (by decide) rfl (fun ls hl => ?_)
  refine lv_aload_n hx hb dX12_gainOf_7 rfl (lv_at hl 1 rfl) ?_
  refine lv_aload_n hx hb dX12_gainOf_8 rfl (lv_at hl 1 rfl) ?_
  refine k_get C hw (LM_0 LM) (ci := 12) rfl k_in12 41 (by decide) lk12_90 (v := .ref (ad 26)) rfl dX12_gainOf_9 ?_
  refine lv_iload_n hx hb dX12_gainOf_12 rfl (lv_at hl 0 rfl) ?_
  obtain ⟨hi, hf⟩ := k_ckE hf
  refine k_iald C hw (LM_26 LM) hi dX12_gainOf_13 ?_
  refine lv_aload_n hx hb dX12_gainOf_14 rfl (lv_at hl 1 rfl) ?_
  refine k_get C hw (LM_0 LM) (ci := 12) rfl k_in12 42 (by decide) lk12_93 (v := .ref (ad 27)) rfl dX12_gainOf_15 ?_
  refine lv_iload_n hx hb dX12_gainOf_18 rfl (lv_at hl 0 rfl) ?_
  obtain ⟨hi, hf⟩ := k_ckE hf
  refine k_iald C hw (LM_27 LM) hi dX12_gainOf_19 ?_
  refine lv_aload_n hx hb dX12_gainOf_20 rfl (lv_at hl 1 rfl) ?_
  refine k_get C hw (LM_0 LM) (ci := 12) rfl k_in12 43 (by decide) lk12_96 (v := .ref (ad 28)) rfl dX12_gainOf_21 ?_
  refine lv_iload_n hx hb dX12_gainOf_24 rfl (lv_at hl 0 rfl) ?_
  obtain ⟨hi, hf⟩ := k_ckE hf
  refine k_iald C hw (LM_28 LM) hi dX12_gainOf_25 ?_
  refine lv_aload_n hx hb dX12_gainOf_26 rfl (lv_at hl 1 rfl) ?_
  refine k_get C hw (LM_0 LM) (ci := 12) rfl k_in12 32 (by decide) lk12_63 (v := .ref (ad 17)) rfl dX12_gainOf_27 ?_
  refine lv_iload_n hx hb dX12_gainOf_30 rfl (lv_at hl 2 rfl) ?_
  obtain ⟨hi, hf⟩ := k_ckE hf
  refine k_iald C hw (LM_17 LM) hi dX12_gainOf_31 ?_
  refine lv_iconst (v := (1 : Int32)) hx hb dX12_gainOf_32 (by decide) ?_
  obtain ⟨q3, σ2, hq, hf⟩ := k_bdE hf
  refine k_callVi C hw (c_X12_moodBy l G Y w ad LM (σ.1 26 (u1).toNatClampNeg) (σ.1 27 (u1).toNatClampNeg) (σ.1 28 (u1).toNatClampNeg) (σ.1 17 (p1).toNatClampNeg) (1 : Int32) σ q3 σ2 hq) (cwV 5 hts gX12_gainOf_X12_moodBy rfl rfl rfl (by decide +kernel) ⟨Nat.le_of_ble_eq_true rfl, Nat.le_of_ble_eq_true rfl⟩) (k_recv C hw (LM_0 LM) rfl) rfl hl.1 rfl (Nat.le_of_ble_eq_true rfl) dX12_gainOf_33 (fun H locs hw => ?_)
  refine lv_istore (lv' := [(4, .int q3), (3, .int u1), (0, .ref (ad 0)), (1, .int p1), (2, .int p2)]) hx hb dX12_gainOf_36 hl (by decide) rfl (fun ls hl => ?_)
  refine lv_aload_n hx hb dX12_gainOf_38 rfl (lv_at hl 2 rfl) ?_
  refine lv_aload_n hx hb dX12_gainOf_39 rfl (lv_at hl 2 rfl) ?_
  refine k_get C hw (LM_0 LM) (ci := 12) rfl k_in12 41 (by decide) lk12_90 (v := .ref (ad 26)) rfl dX12_gainOf_40 ?_
  refine lv_iload_n hx hb dX12_gainOf_43 rfl (lv_at hl 1 rfl) ?_
  obtain ⟨hi, hf⟩ := k_ckE hf
  refine k_iald C hw (LM_26 LM) hi dX12_gainOf_44 ?_
  refine lv_aload_n hx hb dX12_gainOf_45 rfl (lv_at hl 2 rfl) ?_
  refine k_get C hw (LM_0 LM) (ci := 12) rfl k_in12 42 (by decide) lk12_93 (v := .ref (ad 27)) rfl dX12_gainOf_46 ?_
  refine lv_iload_n hx hb dX12_gainOf_49 rfl (lv_at hl 1 rfl) ?_
  obtain ⟨hi, hf⟩ := k_ckE hf
  refine k_iald C hw (LM_27 LM) hi dX12_gainOf_50 ?_
  refine lv_aload_n hx hb dX12_gainOf_51 rfl (lv_at hl 2 rfl) ?_
  refine k_get C hw (LM_0 LM) (ci := 12) rfl k_in12 43 (by decide) lk12_96 (v := .ref (ad 28)) rfl dX12_gainOf_52 ?_
  refine lv_iload_n hx hb dX12_gainOf_55 rfl (lv_at hl 1 rfl) ?_
  obtain ⟨hi, hf⟩ := k_ckE hf
  refine k_iald C hw (LM_28 LM) hi dX12_gainOf_56 ?_
  refine lv_aload_n hx hb dX12_gainOf_57 rfl (lv_at hl 2 rfl) ?_
  refine k_get C hw (LM_0 LM) (ci := 12) rfl k_in12 32 (by decide) lk12_63 (v := .ref (ad 17)) rfl dX12_gainOf_58 ?_
  refine lv_iload_n hx hb dX12_gainOf_61 rfl (lv_at hl 3 rfl) ?_
  obtain ⟨hi, hf⟩ := k_ckE hf
  refine k_iald C hw (LM_17 LM) hi dX12_gainOf_62 ?_
  refine lv_iload hx hb dX12_gainOf_63 (lv_at hl 0 rfl) ?_
  refine lv_iconst (v := (1 : Int32)) hx hb dX12_gainOf_65 (by decide) ?_
  obtain ⟨σ4, hq, hf⟩ := k_bvE hf
  refine k_callVv C hw (c_X12_calls l G Y w ad LM (σ2.1 26 (u1).toNatClampNeg) (σ2.1 27 (u1).toNatClampNeg) (σ2.1 28 (u1).toNatClampNeg) (σ2.1 17 (p1).toNatClampNeg) q3 (1 : Int32) σ2 σ4 hq) (cwV 6 hts gX12_gainOf_X12_calls rfl rfl rfl (by decide +kernel) ⟨Nat.le_of_ble_eq_true rfl, Nat.le_of_ble_eq_true rfl⟩) (k_recv C hw (LM_0 LM) rfl) rfl hl.1 rfl (Nat.le_of_ble_eq_true rfl) dX12_gainOf_66 (fun H locs hw => ?_)
  refine lv_aload_n hx hb dX12_gainOf_69 rfl (lv_at hl 2 rfl) ?_
  refine lv_iconst (v := (2 : Int32)) hx hb dX12_gainOf_70 (by decide) ?_
  obtain ⟨q6, σ5, hq, hf⟩ := k_bdE hf
  refine k_callVi C hw (c_X12_hasLaw l G Y w ad LM (2 : Int32) σ4 q6 σ5 hq) (cwV 1 hts gX12_gainOf_X12_hasLaw rfl rfl rfl (by decide +kernel) ⟨Nat.le_of_ble_eq_true rfl, Nat.le_of_ble_eq_true rfl⟩) (k_recv C hw (LM_0 LM) rfl) rfl hl.1 rfl (Nat.le_of_ble_eq_true rfl) dX12_gainOf_71 (fun H locs hw => ?_)
  refine lv_if_eq (tgt := 105) hx hb dX12_gainOf_74 (by decide) (fun h => ?_) (fun h => ?_)
  · have hf := k_ifT h hf
    exact b105 σ5 _ _ _ (lv_sub hl [] rfl) hw hf
  · have hf := k_ifF h hf
    refine lv_aload_n hx hb dX12_gainOf_77 rfl (lv_at hl 2 rfl) ?_
    refine lv_iconst (v := (2 : Int32)) hx hb dX12_gainOf_78 (by decide) ?_
    obtain ⟨q8, σ7, hq, hf⟩ := k_bdE hf
    refine k_callVi C hw (c_X12_goes l G Y w ad LM (2 : Int32) σ5 q8 σ7 hq) (cwV 1 hts gX12_gainOf_X12_goes rfl rfl rfl (by decide +kernel) ⟨Nat.le_of_ble_eq_true rfl, Nat.le_of_ble_eq_true rfl⟩) (k_recv C hw (LM_0 LM) rfl) rfl hl.1 rfl (Nat.le_of_ble_eq_true rfl) dX12_gainOf_79 (fun H locs hw => ?_)
    refine lv_if_eq (tgt := 105) hx hb dX12_gainOf_82 (by decide) (fun h => ?_) (fun h => ?_)
    · have hf := k_ifT h hf
      exact b105 σ7 _ _ _ (lv_sub hl [] rfl) hw hf
    · have hf := k_ifF h hf
      refine lv_lconst (v := (0 : Int64)) hx hb dX12_gainOf_85 (by decide) ?_
      refine lv_ldc2 (v := (9 : Int64)) hx hb hown (hks.ts _ ck12_395) dX12_gainOf_86 ?_
      refine lv_aload_n hx hb dX12_gainOf_89 rfl (lv_at hl 2 rfl) ?_
      refine k_get C hw (LM_0 LM) (ci := 12) rfl k_in12 30 (by decide) lk12_60 (v := .ref (ad 16)) rfl dX12_gainOf_90 ?_
      refine lv_iconst (v := (0 : Int32)) hx hb dX12_gainOf_93 (by decide) ?_
      obtain ⟨hi, hf⟩ := k_ckE hf
      refine k_lald C hw (LM_16 LM) hi dX12_gainOf_94 ?_
      refine k_mminl C hl.1 ml12_354 ms_Lib_MathLoose_min_long_x mi_Math mc_Lib_MathLoose_min_long_x (Nat.le_of_ble_eq_true rfl) (Nat.le_of_ble_eq_true rfl) dX12_gainOf_95 ?_
      refine k_mmaxl C hl.1 ml12_357 ms_Lib_MathLoose_max_long_x mi_Math mc_Lib_MathLoose_max_long_x (Nat.le_of_ble_eq_true rfl) (Nat.le_of_ble_eq_true rfl) dX12_gainOf_98 ?_
      refine lv_l2i (v := (((k_lmax (0 : Int64) (k_lmin (9 : Int64) (σ7.2 16 ((0 : Int32)).toNatClampNeg)))).toInt32)) hx hb dX12_gainOf_101 rfl ?_
      refine lv_goto (tgt := 106) hx hb dX12_gainOf_102 (by decide) ?_
      exact b106 (((k_lmax (0 : Int64) (k_lmin (9 : Int64) (σ7.2 16 ((0 : Int32)).toNatClampNeg)))).toInt32) σ7 _ _ _ (lv_sub hl [] rfl) hw hf
def f_X12_draw  (p1 : Int32) (p2 : Int32) (σ : MSt) : Option (Int32 × MSt) :=
  k_ck (k_inb p1 24) <|
  k_ck (k_inb p1 24) <|
  k_nm (mI σ 25 (p1).toNatClampNeg ((((σ.1 25 (p1).toNatClampNeg) * (1103515245 : Int32)) + (12345 : Int32)) &&& (2147483647 : Int32))) fun σ1 =>
  k_ck (k_inb p1 24) <|
  k_ck (k_nz p2) <|
  some ((k_rem ((σ1.1 25 (p1).toNatClampNeg) >>> ((16 : Int32) &&& 31)) p2), σ1)
def rmX12_draw : Room := { frames := 0, cells := 0, slots := 0, locals := 0 }
set_option maxHeartbeats 4000000 in
set_option maxRecDepth 100000 in
theorem c_X12_draw (l : Launch) (G : va_G) (Y : CY) (w : MSt → va_W) (ad : Nat → Nat)  (LM : LayM ad w Y) (p1 : Int32) (p2 : Int32) (σ : MSt) (r : Int32) (σ' : MSt) (hf : f_X12_draw p1 p2 σ = some (r, σ')) : k_Mi l yX12_draw wsX12_draw rmX12_draw G Y w [.ref (ad 0), .int p1, .int p2] σ r σ' := by
  refine k_ofi (own := RX12) (cc := cX12_draw) (maxL := 3) (some .int) (by decide) rfl rfl (Nat.le_of_ble_eq_true rfl) ?_
  intro p e s m below meth c A C ls hl hw
  have hx := C.1
  have hb := C.2.1
  have hown := C.2.2.2.2.1
  have hts := C.2.2.2.2.2.1
  have hks := C.2.2.2.2.2.2.1
  have hl : lv_has ls 3 [(0, .ref (ad 0)), (1, .int p1), (2, .int p2)] := hl
  unfold f_X12_draw at hf
  refine lv_aload_n hx hb dX12_draw_0 rfl (lv_at hl 0 rfl) ?_
  refine k_get C hw (LM_0 LM) (ci := 12) rfl k_in12 40 (by decide) lk12_87 (v := .ref (ad 25)) rfl dX12_draw_1 ?_
  refine lv_iload_n hx hb dX12_draw_4 rfl (lv_at hl 1 rfl) ?_
  refine lv_aload_n hx hb dX12_draw_5 rfl (lv_at hl 0 rfl) ?_
  refine k_get C hw (LM_0 LM) (ci := 12) rfl k_in12 40 (by decide) lk12_87 (v := .ref (ad 25)) rfl dX12_draw_6 ?_
  refine lv_iload_n hx hb dX12_draw_9 rfl (lv_at hl 1 rfl) ?_
  obtain ⟨hi, hf⟩ := k_ckE hf
  refine k_iald C hw (LM_25 LM) hi dX12_draw_10 ?_
  refine lv_ldcw (v := (1103515245 : Int32)) hx hb hown (hks.ts _ ck12_397) dX12_draw_11 ?_
  refine lv_imul hx hb dX12_draw_14 ?_
  refine lv_sipush (v := (12345 : Int32)) hx hb dX12_draw_15 (by decide) ?_
  refine lv_iadd hx hb dX12_draw_18 ?_
  refine lv_ldcw (v := (2147483647 : Int32)) hx hb hown (hks.ts _ ck12_400) dX12_draw_19 ?_
  refine lv_iand hx hb dX12_draw_22 ?_
  obtain ⟨hi, hf⟩ := k_ckE hf
  refine k_iast C hw (LM_25 LM) hi dX12_draw_23 (fun σ1 eq H locs hw => ?_)
  have hf := k_nmE eq hf
  refine lv_aload_n hx hb dX12_draw_24 rfl (lv_at hl 0 rfl) ?_
  refine k_get C hw (LM_0 LM) (ci := 12) rfl k_in12 40 (by decide) lk12_87 (v := .ref (ad 25)) rfl dX12_draw_25 ?_
  refine lv_iload_n hx hb dX12_draw_28 rfl (lv_at hl 1 rfl) ?_
  obtain ⟨hi, hf⟩ := k_ckE hf
  refine k_iald C hw (LM_25 LM) hi dX12_draw_29 ?_
  refine lv_bipush (v := (16 : Int32)) hx hb dX12_draw_30 (by decide) ?_
  refine lv_ishr hx hb dX12_draw_32 ?_
  refine lv_iload_n hx hb dX12_draw_33 rfl (lv_at hl 2 rfl) ?_
  obtain ⟨hz, hf⟩ := k_ckE hf
  refine k_irem C dX12_draw_34 (k_nzE hz) ?_
  exact k_iret C hw hf dX12_draw_35
def f_X12_night_b194   (σ : MSt) : Option MSt :=
  some σ
def f_X12_night_b101   (σ : MSt) : Option MSt :=
  f_X12_night_b194 σ
def f_X12_night_b71  (x1 : Int32) (y0 : Int32) (σ : MSt) : Option MSt :=
  if y0 = 0 then
  (k_ck (k_inb x1 24) <|
  k_ck (k_inb x1 24) <|
  k_nm (mI σ 23 (x1).toNatClampNeg ((σ.1 23 (x1).toNatClampNeg) + (1 : Int32))) fun σ1 =>
  f_X12_night_b101 σ1)
  else
  (k_ck (k_inb x1 24) <|
  k_ck (k_inb x1 24) <|
  k_nm (mI σ 22 (x1).toNatClampNeg ((σ.1 22 (x1).toNatClampNeg) + (1 : Int32))) fun σ2 =>
  f_X12_night_b101 σ2)
def f_X12_night  (p1 : Int32) (p2 : Int32) (σ : MSt) : Option MSt :=
  k_ck (k_inb p1 24) <|
  k_nm (σ.1 18 (p1).toNatClampNeg) fun u3 =>
  k_nm (((8 : Int32) * p1) + u3) fun u4 =>
  k_ck (k_inb p1 24) <|
  if (σ.1 21 (p1).toNatClampNeg) = (1 : Int32) then
  (if p2 = 0 then
  (k_ck (k_inb (6 : Int32) 18) <|
  if (σ.1 2 ((6 : Int32)).toNatClampNeg) < (50 : Int32) then
  (f_X12_night_b71 p1 (0 : Int32) σ)
  else
  (f_X12_night_b71 p1 (1 : Int32) σ))
  else
  (k_bd (f_X12_draw p1 (100 : Int32) σ) fun q14 σ13 =>
  k_ck (k_inb (6 : Int32) 18) <|
  if (σ13.1 2 ((6 : Int32)).toNatClampNeg) ≤ q14 then
  (f_X12_night_b71 p1 (0 : Int32) σ13)
  else
  (f_X12_night_b71 p1 (1 : Int32) σ13)))
  else
  (k_ck (k_inb u4 192) <|
  k_ck (k_inb u4 192) <|
  k_ck (k_inb u4 192) <|
  k_ck (k_inb p1 24) <|
  k_bd (f_X12_holdsBy (σ.1 26 (u4).toNatClampNeg) (σ.1 27 (u4).toNatClampNeg) (σ.1 28 (u4).toNatClampNeg) (σ.1 17 (p1).toNatClampNeg) (1 : Int32) σ) fun q6 σ5 =>
  if q6 = 0 then
  (k_ck (k_inb p1 24) <|
  k_ck (k_inb p1 24) <|
  k_nm (mI σ5 23 (p1).toNatClampNeg ((σ5.1 23 (p1).toNatClampNeg) + (1 : Int32))) fun σ7 =>
  k_ck (k_inb u4 192) <|
  k_ck (k_inb u4 192) <|
  k_nm (mI σ7 26 (u4).toNatClampNeg (k_max (0 : Int32) ((σ7.1 26 (u4).toNatClampNeg) - (2 : Int32)))) fun σ8 =>
  f_X12_night_b194 σ8)
  else
  (k_ck (k_inb p1 24) <|
  k_ck (k_inb p1 24) <|
  k_nm (mI σ5 22 (p1).toNatClampNeg ((σ5.1 22 (p1).toNatClampNeg) + (1 : Int32))) fun σ9 =>
  k_bd (f_X12_gainOf p1 u3 σ9) fun q11 σ10 =>
  k_bv (f_X12_remembers p1 u3 q11 σ10) fun σ12 =>
  f_X12_night_b194 σ12))
def rmX12_night : Room := { frames := 5, cells := 0, slots := 0, locals := 124 }
set_option maxHeartbeats 4000000 in
set_option maxRecDepth 100000 in
theorem c_X12_night (l : Launch) (G : va_G) (Y : CY) (w : MSt → va_W) (ad : Nat → Nat)  (LM : LayM ad w Y) (p1 : Int32) (p2 : Int32) (σ : MSt) (σ' : MSt) (hf : f_X12_night p1 p2 σ = some σ') : k_Mv l yX12_night wsX12_night rmX12_night G Y w [.ref (ad 0), .int p1, .int p2] σ σ' := by
  refine k_ofv (own := RX12) (cc := cX12_night) (maxL := 6) none (by decide) rfl rfl (Nat.le_of_ble_eq_true rfl) ?_
  intro p e s m below meth c A C ls hl hw
  have hx := C.1
  have hb := C.2.1
  have hown := C.2.2.2.2.1
  have hts := C.2.2.2.2.2.1
  have hks := C.2.2.2.2.2.2.1
  have hl : lv_has ls 6 [(0, .ref (ad 0)), (1, .int p1), (2, .int p2)] := hl
  have b194 : ∀ (σ : MSt) (H : Heap) (locs : List Loc) (ls : Array Slot), lv_has ls 6 [] → k_W G w A s.heap σ H locs → f_X12_night_b194 σ = some σ' → W p l e rmX12_night s m [.ref (ad 0), .int p1, .int p2].toArray below meth c H locs 0 0 (MQ below (k_Qv G w A σ') [.ref (ad 0), .int p1, .int p2].toArray s 0 0 A) (F0 m 194 ls []) := by
    intro σ H locs ls hl hw hf
    unfold f_X12_night_b194 at hf
    exact k_vret C hw hf dX12_night_194
  have b101 : ∀ (σ : MSt) (H : Heap) (locs : List Loc) (ls : Array Slot), lv_has ls 6 [] → k_W G w A s.heap σ H locs → f_X12_night_b101 σ = some σ' → W p l e rmX12_night s m [.ref (ad 0), .int p1, .int p2].toArray below meth c H locs 0 0 (MQ below (k_Qv G w A σ') [.ref (ad 0), .int p1, .int p2].toArray s 0 0 A) (F0 m 101 ls []) := by
    intro σ H locs ls hl hw hf
    unfold f_X12_night_b101 at hf
    refine lv_goto (tgt := 194) hx hb dX12_night_101 (by decide) ?_
    exact b194 σ _ _ _ (lv_sub hl [] rfl) hw hf
  have b71 : ∀ (x1 : Int32) (y0 : Int32) (σ : MSt) (H : Heap) (locs : List Loc) (ls : Array Slot), lv_has ls 6 [(0, .ref (ad 0)), (1, .int x1)] → k_W G w A s.heap σ H locs → f_X12_night_b71 x1 y0 σ = some σ' → W p l e rmX12_night s m [.ref (ad 0), .int p1, .int p2].toArray below meth c H locs 0 0 (MQ below (k_Qv G w A σ') [.ref (ad 0), .int p1, .int p2].toArray s 0 0 A) (F0 m 71 ls [.int y0]) := by
    intro x1 y0 σ H locs ls hl hw hf
    unfold f_X12_night_b71 at hf
    refine lv_istore (lv' := [(5, .int y0), (0, .ref (ad 0)), (1, .int x1)]) hx hb dX12_night_71 hl (by decide) rfl (fun ls hl => ?_)
    refine lv_iload hx hb dX12_night_73 (lv_at hl 0 rfl) ?_
    refine lv_if_eq (tgt := 91) hx hb dX12_night_75 (by decide) (fun h => ?_) (fun h => ?_)
    · have hf := k_ifT h hf
      refine lv_aload_n hx hb dX12_night_91 rfl (lv_at hl 1 rfl) ?_
      refine k_get C hw (LM_0 LM) (ci := 12) rfl k_in12 38 (by decide) lk12_81 (v := .ref (ad 23)) rfl dX12_night_92 ?_
      refine lv_iload_n hx hb dX12_night_95 rfl (lv_at hl 2 rfl) ?_
      refine lv_dup2_11 hx hb dX12_night_96 rfl rfl ?_
      obtain ⟨hi, hf⟩ := k_ckE hf
      refine k_iald C hw (LM_23 LM) hi dX12_night_97 ?_
      refine lv_iconst (v := (1 : Int32)) hx hb dX12_night_98 (by decide) ?_
      refine lv_iadd hx hb dX12_night_99 ?_
      obtain ⟨hi, hf⟩ := k_ckE hf
      refine k_iast C hw (LM_23 LM) hi dX12_night_100 (fun σ1 eq H locs hw => ?_)
      have hf := k_nmE eq hf
      exact b101 σ1 _ _ _ (lv_sub hl [] rfl) hw hf
    · have hf := k_ifF h hf
      refine lv_aload_n hx hb dX12_night_78 rfl (lv_at hl 1 rfl) ?_
      refine k_get C hw (LM_0 LM) (ci := 12) rfl k_in12 37 (by decide) lk12_78 (v := .ref (ad 22)) rfl dX12_night_79 ?_
      refine lv_iload_n hx hb dX12_night_82 rfl (lv_at hl 2 rfl) ?_
      refine lv_dup2_11 hx hb dX12_night_83 rfl rfl ?_
      obtain ⟨hi, hf⟩ := k_ckE hf
      refine k_iald C hw (LM_22 LM) hi dX12_night_84 ?_
      refine lv_iconst (v := (1 : Int32)) hx hb dX12_night_85 (by decide) ?_
      refine lv_iadd hx hb dX12_night_86 ?_
      obtain ⟨hi, hf⟩ := k_ckE hf
      refine k_iast C hw (LM_22 LM) hi dX12_night_87 (fun σ2 eq H locs hw => ?_)
      have hf := k_nmE eq hf
      refine lv_goto (tgt := 101) hx hb dX12_night_88 (by decide) ?_
      exact b101 σ2 _ _ _ (lv_sub hl [] rfl) hw hf
  unfold f_X12_night at hf
  refine lv_aload_n hx hb dX12_night_0 rfl (lv_at hl 0 rfl) ?_
  refine k_get C hw (LM_0 LM) (ci := 12) rfl k_in12 33 (by decide) lk12_66 (v := .ref (ad 18)) rfl dX12_night_1 ?_
  refine lv_iload_n hx hb dX12_night_4 rfl (lv_at hl 1 rfl) ?_
  obtain ⟨hi, hf⟩ := k_ckE hf
  refine k_iald C hw (LM_18 LM) hi dX12_night_5 ?_
  refine lv_topi (fun u3 ex => ?_)
  have hf := k_nmE ex hf
  refine lv_istore_n (lv' := [(3, .int u3), (0, .ref (ad 0)), (1, .int p1), (2, .int p2)]) hx hb dX12_night_6 rfl hl (by decide) rfl (fun ls hl => ?_)
  refine lv_bipush (v := (8 : Int32)) hx hb dX12_night_7 (by decide) ?_
  refine lv_iload_n hx hb dX12_night_9 rfl (lv_at hl 2 rfl) ?_
  refine lv_imul hx hb dX12_night_10 ?_
  refine lv_iload_n hx hb dX12_night_11 rfl (lv_at hl 0 rfl) ?_
  refine lv_iadd hx hb dX12_night_12 ?_
  refine lv_topi (fun u4 ex => ?_)
  have hf := k_nmE ex hf
  refine lv_istore (lv' := [(4, .int u4), (3, .int u3), (0, .ref (ad 0)), (1, .int p1), (2, .int p2)]) hx hb dX12_night_13 hl (by decide) rfl (fun ls hl => ?_)
  refine lv_aload_n hx hb dX12_night_15 rfl (lv_at hl 2 rfl) ?_
  refine k_get C hw (LM_0 LM) (ci := 12) rfl k_in12 36 (by decide) lk12_75 (v := .ref (ad 21)) rfl dX12_night_16 ?_
  refine lv_iload_n hx hb dX12_night_19 rfl (lv_at hl 3 rfl) ?_
  obtain ⟨hi, hf⟩ := k_ckE hf
  refine k_iald C hw (LM_21 LM) hi dX12_night_20 ?_
  refine lv_iconst (v := (1 : Int32)) hx hb dX12_night_21 (by decide) ?_
  refine lv_icmp_ne (tgt := 104) hx hb dX12_night_22 (by decide) (fun h => ?_) (fun h => ?_)
  · have hf := k_ifF h hf
    refine lv_aload_n hx hb dX12_night_104 rfl (lv_at hl 2 rfl) ?_
    refine lv_aload_n hx hb dX12_night_105 rfl (lv_at hl 2 rfl) ?_
    refine k_get C hw (LM_0 LM) (ci := 12) rfl k_in12 41 (by decide) lk12_90 (v := .ref (ad 26)) rfl dX12_night_106 ?_
    refine lv_iload hx hb dX12_night_109 (lv_at hl 0 rfl) ?_
    obtain ⟨hi, hf⟩ := k_ckE hf
    refine k_iald C hw (LM_26 LM) hi dX12_night_111 ?_
    refine lv_aload_n hx hb dX12_night_112 rfl (lv_at hl 2 rfl) ?_
    refine k_get C hw (LM_0 LM) (ci := 12) rfl k_in12 42 (by decide) lk12_93 (v := .ref (ad 27)) rfl dX12_night_113 ?_
    refine lv_iload hx hb dX12_night_116 (lv_at hl 0 rfl) ?_
    obtain ⟨hi, hf⟩ := k_ckE hf
    refine k_iald C hw (LM_27 LM) hi dX12_night_118 ?_
    refine lv_aload_n hx hb dX12_night_119 rfl (lv_at hl 2 rfl) ?_
    refine k_get C hw (LM_0 LM) (ci := 12) rfl k_in12 43 (by decide) lk12_96 (v := .ref (ad 28)) rfl dX12_night_120 ?_
    refine lv_iload hx hb dX12_night_123 (lv_at hl 0 rfl) ?_
    obtain ⟨hi, hf⟩ := k_ckE hf
    refine k_iald C hw (LM_28 LM) hi dX12_night_125 ?_
    refine lv_aload_n hx hb dX12_night_126 rfl (lv_at hl 2 rfl) ?_
    refine k_get C hw (LM_0 LM) (ci := 12) rfl k_in12 32 (by decide) lk12_63 (v := .ref (ad 17)) rfl dX12_night_127 ?_
    refine lv_iload_n hx hb dX12_night_130 rfl (lv_at hl 3 rfl) ?_
    obtain ⟨hi, hf⟩ := k_ckE hf
    refine k_iald C hw (LM_17 LM) hi dX12_night_131 ?_
    refine lv_iconst (v := (1 : Int32)) hx hb dX12_night_132 (by decide) ?_
    obtain ⟨q6, σ5, hq, hf⟩ := k_bdE hf
    refine k_callVi C hw (c_X12_holdsBy l G Y w ad LM (σ.1 26 (u4).toNatClampNeg) (σ.1 27 (u4).toNatClampNeg) (σ.1 28 (u4).toNatClampNeg) (σ.1 17 (p1).toNatClampNeg) (1 : Int32) σ q6 σ5 hq) (cwV 5 hts gX12_night_X12_holdsBy rfl rfl rfl (by decide +kernel) ⟨Nat.le_of_ble_eq_true rfl, Nat.le_of_ble_eq_true rfl⟩) (k_recv C hw (LM_0 LM) rfl) rfl hl.1 rfl (Nat.le_of_ble_eq_true rfl) dX12_night_133 (fun H locs hw => ?_)
    refine lv_if_eq (tgt := 164) hx hb dX12_night_136 (by decide) (fun h => ?_) (fun h => ?_)
    · have hf := k_ifT h hf
      refine lv_aload_n hx hb dX12_night_164 rfl (lv_at hl 2 rfl) ?_
      refine k_get C hw (LM_0 LM) (ci := 12) rfl k_in12 38 (by decide) lk12_81 (v := .ref (ad 23)) rfl dX12_night_165 ?_
      refine lv_iload_n hx hb dX12_night_168 rfl (lv_at hl 3 rfl) ?_
      refine lv_dup2_11 hx hb dX12_night_169 rfl rfl ?_
      obtain ⟨hi, hf⟩ := k_ckE hf
      refine k_iald C hw (LM_23 LM) hi dX12_night_170 ?_
      refine lv_iconst (v := (1 : Int32)) hx hb dX12_night_171 (by decide) ?_
      refine lv_iadd hx hb dX12_night_172 ?_
      obtain ⟨hi, hf⟩ := k_ckE hf
      refine k_iast C hw (LM_23 LM) hi dX12_night_173 (fun σ7 eq H locs hw => ?_)
      have hf := k_nmE eq hf
      refine lv_aload_n hx hb dX12_night_174 rfl (lv_at hl 2 rfl) ?_
      refine k_get C hw (LM_0 LM) (ci := 12) rfl k_in12 41 (by decide) lk12_90 (v := .ref (ad 26)) rfl dX12_night_175 ?_
      refine lv_iload hx hb dX12_night_178 (lv_at hl 0 rfl) ?_
      refine lv_iconst (v := (0 : Int32)) hx hb dX12_night_180 (by decide) ?_
      refine lv_aload_n hx hb dX12_night_181 rfl (lv_at hl 2 rfl) ?_
      refine k_get C hw (LM_0 LM) (ci := 12) rfl k_in12 41 (by decide) lk12_90 (v := .ref (ad 26)) rfl dX12_night_182 ?_
      refine lv_iload hx hb dX12_night_185 (lv_at hl 0 rfl) ?_
      obtain ⟨hi, hf⟩ := k_ckE hf
      refine k_iald C hw (LM_26 LM) hi dX12_night_187 ?_
      refine lv_iconst (v := (2 : Int32)) hx hb dX12_night_188 (by decide) ?_
      refine lv_isub hx hb dX12_night_189 ?_
      refine k_mmax C hl.1 ml12_385 ms_Lib_Math_max_name mi_Math mc_Lib_Math_max_name (Nat.le_of_ble_eq_true rfl) (Nat.le_of_ble_eq_true rfl) dX12_night_190 ?_
      obtain ⟨hi, hf⟩ := k_ckE hf
      refine k_iast C hw (LM_26 LM) hi dX12_night_193 (fun σ8 eq H locs hw => ?_)
      have hf := k_nmE eq hf
      exact b194 σ8 _ _ _ (lv_sub hl [] rfl) hw hf
    · have hf := k_ifF h hf
      refine lv_aload_n hx hb dX12_night_139 rfl (lv_at hl 2 rfl) ?_
      refine k_get C hw (LM_0 LM) (ci := 12) rfl k_in12 37 (by decide) lk12_78 (v := .ref (ad 22)) rfl dX12_night_140 ?_
      refine lv_iload_n hx hb dX12_night_143 rfl (lv_at hl 3 rfl) ?_
      refine lv_dup2_11 hx hb dX12_night_144 rfl rfl ?_
      obtain ⟨hi, hf⟩ := k_ckE hf
      refine k_iald C hw (LM_22 LM) hi dX12_night_145 ?_
      refine lv_iconst (v := (1 : Int32)) hx hb dX12_night_146 (by decide) ?_
      refine lv_iadd hx hb dX12_night_147 ?_
      obtain ⟨hi, hf⟩ := k_ckE hf
      refine k_iast C hw (LM_22 LM) hi dX12_night_148 (fun σ9 eq H locs hw => ?_)
      have hf := k_nmE eq hf
      refine lv_aload_n hx hb dX12_night_149 rfl (lv_at hl 2 rfl) ?_
      refine lv_iload_n hx hb dX12_night_150 rfl (lv_at hl 3 rfl) ?_
      refine lv_iload_n hx hb dX12_night_151 rfl (lv_at hl 1 rfl) ?_
      refine lv_aload_n hx hb dX12_night_152 rfl (lv_at hl 2 rfl) ?_
      refine lv_iload_n hx hb dX12_night_153 rfl (lv_at hl 3 rfl) ?_
      refine lv_iload_n hx hb dX12_night_154 rfl (lv_at hl 1 rfl) ?_
      obtain ⟨q11, σ10, hq, hf⟩ := k_bdE hf
      refine k_callVi C hw (c_X12_gainOf l G Y w ad LM p1 u3 σ9 q11 σ10 hq) (cwV 2 hts gX12_night_X12_gainOf rfl rfl rfl (by decide +kernel) ⟨Nat.le_of_ble_eq_true rfl, Nat.le_of_ble_eq_true rfl⟩) (k_recv C hw (LM_0 LM) rfl) rfl hl.1 rfl (Nat.le_of_ble_eq_true rfl) dX12_night_155 (fun H locs hw => ?_)
      obtain ⟨σ12, hq, hf⟩ := k_bvE hf
      refine k_callVv C hw (c_X12_remembers l G Y w ad LM p1 u3 q11 σ10 σ12 hq) (cwV 3 hts gX12_night_X12_remembers rfl rfl rfl (by decide +kernel) ⟨Nat.le_of_ble_eq_true rfl, Nat.le_of_ble_eq_true rfl⟩) (k_recv C hw (LM_0 LM) rfl) rfl hl.1 rfl (Nat.le_of_ble_eq_true rfl) dX12_night_158 (fun H locs hw => ?_)
      refine lv_goto (tgt := 194) hx hb dX12_night_161 (by decide) ?_
      exact b194 σ12 _ _ _ (lv_sub hl [] rfl) hw hf
  · have hf := k_ifT h hf
    refine lv_iload_n hx hb dX12_night_25 rfl (lv_at hl 4 rfl) ?_
    refine lv_if_eq (tgt := 54) hx hb dX12_night_26 (by decide) (fun h => ?_) (fun h => ?_)
    · have hf := k_ifT h hf
      refine lv_aload_n hx hb dX12_night_54 rfl (lv_at hl 2 rfl) ?_
      refine k_get C hw (LM_0 LM) (ci := 12) rfl k_in12 3 (by decide) lk12_13 (v := .ref (ad 2)) rfl dX12_night_55 ?_
      refine lv_bipush (v := (6 : Int32)) hx hb dX12_night_58 (by decide) ?_
      obtain ⟨hi, hf⟩ := k_ckE hf
      refine k_iald C hw (LM_2 LM) hi dX12_night_60 ?_
      refine lv_bipush (v := (50 : Int32)) hx hb dX12_night_61 (by decide) ?_
      refine lv_icmp_lt (tgt := 70) hx hb dX12_night_63 (by decide) (fun h => ?_) (fun h => ?_)
      · have hf := k_ifT h hf
        refine lv_iconst (v := (0 : Int32)) hx hb dX12_night_70 (by decide) ?_
        exact b71 p1 (0 : Int32) σ _ _ _ (lv_sub hl [2, 3] rfl) hw hf
      · have hf := k_ifF h hf
        refine lv_iconst (v := (1 : Int32)) hx hb dX12_night_66 (by decide) ?_
        refine lv_goto (tgt := 71) hx hb dX12_night_67 (by decide) ?_
        exact b71 p1 (1 : Int32) σ _ _ _ (lv_sub hl [2, 3] rfl) hw hf
    · have hf := k_ifF h hf
      refine lv_aload_n hx hb dX12_night_29 rfl (lv_at hl 2 rfl) ?_
      refine lv_iload_n hx hb dX12_night_30 rfl (lv_at hl 3 rfl) ?_
      refine lv_bipush (v := (100 : Int32)) hx hb dX12_night_31 (by decide) ?_
      obtain ⟨q14, σ13, hq, hf⟩ := k_bdE hf
      refine k_callVi C hw (c_X12_draw l G Y w ad LM p1 (100 : Int32) σ q14 σ13 hq) (cwV 2 hts gX12_night_X12_draw rfl rfl rfl (by decide +kernel) ⟨Nat.le_of_ble_eq_true rfl, Nat.le_of_ble_eq_true rfl⟩) (k_recv C hw (LM_0 LM) rfl) rfl hl.1 rfl (Nat.le_of_ble_eq_true rfl) dX12_night_33 (fun H locs hw => ?_)
      refine lv_aload_n hx hb dX12_night_36 rfl (lv_at hl 2 rfl) ?_
      refine k_get C hw (LM_0 LM) (ci := 12) rfl k_in12 3 (by decide) lk12_13 (v := .ref (ad 2)) rfl dX12_night_37 ?_
      refine lv_bipush (v := (6 : Int32)) hx hb dX12_night_40 (by decide) ?_
      obtain ⟨hi, hf⟩ := k_ckE hf
      refine k_iald C hw (LM_2 LM) hi dX12_night_42 ?_
      refine lv_icmp_ge (tgt := 50) hx hb dX12_night_43 (by decide) (fun h => ?_) (fun h => ?_)
      · have hf := k_ifT h hf
        refine lv_iconst (v := (0 : Int32)) hx hb dX12_night_50 (by decide) ?_
        refine lv_goto (tgt := 71) hx hb dX12_night_51 (by decide) ?_
        exact b71 p1 (0 : Int32) σ13 _ _ _ (lv_sub hl [2, 3] rfl) hw hf
      · have hf := k_ifF h hf
        refine lv_iconst (v := (1 : Int32)) hx hb dX12_night_46 (by decide) ?_
        refine lv_goto (tgt := 71) hx hb dX12_night_47 (by decide) ?_
        exact b71 p1 (1 : Int32) σ13 _ _ _ (lv_sub hl [2, 3] rfl) hw hf
def f_X12_passes_b155  (x1 : Int32) (σ : MSt) : Option MSt :=
  k_ck (k_inb x1 24) <|
  k_ck (k_inb x1 24) <|
  k_nm (mI σ 17 (x1).toNatClampNeg ((σ.1 17 (x1).toNatClampNeg) + (1 : Int32))) fun σ1 =>
  some σ1
def f_X12_passes_b116  (x1 : Int32) (x2 : Int32) (σ : MSt) : Option MSt :=
  k_ck (k_inb x1 24) <|
  if (σ.1 19 (x1).toNatClampNeg) = (-1 : Int32) then
  (k_ck (k_inb x1 24) <|
  if (σ.1 18 (x1).toNatClampNeg) = (-1 : Int32) then
  (f_X12_passes_b155 x1 σ)
  else
  (k_bv (f_X12_night x1 x2 σ) fun σ1 =>
  f_X12_passes_b155 x1 σ1))
  else
  (k_ck (k_inb x1 24) <|
  k_ck (k_inb x1 24) <|
  k_nm (mI σ 24 (x1).toNatClampNeg ((σ.1 24 (x1).toNatClampNeg) + (1 : Int32))) fun σ2 =>
  f_X12_passes_b155 x1 σ2)
def f_X12_passes_b59  (r2 : Int32 → Int32 → Int32 → MSt → Option MSt) (x1 : Int32) (x2 : Int32) (x3 : Int32) (σ : MSt) : Option MSt :=
  k_nm (x3 + (1 : Int32)) fun u1 =>
  r2 x1 x2 u1 σ
def f_X12_passes_b43  (r2 : Int32 → Int32 → Int32 → MSt → Option MSt) (x1 : Int32) (x2 : Int32) (x3 : Int32) (σ : MSt) : Option MSt :=
  k_ck (k_inb x3 24) <|
  k_bd (f_X12_joyIn x3 σ) fun q2 σ1 =>
  k_bv (f_X12_remembers x1 (σ.1 7 (x3).toNatClampNeg) q2 σ1) fun σ3 =>
  f_X12_passes_b59 r2 x1 x2 x3 σ3
def f_X12_passes_b2_s  (r2 : Int32 → Int32 → Int32 → MSt → Option MSt) (x1 : Int32) (x2 : Int32) (x3 : Int32) (σ : MSt) : Option MSt :=
  k_ck (k_inb (2 : Int32) 18) <|
  if (σ.1 2 ((2 : Int32)).toNatClampNeg) ≤ x3 then
  (k_ck (k_inb x1 24) <|
  k_ck (k_inb x1 24) <|
  if (σ.1 20 (x1).toNatClampNeg) = (σ.1 17 (x1).toNatClampNeg) then
  (k_ck (k_inb x1 24) <|
  if (σ.1 19 (x1).toNatClampNeg) = (-1 : Int32) then
  (f_X12_passes_b116 x1 x2 σ)
  else
  (k_ck (k_inb x1 24) <|
  k_ck (k_inb x1 24) <|
  k_nm (mI σ 18 (x1).toNatClampNeg (σ.1 19 (x1).toNatClampNeg)) fun σ1 =>
  k_ck (k_inb x1 24) <|
  k_nm (mI σ1 19 (x1).toNatClampNeg (-1 : Int32)) fun σ2 =>
  k_ck (k_inb x1 24) <|
  k_nm (mI σ2 20 (x1).toNatClampNeg (-1 : Int32)) fun σ3 =>
  f_X12_passes_b116 x1 x2 σ3))
  else
  (f_X12_passes_b116 x1 x2 σ))
  else
  (k_ck (k_inb x3 24) <|
  k_ck (k_inb x1 24) <|
  if (σ.1 8 (x3).toNatClampNeg) = (σ.1 17 (x1).toNatClampNeg) then
  (if (σ.1 0 46) = (2 : Int32) then
  (if x3 = (σ.1 0 47) then
  (f_X12_passes_b59 r2 x1 x2 x3 σ)
  else
  (f_X12_passes_b43 r2 x1 x2 x3 σ))
  else
  (f_X12_passes_b43 r2 x1 x2 x3 σ))
  else
  (f_X12_passes_b59 r2 x1 x2 x3 σ))
def f_X12_passes_b2  : Nat → Int32 → Int32 → Int32 → MSt → Option MSt
  | 0 => fun _ _ _ _ => none
  | n + 1 => f_X12_passes_b2_s (f_X12_passes_b2 n)
def f_X12_passes  (p1 : Int32) (p2 : Int32) (σ : MSt) : Option MSt :=
  f_X12_passes_b2 FU p1 p2 (0 : Int32) σ
def rmX12_passes : Room := { frames := 6, cells := 0, slots := 0, locals := 149 }
set_option maxHeartbeats 4000000 in
set_option maxRecDepth 100000 in
theorem c_X12_passes (l : Launch) (G : va_G) (Y : CY) (w : MSt → va_W) (ad : Nat → Nat)  (LM : LayM ad w Y) (p1 : Int32) (p2 : Int32) (σ : MSt) (σ' : MSt) (hf : f_X12_passes p1 p2 σ = some σ') : k_Mv l yX12_passes wsX12_passes rmX12_passes G Y w [.ref (ad 0), .int p1, .int p2] σ σ' := by
  refine k_ofv (own := RX12) (cc := cX12_passes) (maxL := 4) none (by decide) rfl rfl (Nat.le_of_ble_eq_true rfl) ?_
  intro p e s m below meth c A C ls hl hw
  have hx := C.1
  have hb := C.2.1
  have hown := C.2.2.2.2.1
  have hts := C.2.2.2.2.2.1
  have hks := C.2.2.2.2.2.2.1
  have hl : lv_has ls 4 [(0, .ref (ad 0)), (1, .int p1), (2, .int p2)] := hl
  have b155 : ∀ (x1 : Int32) (σ : MSt) (H : Heap) (locs : List Loc) (ls : Array Slot), lv_has ls 4 [(0, .ref (ad 0)), (1, .int x1)] → k_W G w A s.heap σ H locs → f_X12_passes_b155 x1 σ = some σ' → W p l e rmX12_passes s m [.ref (ad 0), .int p1, .int p2].toArray below meth c H locs 0 0 (MQ below (k_Qv G w A σ') [.ref (ad 0), .int p1, .int p2].toArray s 0 0 A) (F0 m 155 ls []) := by
    intro x1 σ H locs ls hl hw hf
    unfold f_X12_passes_b155 at hf
    refine lv_aload_n hx hb dX12_passes_155 rfl (lv_at hl 0 rfl) ?_
    refine k_get C hw (LM_0 LM) (ci := 12) rfl k_in12 32 (by decide) lk12_63 (v := .ref (ad 17)) rfl dX12_passes_156 ?_
    refine lv_iload_n hx hb dX12_passes_159 rfl (lv_at hl 1 rfl) ?_
    refine lv_dup2_11 hx hb dX12_passes_160 rfl rfl ?_
    obtain ⟨hi, hf⟩ := k_ckE hf
    refine k_iald C hw (LM_17 LM) hi dX12_passes_161 ?_
    refine lv_iconst (v := (1 : Int32)) hx hb dX12_passes_162 (by decide) ?_
    refine lv_iadd hx hb dX12_passes_163 ?_
    obtain ⟨hi, hf⟩ := k_ckE hf
    refine k_iast C hw (LM_17 LM) hi dX12_passes_164 (fun σ1 eq H locs hw => ?_)
    have hf := k_nmE eq hf
    exact k_vret C hw hf dX12_passes_165
  have b116 : ∀ (x1 : Int32) (x2 : Int32) (σ : MSt) (H : Heap) (locs : List Loc) (ls : Array Slot), lv_has ls 4 [(0, .ref (ad 0)), (1, .int x1), (2, .int x2)] → k_W G w A s.heap σ H locs → f_X12_passes_b116 x1 x2 σ = some σ' → W p l e rmX12_passes s m [.ref (ad 0), .int p1, .int p2].toArray below meth c H locs 0 0 (MQ below (k_Qv G w A σ') [.ref (ad 0), .int p1, .int p2].toArray s 0 0 A) (F0 m 116 ls []) := by
    intro x1 x2 σ H locs ls hl hw hf
    unfold f_X12_passes_b116 at hf
    refine lv_aload_n hx hb dX12_passes_116 rfl (lv_at hl 0 rfl) ?_
    refine k_get C hw (LM_0 LM) (ci := 12) rfl k_in12 34 (by decide) lk12_69 (v := .ref (ad 19)) rfl dX12_passes_117 ?_
    refine lv_iload_n hx hb dX12_passes_120 rfl (lv_at hl 1 rfl) ?_
    obtain ⟨hi, hf⟩ := k_ckE hf
    refine k_iald C hw (LM_19 LM) hi dX12_passes_121 ?_
    refine lv_iconst (v := (-1 : Int32)) hx hb dX12_passes_122 (by decide) ?_
    refine lv_icmp_eq (tgt := 139) hx hb dX12_passes_123 (by decide) (fun h => ?_) (fun h => ?_)
    · have hf := k_ifT h hf
      refine lv_aload_n hx hb dX12_passes_139 rfl (lv_at hl 0 rfl) ?_
      refine k_get C hw (LM_0 LM) (ci := 12) rfl k_in12 33 (by decide) lk12_66 (v := .ref (ad 18)) rfl dX12_passes_140 ?_
      refine lv_iload_n hx hb dX12_passes_143 rfl (lv_at hl 1 rfl) ?_
      obtain ⟨hi, hf⟩ := k_ckE hf
      refine k_iald C hw (LM_18 LM) hi dX12_passes_144 ?_
      refine lv_iconst (v := (-1 : Int32)) hx hb dX12_passes_145 (by decide) ?_
      refine lv_icmp_eq (tgt := 155) hx hb dX12_passes_146 (by decide) (fun h => ?_) (fun h => ?_)
      · have hf := k_ifT h hf
        exact b155 x1 σ _ _ _ (lv_sub hl [0, 1] rfl) hw hf
      · have hf := k_ifF h hf
        refine lv_aload_n hx hb dX12_passes_149 rfl (lv_at hl 0 rfl) ?_
        refine lv_iload_n hx hb dX12_passes_150 rfl (lv_at hl 1 rfl) ?_
        refine lv_iload_n hx hb dX12_passes_151 rfl (lv_at hl 2 rfl) ?_
        obtain ⟨σ1, hq, hf⟩ := k_bvE hf
        refine k_callVv C hw (c_X12_night l G Y w ad LM x1 x2 σ σ1 hq) (cwV 2 hts gX12_passes_X12_night rfl rfl rfl (by decide +kernel) ⟨Nat.le_of_ble_eq_true rfl, Nat.le_of_ble_eq_true rfl⟩) (k_recv C hw (LM_0 LM) rfl) rfl hl.1 rfl (Nat.le_of_ble_eq_true rfl) dX12_passes_152 (fun H locs hw => ?_)
        exact b155 x1 σ1 _ _ _ (lv_sub hl [0, 1] rfl) hw hf
    · have hf := k_ifF h hf
      refine lv_aload_n hx hb dX12_passes_126 rfl (lv_at hl 0 rfl) ?_
      refine k_get C hw (LM_0 LM) (ci := 12) rfl k_in12 39 (by decide) lk12_84 (v := .ref (ad 24)) rfl dX12_passes_127 ?_
      refine lv_iload_n hx hb dX12_passes_130 rfl (lv_at hl 1 rfl) ?_
      refine lv_dup2_11 hx hb dX12_passes_131 rfl rfl ?_
      obtain ⟨hi, hf⟩ := k_ckE hf
      refine k_iald C hw (LM_24 LM) hi dX12_passes_132 ?_
      refine lv_iconst (v := (1 : Int32)) hx hb dX12_passes_133 (by decide) ?_
      refine lv_iadd hx hb dX12_passes_134 ?_
      obtain ⟨hi, hf⟩ := k_ckE hf
      refine k_iast C hw (LM_24 LM) hi dX12_passes_135 (fun σ2 eq H locs hw => ?_)
      have hf := k_nmE eq hf
      refine lv_goto (tgt := 155) hx hb dX12_passes_136 (by decide) ?_
      exact b155 x1 σ2 _ _ _ (lv_sub hl [0, 1] rfl) hw hf
  have b2 : ∀ (n2 : Nat) (x1 : Int32) (x2 : Int32) (x3 : Int32) (σ : MSt) (H : Heap) (locs : List Loc) (ls : Array Slot), lv_has ls 4 [(0, .ref (ad 0)), (1, .int x1), (2, .int x2), (3, .int x3)] → k_W G w A s.heap σ H locs → f_X12_passes_b2 n2 x1 x2 x3 σ = some σ' → W p l e rmX12_passes s m [.ref (ad 0), .int p1, .int p2].toArray below meth c H locs 0 0 (MQ below (k_Qv G w A σ') [.ref (ad 0), .int p1, .int p2].toArray s 0 0 A) (F0 m 2 ls []) := by
    intro n2
    induction n2 with
    | zero =>
      intro x1 x2 x3 σ H locs ls hl hw hf
      have hf : (none : Option MSt) = some σ' := hf
      cases hf
    | succ n2 ih2 =>
      have b59 : ∀ (x1 : Int32) (x2 : Int32) (x3 : Int32) (σ : MSt) (H : Heap) (locs : List Loc) (ls : Array Slot), lv_has ls 4 [(0, .ref (ad 0)), (1, .int x1), (2, .int x2), (3, .int x3)] → k_W G w A s.heap σ H locs → f_X12_passes_b59 (f_X12_passes_b2 n2) x1 x2 x3 σ = some σ' → W p l e rmX12_passes s m [.ref (ad 0), .int p1, .int p2].toArray below meth c H locs 0 0 (MQ below (k_Qv G w A σ') [.ref (ad 0), .int p1, .int p2].toArray s 0 0 A) (F0 m 59 ls []) := by
        intro x1 x2 x3 σ H locs ls hl hw hf
        unfold f_X12_passes_b59 at hf
        obtain ⟨u1, ex⟩ : ∃ y : Int32, y = (x3 + (1 : Int32)) := ⟨_, rfl⟩
        have hf := k_nmE ex hf
        refine lv_iinc (v := u1) (lv' := [(3, .int u1), (0, .ref (ad 0)), (1, .int x1), (2, .int x2)]) hx hb dX12_passes_59 hl (k := 3) rfl (by rw [ex]; rfl) (by decide) rfl (fun ls hl => ?_)
        refine lv_goto (tgt := 2) hx hb dX12_passes_62 (by decide) ?_
        exact ih2 x1 x2 u1 σ _ _ _ (lv_sub hl [1, 2, 3, 0] rfl) hw hf
      have b43 : ∀ (x1 : Int32) (x2 : Int32) (x3 : Int32) (σ : MSt) (H : Heap) (locs : List Loc) (ls : Array Slot), lv_has ls 4 [(0, .ref (ad 0)), (1, .int x1), (2, .int x2), (3, .int x3)] → k_W G w A s.heap σ H locs → f_X12_passes_b43 (f_X12_passes_b2 n2) x1 x2 x3 σ = some σ' → W p l e rmX12_passes s m [.ref (ad 0), .int p1, .int p2].toArray below meth c H locs 0 0 (MQ below (k_Qv G w A σ') [.ref (ad 0), .int p1, .int p2].toArray s 0 0 A) (F0 m 43 ls []) := by
        intro x1 x2 x3 σ H locs ls hl hw hf
        unfold f_X12_passes_b43 at hf
        refine lv_aload_n hx hb dX12_passes_43 rfl (lv_at hl 0 rfl) ?_
        refine lv_iload_n hx hb dX12_passes_44 rfl (lv_at hl 1 rfl) ?_
        refine lv_aload_n hx hb dX12_passes_45 rfl (lv_at hl 0 rfl) ?_
        refine k_get C hw (LM_0 LM) (ci := 12) rfl k_in12 8 (by decide) lk12_28 (v := .ref (ad 7)) rfl dX12_passes_46 ?_
        refine lv_iload_n hx hb dX12_passes_49 rfl (lv_at hl 3 rfl) ?_
        obtain ⟨hi, hf⟩ := k_ckE hf
        refine k_iald C hw (LM_7 LM) hi dX12_passes_50 ?_
        refine lv_aload_n hx hb dX12_passes_51 rfl (lv_at hl 0 rfl) ?_
        refine lv_iload_n hx hb dX12_passes_52 rfl (lv_at hl 3 rfl) ?_
        obtain ⟨q2, σ1, hq, hf⟩ := k_bdE hf
        refine k_callVi C hw (c_X12_joyIn l G Y w ad LM x3 σ q2 σ1 hq) (cwV 1 hts gX12_passes_X12_joyIn rfl rfl rfl (by decide +kernel) ⟨Nat.le_of_ble_eq_true rfl, Nat.le_of_ble_eq_true rfl⟩) (k_recv C hw (LM_0 LM) rfl) rfl hl.1 rfl (Nat.le_of_ble_eq_true rfl) dX12_passes_53 (fun H locs hw => ?_)
        obtain ⟨σ3, hq, hf⟩ := k_bvE hf
        refine k_callVv C hw (c_X12_remembers l G Y w ad LM x1 (σ.1 7 (x3).toNatClampNeg) q2 σ1 σ3 hq) (cwV 3 hts gX12_passes_X12_remembers rfl rfl rfl (by decide +kernel) ⟨Nat.le_of_ble_eq_true rfl, Nat.le_of_ble_eq_true rfl⟩) (k_recv C hw (LM_0 LM) rfl) rfl hl.1 rfl (Nat.le_of_ble_eq_true rfl) dX12_passes_56 (fun H locs hw => ?_)
        exact b59 x1 x2 x3 σ3 _ _ _ (lv_sub hl [0, 1, 2, 3] rfl) hw hf
      intro x1 x2 x3 σ H locs ls hl hw hf
      have hf : f_X12_passes_b2_s (f_X12_passes_b2 n2) x1 x2 x3 σ = some σ' := hf
      unfold f_X12_passes_b2_s at hf
      refine lv_iload_n hx hb dX12_passes_2 rfl (lv_at hl 3 rfl) ?_
      refine lv_aload_n hx hb dX12_passes_3 rfl (lv_at hl 0 rfl) ?_
      refine k_get C hw (LM_0 LM) (ci := 12) rfl k_in12 3 (by decide) lk12_13 (v := .ref (ad 2)) rfl dX12_passes_4 ?_
      refine lv_iconst (v := (2 : Int32)) hx hb dX12_passes_7 (by decide) ?_
      obtain ⟨hi, hf⟩ := k_ckE hf
      refine k_iald C hw (LM_2 LM) hi dX12_passes_8 ?_
      refine lv_icmp_ge (tgt := 65) hx hb dX12_passes_9 (by decide) (fun h => ?_) (fun h => ?_)
      · have hf := k_ifT h hf
        refine lv_aload_n hx hb dX12_passes_65 rfl (lv_at hl 0 rfl) ?_
        refine k_get C hw (LM_0 LM) (ci := 12) rfl k_in12 35 (by decide) lk12_72 (v := .ref (ad 20)) rfl dX12_passes_66 ?_
        refine lv_iload_n hx hb dX12_passes_69 rfl (lv_at hl 1 rfl) ?_
        obtain ⟨hi, hf⟩ := k_ckE hf
        refine k_iald C hw (LM_20 LM) hi dX12_passes_70 ?_
        refine lv_aload_n hx hb dX12_passes_71 rfl (lv_at hl 0 rfl) ?_
        refine k_get C hw (LM_0 LM) (ci := 12) rfl k_in12 32 (by decide) lk12_63 (v := .ref (ad 17)) rfl dX12_passes_72 ?_
        refine lv_iload_n hx hb dX12_passes_75 rfl (lv_at hl 1 rfl) ?_
        obtain ⟨hi, hf⟩ := k_ckE hf
        refine k_iald C hw (LM_17 LM) hi dX12_passes_76 ?_
        refine lv_icmp_ne (tgt := 116) hx hb dX12_passes_77 (by decide) (fun h => ?_) (fun h => ?_)
        · have hf := k_ifF h hf
          exact b116 x1 x2 σ _ _ _ (lv_sub hl [0, 1, 2] rfl) hw hf
        · have hf := k_ifT h hf
          refine lv_aload_n hx hb dX12_passes_80 rfl (lv_at hl 0 rfl) ?_
          refine k_get C hw (LM_0 LM) (ci := 12) rfl k_in12 34 (by decide) lk12_69 (v := .ref (ad 19)) rfl dX12_passes_81 ?_
          refine lv_iload_n hx hb dX12_passes_84 rfl (lv_at hl 1 rfl) ?_
          obtain ⟨hi, hf⟩ := k_ckE hf
          refine k_iald C hw (LM_19 LM) hi dX12_passes_85 ?_
          refine lv_iconst (v := (-1 : Int32)) hx hb dX12_passes_86 (by decide) ?_
          refine lv_icmp_eq (tgt := 116) hx hb dX12_passes_87 (by decide) (fun h => ?_) (fun h => ?_)
          · have hf := k_ifT h hf
            exact b116 x1 x2 σ _ _ _ (lv_sub hl [0, 1, 2] rfl) hw hf
          · have hf := k_ifF h hf
            refine lv_aload_n hx hb dX12_passes_90 rfl (lv_at hl 0 rfl) ?_
            refine k_get C hw (LM_0 LM) (ci := 12) rfl k_in12 33 (by decide) lk12_66 (v := .ref (ad 18)) rfl dX12_passes_91 ?_
            refine lv_iload_n hx hb dX12_passes_94 rfl (lv_at hl 1 rfl) ?_
            refine lv_aload_n hx hb dX12_passes_95 rfl (lv_at hl 0 rfl) ?_
            refine k_get C hw (LM_0 LM) (ci := 12) rfl k_in12 34 (by decide) lk12_69 (v := .ref (ad 19)) rfl dX12_passes_96 ?_
            refine lv_iload_n hx hb dX12_passes_99 rfl (lv_at hl 1 rfl) ?_
            obtain ⟨hi, hf⟩ := k_ckE hf
            refine k_iald C hw (LM_19 LM) hi dX12_passes_100 ?_
            obtain ⟨hi, hf⟩ := k_ckE hf
            refine k_iast C hw (LM_18 LM) hi dX12_passes_101 (fun σ1 eq H locs hw => ?_)
            have hf := k_nmE eq hf
            refine lv_aload_n hx hb dX12_passes_102 rfl (lv_at hl 0 rfl) ?_
            refine k_get C hw (LM_0 LM) (ci := 12) rfl k_in12 34 (by decide) lk12_69 (v := .ref (ad 19)) rfl dX12_passes_103 ?_
            refine lv_iload_n hx hb dX12_passes_106 rfl (lv_at hl 1 rfl) ?_
            refine lv_iconst (v := (-1 : Int32)) hx hb dX12_passes_107 (by decide) ?_
            obtain ⟨hi, hf⟩ := k_ckE hf
            refine k_iast C hw (LM_19 LM) hi dX12_passes_108 (fun σ2 eq H locs hw => ?_)
            have hf := k_nmE eq hf
            refine lv_aload_n hx hb dX12_passes_109 rfl (lv_at hl 0 rfl) ?_
            refine k_get C hw (LM_0 LM) (ci := 12) rfl k_in12 35 (by decide) lk12_72 (v := .ref (ad 20)) rfl dX12_passes_110 ?_
            refine lv_iload_n hx hb dX12_passes_113 rfl (lv_at hl 1 rfl) ?_
            refine lv_iconst (v := (-1 : Int32)) hx hb dX12_passes_114 (by decide) ?_
            obtain ⟨hi, hf⟩ := k_ckE hf
            refine k_iast C hw (LM_20 LM) hi dX12_passes_115 (fun σ3 eq H locs hw => ?_)
            have hf := k_nmE eq hf
            exact b116 x1 x2 σ3 _ _ _ (lv_sub hl [0, 1, 2] rfl) hw hf
      · have hf := k_ifF h hf
        refine lv_aload_n hx hb dX12_passes_12 rfl (lv_at hl 0 rfl) ?_
        refine k_get C hw (LM_0 LM) (ci := 12) rfl k_in12 9 (by decide) lk12_31 (v := .ref (ad 8)) rfl dX12_passes_13 ?_
        refine lv_iload_n hx hb dX12_passes_16 rfl (lv_at hl 3 rfl) ?_
        obtain ⟨hi, hf⟩ := k_ckE hf
        refine k_iald C hw (LM_8 LM) hi dX12_passes_17 ?_
        refine lv_aload_n hx hb dX12_passes_18 rfl (lv_at hl 0 rfl) ?_
        refine k_get C hw (LM_0 LM) (ci := 12) rfl k_in12 32 (by decide) lk12_63 (v := .ref (ad 17)) rfl dX12_passes_19 ?_
        refine lv_iload_n hx hb dX12_passes_22 rfl (lv_at hl 1 rfl) ?_
        obtain ⟨hi, hf⟩ := k_ckE hf
        refine k_iald C hw (LM_17 LM) hi dX12_passes_23 ?_
        refine lv_icmp_ne (tgt := 59) hx hb dX12_passes_24 (by decide) (fun h => ?_) (fun h => ?_)
        · have hf := k_ifF h hf
          exact b59 x1 x2 x3 σ _ _ _ (lv_sub hl [0, 1, 2, 3] rfl) hw hf
        · have hf := k_ifT h hf
          refine lv_aload_n hx hb dX12_passes_27 rfl (lv_at hl 0 rfl) ?_
          refine k_get C hw (LM_0 LM) (ci := 12) rfl k_in12 46 (by decide) lk12_334 (v := .int (σ.1 0 46)) rfl dX12_passes_28 ?_
          refine lv_iconst (v := (2 : Int32)) hx hb dX12_passes_31 (by decide) ?_
          refine lv_icmp_ne (tgt := 43) hx hb dX12_passes_32 (by decide) (fun h => ?_) (fun h => ?_)
          · have hf := k_ifF h hf
            exact b43 x1 x2 x3 σ _ _ _ (lv_sub hl [0, 1, 2, 3] rfl) hw hf
          · have hf := k_ifT h hf
            refine lv_iload_n hx hb dX12_passes_35 rfl (lv_at hl 3 rfl) ?_
            refine lv_aload_n hx hb dX12_passes_36 rfl (lv_at hl 0 rfl) ?_
            refine k_get C hw (LM_0 LM) (ci := 12) rfl k_in12 47 (by decide) lk12_99 (v := .int (σ.1 0 47)) rfl dX12_passes_37 ?_
            refine lv_icmp_eq (tgt := 59) hx hb dX12_passes_40 (by decide) (fun h => ?_) (fun h => ?_)
            · have hf := k_ifT h hf
              exact b59 x1 x2 x3 σ _ _ _ (lv_sub hl [0, 1, 2, 3] rfl) hw hf
            · have hf := k_ifF h hf
              exact b43 x1 x2 x3 σ _ _ _ (lv_sub hl [0, 1, 2, 3] rfl) hw hf
  unfold f_X12_passes at hf
  refine lv_iconst (v := (0 : Int32)) hx hb dX12_passes_0 (by decide) ?_
  refine lv_istore_n (lv' := [(3, .int (0 : Int32)), (0, .ref (ad 0)), (1, .int p1), (2, .int p2)]) hx hb dX12_passes_1 rfl hl (by decide) rfl (fun ls hl => ?_)
  exact b2 FU p1 p2 (0 : Int32) σ _ _ _ (lv_sub hl [1, 2, 3, 0] rfl) hw hf
def f_X12_bay_b141  (y0 : Int32) (σ : MSt) : Option (Int32 × MSt) :=
  some (y0, σ)
def f_X12_bay_b140   (σ : MSt) : Option (Int32 × MSt) :=
  f_X12_bay_b141 (0 : Int32) σ
def f_X12_bay_b108  (y0 : Int32) (σ : MSt) : Option (Int32 × MSt) :=
  some (y0, σ)
def f_X12_bay_b27  (x1 : Int32) (x2 : Int32) (y1 : Int32) (σ : MSt) : Option (Int32 × MSt) :=
  k_nm (mI σ 0 0 y1) fun σ1 =>
  if (σ1.1 0 0) = 0 then
  (if x2 = (0 : Int32) then
  (k_ck (k_inb x1 192) <|
  some ((σ1.1 26 (x1).toNatClampNeg), σ1))
  else if x2 = (1 : Int32) then
  (k_ck (k_inb x1 192) <|
  if (σ1.1 28 (x1).toNatClampNeg) = (-1 : Int32) then
  (f_X12_bay_b108 (99 : Int32) σ1)
  else
  (k_ck (k_inb (0 : Int32) 24) <|
  k_ck (k_inb x1 192) <|
  f_X12_bay_b108 (k_min (99 : Int32) ((σ1.1 17 ((0 : Int32)).toNatClampNeg) - (σ1.1 28 (x1).toNatClampNeg))) σ1))
  else if x2 = (2 : Int32) then
  (k_ck (k_inb x1 192) <|
  some ((σ1.1 27 (x1).toNatClampNeg), σ1))
  else 
  (k_ck (k_inb (0 : Int32) 24) <|
  if (σ1.1 19 ((0 : Int32)).toNatClampNeg) = (-1 : Int32) then
  (k_ck (k_inb (0 : Int32) 24) <|
  if (σ1.1 18 ((0 : Int32)).toNatClampNeg) = x1 then
  (f_X12_bay_b141 (1 : Int32) σ1)
  else
  (f_X12_bay_b140 σ1))
  else
  (f_X12_bay_b140 σ1)))
  else
  (some ((0 : Int32), σ1))
def f_X12_bay_b22  (x1 : Int32) (x2 : Int32) (σ : MSt) : Option (Int32 × MSt) :=
  f_X12_bay_b27 x1 x2 (2 : Int32) σ
def f_X12_bay  (p1 : Int32) (p2 : Int32) (σ : MSt) : Option (Int32 × MSt) :=
  k_bd (f_X12_isBay p1 σ) fun q2 σ1 =>
  if q2 = 0 then
  (f_X12_bay_b27 p1 p2 (1 : Int32) σ1)
  else
  (if p2 < 0 then
  (f_X12_bay_b22 p1 p2 σ1)
  else
  (if p2 ≤ (3 : Int32) then
  (f_X12_bay_b27 p1 p2 (0 : Int32) σ1)
  else
  (f_X12_bay_b22 p1 p2 σ1)))
def rmX12_bay : Room := { frames := 1, cells := 0, slots := 0, locals := 23 }
set_option maxHeartbeats 4000000 in
set_option maxRecDepth 100000 in
theorem c_X12_bay (l : Launch) (G : va_G) (Y : CY) (w : MSt → va_W) (ad : Nat → Nat)  (LM : LayM ad w Y) (p1 : Int32) (p2 : Int32) (σ : MSt) (r : Int32) (σ' : MSt) (hf : f_X12_bay p1 p2 σ = some (r, σ')) : k_Mi l yX12_bay wsX12_bay rmX12_bay G Y w [.ref (ad 0), .int p1, .int p2] σ r σ' := by
  refine k_ofi (own := RX12) (cc := cX12_bay) (maxL := 3) (some .int) (by decide) rfl rfl (Nat.le_of_ble_eq_true rfl) ?_
  intro p e s m below meth c A C ls hl hw
  have hx := C.1
  have hb := C.2.1
  have hown := C.2.2.2.2.1
  have hts := C.2.2.2.2.2.1
  have hks := C.2.2.2.2.2.2.1
  have hl : lv_has ls 3 [(0, .ref (ad 0)), (1, .int p1), (2, .int p2)] := hl
  have b141 : ∀ (y0 : Int32) (σ : MSt) (H : Heap) (locs : List Loc) (ls : Array Slot), lv_has ls 3 [] → k_W G w A s.heap σ H locs → f_X12_bay_b141 y0 σ = some (r, σ') → W p l e rmX12_bay s m [.ref (ad 0), .int p1, .int p2].toArray below meth c H locs 0 0 (MQ below (k_Qi G w A r σ') [.ref (ad 0), .int p1, .int p2].toArray s 0 0 A) (F0 m 141 ls [.int y0]) := by
    intro y0 σ H locs ls hl hw hf
    unfold f_X12_bay_b141 at hf
    exact k_iret C hw hf dX12_bay_141
  have b140 : ∀ (σ : MSt) (H : Heap) (locs : List Loc) (ls : Array Slot), lv_has ls 3 [] → k_W G w A s.heap σ H locs → f_X12_bay_b140 σ = some (r, σ') → W p l e rmX12_bay s m [.ref (ad 0), .int p1, .int p2].toArray below meth c H locs 0 0 (MQ below (k_Qi G w A r σ') [.ref (ad 0), .int p1, .int p2].toArray s 0 0 A) (F0 m 140 ls []) := by
    intro σ H locs ls hl hw hf
    unfold f_X12_bay_b140 at hf
    refine lv_iconst (v := (0 : Int32)) hx hb dX12_bay_140 (by decide) ?_
    exact b141 (0 : Int32) σ _ _ _ (lv_sub hl [] rfl) hw hf
  have b108 : ∀ (y0 : Int32) (σ : MSt) (H : Heap) (locs : List Loc) (ls : Array Slot), lv_has ls 3 [] → k_W G w A s.heap σ H locs → f_X12_bay_b108 y0 σ = some (r, σ') → W p l e rmX12_bay s m [.ref (ad 0), .int p1, .int p2].toArray below meth c H locs 0 0 (MQ below (k_Qi G w A r σ') [.ref (ad 0), .int p1, .int p2].toArray s 0 0 A) (F0 m 108 ls [.int y0]) := by
    intro y0 σ H locs ls hl hw hf
    unfold f_X12_bay_b108 at hf
    exact k_iret C hw hf dX12_bay_108
  have b27 : ∀ (x1 : Int32) (x2 : Int32) (y1 : Int32) (σ : MSt) (H : Heap) (locs : List Loc) (ls : Array Slot), lv_has ls 3 [(0, .ref (ad 0)), (1, .int x1), (2, .int x2)] → k_W G w A s.heap σ H locs → f_X12_bay_b27 x1 x2 y1 σ = some (r, σ') → W p l e rmX12_bay s m [.ref (ad 0), .int p1, .int p2].toArray below meth c H locs 0 0 (MQ below (k_Qi G w A r σ') [.ref (ad 0), .int p1, .int p2].toArray s 0 0 A) (F0 m 27 ls [.int y1, .ref (ad 0)]) := by
    intro x1 x2 y1 σ H locs ls hl hw hf
    unfold f_X12_bay_b27 at hf
    refine k_put C hw (LM_0 LM) (ci := 12) rfl k_in12 tyX12 tyX12_ok nmX12 0 (by decide) lk12_145 rfl ⟨rfl, rfl⟩ rfl dX12_bay_27 (fun σ1 eq H locs hw => ?_)
    have hf := k_nmE eq hf
    refine lv_aload_n hx hb dX12_bay_30 rfl (lv_at hl 0 rfl) ?_
    refine k_get C hw (LM_0 LM) (ci := 12) rfl k_in12 0 (by decide) lk12_145 (v := .int (σ1.1 0 0)) rfl dX12_bay_31 ?_
    refine lv_if_eq (tgt := 39) hx hb dX12_bay_34 (by decide) (fun h => ?_) (fun h => ?_)
    · have hf := k_ifT h hf
      refine lv_iload_n hx hb dX12_bay_39 rfl (lv_at hl 2 rfl) ?_
      by_cases h0 : x2 = (0 : Int32)
      · have hf := k_ifT h0 hf
        refine lv_tableIn (tgt := 68) hx hb dX12_bay_40 (by rw [h0]; decide) (by rw [h0]; decide) (by rw [h0]; rfl) (by decide) ?_
        refine lv_aload_n hx hb dX12_bay_68 rfl (lv_at hl 0 rfl) ?_
        refine k_get C hw (LM_0 LM) (ci := 12) rfl k_in12 41 (by decide) lk12_90 (v := .ref (ad 26)) rfl dX12_bay_69 ?_
        refine lv_iload_n hx hb dX12_bay_72 rfl (lv_at hl 1 rfl) ?_
        obtain ⟨hi, hf⟩ := k_ckE hf
        refine k_iald C hw (LM_26 LM) hi dX12_bay_73 ?_
        exact k_iret C hw hf dX12_bay_74
      have hf := k_ifF h0 hf
      by_cases h1 : x2 = (1 : Int32)
      · have hf := k_ifT h1 hf
        refine lv_tableIn (tgt := 75) hx hb dX12_bay_40 (by rw [h1]; decide) (by rw [h1]; decide) (by rw [h1]; rfl) (by decide) ?_
        refine lv_aload_n hx hb dX12_bay_75 rfl (lv_at hl 0 rfl) ?_
        refine k_get C hw (LM_0 LM) (ci := 12) rfl k_in12 43 (by decide) lk12_96 (v := .ref (ad 28)) rfl dX12_bay_76 ?_
        refine lv_iload_n hx hb dX12_bay_79 rfl (lv_at hl 1 rfl) ?_
        obtain ⟨hi, hf⟩ := k_ckE hf
        refine k_iald C hw (LM_28 LM) hi dX12_bay_80 ?_
        refine lv_iconst (v := (-1 : Int32)) hx hb dX12_bay_81 (by decide) ?_
        refine lv_icmp_ne (tgt := 90) hx hb dX12_bay_82 (by decide) (fun h => ?_) (fun h => ?_)
        · have hf := k_ifF h hf
          refine lv_bipush (v := (99 : Int32)) hx hb dX12_bay_90 (by decide) ?_
          refine lv_aload_n hx hb dX12_bay_92 rfl (lv_at hl 0 rfl) ?_
          refine k_get C hw (LM_0 LM) (ci := 12) rfl k_in12 32 (by decide) lk12_63 (v := .ref (ad 17)) rfl dX12_bay_93 ?_
          refine lv_iconst (v := (0 : Int32)) hx hb dX12_bay_96 (by decide) ?_
          obtain ⟨hi, hf⟩ := k_ckE hf
          refine k_iald C hw (LM_17 LM) hi dX12_bay_97 ?_
          refine lv_aload_n hx hb dX12_bay_98 rfl (lv_at hl 0 rfl) ?_
          refine k_get C hw (LM_0 LM) (ci := 12) rfl k_in12 43 (by decide) lk12_96 (v := .ref (ad 28)) rfl dX12_bay_99 ?_
          refine lv_iload_n hx hb dX12_bay_102 rfl (lv_at hl 1 rfl) ?_
          obtain ⟨hi, hf⟩ := k_ckE hf
          refine k_iald C hw (LM_28 LM) hi dX12_bay_103 ?_
          refine lv_isub hx hb dX12_bay_104 ?_
          refine k_mmin C hl.1 ml12_340 ms_Lib_Math_min_name mi_Math mc_Lib_Math_min_name (Nat.le_of_ble_eq_true rfl) (Nat.le_of_ble_eq_true rfl) dX12_bay_105 ?_
          exact b108 (k_min (99 : Int32) ((σ1.1 17 ((0 : Int32)).toNatClampNeg) - (σ1.1 28 (x1).toNatClampNeg))) σ1 _ _ _ (lv_sub hl [] rfl) hw hf
        · have hf := k_ifT h hf
          refine lv_bipush (v := (99 : Int32)) hx hb dX12_bay_85 (by decide) ?_
          refine lv_goto (tgt := 108) hx hb dX12_bay_87 (by decide) ?_
          exact b108 (99 : Int32) σ1 _ _ _ (lv_sub hl [] rfl) hw hf
      have hf := k_ifF h1 hf
      by_cases h2 : x2 = (2 : Int32)
      · have hf := k_ifT h2 hf
        refine lv_tableIn (tgt := 109) hx hb dX12_bay_40 (by rw [h2]; decide) (by rw [h2]; decide) (by rw [h2]; rfl) (by decide) ?_
        refine lv_aload_n hx hb dX12_bay_109 rfl (lv_at hl 0 rfl) ?_
        refine k_get C hw (LM_0 LM) (ci := 12) rfl k_in12 42 (by decide) lk12_93 (v := .ref (ad 27)) rfl dX12_bay_110 ?_
        refine lv_iload_n hx hb dX12_bay_113 rfl (lv_at hl 1 rfl) ?_
        obtain ⟨hi, hf⟩ := k_ckE hf
        refine k_iald C hw (LM_27 LM) hi dX12_bay_114 ?_
        exact k_iret C hw hf dX12_bay_115
      have hf := k_ifF h2 hf
      refine lv_tableOut (tgt := 116) hx hb dX12_bay_40 (k_tout (fun k q1 q2 q3 => ?_)) (by decide) ?_
      · have q4 : x2 = Int32.ofInt k := by rw [← q3, Int32.ofInt_toInt]
        have q5 : k = 0 ∨ k = 1 ∨ k = 2 := by omega
        rcases q5 with rfl | rfl | rfl
        · exact h0 q4
        · exact h1 q4
        · exact h2 q4
      refine lv_aload_n hx hb dX12_bay_116 rfl (lv_at hl 0 rfl) ?_
      refine k_get C hw (LM_0 LM) (ci := 12) rfl k_in12 34 (by decide) lk12_69 (v := .ref (ad 19)) rfl dX12_bay_117 ?_
      refine lv_iconst (v := (0 : Int32)) hx hb dX12_bay_120 (by decide) ?_
      obtain ⟨hi, hf⟩ := k_ckE hf
      refine k_iald C hw (LM_19 LM) hi dX12_bay_121 ?_
      refine lv_iconst (v := (-1 : Int32)) hx hb dX12_bay_122 (by decide) ?_
      refine lv_icmp_ne (tgt := 140) hx hb dX12_bay_123 (by decide) (fun h => ?_) (fun h => ?_)
      · have hf := k_ifF h hf
        exact b140 σ1 _ _ _ (lv_sub hl [] rfl) hw hf
      · have hf := k_ifT h hf
        refine lv_aload_n hx hb dX12_bay_126 rfl (lv_at hl 0 rfl) ?_
        refine k_get C hw (LM_0 LM) (ci := 12) rfl k_in12 33 (by decide) lk12_66 (v := .ref (ad 18)) rfl dX12_bay_127 ?_
        refine lv_iconst (v := (0 : Int32)) hx hb dX12_bay_130 (by decide) ?_
        obtain ⟨hi, hf⟩ := k_ckE hf
        refine k_iald C hw (LM_18 LM) hi dX12_bay_131 ?_
        refine lv_iload_n hx hb dX12_bay_132 rfl (lv_at hl 1 rfl) ?_
        refine lv_icmp_ne (tgt := 140) hx hb dX12_bay_133 (by decide) (fun h => ?_) (fun h => ?_)
        · have hf := k_ifF h hf
          exact b140 σ1 _ _ _ (lv_sub hl [] rfl) hw hf
        · have hf := k_ifT h hf
          refine lv_iconst (v := (1 : Int32)) hx hb dX12_bay_136 (by decide) ?_
          refine lv_goto (tgt := 141) hx hb dX12_bay_137 (by decide) ?_
          exact b141 (1 : Int32) σ1 _ _ _ (lv_sub hl [] rfl) hw hf
    · have hf := k_ifF h hf
      refine lv_iconst (v := (0 : Int32)) hx hb dX12_bay_37 (by decide) ?_
      exact k_iret C hw hf dX12_bay_38
  have b22 : ∀ (x1 : Int32) (x2 : Int32) (σ : MSt) (H : Heap) (locs : List Loc) (ls : Array Slot), lv_has ls 3 [(0, .ref (ad 0)), (1, .int x1), (2, .int x2)] → k_W G w A s.heap σ H locs → f_X12_bay_b22 x1 x2 σ = some (r, σ') → W p l e rmX12_bay s m [.ref (ad 0), .int p1, .int p2].toArray below meth c H locs 0 0 (MQ below (k_Qi G w A r σ') [.ref (ad 0), .int p1, .int p2].toArray s 0 0 A) (F0 m 22 ls [.ref (ad 0)]) := by
    intro x1 x2 σ H locs ls hl hw hf
    unfold f_X12_bay_b22 at hf
    refine lv_iconst (v := (2 : Int32)) hx hb dX12_bay_22 (by decide) ?_
    refine lv_goto (tgt := 27) hx hb dX12_bay_23 (by decide) ?_
    exact b27 x1 x2 (2 : Int32) σ _ _ _ (lv_sub hl [0, 1, 2] rfl) hw hf
  unfold f_X12_bay at hf
  refine lv_aload_n hx hb dX12_bay_0 rfl (lv_at hl 0 rfl) ?_
  refine lv_aload_n hx hb dX12_bay_1 rfl (lv_at hl 0 rfl) ?_
  refine lv_iload_n hx hb dX12_bay_2 rfl (lv_at hl 1 rfl) ?_
  obtain ⟨q2, σ1, hq, hf⟩ := k_bdE hf
  refine k_callVi C hw (c_X12_isBay l G Y w ad LM p1 σ q2 σ1 hq) (cwV 1 hts gX12_bay_X12_isBay rfl rfl rfl (by decide +kernel) ⟨Nat.le_of_ble_eq_true rfl, Nat.le_of_ble_eq_true rfl⟩) (k_recv C hw (LM_0 LM) rfl) rfl hl.1 rfl (Nat.le_of_ble_eq_true rfl) dX12_bay_3 (fun H locs hw => ?_)
  refine lv_if_ne (tgt := 13) hx hb dX12_bay_6 (by decide) (fun h => ?_) (fun h => ?_)
  · have hf := k_ifF h hf
    refine lv_iload_n hx hb dX12_bay_13 rfl (lv_at hl 2 rfl) ?_
    refine lv_if_lt (tgt := 22) hx hb dX12_bay_14 (by decide) (fun h => ?_) (fun h => ?_)
    · have hf := k_ifT h hf
      exact b22 p1 p2 σ1 _ _ _ (lv_sub hl [0, 1, 2] rfl) hw hf
    · have hf := k_ifF h hf
      refine lv_iload_n hx hb dX12_bay_17 rfl (lv_at hl 2 rfl) ?_
      refine lv_iconst (v := (3 : Int32)) hx hb dX12_bay_18 (by decide) ?_
      refine lv_icmp_le (tgt := 26) hx hb dX12_bay_19 (by decide) (fun h => ?_) (fun h => ?_)
      · have hf := k_ifT h hf
        refine lv_iconst (v := (0 : Int32)) hx hb dX12_bay_26 (by decide) ?_
        exact b27 p1 p2 (0 : Int32) σ1 _ _ _ (lv_sub hl [0, 1, 2] rfl) hw hf
      · have hf := k_ifF h hf
        exact b22 p1 p2 σ1 _ _ _ (lv_sub hl [0, 1, 2] rfl) hw hf
  · have hf := k_ifT h hf
    refine lv_iconst (v := (1 : Int32)) hx hb dX12_bay_9 (by decide) ?_
    refine lv_goto (tgt := 27) hx hb dX12_bay_10 (by decide) ?_
    exact b27 p1 p2 (1 : Int32) σ1 _ _ _ (lv_sub hl [0, 1, 2] rfl) hw hf
def f_X12_laneOf_b59  (r2 : Int32 → Int32 → Int32 → MSt → Option (Int32 × MSt)) (x1 : Int32) (x2 : Int32) (x3 : Int32) (σ : MSt) : Option (Int32 × MSt) :=
  k_nm (x3 + (1 : Int32)) fun u1 =>
  r2 x1 x2 u1 σ
def f_X12_laneOf_b52  (x3 : Int32) (σ : MSt) : Option (Int32 × MSt) :=
  k_ck (k_inb x3 24) <|
  some ((σ.1 6 (x3).toNatClampNeg), σ)
def f_X12_laneOf_b32  (r2 : Int32 → Int32 → Int32 → MSt → Option (Int32 × MSt)) (x1 : Int32) (x2 : Int32) (x3 : Int32) (σ : MSt) : Option (Int32 × MSt) :=
  k_ck (k_inb x3 24) <|
  if (σ.1 4 (x3).toNatClampNeg) = x2 then
  (k_ck (k_inb x3 24) <|
  if (σ.1 5 (x3).toNatClampNeg) = x1 then
  (f_X12_laneOf_b52 x3 σ)
  else
  (f_X12_laneOf_b59 r2 x1 x2 x3 σ))
  else
  (f_X12_laneOf_b59 r2 x1 x2 x3 σ)
def f_X12_laneOf_b2_s  (r2 : Int32 → Int32 → Int32 → MSt → Option (Int32 × MSt)) (x1 : Int32) (x2 : Int32) (x3 : Int32) (σ : MSt) : Option (Int32 × MSt) :=
  k_ck (k_inb (1 : Int32) 18) <|
  if (σ.1 2 ((1 : Int32)).toNatClampNeg) ≤ x3 then
  (some ((0 : Int32), σ))
  else
  (k_ck (k_inb x3 24) <|
  if (σ.1 4 (x3).toNatClampNeg) = x1 then
  (k_ck (k_inb x3 24) <|
  if (σ.1 5 (x3).toNatClampNeg) = x2 then
  (f_X12_laneOf_b52 x3 σ)
  else
  (f_X12_laneOf_b32 r2 x1 x2 x3 σ))
  else
  (f_X12_laneOf_b32 r2 x1 x2 x3 σ))
def f_X12_laneOf_b2  : Nat → Int32 → Int32 → Int32 → MSt → Option (Int32 × MSt)
  | 0 => fun _ _ _ _ => none
  | n + 1 => f_X12_laneOf_b2_s (f_X12_laneOf_b2 n)
def f_X12_laneOf  (p1 : Int32) (p2 : Int32) (σ : MSt) : Option (Int32 × MSt) :=
  f_X12_laneOf_b2 FU p1 p2 (0 : Int32) σ
def rmX12_laneOf : Room := { frames := 0, cells := 0, slots := 0, locals := 0 }
set_option maxHeartbeats 4000000 in
set_option maxRecDepth 100000 in
theorem c_X12_laneOf (l : Launch) (G : va_G) (Y : CY) (w : MSt → va_W) (ad : Nat → Nat)  (LM : LayM ad w Y) (p1 : Int32) (p2 : Int32) (σ : MSt) (r : Int32) (σ' : MSt) (hf : f_X12_laneOf p1 p2 σ = some (r, σ')) : k_Mi l yX12_laneOf wsX12_laneOf rmX12_laneOf G Y w [.ref (ad 0), .int p1, .int p2] σ r σ' := by
  refine k_ofi (own := RX12) (cc := cX12_laneOf) (maxL := 4) (some .int) (by decide) rfl rfl (Nat.le_of_ble_eq_true rfl) ?_
  intro p e s m below meth c A C ls hl hw
  have hx := C.1
  have hb := C.2.1
  have hown := C.2.2.2.2.1
  have hts := C.2.2.2.2.2.1
  have hks := C.2.2.2.2.2.2.1
  have hl : lv_has ls 4 [(0, .ref (ad 0)), (1, .int p1), (2, .int p2)] := hl
  have b52 : ∀ (x3 : Int32) (σ : MSt) (H : Heap) (locs : List Loc) (ls : Array Slot), lv_has ls 4 [(0, .ref (ad 0)), (3, .int x3)] → k_W G w A s.heap σ H locs → f_X12_laneOf_b52 x3 σ = some (r, σ') → W p l e rmX12_laneOf s m [.ref (ad 0), .int p1, .int p2].toArray below meth c H locs 0 0 (MQ below (k_Qi G w A r σ') [.ref (ad 0), .int p1, .int p2].toArray s 0 0 A) (F0 m 52 ls []) := by
    intro x3 σ H locs ls hl hw hf
    unfold f_X12_laneOf_b52 at hf
    refine lv_aload_n hx hb dX12_laneOf_52 rfl (lv_at hl 0 rfl) ?_
    refine k_get C hw (LM_0 LM) (ci := 12) rfl k_in12 7 (by decide) lk12_25 (v := .ref (ad 6)) rfl dX12_laneOf_53 ?_
    refine lv_iload_n hx hb dX12_laneOf_56 rfl (lv_at hl 1 rfl) ?_
    obtain ⟨hi, hf⟩ := k_ckE hf
    refine k_iald C hw (LM_6 LM) hi dX12_laneOf_57 ?_
    exact k_iret C hw hf dX12_laneOf_58
  have b2 : ∀ (n2 : Nat) (x1 : Int32) (x2 : Int32) (x3 : Int32) (σ : MSt) (H : Heap) (locs : List Loc) (ls : Array Slot), lv_has ls 4 [(0, .ref (ad 0)), (1, .int x1), (2, .int x2), (3, .int x3)] → k_W G w A s.heap σ H locs → f_X12_laneOf_b2 n2 x1 x2 x3 σ = some (r, σ') → W p l e rmX12_laneOf s m [.ref (ad 0), .int p1, .int p2].toArray below meth c H locs 0 0 (MQ below (k_Qi G w A r σ') [.ref (ad 0), .int p1, .int p2].toArray s 0 0 A) (F0 m 2 ls []) := by
    intro n2
    induction n2 with
    | zero =>
      intro x1 x2 x3 σ H locs ls hl hw hf
      have hf : (none : Option (Int32 × MSt)) = some (r, σ') := hf
      cases hf
    | succ n2 ih2 =>
      have b59 : ∀ (x1 : Int32) (x2 : Int32) (x3 : Int32) (σ : MSt) (H : Heap) (locs : List Loc) (ls : Array Slot), lv_has ls 4 [(0, .ref (ad 0)), (1, .int x1), (2, .int x2), (3, .int x3)] → k_W G w A s.heap σ H locs → f_X12_laneOf_b59 (f_X12_laneOf_b2 n2) x1 x2 x3 σ = some (r, σ') → W p l e rmX12_laneOf s m [.ref (ad 0), .int p1, .int p2].toArray below meth c H locs 0 0 (MQ below (k_Qi G w A r σ') [.ref (ad 0), .int p1, .int p2].toArray s 0 0 A) (F0 m 59 ls []) := by
        intro x1 x2 x3 σ H locs ls hl hw hf
        unfold f_X12_laneOf_b59 at hf
        obtain ⟨u1, ex⟩ : ∃ y : Int32, y = (x3 + (1 : Int32)) := ⟨_, rfl⟩
        have hf := k_nmE ex hf
        refine lv_iinc (v := u1) (lv' := [(3, .int u1), (0, .ref (ad 0)), (1, .int x1), (2, .int x2)]) hx hb dX12_laneOf_59 hl (k := 3) rfl (by rw [ex]; rfl) (by decide) rfl (fun ls hl => ?_)
        refine lv_goto (tgt := 2) hx hb dX12_laneOf_62 (by decide) ?_
        exact ih2 x1 x2 u1 σ _ _ _ (lv_sub hl [1, 2, 3, 0] rfl) hw hf
      have b32 : ∀ (x1 : Int32) (x2 : Int32) (x3 : Int32) (σ : MSt) (H : Heap) (locs : List Loc) (ls : Array Slot), lv_has ls 4 [(0, .ref (ad 0)), (1, .int x1), (2, .int x2), (3, .int x3)] → k_W G w A s.heap σ H locs → f_X12_laneOf_b32 (f_X12_laneOf_b2 n2) x1 x2 x3 σ = some (r, σ') → W p l e rmX12_laneOf s m [.ref (ad 0), .int p1, .int p2].toArray below meth c H locs 0 0 (MQ below (k_Qi G w A r σ') [.ref (ad 0), .int p1, .int p2].toArray s 0 0 A) (F0 m 32 ls []) := by
        intro x1 x2 x3 σ H locs ls hl hw hf
        unfold f_X12_laneOf_b32 at hf
        refine lv_aload_n hx hb dX12_laneOf_32 rfl (lv_at hl 0 rfl) ?_
        refine k_get C hw (LM_0 LM) (ci := 12) rfl k_in12 5 (by decide) lk12_19 (v := .ref (ad 4)) rfl dX12_laneOf_33 ?_
        refine lv_iload_n hx hb dX12_laneOf_36 rfl (lv_at hl 3 rfl) ?_
        obtain ⟨hi, hf⟩ := k_ckE hf
        refine k_iald C hw (LM_4 LM) hi dX12_laneOf_37 ?_
        refine lv_iload_n hx hb dX12_laneOf_38 rfl (lv_at hl 2 rfl) ?_
        refine lv_icmp_ne (tgt := 59) hx hb dX12_laneOf_39 (by decide) (fun h => ?_) (fun h => ?_)
        · have hf := k_ifF h hf
          exact b59 x1 x2 x3 σ _ _ _ (lv_sub hl [0, 1, 2, 3] rfl) hw hf
        · have hf := k_ifT h hf
          refine lv_aload_n hx hb dX12_laneOf_42 rfl (lv_at hl 0 rfl) ?_
          refine k_get C hw (LM_0 LM) (ci := 12) rfl k_in12 6 (by decide) lk12_22 (v := .ref (ad 5)) rfl dX12_laneOf_43 ?_
          refine lv_iload_n hx hb dX12_laneOf_46 rfl (lv_at hl 3 rfl) ?_
          obtain ⟨hi, hf⟩ := k_ckE hf
          refine k_iald C hw (LM_5 LM) hi dX12_laneOf_47 ?_
          refine lv_iload_n hx hb dX12_laneOf_48 rfl (lv_at hl 1 rfl) ?_
          refine lv_icmp_ne (tgt := 59) hx hb dX12_laneOf_49 (by decide) (fun h => ?_) (fun h => ?_)
          · have hf := k_ifF h hf
            exact b59 x1 x2 x3 σ _ _ _ (lv_sub hl [0, 1, 2, 3] rfl) hw hf
          · have hf := k_ifT h hf
            exact b52 x3 σ _ _ _ (lv_sub hl [0, 3] rfl) hw hf
      intro x1 x2 x3 σ H locs ls hl hw hf
      have hf : f_X12_laneOf_b2_s (f_X12_laneOf_b2 n2) x1 x2 x3 σ = some (r, σ') := hf
      unfold f_X12_laneOf_b2_s at hf
      refine lv_iload_n hx hb dX12_laneOf_2 rfl (lv_at hl 3 rfl) ?_
      refine lv_aload_n hx hb dX12_laneOf_3 rfl (lv_at hl 0 rfl) ?_
      refine k_get C hw (LM_0 LM) (ci := 12) rfl k_in12 3 (by decide) lk12_13 (v := .ref (ad 2)) rfl dX12_laneOf_4 ?_
      refine lv_iconst (v := (1 : Int32)) hx hb dX12_laneOf_7 (by decide) ?_
      obtain ⟨hi, hf⟩ := k_ckE hf
      refine k_iald C hw (LM_2 LM) hi dX12_laneOf_8 ?_
      refine lv_icmp_ge (tgt := 65) hx hb dX12_laneOf_9 (by decide) (fun h => ?_) (fun h => ?_)
      · have hf := k_ifT h hf
        refine lv_iconst (v := (0 : Int32)) hx hb dX12_laneOf_65 (by decide) ?_
        exact k_iret C hw hf dX12_laneOf_66
      · have hf := k_ifF h hf
        refine lv_aload_n hx hb dX12_laneOf_12 rfl (lv_at hl 0 rfl) ?_
        refine k_get C hw (LM_0 LM) (ci := 12) rfl k_in12 5 (by decide) lk12_19 (v := .ref (ad 4)) rfl dX12_laneOf_13 ?_
        refine lv_iload_n hx hb dX12_laneOf_16 rfl (lv_at hl 3 rfl) ?_
        obtain ⟨hi, hf⟩ := k_ckE hf
        refine k_iald C hw (LM_4 LM) hi dX12_laneOf_17 ?_
        refine lv_iload_n hx hb dX12_laneOf_18 rfl (lv_at hl 1 rfl) ?_
        refine lv_icmp_ne (tgt := 32) hx hb dX12_laneOf_19 (by decide) (fun h => ?_) (fun h => ?_)
        · have hf := k_ifF h hf
          exact b32 x1 x2 x3 σ _ _ _ (lv_sub hl [0, 1, 2, 3] rfl) hw hf
        · have hf := k_ifT h hf
          refine lv_aload_n hx hb dX12_laneOf_22 rfl (lv_at hl 0 rfl) ?_
          refine k_get C hw (LM_0 LM) (ci := 12) rfl k_in12 6 (by decide) lk12_22 (v := .ref (ad 5)) rfl dX12_laneOf_23 ?_
          refine lv_iload_n hx hb dX12_laneOf_26 rfl (lv_at hl 3 rfl) ?_
          obtain ⟨hi, hf⟩ := k_ckE hf
          refine k_iald C hw (LM_5 LM) hi dX12_laneOf_27 ?_
          refine lv_iload_n hx hb dX12_laneOf_28 rfl (lv_at hl 2 rfl) ?_
          refine lv_icmp_eq (tgt := 52) hx hb dX12_laneOf_29 (by decide) (fun h => ?_) (fun h => ?_)
          · have hf := k_ifT h hf
            exact b52 x3 σ _ _ _ (lv_sub hl [0, 3] rfl) hw hf
          · have hf := k_ifF h hf
            exact b32 x1 x2 x3 σ _ _ _ (lv_sub hl [0, 1, 2, 3] rfl) hw hf
  unfold f_X12_laneOf at hf
  refine lv_iconst (v := (0 : Int32)) hx hb dX12_laneOf_0 (by decide) ?_
  refine lv_istore_n (lv' := [(3, .int (0 : Int32)), (0, .ref (ad 0)), (1, .int p1), (2, .int p2)]) hx hb dX12_laneOf_1 rfl hl (by decide) rfl (fun ls hl => ?_)
  exact b2 FU p1 p2 (0 : Int32) σ _ _ _ (lv_sub hl [1, 2, 3, 0] rfl) hw hf
def f_X12_lane_b31  (y0 : Int32) (σ : MSt) : Option (Int32 × MSt) :=
  some (y0, σ)
def f_X12_lane_b30   (σ : MSt) : Option (Int32 × MSt) :=
  f_X12_lane_b31 (-1 : Int32) σ
def f_X12_lane  (p1 : Int32) (p2 : Int32) (σ : MSt) : Option (Int32 × MSt) :=
  k_nm (mI σ 0 0 (0 : Int32)) fun σ1 =>
  k_bd (f_X12_isBay p1 σ1) fun q3 σ2 =>
  if q3 = 0 then
  (f_X12_lane_b30 σ2)
  else
  (k_bd (f_X12_isBay p2 σ2) fun q5 σ4 =>
  if q5 = 0 then
  (f_X12_lane_b30 σ4)
  else
  (k_bd (f_X12_laneOf p1 p2 σ4) fun q7 σ6 =>
  f_X12_lane_b31 q7 σ6))
def rmX12_lane : Room := { frames := 1, cells := 0, slots := 0, locals := 23 }
set_option maxHeartbeats 4000000 in
set_option maxRecDepth 100000 in
theorem c_X12_lane (l : Launch) (G : va_G) (Y : CY) (w : MSt → va_W) (ad : Nat → Nat)  (LM : LayM ad w Y) (p1 : Int32) (p2 : Int32) (σ : MSt) (r : Int32) (σ' : MSt) (hf : f_X12_lane p1 p2 σ = some (r, σ')) : k_Mi l yX12_lane wsX12_lane rmX12_lane G Y w [.ref (ad 0), .int p1, .int p2] σ r σ' := by
  refine k_ofi (own := RX12) (cc := cX12_lane) (maxL := 3) (some .int) (by decide) rfl rfl (Nat.le_of_ble_eq_true rfl) ?_
  intro p e s m below meth c A C ls hl hw
  have hx := C.1
  have hb := C.2.1
  have hown := C.2.2.2.2.1
  have hts := C.2.2.2.2.2.1
  have hks := C.2.2.2.2.2.2.1
  have hl : lv_has ls 3 [(0, .ref (ad 0)), (1, .int p1), (2, .int p2)] := hl
  have b31 : ∀ (y0 : Int32) (σ : MSt) (H : Heap) (locs : List Loc) (ls : Array Slot), lv_has ls 3 [] → k_W G w A s.heap σ H locs → f_X12_lane_b31 y0 σ = some (r, σ') → W p l e rmX12_lane s m [.ref (ad 0), .int p1, .int p2].toArray below meth c H locs 0 0 (MQ below (k_Qi G w A r σ') [.ref (ad 0), .int p1, .int p2].toArray s 0 0 A) (F0 m 31 ls [.int y0]) := by
    intro y0 σ H locs ls hl hw hf
    unfold f_X12_lane_b31 at hf
    exact k_iret C hw hf dX12_lane_31
  have b30 : ∀ (σ : MSt) (H : Heap) (locs : List Loc) (ls : Array Slot), lv_has ls 3 [] → k_W G w A s.heap σ H locs → f_X12_lane_b30 σ = some (r, σ') → W p l e rmX12_lane s m [.ref (ad 0), .int p1, .int p2].toArray below meth c H locs 0 0 (MQ below (k_Qi G w A r σ') [.ref (ad 0), .int p1, .int p2].toArray s 0 0 A) (F0 m 30 ls []) := by
    intro σ H locs ls hl hw hf
    unfold f_X12_lane_b30 at hf
    refine lv_iconst (v := (-1 : Int32)) hx hb dX12_lane_30 (by decide) ?_
    exact b31 (-1 : Int32) σ _ _ _ (lv_sub hl [] rfl) hw hf
  unfold f_X12_lane at hf
  refine lv_aload_n hx hb dX12_lane_0 rfl (lv_at hl 0 rfl) ?_
  refine lv_iconst (v := (0 : Int32)) hx hb dX12_lane_1 (by decide) ?_
  refine k_put C hw (LM_0 LM) (ci := 12) rfl k_in12 tyX12 tyX12_ok nmX12 0 (by decide) lk12_145 rfl ⟨rfl, rfl⟩ rfl dX12_lane_2 (fun σ1 eq H locs hw => ?_)
  have hf := k_nmE eq hf
  refine lv_aload_n hx hb dX12_lane_5 rfl (lv_at hl 0 rfl) ?_
  refine lv_iload_n hx hb dX12_lane_6 rfl (lv_at hl 1 rfl) ?_
  obtain ⟨q3, σ2, hq, hf⟩ := k_bdE hf
  refine k_callVi C hw (c_X12_isBay l G Y w ad LM p1 σ1 q3 σ2 hq) (cwV 1 hts gX12_lane_X12_isBay rfl rfl rfl (by decide +kernel) ⟨Nat.le_of_ble_eq_true rfl, Nat.le_of_ble_eq_true rfl⟩) (k_recv C hw (LM_0 LM) rfl) rfl hl.1 rfl (Nat.le_of_ble_eq_true rfl) dX12_lane_7 (fun H locs hw => ?_)
  refine lv_if_eq (tgt := 30) hx hb dX12_lane_10 (by decide) (fun h => ?_) (fun h => ?_)
  · have hf := k_ifT h hf
    exact b30 σ2 _ _ _ (lv_sub hl [] rfl) hw hf
  · have hf := k_ifF h hf
    refine lv_aload_n hx hb dX12_lane_13 rfl (lv_at hl 0 rfl) ?_
    refine lv_iload_n hx hb dX12_lane_14 rfl (lv_at hl 2 rfl) ?_
    obtain ⟨q5, σ4, hq, hf⟩ := k_bdE hf
    refine k_callVi C hw (c_X12_isBay l G Y w ad LM p2 σ2 q5 σ4 hq) (cwV 1 hts gX12_lane_X12_isBay rfl rfl rfl (by decide +kernel) ⟨Nat.le_of_ble_eq_true rfl, Nat.le_of_ble_eq_true rfl⟩) (k_recv C hw (LM_0 LM) rfl) rfl hl.1 rfl (Nat.le_of_ble_eq_true rfl) dX12_lane_15 (fun H locs hw => ?_)
    refine lv_if_eq (tgt := 30) hx hb dX12_lane_18 (by decide) (fun h => ?_) (fun h => ?_)
    · have hf := k_ifT h hf
      exact b30 σ4 _ _ _ (lv_sub hl [] rfl) hw hf
    · have hf := k_ifF h hf
      refine lv_aload_n hx hb dX12_lane_21 rfl (lv_at hl 0 rfl) ?_
      refine lv_iload_n hx hb dX12_lane_22 rfl (lv_at hl 1 rfl) ?_
      refine lv_iload_n hx hb dX12_lane_23 rfl (lv_at hl 2 rfl) ?_
      obtain ⟨q7, σ6, hq, hf⟩ := k_bdE hf
      refine k_callVi C hw (c_X12_laneOf l G Y w ad LM p1 p2 σ4 q7 σ6 hq) (cwV 2 hts gX12_lane_X12_laneOf rfl rfl rfl (by decide +kernel) ⟨Nat.le_of_ble_eq_true rfl, Nat.le_of_ble_eq_true rfl⟩) (k_recv C hw (LM_0 LM) rfl) rfl hl.1 rfl (Nat.le_of_ble_eq_true rfl) dX12_lane_24 (fun H locs hw => ?_)
      refine lv_goto (tgt := 31) hx hb dX12_lane_27 (by decide) ?_
      exact b31 q7 σ6 _ _ _ (lv_sub hl [] rfl) hw hf
def f_X12_deed_b57  (y0 : Int32) (σ : MSt) : Option (Int32 × MSt) :=
  some (y0, σ)
def f_X12_deed  (p1 : Int32) (p2 : Int32) (σ : MSt) : Option (Int32 × MSt) :=
  k_nm (mI σ 0 0 (0 : Int32)) fun σ1 =>
  k_bd (f_X12_isDeed p1 σ1) fun q3 σ2 =>
  if q3 = 0 then
  (some ((-1 : Int32), σ2))
  else
  (if p2 = 0 then
  (k_ck (k_inb p1 24) <|
  f_X12_deed_b57 (σ2.1 7 (p1).toNatClampNeg) σ2)
  else
  (if p2 = (1 : Int32) then
  (k_ck (k_inb p1 24) <|
  f_X12_deed_b57 (σ2.1 8 (p1).toNatClampNeg) σ2)
  else
  (if p2 = (2 : Int32) then
  (k_ck (k_inb p1 24) <|
  f_X12_deed_b57 (σ2.1 9 (p1).toNatClampNeg) σ2)
  else
  (f_X12_deed_b57 (-1 : Int32) σ2))))
def rmX12_deed : Room := { frames := 1, cells := 0, slots := 0, locals := 21 }
set_option maxHeartbeats 4000000 in
set_option maxRecDepth 100000 in
theorem c_X12_deed (l : Launch) (G : va_G) (Y : CY) (w : MSt → va_W) (ad : Nat → Nat)  (LM : LayM ad w Y) (p1 : Int32) (p2 : Int32) (σ : MSt) (r : Int32) (σ' : MSt) (hf : f_X12_deed p1 p2 σ = some (r, σ')) : k_Mi l yX12_deed wsX12_deed rmX12_deed G Y w [.ref (ad 0), .int p1, .int p2] σ r σ' := by
  refine k_ofi (own := RX12) (cc := cX12_deed) (maxL := 3) (some .int) (by decide) rfl rfl (Nat.le_of_ble_eq_true rfl) ?_
  intro p e s m below meth c A C ls hl hw
  have hx := C.1
  have hb := C.2.1
  have hown := C.2.2.2.2.1
  have hts := C.2.2.2.2.2.1
  have hks := C.2.2.2.2.2.2.1
  have hl : lv_has ls 3 [(0, .ref (ad 0)), (1, .int p1), (2, .int p2)] := hl
  have b57 : ∀ (y0 : Int32) (σ : MSt) (H : Heap) (locs : List Loc) (ls : Array Slot), lv_has ls 3 [] → k_W G w A s.heap σ H locs → f_X12_deed_b57 y0 σ = some (r, σ') → W p l e rmX12_deed s m [.ref (ad 0), .int p1, .int p2].toArray below meth c H locs 0 0 (MQ below (k_Qi G w A r σ') [.ref (ad 0), .int p1, .int p2].toArray s 0 0 A) (F0 m 57 ls [.int y0]) := by
    intro y0 σ H locs ls hl hw hf
    unfold f_X12_deed_b57 at hf
    exact k_iret C hw hf dX12_deed_57
  unfold f_X12_deed at hf
  refine lv_aload_n hx hb dX12_deed_0 rfl (lv_at hl 0 rfl) ?_
  refine lv_iconst (v := (0 : Int32)) hx hb dX12_deed_1 (by decide) ?_
  refine k_put C hw (LM_0 LM) (ci := 12) rfl k_in12 tyX12 tyX12_ok nmX12 0 (by decide) lk12_145 rfl ⟨rfl, rfl⟩ rfl dX12_deed_2 (fun σ1 eq H locs hw => ?_)
  have hf := k_nmE eq hf
  refine lv_aload_n hx hb dX12_deed_5 rfl (lv_at hl 0 rfl) ?_
  refine lv_iload_n hx hb dX12_deed_6 rfl (lv_at hl 1 rfl) ?_
  obtain ⟨q3, σ2, hq, hf⟩ := k_bdE hf
  refine k_callVi C hw (c_X12_isDeed l G Y w ad LM p1 σ1 q3 σ2 hq) (cwV 1 hts gX12_deed_X12_isDeed rfl rfl rfl (by decide +kernel) ⟨Nat.le_of_ble_eq_true rfl, Nat.le_of_ble_eq_true rfl⟩) (k_recv C hw (LM_0 LM) rfl) rfl hl.1 rfl (Nat.le_of_ble_eq_true rfl) dX12_deed_7 (fun H locs hw => ?_)
  refine lv_if_ne (tgt := 15) hx hb dX12_deed_10 (by decide) (fun h => ?_) (fun h => ?_)
  · have hf := k_ifF h hf
    refine lv_iload_n hx hb dX12_deed_15 rfl (lv_at hl 2 rfl) ?_
    refine lv_if_ne (tgt := 28) hx hb dX12_deed_16 (by decide) (fun h => ?_) (fun h => ?_)
    · have hf := k_ifF h hf
      refine lv_iload_n hx hb dX12_deed_28 rfl (lv_at hl 2 rfl) ?_
      refine lv_iconst (v := (1 : Int32)) hx hb dX12_deed_29 (by decide) ?_
      refine lv_icmp_ne (tgt := 42) hx hb dX12_deed_30 (by decide) (fun h => ?_) (fun h => ?_)
      · have hf := k_ifF h hf
        refine lv_iload_n hx hb dX12_deed_42 rfl (lv_at hl 2 rfl) ?_
        refine lv_iconst (v := (2 : Int32)) hx hb dX12_deed_43 (by decide) ?_
        refine lv_icmp_ne (tgt := 56) hx hb dX12_deed_44 (by decide) (fun h => ?_) (fun h => ?_)
        · have hf := k_ifF h hf
          refine lv_iconst (v := (-1 : Int32)) hx hb dX12_deed_56 (by decide) ?_
          exact b57 (-1 : Int32) σ2 _ _ _ (lv_sub hl [] rfl) hw hf
        · have hf := k_ifT h hf
          refine lv_aload_n hx hb dX12_deed_47 rfl (lv_at hl 0 rfl) ?_
          refine k_get C hw (LM_0 LM) (ci := 12) rfl k_in12 10 (by decide) lk12_34 (v := .ref (ad 9)) rfl dX12_deed_48 ?_
          refine lv_iload_n hx hb dX12_deed_51 rfl (lv_at hl 1 rfl) ?_
          obtain ⟨hi, hf⟩ := k_ckE hf
          refine k_iald C hw (LM_9 LM) hi dX12_deed_52 ?_
          refine lv_goto (tgt := 57) hx hb dX12_deed_53 (by decide) ?_
          exact b57 (σ2.1 9 (p1).toNatClampNeg) σ2 _ _ _ (lv_sub hl [] rfl) hw hf
      · have hf := k_ifT h hf
        refine lv_aload_n hx hb dX12_deed_33 rfl (lv_at hl 0 rfl) ?_
        refine k_get C hw (LM_0 LM) (ci := 12) rfl k_in12 9 (by decide) lk12_31 (v := .ref (ad 8)) rfl dX12_deed_34 ?_
        refine lv_iload_n hx hb dX12_deed_37 rfl (lv_at hl 1 rfl) ?_
        obtain ⟨hi, hf⟩ := k_ckE hf
        refine k_iald C hw (LM_8 LM) hi dX12_deed_38 ?_
        refine lv_goto (tgt := 57) hx hb dX12_deed_39 (by decide) ?_
        exact b57 (σ2.1 8 (p1).toNatClampNeg) σ2 _ _ _ (lv_sub hl [] rfl) hw hf
    · have hf := k_ifT h hf
      refine lv_aload_n hx hb dX12_deed_19 rfl (lv_at hl 0 rfl) ?_
      refine k_get C hw (LM_0 LM) (ci := 12) rfl k_in12 8 (by decide) lk12_28 (v := .ref (ad 7)) rfl dX12_deed_20 ?_
      refine lv_iload_n hx hb dX12_deed_23 rfl (lv_at hl 1 rfl) ?_
      obtain ⟨hi, hf⟩ := k_ckE hf
      refine k_iald C hw (LM_7 LM) hi dX12_deed_24 ?_
      refine lv_goto (tgt := 57) hx hb dX12_deed_25 (by decide) ?_
      exact b57 (σ2.1 7 (p1).toNatClampNeg) σ2 _ _ _ (lv_sub hl [] rfl) hw hf
  · have hf := k_ifT h hf
    refine lv_iconst (v := (-1 : Int32)) hx hb dX12_deed_13 (by decide) ?_
    exact k_iret C hw hf dX12_deed_14
def f_X12_wind_b25  (y0 : Int32) (σ : MSt) : Option (Int32 × MSt) :=
  some (y0, σ)
def f_X12_wind_b24   (σ : MSt) : Option (Int32 × MSt) :=
  f_X12_wind_b25 (-1 : Int32) σ
def f_X12_wind  (p1 : Int32) (σ : MSt) : Option (Int32 × MSt) :=
  k_nm (mI σ 0 0 (0 : Int32)) fun σ1 =>
  if p1 < 0 then
  (f_X12_wind_b24 σ1)
  else
  (if (9999 : Int32) < p1 then
  (f_X12_wind_b24 σ1)
  else
  (k_bd (f_X12_galeOf p1 σ1) fun q3 σ2 =>
  f_X12_wind_b25 q3 σ2))
def rmX12_wind : Room := { frames := 1, cells := 0, slots := 0, locals := 21 }
set_option maxHeartbeats 4000000 in
set_option maxRecDepth 100000 in
theorem c_X12_wind (l : Launch) (G : va_G) (Y : CY) (w : MSt → va_W) (ad : Nat → Nat)  (LM : LayM ad w Y) (p1 : Int32) (σ : MSt) (r : Int32) (σ' : MSt) (hf : f_X12_wind p1 σ = some (r, σ')) : k_Mi l yX12_wind wsX12_wind rmX12_wind G Y w [.ref (ad 0), .int p1] σ r σ' := by
  refine k_ofi (own := RX12) (cc := cX12_wind) (maxL := 2) (some .int) (by decide) rfl rfl (Nat.le_of_ble_eq_true rfl) ?_
  intro p e s m below meth c A C ls hl hw
  have hx := C.1
  have hb := C.2.1
  have hown := C.2.2.2.2.1
  have hts := C.2.2.2.2.2.1
  have hks := C.2.2.2.2.2.2.1
  have hl : lv_has ls 2 [(0, .ref (ad 0)), (1, .int p1)] := hl
  have b25 : ∀ (y0 : Int32) (σ : MSt) (H : Heap) (locs : List Loc) (ls : Array Slot), lv_has ls 2 [] → k_W G w A s.heap σ H locs → f_X12_wind_b25 y0 σ = some (r, σ') → W p l e rmX12_wind s m [.ref (ad 0), .int p1].toArray below meth c H locs 0 0 (MQ below (k_Qi G w A r σ') [.ref (ad 0), .int p1].toArray s 0 0 A) (F0 m 25 ls [.int y0]) := by
    intro y0 σ H locs ls hl hw hf
    unfold f_X12_wind_b25 at hf
    exact k_iret C hw hf dX12_wind_25
  have b24 : ∀ (σ : MSt) (H : Heap) (locs : List Loc) (ls : Array Slot), lv_has ls 2 [] → k_W G w A s.heap σ H locs → f_X12_wind_b24 σ = some (r, σ') → W p l e rmX12_wind s m [.ref (ad 0), .int p1].toArray below meth c H locs 0 0 (MQ below (k_Qi G w A r σ') [.ref (ad 0), .int p1].toArray s 0 0 A) (F0 m 24 ls []) := by
    intro σ H locs ls hl hw hf
    unfold f_X12_wind_b24 at hf
    refine lv_iconst (v := (-1 : Int32)) hx hb dX12_wind_24 (by decide) ?_
    exact b25 (-1 : Int32) σ _ _ _ (lv_sub hl [] rfl) hw hf
  unfold f_X12_wind at hf
  refine lv_aload_n hx hb dX12_wind_0 rfl (lv_at hl 0 rfl) ?_
  refine lv_iconst (v := (0 : Int32)) hx hb dX12_wind_1 (by decide) ?_
  refine k_put C hw (LM_0 LM) (ci := 12) rfl k_in12 tyX12 tyX12_ok nmX12 0 (by decide) lk12_145 rfl ⟨rfl, rfl⟩ rfl dX12_wind_2 (fun σ1 eq H locs hw => ?_)
  have hf := k_nmE eq hf
  refine lv_iload_n hx hb dX12_wind_5 rfl (lv_at hl 1 rfl) ?_
  refine lv_if_lt (tgt := 24) hx hb dX12_wind_6 (by decide) (fun h => ?_) (fun h => ?_)
  · have hf := k_ifT h hf
    exact b24 σ1 _ _ _ (lv_sub hl [] rfl) hw hf
  · have hf := k_ifF h hf
    refine lv_iload_n hx hb dX12_wind_9 rfl (lv_at hl 1 rfl) ?_
    refine lv_sipush (v := (9999 : Int32)) hx hb dX12_wind_10 (by decide) ?_
    refine lv_icmp_gt (tgt := 24) hx hb dX12_wind_13 (by decide) (fun h => ?_) (fun h => ?_)
    · have hf := k_ifT h hf
      exact b24 σ1 _ _ _ (lv_sub hl [] rfl) hw hf
    · have hf := k_ifF h hf
      refine lv_aload_n hx hb dX12_wind_16 rfl (lv_at hl 0 rfl) ?_
      refine lv_iload_n hx hb dX12_wind_17 rfl (lv_at hl 1 rfl) ?_
      obtain ⟨q3, σ2, hq, hf⟩ := k_bdE hf
      refine k_callVi C hw (c_X12_galeOf l G Y w ad LM p1 σ1 q3 σ2 hq) (cwV 1 hts gX12_wind_X12_galeOf rfl rfl rfl (by decide +kernel) ⟨Nat.le_of_ble_eq_true rfl, Nat.le_of_ble_eq_true rfl⟩) (k_recv C hw (LM_0 LM) rfl) rfl hl.1 rfl (Nat.le_of_ble_eq_true rfl) dX12_wind_18 (fun H locs hw => ?_)
      refine lv_goto (tgt := 25) hx hb dX12_wind_21 (by decide) ?_
      exact b25 q3 σ2 _ _ _ (lv_sub hl [] rfl) hw hf
def f_X12_isAhead_b28  (y0 : Int32) (σ : MSt) : Option (Int32 × MSt) :=
  k_ck (k_bo y0) <|
  some (y0, σ)
def f_X12_isAhead_b27   (σ : MSt) : Option (Int32 × MSt) :=
  f_X12_isAhead_b28 (0 : Int32) σ
def f_X12_isAhead  (p1 : Int32) (σ : MSt) : Option (Int32 × MSt) :=
  k_ck (k_inb (0 : Int32) 24) <|
  if p1 < (σ.1 17 ((0 : Int32)).toNatClampNeg) then
  (f_X12_isAhead_b27 σ)
  else
  (k_ck (k_inb (0 : Int32) 24) <|
  if ((σ.1 17 ((0 : Int32)).toNatClampNeg) + (99 : Int32)) < p1 then
  (f_X12_isAhead_b27 σ)
  else
  (f_X12_isAhead_b28 (1 : Int32) σ))
def rmX12_isAhead : Room := { frames := 0, cells := 0, slots := 0, locals := 0 }
set_option maxHeartbeats 4000000 in
set_option maxRecDepth 100000 in
theorem c_X12_isAhead (l : Launch) (G : va_G) (Y : CY) (w : MSt → va_W) (ad : Nat → Nat)  (LM : LayM ad w Y) (p1 : Int32) (σ : MSt) (r : Int32) (σ' : MSt) (hf : f_X12_isAhead p1 σ = some (r, σ')) : k_Mi l yX12_isAhead wsX12_isAhead rmX12_isAhead G Y w [.ref (ad 0), .int p1] σ r σ' := by
  refine k_ofi (own := RX12) (cc := cX12_isAhead) (maxL := 2) (some .boolean) (by decide) rfl rfl (Nat.le_of_ble_eq_true rfl) ?_
  intro p e s m below meth c A C ls hl hw
  have hx := C.1
  have hb := C.2.1
  have hown := C.2.2.2.2.1
  have hts := C.2.2.2.2.2.1
  have hks := C.2.2.2.2.2.2.1
  have hl : lv_has ls 2 [(0, .ref (ad 0)), (1, .int p1)] := hl
  have b28 : ∀ (y0 : Int32) (σ : MSt) (H : Heap) (locs : List Loc) (ls : Array Slot), lv_has ls 2 [] → k_W G w A s.heap σ H locs → f_X12_isAhead_b28 y0 σ = some (r, σ') → W p l e rmX12_isAhead s m [.ref (ad 0), .int p1].toArray below meth c H locs 0 0 (MQ below (k_Qi G w A r σ') [.ref (ad 0), .int p1].toArray s 0 0 A) (F0 m 28 ls [.int y0]) := by
    intro y0 σ H locs ls hl hw hf
    unfold f_X12_isAhead_b28 at hf
    obtain ⟨hz, hf⟩ := k_ckE hf
    exact k_zret C hw (k_boE hz).1 hf dX12_isAhead_28
  have b27 : ∀ (σ : MSt) (H : Heap) (locs : List Loc) (ls : Array Slot), lv_has ls 2 [] → k_W G w A s.heap σ H locs → f_X12_isAhead_b27 σ = some (r, σ') → W p l e rmX12_isAhead s m [.ref (ad 0), .int p1].toArray below meth c H locs 0 0 (MQ below (k_Qi G w A r σ') [.ref (ad 0), .int p1].toArray s 0 0 A) (F0 m 27 ls []) := by
    intro σ H locs ls hl hw hf
    unfold f_X12_isAhead_b27 at hf
    refine lv_iconst (v := (0 : Int32)) hx hb dX12_isAhead_27 (by decide) ?_
    exact b28 (0 : Int32) σ _ _ _ (lv_sub hl [] rfl) hw hf
  unfold f_X12_isAhead at hf
  refine lv_iload_n hx hb dX12_isAhead_0 rfl (lv_at hl 1 rfl) ?_
  refine lv_aload_n hx hb dX12_isAhead_1 rfl (lv_at hl 0 rfl) ?_
  refine k_get C hw (LM_0 LM) (ci := 12) rfl k_in12 32 (by decide) lk12_63 (v := .ref (ad 17)) rfl dX12_isAhead_2 ?_
  refine lv_iconst (v := (0 : Int32)) hx hb dX12_isAhead_5 (by decide) ?_
  obtain ⟨hi, hf⟩ := k_ckE hf
  refine k_iald C hw (LM_17 LM) hi dX12_isAhead_6 ?_
  refine lv_icmp_lt (tgt := 27) hx hb dX12_isAhead_7 (by decide) (fun h => ?_) (fun h => ?_)
  · have hf := k_ifT h hf
    exact b27 σ _ _ _ (lv_sub hl [] rfl) hw hf
  · have hf := k_ifF h hf
    refine lv_iload_n hx hb dX12_isAhead_10 rfl (lv_at hl 1 rfl) ?_
    refine lv_aload_n hx hb dX12_isAhead_11 rfl (lv_at hl 0 rfl) ?_
    refine k_get C hw (LM_0 LM) (ci := 12) rfl k_in12 32 (by decide) lk12_63 (v := .ref (ad 17)) rfl dX12_isAhead_12 ?_
    refine lv_iconst (v := (0 : Int32)) hx hb dX12_isAhead_15 (by decide) ?_
    obtain ⟨hi, hf⟩ := k_ckE hf
    refine k_iald C hw (LM_17 LM) hi dX12_isAhead_16 ?_
    refine lv_bipush (v := (99 : Int32)) hx hb dX12_isAhead_17 (by decide) ?_
    refine lv_iadd hx hb dX12_isAhead_19 ?_
    refine lv_icmp_gt (tgt := 27) hx hb dX12_isAhead_20 (by decide) (fun h => ?_) (fun h => ?_)
    · have hf := k_ifT h hf
      exact b27 σ _ _ _ (lv_sub hl [] rfl) hw hf
    · have hf := k_ifF h hf
      refine lv_iconst (v := (1 : Int32)) hx hb dX12_isAhead_23 (by decide) ?_
      refine lv_goto (tgt := 28) hx hb dX12_isAhead_24 (by decide) ?_
      exact b28 (1 : Int32) σ _ _ _ (lv_sub hl [] rfl) hw hf
def f_X12_mood_b21   (σ : MSt) : Option (Int32 × MSt) :=
  some ((-1 : Int32), σ)
def f_X12_mood  (p1 : Int32) (p2 : Int32) (σ : MSt) : Option (Int32 × MSt) :=
  k_nm (mI σ 0 0 (0 : Int32)) fun σ1 =>
  k_bd (f_X12_isBay p1 σ1) fun q3 σ2 =>
  if q3 = 0 then
  (f_X12_mood_b21 σ2)
  else
  (k_bd (f_X12_isAhead p2 σ2) fun q5 σ4 =>
  if q5 = 0 then
  (f_X12_mood_b21 σ4)
  else
  (k_bv (f_X12_foresees (0 : Int32) p1 p2 (-1 : Int32) σ4) fun σ6 =>
  k_bd (f_X12_moodBy (σ6.1 0 51) (σ6.1 0 52) (σ6.1 0 53) p2 (0 : Int32) σ6) fun q8 σ7 =>
  some (q8, σ7)))
def rmX12_mood : Room := { frames := 4, cells := 0, slots := 0, locals := 98 }
set_option maxHeartbeats 4000000 in
set_option maxRecDepth 100000 in
theorem c_X12_mood (l : Launch) (G : va_G) (Y : CY) (w : MSt → va_W) (ad : Nat → Nat)  (LM : LayM ad w Y) (p1 : Int32) (p2 : Int32) (σ : MSt) (r : Int32) (σ' : MSt) (hf : f_X12_mood p1 p2 σ = some (r, σ')) : k_Mi l yX12_mood wsX12_mood rmX12_mood G Y w [.ref (ad 0), .int p1, .int p2] σ r σ' := by
  refine k_ofi (own := RX12) (cc := cX12_mood) (maxL := 3) (some .int) (by decide) rfl rfl (Nat.le_of_ble_eq_true rfl) ?_
  intro p e s m below meth c A C ls hl hw
  have hx := C.1
  have hb := C.2.1
  have hown := C.2.2.2.2.1
  have hts := C.2.2.2.2.2.1
  have hks := C.2.2.2.2.2.2.1
  have hl : lv_has ls 3 [(0, .ref (ad 0)), (1, .int p1), (2, .int p2)] := hl
  have b21 : ∀ (σ : MSt) (H : Heap) (locs : List Loc) (ls : Array Slot), lv_has ls 3 [] → k_W G w A s.heap σ H locs → f_X12_mood_b21 σ = some (r, σ') → W p l e rmX12_mood s m [.ref (ad 0), .int p1, .int p2].toArray below meth c H locs 0 0 (MQ below (k_Qi G w A r σ') [.ref (ad 0), .int p1, .int p2].toArray s 0 0 A) (F0 m 21 ls []) := by
    intro σ H locs ls hl hw hf
    unfold f_X12_mood_b21 at hf
    refine lv_iconst (v := (-1 : Int32)) hx hb dX12_mood_21 (by decide) ?_
    exact k_iret C hw hf dX12_mood_22
  unfold f_X12_mood at hf
  refine lv_aload_n hx hb dX12_mood_0 rfl (lv_at hl 0 rfl) ?_
  refine lv_iconst (v := (0 : Int32)) hx hb dX12_mood_1 (by decide) ?_
  refine k_put C hw (LM_0 LM) (ci := 12) rfl k_in12 tyX12 tyX12_ok nmX12 0 (by decide) lk12_145 rfl ⟨rfl, rfl⟩ rfl dX12_mood_2 (fun σ1 eq H locs hw => ?_)
  have hf := k_nmE eq hf
  refine lv_aload_n hx hb dX12_mood_5 rfl (lv_at hl 0 rfl) ?_
  refine lv_iload_n hx hb dX12_mood_6 rfl (lv_at hl 1 rfl) ?_
  obtain ⟨q3, σ2, hq, hf⟩ := k_bdE hf
  refine k_callVi C hw (c_X12_isBay l G Y w ad LM p1 σ1 q3 σ2 hq) (cwV 1 hts gX12_mood_X12_isBay rfl rfl rfl (by decide +kernel) ⟨Nat.le_of_ble_eq_true rfl, Nat.le_of_ble_eq_true rfl⟩) (k_recv C hw (LM_0 LM) rfl) rfl hl.1 rfl (Nat.le_of_ble_eq_true rfl) dX12_mood_7 (fun H locs hw => ?_)
  refine lv_if_eq (tgt := 21) hx hb dX12_mood_10 (by decide) (fun h => ?_) (fun h => ?_)
  · have hf := k_ifT h hf
    exact b21 σ2 _ _ _ (lv_sub hl [] rfl) hw hf
  · have hf := k_ifF h hf
    refine lv_aload_n hx hb dX12_mood_13 rfl (lv_at hl 0 rfl) ?_
    refine lv_iload_n hx hb dX12_mood_14 rfl (lv_at hl 2 rfl) ?_
    obtain ⟨q5, σ4, hq, hf⟩ := k_bdE hf
    refine k_callVi C hw (c_X12_isAhead l G Y w ad LM p2 σ2 q5 σ4 hq) (cwV 1 hts gX12_mood_X12_isAhead rfl rfl rfl (by decide +kernel) ⟨Nat.le_of_ble_eq_true rfl, Nat.le_of_ble_eq_true rfl⟩) (k_recv C hw (LM_0 LM) rfl) rfl hl.1 rfl (Nat.le_of_ble_eq_true rfl) dX12_mood_15 (fun H locs hw => ?_)
    refine lv_if_ne (tgt := 23) hx hb dX12_mood_18 (by decide) (fun h => ?_) (fun h => ?_)
    · have hf := k_ifF h hf
      refine lv_aload_n hx hb dX12_mood_23 rfl (lv_at hl 0 rfl) ?_
      refine lv_iconst (v := (0 : Int32)) hx hb dX12_mood_24 (by decide) ?_
      refine lv_iload_n hx hb dX12_mood_25 rfl (lv_at hl 1 rfl) ?_
      refine lv_iload_n hx hb dX12_mood_26 rfl (lv_at hl 2 rfl) ?_
      refine lv_iconst (v := (-1 : Int32)) hx hb dX12_mood_27 (by decide) ?_
      obtain ⟨σ6, hq, hf⟩ := k_bvE hf
      refine k_callVv C hw (c_X12_foresees l G Y w ad LM (0 : Int32) p1 p2 (-1 : Int32) σ4 σ6 hq) (cwV 4 hts gX12_mood_X12_foresees rfl rfl rfl (by decide +kernel) ⟨Nat.le_of_ble_eq_true rfl, Nat.le_of_ble_eq_true rfl⟩) (k_recv C hw (LM_0 LM) rfl) rfl hl.1 rfl (Nat.le_of_ble_eq_true rfl) dX12_mood_28 (fun H locs hw => ?_)
      refine lv_aload_n hx hb dX12_mood_31 rfl (lv_at hl 0 rfl) ?_
      refine lv_aload_n hx hb dX12_mood_32 rfl (lv_at hl 0 rfl) ?_
      refine k_get C hw (LM_0 LM) (ci := 12) rfl k_in12 51 (by decide) lk12_370 (v := .int (σ6.1 0 51)) rfl dX12_mood_33 ?_
      refine lv_aload_n hx hb dX12_mood_36 rfl (lv_at hl 0 rfl) ?_
      refine k_get C hw (LM_0 LM) (ci := 12) rfl k_in12 52 (by decide) lk12_373 (v := .int (σ6.1 0 52)) rfl dX12_mood_37 ?_
      refine lv_aload_n hx hb dX12_mood_40 rfl (lv_at hl 0 rfl) ?_
      refine k_get C hw (LM_0 LM) (ci := 12) rfl k_in12 53 (by decide) lk12_376 (v := .int (σ6.1 0 53)) rfl dX12_mood_41 ?_
      refine lv_iload_n hx hb dX12_mood_44 rfl (lv_at hl 2 rfl) ?_
      refine lv_iconst (v := (0 : Int32)) hx hb dX12_mood_45 (by decide) ?_
      obtain ⟨q8, σ7, hq, hf⟩ := k_bdE hf
      refine k_callVi C hw (c_X12_moodBy l G Y w ad LM (σ6.1 0 51) (σ6.1 0 52) (σ6.1 0 53) p2 (0 : Int32) σ6 q8 σ7 hq) (cwV 5 hts gX12_mood_X12_moodBy rfl rfl rfl (by decide +kernel) ⟨Nat.le_of_ble_eq_true rfl, Nat.le_of_ble_eq_true rfl⟩) (k_recv C hw (LM_0 LM) rfl) rfl hl.1 rfl (Nat.le_of_ble_eq_true rfl) dX12_mood_46 (fun H locs hw => ?_)
      exact k_iret C hw hf dX12_mood_49
    · have hf := k_ifT h hf
      exact b21 σ4 _ _ _ (lv_sub hl [] rfl) hw hf
def f_X12_holds_b39  (y0 : Int32) (σ : MSt) : Option (Int32 × MSt) :=
  some (y0, σ)
def f_X12_holds_b21   (σ : MSt) : Option (Int32 × MSt) :=
  some ((-1 : Int32), σ)
def f_X12_holds  (p1 : Int32) (p2 : Int32) (σ : MSt) : Option (Int32 × MSt) :=
  k_nm (mI σ 0 0 (0 : Int32)) fun σ1 =>
  k_bd (f_X12_isBay p1 σ1) fun q3 σ2 =>
  if q3 = 0 then
  (f_X12_holds_b21 σ2)
  else
  (k_bd (f_X12_isAhead p2 σ2) fun q5 σ4 =>
  if q5 = 0 then
  (f_X12_holds_b21 σ4)
  else
  (k_bd (f_X12_willHold (0 : Int32) p1 p2 (-1 : Int32) σ4) fun q7 σ6 =>
  if q7 = 0 then
  (f_X12_holds_b39 (0 : Int32) σ6)
  else
  (f_X12_holds_b39 (1 : Int32) σ6)))
def rmX12_holds : Room := { frames := 6, cells := 0, slots := 0, locals := 148 }
set_option maxHeartbeats 4000000 in
set_option maxRecDepth 100000 in
theorem c_X12_holds (l : Launch) (G : va_G) (Y : CY) (w : MSt → va_W) (ad : Nat → Nat)  (LM : LayM ad w Y) (p1 : Int32) (p2 : Int32) (σ : MSt) (r : Int32) (σ' : MSt) (hf : f_X12_holds p1 p2 σ = some (r, σ')) : k_Mi l yX12_holds wsX12_holds rmX12_holds G Y w [.ref (ad 0), .int p1, .int p2] σ r σ' := by
  refine k_ofi (own := RX12) (cc := cX12_holds) (maxL := 3) (some .int) (by decide) rfl rfl (Nat.le_of_ble_eq_true rfl) ?_
  intro p e s m below meth c A C ls hl hw
  have hx := C.1
  have hb := C.2.1
  have hown := C.2.2.2.2.1
  have hts := C.2.2.2.2.2.1
  have hks := C.2.2.2.2.2.2.1
  have hl : lv_has ls 3 [(0, .ref (ad 0)), (1, .int p1), (2, .int p2)] := hl
  have b39 : ∀ (y0 : Int32) (σ : MSt) (H : Heap) (locs : List Loc) (ls : Array Slot), lv_has ls 3 [] → k_W G w A s.heap σ H locs → f_X12_holds_b39 y0 σ = some (r, σ') → W p l e rmX12_holds s m [.ref (ad 0), .int p1, .int p2].toArray below meth c H locs 0 0 (MQ below (k_Qi G w A r σ') [.ref (ad 0), .int p1, .int p2].toArray s 0 0 A) (F0 m 39 ls [.int y0]) := by
    intro y0 σ H locs ls hl hw hf
    unfold f_X12_holds_b39 at hf
    exact k_iret C hw hf dX12_holds_39
  have b21 : ∀ (σ : MSt) (H : Heap) (locs : List Loc) (ls : Array Slot), lv_has ls 3 [] → k_W G w A s.heap σ H locs → f_X12_holds_b21 σ = some (r, σ') → W p l e rmX12_holds s m [.ref (ad 0), .int p1, .int p2].toArray below meth c H locs 0 0 (MQ below (k_Qi G w A r σ') [.ref (ad 0), .int p1, .int p2].toArray s 0 0 A) (F0 m 21 ls []) := by
    intro σ H locs ls hl hw hf
    unfold f_X12_holds_b21 at hf
    refine lv_iconst (v := (-1 : Int32)) hx hb dX12_holds_21 (by decide) ?_
    exact k_iret C hw hf dX12_holds_22
  unfold f_X12_holds at hf
  refine lv_aload_n hx hb dX12_holds_0 rfl (lv_at hl 0 rfl) ?_
  refine lv_iconst (v := (0 : Int32)) hx hb dX12_holds_1 (by decide) ?_
  refine k_put C hw (LM_0 LM) (ci := 12) rfl k_in12 tyX12 tyX12_ok nmX12 0 (by decide) lk12_145 rfl ⟨rfl, rfl⟩ rfl dX12_holds_2 (fun σ1 eq H locs hw => ?_)
  have hf := k_nmE eq hf
  refine lv_aload_n hx hb dX12_holds_5 rfl (lv_at hl 0 rfl) ?_
  refine lv_iload_n hx hb dX12_holds_6 rfl (lv_at hl 1 rfl) ?_
  obtain ⟨q3, σ2, hq, hf⟩ := k_bdE hf
  refine k_callVi C hw (c_X12_isBay l G Y w ad LM p1 σ1 q3 σ2 hq) (cwV 1 hts gX12_holds_X12_isBay rfl rfl rfl (by decide +kernel) ⟨Nat.le_of_ble_eq_true rfl, Nat.le_of_ble_eq_true rfl⟩) (k_recv C hw (LM_0 LM) rfl) rfl hl.1 rfl (Nat.le_of_ble_eq_true rfl) dX12_holds_7 (fun H locs hw => ?_)
  refine lv_if_eq (tgt := 21) hx hb dX12_holds_10 (by decide) (fun h => ?_) (fun h => ?_)
  · have hf := k_ifT h hf
    exact b21 σ2 _ _ _ (lv_sub hl [] rfl) hw hf
  · have hf := k_ifF h hf
    refine lv_aload_n hx hb dX12_holds_13 rfl (lv_at hl 0 rfl) ?_
    refine lv_iload_n hx hb dX12_holds_14 rfl (lv_at hl 2 rfl) ?_
    obtain ⟨q5, σ4, hq, hf⟩ := k_bdE hf
    refine k_callVi C hw (c_X12_isAhead l G Y w ad LM p2 σ2 q5 σ4 hq) (cwV 1 hts gX12_holds_X12_isAhead rfl rfl rfl (by decide +kernel) ⟨Nat.le_of_ble_eq_true rfl, Nat.le_of_ble_eq_true rfl⟩) (k_recv C hw (LM_0 LM) rfl) rfl hl.1 rfl (Nat.le_of_ble_eq_true rfl) dX12_holds_15 (fun H locs hw => ?_)
    refine lv_if_ne (tgt := 23) hx hb dX12_holds_18 (by decide) (fun h => ?_) (fun h => ?_)
    · have hf := k_ifF h hf
      refine lv_aload_n hx hb dX12_holds_23 rfl (lv_at hl 0 rfl) ?_
      refine lv_iconst (v := (0 : Int32)) hx hb dX12_holds_24 (by decide) ?_
      refine lv_iload_n hx hb dX12_holds_25 rfl (lv_at hl 1 rfl) ?_
      refine lv_iload_n hx hb dX12_holds_26 rfl (lv_at hl 2 rfl) ?_
      refine lv_iconst (v := (-1 : Int32)) hx hb dX12_holds_27 (by decide) ?_
      obtain ⟨q7, σ6, hq, hf⟩ := k_bdE hf
      refine k_callVi C hw (c_X12_willHold l G Y w ad LM (0 : Int32) p1 p2 (-1 : Int32) σ4 q7 σ6 hq) (cwV 4 hts gX12_holds_X12_willHold rfl rfl rfl (by decide +kernel) ⟨Nat.le_of_ble_eq_true rfl, Nat.le_of_ble_eq_true rfl⟩) (k_recv C hw (LM_0 LM) rfl) rfl hl.1 rfl (Nat.le_of_ble_eq_true rfl) dX12_holds_28 (fun H locs hw => ?_)
      refine lv_if_eq (tgt := 38) hx hb dX12_holds_31 (by decide) (fun h => ?_) (fun h => ?_)
      · have hf := k_ifT h hf
        refine lv_iconst (v := (0 : Int32)) hx hb dX12_holds_38 (by decide) ?_
        exact b39 (0 : Int32) σ6 _ _ _ (lv_sub hl [] rfl) hw hf
      · have hf := k_ifF h hf
        refine lv_iconst (v := (1 : Int32)) hx hb dX12_holds_34 (by decide) ?_
        refine lv_goto (tgt := 39) hx hb dX12_holds_35 (by decide) ?_
        exact b39 (1 : Int32) σ6 _ _ _ (lv_sub hl [] rfl) hw hf
    · have hf := k_ifT h hf
      exact b21 σ4 _ _ _ (lv_sub hl [] rfl) hw hf
def f_X12_law_b150  (y0 : Int64) (σ : MSt) : Option (Int64 × MSt) :=
  some (y0, σ)
def f_X12_law_b97  (x1 : Int32) (x2 : Int32) (x3 : Int32) (y0 : Int32) (σ : MSt) : Option (Int64 × MSt) :=
  k_ck (k_inb x2 192) <|
  k_ck (k_inb x2 192) <|
  k_ck (k_inb x2 192) <|
  k_ck (k_inb (0 : Int32) 24) <|
  k_bv (f_X12_calls (σ.1 26 (x2).toNatClampNeg) (σ.1 27 (x2).toNatClampNeg) (σ.1 28 (x2).toNatClampNeg) (σ.1 17 ((0 : Int32)).toNatClampNeg) y0 x3 σ) fun σ1 =>
  k_bd (f_X12_goes x1 σ1) fun q3 σ2 =>
  if q3 = 0 then
  (f_X12_law_b150 (-9223372036854775808 : Int64) σ2)
  else
  (k_ck (k_inb (0 : Int32) 64) <|
  f_X12_law_b150 (σ2.2 16 ((0 : Int32)).toNatClampNeg) σ2)
def f_X12_law_b59  (x1 : Int32) (x2 : Int32) (y0 : Int32) (σ : MSt) : Option (Int64 × MSt) :=
  if x1 = 0 then
  (f_X12_law_b97 x1 x2 y0 (0 : Int32) σ)
  else
  (k_ck (k_inb x2 192) <|
  k_ck (k_inb x2 192) <|
  k_ck (k_inb x2 192) <|
  k_ck (k_inb (0 : Int32) 24) <|
  k_bd (f_X12_moodBy (σ.1 26 (x2).toNatClampNeg) (σ.1 27 (x2).toNatClampNeg) (σ.1 28 (x2).toNatClampNeg) (σ.1 17 ((0 : Int32)).toNatClampNeg) y0 σ) fun q2 σ1 =>
  f_X12_law_b97 x1 x2 y0 q2 σ1)
def f_X12_law_b58  (x1 : Int32) (x2 : Int32) (σ : MSt) : Option (Int64 × MSt) :=
  f_X12_law_b59 x1 x2 (0 : Int32) σ
def f_X12_law_b30   (σ : MSt) : Option (Int64 × MSt) :=
  some ((-9223372036854775808 : Int64), σ)
def f_X12_law  (p1 : Int32) (p2 : Int32) (σ : MSt) : Option (Int64 × MSt) :=
  k_nm (mI σ 0 0 (0 : Int32)) fun σ1 =>
  if p1 < 0 then
  (f_X12_law_b30 σ1)
  else
  (if (2 : Int32) < p1 then
  (f_X12_law_b30 σ1)
  else
  (k_bd (f_X12_hasLaw p1 σ1) fun q3 σ2 =>
  if q3 = 0 then
  (f_X12_law_b30 σ2)
  else
  (k_bd (f_X12_isBay p2 σ2) fun q5 σ4 =>
  if q5 = 0 then
  (f_X12_law_b30 σ4)
  else
  (k_ck (k_inb (0 : Int32) 24) <|
  if (σ4.1 19 ((0 : Int32)).toNatClampNeg) = (-1 : Int32) then
  (k_ck (k_inb (0 : Int32) 24) <|
  if (σ4.1 18 ((0 : Int32)).toNatClampNeg) = p2 then
  (f_X12_law_b59 p1 p2 (1 : Int32) σ4)
  else
  (f_X12_law_b58 p1 p2 σ4))
  else
  (f_X12_law_b58 p1 p2 σ4)))))
def rmX12_law : Room := { frames := 4, cells := 0, slots := 0, locals := 98 }
set_option maxHeartbeats 4000000 in
set_option maxRecDepth 100000 in
theorem c_X12_law (l : Launch) (G : va_G) (Y : CY) (w : MSt → va_W) (ad : Nat → Nat)  (LM : LayM ad w Y) (p1 : Int32) (p2 : Int32) (σ : MSt) (r : Int64) (σ' : MSt) (hf : f_X12_law p1 p2 σ = some (r, σ')) : k_Ml l yX12_law wsX12_law rmX12_law G Y w [.ref (ad 0), .int p1, .int p2] σ r σ' := by
  refine k_ofl (own := RX12) (cc := cX12_law) (maxL := 5) (some .long) (by decide) rfl rfl (Nat.le_of_ble_eq_true rfl) ?_
  intro p e s m below meth c A C ls hl hw
  have hx := C.1
  have hb := C.2.1
  have hown := C.2.2.2.2.1
  have hts := C.2.2.2.2.2.1
  have hks := C.2.2.2.2.2.2.1
  have hl : lv_has ls 5 [(0, .ref (ad 0)), (1, .int p1), (2, .int p2)] := hl
  have b150 : ∀ (y0 : Int64) (σ : MSt) (H : Heap) (locs : List Loc) (ls : Array Slot), lv_has ls 5 [] → k_W G w A s.heap σ H locs → f_X12_law_b150 y0 σ = some (r, σ') → W p l e rmX12_law s m [.ref (ad 0), .int p1, .int p2].toArray below meth c H locs 0 0 (MQ below (k_Ql G w A r σ') [.ref (ad 0), .int p1, .int p2].toArray s 0 0 A) (F0 m 150 ls [.long y0]) := by
    intro y0 σ H locs ls hl hw hf
    unfold f_X12_law_b150 at hf
    exact k_lret C hw hf dX12_law_150
  have b97 : ∀ (x1 : Int32) (x2 : Int32) (x3 : Int32) (y0 : Int32) (σ : MSt) (H : Heap) (locs : List Loc) (ls : Array Slot), lv_has ls 5 [(0, .ref (ad 0)), (1, .int x1), (2, .int x2), (3, .int x3)] → k_W G w A s.heap σ H locs → f_X12_law_b97 x1 x2 x3 y0 σ = some (r, σ') → W p l e rmX12_law s m [.ref (ad 0), .int p1, .int p2].toArray below meth c H locs 0 0 (MQ below (k_Ql G w A r σ') [.ref (ad 0), .int p1, .int p2].toArray s 0 0 A) (F0 m 97 ls [.int y0]) := by
    intro x1 x2 x3 y0 σ H locs ls hl hw hf
    unfold f_X12_law_b97 at hf
    refine lv_istore (lv' := [(4, .int y0), (0, .ref (ad 0)), (1, .int x1), (2, .int x2), (3, .int x3)]) hx hb dX12_law_97 hl (by decide) rfl (fun ls hl => ?_)
    refine lv_aload_n hx hb dX12_law_99 rfl (lv_at hl 1 rfl) ?_
    refine lv_aload_n hx hb dX12_law_100 rfl (lv_at hl 1 rfl) ?_
    refine k_get C hw (LM_0 LM) (ci := 12) rfl k_in12 41 (by decide) lk12_90 (v := .ref (ad 26)) rfl dX12_law_101 ?_
    refine lv_iload_n hx hb dX12_law_104 rfl (lv_at hl 3 rfl) ?_
    obtain ⟨hi, hf⟩ := k_ckE hf
    refine k_iald C hw (LM_26 LM) hi dX12_law_105 ?_
    refine lv_aload_n hx hb dX12_law_106 rfl (lv_at hl 1 rfl) ?_
    refine k_get C hw (LM_0 LM) (ci := 12) rfl k_in12 42 (by decide) lk12_93 (v := .ref (ad 27)) rfl dX12_law_107 ?_
    refine lv_iload_n hx hb dX12_law_110 rfl (lv_at hl 3 rfl) ?_
    obtain ⟨hi, hf⟩ := k_ckE hf
    refine k_iald C hw (LM_27 LM) hi dX12_law_111 ?_
    refine lv_aload_n hx hb dX12_law_112 rfl (lv_at hl 1 rfl) ?_
    refine k_get C hw (LM_0 LM) (ci := 12) rfl k_in12 43 (by decide) lk12_96 (v := .ref (ad 28)) rfl dX12_law_113 ?_
    refine lv_iload_n hx hb dX12_law_116 rfl (lv_at hl 3 rfl) ?_
    obtain ⟨hi, hf⟩ := k_ckE hf
    refine k_iald C hw (LM_28 LM) hi dX12_law_117 ?_
    refine lv_aload_n hx hb dX12_law_118 rfl (lv_at hl 1 rfl) ?_
    refine k_get C hw (LM_0 LM) (ci := 12) rfl k_in12 32 (by decide) lk12_63 (v := .ref (ad 17)) rfl dX12_law_119 ?_
    refine lv_iconst (v := (0 : Int32)) hx hb dX12_law_122 (by decide) ?_
    obtain ⟨hi, hf⟩ := k_ckE hf
    refine k_iald C hw (LM_17 LM) hi dX12_law_123 ?_
    refine lv_iload hx hb dX12_law_124 (lv_at hl 0 rfl) ?_
    refine lv_iload_n hx hb dX12_law_126 rfl (lv_at hl 4 rfl) ?_
    obtain ⟨σ1, hq, hf⟩ := k_bvE hf
    refine k_callVv C hw (c_X12_calls l G Y w ad LM (σ.1 26 (x2).toNatClampNeg) (σ.1 27 (x2).toNatClampNeg) (σ.1 28 (x2).toNatClampNeg) (σ.1 17 ((0 : Int32)).toNatClampNeg) y0 x3 σ σ1 hq) (cwV 6 hts gX12_law_X12_calls rfl rfl rfl (by decide +kernel) ⟨Nat.le_of_ble_eq_true rfl, Nat.le_of_ble_eq_true rfl⟩) (k_recv C hw (LM_0 LM) rfl) rfl hl.1 rfl (Nat.le_of_ble_eq_true rfl) dX12_law_127 (fun H locs hw => ?_)
    refine lv_aload_n hx hb dX12_law_130 rfl (lv_at hl 1 rfl) ?_
    refine lv_iload_n hx hb dX12_law_131 rfl (lv_at hl 2 rfl) ?_
    obtain ⟨q3, σ2, hq, hf⟩ := k_bdE hf
    refine k_callVi C hw (c_X12_goes l G Y w ad LM x1 σ1 q3 σ2 hq) (cwV 1 hts gX12_law_X12_goes rfl rfl rfl (by decide +kernel) ⟨Nat.le_of_ble_eq_true rfl, Nat.le_of_ble_eq_true rfl⟩) (k_recv C hw (LM_0 LM) rfl) rfl hl.1 rfl (Nat.le_of_ble_eq_true rfl) dX12_law_132 (fun H locs hw => ?_)
    refine lv_if_eq (tgt := 147) hx hb dX12_law_135 (by decide) (fun h => ?_) (fun h => ?_)
    · have hf := k_ifT h hf
      refine lv_ldc2 (v := (-9223372036854775808 : Int64)) hx hb hown (hks.ts _ ck12_433) dX12_law_147 ?_
      exact b150 (-9223372036854775808 : Int64) σ2 _ _ _ (lv_sub hl [] rfl) hw hf
    · have hf := k_ifF h hf
      refine lv_aload_n hx hb dX12_law_138 rfl (lv_at hl 1 rfl) ?_
      refine k_get C hw (LM_0 LM) (ci := 12) rfl k_in12 30 (by decide) lk12_60 (v := .ref (ad 16)) rfl dX12_law_139 ?_
      refine lv_iconst (v := (0 : Int32)) hx hb dX12_law_142 (by decide) ?_
      obtain ⟨hi, hf⟩ := k_ckE hf
      refine k_lald C hw (LM_16 LM) hi dX12_law_143 ?_
      refine lv_goto (tgt := 150) hx hb dX12_law_144 (by decide) ?_
      exact b150 (σ2.2 16 ((0 : Int32)).toNatClampNeg) σ2 _ _ _ (lv_sub hl [] rfl) hw hf
  have b59 : ∀ (x1 : Int32) (x2 : Int32) (y0 : Int32) (σ : MSt) (H : Heap) (locs : List Loc) (ls : Array Slot), lv_has ls 5 [(0, .ref (ad 0)), (1, .int x1), (2, .int x2)] → k_W G w A s.heap σ H locs → f_X12_law_b59 x1 x2 y0 σ = some (r, σ') → W p l e rmX12_law s m [.ref (ad 0), .int p1, .int p2].toArray below meth c H locs 0 0 (MQ below (k_Ql G w A r σ') [.ref (ad 0), .int p1, .int p2].toArray s 0 0 A) (F0 m 59 ls [.int y0]) := by
    intro x1 x2 y0 σ H locs ls hl hw hf
    unfold f_X12_law_b59 at hf
    refine lv_istore_n (lv' := [(3, .int y0), (0, .ref (ad 0)), (1, .int x1), (2, .int x2)]) hx hb dX12_law_59 rfl hl (by decide) rfl (fun ls hl => ?_)
    refine lv_iload_n hx hb dX12_law_60 rfl (lv_at hl 2 rfl) ?_
    refine lv_if_ne (tgt := 68) hx hb dX12_law_61 (by decide) (fun h => ?_) (fun h => ?_)
    · have hf := k_ifF h hf
      refine lv_aload_n hx hb dX12_law_68 rfl (lv_at hl 1 rfl) ?_
      refine lv_aload_n hx hb dX12_law_69 rfl (lv_at hl 1 rfl) ?_
      refine k_get C hw (LM_0 LM) (ci := 12) rfl k_in12 41 (by decide) lk12_90 (v := .ref (ad 26)) rfl dX12_law_70 ?_
      refine lv_iload_n hx hb dX12_law_73 rfl (lv_at hl 3 rfl) ?_
      obtain ⟨hi, hf⟩ := k_ckE hf
      refine k_iald C hw (LM_26 LM) hi dX12_law_74 ?_
      refine lv_aload_n hx hb dX12_law_75 rfl (lv_at hl 1 rfl) ?_
      refine k_get C hw (LM_0 LM) (ci := 12) rfl k_in12 42 (by decide) lk12_93 (v := .ref (ad 27)) rfl dX12_law_76 ?_
      refine lv_iload_n hx hb dX12_law_79 rfl (lv_at hl 3 rfl) ?_
      obtain ⟨hi, hf⟩ := k_ckE hf
      refine k_iald C hw (LM_27 LM) hi dX12_law_80 ?_
      refine lv_aload_n hx hb dX12_law_81 rfl (lv_at hl 1 rfl) ?_
      refine k_get C hw (LM_0 LM) (ci := 12) rfl k_in12 43 (by decide) lk12_96 (v := .ref (ad 28)) rfl dX12_law_82 ?_
      refine lv_iload_n hx hb dX12_law_85 rfl (lv_at hl 3 rfl) ?_
      obtain ⟨hi, hf⟩ := k_ckE hf
      refine k_iald C hw (LM_28 LM) hi dX12_law_86 ?_
      refine lv_aload_n hx hb dX12_law_87 rfl (lv_at hl 1 rfl) ?_
      refine k_get C hw (LM_0 LM) (ci := 12) rfl k_in12 32 (by decide) lk12_63 (v := .ref (ad 17)) rfl dX12_law_88 ?_
      refine lv_iconst (v := (0 : Int32)) hx hb dX12_law_91 (by decide) ?_
      obtain ⟨hi, hf⟩ := k_ckE hf
      refine k_iald C hw (LM_17 LM) hi dX12_law_92 ?_
      refine lv_iload_n hx hb dX12_law_93 rfl (lv_at hl 0 rfl) ?_
      obtain ⟨q2, σ1, hq, hf⟩ := k_bdE hf
      refine k_callVi C hw (c_X12_moodBy l G Y w ad LM (σ.1 26 (x2).toNatClampNeg) (σ.1 27 (x2).toNatClampNeg) (σ.1 28 (x2).toNatClampNeg) (σ.1 17 ((0 : Int32)).toNatClampNeg) y0 σ q2 σ1 hq) (cwV 5 hts gX12_law_X12_moodBy rfl rfl rfl (by decide +kernel) ⟨Nat.le_of_ble_eq_true rfl, Nat.le_of_ble_eq_true rfl⟩) (k_recv C hw (LM_0 LM) rfl) rfl hl.1 rfl (Nat.le_of_ble_eq_true rfl) dX12_law_94 (fun H locs hw => ?_)
      exact b97 x1 x2 y0 q2 σ1 _ _ _ (lv_sub hl [1, 2, 3, 0] rfl) hw hf
    · have hf := k_ifT h hf
      refine lv_iconst (v := (0 : Int32)) hx hb dX12_law_64 (by decide) ?_
      refine lv_goto (tgt := 97) hx hb dX12_law_65 (by decide) ?_
      exact b97 x1 x2 y0 (0 : Int32) σ _ _ _ (lv_sub hl [1, 2, 3, 0] rfl) hw hf
  have b58 : ∀ (x1 : Int32) (x2 : Int32) (σ : MSt) (H : Heap) (locs : List Loc) (ls : Array Slot), lv_has ls 5 [(0, .ref (ad 0)), (1, .int x1), (2, .int x2)] → k_W G w A s.heap σ H locs → f_X12_law_b58 x1 x2 σ = some (r, σ') → W p l e rmX12_law s m [.ref (ad 0), .int p1, .int p2].toArray below meth c H locs 0 0 (MQ below (k_Ql G w A r σ') [.ref (ad 0), .int p1, .int p2].toArray s 0 0 A) (F0 m 58 ls []) := by
    intro x1 x2 σ H locs ls hl hw hf
    unfold f_X12_law_b58 at hf
    refine lv_iconst (v := (0 : Int32)) hx hb dX12_law_58 (by decide) ?_
    exact b59 x1 x2 (0 : Int32) σ _ _ _ (lv_sub hl [0, 1, 2] rfl) hw hf
  have b30 : ∀ (σ : MSt) (H : Heap) (locs : List Loc) (ls : Array Slot), lv_has ls 5 [] → k_W G w A s.heap σ H locs → f_X12_law_b30 σ = some (r, σ') → W p l e rmX12_law s m [.ref (ad 0), .int p1, .int p2].toArray below meth c H locs 0 0 (MQ below (k_Ql G w A r σ') [.ref (ad 0), .int p1, .int p2].toArray s 0 0 A) (F0 m 30 ls []) := by
    intro σ H locs ls hl hw hf
    unfold f_X12_law_b30 at hf
    refine lv_ldc2 (v := (-9223372036854775808 : Int64)) hx hb hown (hks.ts _ ck12_433) dX12_law_30 ?_
    exact k_lret C hw hf dX12_law_33
  unfold f_X12_law at hf
  refine lv_aload_n hx hb dX12_law_0 rfl (lv_at hl 0 rfl) ?_
  refine lv_iconst (v := (0 : Int32)) hx hb dX12_law_1 (by decide) ?_
  refine k_put C hw (LM_0 LM) (ci := 12) rfl k_in12 tyX12 tyX12_ok nmX12 0 (by decide) lk12_145 rfl ⟨rfl, rfl⟩ rfl dX12_law_2 (fun σ1 eq H locs hw => ?_)
  have hf := k_nmE eq hf
  refine lv_iload_n hx hb dX12_law_5 rfl (lv_at hl 1 rfl) ?_
  refine lv_if_lt (tgt := 30) hx hb dX12_law_6 (by decide) (fun h => ?_) (fun h => ?_)
  · have hf := k_ifT h hf
    exact b30 σ1 _ _ _ (lv_sub hl [] rfl) hw hf
  · have hf := k_ifF h hf
    refine lv_iload_n hx hb dX12_law_9 rfl (lv_at hl 1 rfl) ?_
    refine lv_iconst (v := (2 : Int32)) hx hb dX12_law_10 (by decide) ?_
    refine lv_icmp_gt (tgt := 30) hx hb dX12_law_11 (by decide) (fun h => ?_) (fun h => ?_)
    · have hf := k_ifT h hf
      exact b30 σ1 _ _ _ (lv_sub hl [] rfl) hw hf
    · have hf := k_ifF h hf
      refine lv_aload_n hx hb dX12_law_14 rfl (lv_at hl 0 rfl) ?_
      refine lv_iload_n hx hb dX12_law_15 rfl (lv_at hl 1 rfl) ?_
      obtain ⟨q3, σ2, hq, hf⟩ := k_bdE hf
      refine k_callVi C hw (c_X12_hasLaw l G Y w ad LM p1 σ1 q3 σ2 hq) (cwV 1 hts gX12_law_X12_hasLaw rfl rfl rfl (by decide +kernel) ⟨Nat.le_of_ble_eq_true rfl, Nat.le_of_ble_eq_true rfl⟩) (k_recv C hw (LM_0 LM) rfl) rfl hl.1 rfl (Nat.le_of_ble_eq_true rfl) dX12_law_16 (fun H locs hw => ?_)
      refine lv_if_eq (tgt := 30) hx hb dX12_law_19 (by decide) (fun h => ?_) (fun h => ?_)
      · have hf := k_ifT h hf
        exact b30 σ2 _ _ _ (lv_sub hl [] rfl) hw hf
      · have hf := k_ifF h hf
        refine lv_aload_n hx hb dX12_law_22 rfl (lv_at hl 0 rfl) ?_
        refine lv_iload_n hx hb dX12_law_23 rfl (lv_at hl 2 rfl) ?_
        obtain ⟨q5, σ4, hq, hf⟩ := k_bdE hf
        refine k_callVi C hw (c_X12_isBay l G Y w ad LM p2 σ2 q5 σ4 hq) (cwV 1 hts gX12_law_X12_isBay rfl rfl rfl (by decide +kernel) ⟨Nat.le_of_ble_eq_true rfl, Nat.le_of_ble_eq_true rfl⟩) (k_recv C hw (LM_0 LM) rfl) rfl hl.1 rfl (Nat.le_of_ble_eq_true rfl) dX12_law_24 (fun H locs hw => ?_)
        refine lv_if_ne (tgt := 34) hx hb dX12_law_27 (by decide) (fun h => ?_) (fun h => ?_)
        · have hf := k_ifF h hf
          refine lv_aload_n hx hb dX12_law_34 rfl (lv_at hl 0 rfl) ?_
          refine k_get C hw (LM_0 LM) (ci := 12) rfl k_in12 34 (by decide) lk12_69 (v := .ref (ad 19)) rfl dX12_law_35 ?_
          refine lv_iconst (v := (0 : Int32)) hx hb dX12_law_38 (by decide) ?_
          obtain ⟨hi, hf⟩ := k_ckE hf
          refine k_iald C hw (LM_19 LM) hi dX12_law_39 ?_
          refine lv_iconst (v := (-1 : Int32)) hx hb dX12_law_40 (by decide) ?_
          refine lv_icmp_ne (tgt := 58) hx hb dX12_law_41 (by decide) (fun h => ?_) (fun h => ?_)
          · have hf := k_ifF h hf
            exact b58 p1 p2 σ4 _ _ _ (lv_sub hl [0, 1, 2] rfl) hw hf
          · have hf := k_ifT h hf
            refine lv_aload_n hx hb dX12_law_44 rfl (lv_at hl 0 rfl) ?_
            refine k_get C hw (LM_0 LM) (ci := 12) rfl k_in12 33 (by decide) lk12_66 (v := .ref (ad 18)) rfl dX12_law_45 ?_
            refine lv_iconst (v := (0 : Int32)) hx hb dX12_law_48 (by decide) ?_
            obtain ⟨hi, hf⟩ := k_ckE hf
            refine k_iald C hw (LM_18 LM) hi dX12_law_49 ?_
            refine lv_iload_n hx hb dX12_law_50 rfl (lv_at hl 2 rfl) ?_
            refine lv_icmp_ne (tgt := 58) hx hb dX12_law_51 (by decide) (fun h => ?_) (fun h => ?_)
            · have hf := k_ifF h hf
              exact b58 p1 p2 σ4 _ _ _ (lv_sub hl [0, 1, 2] rfl) hw hf
            · have hf := k_ifT h hf
              refine lv_iconst (v := (1 : Int32)) hx hb dX12_law_54 (by decide) ?_
              refine lv_goto (tgt := 59) hx hb dX12_law_55 (by decide) ?_
              exact b59 p1 p2 (1 : Int32) σ4 _ _ _ (lv_sub hl [0, 1, 2] rfl) hw hf
        · have hf := k_ifT h hf
          exact b30 σ4 _ _ _ (lv_sub hl [] rfl) hw hf
def f_X12_keepNow_b45   (σ : MSt) : Option MSt :=
  k_bv (f_X12_takes ((4 : Int32) + (σ.1 0 45)) (0 : Int32) σ) fun σ1 =>
  k_nm (mI σ1 0 45 ((σ1.1 0 45) + (1 : Int32))) fun σ2 =>
  some σ2
def f_X12_keepNow_b11_s  (r11 : Int32 → MSt → Option MSt) (x1 : Int32) (σ : MSt) : Option MSt :=
  if (20 : Int32) ≤ x1 then
  (k_nm (mI σ 0 45 ((σ.1 0 45) - (1 : Int32))) fun σ1 =>
  f_X12_keepNow_b45 σ1)
  else
  (k_bv (f_X12_takes (((4 : Int32) + x1) - (1 : Int32)) ((4 : Int32) + x1) σ) fun σ2 =>
  k_nm (x1 + (1 : Int32)) fun u3 =>
  r11 u3 σ2)
def f_X12_keepNow_b11  : Nat → Int32 → MSt → Option MSt
  | 0 => fun _ _ => none
  | n + 1 => f_X12_keepNow_b11_s (f_X12_keepNow_b11 n)
def f_X12_keepNow   (σ : MSt) : Option MSt :=
  if (σ.1 0 45) = (20 : Int32) then
  (f_X12_keepNow_b11 FU (1 : Int32) σ)
  else
  (f_X12_keepNow_b45 σ)
def rmX12_keepNow : Room := { frames := 1, cells := 0, slots := 0, locals := 23 }
set_option maxHeartbeats 4000000 in
set_option maxRecDepth 100000 in
theorem c_X12_keepNow (l : Launch) (G : va_G) (Y : CY) (w : MSt → va_W) (ad : Nat → Nat)  (LM : LayM ad w Y)  (σ : MSt) (σ' : MSt) (hf : f_X12_keepNow σ = some σ') : k_Mv l yX12_keepNow wsX12_keepNow rmX12_keepNow G Y w [.ref (ad 0)] σ σ' := by
  refine k_ofv (own := RX12) (cc := cX12_keepNow) (maxL := 2) none (by decide) rfl rfl (Nat.le_of_ble_eq_true rfl) ?_
  intro p e s m below meth c A C ls hl hw
  have hx := C.1
  have hb := C.2.1
  have hown := C.2.2.2.2.1
  have hts := C.2.2.2.2.2.1
  have hks := C.2.2.2.2.2.2.1
  have hl : lv_has ls 2 [(0, .ref (ad 0))] := hl
  have b45 : ∀ (σ : MSt) (H : Heap) (locs : List Loc) (ls : Array Slot), lv_has ls 2 [(0, .ref (ad 0))] → k_W G w A s.heap σ H locs → f_X12_keepNow_b45 σ = some σ' → W p l e rmX12_keepNow s m [.ref (ad 0)].toArray below meth c H locs 0 0 (MQ below (k_Qv G w A σ') [.ref (ad 0)].toArray s 0 0 A) (F0 m 45 ls []) := by
    intro σ H locs ls hl hw hf
    unfold f_X12_keepNow_b45 at hf
    refine lv_aload_n hx hb dX12_keepNow_45 rfl (lv_at hl 0 rfl) ?_
    refine lv_iconst (v := (4 : Int32)) hx hb dX12_keepNow_46 (by decide) ?_
    refine lv_aload_n hx hb dX12_keepNow_47 rfl (lv_at hl 0 rfl) ?_
    refine k_get C hw (LM_0 LM) (ci := 12) rfl k_in12 45 (by decide) lk12_308 (v := .int (σ.1 0 45)) rfl dX12_keepNow_48 ?_
    refine lv_iadd hx hb dX12_keepNow_51 ?_
    refine lv_iconst (v := (0 : Int32)) hx hb dX12_keepNow_52 (by decide) ?_
    obtain ⟨σ1, hq, hf⟩ := k_bvE hf
    refine k_callVv C hw (c_X12_takes l G Y w ad LM ((4 : Int32) + (σ.1 0 45)) (0 : Int32) σ σ1 hq) (cwV 2 hts gX12_keepNow_X12_takes rfl rfl rfl (by decide +kernel) ⟨Nat.le_of_ble_eq_true rfl, Nat.le_of_ble_eq_true rfl⟩) (k_recv C hw (LM_0 LM) rfl) rfl hl.1 rfl (Nat.le_of_ble_eq_true rfl) dX12_keepNow_53 (fun H locs hw => ?_)
    refine lv_aload_n hx hb dX12_keepNow_56 rfl (lv_at hl 0 rfl) ?_
    refine lv_dup hx hb dX12_keepNow_57 rfl ?_
    refine k_get C hw (LM_0 LM) (ci := 12) rfl k_in12 45 (by decide) lk12_308 (v := .int (σ1.1 0 45)) rfl dX12_keepNow_58 ?_
    refine lv_iconst (v := (1 : Int32)) hx hb dX12_keepNow_61 (by decide) ?_
    refine lv_iadd hx hb dX12_keepNow_62 ?_
    refine k_put C hw (LM_0 LM) (ci := 12) rfl k_in12 tyX12 tyX12_ok nmX12 45 (by decide) lk12_308 rfl ⟨rfl, rfl⟩ rfl dX12_keepNow_63 (fun σ2 eq H locs hw => ?_)
    have hf := k_nmE eq hf
    exact k_vret C hw hf dX12_keepNow_66
  have b11 : ∀ (n11 : Nat) (x1 : Int32) (σ : MSt) (H : Heap) (locs : List Loc) (ls : Array Slot), lv_has ls 2 [(0, .ref (ad 0)), (1, .int x1)] → k_W G w A s.heap σ H locs → f_X12_keepNow_b11 n11 x1 σ = some σ' → W p l e rmX12_keepNow s m [.ref (ad 0)].toArray below meth c H locs 0 0 (MQ below (k_Qv G w A σ') [.ref (ad 0)].toArray s 0 0 A) (F0 m 11 ls []) := by
    intro n11
    induction n11 with
    | zero =>
      intro x1 σ H locs ls hl hw hf
      have hf : (none : Option MSt) = some σ' := hf
      cases hf
    | succ n11 ih11 =>
      intro x1 σ H locs ls hl hw hf
      have hf : f_X12_keepNow_b11_s (f_X12_keepNow_b11 n11) x1 σ = some σ' := hf
      unfold f_X12_keepNow_b11_s at hf
      refine lv_iload_n hx hb dX12_keepNow_11 rfl (lv_at hl 1 rfl) ?_
      refine lv_bipush (v := (20 : Int32)) hx hb dX12_keepNow_12 (by decide) ?_
      refine lv_icmp_ge (tgt := 35) hx hb dX12_keepNow_14 (by decide) (fun h => ?_) (fun h => ?_)
      · have hf := k_ifT h hf
        refine lv_aload_n hx hb dX12_keepNow_35 rfl (lv_at hl 0 rfl) ?_
        refine lv_dup hx hb dX12_keepNow_36 rfl ?_
        refine k_get C hw (LM_0 LM) (ci := 12) rfl k_in12 45 (by decide) lk12_308 (v := .int (σ.1 0 45)) rfl dX12_keepNow_37 ?_
        refine lv_iconst (v := (1 : Int32)) hx hb dX12_keepNow_40 (by decide) ?_
        refine lv_isub hx hb dX12_keepNow_41 ?_
        refine k_put C hw (LM_0 LM) (ci := 12) rfl k_in12 tyX12 tyX12_ok nmX12 45 (by decide) lk12_308 rfl ⟨rfl, rfl⟩ rfl dX12_keepNow_42 (fun σ1 eq H locs hw => ?_)
        have hf := k_nmE eq hf
        exact b45 σ1 _ _ _ (lv_sub hl [0] rfl) hw hf
      · have hf := k_ifF h hf
        refine lv_aload_n hx hb dX12_keepNow_17 rfl (lv_at hl 0 rfl) ?_
        refine lv_iconst (v := (4 : Int32)) hx hb dX12_keepNow_18 (by decide) ?_
        refine lv_iload_n hx hb dX12_keepNow_19 rfl (lv_at hl 1 rfl) ?_
        refine lv_iadd hx hb dX12_keepNow_20 ?_
        refine lv_iconst (v := (1 : Int32)) hx hb dX12_keepNow_21 (by decide) ?_
        refine lv_isub hx hb dX12_keepNow_22 ?_
        refine lv_iconst (v := (4 : Int32)) hx hb dX12_keepNow_23 (by decide) ?_
        refine lv_iload_n hx hb dX12_keepNow_24 rfl (lv_at hl 1 rfl) ?_
        refine lv_iadd hx hb dX12_keepNow_25 ?_
        obtain ⟨σ2, hq, hf⟩ := k_bvE hf
        refine k_callVv C hw (c_X12_takes l G Y w ad LM (((4 : Int32) + x1) - (1 : Int32)) ((4 : Int32) + x1) σ σ2 hq) (cwV 2 hts gX12_keepNow_X12_takes rfl rfl rfl (by decide +kernel) ⟨Nat.le_of_ble_eq_true rfl, Nat.le_of_ble_eq_true rfl⟩) (k_recv C hw (LM_0 LM) rfl) rfl hl.1 rfl (Nat.le_of_ble_eq_true rfl) dX12_keepNow_26 (fun H locs hw => ?_)
        obtain ⟨u3, ex⟩ : ∃ y : Int32, y = (x1 + (1 : Int32)) := ⟨_, rfl⟩
        have hf := k_nmE ex hf
        refine lv_iinc (v := u3) (lv' := [(1, .int u3), (0, .ref (ad 0))]) hx hb dX12_keepNow_29 hl (k := 1) rfl (by rw [ex]; rfl) (by decide) rfl (fun ls hl => ?_)
        refine lv_goto (tgt := 11) hx hb dX12_keepNow_32 (by decide) ?_
        exact ih11 u3 σ2 _ _ _ (lv_sub hl [1, 0] rfl) hw hf
  unfold f_X12_keepNow at hf
  refine lv_aload_n hx hb dX12_keepNow_0 rfl (lv_at hl 0 rfl) ?_
  refine k_get C hw (LM_0 LM) (ci := 12) rfl k_in12 45 (by decide) lk12_308 (v := .int (σ.1 0 45)) rfl dX12_keepNow_1 ?_
  refine lv_bipush (v := (20 : Int32)) hx hb dX12_keepNow_4 (by decide) ?_
  refine lv_icmp_ne (tgt := 45) hx hb dX12_keepNow_6 (by decide) (fun h => ?_) (fun h => ?_)
  · have hf := k_ifF h hf
    exact b45 σ _ _ _ (lv_sub hl [0] rfl) hw hf
  · have hf := k_ifT h hf
    refine lv_iconst (v := (1 : Int32)) hx hb dX12_keepNow_9 (by decide) ?_
    refine lv_istore_n (lv' := [(1, .int (1 : Int32)), (0, .ref (ad 0))]) hx hb dX12_keepNow_10 rfl hl (by decide) rfl (fun ls hl => ?_)
    exact b11 FU (1 : Int32) σ _ _ _ (lv_sub hl [1, 0] rfl) hw hf
def f_X12_sail_b59   (σ : MSt) : Option (Int32 × MSt) :=
  some ((-2 : Int32), σ)
def f_X12_sail_b35  (x1 : Int32) (σ : MSt) : Option (Int32 × MSt) :=
  k_ck (k_inb (0 : Int32) 24) <|
  if (σ.1 19 ((0 : Int32)).toNatClampNeg) = (-1 : Int32) then
  (k_ck (k_inb (0 : Int32) 24) <|
  k_bd (f_X12_laneOf (σ.1 18 ((0 : Int32)).toNatClampNeg) x1 σ) fun q2 σ1 =>
  if q2 = 0 then
  (f_X12_sail_b59 σ1)
  else
  (k_bv (f_X12_keepNow σ1) fun σ3 =>
  k_ck (k_inb (0 : Int32) 24) <|
  k_nm (mI σ3 19 ((0 : Int32)).toNatClampNeg x1) fun σ4 =>
  k_ck (k_inb (0 : Int32) 24) <|
  k_ck (k_inb (0 : Int32) 24) <|
  k_bd (f_X12_laneOf (σ4.1 18 ((0 : Int32)).toNatClampNeg) x1 σ4) fun q6 σ5 =>
  k_ck (k_inb (0 : Int32) 24) <|
  k_nm (mI σ5 20 ((0 : Int32)).toNatClampNeg ((σ4.1 17 ((0 : Int32)).toNatClampNeg) + q6)) fun σ7 =>
  k_ck (k_inb (0 : Int32) 24) <|
  some ((σ7.1 20 ((0 : Int32)).toNatClampNeg), σ7)))
  else
  (f_X12_sail_b59 σ)
def f_X12_sail_b33   (σ : MSt) : Option (Int32 × MSt) :=
  some ((-1 : Int32), σ)
def f_X12_sail  (p1 : Int32) (σ : MSt) : Option (Int32 × MSt) :=
  k_nm (mI σ 0 0 (0 : Int32)) fun σ1 =>
  k_bd (f_X12_isBay p1 σ1) fun q3 σ2 =>
  if q3 = 0 then
  (f_X12_sail_b33 σ2)
  else
  (k_ck (k_inb (0 : Int32) 24) <|
  if (σ2.1 19 ((0 : Int32)).toNatClampNeg) = (-1 : Int32) then
  (k_ck (k_inb (0 : Int32) 24) <|
  if (σ2.1 18 ((0 : Int32)).toNatClampNeg) = p1 then
  (f_X12_sail_b33 σ2)
  else
  (f_X12_sail_b35 p1 σ2))
  else
  (f_X12_sail_b35 p1 σ2))
def rmX12_sail : Room := { frames := 2, cells := 0, slots := 0, locals := 44 }
set_option maxHeartbeats 4000000 in
set_option maxRecDepth 100000 in
theorem c_X12_sail (l : Launch) (G : va_G) (Y : CY) (w : MSt → va_W) (ad : Nat → Nat)  (LM : LayM ad w Y) (p1 : Int32) (σ : MSt) (r : Int32) (σ' : MSt) (hf : f_X12_sail p1 σ = some (r, σ')) : k_Mi l yX12_sail wsX12_sail rmX12_sail G Y w [.ref (ad 0), .int p1] σ r σ' := by
  refine k_ofi (own := RX12) (cc := cX12_sail) (maxL := 2) (some .int) (by decide) rfl rfl (Nat.le_of_ble_eq_true rfl) ?_
  intro p e s m below meth c A C ls hl hw
  have hx := C.1
  have hb := C.2.1
  have hown := C.2.2.2.2.1
  have hts := C.2.2.2.2.2.1
  have hks := C.2.2.2.2.2.2.1
  have hl : lv_has ls 2 [(0, .ref (ad 0)), (1, .int p1)] := hl
  have b59 : ∀ (σ : MSt) (H : Heap) (locs : List Loc) (ls : Array Slot), lv_has ls 2 [] → k_W G w A s.heap σ H locs → f_X12_sail_b59 σ = some (r, σ') → W p l e rmX12_sail s m [.ref (ad 0), .int p1].toArray below meth c H locs 0 0 (MQ below (k_Qi G w A r σ') [.ref (ad 0), .int p1].toArray s 0 0 A) (F0 m 59 ls []) := by
    intro σ H locs ls hl hw hf
    unfold f_X12_sail_b59 at hf
    refine lv_bipush (v := (-2 : Int32)) hx hb dX12_sail_59 (by decide) ?_
    exact k_iret C hw hf dX12_sail_61
  have b35 : ∀ (x1 : Int32) (σ : MSt) (H : Heap) (locs : List Loc) (ls : Array Slot), lv_has ls 2 [(0, .ref (ad 0)), (1, .int x1)] → k_W G w A s.heap σ H locs → f_X12_sail_b35 x1 σ = some (r, σ') → W p l e rmX12_sail s m [.ref (ad 0), .int p1].toArray below meth c H locs 0 0 (MQ below (k_Qi G w A r σ') [.ref (ad 0), .int p1].toArray s 0 0 A) (F0 m 35 ls []) := by
    intro x1 σ H locs ls hl hw hf
    unfold f_X12_sail_b35 at hf
    refine lv_aload_n hx hb dX12_sail_35 rfl (lv_at hl 0 rfl) ?_
    refine k_get C hw (LM_0 LM) (ci := 12) rfl k_in12 34 (by decide) lk12_69 (v := .ref (ad 19)) rfl dX12_sail_36 ?_
    refine lv_iconst (v := (0 : Int32)) hx hb dX12_sail_39 (by decide) ?_
    obtain ⟨hi, hf⟩ := k_ckE hf
    refine k_iald C hw (LM_19 LM) hi dX12_sail_40 ?_
    refine lv_iconst (v := (-1 : Int32)) hx hb dX12_sail_41 (by decide) ?_
    refine lv_icmp_ne (tgt := 59) hx hb dX12_sail_42 (by decide) (fun h => ?_) (fun h => ?_)
    · have hf := k_ifF h hf
      exact b59 σ _ _ _ (lv_sub hl [] rfl) hw hf
    · have hf := k_ifT h hf
      refine lv_aload_n hx hb dX12_sail_45 rfl (lv_at hl 0 rfl) ?_
      refine lv_aload_n hx hb dX12_sail_46 rfl (lv_at hl 0 rfl) ?_
      refine k_get C hw (LM_0 LM) (ci := 12) rfl k_in12 33 (by decide) lk12_66 (v := .ref (ad 18)) rfl dX12_sail_47 ?_
      refine lv_iconst (v := (0 : Int32)) hx hb dX12_sail_50 (by decide) ?_
      obtain ⟨hi, hf⟩ := k_ckE hf
      refine k_iald C hw (LM_18 LM) hi dX12_sail_51 ?_
      refine lv_iload_n hx hb dX12_sail_52 rfl (lv_at hl 1 rfl) ?_
      obtain ⟨q2, σ1, hq, hf⟩ := k_bdE hf
      refine k_callVi C hw (c_X12_laneOf l G Y w ad LM (σ.1 18 ((0 : Int32)).toNatClampNeg) x1 σ q2 σ1 hq) (cwV 2 hts gX12_sail_X12_laneOf rfl rfl rfl (by decide +kernel) ⟨Nat.le_of_ble_eq_true rfl, Nat.le_of_ble_eq_true rfl⟩) (k_recv C hw (LM_0 LM) rfl) rfl hl.1 rfl (Nat.le_of_ble_eq_true rfl) dX12_sail_53 (fun H locs hw => ?_)
      refine lv_if_ne (tgt := 62) hx hb dX12_sail_56 (by decide) (fun h => ?_) (fun h => ?_)
      · have hf := k_ifF h hf
        refine lv_aload_n hx hb dX12_sail_62 rfl (lv_at hl 0 rfl) ?_
        obtain ⟨σ3, hq, hf⟩ := k_bvE hf
        refine k_callVv C hw (c_X12_keepNow l G Y w ad LM σ1 σ3 hq) (cwV 0 hts gX12_sail_X12_keepNow rfl rfl rfl (by decide +kernel) ⟨Nat.le_of_ble_eq_true rfl, Nat.le_of_ble_eq_true rfl⟩) (k_recv C hw (LM_0 LM) rfl) rfl hl.1 rfl (Nat.le_of_ble_eq_true rfl) dX12_sail_63 (fun H locs hw => ?_)
        refine lv_aload_n hx hb dX12_sail_66 rfl (lv_at hl 0 rfl) ?_
        refine k_get C hw (LM_0 LM) (ci := 12) rfl k_in12 34 (by decide) lk12_69 (v := .ref (ad 19)) rfl dX12_sail_67 ?_
        refine lv_iconst (v := (0 : Int32)) hx hb dX12_sail_70 (by decide) ?_
        refine lv_iload_n hx hb dX12_sail_71 rfl (lv_at hl 1 rfl) ?_
        obtain ⟨hi, hf⟩ := k_ckE hf
        refine k_iast C hw (LM_19 LM) hi dX12_sail_72 (fun σ4 eq H locs hw => ?_)
        have hf := k_nmE eq hf
        refine lv_aload_n hx hb dX12_sail_73 rfl (lv_at hl 0 rfl) ?_
        refine k_get C hw (LM_0 LM) (ci := 12) rfl k_in12 35 (by decide) lk12_72 (v := .ref (ad 20)) rfl dX12_sail_74 ?_
        refine lv_iconst (v := (0 : Int32)) hx hb dX12_sail_77 (by decide) ?_
        refine lv_aload_n hx hb dX12_sail_78 rfl (lv_at hl 0 rfl) ?_
        refine k_get C hw (LM_0 LM) (ci := 12) rfl k_in12 32 (by decide) lk12_63 (v := .ref (ad 17)) rfl dX12_sail_79 ?_
        refine lv_iconst (v := (0 : Int32)) hx hb dX12_sail_82 (by decide) ?_
        obtain ⟨hi, hf⟩ := k_ckE hf
        refine k_iald C hw (LM_17 LM) hi dX12_sail_83 ?_
        refine lv_aload_n hx hb dX12_sail_84 rfl (lv_at hl 0 rfl) ?_
        refine lv_aload_n hx hb dX12_sail_85 rfl (lv_at hl 0 rfl) ?_
        refine k_get C hw (LM_0 LM) (ci := 12) rfl k_in12 33 (by decide) lk12_66 (v := .ref (ad 18)) rfl dX12_sail_86 ?_
        refine lv_iconst (v := (0 : Int32)) hx hb dX12_sail_89 (by decide) ?_
        obtain ⟨hi, hf⟩ := k_ckE hf
        refine k_iald C hw (LM_18 LM) hi dX12_sail_90 ?_
        refine lv_iload_n hx hb dX12_sail_91 rfl (lv_at hl 1 rfl) ?_
        obtain ⟨q6, σ5, hq, hf⟩ := k_bdE hf
        refine k_callVi C hw (c_X12_laneOf l G Y w ad LM (σ4.1 18 ((0 : Int32)).toNatClampNeg) x1 σ4 q6 σ5 hq) (cwV 2 hts gX12_sail_X12_laneOf rfl rfl rfl (by decide +kernel) ⟨Nat.le_of_ble_eq_true rfl, Nat.le_of_ble_eq_true rfl⟩) (k_recv C hw (LM_0 LM) rfl) rfl hl.1 rfl (Nat.le_of_ble_eq_true rfl) dX12_sail_92 (fun H locs hw => ?_)
        refine lv_iadd hx hb dX12_sail_95 ?_
        obtain ⟨hi, hf⟩ := k_ckE hf
        refine k_iast C hw (LM_20 LM) hi dX12_sail_96 (fun σ7 eq H locs hw => ?_)
        have hf := k_nmE eq hf
        refine lv_aload_n hx hb dX12_sail_97 rfl (lv_at hl 0 rfl) ?_
        refine k_get C hw (LM_0 LM) (ci := 12) rfl k_in12 35 (by decide) lk12_72 (v := .ref (ad 20)) rfl dX12_sail_98 ?_
        refine lv_iconst (v := (0 : Int32)) hx hb dX12_sail_101 (by decide) ?_
        obtain ⟨hi, hf⟩ := k_ckE hf
        refine k_iald C hw (LM_20 LM) hi dX12_sail_102 ?_
        exact k_iret C hw hf dX12_sail_103
      · have hf := k_ifT h hf
        exact b59 σ1 _ _ _ (lv_sub hl [] rfl) hw hf
  have b33 : ∀ (σ : MSt) (H : Heap) (locs : List Loc) (ls : Array Slot), lv_has ls 2 [] → k_W G w A s.heap σ H locs → f_X12_sail_b33 σ = some (r, σ') → W p l e rmX12_sail s m [.ref (ad 0), .int p1].toArray below meth c H locs 0 0 (MQ below (k_Qi G w A r σ') [.ref (ad 0), .int p1].toArray s 0 0 A) (F0 m 33 ls []) := by
    intro σ H locs ls hl hw hf
    unfold f_X12_sail_b33 at hf
    refine lv_iconst (v := (-1 : Int32)) hx hb dX12_sail_33 (by decide) ?_
    exact k_iret C hw hf dX12_sail_34
  unfold f_X12_sail at hf
  refine lv_aload_n hx hb dX12_sail_0 rfl (lv_at hl 0 rfl) ?_
  refine lv_iconst (v := (0 : Int32)) hx hb dX12_sail_1 (by decide) ?_
  refine k_put C hw (LM_0 LM) (ci := 12) rfl k_in12 tyX12 tyX12_ok nmX12 0 (by decide) lk12_145 rfl ⟨rfl, rfl⟩ rfl dX12_sail_2 (fun σ1 eq H locs hw => ?_)
  have hf := k_nmE eq hf
  refine lv_aload_n hx hb dX12_sail_5 rfl (lv_at hl 0 rfl) ?_
  refine lv_iload_n hx hb dX12_sail_6 rfl (lv_at hl 1 rfl) ?_
  obtain ⟨q3, σ2, hq, hf⟩ := k_bdE hf
  refine k_callVi C hw (c_X12_isBay l G Y w ad LM p1 σ1 q3 σ2 hq) (cwV 1 hts gX12_sail_X12_isBay rfl rfl rfl (by decide +kernel) ⟨Nat.le_of_ble_eq_true rfl, Nat.le_of_ble_eq_true rfl⟩) (k_recv C hw (LM_0 LM) rfl) rfl hl.1 rfl (Nat.le_of_ble_eq_true rfl) dX12_sail_7 (fun H locs hw => ?_)
  refine lv_if_eq (tgt := 33) hx hb dX12_sail_10 (by decide) (fun h => ?_) (fun h => ?_)
  · have hf := k_ifT h hf
    exact b33 σ2 _ _ _ (lv_sub hl [] rfl) hw hf
  · have hf := k_ifF h hf
    refine lv_aload_n hx hb dX12_sail_13 rfl (lv_at hl 0 rfl) ?_
    refine k_get C hw (LM_0 LM) (ci := 12) rfl k_in12 34 (by decide) lk12_69 (v := .ref (ad 19)) rfl dX12_sail_14 ?_
    refine lv_iconst (v := (0 : Int32)) hx hb dX12_sail_17 (by decide) ?_
    obtain ⟨hi, hf⟩ := k_ckE hf
    refine k_iald C hw (LM_19 LM) hi dX12_sail_18 ?_
    refine lv_iconst (v := (-1 : Int32)) hx hb dX12_sail_19 (by decide) ?_
    refine lv_icmp_ne (tgt := 35) hx hb dX12_sail_20 (by decide) (fun h => ?_) (fun h => ?_)
    · have hf := k_ifF h hf
      exact b35 p1 σ2 _ _ _ (lv_sub hl [0, 1] rfl) hw hf
    · have hf := k_ifT h hf
      refine lv_aload_n hx hb dX12_sail_23 rfl (lv_at hl 0 rfl) ?_
      refine k_get C hw (LM_0 LM) (ci := 12) rfl k_in12 33 (by decide) lk12_66 (v := .ref (ad 18)) rfl dX12_sail_24 ?_
      refine lv_iconst (v := (0 : Int32)) hx hb dX12_sail_27 (by decide) ?_
      obtain ⟨hi, hf⟩ := k_ckE hf
      refine k_iald C hw (LM_18 LM) hi dX12_sail_28 ?_
      refine lv_iload_n hx hb dX12_sail_29 rfl (lv_at hl 1 rfl) ?_
      refine lv_icmp_ne (tgt := 35) hx hb dX12_sail_30 (by decide) (fun h => ?_) (fun h => ?_)
      · have hf := k_ifF h hf
        exact b35 p1 σ2 _ _ _ (lv_sub hl [0, 1] rfl) hw hf
      · have hf := k_ifT h hf
        exact b33 σ2 _ _ _ (lv_sub hl [] rfl) hw hf
