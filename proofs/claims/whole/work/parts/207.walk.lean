def f_X12_lawLine_b65  (x1 : Int32) (σ : MSt) : Option MSt :=
  if (σ.1 0 23) = 0 then
  (k_nm (mI σ 0 16 ((σ.1 0 16) ||| ((1 : Int32) <<< (((16 : Int32) + x1) &&& 31)))) fun σ1 =>
  k_bv (f_X12_token σ1) fun σ2 =>
  k_bd (f_X12_fresher (8 : Int32) σ2) fun q4 σ3 =>
  k_ck (k_inb ((3 : Int32) + x1) 6) <|
  k_nm (mI σ3 11 (((3 : Int32) + x1)).toNatClampNeg q4) fun σ5 =>
  k_bv (f_X12_expression σ5) fun σ6 =>
  k_bd (f_X12_fresher (8 : Int32) σ6) fun q8 σ7 =>
  k_ck (k_inb ((3 : Int32) + x1) 6) <|
  k_nm (mI σ7 12 (((3 : Int32) + x1)).toNatClampNeg q8) fun σ9 =>
  some σ9)
  else
  (some σ)
def f_X12_lawLine_b30   (σ : MSt) : Option MSt :=
  k_nm ((σ.1 0 22) - (9 : Int32)) fun u1 =>
  if (σ.1 0 23) = 0 then
  (if (((σ.1 0 16) >>> (((16 : Int32) + u1) &&& 31)) &&& (1 : Int32)) = (1 : Int32) then
  (k_bv (f_X12_wrong (3 : Int32) σ) fun σ2 =>
  f_X12_lawLine_b65 u1 σ2)
  else
  (f_X12_lawLine_b65 u1 σ))
  else
  (f_X12_lawLine_b65 u1 σ)
def f_X12_lawLine_b25   (σ : MSt) : Option MSt :=
  k_bv (f_X12_wrong (1 : Int32) σ) fun σ1 =>
  f_X12_lawLine_b30 σ1
def f_X12_lawLine   (σ : MSt) : Option MSt :=
  if (σ.1 0 21) = 0 then
  (if (σ.1 0 22) < (9 : Int32) then
  (f_X12_lawLine_b25 σ)
  else
  (if (σ.1 0 22) ≤ (11 : Int32) then
  (f_X12_lawLine_b30 σ)
  else
  (f_X12_lawLine_b25 σ)))
  else
  (f_X12_lawLine_b25 σ)
def rmX12_lawLine : Room := { frames := 191, cells := 0, slots := 0, locals := 6420 }
set_option maxHeartbeats 4000000 in
set_option maxRecDepth 100000 in
theorem c_X12_lawLine (l : Launch) (G : va_G) (Y : CY) (w : MSt → va_W) (ad : Nat → Nat)  (LM : LayM ad w Y)  (σ : MSt) (σ' : MSt) (hf : f_X12_lawLine σ = some σ') : k_Mv l yX12_lawLine wsX12_lawLine rmX12_lawLine G Y w [.ref (ad 0)] σ σ' := by
  refine k_ofv (own := RX12) (cc := cX12_lawLine) (maxL := 2) none (by decide) rfl rfl (Nat.le_of_ble_eq_true rfl) ?_
  intro p e s m below meth c A C ls hl hw
  have hx := C.1
  have hb := C.2.1
  have hown := C.2.2.2.2.1
  have hts := C.2.2.2.2.2.1
  have hks := C.2.2.2.2.2.2.1
  have hl : lv_has ls 2 [(0, .ref (ad 0))] := hl
  have b65 : ∀ (x1 : Int32) (σ : MSt) (H : Heap) (locs : List Loc) (ls : Array Slot), lv_has ls 2 [(0, .ref (ad 0)), (1, .int x1)] → k_W G w A s.heap σ H locs → f_X12_lawLine_b65 x1 σ = some σ' → W p l e rmX12_lawLine s m [.ref (ad 0)].toArray below meth c H locs 0 0 (MQ below (k_Qv G w A σ') [.ref (ad 0)].toArray s 0 0 A) (F0 m 65 ls []) := by
    intro x1 σ H locs ls hl hw hf
    unfold f_X12_lawLine_b65 at hf
    refine lv_aload_n hx hb dX12_lawLine_65 rfl (lv_at hl 0 rfl) ?_
    refine k_get C hw (LM_0 LM) (ci := 12) rfl k_in12 23 (by decide) lk12_199 (v := .int (σ.1 0 23)) rfl dX12_lawLine_66 ?_
    refine lv_if_eq (tgt := 73) hx hb dX12_lawLine_69 (by decide) (fun h => ?_) (fun h => ?_)
    · have hf := k_ifT h hf
      refine lv_aload_n hx hb dX12_lawLine_73 rfl (lv_at hl 0 rfl) ?_
      refine lv_dup hx hb dX12_lawLine_74 rfl ?_
      refine k_get C hw (LM_0 LM) (ci := 12) rfl k_in12 16 (by decide) lk12_228 (v := .int (σ.1 0 16)) rfl dX12_lawLine_75 ?_
      refine lv_iconst (v := (1 : Int32)) hx hb dX12_lawLine_78 (by decide) ?_
      refine lv_bipush (v := (16 : Int32)) hx hb dX12_lawLine_79 (by decide) ?_
      refine lv_iload_n hx hb dX12_lawLine_81 rfl (lv_at hl 1 rfl) ?_
      refine lv_iadd hx hb dX12_lawLine_82 ?_
      refine lv_ishl hx hb dX12_lawLine_83 ?_
      refine lv_ior hx hb dX12_lawLine_84 ?_
      refine k_put C hw (LM_0 LM) (ci := 12) rfl k_in12 tyX12 tyX12_ok nmX12 16 (by decide) lk12_228 rfl ⟨rfl, rfl⟩ rfl dX12_lawLine_85 (fun σ1 eq H locs hw => ?_)
      have hf := k_nmE eq hf
      refine lv_aload_n hx hb dX12_lawLine_88 rfl (lv_at hl 0 rfl) ?_
      obtain ⟨σ2, hq, hf⟩ := k_bvE hf
      refine k_callVv C hw (c_X12_token l G Y w ad LM σ1 σ2 hq) (cwV 0 hts gX12_lawLine_X12_token rfl rfl rfl (by decide +kernel) ⟨Nat.le_of_ble_eq_true rfl, Nat.le_of_ble_eq_true rfl⟩) (k_recv C hw (LM_0 LM) rfl) rfl hl.1 rfl (Nat.le_of_ble_eq_true rfl) dX12_lawLine_89 (fun H locs hw => ?_)
      refine lv_aload_n hx hb dX12_lawLine_92 rfl (lv_at hl 0 rfl) ?_
      refine k_get C hw (LM_0 LM) (ci := 12) rfl k_in12 12 (by decide) lk12_40 (v := .ref (ad 11)) rfl dX12_lawLine_93 ?_
      refine lv_iconst (v := (3 : Int32)) hx hb dX12_lawLine_96 (by decide) ?_
      refine lv_iload_n hx hb dX12_lawLine_97 rfl (lv_at hl 1 rfl) ?_
      refine lv_iadd hx hb dX12_lawLine_98 ?_
      refine lv_aload_n hx hb dX12_lawLine_99 rfl (lv_at hl 0 rfl) ?_
      refine lv_bipush (v := (8 : Int32)) hx hb dX12_lawLine_100 (by decide) ?_
      obtain ⟨q4, σ3, hq, hf⟩ := k_bdE hf
      refine k_callVi C hw (c_X12_fresher l G Y w ad LM (8 : Int32) σ2 q4 σ3 hq) (cwV 1 hts gX12_lawLine_X12_fresher rfl rfl rfl (by decide +kernel) ⟨Nat.le_of_ble_eq_true rfl, Nat.le_of_ble_eq_true rfl⟩) (k_recv C hw (LM_0 LM) rfl) rfl hl.1 rfl (Nat.le_of_ble_eq_true rfl) dX12_lawLine_102 (fun H locs hw => ?_)
      obtain ⟨hi, hf⟩ := k_ckE hf
      refine k_iast C hw (LM_11 LM) hi dX12_lawLine_105 (fun σ5 eq H locs hw => ?_)
      have hf := k_nmE eq hf
      refine lv_aload_n hx hb dX12_lawLine_106 rfl (lv_at hl 0 rfl) ?_
      obtain ⟨σ6, hq, hf⟩ := k_bvE hf
      refine k_callVv C hw (c_X12_expression l G Y w ad LM σ5 σ6 hq) (cwV 0 hts gX12_lawLine_X12_expression rfl rfl rfl (by decide +kernel) ⟨Nat.le_of_ble_eq_true rfl, Nat.le_of_ble_eq_true rfl⟩) (k_recv C hw (LM_0 LM) rfl) rfl hl.1 rfl (Nat.le_of_ble_eq_true rfl) dX12_lawLine_107 (fun H locs hw => ?_)
      refine lv_aload_n hx hb dX12_lawLine_110 rfl (lv_at hl 0 rfl) ?_
      refine k_get C hw (LM_0 LM) (ci := 12) rfl k_in12 13 (by decide) lk12_43 (v := .ref (ad 12)) rfl dX12_lawLine_111 ?_
      refine lv_iconst (v := (3 : Int32)) hx hb dX12_lawLine_114 (by decide) ?_
      refine lv_iload_n hx hb dX12_lawLine_115 rfl (lv_at hl 1 rfl) ?_
      refine lv_iadd hx hb dX12_lawLine_116 ?_
      refine lv_aload_n hx hb dX12_lawLine_117 rfl (lv_at hl 0 rfl) ?_
      refine lv_bipush (v := (8 : Int32)) hx hb dX12_lawLine_118 (by decide) ?_
      obtain ⟨q8, σ7, hq, hf⟩ := k_bdE hf
      refine k_callVi C hw (c_X12_fresher l G Y w ad LM (8 : Int32) σ6 q8 σ7 hq) (cwV 1 hts gX12_lawLine_X12_fresher rfl rfl rfl (by decide +kernel) ⟨Nat.le_of_ble_eq_true rfl, Nat.le_of_ble_eq_true rfl⟩) (k_recv C hw (LM_0 LM) rfl) rfl hl.1 rfl (Nat.le_of_ble_eq_true rfl) dX12_lawLine_120 (fun H locs hw => ?_)
      obtain ⟨hi, hf⟩ := k_ckE hf
      refine k_iast C hw (LM_12 LM) hi dX12_lawLine_123 (fun σ9 eq H locs hw => ?_)
      have hf := k_nmE eq hf
      exact k_vret C hw hf dX12_lawLine_124
    · have hf := k_ifF h hf
      exact k_vret C hw hf dX12_lawLine_72
  have b30 : ∀ (σ : MSt) (H : Heap) (locs : List Loc) (ls : Array Slot), lv_has ls 2 [(0, .ref (ad 0))] → k_W G w A s.heap σ H locs → f_X12_lawLine_b30 σ = some σ' → W p l e rmX12_lawLine s m [.ref (ad 0)].toArray below meth c H locs 0 0 (MQ below (k_Qv G w A σ') [.ref (ad 0)].toArray s 0 0 A) (F0 m 30 ls []) := by
    intro σ H locs ls hl hw hf
    unfold f_X12_lawLine_b30 at hf
    refine lv_aload_n hx hb dX12_lawLine_30 rfl (lv_at hl 0 rfl) ?_
    refine k_get C hw (LM_0 LM) (ci := 12) rfl k_in12 22 (by decide) lk12_174 (v := .int (σ.1 0 22)) rfl dX12_lawLine_31 ?_
    refine lv_bipush (v := (9 : Int32)) hx hb dX12_lawLine_34 (by decide) ?_
    refine lv_isub hx hb dX12_lawLine_36 ?_
    refine lv_topi (fun u1 ex => ?_)
    have hf := k_nmE ex hf
    refine lv_istore_n (lv' := [(1, .int u1), (0, .ref (ad 0))]) hx hb dX12_lawLine_37 rfl hl (by decide) rfl (fun ls hl => ?_)
    refine lv_aload_n hx hb dX12_lawLine_38 rfl (lv_at hl 1 rfl) ?_
    refine k_get C hw (LM_0 LM) (ci := 12) rfl k_in12 23 (by decide) lk12_199 (v := .int (σ.1 0 23)) rfl dX12_lawLine_39 ?_
    refine lv_if_ne (tgt := 65) hx hb dX12_lawLine_42 (by decide) (fun h => ?_) (fun h => ?_)
    · have hf := k_ifF h hf
      exact b65 u1 σ _ _ _ (lv_sub hl [1, 0] rfl) hw hf
    · have hf := k_ifT h hf
      refine lv_aload_n hx hb dX12_lawLine_45 rfl (lv_at hl 1 rfl) ?_
      refine k_get C hw (LM_0 LM) (ci := 12) rfl k_in12 16 (by decide) lk12_228 (v := .int (σ.1 0 16)) rfl dX12_lawLine_46 ?_
      refine lv_bipush (v := (16 : Int32)) hx hb dX12_lawLine_49 (by decide) ?_
      refine lv_iload_n hx hb dX12_lawLine_51 rfl (lv_at hl 0 rfl) ?_
      refine lv_iadd hx hb dX12_lawLine_52 ?_
      refine lv_ishr hx hb dX12_lawLine_53 ?_
      refine lv_iconst (v := (1 : Int32)) hx hb dX12_lawLine_54 (by decide) ?_
      refine lv_iand hx hb dX12_lawLine_55 ?_
      refine lv_iconst (v := (1 : Int32)) hx hb dX12_lawLine_56 (by decide) ?_
      refine lv_icmp_ne (tgt := 65) hx hb dX12_lawLine_57 (by decide) (fun h => ?_) (fun h => ?_)
      · have hf := k_ifF h hf
        exact b65 u1 σ _ _ _ (lv_sub hl [1, 0] rfl) hw hf
      · have hf := k_ifT h hf
        refine lv_aload_n hx hb dX12_lawLine_60 rfl (lv_at hl 1 rfl) ?_
        refine lv_iconst (v := (3 : Int32)) hx hb dX12_lawLine_61 (by decide) ?_
        obtain ⟨σ2, hq, hf⟩ := k_bvE hf
        refine k_callVv C hw (c_X12_wrong l G Y w ad LM (3 : Int32) σ σ2 hq) (cwV 1 hts gX12_lawLine_X12_wrong rfl rfl rfl (by decide +kernel) ⟨Nat.le_of_ble_eq_true rfl, Nat.le_of_ble_eq_true rfl⟩) (k_recv C hw (LM_0 LM) rfl) rfl hl.1 rfl (Nat.le_of_ble_eq_true rfl) dX12_lawLine_62 (fun H locs hw => ?_)
        exact b65 u1 σ2 _ _ _ (lv_sub hl [1, 0] rfl) hw hf
  have b25 : ∀ (σ : MSt) (H : Heap) (locs : List Loc) (ls : Array Slot), lv_has ls 2 [(0, .ref (ad 0))] → k_W G w A s.heap σ H locs → f_X12_lawLine_b25 σ = some σ' → W p l e rmX12_lawLine s m [.ref (ad 0)].toArray below meth c H locs 0 0 (MQ below (k_Qv G w A σ') [.ref (ad 0)].toArray s 0 0 A) (F0 m 25 ls []) := by
    intro σ H locs ls hl hw hf
    unfold f_X12_lawLine_b25 at hf
    refine lv_aload_n hx hb dX12_lawLine_25 rfl (lv_at hl 0 rfl) ?_
    refine lv_iconst (v := (1 : Int32)) hx hb dX12_lawLine_26 (by decide) ?_
    obtain ⟨σ1, hq, hf⟩ := k_bvE hf
    refine k_callVv C hw (c_X12_wrong l G Y w ad LM (1 : Int32) σ σ1 hq) (cwV 1 hts gX12_lawLine_X12_wrong rfl rfl rfl (by decide +kernel) ⟨Nat.le_of_ble_eq_true rfl, Nat.le_of_ble_eq_true rfl⟩) (k_recv C hw (LM_0 LM) rfl) rfl hl.1 rfl (Nat.le_of_ble_eq_true rfl) dX12_lawLine_27 (fun H locs hw => ?_)
    exact b30 σ1 _ _ _ (lv_sub hl [0] rfl) hw hf
  unfold f_X12_lawLine at hf
  refine lv_aload_n hx hb dX12_lawLine_0 rfl (lv_at hl 0 rfl) ?_
  refine k_get C hw (LM_0 LM) (ci := 12) rfl k_in12 21 (by decide) lk12_164 (v := .int (σ.1 0 21)) rfl dX12_lawLine_1 ?_
  refine lv_if_ne (tgt := 25) hx hb dX12_lawLine_4 (by decide) (fun h => ?_) (fun h => ?_)
  · have hf := k_ifF h hf
    exact b25 σ _ _ _ (lv_sub hl [0] rfl) hw hf
  · have hf := k_ifT h hf
    refine lv_aload_n hx hb dX12_lawLine_7 rfl (lv_at hl 0 rfl) ?_
    refine k_get C hw (LM_0 LM) (ci := 12) rfl k_in12 22 (by decide) lk12_174 (v := .int (σ.1 0 22)) rfl dX12_lawLine_8 ?_
    refine lv_bipush (v := (9 : Int32)) hx hb dX12_lawLine_11 (by decide) ?_
    refine lv_icmp_lt (tgt := 25) hx hb dX12_lawLine_13 (by decide) (fun h => ?_) (fun h => ?_)
    · have hf := k_ifT h hf
      exact b25 σ _ _ _ (lv_sub hl [0] rfl) hw hf
    · have hf := k_ifF h hf
      refine lv_aload_n hx hb dX12_lawLine_16 rfl (lv_at hl 0 rfl) ?_
      refine k_get C hw (LM_0 LM) (ci := 12) rfl k_in12 22 (by decide) lk12_174 (v := .int (σ.1 0 22)) rfl dX12_lawLine_17 ?_
      refine lv_bipush (v := (11 : Int32)) hx hb dX12_lawLine_20 (by decide) ?_
      refine lv_icmp_le (tgt := 30) hx hb dX12_lawLine_22 (by decide) (fun h => ?_) (fun h => ?_)
      · have hf := k_ifT h hf
        exact b30 σ _ _ _ (lv_sub hl [0] rfl) hw hf
      · have hf := k_ifF h hf
        exact b25 σ _ _ _ (lv_sub hl [0] rfl) hw hf
def f_X12_line_b389   (σ : MSt) : Option MSt :=
  k_nm (mI σ 0 17 ((σ.1 0 17) + (1 : Int32))) fun σ1 =>
  some σ1
def f_X12_line_b360   (σ : MSt) : Option MSt :=
  if (σ.1 0 23) = 0 then
  (k_bd (f_X12_isSign (59 : Int32) σ) fun q2 σ1 =>
  if q2 = 0 then
  (k_bv (f_X12_wrong (1 : Int32) σ1) fun σ4 =>
  f_X12_line_b389 σ4)
  else
  (k_bv (f_X12_token σ1) fun σ3 =>
  f_X12_line_b389 σ3))
  else
  (some σ)
def f_X12_line_b71  (x1 : Int32) (σ : MSt) : Option MSt :=
  if (σ.1 0 23) = 0 then
  (k_nm (mI σ 0 16 ((σ.1 0 16) ||| ((1 : Int32) <<< (x1 &&& 31)))) fun σ1 =>
  k_bv (f_X12_token σ1) fun σ2 =>
  if x1 = (0 : Int32) then
  (k_bd (f_X12_fresher (0 : Int32) σ2) fun q4 σ3 =>
  k_bd (f_X12_fresher (0 : Int32) σ3) fun q6 σ5 =>
  k_bd (f_X12_fresh 3 16 (8 : Int32) q6 σ5) fun q8 σ7 =>
  k_ck (k_inb ((8 : Int32) + q4) 16) <|
  k_nm (mI σ7 3 (((8 : Int32) + q4)).toNatClampNeg q8) fun σ9 =>
  k_bd (f_X12_fresher (0 : Int32) σ9) fun q11 σ10 =>
  k_bv (f_X12_reads (0 : Int32) (q11 + (1 : Int32)) σ10) fun σ12 =>
  f_X12_line_b360 σ12)
  else if x1 = (1 : Int32) then
  (k_bd (f_X12_fresher (1 : Int32) σ2) fun q14 σ13 =>
  k_bv (f_X12_laneLine ((12 : Int32) + q14) σ13) fun σ15 =>
  f_X12_line_b360 σ15)
  else if x1 = (2 : Int32) then
  (k_bd (f_X12_fresher (2 : Int32) σ2) fun q17 σ16 =>
  k_nm ((12 : Int32) + q17) fun u18 =>
  k_bd (f_X12_bayAhead σ16) fun q20 σ19 =>
  k_ck (k_inb u18 24) <|
  k_nm (mI σ19 7 (u18).toNatClampNeg q20) fun σ21 =>
  k_bd (f_X12_numeral (0 : Int32) (99 : Int32) σ21) fun q23 σ22 =>
  k_ck (k_inb u18 24) <|
  k_nm (mI σ22 8 (u18).toNatClampNeg q23) fun σ24 =>
  k_bd (f_X12_numeral (0 : Int32) (9 : Int32) σ24) fun q26 σ25 =>
  k_ck (k_inb u18 24) <|
  k_nm (mI σ25 9 (u18).toNatClampNeg q26) fun σ27 =>
  k_bd (f_X12_fresher (2 : Int32) σ27) fun q29 σ28 =>
  k_bv (f_X12_reads (2 : Int32) (q29 + (1 : Int32)) σ28) fun σ30 =>
  f_X12_line_b360 σ30)
  else if x1 = (3 : Int32) then
  (k_bd (f_X12_fresher (3 : Int32) σ2) fun q32 σ31 =>
  k_bd (f_X12_numeral (0 : Int32) (9 : Int32) σ31) fun q34 σ33 =>
  k_ck (k_inb ((20 : Int32) + q32) 40) <|
  k_nm (mI σ33 10 (((20 : Int32) + q32)).toNatClampNeg q34) fun σ35 =>
  k_bd (f_X12_fresher (3 : Int32) σ35) fun q37 σ36 =>
  k_bv (f_X12_reads (3 : Int32) (q37 + (1 : Int32)) σ36) fun σ38 =>
  f_X12_line_b360 σ38)
  else if x1 = (4 : Int32) then
  (k_bd (f_X12_bayAhead σ2) fun q40 σ39 =>
  k_bv (f_X12_reads (4 : Int32) q40 σ39) fun σ41 =>
  f_X12_line_b360 σ41)
  else if x1 = (5 : Int32) then
  (k_bd (f_X12_numeral (1 : Int32) (9 : Int32) σ2) fun q43 σ42 =>
  k_bv (f_X12_reads (5 : Int32) q43 σ42) fun σ44 =>
  f_X12_line_b360 σ44)
  else if x1 = (6 : Int32) then
  (k_bd (f_X12_numeral (0 : Int32) (100 : Int32) σ2) fun q46 σ45 =>
  k_bv (f_X12_reads (6 : Int32) q46 σ45) fun σ47 =>
  f_X12_line_b360 σ47)
  else if x1 = (7 : Int32) then
  (k_bd (f_X12_numeral (0 : Int32) (99999 : Int32) σ2) fun q49 σ48 =>
  k_bv (f_X12_reads (7 : Int32) q49 σ48) fun σ50 =>
  f_X12_line_b360 σ50)
  else 
  (k_bv (f_X12_lawLine σ2) fun σ51 =>
  f_X12_line_b360 σ51))
  else
  (some σ)
def f_X12_line_b16   (σ : MSt) : Option MSt :=
  k_bv (f_X12_wrong (1 : Int32) σ) fun σ1 =>
  some σ1
def f_X12_line   (σ : MSt) : Option MSt :=
  if (σ.1 0 21) = 0 then
  (if (σ.1 0 22) ≤ (8 : Int32) then
  (k_nm (σ.1 0 22) fun u2 =>
  k_bd (f_X12_isFull u2 σ) fun q4 σ3 =>
  if q4 = 0 then
  (if u2 < (4 : Int32) then
  (f_X12_line_b71 u2 σ3)
  else
  (if (7 : Int32) < u2 then
  (f_X12_line_b71 u2 σ3)
  else
  (if (((σ3.1 0 16) >>> (u2 &&& 31)) &&& (1 : Int32)) = (1 : Int32) then
  (k_bv (f_X12_wrong (3 : Int32) σ3) fun σ5 =>
  f_X12_line_b71 u2 σ5)
  else
  (f_X12_line_b71 u2 σ3))))
  else
  (k_bv (f_X12_wrong (2 : Int32) σ3) fun σ6 =>
  f_X12_line_b71 u2 σ6))
  else
  (f_X12_line_b16 σ))
  else
  (f_X12_line_b16 σ)
def rmX12_line : Room := { frames := 192, cells := 0, slots := 0, locals := 6441 }
set_option maxHeartbeats 4000000 in
set_option maxRecDepth 100000 in
theorem c_X12_line (l : Launch) (G : va_G) (Y : CY) (w : MSt → va_W) (ad : Nat → Nat)  (LM : LayM ad w Y)  (σ : MSt) (σ' : MSt) (hf : f_X12_line σ = some σ') : k_Mv l yX12_line wsX12_line rmX12_line G Y w [.ref (ad 0)] σ σ' := by
  refine k_ofv (own := RX12) (cc := cX12_line) (maxL := 3) none (by decide) rfl rfl (Nat.le_of_ble_eq_true rfl) ?_
  intro p e s m below meth c A C ls hl hw
  have hx := C.1
  have hb := C.2.1
  have hown := C.2.2.2.2.1
  have hts := C.2.2.2.2.2.1
  have hks := C.2.2.2.2.2.2.1
  have hl : lv_has ls 3 [(0, .ref (ad 0))] := hl
  have b389 : ∀ (σ : MSt) (H : Heap) (locs : List Loc) (ls : Array Slot), lv_has ls 3 [(0, .ref (ad 0))] → k_W G w A s.heap σ H locs → f_X12_line_b389 σ = some σ' → W p l e rmX12_line s m [.ref (ad 0)].toArray below meth c H locs 0 0 (MQ below (k_Qv G w A σ') [.ref (ad 0)].toArray s 0 0 A) (F0 m 389 ls []) := by
    intro σ H locs ls hl hw hf
    unfold f_X12_line_b389 at hf
    refine lv_aload_n hx hb dX12_line_389 rfl (lv_at hl 0 rfl) ?_
    refine lv_dup hx hb dX12_line_390 rfl ?_
    refine k_get C hw (LM_0 LM) (ci := 12) rfl k_in12 17 (by decide) lk12_255 (v := .int (σ.1 0 17)) rfl dX12_line_391 ?_
    refine lv_iconst (v := (1 : Int32)) hx hb dX12_line_394 (by decide) ?_
    refine lv_iadd hx hb dX12_line_395 ?_
    refine k_put C hw (LM_0 LM) (ci := 12) rfl k_in12 tyX12 tyX12_ok nmX12 17 (by decide) lk12_255 rfl ⟨rfl, rfl⟩ rfl dX12_line_396 (fun σ1 eq H locs hw => ?_)
    have hf := k_nmE eq hf
    exact k_vret C hw hf dX12_line_399
  have b360 : ∀ (σ : MSt) (H : Heap) (locs : List Loc) (ls : Array Slot), lv_has ls 3 [(0, .ref (ad 0))] → k_W G w A s.heap σ H locs → f_X12_line_b360 σ = some σ' → W p l e rmX12_line s m [.ref (ad 0)].toArray below meth c H locs 0 0 (MQ below (k_Qv G w A σ') [.ref (ad 0)].toArray s 0 0 A) (F0 m 360 ls []) := by
    intro σ H locs ls hl hw hf
    unfold f_X12_line_b360 at hf
    refine lv_aload_n hx hb dX12_line_360 rfl (lv_at hl 0 rfl) ?_
    refine k_get C hw (LM_0 LM) (ci := 12) rfl k_in12 23 (by decide) lk12_199 (v := .int (σ.1 0 23)) rfl dX12_line_361 ?_
    refine lv_if_eq (tgt := 368) hx hb dX12_line_364 (by decide) (fun h => ?_) (fun h => ?_)
    · have hf := k_ifT h hf
      refine lv_aload_n hx hb dX12_line_368 rfl (lv_at hl 0 rfl) ?_
      refine lv_bipush (v := (59 : Int32)) hx hb dX12_line_369 (by decide) ?_
      obtain ⟨q2, σ1, hq, hf⟩ := k_bdE hf
      refine k_callVi C hw (c_X12_isSign l G Y w ad LM (59 : Int32) σ q2 σ1 hq) (cwV 1 hts gX12_line_X12_isSign rfl rfl rfl (by decide +kernel) ⟨Nat.le_of_ble_eq_true rfl, Nat.le_of_ble_eq_true rfl⟩) (k_recv C hw (LM_0 LM) rfl) rfl hl.1 rfl (Nat.le_of_ble_eq_true rfl) dX12_line_371 (fun H locs hw => ?_)
      refine lv_if_ne (tgt := 385) hx hb dX12_line_374 (by decide) (fun h => ?_) (fun h => ?_)
      · have hf := k_ifF h hf
        refine lv_aload_n hx hb dX12_line_385 rfl (lv_at hl 0 rfl) ?_
        obtain ⟨σ3, hq, hf⟩ := k_bvE hf
        refine k_callVv C hw (c_X12_token l G Y w ad LM σ1 σ3 hq) (cwV 0 hts gX12_line_X12_token rfl rfl rfl (by decide +kernel) ⟨Nat.le_of_ble_eq_true rfl, Nat.le_of_ble_eq_true rfl⟩) (k_recv C hw (LM_0 LM) rfl) rfl hl.1 rfl (Nat.le_of_ble_eq_true rfl) dX12_line_386 (fun H locs hw => ?_)
        exact b389 σ3 _ _ _ (lv_sub hl [0] rfl) hw hf
      · have hf := k_ifT h hf
        refine lv_aload_n hx hb dX12_line_377 rfl (lv_at hl 0 rfl) ?_
        refine lv_iconst (v := (1 : Int32)) hx hb dX12_line_378 (by decide) ?_
        obtain ⟨σ4, hq, hf⟩ := k_bvE hf
        refine k_callVv C hw (c_X12_wrong l G Y w ad LM (1 : Int32) σ1 σ4 hq) (cwV 1 hts gX12_line_X12_wrong rfl rfl rfl (by decide +kernel) ⟨Nat.le_of_ble_eq_true rfl, Nat.le_of_ble_eq_true rfl⟩) (k_recv C hw (LM_0 LM) rfl) rfl hl.1 rfl (Nat.le_of_ble_eq_true rfl) dX12_line_379 (fun H locs hw => ?_)
        refine lv_goto (tgt := 389) hx hb dX12_line_382 (by decide) ?_
        exact b389 σ4 _ _ _ (lv_sub hl [0] rfl) hw hf
    · have hf := k_ifF h hf
      exact k_vret C hw hf dX12_line_367
  have b71 : ∀ (x1 : Int32) (σ : MSt) (H : Heap) (locs : List Loc) (ls : Array Slot), lv_has ls 3 [(0, .ref (ad 0)), (1, .int x1)] → k_W G w A s.heap σ H locs → f_X12_line_b71 x1 σ = some σ' → W p l e rmX12_line s m [.ref (ad 0)].toArray below meth c H locs 0 0 (MQ below (k_Qv G w A σ') [.ref (ad 0)].toArray s 0 0 A) (F0 m 71 ls []) := by
    intro x1 σ H locs ls hl hw hf
    unfold f_X12_line_b71 at hf
    refine lv_aload_n hx hb dX12_line_71 rfl (lv_at hl 0 rfl) ?_
    refine k_get C hw (LM_0 LM) (ci := 12) rfl k_in12 23 (by decide) lk12_199 (v := .int (σ.1 0 23)) rfl dX12_line_72 ?_
    refine lv_if_eq (tgt := 79) hx hb dX12_line_75 (by decide) (fun h => ?_) (fun h => ?_)
    · have hf := k_ifT h hf
      refine lv_aload_n hx hb dX12_line_79 rfl (lv_at hl 0 rfl) ?_
      refine lv_dup hx hb dX12_line_80 rfl ?_
      refine k_get C hw (LM_0 LM) (ci := 12) rfl k_in12 16 (by decide) lk12_228 (v := .int (σ.1 0 16)) rfl dX12_line_81 ?_
      refine lv_iconst (v := (1 : Int32)) hx hb dX12_line_84 (by decide) ?_
      refine lv_iload_n hx hb dX12_line_85 rfl (lv_at hl 1 rfl) ?_
      refine lv_ishl hx hb dX12_line_86 ?_
      refine lv_ior hx hb dX12_line_87 ?_
      refine k_put C hw (LM_0 LM) (ci := 12) rfl k_in12 tyX12 tyX12_ok nmX12 16 (by decide) lk12_228 rfl ⟨rfl, rfl⟩ rfl dX12_line_88 (fun σ1 eq H locs hw => ?_)
      have hf := k_nmE eq hf
      refine lv_aload_n hx hb dX12_line_91 rfl (lv_at hl 0 rfl) ?_
      obtain ⟨σ2, hq, hf⟩ := k_bvE hf
      refine k_callVv C hw (c_X12_token l G Y w ad LM σ1 σ2 hq) (cwV 0 hts gX12_line_X12_token rfl rfl rfl (by decide +kernel) ⟨Nat.le_of_ble_eq_true rfl, Nat.le_of_ble_eq_true rfl⟩) (k_recv C hw (LM_0 LM) rfl) rfl hl.1 rfl (Nat.le_of_ble_eq_true rfl) dX12_line_92 (fun H locs hw => ?_)
      refine lv_iload_n hx hb dX12_line_95 rfl (lv_at hl 1 rfl) ?_
      by_cases h0 : x1 = (0 : Int32)
      · have hf := k_ifT h0 hf
        refine lv_tableIn (tgt := 144) hx hb dX12_line_96 (by rw [h0]; decide) (by rw [h0]; decide) (by rw [h0]; rfl) (by decide) ?_
        refine lv_aload_n hx hb dX12_line_144 rfl (lv_at hl 0 rfl) ?_
        refine k_get C hw (LM_0 LM) (ci := 12) rfl k_in12 4 (by decide) lk12_16 (v := .ref (ad 3)) rfl dX12_line_145 ?_
        refine lv_bipush (v := (8 : Int32)) hx hb dX12_line_148 (by decide) ?_
        refine lv_aload_n hx hb dX12_line_150 rfl (lv_at hl 0 rfl) ?_
        refine lv_iconst (v := (0 : Int32)) hx hb dX12_line_151 (by decide) ?_
        obtain ⟨q4, σ3, hq, hf⟩ := k_bdE hf
        refine k_callVi C hw (c_X12_fresher l G Y w ad LM (0 : Int32) σ2 q4 σ3 hq) (cwV 1 hts gX12_line_X12_fresher rfl rfl rfl (by decide +kernel) ⟨Nat.le_of_ble_eq_true rfl, Nat.le_of_ble_eq_true rfl⟩) (k_recv C hw (LM_0 LM) rfl) rfl hl.1 rfl (Nat.le_of_ble_eq_true rfl) dX12_line_152 (fun H locs hw => ?_)
        refine lv_iadd hx hb dX12_line_155 ?_
        refine lv_aload_n hx hb dX12_line_156 rfl (lv_at hl 0 rfl) ?_
        refine lv_aload_n hx hb dX12_line_157 rfl (lv_at hl 0 rfl) ?_
        refine k_get C hw (LM_0 LM) (ci := 12) rfl k_in12 4 (by decide) lk12_16 (v := .ref (ad 3)) rfl dX12_line_158 ?_
        refine lv_bipush (v := (8 : Int32)) hx hb dX12_line_161 (by decide) ?_
        refine lv_aload_n hx hb dX12_line_163 rfl (lv_at hl 0 rfl) ?_
        refine lv_iconst (v := (0 : Int32)) hx hb dX12_line_164 (by decide) ?_
        obtain ⟨q6, σ5, hq, hf⟩ := k_bdE hf
        refine k_callVi C hw (c_X12_fresher l G Y w ad LM (0 : Int32) σ3 q6 σ5 hq) (cwV 1 hts gX12_line_X12_fresher rfl rfl rfl (by decide +kernel) ⟨Nat.le_of_ble_eq_true rfl, Nat.le_of_ble_eq_true rfl⟩) (k_recv C hw (LM_0 LM) rfl) rfl hl.1 rfl (Nat.le_of_ble_eq_true rfl) dX12_line_165 (fun H locs hw => ?_)
        obtain ⟨q8, σ7, hq, hf⟩ := k_bdE hf
        refine k_callVi C hw (c_X12_fresh l G Y w ad 3 16 LM (LM_3 LM) (8 : Int32) q6 σ5 q8 σ7 hq) (cwV 3 hts gX12_line_X12_fresh rfl rfl rfl (by decide +kernel) ⟨Nat.le_of_ble_eq_true rfl, Nat.le_of_ble_eq_true rfl⟩) (k_recv C hw (LM_0 LM) rfl) rfl hl.1 rfl (Nat.le_of_ble_eq_true rfl) dX12_line_168 (fun H locs hw => ?_)
        obtain ⟨hi, hf⟩ := k_ckE hf
        refine k_iast C hw (LM_3 LM) hi dX12_line_171 (fun σ9 eq H locs hw => ?_)
        have hf := k_nmE eq hf
        refine lv_aload_n hx hb dX12_line_172 rfl (lv_at hl 0 rfl) ?_
        refine lv_iconst (v := (0 : Int32)) hx hb dX12_line_173 (by decide) ?_
        refine lv_aload_n hx hb dX12_line_174 rfl (lv_at hl 0 rfl) ?_
        refine lv_iconst (v := (0 : Int32)) hx hb dX12_line_175 (by decide) ?_
        obtain ⟨q11, σ10, hq, hf⟩ := k_bdE hf
        refine k_callVi C hw (c_X12_fresher l G Y w ad LM (0 : Int32) σ9 q11 σ10 hq) (cwV 1 hts gX12_line_X12_fresher rfl rfl rfl (by decide +kernel) ⟨Nat.le_of_ble_eq_true rfl, Nat.le_of_ble_eq_true rfl⟩) (k_recv C hw (LM_0 LM) rfl) rfl hl.1 rfl (Nat.le_of_ble_eq_true rfl) dX12_line_176 (fun H locs hw => ?_)
        refine lv_iconst (v := (1 : Int32)) hx hb dX12_line_179 (by decide) ?_
        refine lv_iadd hx hb dX12_line_180 ?_
        obtain ⟨σ12, hq, hf⟩ := k_bvE hf
        refine k_callVv C hw (c_X12_reads l G Y w ad LM (0 : Int32) (q11 + (1 : Int32)) σ10 σ12 hq) (cwV 2 hts gX12_line_X12_reads rfl rfl rfl (by decide +kernel) ⟨Nat.le_of_ble_eq_true rfl, Nat.le_of_ble_eq_true rfl⟩) (k_recv C hw (LM_0 LM) rfl) rfl hl.1 rfl (Nat.le_of_ble_eq_true rfl) dX12_line_181 (fun H locs hw => ?_)
        refine lv_goto (tgt := 360) hx hb dX12_line_184 (by decide) ?_
        exact b360 σ12 _ _ _ (lv_sub hl [0] rfl) hw hf
      have hf := k_ifF h0 hf
      by_cases h1 : x1 = (1 : Int32)
      · have hf := k_ifT h1 hf
        refine lv_tableIn (tgt := 187) hx hb dX12_line_96 (by rw [h1]; decide) (by rw [h1]; decide) (by rw [h1]; rfl) (by decide) ?_
        refine lv_aload_n hx hb dX12_line_187 rfl (lv_at hl 0 rfl) ?_
        refine lv_bipush (v := (12 : Int32)) hx hb dX12_line_188 (by decide) ?_
        refine lv_aload_n hx hb dX12_line_190 rfl (lv_at hl 0 rfl) ?_
        refine lv_iconst (v := (1 : Int32)) hx hb dX12_line_191 (by decide) ?_
        obtain ⟨q14, σ13, hq, hf⟩ := k_bdE hf
        refine k_callVi C hw (c_X12_fresher l G Y w ad LM (1 : Int32) σ2 q14 σ13 hq) (cwV 1 hts gX12_line_X12_fresher rfl rfl rfl (by decide +kernel) ⟨Nat.le_of_ble_eq_true rfl, Nat.le_of_ble_eq_true rfl⟩) (k_recv C hw (LM_0 LM) rfl) rfl hl.1 rfl (Nat.le_of_ble_eq_true rfl) dX12_line_192 (fun H locs hw => ?_)
        refine lv_iadd hx hb dX12_line_195 ?_
        obtain ⟨σ15, hq, hf⟩ := k_bvE hf
        refine k_callVv C hw (c_X12_laneLine l G Y w ad LM ((12 : Int32) + q14) σ13 σ15 hq) (cwV 1 hts gX12_line_X12_laneLine rfl rfl rfl (by decide +kernel) ⟨Nat.le_of_ble_eq_true rfl, Nat.le_of_ble_eq_true rfl⟩) (k_recv C hw (LM_0 LM) rfl) rfl hl.1 rfl (Nat.le_of_ble_eq_true rfl) dX12_line_196 (fun H locs hw => ?_)
        refine lv_goto (tgt := 360) hx hb dX12_line_199 (by decide) ?_
        exact b360 σ15 _ _ _ (lv_sub hl [0] rfl) hw hf
      have hf := k_ifF h1 hf
      by_cases h2 : x1 = (2 : Int32)
      · have hf := k_ifT h2 hf
        refine lv_tableIn (tgt := 202) hx hb dX12_line_96 (by rw [h2]; decide) (by rw [h2]; decide) (by rw [h2]; rfl) (by decide) ?_
        refine lv_bipush (v := (12 : Int32)) hx hb dX12_line_202 (by decide) ?_
        refine lv_aload_n hx hb dX12_line_204 rfl (lv_at hl 0 rfl) ?_
        refine lv_iconst (v := (2 : Int32)) hx hb dX12_line_205 (by decide) ?_
        obtain ⟨q17, σ16, hq, hf⟩ := k_bdE hf
        refine k_callVi C hw (c_X12_fresher l G Y w ad LM (2 : Int32) σ2 q17 σ16 hq) (cwV 1 hts gX12_line_X12_fresher rfl rfl rfl (by decide +kernel) ⟨Nat.le_of_ble_eq_true rfl, Nat.le_of_ble_eq_true rfl⟩) (k_recv C hw (LM_0 LM) rfl) rfl hl.1 rfl (Nat.le_of_ble_eq_true rfl) dX12_line_206 (fun H locs hw => ?_)
        refine lv_iadd hx hb dX12_line_209 ?_
        refine lv_topi (fun u18 ex => ?_)
        have hf := k_nmE ex hf
        refine lv_istore_n (lv' := [(2, .int u18), (0, .ref (ad 0)), (1, .int x1)]) hx hb dX12_line_210 rfl hl (by decide) rfl (fun ls hl => ?_)
        refine lv_aload_n hx hb dX12_line_211 rfl (lv_at hl 1 rfl) ?_
        refine k_get C hw (LM_0 LM) (ci := 12) rfl k_in12 8 (by decide) lk12_28 (v := .ref (ad 7)) rfl dX12_line_212 ?_
        refine lv_iload_n hx hb dX12_line_215 rfl (lv_at hl 0 rfl) ?_
        refine lv_aload_n hx hb dX12_line_216 rfl (lv_at hl 1 rfl) ?_
        obtain ⟨q20, σ19, hq, hf⟩ := k_bdE hf
        refine k_callVi C hw (c_X12_bayAhead l G Y w ad LM σ16 q20 σ19 hq) (cwV 0 hts gX12_line_X12_bayAhead rfl rfl rfl (by decide +kernel) ⟨Nat.le_of_ble_eq_true rfl, Nat.le_of_ble_eq_true rfl⟩) (k_recv C hw (LM_0 LM) rfl) rfl hl.1 rfl (Nat.le_of_ble_eq_true rfl) dX12_line_217 (fun H locs hw => ?_)
        obtain ⟨hi, hf⟩ := k_ckE hf
        refine k_iast C hw (LM_7 LM) hi dX12_line_220 (fun σ21 eq H locs hw => ?_)
        have hf := k_nmE eq hf
        refine lv_aload_n hx hb dX12_line_221 rfl (lv_at hl 1 rfl) ?_
        refine k_get C hw (LM_0 LM) (ci := 12) rfl k_in12 9 (by decide) lk12_31 (v := .ref (ad 8)) rfl dX12_line_222 ?_
        refine lv_iload_n hx hb dX12_line_225 rfl (lv_at hl 0 rfl) ?_
        refine lv_aload_n hx hb dX12_line_226 rfl (lv_at hl 1 rfl) ?_
        refine lv_iconst (v := (0 : Int32)) hx hb dX12_line_227 (by decide) ?_
        refine lv_bipush (v := (99 : Int32)) hx hb dX12_line_228 (by decide) ?_
        obtain ⟨q23, σ22, hq, hf⟩ := k_bdE hf
        refine k_callVi C hw (c_X12_numeral l G Y w ad LM (0 : Int32) (99 : Int32) σ21 q23 σ22 hq) (cwV 2 hts gX12_line_X12_numeral rfl rfl rfl (by decide +kernel) ⟨Nat.le_of_ble_eq_true rfl, Nat.le_of_ble_eq_true rfl⟩) (k_recv C hw (LM_0 LM) rfl) rfl hl.1 rfl (Nat.le_of_ble_eq_true rfl) dX12_line_230 (fun H locs hw => ?_)
        obtain ⟨hi, hf⟩ := k_ckE hf
        refine k_iast C hw (LM_8 LM) hi dX12_line_233 (fun σ24 eq H locs hw => ?_)
        have hf := k_nmE eq hf
        refine lv_aload_n hx hb dX12_line_234 rfl (lv_at hl 1 rfl) ?_
        refine k_get C hw (LM_0 LM) (ci := 12) rfl k_in12 10 (by decide) lk12_34 (v := .ref (ad 9)) rfl dX12_line_235 ?_
        refine lv_iload_n hx hb dX12_line_238 rfl (lv_at hl 0 rfl) ?_
        refine lv_aload_n hx hb dX12_line_239 rfl (lv_at hl 1 rfl) ?_
        refine lv_iconst (v := (0 : Int32)) hx hb dX12_line_240 (by decide) ?_
        refine lv_bipush (v := (9 : Int32)) hx hb dX12_line_241 (by decide) ?_
        obtain ⟨q26, σ25, hq, hf⟩ := k_bdE hf
        refine k_callVi C hw (c_X12_numeral l G Y w ad LM (0 : Int32) (9 : Int32) σ24 q26 σ25 hq) (cwV 2 hts gX12_line_X12_numeral rfl rfl rfl (by decide +kernel) ⟨Nat.le_of_ble_eq_true rfl, Nat.le_of_ble_eq_true rfl⟩) (k_recv C hw (LM_0 LM) rfl) rfl hl.1 rfl (Nat.le_of_ble_eq_true rfl) dX12_line_243 (fun H locs hw => ?_)
        obtain ⟨hi, hf⟩ := k_ckE hf
        refine k_iast C hw (LM_9 LM) hi dX12_line_246 (fun σ27 eq H locs hw => ?_)
        have hf := k_nmE eq hf
        refine lv_aload_n hx hb dX12_line_247 rfl (lv_at hl 1 rfl) ?_
        refine lv_iconst (v := (2 : Int32)) hx hb dX12_line_248 (by decide) ?_
        refine lv_aload_n hx hb dX12_line_249 rfl (lv_at hl 1 rfl) ?_
        refine lv_iconst (v := (2 : Int32)) hx hb dX12_line_250 (by decide) ?_
        obtain ⟨q29, σ28, hq, hf⟩ := k_bdE hf
        refine k_callVi C hw (c_X12_fresher l G Y w ad LM (2 : Int32) σ27 q29 σ28 hq) (cwV 1 hts gX12_line_X12_fresher rfl rfl rfl (by decide +kernel) ⟨Nat.le_of_ble_eq_true rfl, Nat.le_of_ble_eq_true rfl⟩) (k_recv C hw (LM_0 LM) rfl) rfl hl.1 rfl (Nat.le_of_ble_eq_true rfl) dX12_line_251 (fun H locs hw => ?_)
        refine lv_iconst (v := (1 : Int32)) hx hb dX12_line_254 (by decide) ?_
        refine lv_iadd hx hb dX12_line_255 ?_
        obtain ⟨σ30, hq, hf⟩ := k_bvE hf
        refine k_callVv C hw (c_X12_reads l G Y w ad LM (2 : Int32) (q29 + (1 : Int32)) σ28 σ30 hq) (cwV 2 hts gX12_line_X12_reads rfl rfl rfl (by decide +kernel) ⟨Nat.le_of_ble_eq_true rfl, Nat.le_of_ble_eq_true rfl⟩) (k_recv C hw (LM_0 LM) rfl) rfl hl.1 rfl (Nat.le_of_ble_eq_true rfl) dX12_line_256 (fun H locs hw => ?_)
        refine lv_goto (tgt := 360) hx hb dX12_line_259 (by decide) ?_
        exact b360 σ30 _ _ _ (lv_sub hl [1] rfl) hw hf
      have hf := k_ifF h2 hf
      by_cases h3 : x1 = (3 : Int32)
      · have hf := k_ifT h3 hf
        refine lv_tableIn (tgt := 262) hx hb dX12_line_96 (by rw [h3]; decide) (by rw [h3]; decide) (by rw [h3]; rfl) (by decide) ?_
        refine lv_aload_n hx hb dX12_line_262 rfl (lv_at hl 0 rfl) ?_
        refine k_get C hw (LM_0 LM) (ci := 12) rfl k_in12 11 (by decide) lk12_37 (v := .ref (ad 10)) rfl dX12_line_263 ?_
        refine lv_bipush (v := (20 : Int32)) hx hb dX12_line_266 (by decide) ?_
        refine lv_aload_n hx hb dX12_line_268 rfl (lv_at hl 0 rfl) ?_
        refine lv_iconst (v := (3 : Int32)) hx hb dX12_line_269 (by decide) ?_
        obtain ⟨q32, σ31, hq, hf⟩ := k_bdE hf
        refine k_callVi C hw (c_X12_fresher l G Y w ad LM (3 : Int32) σ2 q32 σ31 hq) (cwV 1 hts gX12_line_X12_fresher rfl rfl rfl (by decide +kernel) ⟨Nat.le_of_ble_eq_true rfl, Nat.le_of_ble_eq_true rfl⟩) (k_recv C hw (LM_0 LM) rfl) rfl hl.1 rfl (Nat.le_of_ble_eq_true rfl) dX12_line_270 (fun H locs hw => ?_)
        refine lv_iadd hx hb dX12_line_273 ?_
        refine lv_aload_n hx hb dX12_line_274 rfl (lv_at hl 0 rfl) ?_
        refine lv_iconst (v := (0 : Int32)) hx hb dX12_line_275 (by decide) ?_
        refine lv_bipush (v := (9 : Int32)) hx hb dX12_line_276 (by decide) ?_
        obtain ⟨q34, σ33, hq, hf⟩ := k_bdE hf
        refine k_callVi C hw (c_X12_numeral l G Y w ad LM (0 : Int32) (9 : Int32) σ31 q34 σ33 hq) (cwV 2 hts gX12_line_X12_numeral rfl rfl rfl (by decide +kernel) ⟨Nat.le_of_ble_eq_true rfl, Nat.le_of_ble_eq_true rfl⟩) (k_recv C hw (LM_0 LM) rfl) rfl hl.1 rfl (Nat.le_of_ble_eq_true rfl) dX12_line_278 (fun H locs hw => ?_)
        obtain ⟨hi, hf⟩ := k_ckE hf
        refine k_iast C hw (LM_10 LM) hi dX12_line_281 (fun σ35 eq H locs hw => ?_)
        have hf := k_nmE eq hf
        refine lv_aload_n hx hb dX12_line_282 rfl (lv_at hl 0 rfl) ?_
        refine lv_iconst (v := (3 : Int32)) hx hb dX12_line_283 (by decide) ?_
        refine lv_aload_n hx hb dX12_line_284 rfl (lv_at hl 0 rfl) ?_
        refine lv_iconst (v := (3 : Int32)) hx hb dX12_line_285 (by decide) ?_
        obtain ⟨q37, σ36, hq, hf⟩ := k_bdE hf
        refine k_callVi C hw (c_X12_fresher l G Y w ad LM (3 : Int32) σ35 q37 σ36 hq) (cwV 1 hts gX12_line_X12_fresher rfl rfl rfl (by decide +kernel) ⟨Nat.le_of_ble_eq_true rfl, Nat.le_of_ble_eq_true rfl⟩) (k_recv C hw (LM_0 LM) rfl) rfl hl.1 rfl (Nat.le_of_ble_eq_true rfl) dX12_line_286 (fun H locs hw => ?_)
        refine lv_iconst (v := (1 : Int32)) hx hb dX12_line_289 (by decide) ?_
        refine lv_iadd hx hb dX12_line_290 ?_
        obtain ⟨σ38, hq, hf⟩ := k_bvE hf
        refine k_callVv C hw (c_X12_reads l G Y w ad LM (3 : Int32) (q37 + (1 : Int32)) σ36 σ38 hq) (cwV 2 hts gX12_line_X12_reads rfl rfl rfl (by decide +kernel) ⟨Nat.le_of_ble_eq_true rfl, Nat.le_of_ble_eq_true rfl⟩) (k_recv C hw (LM_0 LM) rfl) rfl hl.1 rfl (Nat.le_of_ble_eq_true rfl) dX12_line_291 (fun H locs hw => ?_)
        refine lv_goto (tgt := 360) hx hb dX12_line_294 (by decide) ?_
        exact b360 σ38 _ _ _ (lv_sub hl [0] rfl) hw hf
      have hf := k_ifF h3 hf
      by_cases h4 : x1 = (4 : Int32)
      · have hf := k_ifT h4 hf
        refine lv_tableIn (tgt := 297) hx hb dX12_line_96 (by rw [h4]; decide) (by rw [h4]; decide) (by rw [h4]; rfl) (by decide) ?_
        refine lv_aload_n hx hb dX12_line_297 rfl (lv_at hl 0 rfl) ?_
        refine lv_iconst (v := (4 : Int32)) hx hb dX12_line_298 (by decide) ?_
        refine lv_aload_n hx hb dX12_line_299 rfl (lv_at hl 0 rfl) ?_
        obtain ⟨q40, σ39, hq, hf⟩ := k_bdE hf
        refine k_callVi C hw (c_X12_bayAhead l G Y w ad LM σ2 q40 σ39 hq) (cwV 0 hts gX12_line_X12_bayAhead rfl rfl rfl (by decide +kernel) ⟨Nat.le_of_ble_eq_true rfl, Nat.le_of_ble_eq_true rfl⟩) (k_recv C hw (LM_0 LM) rfl) rfl hl.1 rfl (Nat.le_of_ble_eq_true rfl) dX12_line_300 (fun H locs hw => ?_)
        obtain ⟨σ41, hq, hf⟩ := k_bvE hf
        refine k_callVv C hw (c_X12_reads l G Y w ad LM (4 : Int32) q40 σ39 σ41 hq) (cwV 2 hts gX12_line_X12_reads rfl rfl rfl (by decide +kernel) ⟨Nat.le_of_ble_eq_true rfl, Nat.le_of_ble_eq_true rfl⟩) (k_recv C hw (LM_0 LM) rfl) rfl hl.1 rfl (Nat.le_of_ble_eq_true rfl) dX12_line_303 (fun H locs hw => ?_)
        refine lv_goto (tgt := 360) hx hb dX12_line_306 (by decide) ?_
        exact b360 σ41 _ _ _ (lv_sub hl [0] rfl) hw hf
      have hf := k_ifF h4 hf
      by_cases h5 : x1 = (5 : Int32)
      · have hf := k_ifT h5 hf
        refine lv_tableIn (tgt := 309) hx hb dX12_line_96 (by rw [h5]; decide) (by rw [h5]; decide) (by rw [h5]; rfl) (by decide) ?_
        refine lv_aload_n hx hb dX12_line_309 rfl (lv_at hl 0 rfl) ?_
        refine lv_iconst (v := (5 : Int32)) hx hb dX12_line_310 (by decide) ?_
        refine lv_aload_n hx hb dX12_line_311 rfl (lv_at hl 0 rfl) ?_
        refine lv_iconst (v := (1 : Int32)) hx hb dX12_line_312 (by decide) ?_
        refine lv_bipush (v := (9 : Int32)) hx hb dX12_line_313 (by decide) ?_
        obtain ⟨q43, σ42, hq, hf⟩ := k_bdE hf
        refine k_callVi C hw (c_X12_numeral l G Y w ad LM (1 : Int32) (9 : Int32) σ2 q43 σ42 hq) (cwV 2 hts gX12_line_X12_numeral rfl rfl rfl (by decide +kernel) ⟨Nat.le_of_ble_eq_true rfl, Nat.le_of_ble_eq_true rfl⟩) (k_recv C hw (LM_0 LM) rfl) rfl hl.1 rfl (Nat.le_of_ble_eq_true rfl) dX12_line_315 (fun H locs hw => ?_)
        obtain ⟨σ44, hq, hf⟩ := k_bvE hf
        refine k_callVv C hw (c_X12_reads l G Y w ad LM (5 : Int32) q43 σ42 σ44 hq) (cwV 2 hts gX12_line_X12_reads rfl rfl rfl (by decide +kernel) ⟨Nat.le_of_ble_eq_true rfl, Nat.le_of_ble_eq_true rfl⟩) (k_recv C hw (LM_0 LM) rfl) rfl hl.1 rfl (Nat.le_of_ble_eq_true rfl) dX12_line_318 (fun H locs hw => ?_)
        refine lv_goto (tgt := 360) hx hb dX12_line_321 (by decide) ?_
        exact b360 σ44 _ _ _ (lv_sub hl [0] rfl) hw hf
      have hf := k_ifF h5 hf
      by_cases h6 : x1 = (6 : Int32)
      · have hf := k_ifT h6 hf
        refine lv_tableIn (tgt := 324) hx hb dX12_line_96 (by rw [h6]; decide) (by rw [h6]; decide) (by rw [h6]; rfl) (by decide) ?_
        refine lv_aload_n hx hb dX12_line_324 rfl (lv_at hl 0 rfl) ?_
        refine lv_bipush (v := (6 : Int32)) hx hb dX12_line_325 (by decide) ?_
        refine lv_aload_n hx hb dX12_line_327 rfl (lv_at hl 0 rfl) ?_
        refine lv_iconst (v := (0 : Int32)) hx hb dX12_line_328 (by decide) ?_
        refine lv_bipush (v := (100 : Int32)) hx hb dX12_line_329 (by decide) ?_
        obtain ⟨q46, σ45, hq, hf⟩ := k_bdE hf
        refine k_callVi C hw (c_X12_numeral l G Y w ad LM (0 : Int32) (100 : Int32) σ2 q46 σ45 hq) (cwV 2 hts gX12_line_X12_numeral rfl rfl rfl (by decide +kernel) ⟨Nat.le_of_ble_eq_true rfl, Nat.le_of_ble_eq_true rfl⟩) (k_recv C hw (LM_0 LM) rfl) rfl hl.1 rfl (Nat.le_of_ble_eq_true rfl) dX12_line_331 (fun H locs hw => ?_)
        obtain ⟨σ47, hq, hf⟩ := k_bvE hf
        refine k_callVv C hw (c_X12_reads l G Y w ad LM (6 : Int32) q46 σ45 σ47 hq) (cwV 2 hts gX12_line_X12_reads rfl rfl rfl (by decide +kernel) ⟨Nat.le_of_ble_eq_true rfl, Nat.le_of_ble_eq_true rfl⟩) (k_recv C hw (LM_0 LM) rfl) rfl hl.1 rfl (Nat.le_of_ble_eq_true rfl) dX12_line_334 (fun H locs hw => ?_)
        refine lv_goto (tgt := 360) hx hb dX12_line_337 (by decide) ?_
        exact b360 σ47 _ _ _ (lv_sub hl [0] rfl) hw hf
      have hf := k_ifF h6 hf
      by_cases h7 : x1 = (7 : Int32)
      · have hf := k_ifT h7 hf
        refine lv_tableIn (tgt := 340) hx hb dX12_line_96 (by rw [h7]; decide) (by rw [h7]; decide) (by rw [h7]; rfl) (by decide) ?_
        refine lv_aload_n hx hb dX12_line_340 rfl (lv_at hl 0 rfl) ?_
        refine lv_bipush (v := (7 : Int32)) hx hb dX12_line_341 (by decide) ?_
        refine lv_aload_n hx hb dX12_line_343 rfl (lv_at hl 0 rfl) ?_
        refine lv_iconst (v := (0 : Int32)) hx hb dX12_line_344 (by decide) ?_
        refine lv_ldc (v := (99999 : Int32)) hx hb hown (hks.ts _ ck12_183) dX12_line_345 ?_
        obtain ⟨q49, σ48, hq, hf⟩ := k_bdE hf
        refine k_callVi C hw (c_X12_numeral l G Y w ad LM (0 : Int32) (99999 : Int32) σ2 q49 σ48 hq) (cwV 2 hts gX12_line_X12_numeral rfl rfl rfl (by decide +kernel) ⟨Nat.le_of_ble_eq_true rfl, Nat.le_of_ble_eq_true rfl⟩) (k_recv C hw (LM_0 LM) rfl) rfl hl.1 rfl (Nat.le_of_ble_eq_true rfl) dX12_line_347 (fun H locs hw => ?_)
        obtain ⟨σ50, hq, hf⟩ := k_bvE hf
        refine k_callVv C hw (c_X12_reads l G Y w ad LM (7 : Int32) q49 σ48 σ50 hq) (cwV 2 hts gX12_line_X12_reads rfl rfl rfl (by decide +kernel) ⟨Nat.le_of_ble_eq_true rfl, Nat.le_of_ble_eq_true rfl⟩) (k_recv C hw (LM_0 LM) rfl) rfl hl.1 rfl (Nat.le_of_ble_eq_true rfl) dX12_line_350 (fun H locs hw => ?_)
        refine lv_goto (tgt := 360) hx hb dX12_line_353 (by decide) ?_
        exact b360 σ50 _ _ _ (lv_sub hl [0] rfl) hw hf
      have hf := k_ifF h7 hf
      refine lv_tableOut (tgt := 356) hx hb dX12_line_96 (k_tout (fun k q1 q2 q3 => ?_)) (by decide) ?_
      · have q4 : x1 = Int32.ofInt k := by rw [← q3, Int32.ofInt_toInt]
        have q5 : k = 0 ∨ k = 1 ∨ k = 2 ∨ k = 3 ∨ k = 4 ∨ k = 5 ∨ k = 6 ∨ k = 7 := by omega
        rcases q5 with rfl | rfl | rfl | rfl | rfl | rfl | rfl | rfl
        · exact h0 q4
        · exact h1 q4
        · exact h2 q4
        · exact h3 q4
        · exact h4 q4
        · exact h5 q4
        · exact h6 q4
        · exact h7 q4
      refine lv_aload_n hx hb dX12_line_356 rfl (lv_at hl 0 rfl) ?_
      obtain ⟨σ51, hq, hf⟩ := k_bvE hf
      refine k_callVv C hw (c_X12_lawLine l G Y w ad LM σ2 σ51 hq) (cwV 0 hts gX12_line_X12_lawLine rfl rfl rfl (by decide +kernel) ⟨Nat.le_of_ble_eq_true rfl, Nat.le_of_ble_eq_true rfl⟩) (k_recv C hw (LM_0 LM) rfl) rfl hl.1 rfl (Nat.le_of_ble_eq_true rfl) dX12_line_357 (fun H locs hw => ?_)
      exact b360 σ51 _ _ _ (lv_sub hl [0] rfl) hw hf
    · have hf := k_ifF h hf
      exact k_vret C hw hf dX12_line_78
  have b16 : ∀ (σ : MSt) (H : Heap) (locs : List Loc) (ls : Array Slot), lv_has ls 3 [(0, .ref (ad 0))] → k_W G w A s.heap σ H locs → f_X12_line_b16 σ = some σ' → W p l e rmX12_line s m [.ref (ad 0)].toArray below meth c H locs 0 0 (MQ below (k_Qv G w A σ') [.ref (ad 0)].toArray s 0 0 A) (F0 m 16 ls []) := by
    intro σ H locs ls hl hw hf
    unfold f_X12_line_b16 at hf
    refine lv_aload_n hx hb dX12_line_16 rfl (lv_at hl 0 rfl) ?_
    refine lv_iconst (v := (1 : Int32)) hx hb dX12_line_17 (by decide) ?_
    obtain ⟨σ1, hq, hf⟩ := k_bvE hf
    refine k_callVv C hw (c_X12_wrong l G Y w ad LM (1 : Int32) σ σ1 hq) (cwV 1 hts gX12_line_X12_wrong rfl rfl rfl (by decide +kernel) ⟨Nat.le_of_ble_eq_true rfl, Nat.le_of_ble_eq_true rfl⟩) (k_recv C hw (LM_0 LM) rfl) rfl hl.1 rfl (Nat.le_of_ble_eq_true rfl) dX12_line_18 (fun H locs hw => ?_)
    exact k_vret C hw hf dX12_line_21
  unfold f_X12_line at hf
  refine lv_aload_n hx hb dX12_line_0 rfl (lv_at hl 0 rfl) ?_
  refine k_get C hw (LM_0 LM) (ci := 12) rfl k_in12 21 (by decide) lk12_164 (v := .int (σ.1 0 21)) rfl dX12_line_1 ?_
  refine lv_if_ne (tgt := 16) hx hb dX12_line_4 (by decide) (fun h => ?_) (fun h => ?_)
  · have hf := k_ifF h hf
    exact b16 σ _ _ _ (lv_sub hl [0] rfl) hw hf
  · have hf := k_ifT h hf
    refine lv_aload_n hx hb dX12_line_7 rfl (lv_at hl 0 rfl) ?_
    refine k_get C hw (LM_0 LM) (ci := 12) rfl k_in12 22 (by decide) lk12_174 (v := .int (σ.1 0 22)) rfl dX12_line_8 ?_
    refine lv_bipush (v := (8 : Int32)) hx hb dX12_line_11 (by decide) ?_
    refine lv_icmp_le (tgt := 22) hx hb dX12_line_13 (by decide) (fun h => ?_) (fun h => ?_)
    · have hf := k_ifT h hf
      refine lv_aload_n hx hb dX12_line_22 rfl (lv_at hl 0 rfl) ?_
      refine k_get C hw (LM_0 LM) (ci := 12) rfl k_in12 22 (by decide) lk12_174 (v := .int (σ.1 0 22)) rfl dX12_line_23 ?_
      refine lv_topi (fun u2 ex => ?_)
      have hf := k_nmE ex hf
      refine lv_istore_n (lv' := [(1, .int u2), (0, .ref (ad 0))]) hx hb dX12_line_26 rfl hl (by decide) rfl (fun ls hl => ?_)
      refine lv_aload_n hx hb dX12_line_27 rfl (lv_at hl 1 rfl) ?_
      refine lv_iload_n hx hb dX12_line_28 rfl (lv_at hl 0 rfl) ?_
      obtain ⟨q4, σ3, hq, hf⟩ := k_bdE hf
      refine k_callVi C hw (c_X12_isFull l G Y w ad LM u2 σ q4 σ3 hq) (cwV 1 hts gX12_line_X12_isFull rfl rfl rfl (by decide +kernel) ⟨Nat.le_of_ble_eq_true rfl, Nat.le_of_ble_eq_true rfl⟩) (k_recv C hw (LM_0 LM) rfl) rfl hl.1 rfl (Nat.le_of_ble_eq_true rfl) dX12_line_29 (fun H locs hw => ?_)
      refine lv_if_eq (tgt := 43) hx hb dX12_line_32 (by decide) (fun h => ?_) (fun h => ?_)
      · have hf := k_ifT h hf
        refine lv_iload_n hx hb dX12_line_43 rfl (lv_at hl 0 rfl) ?_
        refine lv_iconst (v := (4 : Int32)) hx hb dX12_line_44 (by decide) ?_
        refine lv_icmp_lt (tgt := 71) hx hb dX12_line_45 (by decide) (fun h => ?_) (fun h => ?_)
        · have hf := k_ifT h hf
          exact b71 u2 σ3 _ _ _ (lv_sub hl [1, 0] rfl) hw hf
        · have hf := k_ifF h hf
          refine lv_iload_n hx hb dX12_line_48 rfl (lv_at hl 0 rfl) ?_
          refine lv_bipush (v := (7 : Int32)) hx hb dX12_line_49 (by decide) ?_
          refine lv_icmp_gt (tgt := 71) hx hb dX12_line_51 (by decide) (fun h => ?_) (fun h => ?_)
          · have hf := k_ifT h hf
            exact b71 u2 σ3 _ _ _ (lv_sub hl [1, 0] rfl) hw hf
          · have hf := k_ifF h hf
            refine lv_aload_n hx hb dX12_line_54 rfl (lv_at hl 1 rfl) ?_
            refine k_get C hw (LM_0 LM) (ci := 12) rfl k_in12 16 (by decide) lk12_228 (v := .int (σ3.1 0 16)) rfl dX12_line_55 ?_
            refine lv_iload_n hx hb dX12_line_58 rfl (lv_at hl 0 rfl) ?_
            refine lv_ishr hx hb dX12_line_59 ?_
            refine lv_iconst (v := (1 : Int32)) hx hb dX12_line_60 (by decide) ?_
            refine lv_iand hx hb dX12_line_61 ?_
            refine lv_iconst (v := (1 : Int32)) hx hb dX12_line_62 (by decide) ?_
            refine lv_icmp_ne (tgt := 71) hx hb dX12_line_63 (by decide) (fun h => ?_) (fun h => ?_)
            · have hf := k_ifF h hf
              exact b71 u2 σ3 _ _ _ (lv_sub hl [1, 0] rfl) hw hf
            · have hf := k_ifT h hf
              refine lv_aload_n hx hb dX12_line_66 rfl (lv_at hl 1 rfl) ?_
              refine lv_iconst (v := (3 : Int32)) hx hb dX12_line_67 (by decide) ?_
              obtain ⟨σ5, hq, hf⟩ := k_bvE hf
              refine k_callVv C hw (c_X12_wrong l G Y w ad LM (3 : Int32) σ3 σ5 hq) (cwV 1 hts gX12_line_X12_wrong rfl rfl rfl (by decide +kernel) ⟨Nat.le_of_ble_eq_true rfl, Nat.le_of_ble_eq_true rfl⟩) (k_recv C hw (LM_0 LM) rfl) rfl hl.1 rfl (Nat.le_of_ble_eq_true rfl) dX12_line_68 (fun H locs hw => ?_)
              exact b71 u2 σ5 _ _ _ (lv_sub hl [1, 0] rfl) hw hf
      · have hf := k_ifF h hf
        refine lv_aload_n hx hb dX12_line_35 rfl (lv_at hl 1 rfl) ?_
        refine lv_iconst (v := (2 : Int32)) hx hb dX12_line_36 (by decide) ?_
        obtain ⟨σ6, hq, hf⟩ := k_bvE hf
        refine k_callVv C hw (c_X12_wrong l G Y w ad LM (2 : Int32) σ3 σ6 hq) (cwV 1 hts gX12_line_X12_wrong rfl rfl rfl (by decide +kernel) ⟨Nat.le_of_ble_eq_true rfl, Nat.le_of_ble_eq_true rfl⟩) (k_recv C hw (LM_0 LM) rfl) rfl hl.1 rfl (Nat.le_of_ble_eq_true rfl) dX12_line_37 (fun H locs hw => ?_)
        refine lv_goto (tgt := 71) hx hb dX12_line_40 (by decide) ?_
        exact b71 u2 σ6 _ _ _ (lv_sub hl [1, 0] rfl) hw hf
    · have hf := k_ifF h hf
      exact b16 σ _ _ _ (lv_sub hl [0] rfl) hw hf
def f_X12_half_b7_s (a1 : Nat) (n1 : Nat) (r7 : Int32 → Int32 → MSt → Option MSt) (x1 : Int32) (x2 : Int32) (σ : MSt) : Option MSt :=
  if x1 ≤ x2 then
  (some σ)
  else
  (k_ck (k_inb (x1 + x2) n1) <|
  k_ck (k_inb x2 n1) <|
  k_nm (mI σ a1 (x2).toNatClampNeg (σ.1 a1 ((x1 + x2)).toNatClampNeg)) fun σ1 =>
  k_nm (x2 + (1 : Int32)) fun u2 =>
  r7 x1 u2 σ1)
def f_X12_half_b7 (a1 : Nat) (n1 : Nat) : Nat → Int32 → Int32 → MSt → Option MSt
  | 0 => fun _ _ _ => none
  | n + 1 => f_X12_half_b7_s a1 n1 (f_X12_half_b7 a1 n1 n)
def f_X12_half (a1 : Nat) (n1 : Nat)  (σ : MSt) : Option MSt :=
  k_nm ((Int32.ofNat n1) / (2 : Int32)) fun u3 =>
  f_X12_half_b7 a1 n1 FU u3 (0 : Int32) σ
def rmX12_half : Room := { frames := 0, cells := 0, slots := 0, locals := 0 }
set_option maxHeartbeats 4000000 in
set_option maxRecDepth 100000 in
theorem c_X12_half (l : Launch) (G : va_G) (Y : CY) (w : MSt → va_W) (ad : Nat → Nat) (a1 : Nat) (n1 : Nat) (LM : LayM ad w Y) (H1 : HA ad w a1 Y.2.1 n1)  (σ : MSt) (σ' : MSt) (hf : f_X12_half a1 n1 σ = some σ') : k_Mv l yX12_half wsX12_half rmX12_half G Y w [.ref (ad a1)] σ σ' := by
  refine k_ofv (own := RX12) (cc := cX12_half) (maxL := 3) none (by decide) rfl rfl (Nat.le_of_ble_eq_true rfl) ?_
  intro p e s m below meth c A C ls hl hw
  have hx := C.1
  have hb := C.2.1
  have hown := C.2.2.2.2.1
  have hts := C.2.2.2.2.2.1
  have hks := C.2.2.2.2.2.2.1
  have hl : lv_has ls 3 [(0, .ref (ad a1))] := hl
  have b7 : ∀ (n7 : Nat) (x1 : Int32) (x2 : Int32) (σ : MSt) (H : Heap) (locs : List Loc) (ls : Array Slot), lv_has ls 3 [(0, .ref (ad a1)), (1, .int x1), (2, .int x2)] → k_W G w A s.heap σ H locs → f_X12_half_b7 a1 n1 n7 x1 x2 σ = some σ' → W p l e rmX12_half s m [.ref (ad a1)].toArray below meth c H locs 0 0 (MQ below (k_Qv G w A σ') [.ref (ad a1)].toArray s 0 0 A) (F0 m 7 ls []) := by
    intro n7
    induction n7 with
    | zero =>
      intro x1 x2 σ H locs ls hl hw hf
      have hf : (none : Option MSt) = some σ' := hf
      cases hf
    | succ n7 ih7 =>
      intro x1 x2 σ H locs ls hl hw hf
      have hf : f_X12_half_b7_s a1 n1 (f_X12_half_b7 a1 n1 n7) x1 x2 σ = some σ' := hf
      unfold f_X12_half_b7_s at hf
      refine lv_iload_n hx hb dX12_half_7 rfl (lv_at hl 2 rfl) ?_
      refine lv_iload_n hx hb dX12_half_8 rfl (lv_at hl 1 rfl) ?_
      refine lv_icmp_ge (tgt := 26) hx hb dX12_half_9 (by decide) (fun h => ?_) (fun h => ?_)
      · have hf := k_ifT h hf
        exact k_vret C hw hf dX12_half_26
      · have hf := k_ifF h hf
        refine lv_aload_n hx hb dX12_half_12 rfl (lv_at hl 0 rfl) ?_
        refine lv_iload_n hx hb dX12_half_13 rfl (lv_at hl 2 rfl) ?_
        refine lv_aload_n hx hb dX12_half_14 rfl (lv_at hl 0 rfl) ?_
        refine lv_iload_n hx hb dX12_half_15 rfl (lv_at hl 1 rfl) ?_
        refine lv_iload_n hx hb dX12_half_16 rfl (lv_at hl 2 rfl) ?_
        refine lv_iadd hx hb dX12_half_17 ?_
        obtain ⟨hi, hf⟩ := k_ckE hf
        refine k_iald C hw H1 hi dX12_half_18 ?_
        obtain ⟨hi, hf⟩ := k_ckE hf
        refine k_iast C hw H1 hi dX12_half_19 (fun σ1 eq H locs hw => ?_)
        have hf := k_nmE eq hf
        obtain ⟨u2, ex⟩ : ∃ y : Int32, y = (x2 + (1 : Int32)) := ⟨_, rfl⟩
        have hf := k_nmE ex hf
        refine lv_iinc (v := u2) (lv' := [(2, .int u2), (0, .ref (ad a1)), (1, .int x1)]) hx hb dX12_half_20 hl (k := 2) rfl (by rw [ex]; rfl) (by decide) rfl (fun ls hl => ?_)
        refine lv_goto (tgt := 7) hx hb dX12_half_23 (by decide) ?_
        exact ih7 x1 u2 σ1 _ _ _ (lv_sub hl [1, 2, 0] rfl) hw hf
  unfold f_X12_half at hf
  refine lv_aload_n hx hb dX12_half_0 rfl (lv_at hl 0 rfl) ?_
  refine k_alen C hw H1 (v := (Int32.ofNat n1)) rfl dX12_half_1 ?_
  refine lv_iconst (v := (2 : Int32)) hx hb dX12_half_2 (by decide) ?_
  refine lv_idiv hx hb dX12_half_3 (by decide) ?_
  refine lv_topi (fun u3 ex => ?_)
  have hf := k_nmE ex hf
  refine lv_istore_n (lv' := [(1, .int u3), (0, .ref (ad a1))]) hx hb dX12_half_4 rfl hl (by decide) rfl (fun ls hl => ?_)
  refine lv_iconst (v := (0 : Int32)) hx hb dX12_half_5 (by decide) ?_
  refine lv_istore_n (lv' := [(2, .int (0 : Int32)), (1, .int u3), (0, .ref (ad a1))]) hx hb dX12_half_6 rfl hl (by decide) rfl (fun ls hl => ?_)
  exact b7 FU u3 (0 : Int32) σ _ _ _ (lv_sub hl [2, 1, 0] rfl) hw hf
def f_X12_text_b160   (σ : MSt) : Option (Int32 × MSt) :=
  k_nm (mI σ 0 25 (σ.1 0 23)) fun σ1 =>
  k_nm (mI σ1 0 26 (σ1.1 0 24)) fun σ2 =>
  if (σ2.1 0 23) = 0 then
  (k_bv (f_X12_half 2 18 σ2) fun σ3 =>
  k_bv (f_X12_half 3 16 σ3) fun σ4 =>
  k_bv (f_X12_half 4 24 σ4) fun σ5 =>
  k_bv (f_X12_half 5 24 σ5) fun σ6 =>
  k_bv (f_X12_half 6 24 σ6) fun σ7 =>
  k_bv (f_X12_half 7 24 σ7) fun σ8 =>
  k_bv (f_X12_half 8 24 σ8) fun σ9 =>
  k_bv (f_X12_half 9 24 σ9) fun σ10 =>
  k_bv (f_X12_half 10 40 σ10) fun σ11 =>
  k_bv (f_X12_half 11 6 σ11) fun σ12 =>
  k_bv (f_X12_half 12 6 σ12) fun σ13 =>
  k_bv (f_X12_half 13 128 σ13) fun σ14 =>
  k_bv (f_X12_half 14 128 σ14) fun σ15 =>
  k_nm (mI σ15 0 59 (0 : Int32)) fun σ16 =>
  k_nm (mI σ16 0 60 (-1 : Int32)) fun σ17 =>
  k_nm (mI σ17 0 44 (0 : Int32)) fun σ18 =>
  k_nm (mI σ18 0 45 (0 : Int32)) fun σ19 =>
  k_bv (f_X12_starts (0 : Int32) σ19) fun σ20 =>
  some ((σ20.1 0 17), σ20))
  else
  (some ((-1 : Int32), σ2))
def f_X12_text_b138_s  (r138 : MSt → Option (Int32 × MSt))  (σ : MSt) : Option (Int32 × MSt) :=
  if (σ.1 0 23) = 0 then
  (if (σ.1 0 21) = (4 : Int32) then
  (f_X12_text_b160 σ)
  else
  (k_bv (f_X12_line σ) fun σ1 =>
  r138 σ1))
  else
  (f_X12_text_b160 σ)
def f_X12_text_b138  : Nat → MSt → Option (Int32 × MSt)
  | 0 => fun _ => none
  | n + 1 => f_X12_text_b138_s (f_X12_text_b138 n)
def f_X12_text_b88_s  (r88 : Int32 → MSt → Option (Int32 × MSt)) (x2 : Int32) (σ : MSt) : Option (Int32 × MSt) :=
  if (6 : Int32) ≤ x2 then
  (k_nm (mI σ 0 16 (0 : Int32)) fun σ1 =>
  k_nm (mI σ1 0 17 (0 : Int32)) fun σ2 =>
  k_nm (mI σ2 0 27 (0 : Int32)) fun σ3 =>
  k_nm (mI σ3 0 28 (0 : Int32)) fun σ4 =>
  k_bv (f_X12_token σ4) fun σ5 =>
  f_X12_text_b138 FU σ5)
  else
  (k_ck (k_inb x2 6) <|
  k_nm (mI σ 11 (x2).toNatClampNeg (0 : Int32)) fun σ6 =>
  k_ck (k_inb x2 6) <|
  k_nm (mI σ6 12 (x2).toNatClampNeg (0 : Int32)) fun σ7 =>
  k_nm (x2 + (1 : Int32)) fun u8 =>
  r88 u8 σ7)
def f_X12_text_b88  : Nat → Int32 → MSt → Option (Int32 × MSt)
  | 0 => fun _ _ => none
  | n + 1 => f_X12_text_b88_s (f_X12_text_b88 n)
def f_X12_text_b77  (r47 : Int32 → MSt → Option (Int32 × MSt)) (x2 : Int32) (y1 : Int32) (y2 : Int32) (σ : MSt) : Option (Int32 × MSt) :=
  k_bv (f_X12_reads y1 y2 σ) fun σ1 =>
  k_nm (x2 + (1 : Int32)) fun u2 =>
  r47 u2 σ1
def f_X12_text_b47_s  (r47 : Int32 → MSt → Option (Int32 × MSt)) (x2 : Int32) (σ : MSt) : Option (Int32 × MSt) :=
  if (9 : Int32) ≤ x2 then
  (f_X12_text_b88 FU (3 : Int32) σ)
  else
  (if x2 = (5 : Int32) then
  (f_X12_text_b77 r47 x2 x2 (9 : Int32) σ)
  else
  (if x2 = (6 : Int32) then
  (f_X12_text_b77 r47 x2 x2 (50 : Int32) σ)
  else
  (f_X12_text_b77 r47 x2 x2 (0 : Int32) σ)))
def f_X12_text_b47  : Nat → Int32 → MSt → Option (Int32 × MSt)
  | 0 => fun _ _ => none
  | n + 1 => f_X12_text_b47_s (f_X12_text_b47 n)
def f_X12_text_b17   (σ : MSt) : Option (Int32 × MSt) :=
  some ((-2 : Int32), σ)
def f_X12_text  (p1 : Int32) (σ : MSt) : Option (Int32 × MSt) :=
  k_nm (mI σ 0 0 (0 : Int32)) fun σ1 =>
  if p1 < 0 then
  (f_X12_text_b17 σ1)
  else
  (if p1 ≤ (σ1.1 0 2) then
  (k_nm (mI σ1 0 18 p1) fun σ2 =>
  k_nm (mI σ2 0 2 (0 : Int32)) fun σ3 =>
  k_nm (mI σ3 0 19 (0 : Int32)) fun σ4 =>
  k_nm (mI σ4 0 23 (0 : Int32)) fun σ5 =>
  k_nm (mI σ5 0 24 (-1 : Int32)) fun σ6 =>
  f_X12_text_b47 FU (0 : Int32) σ6)
  else
  (f_X12_text_b17 σ1))
def rmX12_text : Room := { frames := 193, cells := 0, slots := 0, locals := 6463 }
set_option maxHeartbeats 4000000 in
set_option maxRecDepth 100000 in
theorem c_X12_text (l : Launch) (G : va_G) (Y : CY) (w : MSt → va_W) (ad : Nat → Nat)  (LM : LayM ad w Y) (p1 : Int32) (σ : MSt) (r : Int32) (σ' : MSt) (hf : f_X12_text p1 σ = some (r, σ')) : k_Mi l yX12_text wsX12_text rmX12_text G Y w [.ref (ad 0), .int p1] σ r σ' := by
  refine k_ofi (own := RX12) (cc := cX12_text) (maxL := 3) (some .int) (by decide) rfl rfl (Nat.le_of_ble_eq_true rfl) ?_
  intro p e s m below meth c A C ls hl hw
  have hx := C.1
  have hb := C.2.1
  have hown := C.2.2.2.2.1
  have hts := C.2.2.2.2.2.1
  have hks := C.2.2.2.2.2.2.1
  have hl : lv_has ls 3 [(0, .ref (ad 0)), (1, .int p1)] := hl
  have b160 : ∀ (σ : MSt) (H : Heap) (locs : List Loc) (ls : Array Slot), lv_has ls 3 [(0, .ref (ad 0))] → k_W G w A s.heap σ H locs → f_X12_text_b160 σ = some (r, σ') → W p l e rmX12_text s m [.ref (ad 0), .int p1].toArray below meth c H locs 0 0 (MQ below (k_Qi G w A r σ') [.ref (ad 0), .int p1].toArray s 0 0 A) (F0 m 160 ls []) := by
    intro σ H locs ls hl hw hf
    unfold f_X12_text_b160 at hf
    refine lv_aload_n hx hb dX12_text_160 rfl (lv_at hl 0 rfl) ?_
    refine lv_aload_n hx hb dX12_text_161 rfl (lv_at hl 0 rfl) ?_
    refine k_get C hw (LM_0 LM) (ci := 12) rfl k_in12 23 (by decide) lk12_199 (v := .int (σ.1 0 23)) rfl dX12_text_162 ?_
    refine k_put C hw (LM_0 LM) (ci := 12) rfl k_in12 tyX12 tyX12_ok nmX12 25 (by decide) lk12_294 rfl ⟨rfl, rfl⟩ rfl dX12_text_165 (fun σ1 eq H locs hw => ?_)
    have hf := k_nmE eq hf
    refine lv_aload_n hx hb dX12_text_168 rfl (lv_at hl 0 rfl) ?_
    refine lv_aload_n hx hb dX12_text_169 rfl (lv_at hl 0 rfl) ?_
    refine k_get C hw (LM_0 LM) (ci := 12) rfl k_in12 24 (by decide) lk12_202 (v := .int (σ1.1 0 24)) rfl dX12_text_170 ?_
    refine k_put C hw (LM_0 LM) (ci := 12) rfl k_in12 tyX12 tyX12_ok nmX12 26 (by decide) lk12_52 rfl ⟨rfl, rfl⟩ rfl dX12_text_173 (fun σ2 eq H locs hw => ?_)
    have hf := k_nmE eq hf
    refine lv_aload_n hx hb dX12_text_176 rfl (lv_at hl 0 rfl) ?_
    refine k_get C hw (LM_0 LM) (ci := 12) rfl k_in12 23 (by decide) lk12_199 (v := .int (σ2.1 0 23)) rfl dX12_text_177 ?_
    refine lv_if_eq (tgt := 185) hx hb dX12_text_180 (by decide) (fun h => ?_) (fun h => ?_)
    · have hf := k_ifT h hf
      refine lv_aload_n hx hb dX12_text_185 rfl (lv_at hl 0 rfl) ?_
      refine k_get C hw (LM_0 LM) (ci := 12) rfl k_in12 3 (by decide) lk12_13 (v := .ref (ad 2)) rfl dX12_text_186 ?_
      obtain ⟨σ3, hq, hf⟩ := k_bvE hf
      refine k_callSv C hw (c_X12_half l G Y w ad 2 18 LM (LM_2 LM) σ2 σ3 hq) (va_cwS 1 hts gX12_text_X12_half rfl rfl rfl (by decide +kernel) ⟨Nat.le_of_ble_eq_true rfl, Nat.le_of_ble_eq_true rfl⟩) rfl hl.1 rfl (Nat.le_of_ble_eq_true rfl) dX12_text_189 (fun H locs hw => ?_)
      refine lv_aload_n hx hb dX12_text_192 rfl (lv_at hl 0 rfl) ?_
      refine k_get C hw (LM_0 LM) (ci := 12) rfl k_in12 4 (by decide) lk12_16 (v := .ref (ad 3)) rfl dX12_text_193 ?_
      obtain ⟨σ4, hq, hf⟩ := k_bvE hf
      refine k_callSv C hw (c_X12_half l G Y w ad 3 16 LM (LM_3 LM) σ3 σ4 hq) (va_cwS 1 hts gX12_text_X12_half rfl rfl rfl (by decide +kernel) ⟨Nat.le_of_ble_eq_true rfl, Nat.le_of_ble_eq_true rfl⟩) rfl hl.1 rfl (Nat.le_of_ble_eq_true rfl) dX12_text_196 (fun H locs hw => ?_)
      refine lv_aload_n hx hb dX12_text_199 rfl (lv_at hl 0 rfl) ?_
      refine k_get C hw (LM_0 LM) (ci := 12) rfl k_in12 5 (by decide) lk12_19 (v := .ref (ad 4)) rfl dX12_text_200 ?_
      obtain ⟨σ5, hq, hf⟩ := k_bvE hf
      refine k_callSv C hw (c_X12_half l G Y w ad 4 24 LM (LM_4 LM) σ4 σ5 hq) (va_cwS 1 hts gX12_text_X12_half rfl rfl rfl (by decide +kernel) ⟨Nat.le_of_ble_eq_true rfl, Nat.le_of_ble_eq_true rfl⟩) rfl hl.1 rfl (Nat.le_of_ble_eq_true rfl) dX12_text_203 (fun H locs hw => ?_)
      refine lv_aload_n hx hb dX12_text_206 rfl (lv_at hl 0 rfl) ?_
      refine k_get C hw (LM_0 LM) (ci := 12) rfl k_in12 6 (by decide) lk12_22 (v := .ref (ad 5)) rfl dX12_text_207 ?_
      obtain ⟨σ6, hq, hf⟩ := k_bvE hf
      refine k_callSv C hw (c_X12_half l G Y w ad 5 24 LM (LM_5 LM) σ5 σ6 hq) (va_cwS 1 hts gX12_text_X12_half rfl rfl rfl (by decide +kernel) ⟨Nat.le_of_ble_eq_true rfl, Nat.le_of_ble_eq_true rfl⟩) rfl hl.1 rfl (Nat.le_of_ble_eq_true rfl) dX12_text_210 (fun H locs hw => ?_)
      refine lv_aload_n hx hb dX12_text_213 rfl (lv_at hl 0 rfl) ?_
      refine k_get C hw (LM_0 LM) (ci := 12) rfl k_in12 7 (by decide) lk12_25 (v := .ref (ad 6)) rfl dX12_text_214 ?_
      obtain ⟨σ7, hq, hf⟩ := k_bvE hf
      refine k_callSv C hw (c_X12_half l G Y w ad 6 24 LM (LM_6 LM) σ6 σ7 hq) (va_cwS 1 hts gX12_text_X12_half rfl rfl rfl (by decide +kernel) ⟨Nat.le_of_ble_eq_true rfl, Nat.le_of_ble_eq_true rfl⟩) rfl hl.1 rfl (Nat.le_of_ble_eq_true rfl) dX12_text_217 (fun H locs hw => ?_)
      refine lv_aload_n hx hb dX12_text_220 rfl (lv_at hl 0 rfl) ?_
      refine k_get C hw (LM_0 LM) (ci := 12) rfl k_in12 8 (by decide) lk12_28 (v := .ref (ad 7)) rfl dX12_text_221 ?_
      obtain ⟨σ8, hq, hf⟩ := k_bvE hf
      refine k_callSv C hw (c_X12_half l G Y w ad 7 24 LM (LM_7 LM) σ7 σ8 hq) (va_cwS 1 hts gX12_text_X12_half rfl rfl rfl (by decide +kernel) ⟨Nat.le_of_ble_eq_true rfl, Nat.le_of_ble_eq_true rfl⟩) rfl hl.1 rfl (Nat.le_of_ble_eq_true rfl) dX12_text_224 (fun H locs hw => ?_)
      refine lv_aload_n hx hb dX12_text_227 rfl (lv_at hl 0 rfl) ?_
      refine k_get C hw (LM_0 LM) (ci := 12) rfl k_in12 9 (by decide) lk12_31 (v := .ref (ad 8)) rfl dX12_text_228 ?_
      obtain ⟨σ9, hq, hf⟩ := k_bvE hf
      refine k_callSv C hw (c_X12_half l G Y w ad 8 24 LM (LM_8 LM) σ8 σ9 hq) (va_cwS 1 hts gX12_text_X12_half rfl rfl rfl (by decide +kernel) ⟨Nat.le_of_ble_eq_true rfl, Nat.le_of_ble_eq_true rfl⟩) rfl hl.1 rfl (Nat.le_of_ble_eq_true rfl) dX12_text_231 (fun H locs hw => ?_)
      refine lv_aload_n hx hb dX12_text_234 rfl (lv_at hl 0 rfl) ?_
      refine k_get C hw (LM_0 LM) (ci := 12) rfl k_in12 10 (by decide) lk12_34 (v := .ref (ad 9)) rfl dX12_text_235 ?_
      obtain ⟨σ10, hq, hf⟩ := k_bvE hf
      refine k_callSv C hw (c_X12_half l G Y w ad 9 24 LM (LM_9 LM) σ9 σ10 hq) (va_cwS 1 hts gX12_text_X12_half rfl rfl rfl (by decide +kernel) ⟨Nat.le_of_ble_eq_true rfl, Nat.le_of_ble_eq_true rfl⟩) rfl hl.1 rfl (Nat.le_of_ble_eq_true rfl) dX12_text_238 (fun H locs hw => ?_)
      refine lv_aload_n hx hb dX12_text_241 rfl (lv_at hl 0 rfl) ?_
      refine k_get C hw (LM_0 LM) (ci := 12) rfl k_in12 11 (by decide) lk12_37 (v := .ref (ad 10)) rfl dX12_text_242 ?_
      obtain ⟨σ11, hq, hf⟩ := k_bvE hf
      refine k_callSv C hw (c_X12_half l G Y w ad 10 40 LM (LM_10 LM) σ10 σ11 hq) (va_cwS 1 hts gX12_text_X12_half rfl rfl rfl (by decide +kernel) ⟨Nat.le_of_ble_eq_true rfl, Nat.le_of_ble_eq_true rfl⟩) rfl hl.1 rfl (Nat.le_of_ble_eq_true rfl) dX12_text_245 (fun H locs hw => ?_)
      refine lv_aload_n hx hb dX12_text_248 rfl (lv_at hl 0 rfl) ?_
      refine k_get C hw (LM_0 LM) (ci := 12) rfl k_in12 12 (by decide) lk12_40 (v := .ref (ad 11)) rfl dX12_text_249 ?_
      obtain ⟨σ12, hq, hf⟩ := k_bvE hf
      refine k_callSv C hw (c_X12_half l G Y w ad 11 6 LM (LM_11 LM) σ11 σ12 hq) (va_cwS 1 hts gX12_text_X12_half rfl rfl rfl (by decide +kernel) ⟨Nat.le_of_ble_eq_true rfl, Nat.le_of_ble_eq_true rfl⟩) rfl hl.1 rfl (Nat.le_of_ble_eq_true rfl) dX12_text_252 (fun H locs hw => ?_)
      refine lv_aload_n hx hb dX12_text_255 rfl (lv_at hl 0 rfl) ?_
      refine k_get C hw (LM_0 LM) (ci := 12) rfl k_in12 13 (by decide) lk12_43 (v := .ref (ad 12)) rfl dX12_text_256 ?_
      obtain ⟨σ13, hq, hf⟩ := k_bvE hf
      refine k_callSv C hw (c_X12_half l G Y w ad 12 6 LM (LM_12 LM) σ12 σ13 hq) (va_cwS 1 hts gX12_text_X12_half rfl rfl rfl (by decide +kernel) ⟨Nat.le_of_ble_eq_true rfl, Nat.le_of_ble_eq_true rfl⟩) rfl hl.1 rfl (Nat.le_of_ble_eq_true rfl) dX12_text_259 (fun H locs hw => ?_)
      refine lv_aload_n hx hb dX12_text_262 rfl (lv_at hl 0 rfl) ?_
      refine k_get C hw (LM_0 LM) (ci := 12) rfl k_in12 14 (by decide) lk12_46 (v := .ref (ad 13)) rfl dX12_text_263 ?_
      obtain ⟨σ14, hq, hf⟩ := k_bvE hf
      refine k_callSv C hw (c_X12_half l G Y w ad 13 128 LM (LM_13 LM) σ13 σ14 hq) (va_cwS 1 hts gX12_text_X12_half rfl rfl rfl (by decide +kernel) ⟨Nat.le_of_ble_eq_true rfl, Nat.le_of_ble_eq_true rfl⟩) rfl hl.1 rfl (Nat.le_of_ble_eq_true rfl) dX12_text_266 (fun H locs hw => ?_)
      refine lv_aload_n hx hb dX12_text_269 rfl (lv_at hl 0 rfl) ?_
      refine k_get C hw (LM_0 LM) (ci := 12) rfl k_in12 15 (by decide) lk12_49 (v := .ref (ad 14)) rfl dX12_text_270 ?_
      obtain ⟨σ15, hq, hf⟩ := k_bvE hf
      refine k_callSv C hw (c_X12_half l G Y w ad 14 128 LM (LM_14 LM) σ14 σ15 hq) (va_cwS 1 hts gX12_text_X12_half rfl rfl rfl (by decide +kernel) ⟨Nat.le_of_ble_eq_true rfl, Nat.le_of_ble_eq_true rfl⟩) rfl hl.1 rfl (Nat.le_of_ble_eq_true rfl) dX12_text_273 (fun H locs hw => ?_)
      refine lv_aload_n hx hb dX12_text_276 rfl (lv_at hl 0 rfl) ?_
      refine lv_iconst (v := (0 : Int32)) hx hb dX12_text_277 (by decide) ?_
      refine k_put C hw (LM_0 LM) (ci := 12) rfl k_in12 tyX12 tyX12_ok nmX12 59 (by decide) lk12_301 rfl ⟨rfl, rfl⟩ rfl dX12_text_278 (fun σ16 eq H locs hw => ?_)
      have hf := k_nmE eq hf
      refine lv_aload_n hx hb dX12_text_281 rfl (lv_at hl 0 rfl) ?_
      refine lv_iconst (v := (-1 : Int32)) hx hb dX12_text_282 (by decide) ?_
      refine k_put C hw (LM_0 LM) (ci := 12) rfl k_in12 tyX12 tyX12_ok nmX12 60 (by decide) lk12_123 rfl ⟨rfl, rfl⟩ rfl dX12_text_283 (fun σ17 eq H locs hw => ?_)
      have hf := k_nmE eq hf
      refine lv_aload_n hx hb dX12_text_286 rfl (lv_at hl 0 rfl) ?_
      refine lv_iconst (v := (0 : Int32)) hx hb dX12_text_287 (by decide) ?_
      refine k_put C hw (LM_0 LM) (ci := 12) rfl k_in12 tyX12 tyX12_ok nmX12 44 (by decide) lk12_304 rfl ⟨rfl, rfl⟩ rfl dX12_text_288 (fun σ18 eq H locs hw => ?_)
      have hf := k_nmE eq hf
      refine lv_aload_n hx hb dX12_text_291 rfl (lv_at hl 0 rfl) ?_
      refine lv_iconst (v := (0 : Int32)) hx hb dX12_text_292 (by decide) ?_
      refine k_put C hw (LM_0 LM) (ci := 12) rfl k_in12 tyX12 tyX12_ok nmX12 45 (by decide) lk12_308 rfl ⟨rfl, rfl⟩ rfl dX12_text_293 (fun σ19 eq H locs hw => ?_)
      have hf := k_nmE eq hf
      refine lv_aload_n hx hb dX12_text_296 rfl (lv_at hl 0 rfl) ?_
      refine lv_iconst (v := (0 : Int32)) hx hb dX12_text_297 (by decide) ?_
      obtain ⟨σ20, hq, hf⟩ := k_bvE hf
      refine k_callVv C hw (c_X12_starts l G Y w ad LM (0 : Int32) σ19 σ20 hq) (cwV 1 hts gX12_text_X12_starts rfl rfl rfl (by decide +kernel) ⟨Nat.le_of_ble_eq_true rfl, Nat.le_of_ble_eq_true rfl⟩) (k_recv C hw (LM_0 LM) rfl) rfl hl.1 rfl (Nat.le_of_ble_eq_true rfl) dX12_text_298 (fun H locs hw => ?_)
      refine lv_aload_n hx hb dX12_text_301 rfl (lv_at hl 0 rfl) ?_
      refine k_get C hw (LM_0 LM) (ci := 12) rfl k_in12 17 (by decide) lk12_255 (v := .int (σ20.1 0 17)) rfl dX12_text_302 ?_
      exact k_iret C hw hf dX12_text_305
    · have hf := k_ifF h hf
      refine lv_iconst (v := (-1 : Int32)) hx hb dX12_text_183 (by decide) ?_
      exact k_iret C hw hf dX12_text_184
  have b138 : ∀ (n138 : Nat) (σ : MSt) (H : Heap) (locs : List Loc) (ls : Array Slot), lv_has ls 3 [(0, .ref (ad 0))] → k_W G w A s.heap σ H locs → f_X12_text_b138 n138 σ = some (r, σ') → W p l e rmX12_text s m [.ref (ad 0), .int p1].toArray below meth c H locs 0 0 (MQ below (k_Qi G w A r σ') [.ref (ad 0), .int p1].toArray s 0 0 A) (F0 m 138 ls []) := by
    intro n138
    induction n138 with
    | zero =>
      intro σ H locs ls hl hw hf
      have hf : (none : Option (Int32 × MSt)) = some (r, σ') := hf
      cases hf
    | succ n138 ih138 =>
      intro σ H locs ls hl hw hf
      have hf : f_X12_text_b138_s (f_X12_text_b138 n138) σ = some (r, σ') := hf
      unfold f_X12_text_b138_s at hf
      refine lv_aload_n hx hb dX12_text_138 rfl (lv_at hl 0 rfl) ?_
      refine k_get C hw (LM_0 LM) (ci := 12) rfl k_in12 23 (by decide) lk12_199 (v := .int (σ.1 0 23)) rfl dX12_text_139 ?_
      refine lv_if_ne (tgt := 160) hx hb dX12_text_142 (by decide) (fun h => ?_) (fun h => ?_)
      · have hf := k_ifF h hf
        exact b160 σ _ _ _ (lv_sub hl [0] rfl) hw hf
      · have hf := k_ifT h hf
        refine lv_aload_n hx hb dX12_text_145 rfl (lv_at hl 0 rfl) ?_
        refine k_get C hw (LM_0 LM) (ci := 12) rfl k_in12 21 (by decide) lk12_164 (v := .int (σ.1 0 21)) rfl dX12_text_146 ?_
        refine lv_iconst (v := (4 : Int32)) hx hb dX12_text_149 (by decide) ?_
        refine lv_icmp_eq (tgt := 160) hx hb dX12_text_150 (by decide) (fun h => ?_) (fun h => ?_)
        · have hf := k_ifT h hf
          exact b160 σ _ _ _ (lv_sub hl [0] rfl) hw hf
        · have hf := k_ifF h hf
          refine lv_aload_n hx hb dX12_text_153 rfl (lv_at hl 0 rfl) ?_
          obtain ⟨σ1, hq, hf⟩ := k_bvE hf
          refine k_callVv C hw (c_X12_line l G Y w ad LM σ σ1 hq) (cwV 0 hts gX12_text_X12_line rfl rfl rfl (by decide +kernel) ⟨Nat.le_of_ble_eq_true rfl, Nat.le_of_ble_eq_true rfl⟩) (k_recv C hw (LM_0 LM) rfl) rfl hl.1 rfl (Nat.le_of_ble_eq_true rfl) dX12_text_154 (fun H locs hw => ?_)
          refine lv_goto (tgt := 138) hx hb dX12_text_157 (by decide) ?_
          exact ih138 σ1 _ _ _ (lv_sub hl [0] rfl) hw hf
  have b88 : ∀ (n88 : Nat) (x2 : Int32) (σ : MSt) (H : Heap) (locs : List Loc) (ls : Array Slot), lv_has ls 3 [(0, .ref (ad 0)), (2, .int x2)] → k_W G w A s.heap σ H locs → f_X12_text_b88 n88 x2 σ = some (r, σ') → W p l e rmX12_text s m [.ref (ad 0), .int p1].toArray below meth c H locs 0 0 (MQ below (k_Qi G w A r σ') [.ref (ad 0), .int p1].toArray s 0 0 A) (F0 m 88 ls []) := by
    intro n88
    induction n88 with
    | zero =>
      intro x2 σ H locs ls hl hw hf
      have hf : (none : Option (Int32 × MSt)) = some (r, σ') := hf
      cases hf
    | succ n88 ih88 =>
      intro x2 σ H locs ls hl hw hf
      have hf : f_X12_text_b88_s (f_X12_text_b88 n88) x2 σ = some (r, σ') := hf
      unfold f_X12_text_b88_s at hf
      refine lv_iload_n hx hb dX12_text_88 rfl (lv_at hl 1 rfl) ?_
      refine lv_bipush (v := (6 : Int32)) hx hb dX12_text_89 (by decide) ?_
      refine lv_icmp_ge (tgt := 114) hx hb dX12_text_91 (by decide) (fun h => ?_) (fun h => ?_)
      · have hf := k_ifT h hf
        refine lv_aload_n hx hb dX12_text_114 rfl (lv_at hl 0 rfl) ?_
        refine lv_iconst (v := (0 : Int32)) hx hb dX12_text_115 (by decide) ?_
        refine k_put C hw (LM_0 LM) (ci := 12) rfl k_in12 tyX12 tyX12_ok nmX12 16 (by decide) lk12_228 rfl ⟨rfl, rfl⟩ rfl dX12_text_116 (fun σ1 eq H locs hw => ?_)
        have hf := k_nmE eq hf
        refine lv_aload_n hx hb dX12_text_119 rfl (lv_at hl 0 rfl) ?_
        refine lv_iconst (v := (0 : Int32)) hx hb dX12_text_120 (by decide) ?_
        refine k_put C hw (LM_0 LM) (ci := 12) rfl k_in12 tyX12 tyX12_ok nmX12 17 (by decide) lk12_255 rfl ⟨rfl, rfl⟩ rfl dX12_text_121 (fun σ2 eq H locs hw => ?_)
        have hf := k_nmE eq hf
        refine lv_aload_n hx hb dX12_text_124 rfl (lv_at hl 0 rfl) ?_
        refine lv_iconst (v := (0 : Int32)) hx hb dX12_text_125 (by decide) ?_
        refine k_put C hw (LM_0 LM) (ci := 12) rfl k_in12 tyX12 tyX12_ok nmX12 27 (by decide) lk12_288 rfl ⟨rfl, rfl⟩ rfl dX12_text_126 (fun σ3 eq H locs hw => ?_)
        have hf := k_nmE eq hf
        refine lv_aload_n hx hb dX12_text_129 rfl (lv_at hl 0 rfl) ?_
        refine lv_iconst (v := (0 : Int32)) hx hb dX12_text_130 (by decide) ?_
        refine k_put C hw (LM_0 LM) (ci := 12) rfl k_in12 tyX12 tyX12_ok nmX12 28 (by decide) lk12_261 rfl ⟨rfl, rfl⟩ rfl dX12_text_131 (fun σ4 eq H locs hw => ?_)
        have hf := k_nmE eq hf
        refine lv_aload_n hx hb dX12_text_134 rfl (lv_at hl 0 rfl) ?_
        obtain ⟨σ5, hq, hf⟩ := k_bvE hf
        refine k_callVv C hw (c_X12_token l G Y w ad LM σ4 σ5 hq) (cwV 0 hts gX12_text_X12_token rfl rfl rfl (by decide +kernel) ⟨Nat.le_of_ble_eq_true rfl, Nat.le_of_ble_eq_true rfl⟩) (k_recv C hw (LM_0 LM) rfl) rfl hl.1 rfl (Nat.le_of_ble_eq_true rfl) dX12_text_135 (fun H locs hw => ?_)
        exact b138 FU σ5 _ _ _ (lv_sub hl [0] rfl) hw hf
      · have hf := k_ifF h hf
        refine lv_aload_n hx hb dX12_text_94 rfl (lv_at hl 0 rfl) ?_
        refine k_get C hw (LM_0 LM) (ci := 12) rfl k_in12 12 (by decide) lk12_40 (v := .ref (ad 11)) rfl dX12_text_95 ?_
        refine lv_iload_n hx hb dX12_text_98 rfl (lv_at hl 1 rfl) ?_
        refine lv_iconst (v := (0 : Int32)) hx hb dX12_text_99 (by decide) ?_
        obtain ⟨hi, hf⟩ := k_ckE hf
        refine k_iast C hw (LM_11 LM) hi dX12_text_100 (fun σ6 eq H locs hw => ?_)
        have hf := k_nmE eq hf
        refine lv_aload_n hx hb dX12_text_101 rfl (lv_at hl 0 rfl) ?_
        refine k_get C hw (LM_0 LM) (ci := 12) rfl k_in12 13 (by decide) lk12_43 (v := .ref (ad 12)) rfl dX12_text_102 ?_
        refine lv_iload_n hx hb dX12_text_105 rfl (lv_at hl 1 rfl) ?_
        refine lv_iconst (v := (0 : Int32)) hx hb dX12_text_106 (by decide) ?_
        obtain ⟨hi, hf⟩ := k_ckE hf
        refine k_iast C hw (LM_12 LM) hi dX12_text_107 (fun σ7 eq H locs hw => ?_)
        have hf := k_nmE eq hf
        obtain ⟨u8, ex⟩ : ∃ y : Int32, y = (x2 + (1 : Int32)) := ⟨_, rfl⟩
        have hf := k_nmE ex hf
        refine lv_iinc (v := u8) (lv' := [(2, .int u8), (0, .ref (ad 0))]) hx hb dX12_text_108 hl (k := 1) rfl (by rw [ex]; rfl) (by decide) rfl (fun ls hl => ?_)
        refine lv_goto (tgt := 88) hx hb dX12_text_111 (by decide) ?_
        exact ih88 u8 σ7 _ _ _ (lv_sub hl [1, 0] rfl) hw hf
  have b47 : ∀ (n47 : Nat) (x2 : Int32) (σ : MSt) (H : Heap) (locs : List Loc) (ls : Array Slot), lv_has ls 3 [(0, .ref (ad 0)), (2, .int x2)] → k_W G w A s.heap σ H locs → f_X12_text_b47 n47 x2 σ = some (r, σ') → W p l e rmX12_text s m [.ref (ad 0), .int p1].toArray below meth c H locs 0 0 (MQ below (k_Qi G w A r σ') [.ref (ad 0), .int p1].toArray s 0 0 A) (F0 m 47 ls []) := by
    intro n47
    induction n47 with
    | zero =>
      intro x2 σ H locs ls hl hw hf
      have hf : (none : Option (Int32 × MSt)) = some (r, σ') := hf
      cases hf
    | succ n47 ih47 =>
      have b77 : ∀ (x2 : Int32) (y1 : Int32) (y2 : Int32) (σ : MSt) (H : Heap) (locs : List Loc) (ls : Array Slot), lv_has ls 3 [(0, .ref (ad 0)), (2, .int x2)] → k_W G w A s.heap σ H locs → f_X12_text_b77 (f_X12_text_b47 n47) x2 y1 y2 σ = some (r, σ') → W p l e rmX12_text s m [.ref (ad 0), .int p1].toArray below meth c H locs 0 0 (MQ below (k_Qi G w A r σ') [.ref (ad 0), .int p1].toArray s 0 0 A) (F0 m 77 ls [.int y2, .int y1, .ref (ad 0)]) := by
        intro x2 y1 y2 σ H locs ls hl hw hf
        unfold f_X12_text_b77 at hf
        obtain ⟨σ1, hq, hf⟩ := k_bvE hf
        refine k_callVv C hw (c_X12_reads l G Y w ad LM y1 y2 σ σ1 hq) (cwV 2 hts gX12_text_X12_reads rfl rfl rfl (by decide +kernel) ⟨Nat.le_of_ble_eq_true rfl, Nat.le_of_ble_eq_true rfl⟩) (k_recv C hw (LM_0 LM) rfl) rfl hl.1 rfl (Nat.le_of_ble_eq_true rfl) dX12_text_77 (fun H locs hw => ?_)
        obtain ⟨u2, ex⟩ : ∃ y : Int32, y = (x2 + (1 : Int32)) := ⟨_, rfl⟩
        have hf := k_nmE ex hf
        refine lv_iinc (v := u2) (lv' := [(2, .int u2), (0, .ref (ad 0))]) hx hb dX12_text_80 hl (k := 1) rfl (by rw [ex]; rfl) (by decide) rfl (fun ls hl => ?_)
        refine lv_goto (tgt := 47) hx hb dX12_text_83 (by decide) ?_
        exact ih47 u2 σ1 _ _ _ (lv_sub hl [1, 0] rfl) hw hf
      intro x2 σ H locs ls hl hw hf
      have hf : f_X12_text_b47_s (f_X12_text_b47 n47) x2 σ = some (r, σ') := hf
      unfold f_X12_text_b47_s at hf
      refine lv_iload_n hx hb dX12_text_47 rfl (lv_at hl 1 rfl) ?_
      refine lv_bipush (v := (9 : Int32)) hx hb dX12_text_48 (by decide) ?_
      refine lv_icmp_ge (tgt := 86) hx hb dX12_text_50 (by decide) (fun h => ?_) (fun h => ?_)
      · have hf := k_ifT h hf
        refine lv_iconst (v := (3 : Int32)) hx hb dX12_text_86 (by decide) ?_
        refine lv_istore_n (lv' := [(2, .int (3 : Int32)), (0, .ref (ad 0))]) hx hb dX12_text_87 rfl hl (by decide) rfl (fun ls hl => ?_)
        exact b88 FU (3 : Int32) σ _ _ _ (lv_sub hl [1, 0] rfl) hw hf
      · have hf := k_ifF h hf
        refine lv_aload_n hx hb dX12_text_53 rfl (lv_at hl 0 rfl) ?_
        refine lv_iload_n hx hb dX12_text_54 rfl (lv_at hl 1 rfl) ?_
        refine lv_iload_n hx hb dX12_text_55 rfl (lv_at hl 1 rfl) ?_
        refine lv_iconst (v := (5 : Int32)) hx hb dX12_text_56 (by decide) ?_
        refine lv_icmp_ne (tgt := 65) hx hb dX12_text_57 (by decide) (fun h => ?_) (fun h => ?_)
        · have hf := k_ifF h hf
          refine lv_iload_n hx hb dX12_text_65 rfl (lv_at hl 1 rfl) ?_
          refine lv_bipush (v := (6 : Int32)) hx hb dX12_text_66 (by decide) ?_
          refine lv_icmp_ne (tgt := 76) hx hb dX12_text_68 (by decide) (fun h => ?_) (fun h => ?_)
          · have hf := k_ifF h hf
            refine lv_iconst (v := (0 : Int32)) hx hb dX12_text_76 (by decide) ?_
            exact b77 x2 x2 (0 : Int32) σ _ _ _ (lv_sub hl [0, 1] rfl) hw hf
          · have hf := k_ifT h hf
            refine lv_bipush (v := (50 : Int32)) hx hb dX12_text_71 (by decide) ?_
            refine lv_goto (tgt := 77) hx hb dX12_text_73 (by decide) ?_
            exact b77 x2 x2 (50 : Int32) σ _ _ _ (lv_sub hl [0, 1] rfl) hw hf
        · have hf := k_ifT h hf
          refine lv_bipush (v := (9 : Int32)) hx hb dX12_text_60 (by decide) ?_
          refine lv_goto (tgt := 77) hx hb dX12_text_62 (by decide) ?_
          exact b77 x2 x2 (9 : Int32) σ _ _ _ (lv_sub hl [0, 1] rfl) hw hf
  have b17 : ∀ (σ : MSt) (H : Heap) (locs : List Loc) (ls : Array Slot), lv_has ls 3 [] → k_W G w A s.heap σ H locs → f_X12_text_b17 σ = some (r, σ') → W p l e rmX12_text s m [.ref (ad 0), .int p1].toArray below meth c H locs 0 0 (MQ below (k_Qi G w A r σ') [.ref (ad 0), .int p1].toArray s 0 0 A) (F0 m 17 ls []) := by
    intro σ H locs ls hl hw hf
    unfold f_X12_text_b17 at hf
    refine lv_bipush (v := (-2 : Int32)) hx hb dX12_text_17 (by decide) ?_
    exact k_iret C hw hf dX12_text_19
  unfold f_X12_text at hf
  refine lv_aload_n hx hb dX12_text_0 rfl (lv_at hl 0 rfl) ?_
  refine lv_iconst (v := (0 : Int32)) hx hb dX12_text_1 (by decide) ?_
  refine k_put C hw (LM_0 LM) (ci := 12) rfl k_in12 tyX12 tyX12_ok nmX12 0 (by decide) lk12_145 rfl ⟨rfl, rfl⟩ rfl dX12_text_2 (fun σ1 eq H locs hw => ?_)
  have hf := k_nmE eq hf
  refine lv_iload_n hx hb dX12_text_5 rfl (lv_at hl 1 rfl) ?_
  refine lv_if_lt (tgt := 17) hx hb dX12_text_6 (by decide) (fun h => ?_) (fun h => ?_)
  · have hf := k_ifT h hf
    exact b17 σ1 _ _ _ (lv_sub hl [] rfl) hw hf
  · have hf := k_ifF h hf
    refine lv_iload_n hx hb dX12_text_9 rfl (lv_at hl 1 rfl) ?_
    refine lv_aload_n hx hb dX12_text_10 rfl (lv_at hl 0 rfl) ?_
    refine k_get C hw (LM_0 LM) (ci := 12) rfl k_in12 2 (by decide) lk12_148 (v := .int (σ1.1 0 2)) rfl dX12_text_11 ?_
    refine lv_icmp_le (tgt := 20) hx hb dX12_text_14 (by decide) (fun h => ?_) (fun h => ?_)
    · have hf := k_ifT h hf
      refine lv_aload_n hx hb dX12_text_20 rfl (lv_at hl 0 rfl) ?_
      refine lv_iload_n hx hb dX12_text_21 rfl (lv_at hl 1 rfl) ?_
      refine k_put C hw (LM_0 LM) (ci := 12) rfl k_in12 tyX12 tyX12_ok nmX12 18 (by decide) lk12_154 rfl ⟨rfl, rfl⟩ rfl dX12_text_22 (fun σ2 eq H locs hw => ?_)
      have hf := k_nmE eq hf
      refine lv_aload_n hx hb dX12_text_25 rfl (lv_at hl 0 rfl) ?_
      refine lv_iconst (v := (0 : Int32)) hx hb dX12_text_26 (by decide) ?_
      refine k_put C hw (LM_0 LM) (ci := 12) rfl k_in12 tyX12 tyX12_ok nmX12 2 (by decide) lk12_148 rfl ⟨rfl, rfl⟩ rfl dX12_text_27 (fun σ3 eq H locs hw => ?_)
      have hf := k_nmE eq hf
      refine lv_aload_n hx hb dX12_text_30 rfl (lv_at hl 0 rfl) ?_
      refine lv_iconst (v := (0 : Int32)) hx hb dX12_text_31 (by decide) ?_
      refine k_put C hw (LM_0 LM) (ci := 12) rfl k_in12 tyX12 tyX12_ok nmX12 19 (by decide) lk12_151 rfl ⟨rfl, rfl⟩ rfl dX12_text_32 (fun σ4 eq H locs hw => ?_)
      have hf := k_nmE eq hf
      refine lv_aload_n hx hb dX12_text_35 rfl (lv_at hl 0 rfl) ?_
      refine lv_iconst (v := (0 : Int32)) hx hb dX12_text_36 (by decide) ?_
      refine k_put C hw (LM_0 LM) (ci := 12) rfl k_in12 tyX12 tyX12_ok nmX12 23 (by decide) lk12_199 rfl ⟨rfl, rfl⟩ rfl dX12_text_37 (fun σ5 eq H locs hw => ?_)
      have hf := k_nmE eq hf
      refine lv_aload_n hx hb dX12_text_40 rfl (lv_at hl 0 rfl) ?_
      refine lv_iconst (v := (-1 : Int32)) hx hb dX12_text_41 (by decide) ?_
      refine k_put C hw (LM_0 LM) (ci := 12) rfl k_in12 tyX12 tyX12_ok nmX12 24 (by decide) lk12_202 rfl ⟨rfl, rfl⟩ rfl dX12_text_42 (fun σ6 eq H locs hw => ?_)
      have hf := k_nmE eq hf
      refine lv_iconst (v := (0 : Int32)) hx hb dX12_text_45 (by decide) ?_
      refine lv_istore_n (lv' := [(2, .int (0 : Int32)), (0, .ref (ad 0)), (1, .int p1)]) hx hb dX12_text_46 rfl hl (by decide) rfl (fun ls hl => ?_)
      exact b47 FU (0 : Int32) σ6 _ _ _ (lv_sub hl [1, 0] rfl) hw hf
    · have hf := k_ifF h hf
      exact b17 σ1 _ _ _ (lv_sub hl [] rfl) hw hf
def f_X12_fault_b29  (y0 : Int32) (σ : MSt) : Option (Int32 × MSt) :=
  some (y0, σ)
def f_X12_fault  (p1 : Int32) (σ : MSt) : Option (Int32 × MSt) :=
  k_nm (mI σ 0 0 (0 : Int32)) fun σ1 =>
  if p1 = 0 then
  (f_X12_fault_b29 (σ1.1 0 25) σ1)
  else
  (if p1 = (1 : Int32) then
  (f_X12_fault_b29 (σ1.1 0 26) σ1)
  else
  (f_X12_fault_b29 (-1 : Int32) σ1))
def rmX12_fault : Room := { frames := 0, cells := 0, slots := 0, locals := 0 }
set_option maxHeartbeats 4000000 in
set_option maxRecDepth 100000 in
theorem c_X12_fault (l : Launch) (G : va_G) (Y : CY) (w : MSt → va_W) (ad : Nat → Nat)  (LM : LayM ad w Y) (p1 : Int32) (σ : MSt) (r : Int32) (σ' : MSt) (hf : f_X12_fault p1 σ = some (r, σ')) : k_Mi l yX12_fault wsX12_fault rmX12_fault G Y w [.ref (ad 0), .int p1] σ r σ' := by
  refine k_ofi (own := RX12) (cc := cX12_fault) (maxL := 2) (some .int) (by decide) rfl rfl (Nat.le_of_ble_eq_true rfl) ?_
  intro p e s m below meth c A C ls hl hw
  have hx := C.1
  have hb := C.2.1
  have hown := C.2.2.2.2.1
  have hts := C.2.2.2.2.2.1
  have hks := C.2.2.2.2.2.2.1
  have hl : lv_has ls 2 [(0, .ref (ad 0)), (1, .int p1)] := hl
  have b29 : ∀ (y0 : Int32) (σ : MSt) (H : Heap) (locs : List Loc) (ls : Array Slot), lv_has ls 2 [] → k_W G w A s.heap σ H locs → f_X12_fault_b29 y0 σ = some (r, σ') → W p l e rmX12_fault s m [.ref (ad 0), .int p1].toArray below meth c H locs 0 0 (MQ below (k_Qi G w A r σ') [.ref (ad 0), .int p1].toArray s 0 0 A) (F0 m 29 ls [.int y0]) := by
    intro y0 σ H locs ls hl hw hf
    unfold f_X12_fault_b29 at hf
    exact k_iret C hw hf dX12_fault_29
  unfold f_X12_fault at hf
  refine lv_aload_n hx hb dX12_fault_0 rfl (lv_at hl 0 rfl) ?_
  refine lv_iconst (v := (0 : Int32)) hx hb dX12_fault_1 (by decide) ?_
  refine k_put C hw (LM_0 LM) (ci := 12) rfl k_in12 tyX12 tyX12_ok nmX12 0 (by decide) lk12_145 rfl ⟨rfl, rfl⟩ rfl dX12_fault_2 (fun σ1 eq H locs hw => ?_)
  have hf := k_nmE eq hf
  refine lv_iload_n hx hb dX12_fault_5 rfl (lv_at hl 1 rfl) ?_
  refine lv_if_ne (tgt := 16) hx hb dX12_fault_6 (by decide) (fun h => ?_) (fun h => ?_)
  · have hf := k_ifF h hf
    refine lv_iload_n hx hb dX12_fault_16 rfl (lv_at hl 1 rfl) ?_
    refine lv_iconst (v := (1 : Int32)) hx hb dX12_fault_17 (by decide) ?_
    refine lv_icmp_ne (tgt := 28) hx hb dX12_fault_18 (by decide) (fun h => ?_) (fun h => ?_)
    · have hf := k_ifF h hf
      refine lv_iconst (v := (-1 : Int32)) hx hb dX12_fault_28 (by decide) ?_
      exact b29 (-1 : Int32) σ1 _ _ _ (lv_sub hl [] rfl) hw hf
    · have hf := k_ifT h hf
      refine lv_aload_n hx hb dX12_fault_21 rfl (lv_at hl 0 rfl) ?_
      refine k_get C hw (LM_0 LM) (ci := 12) rfl k_in12 26 (by decide) lk12_52 (v := .int (σ1.1 0 26)) rfl dX12_fault_22 ?_
      refine lv_goto (tgt := 29) hx hb dX12_fault_25 (by decide) ?_
      exact b29 (σ1.1 0 26) σ1 _ _ _ (lv_sub hl [] rfl) hw hf
  · have hf := k_ifT h hf
    refine lv_aload_n hx hb dX12_fault_9 rfl (lv_at hl 0 rfl) ?_
    refine k_get C hw (LM_0 LM) (ci := 12) rfl k_in12 25 (by decide) lk12_294 (v := .int (σ1.1 0 25)) rfl dX12_fault_10 ?_
    refine lv_goto (tgt := 29) hx hb dX12_fault_13 (by decide) ?_
    exact b29 (σ1.1 0 25) σ1 _ _ _ (lv_sub hl [] rfl) hw hf
def f_X12_named  (p1 : Int32) (σ : MSt) : Option (Int32 × MSt) :=
  k_nm (mI σ 0 0 (0 : Int32)) fun σ1 =>
  k_ck (k_inb (0 : Int32) 18) <|
  k_bd (f_X12_found 3 16 (0 : Int32) (σ1.1 2 ((0 : Int32)).toNatClampNeg) p1 σ1) fun q3 σ2 =>
  some (q3, σ2)
def rmX12_named : Room := { frames := 1, cells := 0, slots := 0, locals := 24 }
set_option maxHeartbeats 4000000 in
set_option maxRecDepth 100000 in
theorem c_X12_named (l : Launch) (G : va_G) (Y : CY) (w : MSt → va_W) (ad : Nat → Nat)  (LM : LayM ad w Y) (p1 : Int32) (σ : MSt) (r : Int32) (σ' : MSt) (hf : f_X12_named p1 σ = some (r, σ')) : k_Mi l yX12_named wsX12_named rmX12_named G Y w [.ref (ad 0), .int p1] σ r σ' := by
  refine k_ofi (own := RX12) (cc := cX12_named) (maxL := 2) (some .int) (by decide) rfl rfl (Nat.le_of_ble_eq_true rfl) ?_
  intro p e s m below meth c A C ls hl hw
  have hx := C.1
  have hb := C.2.1
  have hown := C.2.2.2.2.1
  have hts := C.2.2.2.2.2.1
  have hks := C.2.2.2.2.2.2.1
  have hl : lv_has ls 2 [(0, .ref (ad 0)), (1, .int p1)] := hl
  unfold f_X12_named at hf
  refine lv_aload_n hx hb dX12_named_0 rfl (lv_at hl 0 rfl) ?_
  refine lv_iconst (v := (0 : Int32)) hx hb dX12_named_1 (by decide) ?_
  refine k_put C hw (LM_0 LM) (ci := 12) rfl k_in12 tyX12 tyX12_ok nmX12 0 (by decide) lk12_145 rfl ⟨rfl, rfl⟩ rfl dX12_named_2 (fun σ1 eq H locs hw => ?_)
  have hf := k_nmE eq hf
  refine lv_aload_n hx hb dX12_named_5 rfl (lv_at hl 0 rfl) ?_
  refine k_get C hw (LM_0 LM) (ci := 12) rfl k_in12 4 (by decide) lk12_16 (v := .ref (ad 3)) rfl dX12_named_6 ?_
  refine lv_iconst (v := (0 : Int32)) hx hb dX12_named_9 (by decide) ?_
  refine lv_aload_n hx hb dX12_named_10 rfl (lv_at hl 0 rfl) ?_
  refine k_get C hw (LM_0 LM) (ci := 12) rfl k_in12 3 (by decide) lk12_13 (v := .ref (ad 2)) rfl dX12_named_11 ?_
  refine lv_iconst (v := (0 : Int32)) hx hb dX12_named_14 (by decide) ?_
  obtain ⟨hi, hf⟩ := k_ckE hf
  refine k_iald C hw (LM_2 LM) hi dX12_named_15 ?_
  refine lv_iload_n hx hb dX12_named_16 rfl (lv_at hl 1 rfl) ?_
  obtain ⟨q3, σ2, hq, hf⟩ := k_bdE hf
  refine k_callSi C hw (c_X12_found l G Y w ad 3 16 LM (LM_3 LM) (0 : Int32) (σ1.1 2 ((0 : Int32)).toNatClampNeg) p1 σ1 q3 σ2 hq) (va_cwS 4 hts gX12_named_X12_found rfl rfl rfl (by decide +kernel) ⟨Nat.le_of_ble_eq_true rfl, Nat.le_of_ble_eq_true rfl⟩) rfl hl.1 rfl (Nat.le_of_ble_eq_true rfl) dX12_named_17 (fun H locs hw => ?_)
  exact k_iret C hw hf dX12_named_20
def f_X12_is_b9  (y0 : Int64) (σ : MSt) : Option (Int64 × MSt) :=
  some (y0, σ)
def f_X12_is  (p1 : Int32) (σ : MSt) : Option (Int64 × MSt) :=
  if p1 = 0 then
  (f_X12_is_b9 (0 : Int64) σ)
  else
  (f_X12_is_b9 (1 : Int64) σ)
def rmX12_is : Room := { frames := 0, cells := 0, slots := 0, locals := 0 }
set_option maxHeartbeats 4000000 in
set_option maxRecDepth 100000 in
theorem c_X12_is (l : Launch) (G : va_G) (Y : CY) (w : MSt → va_W) (ad : Nat → Nat)  (LM : LayM ad w Y) (p1 : Int32) (σ : MSt) (r : Int64) (σ' : MSt) (hf : f_X12_is p1 σ = some (r, σ')) : k_Ml l yX12_is wsX12_is rmX12_is G Y w [.int p1] σ r σ' := by
  refine k_ofl (own := RX12) (cc := cX12_is) (maxL := 1) (some .long) (by decide) rfl rfl (Nat.le_of_ble_eq_true rfl) ?_
  intro p e s m below meth c A C ls hl hw
  have hx := C.1
  have hb := C.2.1
  have hown := C.2.2.2.2.1
  have hts := C.2.2.2.2.2.1
  have hks := C.2.2.2.2.2.2.1
  have hl : lv_has ls 1 [(0, .int p1)] := hl
  have b9 : ∀ (y0 : Int64) (σ : MSt) (H : Heap) (locs : List Loc) (ls : Array Slot), lv_has ls 1 [] → k_W G w A s.heap σ H locs → f_X12_is_b9 y0 σ = some (r, σ') → W p l e rmX12_is s m [.int p1].toArray below meth c H locs 0 0 (MQ below (k_Ql G w A r σ') [.int p1].toArray s 0 0 A) (F0 m 9 ls [.long y0]) := by
    intro y0 σ H locs ls hl hw hf
    unfold f_X12_is_b9 at hf
    exact k_lret C hw hf dX12_is_9
  unfold f_X12_is at hf
  refine lv_iload_n hx hb dX12_is_0 rfl (lv_at hl 0 rfl) ?_
  refine lv_if_eq (tgt := 8) hx hb dX12_is_1 (by decide) (fun h => ?_) (fun h => ?_)
  · have hf := k_ifT h hf
    refine lv_lconst (v := (0 : Int64)) hx hb dX12_is_8 (by decide) ?_
    exact b9 (0 : Int64) σ _ _ _ (lv_sub hl [] rfl) hw hf
  · have hf := k_ifF h hf
    refine lv_lconst (v := (1 : Int64)) hx hb dX12_is_4 (by decide) ?_
    refine lv_goto (tgt := 9) hx hb dX12_is_5 (by decide) ?_
    exact b9 (1 : Int64) σ _ _ _ (lv_sub hl [] rfl) hw hf
def f_X12_works_b443  (y0 : Int32) (σ : MSt) : Option (Int32 × MSt) :=
  k_ck (k_bo y0) <|
  some (y0, σ)
def f_X12_works_b442   (σ : MSt) : Option (Int32 × MSt) :=
  f_X12_works_b443 (0 : Int32) σ
def f_X12_works_b407  (x6 : Int64) (σ : MSt) : Option (Int32 × MSt) :=
  k_ck (k_inb ((σ.1 0 31) - (1 : Int32)) 64) <|
  k_nm (mJ σ 16 (((σ.1 0 31) - (1 : Int32))).toNatClampNeg x6) fun σ1 =>
  if 0 < (lg_cmp x6 (1000000000000 : Int64)) then
  (f_X12_works_b442 σ1)
  else
  (if (lg_cmp x6 (-1000000000000 : Int64)) < 0 then
  (f_X12_works_b442 σ1)
  else
  (f_X12_works_b443 (1 : Int32) σ1))
def f_X12_works_b402  (y0 : Int32) (σ : MSt) : Option (Int32 × MSt) :=
  k_bl (f_X12_is y0 σ) fun q2 σ1 =>
  f_X12_works_b407 q2 σ1
def f_X12_works_b397   (σ : MSt) : Option (Int32 × MSt) :=
  f_X12_works_b402 (1 : Int32) σ
def f_X12_works_b376  (y0 : Int32) (σ : MSt) : Option (Int32 × MSt) :=
  k_bl (f_X12_is y0 σ) fun q2 σ1 =>
  f_X12_works_b407 q2 σ1
def f_X12_works_b375   (σ : MSt) : Option (Int32 × MSt) :=
  f_X12_works_b376 (0 : Int32) σ
def f_X12_works_b350  (y0 : Int32) (σ : MSt) : Option (Int32 × MSt) :=
  k_bl (f_X12_is y0 σ) fun q2 σ1 =>
  f_X12_works_b407 q2 σ1
def f_X12_works_b330  (y0 : Int32) (σ : MSt) : Option (Int32 × MSt) :=
  k_bl (f_X12_is y0 σ) fun q2 σ1 =>
  f_X12_works_b407 q2 σ1
def f_X12_works_b310  (y0 : Int32) (σ : MSt) : Option (Int32 × MSt) :=
  k_bl (f_X12_is y0 σ) fun q2 σ1 =>
  f_X12_works_b407 q2 σ1
def f_X12_works_b290  (y0 : Int32) (σ : MSt) : Option (Int32 × MSt) :=
  k_bl (f_X12_is y0 σ) fun q2 σ1 =>
  f_X12_works_b407 q2 σ1
def f_X12_works_b270  (y0 : Int32) (σ : MSt) : Option (Int32 × MSt) :=
  k_bl (f_X12_is y0 σ) fun q2 σ1 =>
  f_X12_works_b407 q2 σ1
def f_X12_works_b250  (y0 : Int32) (σ : MSt) : Option (Int32 × MSt) :=
  k_bl (f_X12_is y0 σ) fun q2 σ1 =>
  f_X12_works_b407 q2 σ1
def f_X12_works_b212  (x2 : Int64) (x4 : Int64) (σ : MSt) : Option (Int32 × MSt) :=
  k_nm (x4 * x2) fun u1 =>
  f_X12_works_b407 u1 σ
def f_X12_works_b40  (y1 : Int32) (y2 : Int32) (σ : MSt) : Option (Int32 × MSt) :=
  k_bl (f_X12_is y2 σ) fun q2 σ1 =>
  k_ck (k_inb y1 64) <|
  k_nm (mJ σ1 16 (y1).toNatClampNeg q2) fun σ3 =>
  some ((1 : Int32), σ3)
def f_X12_works  (p1 : Int32) (σ : MSt) : Option (Int32 × MSt) :=
  k_ck (k_inb ((σ.1 0 31) - (1 : Int32)) 64) <|
  k_nm (σ.2 16 (((σ.1 0 31) - (1 : Int32))).toNatClampNeg) fun u4 =>
  if p1 = (260 : Int32) then
  (if (lg_cmp u4 (0 : Int64)) = 0 then
  (f_X12_works_b40 ((σ.1 0 31) - (1 : Int32)) (1 : Int32) σ)
  else
  (f_X12_works_b40 ((σ.1 0 31) - (1 : Int32)) (0 : Int32) σ))
  else
  (k_ck (k_inb ((σ.1 0 31) - (2 : Int32)) 64) <|
  k_nm (σ.2 16 (((σ.1 0 31) - (2 : Int32))).toNatClampNeg) fun u5 =>
  k_nm (mI σ 0 31 ((σ.1 0 31) - (1 : Int32))) fun σ6 =>
  if p1 = (42 : Int32) then
  (if (lg_cmp u5 (0 : Int64)) = 0 then
  (f_X12_works_b212 u4 u5 σ6)
  else
  (k_ck (k_nzl (k_labs u5)) <|
  if (lg_cmp (k_labs u4) ((1000000000000 : Int64) / (k_labs u5))) ≤ 0 then
  (f_X12_works_b212 u4 u5 σ6)
  else
  (some ((0 : Int32), σ6))))
  else if p1 = (43 : Int32) then
  (k_nm (u5 + u4) fun u7 =>
  f_X12_works_b407 u7 σ6)
  else if p1 = (45 : Int32) then
  (k_nm (u5 - u4) fun u8 =>
  f_X12_works_b407 u8 σ6)
  else if p1 = (47 : Int32) then
  (if (lg_cmp u4 (0 : Int64)) = 0 then
  (some ((0 : Int32), σ6))
  else
  (k_ck (k_nzl u4) <|
  k_nm (u5 / u4) fun u9 =>
  f_X12_works_b407 u9 σ6))
  else if p1 = (60 : Int32) then
  (if 0 ≤ (lg_cmp u5 u4) then
  (f_X12_works_b250 (0 : Int32) σ6)
  else
  (f_X12_works_b250 (1 : Int32) σ6))
  else if p1 = (61 : Int32) then
  (if (lg_cmp u5 u4) = 0 then
  (f_X12_works_b290 (1 : Int32) σ6)
  else
  (f_X12_works_b290 (0 : Int32) σ6))
  else if p1 = (62 : Int32) then
  (if (lg_cmp u5 u4) ≤ 0 then
  (f_X12_works_b270 (0 : Int32) σ6)
  else
  (f_X12_works_b270 (1 : Int32) σ6))
  else if p1 = (256 : Int32) then
  (if 0 < (lg_cmp u5 u4) then
  (f_X12_works_b310 (0 : Int32) σ6)
  else
  (f_X12_works_b310 (1 : Int32) σ6))
  else if p1 = (257 : Int32) then
  (if (lg_cmp u5 u4) = 0 then
  (f_X12_works_b350 (0 : Int32) σ6)
  else
  (f_X12_works_b350 (1 : Int32) σ6))
  else if p1 = (258 : Int32) then
  (if (lg_cmp u5 u4) < 0 then
  (f_X12_works_b330 (0 : Int32) σ6)
  else
  (f_X12_works_b330 (1 : Int32) σ6))
  else if p1 = (261 : Int32) then
  (if (lg_cmp u5 (0 : Int64)) = 0 then
  (f_X12_works_b375 σ6)
  else
  (if (lg_cmp u4 (0 : Int64)) = 0 then
  (f_X12_works_b375 σ6)
  else
  (f_X12_works_b376 (1 : Int32) σ6)))
  else 
  (if (lg_cmp u5 (0 : Int64)) = 0 then
  (if (lg_cmp u4 (0 : Int64)) = 0 then
  (f_X12_works_b402 (0 : Int32) σ6)
  else
  (f_X12_works_b397 σ6))
  else
  (f_X12_works_b397 σ6)))
def rmX12_works : Room := { frames := 1, cells := 0, slots := 0, locals := 23 }
set_option maxHeartbeats 4000000 in
set_option maxRecDepth 100000 in
theorem c_X12_works (l : Launch) (G : va_G) (Y : CY) (w : MSt → va_W) (ad : Nat → Nat)  (LM : LayM ad w Y) (p1 : Int32) (σ : MSt) (r : Int32) (σ' : MSt) (hf : f_X12_works p1 σ = some (r, σ')) : k_Mi l yX12_works wsX12_works rmX12_works G Y w [.ref (ad 0), .int p1] σ r σ' := by
  refine k_ofi (own := RX12) (cc := cX12_works) (maxL := 8) (some .boolean) (by decide) rfl rfl (Nat.le_of_ble_eq_true rfl) ?_
  intro p e s m below meth c A C ls hl hw
  have hx := C.1
  have hb := C.2.1
  have hown := C.2.2.2.2.1
  have hts := C.2.2.2.2.2.1
  have hks := C.2.2.2.2.2.2.1
  have hl : lv_has ls 8 [(0, .ref (ad 0)), (1, .int p1)] := hl
  have b443 : ∀ (y0 : Int32) (σ : MSt) (H : Heap) (locs : List Loc) (ls : Array Slot), lv_has ls 8 [] → k_W G w A s.heap σ H locs → f_X12_works_b443 y0 σ = some (r, σ') → W p l e rmX12_works s m [.ref (ad 0), .int p1].toArray below meth c H locs 0 0 (MQ below (k_Qi G w A r σ') [.ref (ad 0), .int p1].toArray s 0 0 A) (F0 m 443 ls [.int y0]) := by
    intro y0 σ H locs ls hl hw hf
    unfold f_X12_works_b443 at hf
    obtain ⟨hz, hf⟩ := k_ckE hf
    exact k_zret C hw (k_boE hz).1 hf dX12_works_443
  have b442 : ∀ (σ : MSt) (H : Heap) (locs : List Loc) (ls : Array Slot), lv_has ls 8 [] → k_W G w A s.heap σ H locs → f_X12_works_b442 σ = some (r, σ') → W p l e rmX12_works s m [.ref (ad 0), .int p1].toArray below meth c H locs 0 0 (MQ below (k_Qi G w A r σ') [.ref (ad 0), .int p1].toArray s 0 0 A) (F0 m 442 ls []) := by
    intro σ H locs ls hl hw hf
    unfold f_X12_works_b442 at hf
    refine lv_iconst (v := (0 : Int32)) hx hb dX12_works_442 (by decide) ?_
    exact b443 (0 : Int32) σ _ _ _ (lv_sub hl [] rfl) hw hf
  have b407 : ∀ (x6 : Int64) (σ : MSt) (H : Heap) (locs : List Loc) (ls : Array Slot), lv_has ls 8 [(0, .ref (ad 0)), (6, .long x6)] → k_W G w A s.heap σ H locs → f_X12_works_b407 x6 σ = some (r, σ') → W p l e rmX12_works s m [.ref (ad 0), .int p1].toArray below meth c H locs 0 0 (MQ below (k_Qi G w A r σ') [.ref (ad 0), .int p1].toArray s 0 0 A) (F0 m 407 ls []) := by
    intro x6 σ H locs ls hl hw hf
    unfold f_X12_works_b407 at hf
    refine lv_aload_n hx hb dX12_works_407 rfl (lv_at hl 0 rfl) ?_
    refine k_get C hw (LM_0 LM) (ci := 12) rfl k_in12 30 (by decide) lk12_60 (v := .ref (ad 16)) rfl dX12_works_408 ?_
    refine lv_aload_n hx hb dX12_works_411 rfl (lv_at hl 0 rfl) ?_
    refine k_get C hw (LM_0 LM) (ci := 12) rfl k_in12 31 (by decide) lk12_314 (v := .int (σ.1 0 31)) rfl dX12_works_412 ?_
    refine lv_iconst (v := (1 : Int32)) hx hb dX12_works_415 (by decide) ?_
    refine lv_isub hx hb dX12_works_416 ?_
    refine lv_lload hx hb dX12_works_417 (lv_at hl 1 rfl) ?_
    obtain ⟨hi, hf⟩ := k_ckE hf
    refine k_last C hw (LM_16 LM) hi dX12_works_419 (fun σ1 eq H locs hw => ?_)
    have hf := k_nmE eq hf
    refine lv_lload hx hb dX12_works_420 (lv_at hl 1 rfl) ?_
    refine lv_ldc2 (v := (1000000000000 : Int64)) hx hb hown (hks.ts _ ck12_327) dX12_works_422 ?_
    refine W.lcmp hx hb dX12_works_425 ?_
    refine lv_if_gt (tgt := 442) hx hb dX12_works_426 (by decide) (fun h => ?_) (fun h => ?_)
    · have hf := k_ifT h hf
      exact b442 σ1 _ _ _ (lv_sub hl [] rfl) hw hf
    · have hf := k_ifF h hf
      refine lv_lload hx hb dX12_works_429 (lv_at hl 1 rfl) ?_
      refine lv_ldc2 (v := (-1000000000000 : Int64)) hx hb hown (hks.ts _ ck12_329) dX12_works_431 ?_
      refine W.lcmp hx hb dX12_works_434 ?_
      refine lv_if_lt (tgt := 442) hx hb dX12_works_435 (by decide) (fun h => ?_) (fun h => ?_)
      · have hf := k_ifT h hf
        exact b442 σ1 _ _ _ (lv_sub hl [] rfl) hw hf
      · have hf := k_ifF h hf
        refine lv_iconst (v := (1 : Int32)) hx hb dX12_works_438 (by decide) ?_
        refine lv_goto (tgt := 443) hx hb dX12_works_439 (by decide) ?_
        exact b443 (1 : Int32) σ1 _ _ _ (lv_sub hl [] rfl) hw hf
  have b402 : ∀ (y0 : Int32) (σ : MSt) (H : Heap) (locs : List Loc) (ls : Array Slot), lv_has ls 8 [(0, .ref (ad 0))] → k_W G w A s.heap σ H locs → f_X12_works_b402 y0 σ = some (r, σ') → W p l e rmX12_works s m [.ref (ad 0), .int p1].toArray below meth c H locs 0 0 (MQ below (k_Qi G w A r σ') [.ref (ad 0), .int p1].toArray s 0 0 A) (F0 m 402 ls [.int y0]) := by
    intro y0 σ H locs ls hl hw hf
    unfold f_X12_works_b402 at hf
    obtain ⟨q2, σ1, hq, hf⟩ := k_blE hf
    refine k_callSl C hw (c_X12_is l G Y w ad LM y0 σ q2 σ1 hq) (va_cwS 1 hts gX12_works_X12_is rfl rfl rfl (by decide +kernel) ⟨Nat.le_of_ble_eq_true rfl, Nat.le_of_ble_eq_true rfl⟩) rfl hl.1 rfl (Nat.le_of_ble_eq_true rfl) dX12_works_402 (fun H locs hw => ?_)
    refine lv_lstore (lv' := [(6, .long q2), (0, .ref (ad 0))]) hx hb dX12_works_405 hl (by decide) rfl (fun ls hl => ?_)
    exact b407 q2 σ1 _ _ _ (lv_sub hl [1, 0] rfl) hw hf
  have b397 : ∀ (σ : MSt) (H : Heap) (locs : List Loc) (ls : Array Slot), lv_has ls 8 [(0, .ref (ad 0))] → k_W G w A s.heap σ H locs → f_X12_works_b397 σ = some (r, σ') → W p l e rmX12_works s m [.ref (ad 0), .int p1].toArray below meth c H locs 0 0 (MQ below (k_Qi G w A r σ') [.ref (ad 0), .int p1].toArray s 0 0 A) (F0 m 397 ls []) := by
    intro σ H locs ls hl hw hf
    unfold f_X12_works_b397 at hf
    refine lv_iconst (v := (1 : Int32)) hx hb dX12_works_397 (by decide) ?_
    refine lv_goto (tgt := 402) hx hb dX12_works_398 (by decide) ?_
    exact b402 (1 : Int32) σ _ _ _ (lv_sub hl [0] rfl) hw hf
  have b376 : ∀ (y0 : Int32) (σ : MSt) (H : Heap) (locs : List Loc) (ls : Array Slot), lv_has ls 8 [(0, .ref (ad 0))] → k_W G w A s.heap σ H locs → f_X12_works_b376 y0 σ = some (r, σ') → W p l e rmX12_works s m [.ref (ad 0), .int p1].toArray below meth c H locs 0 0 (MQ below (k_Qi G w A r σ') [.ref (ad 0), .int p1].toArray s 0 0 A) (F0 m 376 ls [.int y0]) := by
    intro y0 σ H locs ls hl hw hf
    unfold f_X12_works_b376 at hf
    obtain ⟨q2, σ1, hq, hf⟩ := k_blE hf
    refine k_callSl C hw (c_X12_is l G Y w ad LM y0 σ q2 σ1 hq) (va_cwS 1 hts gX12_works_X12_is rfl rfl rfl (by decide +kernel) ⟨Nat.le_of_ble_eq_true rfl, Nat.le_of_ble_eq_true rfl⟩) rfl hl.1 rfl (Nat.le_of_ble_eq_true rfl) dX12_works_376 (fun H locs hw => ?_)
    refine lv_lstore (lv' := [(6, .long q2), (0, .ref (ad 0))]) hx hb dX12_works_379 hl (by decide) rfl (fun ls hl => ?_)
    refine lv_goto (tgt := 407) hx hb dX12_works_381 (by decide) ?_
    exact b407 q2 σ1 _ _ _ (lv_sub hl [1, 0] rfl) hw hf
  have b375 : ∀ (σ : MSt) (H : Heap) (locs : List Loc) (ls : Array Slot), lv_has ls 8 [(0, .ref (ad 0))] → k_W G w A s.heap σ H locs → f_X12_works_b375 σ = some (r, σ') → W p l e rmX12_works s m [.ref (ad 0), .int p1].toArray below meth c H locs 0 0 (MQ below (k_Qi G w A r σ') [.ref (ad 0), .int p1].toArray s 0 0 A) (F0 m 375 ls []) := by
    intro σ H locs ls hl hw hf
    unfold f_X12_works_b375 at hf
    refine lv_iconst (v := (0 : Int32)) hx hb dX12_works_375 (by decide) ?_
    exact b376 (0 : Int32) σ _ _ _ (lv_sub hl [0] rfl) hw hf
  have b350 : ∀ (y0 : Int32) (σ : MSt) (H : Heap) (locs : List Loc) (ls : Array Slot), lv_has ls 8 [(0, .ref (ad 0))] → k_W G w A s.heap σ H locs → f_X12_works_b350 y0 σ = some (r, σ') → W p l e rmX12_works s m [.ref (ad 0), .int p1].toArray below meth c H locs 0 0 (MQ below (k_Qi G w A r σ') [.ref (ad 0), .int p1].toArray s 0 0 A) (F0 m 350 ls [.int y0]) := by
    intro y0 σ H locs ls hl hw hf
    unfold f_X12_works_b350 at hf
    obtain ⟨q2, σ1, hq, hf⟩ := k_blE hf
    refine k_callSl C hw (c_X12_is l G Y w ad LM y0 σ q2 σ1 hq) (va_cwS 1 hts gX12_works_X12_is rfl rfl rfl (by decide +kernel) ⟨Nat.le_of_ble_eq_true rfl, Nat.le_of_ble_eq_true rfl⟩) rfl hl.1 rfl (Nat.le_of_ble_eq_true rfl) dX12_works_350 (fun H locs hw => ?_)
    refine lv_lstore (lv' := [(6, .long q2), (0, .ref (ad 0))]) hx hb dX12_works_353 hl (by decide) rfl (fun ls hl => ?_)
    refine lv_goto (tgt := 407) hx hb dX12_works_355 (by decide) ?_
    exact b407 q2 σ1 _ _ _ (lv_sub hl [1, 0] rfl) hw hf
  have b330 : ∀ (y0 : Int32) (σ : MSt) (H : Heap) (locs : List Loc) (ls : Array Slot), lv_has ls 8 [(0, .ref (ad 0))] → k_W G w A s.heap σ H locs → f_X12_works_b330 y0 σ = some (r, σ') → W p l e rmX12_works s m [.ref (ad 0), .int p1].toArray below meth c H locs 0 0 (MQ below (k_Qi G w A r σ') [.ref (ad 0), .int p1].toArray s 0 0 A) (F0 m 330 ls [.int y0]) := by
    intro y0 σ H locs ls hl hw hf
    unfold f_X12_works_b330 at hf
    obtain ⟨q2, σ1, hq, hf⟩ := k_blE hf
    refine k_callSl C hw (c_X12_is l G Y w ad LM y0 σ q2 σ1 hq) (va_cwS 1 hts gX12_works_X12_is rfl rfl rfl (by decide +kernel) ⟨Nat.le_of_ble_eq_true rfl, Nat.le_of_ble_eq_true rfl⟩) rfl hl.1 rfl (Nat.le_of_ble_eq_true rfl) dX12_works_330 (fun H locs hw => ?_)
    refine lv_lstore (lv' := [(6, .long q2), (0, .ref (ad 0))]) hx hb dX12_works_333 hl (by decide) rfl (fun ls hl => ?_)
    refine lv_goto (tgt := 407) hx hb dX12_works_335 (by decide) ?_
    exact b407 q2 σ1 _ _ _ (lv_sub hl [1, 0] rfl) hw hf
  have b310 : ∀ (y0 : Int32) (σ : MSt) (H : Heap) (locs : List Loc) (ls : Array Slot), lv_has ls 8 [(0, .ref (ad 0))] → k_W G w A s.heap σ H locs → f_X12_works_b310 y0 σ = some (r, σ') → W p l e rmX12_works s m [.ref (ad 0), .int p1].toArray below meth c H locs 0 0 (MQ below (k_Qi G w A r σ') [.ref (ad 0), .int p1].toArray s 0 0 A) (F0 m 310 ls [.int y0]) := by
    intro y0 σ H locs ls hl hw hf
    unfold f_X12_works_b310 at hf
    obtain ⟨q2, σ1, hq, hf⟩ := k_blE hf
    refine k_callSl C hw (c_X12_is l G Y w ad LM y0 σ q2 σ1 hq) (va_cwS 1 hts gX12_works_X12_is rfl rfl rfl (by decide +kernel) ⟨Nat.le_of_ble_eq_true rfl, Nat.le_of_ble_eq_true rfl⟩) rfl hl.1 rfl (Nat.le_of_ble_eq_true rfl) dX12_works_310 (fun H locs hw => ?_)
    refine lv_lstore (lv' := [(6, .long q2), (0, .ref (ad 0))]) hx hb dX12_works_313 hl (by decide) rfl (fun ls hl => ?_)
    refine lv_goto (tgt := 407) hx hb dX12_works_315 (by decide) ?_
    exact b407 q2 σ1 _ _ _ (lv_sub hl [1, 0] rfl) hw hf
  have b290 : ∀ (y0 : Int32) (σ : MSt) (H : Heap) (locs : List Loc) (ls : Array Slot), lv_has ls 8 [(0, .ref (ad 0))] → k_W G w A s.heap σ H locs → f_X12_works_b290 y0 σ = some (r, σ') → W p l e rmX12_works s m [.ref (ad 0), .int p1].toArray below meth c H locs 0 0 (MQ below (k_Qi G w A r σ') [.ref (ad 0), .int p1].toArray s 0 0 A) (F0 m 290 ls [.int y0]) := by
    intro y0 σ H locs ls hl hw hf
    unfold f_X12_works_b290 at hf
    obtain ⟨q2, σ1, hq, hf⟩ := k_blE hf
    refine k_callSl C hw (c_X12_is l G Y w ad LM y0 σ q2 σ1 hq) (va_cwS 1 hts gX12_works_X12_is rfl rfl rfl (by decide +kernel) ⟨Nat.le_of_ble_eq_true rfl, Nat.le_of_ble_eq_true rfl⟩) rfl hl.1 rfl (Nat.le_of_ble_eq_true rfl) dX12_works_290 (fun H locs hw => ?_)
    refine lv_lstore (lv' := [(6, .long q2), (0, .ref (ad 0))]) hx hb dX12_works_293 hl (by decide) rfl (fun ls hl => ?_)
    refine lv_goto (tgt := 407) hx hb dX12_works_295 (by decide) ?_
    exact b407 q2 σ1 _ _ _ (lv_sub hl [1, 0] rfl) hw hf
  have b270 : ∀ (y0 : Int32) (σ : MSt) (H : Heap) (locs : List Loc) (ls : Array Slot), lv_has ls 8 [(0, .ref (ad 0))] → k_W G w A s.heap σ H locs → f_X12_works_b270 y0 σ = some (r, σ') → W p l e rmX12_works s m [.ref (ad 0), .int p1].toArray below meth c H locs 0 0 (MQ below (k_Qi G w A r σ') [.ref (ad 0), .int p1].toArray s 0 0 A) (F0 m 270 ls [.int y0]) := by
    intro y0 σ H locs ls hl hw hf
    unfold f_X12_works_b270 at hf
    obtain ⟨q2, σ1, hq, hf⟩ := k_blE hf
    refine k_callSl C hw (c_X12_is l G Y w ad LM y0 σ q2 σ1 hq) (va_cwS 1 hts gX12_works_X12_is rfl rfl rfl (by decide +kernel) ⟨Nat.le_of_ble_eq_true rfl, Nat.le_of_ble_eq_true rfl⟩) rfl hl.1 rfl (Nat.le_of_ble_eq_true rfl) dX12_works_270 (fun H locs hw => ?_)
    refine lv_lstore (lv' := [(6, .long q2), (0, .ref (ad 0))]) hx hb dX12_works_273 hl (by decide) rfl (fun ls hl => ?_)
    refine lv_goto (tgt := 407) hx hb dX12_works_275 (by decide) ?_
    exact b407 q2 σ1 _ _ _ (lv_sub hl [1, 0] rfl) hw hf
  have b250 : ∀ (y0 : Int32) (σ : MSt) (H : Heap) (locs : List Loc) (ls : Array Slot), lv_has ls 8 [(0, .ref (ad 0))] → k_W G w A s.heap σ H locs → f_X12_works_b250 y0 σ = some (r, σ') → W p l e rmX12_works s m [.ref (ad 0), .int p1].toArray below meth c H locs 0 0 (MQ below (k_Qi G w A r σ') [.ref (ad 0), .int p1].toArray s 0 0 A) (F0 m 250 ls [.int y0]) := by
    intro y0 σ H locs ls hl hw hf
    unfold f_X12_works_b250 at hf
    obtain ⟨q2, σ1, hq, hf⟩ := k_blE hf
    refine k_callSl C hw (c_X12_is l G Y w ad LM y0 σ q2 σ1 hq) (va_cwS 1 hts gX12_works_X12_is rfl rfl rfl (by decide +kernel) ⟨Nat.le_of_ble_eq_true rfl, Nat.le_of_ble_eq_true rfl⟩) rfl hl.1 rfl (Nat.le_of_ble_eq_true rfl) dX12_works_250 (fun H locs hw => ?_)
    refine lv_lstore (lv' := [(6, .long q2), (0, .ref (ad 0))]) hx hb dX12_works_253 hl (by decide) rfl (fun ls hl => ?_)
    refine lv_goto (tgt := 407) hx hb dX12_works_255 (by decide) ?_
    exact b407 q2 σ1 _ _ _ (lv_sub hl [1, 0] rfl) hw hf
  have b212 : ∀ (x2 : Int64) (x4 : Int64) (σ : MSt) (H : Heap) (locs : List Loc) (ls : Array Slot), lv_has ls 8 [(0, .ref (ad 0)), (2, .long x2), (4, .long x4)] → k_W G w A s.heap σ H locs → f_X12_works_b212 x2 x4 σ = some (r, σ') → W p l e rmX12_works s m [.ref (ad 0), .int p1].toArray below meth c H locs 0 0 (MQ below (k_Qi G w A r σ') [.ref (ad 0), .int p1].toArray s 0 0 A) (F0 m 212 ls []) := by
    intro x2 x4 σ H locs ls hl hw hf
    unfold f_X12_works_b212 at hf
    refine lv_lload hx hb dX12_works_212 (lv_at hl 2 rfl) ?_
    refine lv_lload_n hx hb dX12_works_214 rfl (lv_at hl 1 rfl) ?_
    refine lv_lmul hx hb dX12_works_215 ?_
    refine lv_topl (fun u1 ex => ?_)
    have hf := k_nmE ex hf
    refine lv_lstore (lv' := [(6, .long u1), (0, .ref (ad 0)), (2, .long x2), (4, .long x4)]) hx hb dX12_works_216 hl (by decide) rfl (fun ls hl => ?_)
    refine lv_goto (tgt := 407) hx hb dX12_works_218 (by decide) ?_
    exact b407 u1 σ _ _ _ (lv_sub hl [1, 0] rfl) hw hf
  have b40 : ∀ (y1 : Int32) (y2 : Int32) (σ : MSt) (H : Heap) (locs : List Loc) (ls : Array Slot), lv_has ls 8 [] → k_W G w A s.heap σ H locs → f_X12_works_b40 y1 y2 σ = some (r, σ') → W p l e rmX12_works s m [.ref (ad 0), .int p1].toArray below meth c H locs 0 0 (MQ below (k_Qi G w A r σ') [.ref (ad 0), .int p1].toArray s 0 0 A) (F0 m 40 ls [.int y2, .int y1, .ref (ad 16)]) := by
    intro y1 y2 σ H locs ls hl hw hf
    unfold f_X12_works_b40 at hf
    obtain ⟨q2, σ1, hq, hf⟩ := k_blE hf
    refine k_callSl C hw (c_X12_is l G Y w ad LM y2 σ q2 σ1 hq) (va_cwS 1 hts gX12_works_X12_is rfl rfl rfl (by decide +kernel) ⟨Nat.le_of_ble_eq_true rfl, Nat.le_of_ble_eq_true rfl⟩) rfl hl.1 rfl (Nat.le_of_ble_eq_true rfl) dX12_works_40 (fun H locs hw => ?_)
    obtain ⟨hi, hf⟩ := k_ckE hf
    refine k_last C hw (LM_16 LM) hi dX12_works_43 (fun σ3 eq H locs hw => ?_)
    have hf := k_nmE eq hf
    refine lv_iconst (v := (1 : Int32)) hx hb dX12_works_44 (by decide) ?_
    exact k_zret C hw rfl hf dX12_works_45
  unfold f_X12_works at hf
  refine lv_aload_n hx hb dX12_works_0 rfl (lv_at hl 0 rfl) ?_
  refine k_get C hw (LM_0 LM) (ci := 12) rfl k_in12 30 (by decide) lk12_60 (v := .ref (ad 16)) rfl dX12_works_1 ?_
  refine lv_aload_n hx hb dX12_works_4 rfl (lv_at hl 0 rfl) ?_
  refine k_get C hw (LM_0 LM) (ci := 12) rfl k_in12 31 (by decide) lk12_314 (v := .int (σ.1 0 31)) rfl dX12_works_5 ?_
  refine lv_iconst (v := (1 : Int32)) hx hb dX12_works_8 (by decide) ?_
  refine lv_isub hx hb dX12_works_9 ?_
  obtain ⟨hi, hf⟩ := k_ckE hf
  refine k_lald C hw (LM_16 LM) hi dX12_works_10 ?_
  refine lv_topl (fun u4 ex => ?_)
  have hf := k_nmE ex hf
  refine lv_lstore_n (lv' := [(2, .long u4), (0, .ref (ad 0)), (1, .int p1)]) hx hb dX12_works_11 rfl hl (by decide) rfl (fun ls hl => ?_)
  refine lv_iload_n hx hb dX12_works_12 rfl (lv_at hl 2 rfl) ?_
  refine lv_sipush (v := (260 : Int32)) hx hb dX12_works_13 (by decide) ?_
  refine lv_icmp_ne (tgt := 46) hx hb dX12_works_16 (by decide) (fun h => ?_) (fun h => ?_)
  · have hf := k_ifF h hf
    refine lv_aload_n hx hb dX12_works_46 rfl (lv_at hl 1 rfl) ?_
    refine k_get C hw (LM_0 LM) (ci := 12) rfl k_in12 30 (by decide) lk12_60 (v := .ref (ad 16)) rfl dX12_works_47 ?_
    refine lv_aload_n hx hb dX12_works_50 rfl (lv_at hl 1 rfl) ?_
    refine k_get C hw (LM_0 LM) (ci := 12) rfl k_in12 31 (by decide) lk12_314 (v := .int (σ.1 0 31)) rfl dX12_works_51 ?_
    refine lv_iconst (v := (2 : Int32)) hx hb dX12_works_54 (by decide) ?_
    refine lv_isub hx hb dX12_works_55 ?_
    obtain ⟨hi, hf⟩ := k_ckE hf
    refine k_lald C hw (LM_16 LM) hi dX12_works_56 ?_
    refine lv_topl (fun u5 ex => ?_)
    have hf := k_nmE ex hf
    refine lv_lstore (lv' := [(4, .long u5), (2, .long u4), (0, .ref (ad 0)), (1, .int p1)]) hx hb dX12_works_57 hl (by decide) rfl (fun ls hl => ?_)
    refine lv_aload_n hx hb dX12_works_59 rfl (lv_at hl 2 rfl) ?_
    refine lv_dup hx hb dX12_works_60 rfl ?_
    refine k_get C hw (LM_0 LM) (ci := 12) rfl k_in12 31 (by decide) lk12_314 (v := .int (σ.1 0 31)) rfl dX12_works_61 ?_
    refine lv_iconst (v := (1 : Int32)) hx hb dX12_works_64 (by decide) ?_
    refine lv_isub hx hb dX12_works_65 ?_
    refine k_put C hw (LM_0 LM) (ci := 12) rfl k_in12 tyX12 tyX12_ok nmX12 31 (by decide) lk12_314 rfl ⟨rfl, rfl⟩ rfl dX12_works_66 (fun σ6 eq H locs hw => ?_)
    have hf := k_nmE eq hf
    refine lv_iload_n hx hb dX12_works_69 rfl (lv_at hl 3 rfl) ?_
    by_cases h42 : p1 = (42 : Int32)
    · have hf := k_ifT h42 hf
      refine lv_lookup (tgt := 186) hx hb dX12_works_70 (by decide) (by rw [h42]) (by decide) ?_
      refine lv_lload hx hb dX12_works_186 (lv_at hl 0 rfl) ?_
      refine lv_lconst (v := (0 : Int64)) hx hb dX12_works_188 (by decide) ?_
      refine W.lcmp hx hb dX12_works_189 ?_
      refine lv_if_eq (tgt := 212) hx hb dX12_works_190 (by decide) (fun h => ?_) (fun h => ?_)
      · have hf := k_ifT h hf
        exact b212 u4 u5 σ6 _ _ _ (lv_sub hl [2, 1, 0] rfl) hw hf
      · have hf := k_ifF h hf
        refine lv_lload_n hx hb dX12_works_193 rfl (lv_at hl 1 rfl) ?_
        refine k_mabsl C hl.1 ml12_321 ms_Lib_MathLoose_abs_long_x mi_Math mc_Lib_MathLoose_abs_long_x (Nat.le_of_ble_eq_true rfl) (Nat.le_of_ble_eq_true rfl) dX12_works_194 ?_
        refine lv_ldc2 (v := (1000000000000 : Int64)) hx hb hown (hks.ts _ ck12_327) dX12_works_197 ?_
        refine lv_lload hx hb dX12_works_200 (lv_at hl 0 rfl) ?_
        refine k_mabsl C hl.1 ml12_321 ms_Lib_MathLoose_abs_long_x mi_Math mc_Lib_MathLoose_abs_long_x (Nat.le_of_ble_eq_true rfl) (Nat.le_of_ble_eq_true rfl) dX12_works_202 ?_
        obtain ⟨hz, hf⟩ := k_ckE hf
        refine lv_ldiv hx hb dX12_works_205 (k_nzlE hz) ?_
        refine W.lcmp hx hb dX12_works_206 ?_
        refine lv_if_le (tgt := 212) hx hb dX12_works_207 (by decide) (fun h => ?_) (fun h => ?_)
        · have hf := k_ifT h hf
          exact b212 u4 u5 σ6 _ _ _ (lv_sub hl [2, 1, 0] rfl) hw hf
        · have hf := k_ifF h hf
          refine lv_iconst (v := (0 : Int32)) hx hb dX12_works_210 (by decide) ?_
          exact k_zret C hw rfl hf dX12_works_211
    have hf := k_ifF h42 hf
    by_cases h43 : p1 = (43 : Int32)
    · have hf := k_ifT h43 hf
      refine lv_lookup (tgt := 168) hx hb dX12_works_70 (by decide) (by rw [h43]) (by decide) ?_
      refine lv_lload hx hb dX12_works_168 (lv_at hl 0 rfl) ?_
      refine lv_lload_n hx hb dX12_works_170 rfl (lv_at hl 1 rfl) ?_
      refine lv_ladd hx hb dX12_works_171 ?_
      refine lv_topl (fun u7 ex => ?_)
      have hf := k_nmE ex hf
      refine lv_lstore (lv' := [(6, .long u7), (4, .long u5), (2, .long u4), (0, .ref (ad 0)), (1, .int p1)]) hx hb dX12_works_172 hl (by decide) rfl (fun ls hl => ?_)
      refine lv_goto (tgt := 407) hx hb dX12_works_174 (by decide) ?_
      exact b407 u7 σ6 _ _ _ (lv_sub hl [3, 0] rfl) hw hf
    have hf := k_ifF h43 hf
    by_cases h45 : p1 = (45 : Int32)
    · have hf := k_ifT h45 hf
      refine lv_lookup (tgt := 177) hx hb dX12_works_70 (by decide) (by rw [h45]) (by decide) ?_
      refine lv_lload hx hb dX12_works_177 (lv_at hl 0 rfl) ?_
      refine lv_lload_n hx hb dX12_works_179 rfl (lv_at hl 1 rfl) ?_
      refine lv_lsub hx hb dX12_works_180 ?_
      refine lv_topl (fun u8 ex => ?_)
      have hf := k_nmE ex hf
      refine lv_lstore (lv' := [(6, .long u8), (4, .long u5), (2, .long u4), (0, .ref (ad 0)), (1, .int p1)]) hx hb dX12_works_181 hl (by decide) rfl (fun ls hl => ?_)
      refine lv_goto (tgt := 407) hx hb dX12_works_183 (by decide) ?_
      exact b407 u8 σ6 _ _ _ (lv_sub hl [3, 0] rfl) hw hf
    have hf := k_ifF h45 hf
    by_cases h47 : p1 = (47 : Int32)
    · have hf := k_ifT h47 hf
      refine lv_lookup (tgt := 221) hx hb dX12_works_70 (by decide) (by rw [h47]) (by decide) ?_
      refine lv_lload_n hx hb dX12_works_221 rfl (lv_at hl 1 rfl) ?_
      refine lv_lconst (v := (0 : Int64)) hx hb dX12_works_222 (by decide) ?_
      refine W.lcmp hx hb dX12_works_223 ?_
      refine lv_if_ne (tgt := 229) hx hb dX12_works_224 (by decide) (fun h => ?_) (fun h => ?_)
      · have hf := k_ifF h hf
        refine lv_lload hx hb dX12_works_229 (lv_at hl 0 rfl) ?_
        refine lv_lload_n hx hb dX12_works_231 rfl (lv_at hl 1 rfl) ?_
        obtain ⟨hz, hf⟩ := k_ckE hf
        refine lv_ldiv hx hb dX12_works_232 (k_nzlE hz) ?_
        refine lv_topl (fun u9 ex => ?_)
        have hf := k_nmE ex hf
        refine lv_lstore (lv' := [(6, .long u9), (4, .long u5), (2, .long u4), (0, .ref (ad 0)), (1, .int p1)]) hx hb dX12_works_233 hl (by decide) rfl (fun ls hl => ?_)
        refine lv_goto (tgt := 407) hx hb dX12_works_235 (by decide) ?_
        exact b407 u9 σ6 _ _ _ (lv_sub hl [3, 0] rfl) hw hf
      · have hf := k_ifT h hf
        refine lv_iconst (v := (0 : Int32)) hx hb dX12_works_227 (by decide) ?_
        exact k_zret C hw rfl hf dX12_works_228
    have hf := k_ifF h47 hf
    by_cases h60 : p1 = (60 : Int32)
    · have hf := k_ifT h60 hf
      refine lv_lookup (tgt := 238) hx hb dX12_works_70 (by decide) (by rw [h60]) (by decide) ?_
      refine lv_lload hx hb dX12_works_238 (lv_at hl 0 rfl) ?_
      refine lv_lload_n hx hb dX12_works_240 rfl (lv_at hl 1 rfl) ?_
      refine W.lcmp hx hb dX12_works_241 ?_
      refine lv_if_ge (tgt := 249) hx hb dX12_works_242 (by decide) (fun h => ?_) (fun h => ?_)
      · have hf := k_ifT h hf
        refine lv_iconst (v := (0 : Int32)) hx hb dX12_works_249 (by decide) ?_
        exact b250 (0 : Int32) σ6 _ _ _ (lv_sub hl [2] rfl) hw hf
      · have hf := k_ifF h hf
        refine lv_iconst (v := (1 : Int32)) hx hb dX12_works_245 (by decide) ?_
        refine lv_goto (tgt := 250) hx hb dX12_works_246 (by decide) ?_
        exact b250 (1 : Int32) σ6 _ _ _ (lv_sub hl [2] rfl) hw hf
    have hf := k_ifF h60 hf
    by_cases h61 : p1 = (61 : Int32)
    · have hf := k_ifT h61 hf
      refine lv_lookup (tgt := 278) hx hb dX12_works_70 (by decide) (by rw [h61]) (by decide) ?_
      refine lv_lload hx hb dX12_works_278 (lv_at hl 0 rfl) ?_
      refine lv_lload_n hx hb dX12_works_280 rfl (lv_at hl 1 rfl) ?_
      refine W.lcmp hx hb dX12_works_281 ?_
      refine lv_if_ne (tgt := 289) hx hb dX12_works_282 (by decide) (fun h => ?_) (fun h => ?_)
      · have hf := k_ifF h hf
        refine lv_iconst (v := (0 : Int32)) hx hb dX12_works_289 (by decide) ?_
        exact b290 (0 : Int32) σ6 _ _ _ (lv_sub hl [2] rfl) hw hf
      · have hf := k_ifT h hf
        refine lv_iconst (v := (1 : Int32)) hx hb dX12_works_285 (by decide) ?_
        refine lv_goto (tgt := 290) hx hb dX12_works_286 (by decide) ?_
        exact b290 (1 : Int32) σ6 _ _ _ (lv_sub hl [2] rfl) hw hf
    have hf := k_ifF h61 hf
    by_cases h62 : p1 = (62 : Int32)
    · have hf := k_ifT h62 hf
      refine lv_lookup (tgt := 258) hx hb dX12_works_70 (by decide) (by rw [h62]) (by decide) ?_
      refine lv_lload hx hb dX12_works_258 (lv_at hl 0 rfl) ?_
      refine lv_lload_n hx hb dX12_works_260 rfl (lv_at hl 1 rfl) ?_
      refine W.lcmp hx hb dX12_works_261 ?_
      refine lv_if_le (tgt := 269) hx hb dX12_works_262 (by decide) (fun h => ?_) (fun h => ?_)
      · have hf := k_ifT h hf
        refine lv_iconst (v := (0 : Int32)) hx hb dX12_works_269 (by decide) ?_
        exact b270 (0 : Int32) σ6 _ _ _ (lv_sub hl [2] rfl) hw hf
      · have hf := k_ifF h hf
        refine lv_iconst (v := (1 : Int32)) hx hb dX12_works_265 (by decide) ?_
        refine lv_goto (tgt := 270) hx hb dX12_works_266 (by decide) ?_
        exact b270 (1 : Int32) σ6 _ _ _ (lv_sub hl [2] rfl) hw hf
    have hf := k_ifF h62 hf
    by_cases h256 : p1 = (256 : Int32)
    · have hf := k_ifT h256 hf
      refine lv_lookup (tgt := 298) hx hb dX12_works_70 (by decide) (by rw [h256]) (by decide) ?_
      refine lv_lload hx hb dX12_works_298 (lv_at hl 0 rfl) ?_
      refine lv_lload_n hx hb dX12_works_300 rfl (lv_at hl 1 rfl) ?_
      refine W.lcmp hx hb dX12_works_301 ?_
      refine lv_if_gt (tgt := 309) hx hb dX12_works_302 (by decide) (fun h => ?_) (fun h => ?_)
      · have hf := k_ifT h hf
        refine lv_iconst (v := (0 : Int32)) hx hb dX12_works_309 (by decide) ?_
        exact b310 (0 : Int32) σ6 _ _ _ (lv_sub hl [2] rfl) hw hf
      · have hf := k_ifF h hf
        refine lv_iconst (v := (1 : Int32)) hx hb dX12_works_305 (by decide) ?_
        refine lv_goto (tgt := 310) hx hb dX12_works_306 (by decide) ?_
        exact b310 (1 : Int32) σ6 _ _ _ (lv_sub hl [2] rfl) hw hf
    have hf := k_ifF h256 hf
    by_cases h257 : p1 = (257 : Int32)
    · have hf := k_ifT h257 hf
      refine lv_lookup (tgt := 338) hx hb dX12_works_70 (by decide) (by rw [h257]) (by decide) ?_
      refine lv_lload hx hb dX12_works_338 (lv_at hl 0 rfl) ?_
      refine lv_lload_n hx hb dX12_works_340 rfl (lv_at hl 1 rfl) ?_
      refine W.lcmp hx hb dX12_works_341 ?_
      refine lv_if_eq (tgt := 349) hx hb dX12_works_342 (by decide) (fun h => ?_) (fun h => ?_)
      · have hf := k_ifT h hf
        refine lv_iconst (v := (0 : Int32)) hx hb dX12_works_349 (by decide) ?_
        exact b350 (0 : Int32) σ6 _ _ _ (lv_sub hl [2] rfl) hw hf
      · have hf := k_ifF h hf
        refine lv_iconst (v := (1 : Int32)) hx hb dX12_works_345 (by decide) ?_
        refine lv_goto (tgt := 350) hx hb dX12_works_346 (by decide) ?_
        exact b350 (1 : Int32) σ6 _ _ _ (lv_sub hl [2] rfl) hw hf
    have hf := k_ifF h257 hf
    by_cases h258 : p1 = (258 : Int32)
    · have hf := k_ifT h258 hf
      refine lv_lookup (tgt := 318) hx hb dX12_works_70 (by decide) (by rw [h258]) (by decide) ?_
      refine lv_lload hx hb dX12_works_318 (lv_at hl 0 rfl) ?_
      refine lv_lload_n hx hb dX12_works_320 rfl (lv_at hl 1 rfl) ?_
      refine W.lcmp hx hb dX12_works_321 ?_
      refine lv_if_lt (tgt := 329) hx hb dX12_works_322 (by decide) (fun h => ?_) (fun h => ?_)
      · have hf := k_ifT h hf
        refine lv_iconst (v := (0 : Int32)) hx hb dX12_works_329 (by decide) ?_
        exact b330 (0 : Int32) σ6 _ _ _ (lv_sub hl [2] rfl) hw hf
      · have hf := k_ifF h hf
        refine lv_iconst (v := (1 : Int32)) hx hb dX12_works_325 (by decide) ?_
        refine lv_goto (tgt := 330) hx hb dX12_works_326 (by decide) ?_
        exact b330 (1 : Int32) σ6 _ _ _ (lv_sub hl [2] rfl) hw hf
    have hf := k_ifF h258 hf
    by_cases h261 : p1 = (261 : Int32)
    · have hf := k_ifT h261 hf
      refine lv_lookup (tgt := 358) hx hb dX12_works_70 (by decide) (by rw [h261]) (by decide) ?_
      refine lv_lload hx hb dX12_works_358 (lv_at hl 0 rfl) ?_
      refine lv_lconst (v := (0 : Int64)) hx hb dX12_works_360 (by decide) ?_
      refine W.lcmp hx hb dX12_works_361 ?_
      refine lv_if_eq (tgt := 375) hx hb dX12_works_362 (by decide) (fun h => ?_) (fun h => ?_)
      · have hf := k_ifT h hf
        exact b375 σ6 _ _ _ (lv_sub hl [2] rfl) hw hf
      · have hf := k_ifF h hf
        refine lv_lload_n hx hb dX12_works_365 rfl (lv_at hl 1 rfl) ?_
        refine lv_lconst (v := (0 : Int64)) hx hb dX12_works_366 (by decide) ?_
        refine W.lcmp hx hb dX12_works_367 ?_
        refine lv_if_eq (tgt := 375) hx hb dX12_works_368 (by decide) (fun h => ?_) (fun h => ?_)
        · have hf := k_ifT h hf
          exact b375 σ6 _ _ _ (lv_sub hl [2] rfl) hw hf
        · have hf := k_ifF h hf
          refine lv_iconst (v := (1 : Int32)) hx hb dX12_works_371 (by decide) ?_
          refine lv_goto (tgt := 376) hx hb dX12_works_372 (by decide) ?_
          exact b376 (1 : Int32) σ6 _ _ _ (lv_sub hl [2] rfl) hw hf
    have hf := k_ifF h261 hf
    refine lv_lookup (tgt := 384) (off := 314) hx hb dX12_works_70 (by decide) ?_ (by decide) ?_
    · have n42 : ¬ (42 : Int) = (p1).toInt := fun q => k_look0 (k := 42) h42 q.symm
      have n43 : ¬ (43 : Int) = (p1).toInt := fun q => k_look0 (k := 43) h43 q.symm
      have n45 : ¬ (45 : Int) = (p1).toInt := fun q => k_look0 (k := 45) h45 q.symm
      have n47 : ¬ (47 : Int) = (p1).toInt := fun q => k_look0 (k := 47) h47 q.symm
      have n60 : ¬ (60 : Int) = (p1).toInt := fun q => k_look0 (k := 60) h60 q.symm
      have n61 : ¬ (61 : Int) = (p1).toInt := fun q => k_look0 (k := 61) h61 q.symm
      have n62 : ¬ (62 : Int) = (p1).toInt := fun q => k_look0 (k := 62) h62 q.symm
      have n256 : ¬ (256 : Int) = (p1).toInt := fun q => k_look0 (k := 256) h256 q.symm
      have n257 : ¬ (257 : Int) = (p1).toInt := fun q => k_look0 (k := 257) h257 q.symm
      have n258 : ¬ (258 : Int) = (p1).toInt := fun q => k_look0 (k := 258) h258 q.symm
      have n261 : ¬ (261 : Int) = (p1).toInt := fun q => k_look0 (k := 261) h261 q.symm
      simp [Op.lookupswitch.offset, n42, n43, n45, n47, n60, n61, n62, n256, n257, n258, n261]
    refine lv_lload hx hb dX12_works_384 (lv_at hl 0 rfl) ?_
    refine lv_lconst (v := (0 : Int64)) hx hb dX12_works_386 (by decide) ?_
    refine W.lcmp hx hb dX12_works_387 ?_
    refine lv_if_ne (tgt := 397) hx hb dX12_works_388 (by decide) (fun h => ?_) (fun h => ?_)
    · have hf := k_ifF h hf
      exact b397 σ6 _ _ _ (lv_sub hl [2] rfl) hw hf
    · have hf := k_ifT h hf
      refine lv_lload_n hx hb dX12_works_391 rfl (lv_at hl 1 rfl) ?_
      refine lv_lconst (v := (0 : Int64)) hx hb dX12_works_392 (by decide) ?_
      refine W.lcmp hx hb dX12_works_393 ?_
      refine lv_if_eq (tgt := 401) hx hb dX12_works_394 (by decide) (fun h => ?_) (fun h => ?_)
      · have hf := k_ifT h hf
        refine lv_iconst (v := (0 : Int32)) hx hb dX12_works_401 (by decide) ?_
        exact b402 (0 : Int32) σ6 _ _ _ (lv_sub hl [2] rfl) hw hf
      · have hf := k_ifF h hf
        exact b397 σ6 _ _ _ (lv_sub hl [2] rfl) hw hf
  · have hf := k_ifT h hf
    refine lv_aload_n hx hb dX12_works_19 rfl (lv_at hl 1 rfl) ?_
    refine k_get C hw (LM_0 LM) (ci := 12) rfl k_in12 30 (by decide) lk12_60 (v := .ref (ad 16)) rfl dX12_works_20 ?_
    refine lv_aload_n hx hb dX12_works_23 rfl (lv_at hl 1 rfl) ?_
    refine k_get C hw (LM_0 LM) (ci := 12) rfl k_in12 31 (by decide) lk12_314 (v := .int (σ.1 0 31)) rfl dX12_works_24 ?_
    refine lv_iconst (v := (1 : Int32)) hx hb dX12_works_27 (by decide) ?_
    refine lv_isub hx hb dX12_works_28 ?_
    refine lv_lload_n hx hb dX12_works_29 rfl (lv_at hl 0 rfl) ?_
    refine lv_lconst (v := (0 : Int64)) hx hb dX12_works_30 (by decide) ?_
    refine W.lcmp hx hb dX12_works_31 ?_
    refine lv_if_ne (tgt := 39) hx hb dX12_works_32 (by decide) (fun h => ?_) (fun h => ?_)
    · have hf := k_ifF h hf
      refine lv_iconst (v := (0 : Int32)) hx hb dX12_works_39 (by decide) ?_
      exact b40 ((σ.1 0 31) - (1 : Int32)) (0 : Int32) σ _ _ _ (lv_sub hl [] rfl) hw hf
    · have hf := k_ifT h hf
      refine lv_iconst (v := (1 : Int32)) hx hb dX12_works_35 (by decide) ?_
      refine lv_goto (tgt := 40) hx hb dX12_works_36 (by decide) ?_
      exact b40 ((σ.1 0 31) - (1 : Int32)) (1 : Int32) σ _ _ _ (lv_sub hl [] rfl) hw hf
def f_X12_goes_b96  (r12 : Int32 → Int32 → MSt → Option (Int32 × MSt)) (x1 : Int32) (x2 : Int32) (σ : MSt) : Option (Int32 × MSt) :=
  k_nm (x2 + (1 : Int32)) fun u1 =>
  r12 x1 u1 σ
def f_X12_goes_b85  (r12 : Int32 → Int32 → MSt → Option (Int32 × MSt)) (x1 : Int32) (x2 : Int32) (y1 : Int32) (y2 : Int64) (σ : MSt) : Option (Int32 × MSt) :=
  k_ck (k_inb y1 64) <|
  k_nm (mJ σ 16 (y1).toNatClampNeg y2) fun σ1 =>
  k_nm (mI σ1 0 31 ((σ1.1 0 31) + (1 : Int32))) fun σ2 =>
  f_X12_goes_b96 r12 x1 x2 σ2
def f_X12_goes_b12_s  (r12 : Int32 → Int32 → MSt → Option (Int32 × MSt)) (x1 : Int32) (x2 : Int32) (σ : MSt) : Option (Int32 × MSt) :=
  k_ck (k_inb x1 6) <|
  if (σ.1 12 (x1).toNatClampNeg) ≤ x2 then
  (some ((1 : Int32), σ))
  else
  (k_ck (k_inb x2 128) <|
  if (σ.1 13 (x2).toNatClampNeg) = (2 : Int32) then
  (k_ck (k_inb x2 128) <|
  k_bd (f_X12_works (σ.1 14 (x2).toNatClampNeg) σ) fun q2 σ1 =>
  if q2 = 0 then
  (some ((0 : Int32), σ1))
  else
  (f_X12_goes_b96 r12 x1 x2 σ1))
  else
  (k_ck (k_inb x2 128) <|
  if (σ.1 13 (x2).toNatClampNeg) = 0 then
  (k_ck (k_inb x2 128) <|
  f_X12_goes_b85 r12 x1 x2 (σ.1 0 31) (((σ.1 14 (x2).toNatClampNeg)).toInt64) σ)
  else
  (k_ck (k_inb x2 128) <|
  k_ck (k_inb (σ.1 14 (x2).toNatClampNeg) 7) <|
  f_X12_goes_b85 r12 x1 x2 (σ.1 0 31) (σ.2 15 ((σ.1 14 (x2).toNatClampNeg)).toNatClampNeg) σ)))
def f_X12_goes_b12  : Nat → Int32 → Int32 → MSt → Option (Int32 × MSt)
  | 0 => fun _ _ _ => none
  | n + 1 => f_X12_goes_b12_s (f_X12_goes_b12 n)
def f_X12_goes  (p1 : Int32) (σ : MSt) : Option (Int32 × MSt) :=
  k_nm (mI σ 0 31 (0 : Int32)) fun σ3 =>
  k_ck (k_inb p1 6) <|
  k_nm (σ3.1 11 (p1).toNatClampNeg) fun u4 =>
  f_X12_goes_b12 FU p1 u4 σ3
def rmX12_goes : Room := { frames := 2, cells := 0, slots := 0, locals := 50 }
set_option maxHeartbeats 4000000 in
set_option maxRecDepth 100000 in
theorem c_X12_goes (l : Launch) (G : va_G) (Y : CY) (w : MSt → va_W) (ad : Nat → Nat)  (LM : LayM ad w Y) (p1 : Int32) (σ : MSt) (r : Int32) (σ' : MSt) (hf : f_X12_goes p1 σ = some (r, σ')) : k_Mi l yX12_goes wsX12_goes rmX12_goes G Y w [.ref (ad 0), .int p1] σ r σ' := by
  refine k_ofi (own := RX12) (cc := cX12_goes) (maxL := 3) (some .boolean) (by decide) rfl rfl (Nat.le_of_ble_eq_true rfl) ?_
  intro p e s m below meth c A C ls hl hw
  have hx := C.1
  have hb := C.2.1
  have hown := C.2.2.2.2.1
  have hts := C.2.2.2.2.2.1
  have hks := C.2.2.2.2.2.2.1
  have hl : lv_has ls 3 [(0, .ref (ad 0)), (1, .int p1)] := hl
  have b12 : ∀ (n12 : Nat) (x1 : Int32) (x2 : Int32) (σ : MSt) (H : Heap) (locs : List Loc) (ls : Array Slot), lv_has ls 3 [(0, .ref (ad 0)), (1, .int x1), (2, .int x2)] → k_W G w A s.heap σ H locs → f_X12_goes_b12 n12 x1 x2 σ = some (r, σ') → W p l e rmX12_goes s m [.ref (ad 0), .int p1].toArray below meth c H locs 0 0 (MQ below (k_Qi G w A r σ') [.ref (ad 0), .int p1].toArray s 0 0 A) (F0 m 12 ls []) := by
    intro n12
    induction n12 with
    | zero =>
      intro x1 x2 σ H locs ls hl hw hf
      have hf : (none : Option (Int32 × MSt)) = some (r, σ') := hf
      cases hf
    | succ n12 ih12 =>
      have b96 : ∀ (x1 : Int32) (x2 : Int32) (σ : MSt) (H : Heap) (locs : List Loc) (ls : Array Slot), lv_has ls 3 [(0, .ref (ad 0)), (1, .int x1), (2, .int x2)] → k_W G w A s.heap σ H locs → f_X12_goes_b96 (f_X12_goes_b12 n12) x1 x2 σ = some (r, σ') → W p l e rmX12_goes s m [.ref (ad 0), .int p1].toArray below meth c H locs 0 0 (MQ below (k_Qi G w A r σ') [.ref (ad 0), .int p1].toArray s 0 0 A) (F0 m 96 ls []) := by
        intro x1 x2 σ H locs ls hl hw hf
        unfold f_X12_goes_b96 at hf
        obtain ⟨u1, ex⟩ : ∃ y : Int32, y = (x2 + (1 : Int32)) := ⟨_, rfl⟩
        have hf := k_nmE ex hf
        refine lv_iinc (v := u1) (lv' := [(2, .int u1), (0, .ref (ad 0)), (1, .int x1)]) hx hb dX12_goes_96 hl (k := 2) rfl (by rw [ex]; rfl) (by decide) rfl (fun ls hl => ?_)
        refine lv_goto (tgt := 12) hx hb dX12_goes_99 (by decide) ?_
        exact ih12 x1 u1 σ _ _ _ (lv_sub hl [1, 2, 0] rfl) hw hf
      have b85 : ∀ (x1 : Int32) (x2 : Int32) (y1 : Int32) (y2 : Int64) (σ : MSt) (H : Heap) (locs : List Loc) (ls : Array Slot), lv_has ls 3 [(0, .ref (ad 0)), (1, .int x1), (2, .int x2)] → k_W G w A s.heap σ H locs → f_X12_goes_b85 (f_X12_goes_b12 n12) x1 x2 y1 y2 σ = some (r, σ') → W p l e rmX12_goes s m [.ref (ad 0), .int p1].toArray below meth c H locs 0 0 (MQ below (k_Qi G w A r σ') [.ref (ad 0), .int p1].toArray s 0 0 A) (F0 m 85 ls [.long y2, .int y1, .ref (ad 16)]) := by
        intro x1 x2 y1 y2 σ H locs ls hl hw hf
        unfold f_X12_goes_b85 at hf
        obtain ⟨hi, hf⟩ := k_ckE hf
        refine k_last C hw (LM_16 LM) hi dX12_goes_85 (fun σ1 eq H locs hw => ?_)
        have hf := k_nmE eq hf
        refine lv_aload_n hx hb dX12_goes_86 rfl (lv_at hl 0 rfl) ?_
        refine lv_dup hx hb dX12_goes_87 rfl ?_
        refine k_get C hw (LM_0 LM) (ci := 12) rfl k_in12 31 (by decide) lk12_314 (v := .int (σ1.1 0 31)) rfl dX12_goes_88 ?_
        refine lv_iconst (v := (1 : Int32)) hx hb dX12_goes_91 (by decide) ?_
        refine lv_iadd hx hb dX12_goes_92 ?_
        refine k_put C hw (LM_0 LM) (ci := 12) rfl k_in12 tyX12 tyX12_ok nmX12 31 (by decide) lk12_314 rfl ⟨rfl, rfl⟩ rfl dX12_goes_93 (fun σ2 eq H locs hw => ?_)
        have hf := k_nmE eq hf
        exact b96 x1 x2 σ2 _ _ _ (lv_sub hl [0, 1, 2] rfl) hw hf
      intro x1 x2 σ H locs ls hl hw hf
      have hf : f_X12_goes_b12_s (f_X12_goes_b12 n12) x1 x2 σ = some (r, σ') := hf
      unfold f_X12_goes_b12_s at hf
      refine lv_iload_n hx hb dX12_goes_12 rfl (lv_at hl 2 rfl) ?_
      refine lv_aload_n hx hb dX12_goes_13 rfl (lv_at hl 0 rfl) ?_
      refine k_get C hw (LM_0 LM) (ci := 12) rfl k_in12 13 (by decide) lk12_43 (v := .ref (ad 12)) rfl dX12_goes_14 ?_
      refine lv_iload_n hx hb dX12_goes_17 rfl (lv_at hl 1 rfl) ?_
      obtain ⟨hi, hf⟩ := k_ckE hf
      refine k_iald C hw (LM_12 LM) hi dX12_goes_18 ?_
      refine lv_icmp_ge (tgt := 102) hx hb dX12_goes_19 (by decide) (fun h => ?_) (fun h => ?_)
      · have hf := k_ifT h hf
        refine lv_iconst (v := (1 : Int32)) hx hb dX12_goes_102 (by decide) ?_
        exact k_zret C hw rfl hf dX12_goes_103
      · have hf := k_ifF h hf
        refine lv_aload_n hx hb dX12_goes_22 rfl (lv_at hl 0 rfl) ?_
        refine k_get C hw (LM_0 LM) (ci := 12) rfl k_in12 14 (by decide) lk12_46 (v := .ref (ad 13)) rfl dX12_goes_23 ?_
        refine lv_iload_n hx hb dX12_goes_26 rfl (lv_at hl 2 rfl) ?_
        obtain ⟨hi, hf⟩ := k_ckE hf
        refine k_iald C hw (LM_13 LM) hi dX12_goes_27 ?_
        refine lv_iconst (v := (2 : Int32)) hx hb dX12_goes_28 (by decide) ?_
        refine lv_icmp_ne (tgt := 47) hx hb dX12_goes_29 (by decide) (fun h => ?_) (fun h => ?_)
        · have hf := k_ifF h hf
          refine lv_aload_n hx hb dX12_goes_47 rfl (lv_at hl 0 rfl) ?_
          refine k_get C hw (LM_0 LM) (ci := 12) rfl k_in12 30 (by decide) lk12_60 (v := .ref (ad 16)) rfl dX12_goes_48 ?_
          refine lv_aload_n hx hb dX12_goes_51 rfl (lv_at hl 0 rfl) ?_
          refine k_get C hw (LM_0 LM) (ci := 12) rfl k_in12 31 (by decide) lk12_314 (v := .int (σ.1 0 31)) rfl dX12_goes_52 ?_
          refine lv_aload_n hx hb dX12_goes_55 rfl (lv_at hl 0 rfl) ?_
          refine k_get C hw (LM_0 LM) (ci := 12) rfl k_in12 14 (by decide) lk12_46 (v := .ref (ad 13)) rfl dX12_goes_56 ?_
          refine lv_iload_n hx hb dX12_goes_59 rfl (lv_at hl 2 rfl) ?_
          obtain ⟨hi, hf⟩ := k_ckE hf
          refine k_iald C hw (LM_13 LM) hi dX12_goes_60 ?_
          refine lv_if_ne (tgt := 74) hx hb dX12_goes_61 (by decide) (fun h => ?_) (fun h => ?_)
          · have hf := k_ifF h hf
            refine lv_aload_n hx hb dX12_goes_74 rfl (lv_at hl 0 rfl) ?_
            refine k_get C hw (LM_0 LM) (ci := 12) rfl k_in12 29 (by decide) lk12_56 (v := .ref (ad 15)) rfl dX12_goes_75 ?_
            refine lv_aload_n hx hb dX12_goes_78 rfl (lv_at hl 0 rfl) ?_
            refine k_get C hw (LM_0 LM) (ci := 12) rfl k_in12 15 (by decide) lk12_49 (v := .ref (ad 14)) rfl dX12_goes_79 ?_
            refine lv_iload_n hx hb dX12_goes_82 rfl (lv_at hl 2 rfl) ?_
            obtain ⟨hi, hf⟩ := k_ckE hf
            refine k_iald C hw (LM_14 LM) hi dX12_goes_83 ?_
            obtain ⟨hi, hf⟩ := k_ckE hf
            refine k_lald C hw (LM_15 LM) hi dX12_goes_84 ?_
            exact b85 x1 x2 (σ.1 0 31) (σ.2 15 ((σ.1 14 (x2).toNatClampNeg)).toNatClampNeg) σ _ _ _ (lv_sub hl [0, 1, 2] rfl) hw hf
          · have hf := k_ifT h hf
            refine lv_aload_n hx hb dX12_goes_64 rfl (lv_at hl 0 rfl) ?_
            refine k_get C hw (LM_0 LM) (ci := 12) rfl k_in12 15 (by decide) lk12_49 (v := .ref (ad 14)) rfl dX12_goes_65 ?_
            refine lv_iload_n hx hb dX12_goes_68 rfl (lv_at hl 2 rfl) ?_
            obtain ⟨hi, hf⟩ := k_ckE hf
            refine k_iald C hw (LM_14 LM) hi dX12_goes_69 ?_
            refine lv_i2l (v := (((σ.1 14 (x2).toNatClampNeg)).toInt64)) hx hb dX12_goes_70 rfl ?_
            refine lv_goto (tgt := 85) hx hb dX12_goes_71 (by decide) ?_
            exact b85 x1 x2 (σ.1 0 31) (((σ.1 14 (x2).toNatClampNeg)).toInt64) σ _ _ _ (lv_sub hl [0, 1, 2] rfl) hw hf
        · have hf := k_ifT h hf
          refine lv_aload_n hx hb dX12_goes_32 rfl (lv_at hl 0 rfl) ?_
          refine lv_aload_n hx hb dX12_goes_33 rfl (lv_at hl 0 rfl) ?_
          refine k_get C hw (LM_0 LM) (ci := 12) rfl k_in12 15 (by decide) lk12_49 (v := .ref (ad 14)) rfl dX12_goes_34 ?_
          refine lv_iload_n hx hb dX12_goes_37 rfl (lv_at hl 2 rfl) ?_
          obtain ⟨hi, hf⟩ := k_ckE hf
          refine k_iald C hw (LM_14 LM) hi dX12_goes_38 ?_
          obtain ⟨q2, σ1, hq, hf⟩ := k_bdE hf
          refine k_callVi C hw (c_X12_works l G Y w ad LM (σ.1 14 (x2).toNatClampNeg) σ q2 σ1 hq) (cwV 1 hts gX12_goes_X12_works rfl rfl rfl (by decide +kernel) ⟨Nat.le_of_ble_eq_true rfl, Nat.le_of_ble_eq_true rfl⟩) (k_recv C hw (LM_0 LM) rfl) rfl hl.1 rfl (Nat.le_of_ble_eq_true rfl) dX12_goes_39 (fun H locs hw => ?_)
          refine lv_if_ne (tgt := 96) hx hb dX12_goes_42 (by decide) (fun h => ?_) (fun h => ?_)
          · have hf := k_ifF h hf
            exact b96 x1 x2 σ1 _ _ _ (lv_sub hl [0, 1, 2] rfl) hw hf
          · have hf := k_ifT h hf
            refine lv_iconst (v := (0 : Int32)) hx hb dX12_goes_45 (by decide) ?_
            exact k_zret C hw rfl hf dX12_goes_46
  unfold f_X12_goes at hf
  refine lv_aload_n hx hb dX12_goes_0 rfl (lv_at hl 0 rfl) ?_
  refine lv_iconst (v := (0 : Int32)) hx hb dX12_goes_1 (by decide) ?_
  refine k_put C hw (LM_0 LM) (ci := 12) rfl k_in12 tyX12 tyX12_ok nmX12 31 (by decide) lk12_314 rfl ⟨rfl, rfl⟩ rfl dX12_goes_2 (fun σ3 eq H locs hw => ?_)
  have hf := k_nmE eq hf
  refine lv_aload_n hx hb dX12_goes_5 rfl (lv_at hl 0 rfl) ?_
  refine k_get C hw (LM_0 LM) (ci := 12) rfl k_in12 12 (by decide) lk12_40 (v := .ref (ad 11)) rfl dX12_goes_6 ?_
  refine lv_iload_n hx hb dX12_goes_9 rfl (lv_at hl 1 rfl) ?_
  obtain ⟨hi, hf⟩ := k_ckE hf
  refine k_iald C hw (LM_11 LM) hi dX12_goes_10 ?_
  refine lv_topi (fun u4 ex => ?_)
  have hf := k_nmE ex hf
  refine lv_istore_n (lv' := [(2, .int u4), (0, .ref (ad 0)), (1, .int p1)]) hx hb dX12_goes_11 rfl hl (by decide) rfl (fun ls hl => ?_)
  exact b12 FU p1 u4 σ3 _ _ _ (lv_sub hl [1, 2, 0] rfl) hw hf
def f_X12_hasLaw_b20  (y0 : Int32) (σ : MSt) : Option (Int32 × MSt) :=
  k_ck (k_bo y0) <|
  some (y0, σ)
def f_X12_hasLaw  (p1 : Int32) (σ : MSt) : Option (Int32 × MSt) :=
  k_ck (k_inb p1 6) <|
  k_ck (k_inb p1 6) <|
  if (σ.1 12 (p1).toNatClampNeg) ≤ (σ.1 11 (p1).toNatClampNeg) then
  (f_X12_hasLaw_b20 (0 : Int32) σ)
  else
  (f_X12_hasLaw_b20 (1 : Int32) σ)
def rmX12_hasLaw : Room := { frames := 0, cells := 0, slots := 0, locals := 0 }
set_option maxHeartbeats 4000000 in
set_option maxRecDepth 100000 in
theorem c_X12_hasLaw (l : Launch) (G : va_G) (Y : CY) (w : MSt → va_W) (ad : Nat → Nat)  (LM : LayM ad w Y) (p1 : Int32) (σ : MSt) (r : Int32) (σ' : MSt) (hf : f_X12_hasLaw p1 σ = some (r, σ')) : k_Mi l yX12_hasLaw wsX12_hasLaw rmX12_hasLaw G Y w [.ref (ad 0), .int p1] σ r σ' := by
  refine k_ofi (own := RX12) (cc := cX12_hasLaw) (maxL := 2) (some .boolean) (by decide) rfl rfl (Nat.le_of_ble_eq_true rfl) ?_
  intro p e s m below meth c A C ls hl hw
  have hx := C.1
  have hb := C.2.1
  have hown := C.2.2.2.2.1
  have hts := C.2.2.2.2.2.1
  have hks := C.2.2.2.2.2.2.1
  have hl : lv_has ls 2 [(0, .ref (ad 0)), (1, .int p1)] := hl
  have b20 : ∀ (y0 : Int32) (σ : MSt) (H : Heap) (locs : List Loc) (ls : Array Slot), lv_has ls 2 [] → k_W G w A s.heap σ H locs → f_X12_hasLaw_b20 y0 σ = some (r, σ') → W p l e rmX12_hasLaw s m [.ref (ad 0), .int p1].toArray below meth c H locs 0 0 (MQ below (k_Qi G w A r σ') [.ref (ad 0), .int p1].toArray s 0 0 A) (F0 m 20 ls [.int y0]) := by
    intro y0 σ H locs ls hl hw hf
    unfold f_X12_hasLaw_b20 at hf
    obtain ⟨hz, hf⟩ := k_ckE hf
    exact k_zret C hw (k_boE hz).1 hf dX12_hasLaw_20
  unfold f_X12_hasLaw at hf
  refine lv_aload_n hx hb dX12_hasLaw_0 rfl (lv_at hl 0 rfl) ?_
  refine k_get C hw (LM_0 LM) (ci := 12) rfl k_in12 13 (by decide) lk12_43 (v := .ref (ad 12)) rfl dX12_hasLaw_1 ?_
  refine lv_iload_n hx hb dX12_hasLaw_4 rfl (lv_at hl 1 rfl) ?_
  obtain ⟨hi, hf⟩ := k_ckE hf
  refine k_iald C hw (LM_12 LM) hi dX12_hasLaw_5 ?_
  refine lv_aload_n hx hb dX12_hasLaw_6 rfl (lv_at hl 0 rfl) ?_
  refine k_get C hw (LM_0 LM) (ci := 12) rfl k_in12 12 (by decide) lk12_40 (v := .ref (ad 11)) rfl dX12_hasLaw_7 ?_
  refine lv_iload_n hx hb dX12_hasLaw_10 rfl (lv_at hl 1 rfl) ?_
  obtain ⟨hi, hf⟩ := k_ckE hf
  refine k_iald C hw (LM_11 LM) hi dX12_hasLaw_11 ?_
  refine lv_icmp_le (tgt := 19) hx hb dX12_hasLaw_12 (by decide) (fun h => ?_) (fun h => ?_)
  · have hf := k_ifT h hf
    refine lv_iconst (v := (0 : Int32)) hx hb dX12_hasLaw_19 (by decide) ?_
    exact b20 (0 : Int32) σ _ _ _ (lv_sub hl [] rfl) hw hf
  · have hf := k_ifF h hf
    refine lv_iconst (v := (1 : Int32)) hx hb dX12_hasLaw_15 (by decide) ?_
    refine lv_goto (tgt := 20) hx hb dX12_hasLaw_16 (by decide) ?_
    exact b20 (1 : Int32) σ _ _ _ (lv_sub hl [] rfl) hw hf
def f_X12_takes_b110_s  (r110 : Int32 → Int32 → Int32 → MSt → Option MSt) (x1 : Int32) (x2 : Int32) (x3 : Int32) (σ : MSt) : Option MSt :=
  if (8 : Int32) ≤ x3 then
  (some σ)
  else
  (k_ck (k_inb (((8 : Int32) * x2) + x3) 192) <|
  k_ck (k_inb (((8 : Int32) * x1) + x3) 192) <|
  k_nm (mI σ 26 ((((8 : Int32) * x1) + x3)).toNatClampNeg (σ.1 26 ((((8 : Int32) * x2) + x3)).toNatClampNeg)) fun σ1 =>
  k_ck (k_inb (((8 : Int32) * x2) + x3) 192) <|
  k_ck (k_inb (((8 : Int32) * x1) + x3) 192) <|
  k_nm (mI σ1 27 ((((8 : Int32) * x1) + x3)).toNatClampNeg (σ1.1 27 ((((8 : Int32) * x2) + x3)).toNatClampNeg)) fun σ2 =>
  k_ck (k_inb (((8 : Int32) * x2) + x3) 192) <|
  k_ck (k_inb (((8 : Int32) * x1) + x3) 192) <|
  k_nm (mI σ2 28 ((((8 : Int32) * x1) + x3)).toNatClampNeg (σ2.1 28 ((((8 : Int32) * x2) + x3)).toNatClampNeg)) fun σ3 =>
  k_nm (x3 + (1 : Int32)) fun u4 =>
  r110 x1 x2 u4 σ3)
def f_X12_takes_b110  : Nat → Int32 → Int32 → Int32 → MSt → Option MSt
  | 0 => fun _ _ _ _ => none
  | n + 1 => f_X12_takes_b110_s (f_X12_takes_b110 n)
def f_X12_takes  (p1 : Int32) (p2 : Int32) (σ : MSt) : Option MSt :=
  k_ck (k_inb p2 24) <|
  k_ck (k_inb p1 24) <|
  k_nm (mI σ 17 (p1).toNatClampNeg (σ.1 17 (p2).toNatClampNeg)) fun σ5 =>
  k_ck (k_inb p2 24) <|
  k_ck (k_inb p1 24) <|
  k_nm (mI σ5 18 (p1).toNatClampNeg (σ5.1 18 (p2).toNatClampNeg)) fun σ6 =>
  k_ck (k_inb p2 24) <|
  k_ck (k_inb p1 24) <|
  k_nm (mI σ6 19 (p1).toNatClampNeg (σ6.1 19 (p2).toNatClampNeg)) fun σ7 =>
  k_ck (k_inb p2 24) <|
  k_ck (k_inb p1 24) <|
  k_nm (mI σ7 20 (p1).toNatClampNeg (σ7.1 20 (p2).toNatClampNeg)) fun σ8 =>
  k_ck (k_inb p2 24) <|
  k_ck (k_inb p1 24) <|
  k_nm (mI σ8 21 (p1).toNatClampNeg (σ8.1 21 (p2).toNatClampNeg)) fun σ9 =>
  k_ck (k_inb p2 24) <|
  k_ck (k_inb p1 24) <|
  k_nm (mI σ9 22 (p1).toNatClampNeg (σ9.1 22 (p2).toNatClampNeg)) fun σ10 =>
  k_ck (k_inb p2 24) <|
  k_ck (k_inb p1 24) <|
  k_nm (mI σ10 23 (p1).toNatClampNeg (σ10.1 23 (p2).toNatClampNeg)) fun σ11 =>
  k_ck (k_inb p2 24) <|
  k_ck (k_inb p1 24) <|
  k_nm (mI σ11 24 (p1).toNatClampNeg (σ11.1 24 (p2).toNatClampNeg)) fun σ12 =>
  k_ck (k_inb p2 24) <|
  k_ck (k_inb p1 24) <|
  k_nm (mI σ12 25 (p1).toNatClampNeg (σ12.1 25 (p2).toNatClampNeg)) fun σ13 =>
  f_X12_takes_b110 FU p1 p2 (0 : Int32) σ13
def rmX12_takes : Room := { frames := 0, cells := 0, slots := 0, locals := 0 }
set_option maxHeartbeats 4000000 in
set_option maxRecDepth 100000 in
theorem c_X12_takes (l : Launch) (G : va_G) (Y : CY) (w : MSt → va_W) (ad : Nat → Nat)  (LM : LayM ad w Y) (p1 : Int32) (p2 : Int32) (σ : MSt) (σ' : MSt) (hf : f_X12_takes p1 p2 σ = some σ') : k_Mv l yX12_takes wsX12_takes rmX12_takes G Y w [.ref (ad 0), .int p1, .int p2] σ σ' := by
  refine k_ofv (own := RX12) (cc := cX12_takes) (maxL := 4) none (by decide) rfl rfl (Nat.le_of_ble_eq_true rfl) ?_
  intro p e s m below meth c A C ls hl hw
  have hx := C.1
  have hb := C.2.1
  have hown := C.2.2.2.2.1
  have hts := C.2.2.2.2.2.1
  have hks := C.2.2.2.2.2.2.1
  have hl : lv_has ls 4 [(0, .ref (ad 0)), (1, .int p1), (2, .int p2)] := hl
  have b110 : ∀ (n110 : Nat) (x1 : Int32) (x2 : Int32) (x3 : Int32) (σ : MSt) (H : Heap) (locs : List Loc) (ls : Array Slot), lv_has ls 4 [(0, .ref (ad 0)), (1, .int x1), (2, .int x2), (3, .int x3)] → k_W G w A s.heap σ H locs → f_X12_takes_b110 n110 x1 x2 x3 σ = some σ' → W p l e rmX12_takes s m [.ref (ad 0), .int p1, .int p2].toArray below meth c H locs 0 0 (MQ below (k_Qv G w A σ') [.ref (ad 0), .int p1, .int p2].toArray s 0 0 A) (F0 m 110 ls []) := by
    intro n110
    induction n110 with
    | zero =>
      intro x1 x2 x3 σ H locs ls hl hw hf
      have hf : (none : Option MSt) = some σ' := hf
      cases hf
    | succ n110 ih110 =>
      intro x1 x2 x3 σ H locs ls hl hw hf
      have hf : f_X12_takes_b110_s (f_X12_takes_b110 n110) x1 x2 x3 σ = some σ' := hf
      unfold f_X12_takes_b110_s at hf
      refine lv_iload_n hx hb dX12_takes_110 rfl (lv_at hl 3 rfl) ?_
      refine lv_bipush (v := (8 : Int32)) hx hb dX12_takes_111 (by decide) ?_
      refine lv_icmp_ge (tgt := 188) hx hb dX12_takes_113 (by decide) (fun h => ?_) (fun h => ?_)
      · have hf := k_ifT h hf
        exact k_vret C hw hf dX12_takes_188
      · have hf := k_ifF h hf
        refine lv_aload_n hx hb dX12_takes_116 rfl (lv_at hl 0 rfl) ?_
        refine k_get C hw (LM_0 LM) (ci := 12) rfl k_in12 41 (by decide) lk12_90 (v := .ref (ad 26)) rfl dX12_takes_117 ?_
        refine lv_bipush (v := (8 : Int32)) hx hb dX12_takes_120 (by decide) ?_
        refine lv_iload_n hx hb dX12_takes_122 rfl (lv_at hl 1 rfl) ?_
        refine lv_imul hx hb dX12_takes_123 ?_
        refine lv_iload_n hx hb dX12_takes_124 rfl (lv_at hl 3 rfl) ?_
        refine lv_iadd hx hb dX12_takes_125 ?_
        refine lv_aload_n hx hb dX12_takes_126 rfl (lv_at hl 0 rfl) ?_
        refine k_get C hw (LM_0 LM) (ci := 12) rfl k_in12 41 (by decide) lk12_90 (v := .ref (ad 26)) rfl dX12_takes_127 ?_
        refine lv_bipush (v := (8 : Int32)) hx hb dX12_takes_130 (by decide) ?_
        refine lv_iload_n hx hb dX12_takes_132 rfl (lv_at hl 2 rfl) ?_
        refine lv_imul hx hb dX12_takes_133 ?_
        refine lv_iload_n hx hb dX12_takes_134 rfl (lv_at hl 3 rfl) ?_
        refine lv_iadd hx hb dX12_takes_135 ?_
        obtain ⟨hi, hf⟩ := k_ckE hf
        refine k_iald C hw (LM_26 LM) hi dX12_takes_136 ?_
        obtain ⟨hi, hf⟩ := k_ckE hf
        refine k_iast C hw (LM_26 LM) hi dX12_takes_137 (fun σ1 eq H locs hw => ?_)
        have hf := k_nmE eq hf
        refine lv_aload_n hx hb dX12_takes_138 rfl (lv_at hl 0 rfl) ?_
        refine k_get C hw (LM_0 LM) (ci := 12) rfl k_in12 42 (by decide) lk12_93 (v := .ref (ad 27)) rfl dX12_takes_139 ?_
        refine lv_bipush (v := (8 : Int32)) hx hb dX12_takes_142 (by decide) ?_
        refine lv_iload_n hx hb dX12_takes_144 rfl (lv_at hl 1 rfl) ?_
        refine lv_imul hx hb dX12_takes_145 ?_
        refine lv_iload_n hx hb dX12_takes_146 rfl (lv_at hl 3 rfl) ?_
        refine lv_iadd hx hb dX12_takes_147 ?_
        refine lv_aload_n hx hb dX12_takes_148 rfl (lv_at hl 0 rfl) ?_
        refine k_get C hw (LM_0 LM) (ci := 12) rfl k_in12 42 (by decide) lk12_93 (v := .ref (ad 27)) rfl dX12_takes_149 ?_
        refine lv_bipush (v := (8 : Int32)) hx hb dX12_takes_152 (by decide) ?_
        refine lv_iload_n hx hb dX12_takes_154 rfl (lv_at hl 2 rfl) ?_
        refine lv_imul hx hb dX12_takes_155 ?_
        refine lv_iload_n hx hb dX12_takes_156 rfl (lv_at hl 3 rfl) ?_
        refine lv_iadd hx hb dX12_takes_157 ?_
        obtain ⟨hi, hf⟩ := k_ckE hf
        refine k_iald C hw (LM_27 LM) hi dX12_takes_158 ?_
        obtain ⟨hi, hf⟩ := k_ckE hf
        refine k_iast C hw (LM_27 LM) hi dX12_takes_159 (fun σ2 eq H locs hw => ?_)
        have hf := k_nmE eq hf
        refine lv_aload_n hx hb dX12_takes_160 rfl (lv_at hl 0 rfl) ?_
        refine k_get C hw (LM_0 LM) (ci := 12) rfl k_in12 43 (by decide) lk12_96 (v := .ref (ad 28)) rfl dX12_takes_161 ?_
        refine lv_bipush (v := (8 : Int32)) hx hb dX12_takes_164 (by decide) ?_
        refine lv_iload_n hx hb dX12_takes_166 rfl (lv_at hl 1 rfl) ?_
        refine lv_imul hx hb dX12_takes_167 ?_
        refine lv_iload_n hx hb dX12_takes_168 rfl (lv_at hl 3 rfl) ?_
        refine lv_iadd hx hb dX12_takes_169 ?_
        refine lv_aload_n hx hb dX12_takes_170 rfl (lv_at hl 0 rfl) ?_
        refine k_get C hw (LM_0 LM) (ci := 12) rfl k_in12 43 (by decide) lk12_96 (v := .ref (ad 28)) rfl dX12_takes_171 ?_
        refine lv_bipush (v := (8 : Int32)) hx hb dX12_takes_174 (by decide) ?_
        refine lv_iload_n hx hb dX12_takes_176 rfl (lv_at hl 2 rfl) ?_
        refine lv_imul hx hb dX12_takes_177 ?_
        refine lv_iload_n hx hb dX12_takes_178 rfl (lv_at hl 3 rfl) ?_
        refine lv_iadd hx hb dX12_takes_179 ?_
        obtain ⟨hi, hf⟩ := k_ckE hf
        refine k_iald C hw (LM_28 LM) hi dX12_takes_180 ?_
        obtain ⟨hi, hf⟩ := k_ckE hf
        refine k_iast C hw (LM_28 LM) hi dX12_takes_181 (fun σ3 eq H locs hw => ?_)
        have hf := k_nmE eq hf
        obtain ⟨u4, ex⟩ : ∃ y : Int32, y = (x3 + (1 : Int32)) := ⟨_, rfl⟩
        have hf := k_nmE ex hf
        refine lv_iinc (v := u4) (lv' := [(3, .int u4), (0, .ref (ad 0)), (1, .int x1), (2, .int x2)]) hx hb dX12_takes_182 hl (k := 3) rfl (by rw [ex]; rfl) (by decide) rfl (fun ls hl => ?_)
        refine lv_goto (tgt := 110) hx hb dX12_takes_185 (by decide) ?_
        exact ih110 x1 x2 u4 σ3 _ _ _ (lv_sub hl [1, 2, 3, 0] rfl) hw hf
  unfold f_X12_takes at hf
  refine lv_aload_n hx hb dX12_takes_0 rfl (lv_at hl 0 rfl) ?_
  refine k_get C hw (LM_0 LM) (ci := 12) rfl k_in12 32 (by decide) lk12_63 (v := .ref (ad 17)) rfl dX12_takes_1 ?_
  refine lv_iload_n hx hb dX12_takes_4 rfl (lv_at hl 1 rfl) ?_
  refine lv_aload_n hx hb dX12_takes_5 rfl (lv_at hl 0 rfl) ?_
  refine k_get C hw (LM_0 LM) (ci := 12) rfl k_in12 32 (by decide) lk12_63 (v := .ref (ad 17)) rfl dX12_takes_6 ?_
  refine lv_iload_n hx hb dX12_takes_9 rfl (lv_at hl 2 rfl) ?_
  obtain ⟨hi, hf⟩ := k_ckE hf
  refine k_iald C hw (LM_17 LM) hi dX12_takes_10 ?_
  obtain ⟨hi, hf⟩ := k_ckE hf
  refine k_iast C hw (LM_17 LM) hi dX12_takes_11 (fun σ5 eq H locs hw => ?_)
  have hf := k_nmE eq hf
  refine lv_aload_n hx hb dX12_takes_12 rfl (lv_at hl 0 rfl) ?_
  refine k_get C hw (LM_0 LM) (ci := 12) rfl k_in12 33 (by decide) lk12_66 (v := .ref (ad 18)) rfl dX12_takes_13 ?_
  refine lv_iload_n hx hb dX12_takes_16 rfl (lv_at hl 1 rfl) ?_
  refine lv_aload_n hx hb dX12_takes_17 rfl (lv_at hl 0 rfl) ?_
  refine k_get C hw (LM_0 LM) (ci := 12) rfl k_in12 33 (by decide) lk12_66 (v := .ref (ad 18)) rfl dX12_takes_18 ?_
  refine lv_iload_n hx hb dX12_takes_21 rfl (lv_at hl 2 rfl) ?_
  obtain ⟨hi, hf⟩ := k_ckE hf
  refine k_iald C hw (LM_18 LM) hi dX12_takes_22 ?_
  obtain ⟨hi, hf⟩ := k_ckE hf
  refine k_iast C hw (LM_18 LM) hi dX12_takes_23 (fun σ6 eq H locs hw => ?_)
  have hf := k_nmE eq hf
  refine lv_aload_n hx hb dX12_takes_24 rfl (lv_at hl 0 rfl) ?_
  refine k_get C hw (LM_0 LM) (ci := 12) rfl k_in12 34 (by decide) lk12_69 (v := .ref (ad 19)) rfl dX12_takes_25 ?_
  refine lv_iload_n hx hb dX12_takes_28 rfl (lv_at hl 1 rfl) ?_
  refine lv_aload_n hx hb dX12_takes_29 rfl (lv_at hl 0 rfl) ?_
  refine k_get C hw (LM_0 LM) (ci := 12) rfl k_in12 34 (by decide) lk12_69 (v := .ref (ad 19)) rfl dX12_takes_30 ?_
  refine lv_iload_n hx hb dX12_takes_33 rfl (lv_at hl 2 rfl) ?_
  obtain ⟨hi, hf⟩ := k_ckE hf
  refine k_iald C hw (LM_19 LM) hi dX12_takes_34 ?_
  obtain ⟨hi, hf⟩ := k_ckE hf
  refine k_iast C hw (LM_19 LM) hi dX12_takes_35 (fun σ7 eq H locs hw => ?_)
  have hf := k_nmE eq hf
  refine lv_aload_n hx hb dX12_takes_36 rfl (lv_at hl 0 rfl) ?_
  refine k_get C hw (LM_0 LM) (ci := 12) rfl k_in12 35 (by decide) lk12_72 (v := .ref (ad 20)) rfl dX12_takes_37 ?_
  refine lv_iload_n hx hb dX12_takes_40 rfl (lv_at hl 1 rfl) ?_
  refine lv_aload_n hx hb dX12_takes_41 rfl (lv_at hl 0 rfl) ?_
  refine k_get C hw (LM_0 LM) (ci := 12) rfl k_in12 35 (by decide) lk12_72 (v := .ref (ad 20)) rfl dX12_takes_42 ?_
  refine lv_iload_n hx hb dX12_takes_45 rfl (lv_at hl 2 rfl) ?_
  obtain ⟨hi, hf⟩ := k_ckE hf
  refine k_iald C hw (LM_20 LM) hi dX12_takes_46 ?_
  obtain ⟨hi, hf⟩ := k_ckE hf
  refine k_iast C hw (LM_20 LM) hi dX12_takes_47 (fun σ8 eq H locs hw => ?_)
  have hf := k_nmE eq hf
  refine lv_aload_n hx hb dX12_takes_48 rfl (lv_at hl 0 rfl) ?_
  refine k_get C hw (LM_0 LM) (ci := 12) rfl k_in12 36 (by decide) lk12_75 (v := .ref (ad 21)) rfl dX12_takes_49 ?_
  refine lv_iload_n hx hb dX12_takes_52 rfl (lv_at hl 1 rfl) ?_
  refine lv_aload_n hx hb dX12_takes_53 rfl (lv_at hl 0 rfl) ?_
  refine k_get C hw (LM_0 LM) (ci := 12) rfl k_in12 36 (by decide) lk12_75 (v := .ref (ad 21)) rfl dX12_takes_54 ?_
  refine lv_iload_n hx hb dX12_takes_57 rfl (lv_at hl 2 rfl) ?_
  obtain ⟨hi, hf⟩ := k_ckE hf
  refine k_iald C hw (LM_21 LM) hi dX12_takes_58 ?_
  obtain ⟨hi, hf⟩ := k_ckE hf
  refine k_iast C hw (LM_21 LM) hi dX12_takes_59 (fun σ9 eq H locs hw => ?_)
  have hf := k_nmE eq hf
  refine lv_aload_n hx hb dX12_takes_60 rfl (lv_at hl 0 rfl) ?_
  refine k_get C hw (LM_0 LM) (ci := 12) rfl k_in12 37 (by decide) lk12_78 (v := .ref (ad 22)) rfl dX12_takes_61 ?_
  refine lv_iload_n hx hb dX12_takes_64 rfl (lv_at hl 1 rfl) ?_
  refine lv_aload_n hx hb dX12_takes_65 rfl (lv_at hl 0 rfl) ?_
  refine k_get C hw (LM_0 LM) (ci := 12) rfl k_in12 37 (by decide) lk12_78 (v := .ref (ad 22)) rfl dX12_takes_66 ?_
  refine lv_iload_n hx hb dX12_takes_69 rfl (lv_at hl 2 rfl) ?_
  obtain ⟨hi, hf⟩ := k_ckE hf
  refine k_iald C hw (LM_22 LM) hi dX12_takes_70 ?_
  obtain ⟨hi, hf⟩ := k_ckE hf
  refine k_iast C hw (LM_22 LM) hi dX12_takes_71 (fun σ10 eq H locs hw => ?_)
  have hf := k_nmE eq hf
  refine lv_aload_n hx hb dX12_takes_72 rfl (lv_at hl 0 rfl) ?_
  refine k_get C hw (LM_0 LM) (ci := 12) rfl k_in12 38 (by decide) lk12_81 (v := .ref (ad 23)) rfl dX12_takes_73 ?_
  refine lv_iload_n hx hb dX12_takes_76 rfl (lv_at hl 1 rfl) ?_
  refine lv_aload_n hx hb dX12_takes_77 rfl (lv_at hl 0 rfl) ?_
  refine k_get C hw (LM_0 LM) (ci := 12) rfl k_in12 38 (by decide) lk12_81 (v := .ref (ad 23)) rfl dX12_takes_78 ?_
  refine lv_iload_n hx hb dX12_takes_81 rfl (lv_at hl 2 rfl) ?_
  obtain ⟨hi, hf⟩ := k_ckE hf
  refine k_iald C hw (LM_23 LM) hi dX12_takes_82 ?_
  obtain ⟨hi, hf⟩ := k_ckE hf
  refine k_iast C hw (LM_23 LM) hi dX12_takes_83 (fun σ11 eq H locs hw => ?_)
  have hf := k_nmE eq hf
  refine lv_aload_n hx hb dX12_takes_84 rfl (lv_at hl 0 rfl) ?_
  refine k_get C hw (LM_0 LM) (ci := 12) rfl k_in12 39 (by decide) lk12_84 (v := .ref (ad 24)) rfl dX12_takes_85 ?_
  refine lv_iload_n hx hb dX12_takes_88 rfl (lv_at hl 1 rfl) ?_
  refine lv_aload_n hx hb dX12_takes_89 rfl (lv_at hl 0 rfl) ?_
  refine k_get C hw (LM_0 LM) (ci := 12) rfl k_in12 39 (by decide) lk12_84 (v := .ref (ad 24)) rfl dX12_takes_90 ?_
  refine lv_iload_n hx hb dX12_takes_93 rfl (lv_at hl 2 rfl) ?_
  obtain ⟨hi, hf⟩ := k_ckE hf
  refine k_iald C hw (LM_24 LM) hi dX12_takes_94 ?_
  obtain ⟨hi, hf⟩ := k_ckE hf
  refine k_iast C hw (LM_24 LM) hi dX12_takes_95 (fun σ12 eq H locs hw => ?_)
  have hf := k_nmE eq hf
  refine lv_aload_n hx hb dX12_takes_96 rfl (lv_at hl 0 rfl) ?_
  refine k_get C hw (LM_0 LM) (ci := 12) rfl k_in12 40 (by decide) lk12_87 (v := .ref (ad 25)) rfl dX12_takes_97 ?_
  refine lv_iload_n hx hb dX12_takes_100 rfl (lv_at hl 1 rfl) ?_
  refine lv_aload_n hx hb dX12_takes_101 rfl (lv_at hl 0 rfl) ?_
  refine k_get C hw (LM_0 LM) (ci := 12) rfl k_in12 40 (by decide) lk12_87 (v := .ref (ad 25)) rfl dX12_takes_102 ?_
  refine lv_iload_n hx hb dX12_takes_105 rfl (lv_at hl 2 rfl) ?_
  obtain ⟨hi, hf⟩ := k_ckE hf
  refine k_iald C hw (LM_25 LM) hi dX12_takes_106 ?_
  obtain ⟨hi, hf⟩ := k_ckE hf
  refine k_iast C hw (LM_25 LM) hi dX12_takes_107 (fun σ13 eq H locs hw => ?_)
  have hf := k_nmE eq hf
  refine lv_iconst (v := (0 : Int32)) hx hb dX12_takes_108 (by decide) ?_
  refine lv_istore_n (lv' := [(3, .int (0 : Int32)), (0, .ref (ad 0)), (1, .int p1), (2, .int p2)]) hx hb dX12_takes_109 rfl hl (by decide) rfl (fun ls hl => ?_)
  exact b110 FU p1 p2 (0 : Int32) σ13 _ _ _ (lv_sub hl [1, 2, 3, 0] rfl) hw hf
def f_X12_isBay_b19  (y0 : Int32) (σ : MSt) : Option (Int32 × MSt) :=
  k_ck (k_bo y0) <|
  some (y0, σ)
def f_X12_isBay_b18   (σ : MSt) : Option (Int32 × MSt) :=
  f_X12_isBay_b19 (0 : Int32) σ
def f_X12_isBay  (p1 : Int32) (σ : MSt) : Option (Int32 × MSt) :=
  if p1 < 0 then
  (f_X12_isBay_b18 σ)
  else
  (k_ck (k_inb (0 : Int32) 18) <|
  if (σ.1 2 ((0 : Int32)).toNatClampNeg) ≤ p1 then
  (f_X12_isBay_b18 σ)
  else
  (f_X12_isBay_b19 (1 : Int32) σ))
def rmX12_isBay : Room := { frames := 0, cells := 0, slots := 0, locals := 0 }
set_option maxHeartbeats 4000000 in
set_option maxRecDepth 100000 in
theorem c_X12_isBay (l : Launch) (G : va_G) (Y : CY) (w : MSt → va_W) (ad : Nat → Nat)  (LM : LayM ad w Y) (p1 : Int32) (σ : MSt) (r : Int32) (σ' : MSt) (hf : f_X12_isBay p1 σ = some (r, σ')) : k_Mi l yX12_isBay wsX12_isBay rmX12_isBay G Y w [.ref (ad 0), .int p1] σ r σ' := by
  refine k_ofi (own := RX12) (cc := cX12_isBay) (maxL := 2) (some .boolean) (by decide) rfl rfl (Nat.le_of_ble_eq_true rfl) ?_
  intro p e s m below meth c A C ls hl hw
  have hx := C.1
  have hb := C.2.1
  have hown := C.2.2.2.2.1
  have hts := C.2.2.2.2.2.1
  have hks := C.2.2.2.2.2.2.1
  have hl : lv_has ls 2 [(0, .ref (ad 0)), (1, .int p1)] := hl
  have b19 : ∀ (y0 : Int32) (σ : MSt) (H : Heap) (locs : List Loc) (ls : Array Slot), lv_has ls 2 [] → k_W G w A s.heap σ H locs → f_X12_isBay_b19 y0 σ = some (r, σ') → W p l e rmX12_isBay s m [.ref (ad 0), .int p1].toArray below meth c H locs 0 0 (MQ below (k_Qi G w A r σ') [.ref (ad 0), .int p1].toArray s 0 0 A) (F0 m 19 ls [.int y0]) := by
    intro y0 σ H locs ls hl hw hf
    unfold f_X12_isBay_b19 at hf
    obtain ⟨hz, hf⟩ := k_ckE hf
    exact k_zret C hw (k_boE hz).1 hf dX12_isBay_19
  have b18 : ∀ (σ : MSt) (H : Heap) (locs : List Loc) (ls : Array Slot), lv_has ls 2 [] → k_W G w A s.heap σ H locs → f_X12_isBay_b18 σ = some (r, σ') → W p l e rmX12_isBay s m [.ref (ad 0), .int p1].toArray below meth c H locs 0 0 (MQ below (k_Qi G w A r σ') [.ref (ad 0), .int p1].toArray s 0 0 A) (F0 m 18 ls []) := by
    intro σ H locs ls hl hw hf
    unfold f_X12_isBay_b18 at hf
    refine lv_iconst (v := (0 : Int32)) hx hb dX12_isBay_18 (by decide) ?_
    exact b19 (0 : Int32) σ _ _ _ (lv_sub hl [] rfl) hw hf
  unfold f_X12_isBay at hf
  refine lv_iload_n hx hb dX12_isBay_0 rfl (lv_at hl 1 rfl) ?_
  refine lv_if_lt (tgt := 18) hx hb dX12_isBay_1 (by decide) (fun h => ?_) (fun h => ?_)
  · have hf := k_ifT h hf
    exact b18 σ _ _ _ (lv_sub hl [] rfl) hw hf
  · have hf := k_ifF h hf
    refine lv_iload_n hx hb dX12_isBay_4 rfl (lv_at hl 1 rfl) ?_
    refine lv_aload_n hx hb dX12_isBay_5 rfl (lv_at hl 0 rfl) ?_
    refine k_get C hw (LM_0 LM) (ci := 12) rfl k_in12 3 (by decide) lk12_13 (v := .ref (ad 2)) rfl dX12_isBay_6 ?_
    refine lv_iconst (v := (0 : Int32)) hx hb dX12_isBay_9 (by decide) ?_
    obtain ⟨hi, hf⟩ := k_ckE hf
    refine k_iald C hw (LM_2 LM) hi dX12_isBay_10 ?_
    refine lv_icmp_ge (tgt := 18) hx hb dX12_isBay_11 (by decide) (fun h => ?_) (fun h => ?_)
    · have hf := k_ifT h hf
      exact b18 σ _ _ _ (lv_sub hl [] rfl) hw hf
    · have hf := k_ifF h hf
      refine lv_iconst (v := (1 : Int32)) hx hb dX12_isBay_14 (by decide) ?_
      refine lv_goto (tgt := 19) hx hb dX12_isBay_15 (by decide) ?_
      exact b19 (1 : Int32) σ _ _ _ (lv_sub hl [] rfl) hw hf
def f_X12_isDeed_b19  (y0 : Int32) (σ : MSt) : Option (Int32 × MSt) :=
  k_ck (k_bo y0) <|
  some (y0, σ)
def f_X12_isDeed_b18   (σ : MSt) : Option (Int32 × MSt) :=
  f_X12_isDeed_b19 (0 : Int32) σ
def f_X12_isDeed  (p1 : Int32) (σ : MSt) : Option (Int32 × MSt) :=
  if p1 < 0 then
  (f_X12_isDeed_b18 σ)
  else
  (k_ck (k_inb (2 : Int32) 18) <|
  if (σ.1 2 ((2 : Int32)).toNatClampNeg) ≤ p1 then
  (f_X12_isDeed_b18 σ)
  else
  (f_X12_isDeed_b19 (1 : Int32) σ))
def rmX12_isDeed : Room := { frames := 0, cells := 0, slots := 0, locals := 0 }
set_option maxHeartbeats 4000000 in
set_option maxRecDepth 100000 in
theorem c_X12_isDeed (l : Launch) (G : va_G) (Y : CY) (w : MSt → va_W) (ad : Nat → Nat)  (LM : LayM ad w Y) (p1 : Int32) (σ : MSt) (r : Int32) (σ' : MSt) (hf : f_X12_isDeed p1 σ = some (r, σ')) : k_Mi l yX12_isDeed wsX12_isDeed rmX12_isDeed G Y w [.ref (ad 0), .int p1] σ r σ' := by
  refine k_ofi (own := RX12) (cc := cX12_isDeed) (maxL := 2) (some .boolean) (by decide) rfl rfl (Nat.le_of_ble_eq_true rfl) ?_
  intro p e s m below meth c A C ls hl hw
  have hx := C.1
  have hb := C.2.1
  have hown := C.2.2.2.2.1
  have hts := C.2.2.2.2.2.1
  have hks := C.2.2.2.2.2.2.1
  have hl : lv_has ls 2 [(0, .ref (ad 0)), (1, .int p1)] := hl
  have b19 : ∀ (y0 : Int32) (σ : MSt) (H : Heap) (locs : List Loc) (ls : Array Slot), lv_has ls 2 [] → k_W G w A s.heap σ H locs → f_X12_isDeed_b19 y0 σ = some (r, σ') → W p l e rmX12_isDeed s m [.ref (ad 0), .int p1].toArray below meth c H locs 0 0 (MQ below (k_Qi G w A r σ') [.ref (ad 0), .int p1].toArray s 0 0 A) (F0 m 19 ls [.int y0]) := by
    intro y0 σ H locs ls hl hw hf
    unfold f_X12_isDeed_b19 at hf
    obtain ⟨hz, hf⟩ := k_ckE hf
    exact k_zret C hw (k_boE hz).1 hf dX12_isDeed_19
  have b18 : ∀ (σ : MSt) (H : Heap) (locs : List Loc) (ls : Array Slot), lv_has ls 2 [] → k_W G w A s.heap σ H locs → f_X12_isDeed_b18 σ = some (r, σ') → W p l e rmX12_isDeed s m [.ref (ad 0), .int p1].toArray below meth c H locs 0 0 (MQ below (k_Qi G w A r σ') [.ref (ad 0), .int p1].toArray s 0 0 A) (F0 m 18 ls []) := by
    intro σ H locs ls hl hw hf
    unfold f_X12_isDeed_b18 at hf
    refine lv_iconst (v := (0 : Int32)) hx hb dX12_isDeed_18 (by decide) ?_
    exact b19 (0 : Int32) σ _ _ _ (lv_sub hl [] rfl) hw hf
  unfold f_X12_isDeed at hf
  refine lv_iload_n hx hb dX12_isDeed_0 rfl (lv_at hl 1 rfl) ?_
  refine lv_if_lt (tgt := 18) hx hb dX12_isDeed_1 (by decide) (fun h => ?_) (fun h => ?_)
  · have hf := k_ifT h hf
    exact b18 σ _ _ _ (lv_sub hl [] rfl) hw hf
  · have hf := k_ifF h hf
    refine lv_iload_n hx hb dX12_isDeed_4 rfl (lv_at hl 1 rfl) ?_
    refine lv_aload_n hx hb dX12_isDeed_5 rfl (lv_at hl 0 rfl) ?_
    refine k_get C hw (LM_0 LM) (ci := 12) rfl k_in12 3 (by decide) lk12_13 (v := .ref (ad 2)) rfl dX12_isDeed_6 ?_
    refine lv_iconst (v := (2 : Int32)) hx hb dX12_isDeed_9 (by decide) ?_
    obtain ⟨hi, hf⟩ := k_ckE hf
    refine k_iald C hw (LM_2 LM) hi dX12_isDeed_10 ?_
    refine lv_icmp_ge (tgt := 18) hx hb dX12_isDeed_11 (by decide) (fun h => ?_) (fun h => ?_)
    · have hf := k_ifT h hf
      exact b18 σ _ _ _ (lv_sub hl [] rfl) hw hf
    · have hf := k_ifF h hf
      refine lv_iconst (v := (1 : Int32)) hx hb dX12_isDeed_14 (by decide) ?_
      refine lv_goto (tgt := 19) hx hb dX12_isDeed_15 (by decide) ?_
      exact b19 (1 : Int32) σ _ _ _ (lv_sub hl [] rfl) hw hf
def f_X12_galeOf_b45  (y0 : Int32) (σ : MSt) : Option (Int32 × MSt) :=
  some (y0, σ)
def f_X12_galeOf  (p1 : Int32) (σ : MSt) : Option (Int32 × MSt) :=
  if (σ.1 0 46) = (1 : Int32) then
  (some ((0 : Int32), σ))
  else
  (if (σ.1 0 50) = (-1 : Int32) then
  (k_ck (k_inb (3 : Int32) 18) <|
  if (σ.1 2 ((3 : Int32)).toNatClampNeg) ≤ p1 then
  (f_X12_galeOf_b45 (0 : Int32) σ)
  else
  (k_ck (k_inb p1 40) <|
  f_X12_galeOf_b45 (σ.1 10 (p1).toNatClampNeg) σ))
  else
  (f_X12_galeOf_b45 (σ.1 0 50) σ))
def rmX12_galeOf : Room := { frames := 0, cells := 0, slots := 0, locals := 0 }
set_option maxHeartbeats 4000000 in
set_option maxRecDepth 100000 in
theorem c_X12_galeOf (l : Launch) (G : va_G) (Y : CY) (w : MSt → va_W) (ad : Nat → Nat)  (LM : LayM ad w Y) (p1 : Int32) (σ : MSt) (r : Int32) (σ' : MSt) (hf : f_X12_galeOf p1 σ = some (r, σ')) : k_Mi l yX12_galeOf wsX12_galeOf rmX12_galeOf G Y w [.ref (ad 0), .int p1] σ r σ' := by
  refine k_ofi (own := RX12) (cc := cX12_galeOf) (maxL := 2) (some .int) (by decide) rfl rfl (Nat.le_of_ble_eq_true rfl) ?_
  intro p e s m below meth c A C ls hl hw
  have hx := C.1
  have hb := C.2.1
  have hown := C.2.2.2.2.1
  have hts := C.2.2.2.2.2.1
  have hks := C.2.2.2.2.2.2.1
  have hl : lv_has ls 2 [(0, .ref (ad 0)), (1, .int p1)] := hl
  have b45 : ∀ (y0 : Int32) (σ : MSt) (H : Heap) (locs : List Loc) (ls : Array Slot), lv_has ls 2 [] → k_W G w A s.heap σ H locs → f_X12_galeOf_b45 y0 σ = some (r, σ') → W p l e rmX12_galeOf s m [.ref (ad 0), .int p1].toArray below meth c H locs 0 0 (MQ below (k_Qi G w A r σ') [.ref (ad 0), .int p1].toArray s 0 0 A) (F0 m 45 ls [.int y0]) := by
    intro y0 σ H locs ls hl hw hf
    unfold f_X12_galeOf_b45 at hf
    exact k_iret C hw hf dX12_galeOf_45
  unfold f_X12_galeOf at hf
  refine lv_aload_n hx hb dX12_galeOf_0 rfl (lv_at hl 0 rfl) ?_
  refine k_get C hw (LM_0 LM) (ci := 12) rfl k_in12 46 (by decide) lk12_334 (v := .int (σ.1 0 46)) rfl dX12_galeOf_1 ?_
  refine lv_iconst (v := (1 : Int32)) hx hb dX12_galeOf_4 (by decide) ?_
  refine lv_icmp_ne (tgt := 10) hx hb dX12_galeOf_5 (by decide) (fun h => ?_) (fun h => ?_)
  · have hf := k_ifF h hf
    refine lv_aload_n hx hb dX12_galeOf_10 rfl (lv_at hl 0 rfl) ?_
    refine k_get C hw (LM_0 LM) (ci := 12) rfl k_in12 50 (by decide) lk12_105 (v := .int (σ.1 0 50)) rfl dX12_galeOf_11 ?_
    refine lv_iconst (v := (-1 : Int32)) hx hb dX12_galeOf_14 (by decide) ?_
    refine lv_icmp_eq (tgt := 25) hx hb dX12_galeOf_15 (by decide) (fun h => ?_) (fun h => ?_)
    · have hf := k_ifT h hf
      refine lv_iload_n hx hb dX12_galeOf_25 rfl (lv_at hl 1 rfl) ?_
      refine lv_aload_n hx hb dX12_galeOf_26 rfl (lv_at hl 0 rfl) ?_
      refine k_get C hw (LM_0 LM) (ci := 12) rfl k_in12 3 (by decide) lk12_13 (v := .ref (ad 2)) rfl dX12_galeOf_27 ?_
      refine lv_iconst (v := (3 : Int32)) hx hb dX12_galeOf_30 (by decide) ?_
      obtain ⟨hi, hf⟩ := k_ckE hf
      refine k_iald C hw (LM_2 LM) hi dX12_galeOf_31 ?_
      refine lv_icmp_ge (tgt := 44) hx hb dX12_galeOf_32 (by decide) (fun h => ?_) (fun h => ?_)
      · have hf := k_ifT h hf
        refine lv_iconst (v := (0 : Int32)) hx hb dX12_galeOf_44 (by decide) ?_
        exact b45 (0 : Int32) σ _ _ _ (lv_sub hl [] rfl) hw hf
      · have hf := k_ifF h hf
        refine lv_aload_n hx hb dX12_galeOf_35 rfl (lv_at hl 0 rfl) ?_
        refine k_get C hw (LM_0 LM) (ci := 12) rfl k_in12 11 (by decide) lk12_37 (v := .ref (ad 10)) rfl dX12_galeOf_36 ?_
        refine lv_iload_n hx hb dX12_galeOf_39 rfl (lv_at hl 1 rfl) ?_
        obtain ⟨hi, hf⟩ := k_ckE hf
        refine k_iald C hw (LM_10 LM) hi dX12_galeOf_40 ?_
        refine lv_goto (tgt := 45) hx hb dX12_galeOf_41 (by decide) ?_
        exact b45 (σ.1 10 (p1).toNatClampNeg) σ _ _ _ (lv_sub hl [] rfl) hw hf
    · have hf := k_ifF h hf
      refine lv_aload_n hx hb dX12_galeOf_18 rfl (lv_at hl 0 rfl) ?_
      refine k_get C hw (LM_0 LM) (ci := 12) rfl k_in12 50 (by decide) lk12_105 (v := .int (σ.1 0 50)) rfl dX12_galeOf_19 ?_
      refine lv_goto (tgt := 45) hx hb dX12_galeOf_22 (by decide) ?_
      exact b45 (σ.1 0 50) σ _ _ _ (lv_sub hl [] rfl) hw hf
  · have hf := k_ifT h hf
    refine lv_iconst (v := (0 : Int32)) hx hb dX12_galeOf_8 (by decide) ?_
    exact k_iret C hw hf dX12_galeOf_9
def f_X12_joyIn_b34  (y0 : Int32) (σ : MSt) : Option (Int32 × MSt) :=
  some (y0, σ)
def f_X12_joyIn  (p1 : Int32) (σ : MSt) : Option (Int32 × MSt) :=
  if (σ.1 0 46) = (3 : Int32) then
  (f_X12_joyIn_b34 (9 : Int32) σ)
  else
  (if p1 = (σ.1 0 48) then
  (f_X12_joyIn_b34 (σ.1 0 49) σ)
  else
  (k_ck (k_inb p1 24) <|
  f_X12_joyIn_b34 (σ.1 9 (p1).toNatClampNeg) σ))
def rmX12_joyIn : Room := { frames := 0, cells := 0, slots := 0, locals := 0 }
set_option maxHeartbeats 4000000 in
set_option maxRecDepth 100000 in
theorem c_X12_joyIn (l : Launch) (G : va_G) (Y : CY) (w : MSt → va_W) (ad : Nat → Nat)  (LM : LayM ad w Y) (p1 : Int32) (σ : MSt) (r : Int32) (σ' : MSt) (hf : f_X12_joyIn p1 σ = some (r, σ')) : k_Mi l yX12_joyIn wsX12_joyIn rmX12_joyIn G Y w [.ref (ad 0), .int p1] σ r σ' := by
  refine k_ofi (own := RX12) (cc := cX12_joyIn) (maxL := 2) (some .int) (by decide) rfl rfl (Nat.le_of_ble_eq_true rfl) ?_
  intro p e s m below meth c A C ls hl hw
  have hx := C.1
  have hb := C.2.1
  have hown := C.2.2.2.2.1
  have hts := C.2.2.2.2.2.1
  have hks := C.2.2.2.2.2.2.1
  have hl : lv_has ls 2 [(0, .ref (ad 0)), (1, .int p1)] := hl
  have b34 : ∀ (y0 : Int32) (σ : MSt) (H : Heap) (locs : List Loc) (ls : Array Slot), lv_has ls 2 [] → k_W G w A s.heap σ H locs → f_X12_joyIn_b34 y0 σ = some (r, σ') → W p l e rmX12_joyIn s m [.ref (ad 0), .int p1].toArray below meth c H locs 0 0 (MQ below (k_Qi G w A r σ') [.ref (ad 0), .int p1].toArray s 0 0 A) (F0 m 34 ls [.int y0]) := by
    intro y0 σ H locs ls hl hw hf
    unfold f_X12_joyIn_b34 at hf
    exact k_iret C hw hf dX12_joyIn_34
  unfold f_X12_joyIn at hf
  refine lv_aload_n hx hb dX12_joyIn_0 rfl (lv_at hl 0 rfl) ?_
  refine k_get C hw (LM_0 LM) (ci := 12) rfl k_in12 46 (by decide) lk12_334 (v := .int (σ.1 0 46)) rfl dX12_joyIn_1 ?_
  refine lv_iconst (v := (3 : Int32)) hx hb dX12_joyIn_4 (by decide) ?_
  refine lv_icmp_ne (tgt := 13) hx hb dX12_joyIn_5 (by decide) (fun h => ?_) (fun h => ?_)
  · have hf := k_ifF h hf
    refine lv_iload_n hx hb dX12_joyIn_13 rfl (lv_at hl 1 rfl) ?_
    refine lv_aload_n hx hb dX12_joyIn_14 rfl (lv_at hl 0 rfl) ?_
    refine k_get C hw (LM_0 LM) (ci := 12) rfl k_in12 48 (by decide) lk12_102 (v := .int (σ.1 0 48)) rfl dX12_joyIn_15 ?_
    refine lv_icmp_ne (tgt := 28) hx hb dX12_joyIn_18 (by decide) (fun h => ?_) (fun h => ?_)
    · have hf := k_ifF h hf
      refine lv_aload_n hx hb dX12_joyIn_28 rfl (lv_at hl 0 rfl) ?_
      refine k_get C hw (LM_0 LM) (ci := 12) rfl k_in12 10 (by decide) lk12_34 (v := .ref (ad 9)) rfl dX12_joyIn_29 ?_
      refine lv_iload_n hx hb dX12_joyIn_32 rfl (lv_at hl 1 rfl) ?_
      obtain ⟨hi, hf⟩ := k_ckE hf
      refine k_iald C hw (LM_9 LM) hi dX12_joyIn_33 ?_
      exact b34 (σ.1 9 (p1).toNatClampNeg) σ _ _ _ (lv_sub hl [] rfl) hw hf
    · have hf := k_ifT h hf
      refine lv_aload_n hx hb dX12_joyIn_21 rfl (lv_at hl 0 rfl) ?_
      refine k_get C hw (LM_0 LM) (ci := 12) rfl k_in12 49 (by decide) lk12_337 (v := .int (σ.1 0 49)) rfl dX12_joyIn_22 ?_
      refine lv_goto (tgt := 34) hx hb dX12_joyIn_25 (by decide) ?_
      exact b34 (σ.1 0 49) σ _ _ _ (lv_sub hl [] rfl) hw hf
  · have hf := k_ifT h hf
    refine lv_bipush (v := (9 : Int32)) hx hb dX12_joyIn_8 (by decide) ?_
    refine lv_goto (tgt := 34) hx hb dX12_joyIn_10 (by decide) ?_
    exact b34 (9 : Int32) σ _ _ _ (lv_sub hl [] rfl) hw hf
def f_X12_calls_b19  (x1 : Int32) (x2 : Int32) (x4 : Int32) (x5 : Int32) (x6 : Int32) (y0 : Int32) (σ : MSt) : Option MSt :=
  k_ck (k_inb (0 : Int32) 7) <|
  k_nm (mJ σ 15 ((0 : Int32)).toNatClampNeg ((x1).toInt64)) fun σ1 =>
  k_ck (k_inb (1 : Int32) 7) <|
  k_nm (mJ σ1 15 ((1 : Int32)).toNatClampNeg ((y0).toInt64)) fun σ2 =>
  k_ck (k_inb (2 : Int32) 7) <|
  k_nm (mJ σ2 15 ((2 : Int32)).toNatClampNeg ((x2).toInt64)) fun σ3 =>
  k_bd (f_X12_galeOf x4 σ3) fun q5 σ4 =>
  k_ck (k_inb (3 : Int32) 7) <|
  k_nm (mJ σ4 15 ((3 : Int32)).toNatClampNeg ((q5).toInt64)) fun σ6 =>
  k_ck (k_inb (4 : Int32) 7) <|
  k_nm (mJ σ6 15 ((4 : Int32)).toNatClampNeg ((x4).toInt64)) fun σ7 =>
  k_ck (k_inb (5 : Int32) 7) <|
  k_nm (mJ σ7 15 ((5 : Int32)).toNatClampNeg ((x5).toInt64)) fun σ8 =>
  k_ck (k_inb (6 : Int32) 7) <|
  k_nm (mJ σ8 15 ((6 : Int32)).toNatClampNeg ((x6).toInt64)) fun σ9 =>
  some σ9
def f_X12_calls  (p1 : Int32) (p2 : Int32) (p3 : Int32) (p4 : Int32) (p5 : Int32) (p6 : Int32) (σ : MSt) : Option MSt :=
  if p3 = (-1 : Int32) then
  (f_X12_calls_b19 p1 p2 p4 p5 p6 (99 : Int32) σ)
  else
  (f_X12_calls_b19 p1 p2 p4 p5 p6 (k_min (99 : Int32) (p4 - p3)) σ)
def rmX12_calls : Room := { frames := 1, cells := 0, slots := 0, locals := 23 }
set_option maxHeartbeats 4000000 in
set_option maxRecDepth 100000 in
theorem c_X12_calls (l : Launch) (G : va_G) (Y : CY) (w : MSt → va_W) (ad : Nat → Nat)  (LM : LayM ad w Y) (p1 : Int32) (p2 : Int32) (p3 : Int32) (p4 : Int32) (p5 : Int32) (p6 : Int32) (σ : MSt) (σ' : MSt) (hf : f_X12_calls p1 p2 p3 p4 p5 p6 σ = some σ') : k_Mv l yX12_calls wsX12_calls rmX12_calls G Y w [.ref (ad 0), .int p1, .int p2, .int p3, .int p4, .int p5, .int p6] σ σ' := by
  refine k_ofv (own := RX12) (cc := cX12_calls) (maxL := 8) none (by decide) rfl rfl (Nat.le_of_ble_eq_true rfl) ?_
  intro p e s m below meth c A C ls hl hw
  have hx := C.1
  have hb := C.2.1
  have hown := C.2.2.2.2.1
  have hts := C.2.2.2.2.2.1
  have hks := C.2.2.2.2.2.2.1
  have hl : lv_has ls 8 [(0, .ref (ad 0)), (1, .int p1), (2, .int p2), (3, .int p3), (4, .int p4), (5, .int p5), (6, .int p6)] := hl
  have b19 : ∀ (x1 : Int32) (x2 : Int32) (x4 : Int32) (x5 : Int32) (x6 : Int32) (y0 : Int32) (σ : MSt) (H : Heap) (locs : List Loc) (ls : Array Slot), lv_has ls 8 [(0, .ref (ad 0)), (1, .int x1), (2, .int x2), (4, .int x4), (5, .int x5), (6, .int x6)] → k_W G w A s.heap σ H locs → f_X12_calls_b19 x1 x2 x4 x5 x6 y0 σ = some σ' → W p l e rmX12_calls s m [.ref (ad 0), .int p1, .int p2, .int p3, .int p4, .int p5, .int p6].toArray below meth c H locs 0 0 (MQ below (k_Qv G w A σ') [.ref (ad 0), .int p1, .int p2, .int p3, .int p4, .int p5, .int p6].toArray s 0 0 A) (F0 m 19 ls [.int y0]) := by
    intro x1 x2 x4 x5 x6 y0 σ H locs ls hl hw hf
    unfold f_X12_calls_b19 at hf
    refine lv_istore (lv' := [(7, .int y0), (0, .ref (ad 0)), (1, .int x1), (2, .int x2), (4, .int x4), (5, .int x5), (6, .int x6)]) hx hb dX12_calls_19 hl (by decide) rfl (fun ls hl => ?_)
    refine lv_aload_n hx hb dX12_calls_21 rfl (lv_at hl 1 rfl) ?_
    refine k_get C hw (LM_0 LM) (ci := 12) rfl k_in12 29 (by decide) lk12_56 (v := .ref (ad 15)) rfl dX12_calls_22 ?_
    refine lv_iconst (v := (0 : Int32)) hx hb dX12_calls_25 (by decide) ?_
    refine lv_iload_n hx hb dX12_calls_26 rfl (lv_at hl 2 rfl) ?_
    refine lv_i2l (v := ((x1).toInt64)) hx hb dX12_calls_27 rfl ?_
    obtain ⟨hi, hf⟩ := k_ckE hf
    refine k_last C hw (LM_15 LM) hi dX12_calls_28 (fun σ1 eq H locs hw => ?_)
    have hf := k_nmE eq hf
    refine lv_aload_n hx hb dX12_calls_29 rfl (lv_at hl 1 rfl) ?_
    refine k_get C hw (LM_0 LM) (ci := 12) rfl k_in12 29 (by decide) lk12_56 (v := .ref (ad 15)) rfl dX12_calls_30 ?_
    refine lv_iconst (v := (1 : Int32)) hx hb dX12_calls_33 (by decide) ?_
    refine lv_iload hx hb dX12_calls_34 (lv_at hl 0 rfl) ?_
    refine lv_i2l (v := ((y0).toInt64)) hx hb dX12_calls_36 rfl ?_
    obtain ⟨hi, hf⟩ := k_ckE hf
    refine k_last C hw (LM_15 LM) hi dX12_calls_37 (fun σ2 eq H locs hw => ?_)
    have hf := k_nmE eq hf
    refine lv_aload_n hx hb dX12_calls_38 rfl (lv_at hl 1 rfl) ?_
    refine k_get C hw (LM_0 LM) (ci := 12) rfl k_in12 29 (by decide) lk12_56 (v := .ref (ad 15)) rfl dX12_calls_39 ?_
    refine lv_iconst (v := (2 : Int32)) hx hb dX12_calls_42 (by decide) ?_
    refine lv_iload_n hx hb dX12_calls_43 rfl (lv_at hl 3 rfl) ?_
    refine lv_i2l (v := ((x2).toInt64)) hx hb dX12_calls_44 rfl ?_
    obtain ⟨hi, hf⟩ := k_ckE hf
    refine k_last C hw (LM_15 LM) hi dX12_calls_45 (fun σ3 eq H locs hw => ?_)
    have hf := k_nmE eq hf
    refine lv_aload_n hx hb dX12_calls_46 rfl (lv_at hl 1 rfl) ?_
    refine k_get C hw (LM_0 LM) (ci := 12) rfl k_in12 29 (by decide) lk12_56 (v := .ref (ad 15)) rfl dX12_calls_47 ?_
    refine lv_iconst (v := (3 : Int32)) hx hb dX12_calls_50 (by decide) ?_
    refine lv_aload_n hx hb dX12_calls_51 rfl (lv_at hl 1 rfl) ?_
    refine lv_iload hx hb dX12_calls_52 (lv_at hl 4 rfl) ?_
    obtain ⟨q5, σ4, hq, hf⟩ := k_bdE hf
    refine k_callVi C hw (c_X12_galeOf l G Y w ad LM x4 σ3 q5 σ4 hq) (cwV 1 hts gX12_calls_X12_galeOf rfl rfl rfl (by decide +kernel) ⟨Nat.le_of_ble_eq_true rfl, Nat.le_of_ble_eq_true rfl⟩) (k_recv C hw (LM_0 LM) rfl) rfl hl.1 rfl (Nat.le_of_ble_eq_true rfl) dX12_calls_54 (fun H locs hw => ?_)
    refine lv_i2l (v := ((q5).toInt64)) hx hb dX12_calls_57 rfl ?_
    obtain ⟨hi, hf⟩ := k_ckE hf
    refine k_last C hw (LM_15 LM) hi dX12_calls_58 (fun σ6 eq H locs hw => ?_)
    have hf := k_nmE eq hf
    refine lv_aload_n hx hb dX12_calls_59 rfl (lv_at hl 1 rfl) ?_
    refine k_get C hw (LM_0 LM) (ci := 12) rfl k_in12 29 (by decide) lk12_56 (v := .ref (ad 15)) rfl dX12_calls_60 ?_
    refine lv_iconst (v := (4 : Int32)) hx hb dX12_calls_63 (by decide) ?_
    refine lv_iload hx hb dX12_calls_64 (lv_at hl 4 rfl) ?_
    refine lv_i2l (v := ((x4).toInt64)) hx hb dX12_calls_66 rfl ?_
    obtain ⟨hi, hf⟩ := k_ckE hf
    refine k_last C hw (LM_15 LM) hi dX12_calls_67 (fun σ7 eq H locs hw => ?_)
    have hf := k_nmE eq hf
    refine lv_aload_n hx hb dX12_calls_68 rfl (lv_at hl 1 rfl) ?_
    refine k_get C hw (LM_0 LM) (ci := 12) rfl k_in12 29 (by decide) lk12_56 (v := .ref (ad 15)) rfl dX12_calls_69 ?_
    refine lv_iconst (v := (5 : Int32)) hx hb dX12_calls_72 (by decide) ?_
    refine lv_iload hx hb dX12_calls_73 (lv_at hl 5 rfl) ?_
    refine lv_i2l (v := ((x5).toInt64)) hx hb dX12_calls_75 rfl ?_
    obtain ⟨hi, hf⟩ := k_ckE hf
    refine k_last C hw (LM_15 LM) hi dX12_calls_76 (fun σ8 eq H locs hw => ?_)
    have hf := k_nmE eq hf
    refine lv_aload_n hx hb dX12_calls_77 rfl (lv_at hl 1 rfl) ?_
    refine k_get C hw (LM_0 LM) (ci := 12) rfl k_in12 29 (by decide) lk12_56 (v := .ref (ad 15)) rfl dX12_calls_78 ?_
    refine lv_bipush (v := (6 : Int32)) hx hb dX12_calls_81 (by decide) ?_
    refine lv_iload hx hb dX12_calls_83 (lv_at hl 6 rfl) ?_
    refine lv_i2l (v := ((x6).toInt64)) hx hb dX12_calls_85 rfl ?_
    obtain ⟨hi, hf⟩ := k_ckE hf
    refine k_last C hw (LM_15 LM) hi dX12_calls_86 (fun σ9 eq H locs hw => ?_)
    have hf := k_nmE eq hf
    exact k_vret C hw hf dX12_calls_87
  unfold f_X12_calls at hf
  refine lv_iload_n hx hb dX12_calls_0 rfl (lv_at hl 3 rfl) ?_
  refine lv_iconst (v := (-1 : Int32)) hx hb dX12_calls_1 (by decide) ?_
  refine lv_icmp_ne (tgt := 10) hx hb dX12_calls_2 (by decide) (fun h => ?_) (fun h => ?_)
  · have hf := k_ifF h hf
    refine lv_bipush (v := (99 : Int32)) hx hb dX12_calls_10 (by decide) ?_
    refine lv_iload hx hb dX12_calls_12 (lv_at hl 4 rfl) ?_
    refine lv_iload_n hx hb dX12_calls_14 rfl (lv_at hl 3 rfl) ?_
    refine lv_isub hx hb dX12_calls_15 ?_
    refine k_mmin C hl.1 ml12_340 ms_Lib_Math_min_name mi_Math mc_Lib_Math_min_name (Nat.le_of_ble_eq_true rfl) (Nat.le_of_ble_eq_true rfl) dX12_calls_16 ?_
    exact b19 p1 p2 p4 p5 p6 (k_min (99 : Int32) (p4 - p3)) σ _ _ _ (lv_sub hl [0, 1, 2, 4, 5, 6] rfl) hw hf
  · have hf := k_ifT h hf
    refine lv_bipush (v := (99 : Int32)) hx hb dX12_calls_5 (by decide) ?_
    refine lv_goto (tgt := 19) hx hb dX12_calls_7 (by decide) ?_
    exact b19 p1 p2 p4 p5 p6 (99 : Int32) σ _ _ _ (lv_sub hl [0, 1, 2, 4, 5, 6] rfl) hw hf
