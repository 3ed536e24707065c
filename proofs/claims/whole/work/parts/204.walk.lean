def f_X10_startBay_b28  (y0 : Int32) (σ : MSt) : Option (Int32 × MSt) :=
  some (y0, σ)
def f_X10_startBay   (σ : MSt) : Option (Int32 × MSt) :=
  if (σ.1 50 5) = (-1 : Int32) then
  (f_X10_startBay_b28 (σ.1 50 4) σ)
  else
  (f_X10_startBay_b28 (σ.1 50 5) σ)
def rmX10_startBay : Room := { frames := 0, cells := 0, slots := 0, locals := 0 }
set_option maxHeartbeats 4000000 in
set_option maxRecDepth 100000 in
theorem c_X10_startBay (l : Launch) (G : va_G) (Y : CY) (w : MSt → va_W) (ad : Nat → Nat)  (LC : LayC ad w Y)  (σ : MSt) (r : Int32) (σ' : MSt) (hf : f_X10_startBay σ = some (r, σ')) : k_Mi l yX10_startBay wsX10_startBay rmX10_startBay G Y w [.ref (ad 73)] σ r σ' := by
  refine k_ofi (own := RX10) (cc := cX10_startBay) (maxL := 1) (some .int) (by decide) rfl rfl (Nat.le_of_ble_eq_true rfl) ?_
  intro p e s m below meth c A C ls hl hw
  have hx := C.1
  have hb := C.2.1
  have hown := C.2.2.2.2.1
  have hts := C.2.2.2.2.2.1
  have hks := C.2.2.2.2.2.2.1
  have hl : lv_has ls 1 [(0, .ref (ad 73))] := hl
  have b28 : ∀ (y0 : Int32) (σ : MSt) (H : Heap) (locs : List Loc) (ls : Array Slot), lv_has ls 1 [] → k_W G w A s.heap σ H locs → f_X10_startBay_b28 y0 σ = some (r, σ') → W p l e rmX10_startBay s m [.ref (ad 73)].toArray below meth c H locs 0 0 (MQ below (k_Qi G w A r σ') [.ref (ad 73)].toArray s 0 0 A) (F0 m 28 ls [.int y0]) := by
    intro y0 σ H locs ls hl hw hf
    unfold f_X10_startBay_b28 at hf
    exact k_iret C hw hf dX10_startBay_28
  unfold f_X10_startBay at hf
  refine lv_aload_n hx hb dX10_startBay_0 rfl (lv_at hl 0 rfl) ?_
  refine k_get C hw (LC_73 LC) (ci := 10) rfl k_in10 1 (by decide) lk10_28 (v := .ref (ad 50)) rfl dX10_startBay_1 ?_
  refine k_getN C hw (LC_50 LC) (ci := 5) rfl k_in5 5 (by decide) ln10_36 (v := .int (σ.1 50 5)) rfl dX10_startBay_4 ?_
  refine lv_iconst (v := (-1 : Int32)) hx hb dX10_startBay_7 (by decide) ?_
  refine lv_icmp_eq (tgt := 21) hx hb dX10_startBay_8 (by decide) (fun h => ?_) (fun h => ?_)
  · have hf := k_ifT h hf
    refine lv_aload_n hx hb dX10_startBay_21 rfl (lv_at hl 0 rfl) ?_
    refine k_get C hw (LC_73 LC) (ci := 10) rfl k_in10 1 (by decide) lk10_28 (v := .ref (ad 50)) rfl dX10_startBay_22 ?_
    refine k_getN C hw (LC_50 LC) (ci := 5) rfl k_in5 4 (by decide) ln10_74 (v := .int (σ.1 50 4)) rfl dX10_startBay_25 ?_
    exact b28 (σ.1 50 4) σ _ _ _ (lv_sub hl [] rfl) hw hf
  · have hf := k_ifF h hf
    refine lv_aload_n hx hb dX10_startBay_11 rfl (lv_at hl 0 rfl) ?_
    refine k_get C hw (LC_73 LC) (ci := 10) rfl k_in10 1 (by decide) lk10_28 (v := .ref (ad 50)) rfl dX10_startBay_12 ?_
    refine k_getN C hw (LC_50 LC) (ci := 5) rfl k_in5 5 (by decide) ln10_36 (v := .int (σ.1 50 5)) rfl dX10_startBay_15 ?_
    refine lv_goto (tgt := 28) hx hb dX10_startBay_18 (by decide) ?_
    exact b28 (σ.1 50 5) σ _ _ _ (lv_sub hl [] rfl) hw hf
def f_X10_reach_b79   (σ : MSt) : Option MSt :=
  some σ
def f_X10_reach_b64  (x1 : Int32) (x3 : Int32) (x4 : Int32) (σ : MSt) : Option MSt :=
  k_ck (k_inb x1 8) <|
  k_nm (mI σ 74 (x1).toNatClampNeg x4) fun σ1 =>
  k_ck (k_inb x1 8) <|
  k_nm (mI σ1 75 (x1).toNatClampNeg x3) fun σ2 =>
  f_X10_reach_b79 σ2
def f_X10_reach_b10   (σ : MSt) : Option MSt :=
  some σ
def f_X10_reach  (p1 : Int32) (p2 : Int32) (p3 : Int32) (σ : MSt) : Option MSt :=
  if p1 < 0 then
  (f_X10_reach_b10 σ)
  else
  (if p1 < (8 : Int32) then
  (k_nm ((σ.1 50 3) + p2) fun u1 =>
  k_ck (k_inb p1 8) <|
  if (σ.1 74 (p1).toNatClampNeg) = (-1 : Int32) then
  (f_X10_reach_b64 p1 p3 u1 σ)
  else
  (k_ck (k_inb p1 8) <|
  if u1 < (σ.1 74 (p1).toNatClampNeg) then
  (f_X10_reach_b64 p1 p3 u1 σ)
  else
  (k_ck (k_inb p1 8) <|
  if u1 = (σ.1 74 (p1).toNatClampNeg) then
  (k_ck (k_inb p1 8) <|
  if (σ.1 75 (p1).toNatClampNeg) ≤ p3 then
  (f_X10_reach_b79 σ)
  else
  (f_X10_reach_b64 p1 p3 u1 σ))
  else
  (f_X10_reach_b79 σ))))
  else
  (f_X10_reach_b10 σ))
def rmX10_reach : Room := { frames := 0, cells := 0, slots := 0, locals := 0 }
set_option maxHeartbeats 4000000 in
set_option maxRecDepth 100000 in
theorem c_X10_reach (l : Launch) (G : va_G) (Y : CY) (w : MSt → va_W) (ad : Nat → Nat)  (LC : LayC ad w Y) (p1 : Int32) (p2 : Int32) (p3 : Int32) (σ : MSt) (σ' : MSt) (hf : f_X10_reach p1 p2 p3 σ = some σ') : k_Mv l yX10_reach wsX10_reach rmX10_reach G Y w [.ref (ad 73), .int p1, .int p2, .int p3] σ σ' := by
  refine k_ofv (own := RX10) (cc := cX10_reach) (maxL := 5) none (by decide) rfl rfl (Nat.le_of_ble_eq_true rfl) ?_
  intro p e s m below meth c A C ls hl hw
  have hx := C.1
  have hb := C.2.1
  have hown := C.2.2.2.2.1
  have hts := C.2.2.2.2.2.1
  have hks := C.2.2.2.2.2.2.1
  have hl : lv_has ls 5 [(0, .ref (ad 73)), (1, .int p1), (2, .int p2), (3, .int p3)] := hl
  have b79 : ∀ (σ : MSt) (H : Heap) (locs : List Loc) (ls : Array Slot), lv_has ls 5 [] → k_W G w A s.heap σ H locs → f_X10_reach_b79 σ = some σ' → W p l e rmX10_reach s m [.ref (ad 73), .int p1, .int p2, .int p3].toArray below meth c H locs 0 0 (MQ below (k_Qv G w A σ') [.ref (ad 73), .int p1, .int p2, .int p3].toArray s 0 0 A) (F0 m 79 ls []) := by
    intro σ H locs ls hl hw hf
    unfold f_X10_reach_b79 at hf
    exact k_vret C hw hf dX10_reach_79
  have b64 : ∀ (x1 : Int32) (x3 : Int32) (x4 : Int32) (σ : MSt) (H : Heap) (locs : List Loc) (ls : Array Slot), lv_has ls 5 [(0, .ref (ad 73)), (1, .int x1), (3, .int x3), (4, .int x4)] → k_W G w A s.heap σ H locs → f_X10_reach_b64 x1 x3 x4 σ = some σ' → W p l e rmX10_reach s m [.ref (ad 73), .int p1, .int p2, .int p3].toArray below meth c H locs 0 0 (MQ below (k_Qv G w A σ') [.ref (ad 73), .int p1, .int p2, .int p3].toArray s 0 0 A) (F0 m 64 ls []) := by
    intro x1 x3 x4 σ H locs ls hl hw hf
    unfold f_X10_reach_b64 at hf
    refine lv_aload_n hx hb dX10_reach_64 rfl (lv_at hl 0 rfl) ?_
    refine k_get C hw (LC_73 LC) (ci := 10) rfl k_in10 3 (by decide) lk10_9 (v := .ref (ad 74)) rfl dX10_reach_65 ?_
    refine lv_iload_n hx hb dX10_reach_68 rfl (lv_at hl 1 rfl) ?_
    refine lv_iload hx hb dX10_reach_69 (lv_at hl 3 rfl) ?_
    obtain ⟨hi, hf⟩ := k_ckE hf
    refine k_iast C hw (LC_74 LC) hi dX10_reach_71 (fun σ1 eq H locs hw => ?_)
    have hf := k_nmE eq hf
    refine lv_aload_n hx hb dX10_reach_72 rfl (lv_at hl 0 rfl) ?_
    refine k_get C hw (LC_73 LC) (ci := 10) rfl k_in10 4 (by decide) lk10_15 (v := .ref (ad 75)) rfl dX10_reach_73 ?_
    refine lv_iload_n hx hb dX10_reach_76 rfl (lv_at hl 1 rfl) ?_
    refine lv_iload_n hx hb dX10_reach_77 rfl (lv_at hl 2 rfl) ?_
    obtain ⟨hi, hf⟩ := k_ckE hf
    refine k_iast C hw (LC_75 LC) hi dX10_reach_78 (fun σ2 eq H locs hw => ?_)
    have hf := k_nmE eq hf
    exact b79 σ2 _ _ _ (lv_sub hl [] rfl) hw hf
  have b10 : ∀ (σ : MSt) (H : Heap) (locs : List Loc) (ls : Array Slot), lv_has ls 5 [] → k_W G w A s.heap σ H locs → f_X10_reach_b10 σ = some σ' → W p l e rmX10_reach s m [.ref (ad 73), .int p1, .int p2, .int p3].toArray below meth c H locs 0 0 (MQ below (k_Qv G w A σ') [.ref (ad 73), .int p1, .int p2, .int p3].toArray s 0 0 A) (F0 m 10 ls []) := by
    intro σ H locs ls hl hw hf
    unfold f_X10_reach_b10 at hf
    exact k_vret C hw hf dX10_reach_10
  unfold f_X10_reach at hf
  refine lv_iload_n hx hb dX10_reach_0 rfl (lv_at hl 1 rfl) ?_
  refine lv_if_lt (tgt := 10) hx hb dX10_reach_1 (by decide) (fun h => ?_) (fun h => ?_)
  · have hf := k_ifT h hf
    exact b10 σ _ _ _ (lv_sub hl [] rfl) hw hf
  · have hf := k_ifF h hf
    refine lv_iload_n hx hb dX10_reach_4 rfl (lv_at hl 1 rfl) ?_
    refine lv_bipush (v := (8 : Int32)) hx hb dX10_reach_5 (by decide) ?_
    refine lv_icmp_lt (tgt := 11) hx hb dX10_reach_7 (by decide) (fun h => ?_) (fun h => ?_)
    · have hf := k_ifT h hf
      refine lv_aload_n hx hb dX10_reach_11 rfl (lv_at hl 0 rfl) ?_
      refine k_get C hw (LC_73 LC) (ci := 10) rfl k_in10 1 (by decide) lk10_28 (v := .ref (ad 50)) rfl dX10_reach_12 ?_
      refine k_getN C hw (LC_50 LC) (ci := 5) rfl k_in5 3 (by decide) ln10_45 (v := .int (σ.1 50 3)) rfl dX10_reach_15 ?_
      refine lv_iload_n hx hb dX10_reach_18 rfl (lv_at hl 2 rfl) ?_
      refine lv_iadd hx hb dX10_reach_19 ?_
      refine lv_topi (fun u1 ex => ?_)
      have hf := k_nmE ex hf
      refine lv_istore (lv' := [(4, .int u1), (0, .ref (ad 73)), (1, .int p1), (2, .int p2), (3, .int p3)]) hx hb dX10_reach_20 hl (by decide) rfl (fun ls hl => ?_)
      refine lv_aload_n hx hb dX10_reach_22 rfl (lv_at hl 1 rfl) ?_
      refine k_get C hw (LC_73 LC) (ci := 10) rfl k_in10 3 (by decide) lk10_9 (v := .ref (ad 74)) rfl dX10_reach_23 ?_
      refine lv_iload_n hx hb dX10_reach_26 rfl (lv_at hl 2 rfl) ?_
      obtain ⟨hi, hf⟩ := k_ckE hf
      refine k_iald C hw (LC_74 LC) hi dX10_reach_27 ?_
      refine lv_iconst (v := (-1 : Int32)) hx hb dX10_reach_28 (by decide) ?_
      refine lv_icmp_eq (tgt := 64) hx hb dX10_reach_29 (by decide) (fun h => ?_) (fun h => ?_)
      · have hf := k_ifT h hf
        exact b64 p1 p3 u1 σ _ _ _ (lv_sub hl [1, 2, 4, 0] rfl) hw hf
      · have hf := k_ifF h hf
        refine lv_iload hx hb dX10_reach_32 (lv_at hl 0 rfl) ?_
        refine lv_aload_n hx hb dX10_reach_34 rfl (lv_at hl 1 rfl) ?_
        refine k_get C hw (LC_73 LC) (ci := 10) rfl k_in10 3 (by decide) lk10_9 (v := .ref (ad 74)) rfl dX10_reach_35 ?_
        refine lv_iload_n hx hb dX10_reach_38 rfl (lv_at hl 2 rfl) ?_
        obtain ⟨hi, hf⟩ := k_ckE hf
        refine k_iald C hw (LC_74 LC) hi dX10_reach_39 ?_
        refine lv_icmp_lt (tgt := 64) hx hb dX10_reach_40 (by decide) (fun h => ?_) (fun h => ?_)
        · have hf := k_ifT h hf
          exact b64 p1 p3 u1 σ _ _ _ (lv_sub hl [1, 2, 4, 0] rfl) hw hf
        · have hf := k_ifF h hf
          refine lv_iload hx hb dX10_reach_43 (lv_at hl 0 rfl) ?_
          refine lv_aload_n hx hb dX10_reach_45 rfl (lv_at hl 1 rfl) ?_
          refine k_get C hw (LC_73 LC) (ci := 10) rfl k_in10 3 (by decide) lk10_9 (v := .ref (ad 74)) rfl dX10_reach_46 ?_
          refine lv_iload_n hx hb dX10_reach_49 rfl (lv_at hl 2 rfl) ?_
          obtain ⟨hi, hf⟩ := k_ckE hf
          refine k_iald C hw (LC_74 LC) hi dX10_reach_50 ?_
          refine lv_icmp_ne (tgt := 79) hx hb dX10_reach_51 (by decide) (fun h => ?_) (fun h => ?_)
          · have hf := k_ifF h hf
            exact b79 σ _ _ _ (lv_sub hl [] rfl) hw hf
          · have hf := k_ifT h hf
            refine lv_iload_n hx hb dX10_reach_54 rfl (lv_at hl 4 rfl) ?_
            refine lv_aload_n hx hb dX10_reach_55 rfl (lv_at hl 1 rfl) ?_
            refine k_get C hw (LC_73 LC) (ci := 10) rfl k_in10 4 (by decide) lk10_15 (v := .ref (ad 75)) rfl dX10_reach_56 ?_
            refine lv_iload_n hx hb dX10_reach_59 rfl (lv_at hl 2 rfl) ?_
            obtain ⟨hi, hf⟩ := k_ckE hf
            refine k_iald C hw (LC_75 LC) hi dX10_reach_60 ?_
            refine lv_icmp_ge (tgt := 79) hx hb dX10_reach_61 (by decide) (fun h => ?_) (fun h => ?_)
            · have hf := k_ifT h hf
              exact b79 σ _ _ _ (lv_sub hl [] rfl) hw hf
            · have hf := k_ifF h hf
              exact b64 p1 p3 u1 σ _ _ _ (lv_sub hl [1, 2, 4, 0] rfl) hw hf
    · have hf := k_ifF h hf
      exact b10 σ _ _ _ (lv_sub hl [] rfl) hw hf
def f_X10_wake_b46   (σ : MSt) : Option MSt :=
  some σ
def f_X10_wake  (p1 : Int32) (p2 : Int32) (p3 : Int32) (σ : MSt) : Option MSt :=
  if p1 < 0 then
  (f_X10_wake_b46 σ)
  else
  (if (8 : Int32) ≤ p1 then
  (f_X10_wake_b46 σ)
  else
  (if p2 < 0 then
  (f_X10_wake_b46 σ)
  else
  (if (60 : Int32) < p2 then
  (f_X10_wake_b46 σ)
  else
  (k_nm ((p2 * (8 : Int32)) + p1) fun u1 =>
  k_ck (k_inb u1 488) <|
  k_ck (k_inb u1 488) <|
  k_nm (mI σ 76 (u1).toNatClampNeg (k_min (σ.1 76 (u1).toNatClampNeg) p3)) fun σ2 =>
  f_X10_wake_b46 σ2))))
def rmX10_wake : Room := { frames := 1, cells := 0, slots := 0, locals := 23 }
set_option maxHeartbeats 4000000 in
set_option maxRecDepth 100000 in
theorem c_X10_wake (l : Launch) (G : va_G) (Y : CY) (w : MSt → va_W) (ad : Nat → Nat)  (LC : LayC ad w Y) (p1 : Int32) (p2 : Int32) (p3 : Int32) (σ : MSt) (σ' : MSt) (hf : f_X10_wake p1 p2 p3 σ = some σ') : k_Mv l yX10_wake wsX10_wake rmX10_wake G Y w [.ref (ad 73), .int p1, .int p2, .int p3] σ σ' := by
  refine k_ofv (own := RX10) (cc := cX10_wake) (maxL := 5) none (by decide) rfl rfl (Nat.le_of_ble_eq_true rfl) ?_
  intro p e s m below meth c A C ls hl hw
  have hx := C.1
  have hb := C.2.1
  have hown := C.2.2.2.2.1
  have hts := C.2.2.2.2.2.1
  have hks := C.2.2.2.2.2.2.1
  have hl : lv_has ls 5 [(0, .ref (ad 73)), (1, .int p1), (2, .int p2), (3, .int p3)] := hl
  have b46 : ∀ (σ : MSt) (H : Heap) (locs : List Loc) (ls : Array Slot), lv_has ls 5 [] → k_W G w A s.heap σ H locs → f_X10_wake_b46 σ = some σ' → W p l e rmX10_wake s m [.ref (ad 73), .int p1, .int p2, .int p3].toArray below meth c H locs 0 0 (MQ below (k_Qv G w A σ') [.ref (ad 73), .int p1, .int p2, .int p3].toArray s 0 0 A) (F0 m 46 ls []) := by
    intro σ H locs ls hl hw hf
    unfold f_X10_wake_b46 at hf
    exact k_vret C hw hf dX10_wake_46
  unfold f_X10_wake at hf
  refine lv_iload_n hx hb dX10_wake_0 rfl (lv_at hl 1 rfl) ?_
  refine lv_if_lt (tgt := 46) hx hb dX10_wake_1 (by decide) (fun h => ?_) (fun h => ?_)
  · have hf := k_ifT h hf
    exact b46 σ _ _ _ (lv_sub hl [] rfl) hw hf
  · have hf := k_ifF h hf
    refine lv_iload_n hx hb dX10_wake_4 rfl (lv_at hl 1 rfl) ?_
    refine lv_bipush (v := (8 : Int32)) hx hb dX10_wake_5 (by decide) ?_
    refine lv_icmp_ge (tgt := 46) hx hb dX10_wake_7 (by decide) (fun h => ?_) (fun h => ?_)
    · have hf := k_ifT h hf
      exact b46 σ _ _ _ (lv_sub hl [] rfl) hw hf
    · have hf := k_ifF h hf
      refine lv_iload_n hx hb dX10_wake_10 rfl (lv_at hl 2 rfl) ?_
      refine lv_if_lt (tgt := 46) hx hb dX10_wake_11 (by decide) (fun h => ?_) (fun h => ?_)
      · have hf := k_ifT h hf
        exact b46 σ _ _ _ (lv_sub hl [] rfl) hw hf
      · have hf := k_ifF h hf
        refine lv_iload_n hx hb dX10_wake_14 rfl (lv_at hl 2 rfl) ?_
        refine lv_bipush (v := (60 : Int32)) hx hb dX10_wake_15 (by decide) ?_
        refine lv_icmp_gt (tgt := 46) hx hb dX10_wake_17 (by decide) (fun h => ?_) (fun h => ?_)
        · have hf := k_ifT h hf
          exact b46 σ _ _ _ (lv_sub hl [] rfl) hw hf
        · have hf := k_ifF h hf
          refine lv_iload_n hx hb dX10_wake_20 rfl (lv_at hl 2 rfl) ?_
          refine lv_bipush (v := (8 : Int32)) hx hb dX10_wake_21 (by decide) ?_
          refine lv_imul hx hb dX10_wake_23 ?_
          refine lv_iload_n hx hb dX10_wake_24 rfl (lv_at hl 1 rfl) ?_
          refine lv_iadd hx hb dX10_wake_25 ?_
          refine lv_topi (fun u1 ex => ?_)
          have hf := k_nmE ex hf
          refine lv_istore (lv' := [(4, .int u1), (0, .ref (ad 73)), (1, .int p1), (2, .int p2), (3, .int p3)]) hx hb dX10_wake_26 hl (by decide) rfl (fun ls hl => ?_)
          refine lv_aload_n hx hb dX10_wake_28 rfl (lv_at hl 1 rfl) ?_
          refine k_get C hw (LC_73 LC) (ci := 10) rfl k_in10 5 (by decide) lk10_18 (v := .ref (ad 76)) rfl dX10_wake_29 ?_
          refine lv_iload hx hb dX10_wake_32 (lv_at hl 0 rfl) ?_
          refine lv_aload_n hx hb dX10_wake_34 rfl (lv_at hl 1 rfl) ?_
          refine k_get C hw (LC_73 LC) (ci := 10) rfl k_in10 5 (by decide) lk10_18 (v := .ref (ad 76)) rfl dX10_wake_35 ?_
          refine lv_iload hx hb dX10_wake_38 (lv_at hl 0 rfl) ?_
          obtain ⟨hi, hf⟩ := k_ckE hf
          refine k_iald C hw (LC_76 LC) hi dX10_wake_40 ?_
          refine lv_iload_n hx hb dX10_wake_41 rfl (lv_at hl 4 rfl) ?_
          refine k_mmin C hl.1 ml10_86 ms_Lib_Math_min_name mi_Math mc_Lib_Math_min_name (Nat.le_of_ble_eq_true rfl) (Nat.le_of_ble_eq_true rfl) dX10_wake_42 ?_
          obtain ⟨hi, hf⟩ := k_ckE hf
          refine k_iast C hw (LC_76 LC) hi dX10_wake_45 (fun σ2 eq H locs hw => ?_)
          have hf := k_nmE eq hf
          exact b46 σ2 _ _ _ (lv_sub hl [] rfl) hw hf
def f_X10_holdsAt_b84  (y0 : Int32) (σ : MSt) : Option (Int32 × MSt) :=
  k_ck (k_bo y0) <|
  some (y0, σ)
def f_X10_holdsAt_b69  (x3 : Int32) (σ : MSt) : Option (Int32 × MSt) :=
  k_ck (k_inb x3 488) <|
  if (σ.1 77 (x3).toNatClampNeg) = (1 : Int32) then
  (f_X10_holdsAt_b84 (1 : Int32) σ)
  else
  (f_X10_holdsAt_b84 (0 : Int32) σ)
def f_X10_holdsAt_b68  (x3 : Int32) (y1 : Int32) (y2 : Int32) (σ : MSt) : Option (Int32 × MSt) :=
  k_ck (k_inb y1 488) <|
  k_nm (mI σ 77 (y1).toNatClampNeg y2) fun σ1 =>
  f_X10_holdsAt_b69 x3 σ1
def f_X10_holdsAt_b20   (σ : MSt) : Option (Int32 × MSt) :=
  some ((0 : Int32), σ)
def f_X10_holdsAt  (p1 : Int32) (p2 : Int32) (σ : MSt) : Option (Int32 × MSt) :=
  if p1 < 0 then
  (f_X10_holdsAt_b20 σ)
  else
  (if (8 : Int32) ≤ p1 then
  (f_X10_holdsAt_b20 σ)
  else
  (if p2 < 0 then
  (f_X10_holdsAt_b20 σ)
  else
  (if p2 ≤ (60 : Int32) then
  (k_nm ((p2 * (8 : Int32)) + p1) fun u1 =>
  k_ck (k_inb u1 488) <|
  if (σ.1 77 (u1).toNatClampNeg) = 0 then
  (k_bd (f_X3_sees p1 ((σ.1 50 3) + p2) σ) fun q3 σ2 =>
  if q3 = 0 then
  (f_X10_holdsAt_b68 u1 u1 (2 : Int32) σ2)
  else
  (f_X10_holdsAt_b68 u1 u1 (1 : Int32) σ2))
  else
  (f_X10_holdsAt_b69 u1 σ))
  else
  (f_X10_holdsAt_b20 σ))))
def rmX10_holdsAt : Room := { frames := 4, cells := 0, slots := 0, locals := 96 }
set_option maxHeartbeats 4000000 in
set_option maxRecDepth 100000 in
theorem c_X10_holdsAt (l : Launch) (G : va_G) (Y : CY) (w : MSt → va_W) (ad : Nat → Nat)  (LC : LayC ad w Y) (p1 : Int32) (p2 : Int32) (σ : MSt) (r : Int32) (σ' : MSt) (hf : f_X10_holdsAt p1 p2 σ = some (r, σ')) : k_Mi l yX10_holdsAt wsX10_holdsAt rmX10_holdsAt G Y w [.ref (ad 73), .int p1, .int p2] σ r σ' := by
  refine k_ofi (own := RX10) (cc := cX10_holdsAt) (maxL := 4) (some .boolean) (by decide) rfl rfl (Nat.le_of_ble_eq_true rfl) ?_
  intro p e s m below meth c A C ls hl hw
  have hx := C.1
  have hb := C.2.1
  have hown := C.2.2.2.2.1
  have hts := C.2.2.2.2.2.1
  have hks := C.2.2.2.2.2.2.1
  have hl : lv_has ls 4 [(0, .ref (ad 73)), (1, .int p1), (2, .int p2)] := hl
  have b84 : ∀ (y0 : Int32) (σ : MSt) (H : Heap) (locs : List Loc) (ls : Array Slot), lv_has ls 4 [] → k_W G w A s.heap σ H locs → f_X10_holdsAt_b84 y0 σ = some (r, σ') → W p l e rmX10_holdsAt s m [.ref (ad 73), .int p1, .int p2].toArray below meth c H locs 0 0 (MQ below (k_Qi G w A r σ') [.ref (ad 73), .int p1, .int p2].toArray s 0 0 A) (F0 m 84 ls [.int y0]) := by
    intro y0 σ H locs ls hl hw hf
    unfold f_X10_holdsAt_b84 at hf
    obtain ⟨hz, hf⟩ := k_ckE hf
    exact k_zret C hw (k_boE hz).1 hf dX10_holdsAt_84
  have b69 : ∀ (x3 : Int32) (σ : MSt) (H : Heap) (locs : List Loc) (ls : Array Slot), lv_has ls 4 [(0, .ref (ad 73)), (3, .int x3)] → k_W G w A s.heap σ H locs → f_X10_holdsAt_b69 x3 σ = some (r, σ') → W p l e rmX10_holdsAt s m [.ref (ad 73), .int p1, .int p2].toArray below meth c H locs 0 0 (MQ below (k_Qi G w A r σ') [.ref (ad 73), .int p1, .int p2].toArray s 0 0 A) (F0 m 69 ls []) := by
    intro x3 σ H locs ls hl hw hf
    unfold f_X10_holdsAt_b69 at hf
    refine lv_aload_n hx hb dX10_holdsAt_69 rfl (lv_at hl 0 rfl) ?_
    refine k_get C hw (LC_73 LC) (ci := 10) rfl k_in10 6 (by decide) lk10_21 (v := .ref (ad 77)) rfl dX10_holdsAt_70 ?_
    refine lv_iload_n hx hb dX10_holdsAt_73 rfl (lv_at hl 1 rfl) ?_
    obtain ⟨hi, hf⟩ := k_ckE hf
    refine k_iald C hw (LC_77 LC) hi dX10_holdsAt_74 ?_
    refine lv_iconst (v := (1 : Int32)) hx hb dX10_holdsAt_75 (by decide) ?_
    refine lv_icmp_ne (tgt := 83) hx hb dX10_holdsAt_76 (by decide) (fun h => ?_) (fun h => ?_)
    · have hf := k_ifF h hf
      refine lv_iconst (v := (0 : Int32)) hx hb dX10_holdsAt_83 (by decide) ?_
      exact b84 (0 : Int32) σ _ _ _ (lv_sub hl [] rfl) hw hf
    · have hf := k_ifT h hf
      refine lv_iconst (v := (1 : Int32)) hx hb dX10_holdsAt_79 (by decide) ?_
      refine lv_goto (tgt := 84) hx hb dX10_holdsAt_80 (by decide) ?_
      exact b84 (1 : Int32) σ _ _ _ (lv_sub hl [] rfl) hw hf
  have b68 : ∀ (x3 : Int32) (y1 : Int32) (y2 : Int32) (σ : MSt) (H : Heap) (locs : List Loc) (ls : Array Slot), lv_has ls 4 [(0, .ref (ad 73)), (3, .int x3)] → k_W G w A s.heap σ H locs → f_X10_holdsAt_b68 x3 y1 y2 σ = some (r, σ') → W p l e rmX10_holdsAt s m [.ref (ad 73), .int p1, .int p2].toArray below meth c H locs 0 0 (MQ below (k_Qi G w A r σ') [.ref (ad 73), .int p1, .int p2].toArray s 0 0 A) (F0 m 68 ls [.int y2, .int y1, .ref (ad 77)]) := by
    intro x3 y1 y2 σ H locs ls hl hw hf
    unfold f_X10_holdsAt_b68 at hf
    obtain ⟨hi, hf⟩ := k_ckE hf
    refine k_iast C hw (LC_77 LC) hi dX10_holdsAt_68 (fun σ1 eq H locs hw => ?_)
    have hf := k_nmE eq hf
    exact b69 x3 σ1 _ _ _ (lv_sub hl [0, 1] rfl) hw hf
  have b20 : ∀ (σ : MSt) (H : Heap) (locs : List Loc) (ls : Array Slot), lv_has ls 4 [] → k_W G w A s.heap σ H locs → f_X10_holdsAt_b20 σ = some (r, σ') → W p l e rmX10_holdsAt s m [.ref (ad 73), .int p1, .int p2].toArray below meth c H locs 0 0 (MQ below (k_Qi G w A r σ') [.ref (ad 73), .int p1, .int p2].toArray s 0 0 A) (F0 m 20 ls []) := by
    intro σ H locs ls hl hw hf
    unfold f_X10_holdsAt_b20 at hf
    refine lv_iconst (v := (0 : Int32)) hx hb dX10_holdsAt_20 (by decide) ?_
    exact k_zret C hw rfl hf dX10_holdsAt_21
  unfold f_X10_holdsAt at hf
  refine lv_iload_n hx hb dX10_holdsAt_0 rfl (lv_at hl 1 rfl) ?_
  refine lv_if_lt (tgt := 20) hx hb dX10_holdsAt_1 (by decide) (fun h => ?_) (fun h => ?_)
  · have hf := k_ifT h hf
    exact b20 σ _ _ _ (lv_sub hl [] rfl) hw hf
  · have hf := k_ifF h hf
    refine lv_iload_n hx hb dX10_holdsAt_4 rfl (lv_at hl 1 rfl) ?_
    refine lv_bipush (v := (8 : Int32)) hx hb dX10_holdsAt_5 (by decide) ?_
    refine lv_icmp_ge (tgt := 20) hx hb dX10_holdsAt_7 (by decide) (fun h => ?_) (fun h => ?_)
    · have hf := k_ifT h hf
      exact b20 σ _ _ _ (lv_sub hl [] rfl) hw hf
    · have hf := k_ifF h hf
      refine lv_iload_n hx hb dX10_holdsAt_10 rfl (lv_at hl 2 rfl) ?_
      refine lv_if_lt (tgt := 20) hx hb dX10_holdsAt_11 (by decide) (fun h => ?_) (fun h => ?_)
      · have hf := k_ifT h hf
        exact b20 σ _ _ _ (lv_sub hl [] rfl) hw hf
      · have hf := k_ifF h hf
        refine lv_iload_n hx hb dX10_holdsAt_14 rfl (lv_at hl 2 rfl) ?_
        refine lv_bipush (v := (60 : Int32)) hx hb dX10_holdsAt_15 (by decide) ?_
        refine lv_icmp_le (tgt := 22) hx hb dX10_holdsAt_17 (by decide) (fun h => ?_) (fun h => ?_)
        · have hf := k_ifT h hf
          refine lv_iload_n hx hb dX10_holdsAt_22 rfl (lv_at hl 2 rfl) ?_
          refine lv_bipush (v := (8 : Int32)) hx hb dX10_holdsAt_23 (by decide) ?_
          refine lv_imul hx hb dX10_holdsAt_25 ?_
          refine lv_iload_n hx hb dX10_holdsAt_26 rfl (lv_at hl 1 rfl) ?_
          refine lv_iadd hx hb dX10_holdsAt_27 ?_
          refine lv_topi (fun u1 ex => ?_)
          have hf := k_nmE ex hf
          refine lv_istore_n (lv' := [(3, .int u1), (0, .ref (ad 73)), (1, .int p1), (2, .int p2)]) hx hb dX10_holdsAt_28 rfl hl (by decide) rfl (fun ls hl => ?_)
          refine lv_aload_n hx hb dX10_holdsAt_29 rfl (lv_at hl 1 rfl) ?_
          refine k_get C hw (LC_73 LC) (ci := 10) rfl k_in10 6 (by decide) lk10_21 (v := .ref (ad 77)) rfl dX10_holdsAt_30 ?_
          refine lv_iload_n hx hb dX10_holdsAt_33 rfl (lv_at hl 0 rfl) ?_
          obtain ⟨hi, hf⟩ := k_ckE hf
          refine k_iald C hw (LC_77 LC) hi dX10_holdsAt_34 ?_
          refine lv_if_ne (tgt := 69) hx hb dX10_holdsAt_35 (by decide) (fun h => ?_) (fun h => ?_)
          · have hf := k_ifF h hf
            exact b69 u1 σ _ _ _ (lv_sub hl [1, 0] rfl) hw hf
          · have hf := k_ifT h hf
            refine lv_aload_n hx hb dX10_holdsAt_38 rfl (lv_at hl 1 rfl) ?_
            refine k_get C hw (LC_73 LC) (ci := 10) rfl k_in10 6 (by decide) lk10_21 (v := .ref (ad 77)) rfl dX10_holdsAt_39 ?_
            refine lv_iload_n hx hb dX10_holdsAt_42 rfl (lv_at hl 0 rfl) ?_
            refine lv_aload_n hx hb dX10_holdsAt_43 rfl (lv_at hl 1 rfl) ?_
            refine k_get C hw (LC_73 LC) (ci := 10) rfl k_in10 2 (by decide) lk10_32 (v := .ref (ad 67)) rfl dX10_holdsAt_44 ?_
            refine lv_iload_n hx hb dX10_holdsAt_47 rfl (lv_at hl 2 rfl) ?_
            refine lv_aload_n hx hb dX10_holdsAt_48 rfl (lv_at hl 1 rfl) ?_
            refine k_get C hw (LC_73 LC) (ci := 10) rfl k_in10 1 (by decide) lk10_28 (v := .ref (ad 50)) rfl dX10_holdsAt_49 ?_
            refine k_getN C hw (LC_50 LC) (ci := 5) rfl k_in5 3 (by decide) ln10_45 (v := .int (σ.1 50 3)) rfl dX10_holdsAt_52 ?_
            refine lv_iload_n hx hb dX10_holdsAt_55 rfl (lv_at hl 3 rfl) ?_
            refine lv_iadd hx hb dX10_holdsAt_56 ?_
            obtain ⟨q3, σ2, hq, hf⟩ := k_bdE hf
            refine k_callVi C hw (c_X3_sees l G Y w ad LC p1 ((σ.1 50 3) + p2) σ q3 σ2 hq) (cwV 2 hts gX10_holdsAt_X3_sees rfl rfl rfl (by decide +kernel) ⟨Nat.le_of_ble_eq_true rfl, Nat.le_of_ble_eq_true rfl⟩) (k_recv C hw (LC_67 LC) rfl) rfl hl.1 rfl (Nat.le_of_ble_eq_true rfl) dX10_holdsAt_57 (fun H locs hw => ?_)
            refine lv_if_eq (tgt := 67) hx hb dX10_holdsAt_60 (by decide) (fun h => ?_) (fun h => ?_)
            · have hf := k_ifT h hf
              refine lv_iconst (v := (2 : Int32)) hx hb dX10_holdsAt_67 (by decide) ?_
              exact b68 u1 u1 (2 : Int32) σ2 _ _ _ (lv_sub hl [1, 0] rfl) hw hf
            · have hf := k_ifF h hf
              refine lv_iconst (v := (1 : Int32)) hx hb dX10_holdsAt_63 (by decide) ?_
              refine lv_goto (tgt := 68) hx hb dX10_holdsAt_64 (by decide) ?_
              exact b68 u1 u1 (1 : Int32) σ2 _ _ _ (lv_sub hl [1, 0] rfl) hw hf
        · have hf := k_ifF h hf
          exact b20 σ _ _ _ (lv_sub hl [] rfl) hw hf
def f_X10_goOn_b115  (r33 : Int32 → Int32 → Int32 → Int32 → MSt → Option MSt) (x1 : Int32) (x2 : Int32) (x3 : Int32) (x4 : Int32) (σ : MSt) : Option MSt :=
  k_nm (x4 + (1 : Int32)) fun u1 =>
  r33 x1 x2 x3 u1 σ
def f_X10_goOn_b33_s  (r33 : Int32 → Int32 → Int32 → Int32 → MSt → Option MSt) (x1 : Int32) (x2 : Int32) (x3 : Int32) (x4 : Int32) (σ : MSt) : Option MSt :=
  if (σ.1 10 7) ≤ x4 then
  (some σ)
  else
  (k_bd (f_X0_daysBetween 10 x1 x4 σ) fun q2 σ1 =>
  if q2 ≤ 0 then
  (f_X10_goOn_b115 r33 x1 x2 x3 x4 σ1)
  else
  (if (σ1.1 10 12) < q2 then
  (f_X10_goOn_b115 r33 x1 x2 x3 x4 σ1)
  else
  (k_bd (f_X10_holdsAt x4 (x2 + q2) σ1) fun q4 σ3 =>
  if q4 = 0 then
  (f_X10_goOn_b115 r33 x1 x2 x3 x4 σ3)
  else
  (k_bv (f_X10_reach x4 (x2 + q2) (x3 + (1 : Int32)) σ3) fun σ5 =>
  k_bv (f_X10_wake x4 ((x2 + q2) + (1 : Int32)) (x3 + (1 : Int32)) σ5) fun σ6 =>
  f_X10_goOn_b115 r33 x1 x2 x3 x4 σ6))))
def f_X10_goOn_b33  : Nat → Int32 → Int32 → Int32 → Int32 → MSt → Option MSt
  | 0 => fun _ _ _ _ _ => none
  | n + 1 => f_X10_goOn_b33_s (f_X10_goOn_b33 n)
def f_X10_goOn_b30  (x1 : Int32) (x2 : Int32) (x3 : Int32) (σ : MSt) : Option MSt :=
  f_X10_goOn_b33 FU x1 x2 x3 (0 : Int32) σ
def f_X10_goOn  (p1 : Int32) (p2 : Int32) (σ : MSt) : Option MSt :=
  k_ck (k_inb ((p2 * (8 : Int32)) + p1) 488) <|
  k_nm (σ.1 76 (((p2 * (8 : Int32)) + p1)).toNatClampNeg) fun u1 =>
  k_bd (f_X10_holdsAt p1 p2 σ) fun q3 σ2 =>
  if q3 = 0 then
  (f_X10_goOn_b30 p1 p2 u1 σ2)
  else
  (k_bv (f_X10_wake p1 (p2 + (1 : Int32)) u1 σ2) fun σ4 =>
  f_X10_goOn_b30 p1 p2 u1 σ4)
def rmX10_goOn : Room := { frames := 5, cells := 0, slots := 0, locals := 119 }
set_option maxHeartbeats 4000000 in
set_option maxRecDepth 100000 in
theorem c_X10_goOn (l : Launch) (G : va_G) (Y : CY) (w : MSt → va_W) (ad : Nat → Nat)  (LC : LayC ad w Y) (p1 : Int32) (p2 : Int32) (σ : MSt) (σ' : MSt) (hf : f_X10_goOn p1 p2 σ = some σ') : k_Mv l yX10_goOn wsX10_goOn rmX10_goOn G Y w [.ref (ad 73), .int p1, .int p2] σ σ' := by
  refine k_ofv (own := RX10) (cc := cX10_goOn) (maxL := 6) none (by decide) rfl rfl (Nat.le_of_ble_eq_true rfl) ?_
  intro p e s m below meth c A C ls hl hw
  have hx := C.1
  have hb := C.2.1
  have hown := C.2.2.2.2.1
  have hts := C.2.2.2.2.2.1
  have hks := C.2.2.2.2.2.2.1
  have hl : lv_has ls 6 [(0, .ref (ad 73)), (1, .int p1), (2, .int p2)] := hl
  have b33 : ∀ (n33 : Nat) (x1 : Int32) (x2 : Int32) (x3 : Int32) (x4 : Int32) (σ : MSt) (H : Heap) (locs : List Loc) (ls : Array Slot), lv_has ls 6 [(0, .ref (ad 73)), (1, .int x1), (2, .int x2), (3, .int x3), (4, .int x4)] → k_W G w A s.heap σ H locs → f_X10_goOn_b33 n33 x1 x2 x3 x4 σ = some σ' → W p l e rmX10_goOn s m [.ref (ad 73), .int p1, .int p2].toArray below meth c H locs 0 0 (MQ below (k_Qv G w A σ') [.ref (ad 73), .int p1, .int p2].toArray s 0 0 A) (F0 m 33 ls []) := by
    intro n33
    induction n33 with
    | zero =>
      intro x1 x2 x3 x4 σ H locs ls hl hw hf
      have hf : (none : Option MSt) = some σ' := hf
      cases hf
    | succ n33 ih33 =>
      have b115 : ∀ (x1 : Int32) (x2 : Int32) (x3 : Int32) (x4 : Int32) (σ : MSt) (H : Heap) (locs : List Loc) (ls : Array Slot), lv_has ls 6 [(0, .ref (ad 73)), (1, .int x1), (2, .int x2), (3, .int x3), (4, .int x4)] → k_W G w A s.heap σ H locs → f_X10_goOn_b115 (f_X10_goOn_b33 n33) x1 x2 x3 x4 σ = some σ' → W p l e rmX10_goOn s m [.ref (ad 73), .int p1, .int p2].toArray below meth c H locs 0 0 (MQ below (k_Qv G w A σ') [.ref (ad 73), .int p1, .int p2].toArray s 0 0 A) (F0 m 115 ls []) := by
        intro x1 x2 x3 x4 σ H locs ls hl hw hf
        unfold f_X10_goOn_b115 at hf
        obtain ⟨u1, ex⟩ : ∃ y : Int32, y = (x4 + (1 : Int32)) := ⟨_, rfl⟩
        have hf := k_nmE ex hf
        refine lv_iinc (v := u1) (lv' := [(4, .int u1), (0, .ref (ad 73)), (1, .int x1), (2, .int x2), (3, .int x3)]) hx hb dX10_goOn_115 hl (k := 4) rfl (by rw [ex]; rfl) (by decide) rfl (fun ls hl => ?_)
        refine lv_goto (tgt := 33) hx hb dX10_goOn_118 (by decide) ?_
        exact ih33 x1 x2 x3 u1 σ _ _ _ (lv_sub hl [1, 2, 3, 4, 0] rfl) hw hf
      intro x1 x2 x3 x4 σ H locs ls hl hw hf
      have hf : f_X10_goOn_b33_s (f_X10_goOn_b33 n33) x1 x2 x3 x4 σ = some σ' := hf
      unfold f_X10_goOn_b33_s at hf
      refine lv_iload hx hb dX10_goOn_33 (lv_at hl 4 rfl) ?_
      refine lv_aload_n hx hb dX10_goOn_35 rfl (lv_at hl 0 rfl) ?_
      refine k_get C hw (LC_73 LC) (ci := 10) rfl k_in10 0 (by decide) lk10_24 (v := .ref (ad 10)) rfl dX10_goOn_36 ?_
      refine k_getN C hw (LC_10 LC) (ci := 0) rfl k_in0 7 (by decide) ln10_65 (v := .int (σ.1 10 7)) rfl dX10_goOn_39 ?_
      refine lv_icmp_ge (tgt := 121) hx hb dX10_goOn_42 (by decide) (fun h => ?_) (fun h => ?_)
      · have hf := k_ifT h hf
        exact k_vret C hw hf dX10_goOn_121
      · have hf := k_ifF h hf
        refine lv_aload_n hx hb dX10_goOn_45 rfl (lv_at hl 0 rfl) ?_
        refine k_get C hw (LC_73 LC) (ci := 10) rfl k_in10 0 (by decide) lk10_24 (v := .ref (ad 10)) rfl dX10_goOn_46 ?_
        refine lv_iload_n hx hb dX10_goOn_49 rfl (lv_at hl 1 rfl) ?_
        refine lv_iload hx hb dX10_goOn_50 (lv_at hl 4 rfl) ?_
        obtain ⟨q2, σ1, hq, hf⟩ := k_bdE hf
        refine k_callVi C hw (c_X0_daysBetween l G Y w ad 10 (LCL_10 LC) x1 x4 σ q2 σ1 hq) (cwV 2 hts gX10_goOn_X0_daysBetween rfl rfl rfl (by decide +kernel) ⟨Nat.le_of_ble_eq_true rfl, Nat.le_of_ble_eq_true rfl⟩) (k_recv C hw (LC_10 LC) rfl) rfl hl.1 rfl (Nat.le_of_ble_eq_true rfl) dX10_goOn_52 (fun H locs hw => ?_)
        refine lv_istore (lv' := [(5, .int q2), (0, .ref (ad 73)), (1, .int x1), (2, .int x2), (3, .int x3), (4, .int x4)]) hx hb dX10_goOn_55 hl (by decide) rfl (fun ls hl => ?_)
        refine lv_iload hx hb dX10_goOn_57 (lv_at hl 0 rfl) ?_
        refine lv_if_le (tgt := 115) hx hb dX10_goOn_59 (by decide) (fun h => ?_) (fun h => ?_)
        · have hf := k_ifT h hf
          exact b115 x1 x2 x3 x4 σ1 _ _ _ (lv_sub hl [1, 2, 3, 4, 5] rfl) hw hf
        · have hf := k_ifF h hf
          refine lv_iload hx hb dX10_goOn_62 (lv_at hl 0 rfl) ?_
          refine lv_aload_n hx hb dX10_goOn_64 rfl (lv_at hl 1 rfl) ?_
          refine k_get C hw (LC_73 LC) (ci := 10) rfl k_in10 0 (by decide) lk10_24 (v := .ref (ad 10)) rfl dX10_goOn_65 ?_
          refine k_getN C hw (LC_10 LC) (ci := 0) rfl k_in0 12 (by decide) ln10_84 (v := .int (σ1.1 10 12)) rfl dX10_goOn_68 ?_
          refine lv_icmp_gt (tgt := 115) hx hb dX10_goOn_71 (by decide) (fun h => ?_) (fun h => ?_)
          · have hf := k_ifT h hf
            exact b115 x1 x2 x3 x4 σ1 _ _ _ (lv_sub hl [1, 2, 3, 4, 5] rfl) hw hf
          · have hf := k_ifF h hf
            refine lv_aload_n hx hb dX10_goOn_74 rfl (lv_at hl 1 rfl) ?_
            refine lv_iload hx hb dX10_goOn_75 (lv_at hl 5 rfl) ?_
            refine lv_iload_n hx hb dX10_goOn_77 rfl (lv_at hl 3 rfl) ?_
            refine lv_iload hx hb dX10_goOn_78 (lv_at hl 0 rfl) ?_
            refine lv_iadd hx hb dX10_goOn_80 ?_
            obtain ⟨q4, σ3, hq, hf⟩ := k_bdE hf
            refine k_callVi C hw (c_X10_holdsAt l G Y w ad LC x4 (x2 + q2) σ1 q4 σ3 hq) (cwV 2 hts gX10_goOn_X10_holdsAt rfl rfl rfl (by decide +kernel) ⟨Nat.le_of_ble_eq_true rfl, Nat.le_of_ble_eq_true rfl⟩) (k_recv C hw (LC_73 LC) rfl) rfl hl.1 rfl (Nat.le_of_ble_eq_true rfl) dX10_goOn_81 (fun H locs hw => ?_)
            refine lv_if_eq (tgt := 115) hx hb dX10_goOn_84 (by decide) (fun h => ?_) (fun h => ?_)
            · have hf := k_ifT h hf
              exact b115 x1 x2 x3 x4 σ3 _ _ _ (lv_sub hl [1, 2, 3, 4, 5] rfl) hw hf
            · have hf := k_ifF h hf
              refine lv_aload_n hx hb dX10_goOn_87 rfl (lv_at hl 1 rfl) ?_
              refine lv_iload hx hb dX10_goOn_88 (lv_at hl 5 rfl) ?_
              refine lv_iload_n hx hb dX10_goOn_90 rfl (lv_at hl 3 rfl) ?_
              refine lv_iload hx hb dX10_goOn_91 (lv_at hl 0 rfl) ?_
              refine lv_iadd hx hb dX10_goOn_93 ?_
              refine lv_iload_n hx hb dX10_goOn_94 rfl (lv_at hl 4 rfl) ?_
              refine lv_iconst (v := (1 : Int32)) hx hb dX10_goOn_95 (by decide) ?_
              refine lv_iadd hx hb dX10_goOn_96 ?_
              obtain ⟨σ5, hq, hf⟩ := k_bvE hf
              refine k_callVv C hw (c_X10_reach l G Y w ad LC x4 (x2 + q2) (x3 + (1 : Int32)) σ3 σ5 hq) (cwV 3 hts gX10_goOn_X10_reach rfl rfl rfl (by decide +kernel) ⟨Nat.le_of_ble_eq_true rfl, Nat.le_of_ble_eq_true rfl⟩) (k_recv C hw (LC_73 LC) rfl) rfl hl.1 rfl (Nat.le_of_ble_eq_true rfl) dX10_goOn_97 (fun H locs hw => ?_)
              refine lv_aload_n hx hb dX10_goOn_100 rfl (lv_at hl 1 rfl) ?_
              refine lv_iload hx hb dX10_goOn_101 (lv_at hl 5 rfl) ?_
              refine lv_iload_n hx hb dX10_goOn_103 rfl (lv_at hl 3 rfl) ?_
              refine lv_iload hx hb dX10_goOn_104 (lv_at hl 0 rfl) ?_
              refine lv_iadd hx hb dX10_goOn_106 ?_
              refine lv_iconst (v := (1 : Int32)) hx hb dX10_goOn_107 (by decide) ?_
              refine lv_iadd hx hb dX10_goOn_108 ?_
              refine lv_iload_n hx hb dX10_goOn_109 rfl (lv_at hl 4 rfl) ?_
              refine lv_iconst (v := (1 : Int32)) hx hb dX10_goOn_110 (by decide) ?_
              refine lv_iadd hx hb dX10_goOn_111 ?_
              obtain ⟨σ6, hq, hf⟩ := k_bvE hf
              refine k_callVv C hw (c_X10_wake l G Y w ad LC x4 ((x2 + q2) + (1 : Int32)) (x3 + (1 : Int32)) σ5 σ6 hq) (cwV 3 hts gX10_goOn_X10_wake rfl rfl rfl (by decide +kernel) ⟨Nat.le_of_ble_eq_true rfl, Nat.le_of_ble_eq_true rfl⟩) (k_recv C hw (LC_73 LC) rfl) rfl hl.1 rfl (Nat.le_of_ble_eq_true rfl) dX10_goOn_112 (fun H locs hw => ?_)
              exact b115 x1 x2 x3 x4 σ6 _ _ _ (lv_sub hl [1, 2, 3, 4, 5] rfl) hw hf
  have b30 : ∀ (x1 : Int32) (x2 : Int32) (x3 : Int32) (σ : MSt) (H : Heap) (locs : List Loc) (ls : Array Slot), lv_has ls 6 [(0, .ref (ad 73)), (1, .int x1), (2, .int x2), (3, .int x3)] → k_W G w A s.heap σ H locs → f_X10_goOn_b30 x1 x2 x3 σ = some σ' → W p l e rmX10_goOn s m [.ref (ad 73), .int p1, .int p2].toArray below meth c H locs 0 0 (MQ below (k_Qv G w A σ') [.ref (ad 73), .int p1, .int p2].toArray s 0 0 A) (F0 m 30 ls []) := by
    intro x1 x2 x3 σ H locs ls hl hw hf
    unfold f_X10_goOn_b30 at hf
    refine lv_iconst (v := (0 : Int32)) hx hb dX10_goOn_30 (by decide) ?_
    refine lv_istore (lv' := [(4, .int (0 : Int32)), (0, .ref (ad 73)), (1, .int x1), (2, .int x2), (3, .int x3)]) hx hb dX10_goOn_31 hl (by decide) rfl (fun ls hl => ?_)
    exact b33 FU x1 x2 x3 (0 : Int32) σ _ _ _ (lv_sub hl [1, 2, 3, 4, 0] rfl) hw hf
  unfold f_X10_goOn at hf
  refine lv_aload_n hx hb dX10_goOn_0 rfl (lv_at hl 0 rfl) ?_
  refine k_get C hw (LC_73 LC) (ci := 10) rfl k_in10 5 (by decide) lk10_18 (v := .ref (ad 76)) rfl dX10_goOn_1 ?_
  refine lv_iload_n hx hb dX10_goOn_4 rfl (lv_at hl 2 rfl) ?_
  refine lv_bipush (v := (8 : Int32)) hx hb dX10_goOn_5 (by decide) ?_
  refine lv_imul hx hb dX10_goOn_7 ?_
  refine lv_iload_n hx hb dX10_goOn_8 rfl (lv_at hl 1 rfl) ?_
  refine lv_iadd hx hb dX10_goOn_9 ?_
  obtain ⟨hi, hf⟩ := k_ckE hf
  refine k_iald C hw (LC_76 LC) hi dX10_goOn_10 ?_
  refine lv_topi (fun u1 ex => ?_)
  have hf := k_nmE ex hf
  refine lv_istore_n (lv' := [(3, .int u1), (0, .ref (ad 73)), (1, .int p1), (2, .int p2)]) hx hb dX10_goOn_11 rfl hl (by decide) rfl (fun ls hl => ?_)
  refine lv_aload_n hx hb dX10_goOn_12 rfl (lv_at hl 1 rfl) ?_
  refine lv_iload_n hx hb dX10_goOn_13 rfl (lv_at hl 2 rfl) ?_
  refine lv_iload_n hx hb dX10_goOn_14 rfl (lv_at hl 3 rfl) ?_
  obtain ⟨q3, σ2, hq, hf⟩ := k_bdE hf
  refine k_callVi C hw (c_X10_holdsAt l G Y w ad LC p1 p2 σ q3 σ2 hq) (cwV 2 hts gX10_goOn_X10_holdsAt rfl rfl rfl (by decide +kernel) ⟨Nat.le_of_ble_eq_true rfl, Nat.le_of_ble_eq_true rfl⟩) (k_recv C hw (LC_73 LC) rfl) rfl hl.1 rfl (Nat.le_of_ble_eq_true rfl) dX10_goOn_15 (fun H locs hw => ?_)
  refine lv_if_eq (tgt := 30) hx hb dX10_goOn_18 (by decide) (fun h => ?_) (fun h => ?_)
  · have hf := k_ifT h hf
    exact b30 p1 p2 u1 σ2 _ _ _ (lv_sub hl [1, 2, 3, 0] rfl) hw hf
  · have hf := k_ifF h hf
    refine lv_aload_n hx hb dX10_goOn_21 rfl (lv_at hl 1 rfl) ?_
    refine lv_iload_n hx hb dX10_goOn_22 rfl (lv_at hl 2 rfl) ?_
    refine lv_iload_n hx hb dX10_goOn_23 rfl (lv_at hl 3 rfl) ?_
    refine lv_iconst (v := (1 : Int32)) hx hb dX10_goOn_24 (by decide) ?_
    refine lv_iadd hx hb dX10_goOn_25 ?_
    refine lv_iload_n hx hb dX10_goOn_26 rfl (lv_at hl 0 rfl) ?_
    obtain ⟨σ4, hq, hf⟩ := k_bvE hf
    refine k_callVv C hw (c_X10_wake l G Y w ad LC p1 (p2 + (1 : Int32)) u1 σ2 σ4 hq) (cwV 3 hts gX10_goOn_X10_wake rfl rfl rfl (by decide +kernel) ⟨Nat.le_of_ble_eq_true rfl, Nat.le_of_ble_eq_true rfl⟩) (k_recv C hw (LC_73 LC) rfl) rfl hl.1 rfl (Nat.le_of_ble_eq_true rfl) dX10_goOn_27 (fun H locs hw => ?_)
    exact b30 p1 p2 u1 σ4 _ _ _ (lv_sub hl [1, 2, 3, 0] rfl) hw hf
def f_X10_plan_b174  (r120 : Int32 → MSt → Option MSt) (x2 : Int32) (σ : MSt) : Option MSt :=
  k_nm (x2 + (1 : Int32)) fun u1 =>
  r120 u1 σ
def f_X10_plan_b168  (r120 : Int32 → MSt → Option MSt) (r128 : Int32 → Int32 → MSt → Option MSt) (x2 : Int32) (x3 : Int32) (σ : MSt) : Option MSt :=
  k_nm (x3 + (1 : Int32)) fun u1 =>
  r128 x2 u1 σ
def f_X10_plan_b128_s  (r120 : Int32 → MSt → Option MSt) (r128 : Int32 → Int32 → MSt → Option MSt) (x2 : Int32) (x3 : Int32) (σ : MSt) : Option MSt :=
  if (σ.1 10 7) ≤ x3 then
  (f_X10_plan_b174 r120 x2 σ)
  else
  (if (8 : Int32) ≤ x3 then
  (f_X10_plan_b174 r120 x2 σ)
  else
  (k_ck (k_inb ((x2 * (8 : Int32)) + x3) 488) <|
  if (σ.1 76 (((x2 * (8 : Int32)) + x3)).toNatClampNeg) = (1000 : Int32) then
  (f_X10_plan_b168 r120 r128 x2 x3 σ)
  else
  (k_bv (f_X10_goOn x3 x2 σ) fun σ1 =>
  f_X10_plan_b168 r120 r128 x2 x3 σ1)))
def f_X10_plan_b128  (r120 : Int32 → MSt → Option MSt) : Nat → Int32 → Int32 → MSt → Option MSt
  | 0 => fun _ _ _ => none
  | n + 1 => f_X10_plan_b128_s r120 (f_X10_plan_b128 r120 n)
def f_X10_plan_b120_s  (r120 : Int32 → MSt → Option MSt) (x2 : Int32) (σ : MSt) : Option MSt :=
  if (60 : Int32) < x2 then
  (some σ)
  else
  (f_X10_plan_b128 r120 FU x2 (0 : Int32) σ)
def f_X10_plan_b120  : Nat → Int32 → MSt → Option MSt
  | 0 => fun _ _ => none
  | n + 1 => f_X10_plan_b120_s (f_X10_plan_b120 n)
def f_X10_plan_b97  (y0 : Int32) (σ : MSt) : Option MSt :=
  k_bd (f_X10_startBay σ) fun q2 σ1 =>
  k_bv (f_X10_reach q2 y0 (0 : Int32) σ1) fun σ3 =>
  k_bd (f_X10_startBay σ3) fun q5 σ4 =>
  k_bv (f_X10_wake q5 y0 (0 : Int32) σ4) fun σ6 =>
  f_X10_plan_b120 FU y0 σ6
def f_X10_plan_b35_s  (r35 : Int32 → MSt → Option MSt) (x1 : Int32) (σ : MSt) : Option MSt :=
  if (8 : Int32) ≤ x1 then
  (if (σ.1 50 5) = (-1 : Int32) then
  (f_X10_plan_b97 (0 : Int32) σ)
  else
  (f_X10_plan_b97 (k_max (0 : Int32) ((σ.1 50 6) - (σ.1 50 3))) σ))
  else
  (k_ck (k_inb x1 8) <|
  k_nm (mI σ 74 (x1).toNatClampNeg (-1 : Int32)) fun σ1 =>
  k_ck (k_inb x1 8) <|
  k_nm (mI σ1 75 (x1).toNatClampNeg (1000 : Int32)) fun σ2 =>
  k_nm (x1 + (1 : Int32)) fun u3 =>
  r35 u3 σ2)
def f_X10_plan_b35  : Nat → Int32 → MSt → Option MSt
  | 0 => fun _ _ => none
  | n + 1 => f_X10_plan_b35_s (f_X10_plan_b35 n)
def f_X10_plan_b2_s  (r2 : Int32 → MSt → Option MSt) (x1 : Int32) (σ : MSt) : Option MSt :=
  if (488 : Int32) ≤ x1 then
  (f_X10_plan_b35 FU (0 : Int32) σ)
  else
  (k_ck (k_inb x1 488) <|
  k_nm (mI σ 76 (x1).toNatClampNeg (1000 : Int32)) fun σ1 =>
  k_ck (k_inb x1 488) <|
  k_nm (mI σ1 77 (x1).toNatClampNeg (0 : Int32)) fun σ2 =>
  k_nm (x1 + (1 : Int32)) fun u3 =>
  r2 u3 σ2)
def f_X10_plan_b2  : Nat → Int32 → MSt → Option MSt
  | 0 => fun _ _ => none
  | n + 1 => f_X10_plan_b2_s (f_X10_plan_b2 n)
def f_X10_plan   (σ : MSt) : Option MSt :=
  f_X10_plan_b2 FU (0 : Int32) σ
def rmX10_plan : Room := { frames := 6, cells := 0, slots := 0, locals := 144 }
set_option maxHeartbeats 4000000 in
set_option maxRecDepth 100000 in
theorem c_X10_plan (l : Launch) (G : va_G) (Y : CY) (w : MSt → va_W) (ad : Nat → Nat)  (LC : LayC ad w Y)  (σ : MSt) (σ' : MSt) (hf : f_X10_plan σ = some σ') : k_Mv l yX10_plan wsX10_plan rmX10_plan G Y w [.ref (ad 73)] σ σ' := by
  refine k_ofv (own := RX10) (cc := cX10_plan) (maxL := 4) none (by decide) rfl rfl (Nat.le_of_ble_eq_true rfl) ?_
  intro p e s m below meth c A C ls hl hw
  have hx := C.1
  have hb := C.2.1
  have hown := C.2.2.2.2.1
  have hts := C.2.2.2.2.2.1
  have hks := C.2.2.2.2.2.2.1
  have hl : lv_has ls 4 [(0, .ref (ad 73))] := hl
  have b120 : ∀ (n120 : Nat) (x2 : Int32) (σ : MSt) (H : Heap) (locs : List Loc) (ls : Array Slot), lv_has ls 4 [(0, .ref (ad 73)), (2, .int x2)] → k_W G w A s.heap σ H locs → f_X10_plan_b120 n120 x2 σ = some σ' → W p l e rmX10_plan s m [.ref (ad 73)].toArray below meth c H locs 0 0 (MQ below (k_Qv G w A σ') [.ref (ad 73)].toArray s 0 0 A) (F0 m 120 ls []) := by
    intro n120
    induction n120 with
    | zero =>
      intro x2 σ H locs ls hl hw hf
      have hf : (none : Option MSt) = some σ' := hf
      cases hf
    | succ n120 ih120 =>
      have b174 : ∀ (x2 : Int32) (σ : MSt) (H : Heap) (locs : List Loc) (ls : Array Slot), lv_has ls 4 [(0, .ref (ad 73)), (2, .int x2)] → k_W G w A s.heap σ H locs → f_X10_plan_b174 (f_X10_plan_b120 n120) x2 σ = some σ' → W p l e rmX10_plan s m [.ref (ad 73)].toArray below meth c H locs 0 0 (MQ below (k_Qv G w A σ') [.ref (ad 73)].toArray s 0 0 A) (F0 m 174 ls []) := by
        intro x2 σ H locs ls hl hw hf
        unfold f_X10_plan_b174 at hf
        obtain ⟨u1, ex⟩ : ∃ y : Int32, y = (x2 + (1 : Int32)) := ⟨_, rfl⟩
        have hf := k_nmE ex hf
        refine lv_iinc (v := u1) (lv' := [(2, .int u1), (0, .ref (ad 73))]) hx hb dX10_plan_174 hl (k := 1) rfl (by rw [ex]; rfl) (by decide) rfl (fun ls hl => ?_)
        refine lv_goto (tgt := 120) hx hb dX10_plan_177 (by decide) ?_
        exact ih120 u1 σ _ _ _ (lv_sub hl [1, 0] rfl) hw hf
      have b128 : ∀ (n128 : Nat) (x2 : Int32) (x3 : Int32) (σ : MSt) (H : Heap) (locs : List Loc) (ls : Array Slot), lv_has ls 4 [(0, .ref (ad 73)), (2, .int x2), (3, .int x3)] → k_W G w A s.heap σ H locs → f_X10_plan_b128 (f_X10_plan_b120 n120) n128 x2 x3 σ = some σ' → W p l e rmX10_plan s m [.ref (ad 73)].toArray below meth c H locs 0 0 (MQ below (k_Qv G w A σ') [.ref (ad 73)].toArray s 0 0 A) (F0 m 128 ls []) := by
        intro n128
        induction n128 with
        | zero =>
          intro x2 x3 σ H locs ls hl hw hf
          have hf : (none : Option MSt) = some σ' := hf
          cases hf
        | succ n128 ih128 =>
          have b168 : ∀ (x2 : Int32) (x3 : Int32) (σ : MSt) (H : Heap) (locs : List Loc) (ls : Array Slot), lv_has ls 4 [(0, .ref (ad 73)), (2, .int x2), (3, .int x3)] → k_W G w A s.heap σ H locs → f_X10_plan_b168 (f_X10_plan_b120 n120) (f_X10_plan_b128 (f_X10_plan_b120 n120) n128) x2 x3 σ = some σ' → W p l e rmX10_plan s m [.ref (ad 73)].toArray below meth c H locs 0 0 (MQ below (k_Qv G w A σ') [.ref (ad 73)].toArray s 0 0 A) (F0 m 168 ls []) := by
            intro x2 x3 σ H locs ls hl hw hf
            unfold f_X10_plan_b168 at hf
            obtain ⟨u1, ex⟩ : ∃ y : Int32, y = (x3 + (1 : Int32)) := ⟨_, rfl⟩
            have hf := k_nmE ex hf
            refine lv_iinc (v := u1) (lv' := [(3, .int u1), (0, .ref (ad 73)), (2, .int x2)]) hx hb dX10_plan_168 hl (k := 2) rfl (by rw [ex]; rfl) (by decide) rfl (fun ls hl => ?_)
            refine lv_goto (tgt := 128) hx hb dX10_plan_171 (by decide) ?_
            exact ih128 x2 u1 σ _ _ _ (lv_sub hl [1, 2, 0] rfl) hw hf
          intro x2 x3 σ H locs ls hl hw hf
          have hf : f_X10_plan_b128_s (f_X10_plan_b120 n120) (f_X10_plan_b128 (f_X10_plan_b120 n120) n128) x2 x3 σ = some σ' := hf
          unfold f_X10_plan_b128_s at hf
          refine lv_iload_n hx hb dX10_plan_128 rfl (lv_at hl 2 rfl) ?_
          refine lv_aload_n hx hb dX10_plan_129 rfl (lv_at hl 0 rfl) ?_
          refine k_get C hw (LC_73 LC) (ci := 10) rfl k_in10 0 (by decide) lk10_24 (v := .ref (ad 10)) rfl dX10_plan_130 ?_
          refine k_getN C hw (LC_10 LC) (ci := 0) rfl k_in0 7 (by decide) ln10_65 (v := .int (σ.1 10 7)) rfl dX10_plan_133 ?_
          refine lv_icmp_ge (tgt := 174) hx hb dX10_plan_136 (by decide) (fun h => ?_) (fun h => ?_)
          · have hf := k_ifT h hf
            exact b174 x2 σ _ _ _ (lv_sub hl [0, 1] rfl) hw hf
          · have hf := k_ifF h hf
            refine lv_iload_n hx hb dX10_plan_139 rfl (lv_at hl 2 rfl) ?_
            refine lv_bipush (v := (8 : Int32)) hx hb dX10_plan_140 (by decide) ?_
            refine lv_icmp_ge (tgt := 174) hx hb dX10_plan_142 (by decide) (fun h => ?_) (fun h => ?_)
            · have hf := k_ifT h hf
              exact b174 x2 σ _ _ _ (lv_sub hl [0, 1] rfl) hw hf
            · have hf := k_ifF h hf
              refine lv_aload_n hx hb dX10_plan_145 rfl (lv_at hl 0 rfl) ?_
              refine k_get C hw (LC_73 LC) (ci := 10) rfl k_in10 5 (by decide) lk10_18 (v := .ref (ad 76)) rfl dX10_plan_146 ?_
              refine lv_iload_n hx hb dX10_plan_149 rfl (lv_at hl 1 rfl) ?_
              refine lv_bipush (v := (8 : Int32)) hx hb dX10_plan_150 (by decide) ?_
              refine lv_imul hx hb dX10_plan_152 ?_
              refine lv_iload_n hx hb dX10_plan_153 rfl (lv_at hl 2 rfl) ?_
              refine lv_iadd hx hb dX10_plan_154 ?_
              obtain ⟨hi, hf⟩ := k_ckE hf
              refine k_iald C hw (LC_76 LC) hi dX10_plan_155 ?_
              refine lv_sipush (v := (1000 : Int32)) hx hb dX10_plan_156 (by decide) ?_
              refine lv_icmp_eq (tgt := 168) hx hb dX10_plan_159 (by decide) (fun h => ?_) (fun h => ?_)
              · have hf := k_ifT h hf
                exact b168 x2 x3 σ _ _ _ (lv_sub hl [0, 1, 2] rfl) hw hf
              · have hf := k_ifF h hf
                refine lv_aload_n hx hb dX10_plan_162 rfl (lv_at hl 0 rfl) ?_
                refine lv_iload_n hx hb dX10_plan_163 rfl (lv_at hl 2 rfl) ?_
                refine lv_iload_n hx hb dX10_plan_164 rfl (lv_at hl 1 rfl) ?_
                obtain ⟨σ1, hq, hf⟩ := k_bvE hf
                refine k_callVv C hw (c_X10_goOn l G Y w ad LC x3 x2 σ σ1 hq) (cwV 2 hts gX10_plan_X10_goOn rfl rfl rfl (by decide +kernel) ⟨Nat.le_of_ble_eq_true rfl, Nat.le_of_ble_eq_true rfl⟩) (k_recv C hw (LC_73 LC) rfl) rfl hl.1 rfl (Nat.le_of_ble_eq_true rfl) dX10_plan_165 (fun H locs hw => ?_)
                exact b168 x2 x3 σ1 _ _ _ (lv_sub hl [0, 1, 2] rfl) hw hf
      intro x2 σ H locs ls hl hw hf
      have hf : f_X10_plan_b120_s (f_X10_plan_b120 n120) x2 σ = some σ' := hf
      unfold f_X10_plan_b120_s at hf
      refine lv_iload_n hx hb dX10_plan_120 rfl (lv_at hl 1 rfl) ?_
      refine lv_bipush (v := (60 : Int32)) hx hb dX10_plan_121 (by decide) ?_
      refine lv_icmp_gt (tgt := 180) hx hb dX10_plan_123 (by decide) (fun h => ?_) (fun h => ?_)
      · have hf := k_ifT h hf
        exact k_vret C hw hf dX10_plan_180
      · have hf := k_ifF h hf
        refine lv_iconst (v := (0 : Int32)) hx hb dX10_plan_126 (by decide) ?_
        refine lv_istore_n (lv' := [(3, .int (0 : Int32)), (0, .ref (ad 73)), (2, .int x2)]) hx hb dX10_plan_127 rfl hl (by decide) rfl (fun ls hl => ?_)
        exact b128 FU x2 (0 : Int32) σ _ _ _ (lv_sub hl [1, 2, 0] rfl) hw hf
  have b97 : ∀ (y0 : Int32) (σ : MSt) (H : Heap) (locs : List Loc) (ls : Array Slot), lv_has ls 4 [(0, .ref (ad 73))] → k_W G w A s.heap σ H locs → f_X10_plan_b97 y0 σ = some σ' → W p l e rmX10_plan s m [.ref (ad 73)].toArray below meth c H locs 0 0 (MQ below (k_Qv G w A σ') [.ref (ad 73)].toArray s 0 0 A) (F0 m 97 ls [.int y0]) := by
    intro y0 σ H locs ls hl hw hf
    unfold f_X10_plan_b97 at hf
    refine lv_istore_n (lv' := [(1, .int y0), (0, .ref (ad 73))]) hx hb dX10_plan_97 rfl hl (by decide) rfl (fun ls hl => ?_)
    refine lv_aload_n hx hb dX10_plan_98 rfl (lv_at hl 1 rfl) ?_
    refine lv_aload_n hx hb dX10_plan_99 rfl (lv_at hl 1 rfl) ?_
    obtain ⟨q2, σ1, hq, hf⟩ := k_bdE hf
    refine k_callVi C hw (c_X10_startBay l G Y w ad LC σ q2 σ1 hq) (cwV 0 hts gX10_plan_X10_startBay rfl rfl rfl (by decide +kernel) ⟨Nat.le_of_ble_eq_true rfl, Nat.le_of_ble_eq_true rfl⟩) (k_recv C hw (LC_73 LC) rfl) rfl hl.1 rfl (Nat.le_of_ble_eq_true rfl) dX10_plan_100 (fun H locs hw => ?_)
    refine lv_iload_n hx hb dX10_plan_103 rfl (lv_at hl 0 rfl) ?_
    refine lv_iconst (v := (0 : Int32)) hx hb dX10_plan_104 (by decide) ?_
    obtain ⟨σ3, hq, hf⟩ := k_bvE hf
    refine k_callVv C hw (c_X10_reach l G Y w ad LC q2 y0 (0 : Int32) σ1 σ3 hq) (cwV 3 hts gX10_plan_X10_reach rfl rfl rfl (by decide +kernel) ⟨Nat.le_of_ble_eq_true rfl, Nat.le_of_ble_eq_true rfl⟩) (k_recv C hw (LC_73 LC) rfl) rfl hl.1 rfl (Nat.le_of_ble_eq_true rfl) dX10_plan_105 (fun H locs hw => ?_)
    refine lv_aload_n hx hb dX10_plan_108 rfl (lv_at hl 1 rfl) ?_
    refine lv_aload_n hx hb dX10_plan_109 rfl (lv_at hl 1 rfl) ?_
    obtain ⟨q5, σ4, hq, hf⟩ := k_bdE hf
    refine k_callVi C hw (c_X10_startBay l G Y w ad LC σ3 q5 σ4 hq) (cwV 0 hts gX10_plan_X10_startBay rfl rfl rfl (by decide +kernel) ⟨Nat.le_of_ble_eq_true rfl, Nat.le_of_ble_eq_true rfl⟩) (k_recv C hw (LC_73 LC) rfl) rfl hl.1 rfl (Nat.le_of_ble_eq_true rfl) dX10_plan_110 (fun H locs hw => ?_)
    refine lv_iload_n hx hb dX10_plan_113 rfl (lv_at hl 0 rfl) ?_
    refine lv_iconst (v := (0 : Int32)) hx hb dX10_plan_114 (by decide) ?_
    obtain ⟨σ6, hq, hf⟩ := k_bvE hf
    refine k_callVv C hw (c_X10_wake l G Y w ad LC q5 y0 (0 : Int32) σ4 σ6 hq) (cwV 3 hts gX10_plan_X10_wake rfl rfl rfl (by decide +kernel) ⟨Nat.le_of_ble_eq_true rfl, Nat.le_of_ble_eq_true rfl⟩) (k_recv C hw (LC_73 LC) rfl) rfl hl.1 rfl (Nat.le_of_ble_eq_true rfl) dX10_plan_115 (fun H locs hw => ?_)
    refine lv_iload_n hx hb dX10_plan_118 rfl (lv_at hl 0 rfl) ?_
    refine lv_istore_n (lv' := [(2, .int y0), (1, .int y0), (0, .ref (ad 73))]) hx hb dX10_plan_119 rfl hl (by decide) rfl (fun ls hl => ?_)
    exact b120 FU y0 σ6 _ _ _ (lv_sub hl [2, 0] rfl) hw hf
  have b35 : ∀ (n35 : Nat) (x1 : Int32) (σ : MSt) (H : Heap) (locs : List Loc) (ls : Array Slot), lv_has ls 4 [(0, .ref (ad 73)), (1, .int x1)] → k_W G w A s.heap σ H locs → f_X10_plan_b35 n35 x1 σ = some σ' → W p l e rmX10_plan s m [.ref (ad 73)].toArray below meth c H locs 0 0 (MQ below (k_Qv G w A σ') [.ref (ad 73)].toArray s 0 0 A) (F0 m 35 ls []) := by
    intro n35
    induction n35 with
    | zero =>
      intro x1 σ H locs ls hl hw hf
      have hf : (none : Option MSt) = some σ' := hf
      cases hf
    | succ n35 ih35 =>
      intro x1 σ H locs ls hl hw hf
      have hf : f_X10_plan_b35_s (f_X10_plan_b35 n35) x1 σ = some σ' := hf
      unfold f_X10_plan_b35_s at hf
      refine lv_iload_n hx hb dX10_plan_35 rfl (lv_at hl 1 rfl) ?_
      refine lv_bipush (v := (8 : Int32)) hx hb dX10_plan_36 (by decide) ?_
      refine lv_icmp_ge (tgt := 63) hx hb dX10_plan_38 (by decide) (fun h => ?_) (fun h => ?_)
      · have hf := k_ifT h hf
        refine lv_aload_n hx hb dX10_plan_63 rfl (lv_at hl 0 rfl) ?_
        refine k_get C hw (LC_73 LC) (ci := 10) rfl k_in10 1 (by decide) lk10_28 (v := .ref (ad 50)) rfl dX10_plan_64 ?_
        refine k_getN C hw (LC_50 LC) (ci := 5) rfl k_in5 5 (by decide) ln10_36 (v := .int (σ.1 50 5)) rfl dX10_plan_67 ?_
        refine lv_iconst (v := (-1 : Int32)) hx hb dX10_plan_70 (by decide) ?_
        refine lv_icmp_ne (tgt := 78) hx hb dX10_plan_71 (by decide) (fun h => ?_) (fun h => ?_)
        · have hf := k_ifF h hf
          refine lv_iconst (v := (0 : Int32)) hx hb dX10_plan_78 (by decide) ?_
          refine lv_aload_n hx hb dX10_plan_79 rfl (lv_at hl 0 rfl) ?_
          refine k_get C hw (LC_73 LC) (ci := 10) rfl k_in10 1 (by decide) lk10_28 (v := .ref (ad 50)) rfl dX10_plan_80 ?_
          refine k_getN C hw (LC_50 LC) (ci := 5) rfl k_in5 6 (by decide) ln10_42 (v := .int (σ.1 50 6)) rfl dX10_plan_83 ?_
          refine lv_aload_n hx hb dX10_plan_86 rfl (lv_at hl 0 rfl) ?_
          refine k_get C hw (LC_73 LC) (ci := 10) rfl k_in10 1 (by decide) lk10_28 (v := .ref (ad 50)) rfl dX10_plan_87 ?_
          refine k_getN C hw (LC_50 LC) (ci := 5) rfl k_in5 3 (by decide) ln10_45 (v := .int (σ.1 50 3)) rfl dX10_plan_90 ?_
          refine lv_isub hx hb dX10_plan_93 ?_
          refine k_mmax C hl.1 ml10_48 ms_Lib_Math_max_name mi_Math mc_Lib_Math_max_name (Nat.le_of_ble_eq_true rfl) (Nat.le_of_ble_eq_true rfl) dX10_plan_94 ?_
          exact b97 (k_max (0 : Int32) ((σ.1 50 6) - (σ.1 50 3))) σ _ _ _ (lv_sub hl [0] rfl) hw hf
        · have hf := k_ifT h hf
          refine lv_iconst (v := (0 : Int32)) hx hb dX10_plan_74 (by decide) ?_
          refine lv_goto (tgt := 97) hx hb dX10_plan_75 (by decide) ?_
          exact b97 (0 : Int32) σ _ _ _ (lv_sub hl [0] rfl) hw hf
      · have hf := k_ifF h hf
        refine lv_aload_n hx hb dX10_plan_41 rfl (lv_at hl 0 rfl) ?_
        refine k_get C hw (LC_73 LC) (ci := 10) rfl k_in10 3 (by decide) lk10_9 (v := .ref (ad 74)) rfl dX10_plan_42 ?_
        refine lv_iload_n hx hb dX10_plan_45 rfl (lv_at hl 1 rfl) ?_
        refine lv_iconst (v := (-1 : Int32)) hx hb dX10_plan_46 (by decide) ?_
        obtain ⟨hi, hf⟩ := k_ckE hf
        refine k_iast C hw (LC_74 LC) hi dX10_plan_47 (fun σ1 eq H locs hw => ?_)
        have hf := k_nmE eq hf
        refine lv_aload_n hx hb dX10_plan_48 rfl (lv_at hl 0 rfl) ?_
        refine k_get C hw (LC_73 LC) (ci := 10) rfl k_in10 4 (by decide) lk10_15 (v := .ref (ad 75)) rfl dX10_plan_49 ?_
        refine lv_iload_n hx hb dX10_plan_52 rfl (lv_at hl 1 rfl) ?_
        refine lv_sipush (v := (1000 : Int32)) hx hb dX10_plan_53 (by decide) ?_
        obtain ⟨hi, hf⟩ := k_ckE hf
        refine k_iast C hw (LC_75 LC) hi dX10_plan_56 (fun σ2 eq H locs hw => ?_)
        have hf := k_nmE eq hf
        obtain ⟨u3, ex⟩ : ∃ y : Int32, y = (x1 + (1 : Int32)) := ⟨_, rfl⟩
        have hf := k_nmE ex hf
        refine lv_iinc (v := u3) (lv' := [(1, .int u3), (0, .ref (ad 73))]) hx hb dX10_plan_57 hl (k := 1) rfl (by rw [ex]; rfl) (by decide) rfl (fun ls hl => ?_)
        refine lv_goto (tgt := 35) hx hb dX10_plan_60 (by decide) ?_
        exact ih35 u3 σ2 _ _ _ (lv_sub hl [1, 0] rfl) hw hf
  have b2 : ∀ (n2 : Nat) (x1 : Int32) (σ : MSt) (H : Heap) (locs : List Loc) (ls : Array Slot), lv_has ls 4 [(0, .ref (ad 73)), (1, .int x1)] → k_W G w A s.heap σ H locs → f_X10_plan_b2 n2 x1 σ = some σ' → W p l e rmX10_plan s m [.ref (ad 73)].toArray below meth c H locs 0 0 (MQ below (k_Qv G w A σ') [.ref (ad 73)].toArray s 0 0 A) (F0 m 2 ls []) := by
    intro n2
    induction n2 with
    | zero =>
      intro x1 σ H locs ls hl hw hf
      have hf : (none : Option MSt) = some σ' := hf
      cases hf
    | succ n2 ih2 =>
      intro x1 σ H locs ls hl hw hf
      have hf : f_X10_plan_b2_s (f_X10_plan_b2 n2) x1 σ = some σ' := hf
      unfold f_X10_plan_b2_s at hf
      refine lv_iload_n hx hb dX10_plan_2 rfl (lv_at hl 1 rfl) ?_
      refine lv_aload_n hx hb dX10_plan_3 rfl (lv_at hl 0 rfl) ?_
      refine k_get C hw (LC_73 LC) (ci := 10) rfl k_in10 5 (by decide) lk10_18 (v := .ref (ad 76)) rfl dX10_plan_4 ?_
      refine k_alen C hw (LC_76 LC) (v := (488 : Int32)) (by decide) dX10_plan_7 ?_
      refine lv_icmp_ge (tgt := 33) hx hb dX10_plan_8 (by decide) (fun h => ?_) (fun h => ?_)
      · have hf := k_ifT h hf
        refine lv_iconst (v := (0 : Int32)) hx hb dX10_plan_33 (by decide) ?_
        refine lv_istore_n (lv' := [(1, .int (0 : Int32)), (0, .ref (ad 73))]) hx hb dX10_plan_34 rfl hl (by decide) rfl (fun ls hl => ?_)
        exact b35 FU (0 : Int32) σ _ _ _ (lv_sub hl [1, 0] rfl) hw hf
      · have hf := k_ifF h hf
        refine lv_aload_n hx hb dX10_plan_11 rfl (lv_at hl 0 rfl) ?_
        refine k_get C hw (LC_73 LC) (ci := 10) rfl k_in10 5 (by decide) lk10_18 (v := .ref (ad 76)) rfl dX10_plan_12 ?_
        refine lv_iload_n hx hb dX10_plan_15 rfl (lv_at hl 1 rfl) ?_
        refine lv_sipush (v := (1000 : Int32)) hx hb dX10_plan_16 (by decide) ?_
        obtain ⟨hi, hf⟩ := k_ckE hf
        refine k_iast C hw (LC_76 LC) hi dX10_plan_19 (fun σ1 eq H locs hw => ?_)
        have hf := k_nmE eq hf
        refine lv_aload_n hx hb dX10_plan_20 rfl (lv_at hl 0 rfl) ?_
        refine k_get C hw (LC_73 LC) (ci := 10) rfl k_in10 6 (by decide) lk10_21 (v := .ref (ad 77)) rfl dX10_plan_21 ?_
        refine lv_iload_n hx hb dX10_plan_24 rfl (lv_at hl 1 rfl) ?_
        refine lv_iconst (v := (0 : Int32)) hx hb dX10_plan_25 (by decide) ?_
        obtain ⟨hi, hf⟩ := k_ckE hf
        refine k_iast C hw (LC_77 LC) hi dX10_plan_26 (fun σ2 eq H locs hw => ?_)
        have hf := k_nmE eq hf
        obtain ⟨u3, ex⟩ : ∃ y : Int32, y = (x1 + (1 : Int32)) := ⟨_, rfl⟩
        have hf := k_nmE ex hf
        refine lv_iinc (v := u3) (lv' := [(1, .int u3), (0, .ref (ad 73))]) hx hb dX10_plan_27 hl (k := 1) rfl (by rw [ex]; rfl) (by decide) rfl (fun ls hl => ?_)
        refine lv_goto (tgt := 2) hx hb dX10_plan_30 (by decide) ?_
        exact ih2 u3 σ2 _ _ _ (lv_sub hl [1, 0] rfl) hw hf
  unfold f_X10_plan at hf
  refine lv_iconst (v := (0 : Int32)) hx hb dX10_plan_0 (by decide) ?_
  refine lv_istore_n (lv' := [(1, .int (0 : Int32)), (0, .ref (ad 73))]) hx hb dX10_plan_1 rfl hl (by decide) rfl (fun ls hl => ?_)
  exact b2 FU (0 : Int32) σ _ _ _ (lv_sub hl [1, 0] rfl) hw hf
def f_X10_spread_b54   (σ : MSt) : Option MSt :=
  some σ
def f_X10_spread_b48  (r2 : Int32 → Int32 → Int32 → MSt → Option MSt) (x1 : Int32) (x2 : Int32) (x3 : Int32) (σ : MSt) : Option MSt :=
  k_nm (x3 + (1 : Int32)) fun u1 =>
  r2 x1 x2 u1 σ
def f_X10_spread_b2_s  (r2 : Int32 → Int32 → Int32 → MSt → Option MSt) (x1 : Int32) (x2 : Int32) (x3 : Int32) (σ : MSt) : Option MSt :=
  if (σ.1 10 7) ≤ x3 then
  (f_X10_spread_b54 σ)
  else
  (if (8 : Int32) ≤ x3 then
  (f_X10_spread_b54 σ)
  else
  (k_ck (k_inb x3 8) <|
  if (σ.1 75 (x3).toNatClampNeg) = (-1 : Int32) then
  (k_bd (f_X0_daysBetween 10 x1 x3 σ) fun q2 σ1 =>
  if q2 ≤ 0 then
  (f_X10_spread_b48 r2 x1 x2 x3 σ1)
  else
  (k_ck (k_inb x3 8) <|
  k_nm (mI σ1 75 (x3).toNatClampNeg x2) fun σ3 =>
  f_X10_spread_b48 r2 x1 x2 x3 σ3))
  else
  (f_X10_spread_b48 r2 x1 x2 x3 σ)))
def f_X10_spread_b2  : Nat → Int32 → Int32 → Int32 → MSt → Option MSt
  | 0 => fun _ _ _ _ => none
  | n + 1 => f_X10_spread_b2_s (f_X10_spread_b2 n)
def f_X10_spread  (p1 : Int32) (p2 : Int32) (σ : MSt) : Option MSt :=
  f_X10_spread_b2 FU p1 p2 (0 : Int32) σ
def rmX10_spread : Room := { frames := 2, cells := 0, slots := 0, locals := 43 }
set_option maxHeartbeats 4000000 in
set_option maxRecDepth 100000 in
theorem c_X10_spread (l : Launch) (G : va_G) (Y : CY) (w : MSt → va_W) (ad : Nat → Nat)  (LC : LayC ad w Y) (p1 : Int32) (p2 : Int32) (σ : MSt) (σ' : MSt) (hf : f_X10_spread p1 p2 σ = some σ') : k_Mv l yX10_spread wsX10_spread rmX10_spread G Y w [.ref (ad 73), .int p1, .int p2] σ σ' := by
  refine k_ofv (own := RX10) (cc := cX10_spread) (maxL := 4) none (by decide) rfl rfl (Nat.le_of_ble_eq_true rfl) ?_
  intro p e s m below meth c A C ls hl hw
  have hx := C.1
  have hb := C.2.1
  have hown := C.2.2.2.2.1
  have hts := C.2.2.2.2.2.1
  have hks := C.2.2.2.2.2.2.1
  have hl : lv_has ls 4 [(0, .ref (ad 73)), (1, .int p1), (2, .int p2)] := hl
  have b54 : ∀ (σ : MSt) (H : Heap) (locs : List Loc) (ls : Array Slot), lv_has ls 4 [] → k_W G w A s.heap σ H locs → f_X10_spread_b54 σ = some σ' → W p l e rmX10_spread s m [.ref (ad 73), .int p1, .int p2].toArray below meth c H locs 0 0 (MQ below (k_Qv G w A σ') [.ref (ad 73), .int p1, .int p2].toArray s 0 0 A) (F0 m 54 ls []) := by
    intro σ H locs ls hl hw hf
    unfold f_X10_spread_b54 at hf
    exact k_vret C hw hf dX10_spread_54
  have b2 : ∀ (n2 : Nat) (x1 : Int32) (x2 : Int32) (x3 : Int32) (σ : MSt) (H : Heap) (locs : List Loc) (ls : Array Slot), lv_has ls 4 [(0, .ref (ad 73)), (1, .int x1), (2, .int x2), (3, .int x3)] → k_W G w A s.heap σ H locs → f_X10_spread_b2 n2 x1 x2 x3 σ = some σ' → W p l e rmX10_spread s m [.ref (ad 73), .int p1, .int p2].toArray below meth c H locs 0 0 (MQ below (k_Qv G w A σ') [.ref (ad 73), .int p1, .int p2].toArray s 0 0 A) (F0 m 2 ls []) := by
    intro n2
    induction n2 with
    | zero =>
      intro x1 x2 x3 σ H locs ls hl hw hf
      have hf : (none : Option MSt) = some σ' := hf
      cases hf
    | succ n2 ih2 =>
      have b48 : ∀ (x1 : Int32) (x2 : Int32) (x3 : Int32) (σ : MSt) (H : Heap) (locs : List Loc) (ls : Array Slot), lv_has ls 4 [(0, .ref (ad 73)), (1, .int x1), (2, .int x2), (3, .int x3)] → k_W G w A s.heap σ H locs → f_X10_spread_b48 (f_X10_spread_b2 n2) x1 x2 x3 σ = some σ' → W p l e rmX10_spread s m [.ref (ad 73), .int p1, .int p2].toArray below meth c H locs 0 0 (MQ below (k_Qv G w A σ') [.ref (ad 73), .int p1, .int p2].toArray s 0 0 A) (F0 m 48 ls []) := by
        intro x1 x2 x3 σ H locs ls hl hw hf
        unfold f_X10_spread_b48 at hf
        obtain ⟨u1, ex⟩ : ∃ y : Int32, y = (x3 + (1 : Int32)) := ⟨_, rfl⟩
        have hf := k_nmE ex hf
        refine lv_iinc (v := u1) (lv' := [(3, .int u1), (0, .ref (ad 73)), (1, .int x1), (2, .int x2)]) hx hb dX10_spread_48 hl (k := 3) rfl (by rw [ex]; rfl) (by decide) rfl (fun ls hl => ?_)
        refine lv_goto (tgt := 2) hx hb dX10_spread_51 (by decide) ?_
        exact ih2 x1 x2 u1 σ _ _ _ (lv_sub hl [1, 2, 3, 0] rfl) hw hf
      intro x1 x2 x3 σ H locs ls hl hw hf
      have hf : f_X10_spread_b2_s (f_X10_spread_b2 n2) x1 x2 x3 σ = some σ' := hf
      unfold f_X10_spread_b2_s at hf
      refine lv_iload_n hx hb dX10_spread_2 rfl (lv_at hl 3 rfl) ?_
      refine lv_aload_n hx hb dX10_spread_3 rfl (lv_at hl 0 rfl) ?_
      refine k_get C hw (LC_73 LC) (ci := 10) rfl k_in10 0 (by decide) lk10_24 (v := .ref (ad 10)) rfl dX10_spread_4 ?_
      refine k_getN C hw (LC_10 LC) (ci := 0) rfl k_in0 7 (by decide) ln10_65 (v := .int (σ.1 10 7)) rfl dX10_spread_7 ?_
      refine lv_icmp_ge (tgt := 54) hx hb dX10_spread_10 (by decide) (fun h => ?_) (fun h => ?_)
      · have hf := k_ifT h hf
        exact b54 σ _ _ _ (lv_sub hl [] rfl) hw hf
      · have hf := k_ifF h hf
        refine lv_iload_n hx hb dX10_spread_13 rfl (lv_at hl 3 rfl) ?_
        refine lv_bipush (v := (8 : Int32)) hx hb dX10_spread_14 (by decide) ?_
        refine lv_icmp_ge (tgt := 54) hx hb dX10_spread_16 (by decide) (fun h => ?_) (fun h => ?_)
        · have hf := k_ifT h hf
          exact b54 σ _ _ _ (lv_sub hl [] rfl) hw hf
        · have hf := k_ifF h hf
          refine lv_aload_n hx hb dX10_spread_19 rfl (lv_at hl 0 rfl) ?_
          refine k_get C hw (LC_73 LC) (ci := 10) rfl k_in10 4 (by decide) lk10_15 (v := .ref (ad 75)) rfl dX10_spread_20 ?_
          refine lv_iload_n hx hb dX10_spread_23 rfl (lv_at hl 3 rfl) ?_
          obtain ⟨hi, hf⟩ := k_ckE hf
          refine k_iald C hw (LC_75 LC) hi dX10_spread_24 ?_
          refine lv_iconst (v := (-1 : Int32)) hx hb dX10_spread_25 (by decide) ?_
          refine lv_icmp_ne (tgt := 48) hx hb dX10_spread_26 (by decide) (fun h => ?_) (fun h => ?_)
          · have hf := k_ifF h hf
            exact b48 x1 x2 x3 σ _ _ _ (lv_sub hl [0, 1, 2, 3] rfl) hw hf
          · have hf := k_ifT h hf
            refine lv_aload_n hx hb dX10_spread_29 rfl (lv_at hl 0 rfl) ?_
            refine k_get C hw (LC_73 LC) (ci := 10) rfl k_in10 0 (by decide) lk10_24 (v := .ref (ad 10)) rfl dX10_spread_30 ?_
            refine lv_iload_n hx hb dX10_spread_33 rfl (lv_at hl 1 rfl) ?_
            refine lv_iload_n hx hb dX10_spread_34 rfl (lv_at hl 3 rfl) ?_
            obtain ⟨q2, σ1, hq, hf⟩ := k_bdE hf
            refine k_callVi C hw (c_X0_daysBetween l G Y w ad 10 (LCL_10 LC) x1 x3 σ q2 σ1 hq) (cwV 2 hts gX10_spread_X0_daysBetween rfl rfl rfl (by decide +kernel) ⟨Nat.le_of_ble_eq_true rfl, Nat.le_of_ble_eq_true rfl⟩) (k_recv C hw (LC_10 LC) rfl) rfl hl.1 rfl (Nat.le_of_ble_eq_true rfl) dX10_spread_35 (fun H locs hw => ?_)
            refine lv_if_le (tgt := 48) hx hb dX10_spread_38 (by decide) (fun h => ?_) (fun h => ?_)
            · have hf := k_ifT h hf
              exact b48 x1 x2 x3 σ1 _ _ _ (lv_sub hl [0, 1, 2, 3] rfl) hw hf
            · have hf := k_ifF h hf
              refine lv_aload_n hx hb dX10_spread_41 rfl (lv_at hl 0 rfl) ?_
              refine k_get C hw (LC_73 LC) (ci := 10) rfl k_in10 4 (by decide) lk10_15 (v := .ref (ad 75)) rfl dX10_spread_42 ?_
              refine lv_iload_n hx hb dX10_spread_45 rfl (lv_at hl 3 rfl) ?_
              refine lv_iload_n hx hb dX10_spread_46 rfl (lv_at hl 2 rfl) ?_
              obtain ⟨hi, hf⟩ := k_ckE hf
              refine k_iast C hw (LC_75 LC) hi dX10_spread_47 (fun σ3 eq H locs hw => ?_)
              have hf := k_nmE eq hf
              exact b48 x1 x2 x3 σ3 _ _ _ (lv_sub hl [0, 1, 2, 3] rfl) hw hf
  unfold f_X10_spread at hf
  refine lv_iconst (v := (0 : Int32)) hx hb dX10_spread_0 (by decide) ?_
  refine lv_istore_n (lv' := [(3, .int (0 : Int32)), (0, .ref (ad 73)), (1, .int p1), (2, .int p2)]) hx hb dX10_spread_1 rfl hl (by decide) rfl (fun ls hl => ?_)
  exact b2 FU p1 p2 (0 : Int32) σ _ _ _ (lv_sub hl [1, 2, 3, 0] rfl) hw hf
def f_X10_countLanes_b84  (r35 : Int32 → MSt → Option MSt) (x1 : Int32) (σ : MSt) : Option MSt :=
  k_nm (x1 + (1 : Int32)) fun u1 =>
  r35 u1 σ
def f_X10_countLanes_b78  (r35 : Int32 → MSt → Option MSt) (r43 : Int32 → Int32 → MSt → Option MSt) (x1 : Int32) (x2 : Int32) (σ : MSt) : Option MSt :=
  k_nm (x2 + (1 : Int32)) fun u1 =>
  r43 x1 u1 σ
def f_X10_countLanes_b43_s  (r35 : Int32 → MSt → Option MSt) (r43 : Int32 → Int32 → MSt → Option MSt) (x1 : Int32) (x2 : Int32) (σ : MSt) : Option MSt :=
  if (σ.1 10 7) ≤ x2 then
  (f_X10_countLanes_b84 r35 x1 σ)
  else
  (if (8 : Int32) ≤ x2 then
  (f_X10_countLanes_b84 r35 x1 σ)
  else
  (k_ck (k_inb x2 8) <|
  if (σ.1 75 (x2).toNatClampNeg) = x1 then
  (k_bv (f_X10_spread x2 (x1 + (1 : Int32)) σ) fun σ1 =>
  f_X10_countLanes_b78 r35 r43 x1 x2 σ1)
  else
  (f_X10_countLanes_b78 r35 r43 x1 x2 σ)))
def f_X10_countLanes_b43  (r35 : Int32 → MSt → Option MSt) : Nat → Int32 → Int32 → MSt → Option MSt
  | 0 => fun _ _ _ => none
  | n + 1 => f_X10_countLanes_b43_s r35 (f_X10_countLanes_b43 r35 n)
def f_X10_countLanes_b35_s  (r35 : Int32 → MSt → Option MSt) (x1 : Int32) (σ : MSt) : Option MSt :=
  if (8 : Int32) ≤ x1 then
  (some σ)
  else
  (f_X10_countLanes_b43 r35 FU x1 (0 : Int32) σ)
def f_X10_countLanes_b35  : Nat → Int32 → MSt → Option MSt
  | 0 => fun _ _ => none
  | n + 1 => f_X10_countLanes_b35_s (f_X10_countLanes_b35 n)
def f_X10_countLanes_b26  (r2 : Int32 → MSt → Option MSt) (x1 : Int32) (y1 : Int32) (y2 : Int32) (σ : MSt) : Option MSt :=
  k_ck (k_inb y1 8) <|
  k_nm (mI σ 75 (y1).toNatClampNeg y2) fun σ1 =>
  k_nm (x1 + (1 : Int32)) fun u2 =>
  r2 u2 σ1
def f_X10_countLanes_b2_s  (r2 : Int32 → MSt → Option MSt) (x1 : Int32) (σ : MSt) : Option MSt :=
  if (8 : Int32) ≤ x1 then
  (f_X10_countLanes_b35 FU (0 : Int32) σ)
  else
  (k_bd (f_X10_startBay σ) fun q2 σ1 =>
  if x1 = q2 then
  (f_X10_countLanes_b26 r2 x1 x1 (0 : Int32) σ1)
  else
  (f_X10_countLanes_b26 r2 x1 x1 (-1 : Int32) σ1))
def f_X10_countLanes_b2  : Nat → Int32 → MSt → Option MSt
  | 0 => fun _ _ => none
  | n + 1 => f_X10_countLanes_b2_s (f_X10_countLanes_b2 n)
def f_X10_countLanes   (σ : MSt) : Option MSt :=
  f_X10_countLanes_b2 FU (0 : Int32) σ
def rmX10_countLanes : Room := { frames := 3, cells := 0, slots := 0, locals := 66 }
set_option maxHeartbeats 4000000 in
set_option maxRecDepth 100000 in
theorem c_X10_countLanes (l : Launch) (G : va_G) (Y : CY) (w : MSt → va_W) (ad : Nat → Nat)  (LC : LayC ad w Y)  (σ : MSt) (σ' : MSt) (hf : f_X10_countLanes σ = some σ') : k_Mv l yX10_countLanes wsX10_countLanes rmX10_countLanes G Y w [.ref (ad 73)] σ σ' := by
  refine k_ofv (own := RX10) (cc := cX10_countLanes) (maxL := 3) none (by decide) rfl rfl (Nat.le_of_ble_eq_true rfl) ?_
  intro p e s m below meth c A C ls hl hw
  have hx := C.1
  have hb := C.2.1
  have hown := C.2.2.2.2.1
  have hts := C.2.2.2.2.2.1
  have hks := C.2.2.2.2.2.2.1
  have hl : lv_has ls 3 [(0, .ref (ad 73))] := hl
  have b35 : ∀ (n35 : Nat) (x1 : Int32) (σ : MSt) (H : Heap) (locs : List Loc) (ls : Array Slot), lv_has ls 3 [(0, .ref (ad 73)), (1, .int x1)] → k_W G w A s.heap σ H locs → f_X10_countLanes_b35 n35 x1 σ = some σ' → W p l e rmX10_countLanes s m [.ref (ad 73)].toArray below meth c H locs 0 0 (MQ below (k_Qv G w A σ') [.ref (ad 73)].toArray s 0 0 A) (F0 m 35 ls []) := by
    intro n35
    induction n35 with
    | zero =>
      intro x1 σ H locs ls hl hw hf
      have hf : (none : Option MSt) = some σ' := hf
      cases hf
    | succ n35 ih35 =>
      have b84 : ∀ (x1 : Int32) (σ : MSt) (H : Heap) (locs : List Loc) (ls : Array Slot), lv_has ls 3 [(0, .ref (ad 73)), (1, .int x1)] → k_W G w A s.heap σ H locs → f_X10_countLanes_b84 (f_X10_countLanes_b35 n35) x1 σ = some σ' → W p l e rmX10_countLanes s m [.ref (ad 73)].toArray below meth c H locs 0 0 (MQ below (k_Qv G w A σ') [.ref (ad 73)].toArray s 0 0 A) (F0 m 84 ls []) := by
        intro x1 σ H locs ls hl hw hf
        unfold f_X10_countLanes_b84 at hf
        obtain ⟨u1, ex⟩ : ∃ y : Int32, y = (x1 + (1 : Int32)) := ⟨_, rfl⟩
        have hf := k_nmE ex hf
        refine lv_iinc (v := u1) (lv' := [(1, .int u1), (0, .ref (ad 73))]) hx hb dX10_countLanes_84 hl (k := 1) rfl (by rw [ex]; rfl) (by decide) rfl (fun ls hl => ?_)
        refine lv_goto (tgt := 35) hx hb dX10_countLanes_87 (by decide) ?_
        exact ih35 u1 σ _ _ _ (lv_sub hl [1, 0] rfl) hw hf
      have b43 : ∀ (n43 : Nat) (x1 : Int32) (x2 : Int32) (σ : MSt) (H : Heap) (locs : List Loc) (ls : Array Slot), lv_has ls 3 [(0, .ref (ad 73)), (1, .int x1), (2, .int x2)] → k_W G w A s.heap σ H locs → f_X10_countLanes_b43 (f_X10_countLanes_b35 n35) n43 x1 x2 σ = some σ' → W p l e rmX10_countLanes s m [.ref (ad 73)].toArray below meth c H locs 0 0 (MQ below (k_Qv G w A σ') [.ref (ad 73)].toArray s 0 0 A) (F0 m 43 ls []) := by
        intro n43
        induction n43 with
        | zero =>
          intro x1 x2 σ H locs ls hl hw hf
          have hf : (none : Option MSt) = some σ' := hf
          cases hf
        | succ n43 ih43 =>
          have b78 : ∀ (x1 : Int32) (x2 : Int32) (σ : MSt) (H : Heap) (locs : List Loc) (ls : Array Slot), lv_has ls 3 [(0, .ref (ad 73)), (1, .int x1), (2, .int x2)] → k_W G w A s.heap σ H locs → f_X10_countLanes_b78 (f_X10_countLanes_b35 n35) (f_X10_countLanes_b43 (f_X10_countLanes_b35 n35) n43) x1 x2 σ = some σ' → W p l e rmX10_countLanes s m [.ref (ad 73)].toArray below meth c H locs 0 0 (MQ below (k_Qv G w A σ') [.ref (ad 73)].toArray s 0 0 A) (F0 m 78 ls []) := by
            intro x1 x2 σ H locs ls hl hw hf
            unfold f_X10_countLanes_b78 at hf
            obtain ⟨u1, ex⟩ : ∃ y : Int32, y = (x2 + (1 : Int32)) := ⟨_, rfl⟩
            have hf := k_nmE ex hf
            refine lv_iinc (v := u1) (lv' := [(2, .int u1), (0, .ref (ad 73)), (1, .int x1)]) hx hb dX10_countLanes_78 hl (k := 2) rfl (by rw [ex]; rfl) (by decide) rfl (fun ls hl => ?_)
            refine lv_goto (tgt := 43) hx hb dX10_countLanes_81 (by decide) ?_
            exact ih43 x1 u1 σ _ _ _ (lv_sub hl [1, 2, 0] rfl) hw hf
          intro x1 x2 σ H locs ls hl hw hf
          have hf : f_X10_countLanes_b43_s (f_X10_countLanes_b35 n35) (f_X10_countLanes_b43 (f_X10_countLanes_b35 n35) n43) x1 x2 σ = some σ' := hf
          unfold f_X10_countLanes_b43_s at hf
          refine lv_iload_n hx hb dX10_countLanes_43 rfl (lv_at hl 2 rfl) ?_
          refine lv_aload_n hx hb dX10_countLanes_44 rfl (lv_at hl 0 rfl) ?_
          refine k_get C hw (LC_73 LC) (ci := 10) rfl k_in10 0 (by decide) lk10_24 (v := .ref (ad 10)) rfl dX10_countLanes_45 ?_
          refine k_getN C hw (LC_10 LC) (ci := 0) rfl k_in0 7 (by decide) ln10_65 (v := .int (σ.1 10 7)) rfl dX10_countLanes_48 ?_
          refine lv_icmp_ge (tgt := 84) hx hb dX10_countLanes_51 (by decide) (fun h => ?_) (fun h => ?_)
          · have hf := k_ifT h hf
            exact b84 x1 σ _ _ _ (lv_sub hl [0, 1] rfl) hw hf
          · have hf := k_ifF h hf
            refine lv_iload_n hx hb dX10_countLanes_54 rfl (lv_at hl 2 rfl) ?_
            refine lv_bipush (v := (8 : Int32)) hx hb dX10_countLanes_55 (by decide) ?_
            refine lv_icmp_ge (tgt := 84) hx hb dX10_countLanes_57 (by decide) (fun h => ?_) (fun h => ?_)
            · have hf := k_ifT h hf
              exact b84 x1 σ _ _ _ (lv_sub hl [0, 1] rfl) hw hf
            · have hf := k_ifF h hf
              refine lv_aload_n hx hb dX10_countLanes_60 rfl (lv_at hl 0 rfl) ?_
              refine k_get C hw (LC_73 LC) (ci := 10) rfl k_in10 4 (by decide) lk10_15 (v := .ref (ad 75)) rfl dX10_countLanes_61 ?_
              refine lv_iload_n hx hb dX10_countLanes_64 rfl (lv_at hl 2 rfl) ?_
              obtain ⟨hi, hf⟩ := k_ckE hf
              refine k_iald C hw (LC_75 LC) hi dX10_countLanes_65 ?_
              refine lv_iload_n hx hb dX10_countLanes_66 rfl (lv_at hl 1 rfl) ?_
              refine lv_icmp_ne (tgt := 78) hx hb dX10_countLanes_67 (by decide) (fun h => ?_) (fun h => ?_)
              · have hf := k_ifF h hf
                exact b78 x1 x2 σ _ _ _ (lv_sub hl [0, 1, 2] rfl) hw hf
              · have hf := k_ifT h hf
                refine lv_aload_n hx hb dX10_countLanes_70 rfl (lv_at hl 0 rfl) ?_
                refine lv_iload_n hx hb dX10_countLanes_71 rfl (lv_at hl 2 rfl) ?_
                refine lv_iload_n hx hb dX10_countLanes_72 rfl (lv_at hl 1 rfl) ?_
                refine lv_iconst (v := (1 : Int32)) hx hb dX10_countLanes_73 (by decide) ?_
                refine lv_iadd hx hb dX10_countLanes_74 ?_
                obtain ⟨σ1, hq, hf⟩ := k_bvE hf
                refine k_callVv C hw (c_X10_spread l G Y w ad LC x2 (x1 + (1 : Int32)) σ σ1 hq) (cwV 2 hts gX10_countLanes_X10_spread rfl rfl rfl (by decide +kernel) ⟨Nat.le_of_ble_eq_true rfl, Nat.le_of_ble_eq_true rfl⟩) (k_recv C hw (LC_73 LC) rfl) rfl hl.1 rfl (Nat.le_of_ble_eq_true rfl) dX10_countLanes_75 (fun H locs hw => ?_)
                exact b78 x1 x2 σ1 _ _ _ (lv_sub hl [0, 1, 2] rfl) hw hf
      intro x1 σ H locs ls hl hw hf
      have hf : f_X10_countLanes_b35_s (f_X10_countLanes_b35 n35) x1 σ = some σ' := hf
      unfold f_X10_countLanes_b35_s at hf
      refine lv_iload_n hx hb dX10_countLanes_35 rfl (lv_at hl 1 rfl) ?_
      refine lv_bipush (v := (8 : Int32)) hx hb dX10_countLanes_36 (by decide) ?_
      refine lv_icmp_ge (tgt := 90) hx hb dX10_countLanes_38 (by decide) (fun h => ?_) (fun h => ?_)
      · have hf := k_ifT h hf
        exact k_vret C hw hf dX10_countLanes_90
      · have hf := k_ifF h hf
        refine lv_iconst (v := (0 : Int32)) hx hb dX10_countLanes_41 (by decide) ?_
        refine lv_istore_n (lv' := [(2, .int (0 : Int32)), (0, .ref (ad 73)), (1, .int x1)]) hx hb dX10_countLanes_42 rfl hl (by decide) rfl (fun ls hl => ?_)
        exact b43 FU x1 (0 : Int32) σ _ _ _ (lv_sub hl [1, 2, 0] rfl) hw hf
  have b2 : ∀ (n2 : Nat) (x1 : Int32) (σ : MSt) (H : Heap) (locs : List Loc) (ls : Array Slot), lv_has ls 3 [(0, .ref (ad 73)), (1, .int x1)] → k_W G w A s.heap σ H locs → f_X10_countLanes_b2 n2 x1 σ = some σ' → W p l e rmX10_countLanes s m [.ref (ad 73)].toArray below meth c H locs 0 0 (MQ below (k_Qv G w A σ') [.ref (ad 73)].toArray s 0 0 A) (F0 m 2 ls []) := by
    intro n2
    induction n2 with
    | zero =>
      intro x1 σ H locs ls hl hw hf
      have hf : (none : Option MSt) = some σ' := hf
      cases hf
    | succ n2 ih2 =>
      have b26 : ∀ (x1 : Int32) (y1 : Int32) (y2 : Int32) (σ : MSt) (H : Heap) (locs : List Loc) (ls : Array Slot), lv_has ls 3 [(0, .ref (ad 73)), (1, .int x1)] → k_W G w A s.heap σ H locs → f_X10_countLanes_b26 (f_X10_countLanes_b2 n2) x1 y1 y2 σ = some σ' → W p l e rmX10_countLanes s m [.ref (ad 73)].toArray below meth c H locs 0 0 (MQ below (k_Qv G w A σ') [.ref (ad 73)].toArray s 0 0 A) (F0 m 26 ls [.int y2, .int y1, .ref (ad 75)]) := by
        intro x1 y1 y2 σ H locs ls hl hw hf
        unfold f_X10_countLanes_b26 at hf
        obtain ⟨hi, hf⟩ := k_ckE hf
        refine k_iast C hw (LC_75 LC) hi dX10_countLanes_26 (fun σ1 eq H locs hw => ?_)
        have hf := k_nmE eq hf
        obtain ⟨u2, ex⟩ : ∃ y : Int32, y = (x1 + (1 : Int32)) := ⟨_, rfl⟩
        have hf := k_nmE ex hf
        refine lv_iinc (v := u2) (lv' := [(1, .int u2), (0, .ref (ad 73))]) hx hb dX10_countLanes_27 hl (k := 1) rfl (by rw [ex]; rfl) (by decide) rfl (fun ls hl => ?_)
        refine lv_goto (tgt := 2) hx hb dX10_countLanes_30 (by decide) ?_
        exact ih2 u2 σ1 _ _ _ (lv_sub hl [1, 0] rfl) hw hf
      intro x1 σ H locs ls hl hw hf
      have hf : f_X10_countLanes_b2_s (f_X10_countLanes_b2 n2) x1 σ = some σ' := hf
      unfold f_X10_countLanes_b2_s at hf
      refine lv_iload_n hx hb dX10_countLanes_2 rfl (lv_at hl 1 rfl) ?_
      refine lv_bipush (v := (8 : Int32)) hx hb dX10_countLanes_3 (by decide) ?_
      refine lv_icmp_ge (tgt := 33) hx hb dX10_countLanes_5 (by decide) (fun h => ?_) (fun h => ?_)
      · have hf := k_ifT h hf
        refine lv_iconst (v := (0 : Int32)) hx hb dX10_countLanes_33 (by decide) ?_
        refine lv_istore_n (lv' := [(1, .int (0 : Int32)), (0, .ref (ad 73))]) hx hb dX10_countLanes_34 rfl hl (by decide) rfl (fun ls hl => ?_)
        exact b35 FU (0 : Int32) σ _ _ _ (lv_sub hl [1, 0] rfl) hw hf
      · have hf := k_ifF h hf
        refine lv_aload_n hx hb dX10_countLanes_8 rfl (lv_at hl 0 rfl) ?_
        refine k_get C hw (LC_73 LC) (ci := 10) rfl k_in10 4 (by decide) lk10_15 (v := .ref (ad 75)) rfl dX10_countLanes_9 ?_
        refine lv_iload_n hx hb dX10_countLanes_12 rfl (lv_at hl 1 rfl) ?_
        refine lv_iload_n hx hb dX10_countLanes_13 rfl (lv_at hl 1 rfl) ?_
        refine lv_aload_n hx hb dX10_countLanes_14 rfl (lv_at hl 0 rfl) ?_
        obtain ⟨q2, σ1, hq, hf⟩ := k_bdE hf
        refine k_callVi C hw (c_X10_startBay l G Y w ad LC σ q2 σ1 hq) (cwV 0 hts gX10_countLanes_X10_startBay rfl rfl rfl (by decide +kernel) ⟨Nat.le_of_ble_eq_true rfl, Nat.le_of_ble_eq_true rfl⟩) (k_recv C hw (LC_73 LC) rfl) rfl hl.1 rfl (Nat.le_of_ble_eq_true rfl) dX10_countLanes_15 (fun H locs hw => ?_)
        refine lv_icmp_ne (tgt := 25) hx hb dX10_countLanes_18 (by decide) (fun h => ?_) (fun h => ?_)
        · have hf := k_ifF h hf
          refine lv_iconst (v := (-1 : Int32)) hx hb dX10_countLanes_25 (by decide) ?_
          exact b26 x1 x1 (-1 : Int32) σ1 _ _ _ (lv_sub hl [0, 1] rfl) hw hf
        · have hf := k_ifT h hf
          refine lv_iconst (v := (0 : Int32)) hx hb dX10_countLanes_21 (by decide) ?_
          refine lv_goto (tgt := 26) hx hb dX10_countLanes_22 (by decide) ?_
          exact b26 x1 x1 (0 : Int32) σ1 _ _ _ (lv_sub hl [0, 1] rfl) hw hf
  unfold f_X10_countLanes at hf
  refine lv_iconst (v := (0 : Int32)) hx hb dX10_countLanes_0 (by decide) ?_
  refine lv_istore_n (lv' := [(1, .int (0 : Int32)), (0, .ref (ad 73))]) hx hb dX10_countLanes_1 rfl hl (by decide) rfl (fun ls hl => ?_)
  exact b2 FU (0 : Int32) σ _ _ _ (lv_sub hl [1, 0] rfl) hw hf
def f_X11_feed  (p1 : Int32) (p2 : Int32) (p3 : Int32) (p4 : Int32) (p5 : Int32) (σ : MSt) : Option (Int32 × MSt) :=
  k_bd (f_X9_hasRoomFor (20 : Int32) σ) fun q2 σ1 =>
  if q2 = 0 then
  (some ((-1 : Int32), σ1))
  else
  (k_bv (f_X9_add p1 σ1) fun σ3 =>
  k_bv (f_X9_add p2 σ3) fun σ4 =>
  k_bv (f_X9_add p3 σ4) fun σ5 =>
  k_bv (f_X9_add p4 σ5) fun σ6 =>
  k_bv (f_X9_add p5 σ6) fun σ7 =>
  some ((σ7.1 1 5), σ7))
def rmX11_feed : Room := { frames := 1, cells := 0, slots := 0, locals := 22 }
set_option maxHeartbeats 4000000 in
set_option maxRecDepth 100000 in
theorem c_X11_feed (l : Launch) (G : va_G) (Y : CY) (w : MSt → va_W) (ad : Nat → Nat)  (LC : LayC ad w Y) (p1 : Int32) (p2 : Int32) (p3 : Int32) (p4 : Int32) (p5 : Int32) (σ : MSt) (r : Int32) (σ' : MSt) (hf : f_X11_feed p1 p2 p3 p4 p5 σ = some (r, σ')) : k_Mi l yX11_feed wsX11_feed rmX11_feed G Y w [.ref (ad 0), .int p1, .int p2, .int p3, .int p4, .int p5] σ r σ' := by
  refine k_ofi (own := RX11) (cc := cX11_feed) (maxL := 6) (some .int) (by decide) rfl rfl (Nat.le_of_ble_eq_true rfl) ?_
  intro p e s m below meth c A C ls hl hw
  have hx := C.1
  have hb := C.2.1
  have hown := C.2.2.2.2.1
  have hts := C.2.2.2.2.2.1
  have hks := C.2.2.2.2.2.2.1
  have hl : lv_has ls 6 [(0, .ref (ad 0)), (1, .int p1), (2, .int p2), (3, .int p3), (4, .int p4), (5, .int p5)] := hl
  unfold f_X11_feed at hf
  refine lv_aload_n hx hb dX11_feed_0 rfl (lv_at hl 0 rfl) ?_
  refine k_get C hw (LC_0 LC) (ci := 11) rfl k_in11 0 (by decide) lk11_10 (v := .ref (ad 1)) rfl dX11_feed_1 ?_
  refine lv_bipush (v := (20 : Int32)) hx hb dX11_feed_4 (by decide) ?_
  obtain ⟨q2, σ1, hq, hf⟩ := k_bdE hf
  refine k_callVi C hw (c_X9_hasRoomFor l G Y w ad LC (20 : Int32) σ q2 σ1 hq) (cwV 1 hts gX11_feed_X9_hasRoomFor rfl rfl rfl (by decide +kernel) ⟨Nat.le_of_ble_eq_true rfl, Nat.le_of_ble_eq_true rfl⟩) (k_recv C hw (LC_1 LC) rfl) rfl hl.1 rfl (Nat.le_of_ble_eq_true rfl) dX11_feed_6 (fun H locs hw => ?_)
  refine lv_if_ne (tgt := 14) hx hb dX11_feed_9 (by decide) (fun h => ?_) (fun h => ?_)
  · have hf := k_ifF h hf
    refine lv_aload_n hx hb dX11_feed_14 rfl (lv_at hl 0 rfl) ?_
    refine k_get C hw (LC_0 LC) (ci := 11) rfl k_in11 0 (by decide) lk11_10 (v := .ref (ad 1)) rfl dX11_feed_15 ?_
    refine lv_iload_n hx hb dX11_feed_18 rfl (lv_at hl 1 rfl) ?_
    obtain ⟨σ3, hq, hf⟩ := k_bvE hf
    refine k_callVv C hw (c_X9_add l G Y w ad LC p1 σ1 σ3 hq) (cwV 1 hts gX11_feed_X9_add rfl rfl rfl (by decide +kernel) ⟨Nat.le_of_ble_eq_true rfl, Nat.le_of_ble_eq_true rfl⟩) (k_recv C hw (LC_1 LC) rfl) rfl hl.1 rfl (Nat.le_of_ble_eq_true rfl) dX11_feed_19 (fun H locs hw => ?_)
    refine lv_aload_n hx hb dX11_feed_22 rfl (lv_at hl 0 rfl) ?_
    refine k_get C hw (LC_0 LC) (ci := 11) rfl k_in11 0 (by decide) lk11_10 (v := .ref (ad 1)) rfl dX11_feed_23 ?_
    refine lv_iload_n hx hb dX11_feed_26 rfl (lv_at hl 2 rfl) ?_
    obtain ⟨σ4, hq, hf⟩ := k_bvE hf
    refine k_callVv C hw (c_X9_add l G Y w ad LC p2 σ3 σ4 hq) (cwV 1 hts gX11_feed_X9_add rfl rfl rfl (by decide +kernel) ⟨Nat.le_of_ble_eq_true rfl, Nat.le_of_ble_eq_true rfl⟩) (k_recv C hw (LC_1 LC) rfl) rfl hl.1 rfl (Nat.le_of_ble_eq_true rfl) dX11_feed_27 (fun H locs hw => ?_)
    refine lv_aload_n hx hb dX11_feed_30 rfl (lv_at hl 0 rfl) ?_
    refine k_get C hw (LC_0 LC) (ci := 11) rfl k_in11 0 (by decide) lk11_10 (v := .ref (ad 1)) rfl dX11_feed_31 ?_
    refine lv_iload_n hx hb dX11_feed_34 rfl (lv_at hl 3 rfl) ?_
    obtain ⟨σ5, hq, hf⟩ := k_bvE hf
    refine k_callVv C hw (c_X9_add l G Y w ad LC p3 σ4 σ5 hq) (cwV 1 hts gX11_feed_X9_add rfl rfl rfl (by decide +kernel) ⟨Nat.le_of_ble_eq_true rfl, Nat.le_of_ble_eq_true rfl⟩) (k_recv C hw (LC_1 LC) rfl) rfl hl.1 rfl (Nat.le_of_ble_eq_true rfl) dX11_feed_35 (fun H locs hw => ?_)
    refine lv_aload_n hx hb dX11_feed_38 rfl (lv_at hl 0 rfl) ?_
    refine k_get C hw (LC_0 LC) (ci := 11) rfl k_in11 0 (by decide) lk11_10 (v := .ref (ad 1)) rfl dX11_feed_39 ?_
    refine lv_iload hx hb dX11_feed_42 (lv_at hl 4 rfl) ?_
    obtain ⟨σ6, hq, hf⟩ := k_bvE hf
    refine k_callVv C hw (c_X9_add l G Y w ad LC p4 σ5 σ6 hq) (cwV 1 hts gX11_feed_X9_add rfl rfl rfl (by decide +kernel) ⟨Nat.le_of_ble_eq_true rfl, Nat.le_of_ble_eq_true rfl⟩) (k_recv C hw (LC_1 LC) rfl) rfl hl.1 rfl (Nat.le_of_ble_eq_true rfl) dX11_feed_44 (fun H locs hw => ?_)
    refine lv_aload_n hx hb dX11_feed_47 rfl (lv_at hl 0 rfl) ?_
    refine k_get C hw (LC_0 LC) (ci := 11) rfl k_in11 0 (by decide) lk11_10 (v := .ref (ad 1)) rfl dX11_feed_48 ?_
    refine lv_iload hx hb dX11_feed_51 (lv_at hl 5 rfl) ?_
    obtain ⟨σ7, hq, hf⟩ := k_bvE hf
    refine k_callVv C hw (c_X9_add l G Y w ad LC p5 σ6 σ7 hq) (cwV 1 hts gX11_feed_X9_add rfl rfl rfl (by decide +kernel) ⟨Nat.le_of_ble_eq_true rfl, Nat.le_of_ble_eq_true rfl⟩) (k_recv C hw (LC_1 LC) rfl) rfl hl.1 rfl (Nat.le_of_ble_eq_true rfl) dX11_feed_53 (fun H locs hw => ?_)
    refine lv_aload_n hx hb dX11_feed_56 rfl (lv_at hl 0 rfl) ?_
    refine k_get C hw (LC_0 LC) (ci := 11) rfl k_in11 0 (by decide) lk11_10 (v := .ref (ad 1)) rfl dX11_feed_57 ?_
    refine k_getN C hw (LC_1 LC) (ci := 9) rfl k_in9 5 (by decide) ln11_111 (v := .int (σ7.1 1 5)) rfl dX11_feed_60 ?_
    exact k_iret C hw hf dX11_feed_63
  · have hf := k_ifT h hf
    refine lv_iconst (v := (-1 : Int32)) hx hb dX11_feed_12 (by decide) ?_
    exact k_iret C hw hf dX11_feed_13
def f_X11_text_b15   (σ : MSt) : Option (Int32 × MSt) :=
  some ((-2 : Int32), σ)
def f_X11_text  (p1 : Int32) (σ : MSt) : Option (Int32 × MSt) :=
  if p1 < 0 then
  (f_X11_text_b15 σ)
  else
  (if p1 ≤ (σ.1 1 5) then
  (k_bv (f_X9_cut p1 σ) fun σ1 =>
  k_bd (f_X7_read 30 σ1) fun q3 σ2 =>
  k_nm (mI σ2 0 12 (σ2.1 7 4)) fun σ4 =>
  k_bd (f_X7_faultPlace σ4) fun q6 σ5 =>
  k_nm (mI σ5 0 13 q6) fun σ7 =>
  if (σ7.1 0 12) = 0 then
  (k_bd (f_X7_read 10 σ7) fun q9 σ8 =>
  k_bv (f_X5_begin 50 10 σ8) fun σ10 =>
  k_bv (f_X6_clear σ10) fun σ11 =>
  k_bv (f_X2_clear σ11) fun σ12 =>
  k_nm (mI σ12 0 11 (0 : Int32)) fun σ13 =>
  some (q3, σ13))
  else
  (some ((-1 : Int32), σ7)))
  else
  (f_X11_text_b15 σ))
def rmX11_text : Room := { frames := 7, cells := 0, slots := 0, locals := 151 }
set_option maxHeartbeats 4000000 in
set_option maxRecDepth 100000 in
theorem c_X11_text (l : Launch) (G : va_G) (Y : CY) (w : MSt → va_W) (ad : Nat → Nat)  (LC : LayC ad w Y) (p1 : Int32) (σ : MSt) (r : Int32) (σ' : MSt) (hf : f_X11_text p1 σ = some (r, σ')) : k_Mi l yX11_text wsX11_text rmX11_text G Y w [.ref (ad 0), .int p1] σ r σ' := by
  refine k_ofi (own := RX11) (cc := cX11_text) (maxL := 3) (some .int) (by decide) rfl rfl (Nat.le_of_ble_eq_true rfl) ?_
  intro p e s m below meth c A C ls hl hw
  have hx := C.1
  have hb := C.2.1
  have hown := C.2.2.2.2.1
  have hts := C.2.2.2.2.2.1
  have hks := C.2.2.2.2.2.2.1
  have hl : lv_has ls 3 [(0, .ref (ad 0)), (1, .int p1)] := hl
  have b15 : ∀ (σ : MSt) (H : Heap) (locs : List Loc) (ls : Array Slot), lv_has ls 3 [] → k_W G w A s.heap σ H locs → f_X11_text_b15 σ = some (r, σ') → W p l e rmX11_text s m [.ref (ad 0), .int p1].toArray below meth c H locs 0 0 (MQ below (k_Qi G w A r σ') [.ref (ad 0), .int p1].toArray s 0 0 A) (F0 m 15 ls []) := by
    intro σ H locs ls hl hw hf
    unfold f_X11_text_b15 at hf
    refine lv_bipush (v := (-2 : Int32)) hx hb dX11_text_15 (by decide) ?_
    exact k_iret C hw hf dX11_text_17
  unfold f_X11_text at hf
  refine lv_iload_n hx hb dX11_text_0 rfl (lv_at hl 1 rfl) ?_
  refine lv_if_lt (tgt := 15) hx hb dX11_text_1 (by decide) (fun h => ?_) (fun h => ?_)
  · have hf := k_ifT h hf
    exact b15 σ _ _ _ (lv_sub hl [] rfl) hw hf
  · have hf := k_ifF h hf
    refine lv_iload_n hx hb dX11_text_4 rfl (lv_at hl 1 rfl) ?_
    refine lv_aload_n hx hb dX11_text_5 rfl (lv_at hl 0 rfl) ?_
    refine k_get C hw (LC_0 LC) (ci := 11) rfl k_in11 0 (by decide) lk11_10 (v := .ref (ad 1)) rfl dX11_text_6 ?_
    refine k_getN C hw (LC_1 LC) (ci := 9) rfl k_in9 5 (by decide) ln11_111 (v := .int (σ.1 1 5)) rfl dX11_text_9 ?_
    refine lv_icmp_le (tgt := 18) hx hb dX11_text_12 (by decide) (fun h => ?_) (fun h => ?_)
    · have hf := k_ifT h hf
      refine lv_aload_n hx hb dX11_text_18 rfl (lv_at hl 0 rfl) ?_
      refine k_get C hw (LC_0 LC) (ci := 11) rfl k_in11 0 (by decide) lk11_10 (v := .ref (ad 1)) rfl dX11_text_19 ?_
      refine lv_iload_n hx hb dX11_text_22 rfl (lv_at hl 1 rfl) ?_
      obtain ⟨σ1, hq, hf⟩ := k_bvE hf
      refine k_callVv C hw (c_X9_cut l G Y w ad LC p1 σ σ1 hq) (cwV 1 hts gX11_text_X9_cut rfl rfl rfl (by decide +kernel) ⟨Nat.le_of_ble_eq_true rfl, Nat.le_of_ble_eq_true rfl⟩) (k_recv C hw (LC_1 LC) rfl) rfl hl.1 rfl (Nat.le_of_ble_eq_true rfl) dX11_text_23 (fun H locs hw => ?_)
      refine lv_aload_n hx hb dX11_text_26 rfl (lv_at hl 0 rfl) ?_
      refine k_get C hw (LC_0 LC) (ci := 11) rfl k_in11 1 (by decide) lk11_21 (v := .ref (ad 7)) rfl dX11_text_27 ?_
      refine lv_aload_n hx hb dX11_text_30 rfl (lv_at hl 0 rfl) ?_
      refine k_get C hw (LC_0 LC) (ci := 11) rfl k_in11 3 (by decide) lk11_32 (v := .ref (ad 30)) rfl dX11_text_31 ?_
      obtain ⟨q3, σ2, hq, hf⟩ := k_bdE hf
      refine k_callVi C hw (c_X7_read l G Y w ad 30 LC (LCL_30 LC) σ1 q3 σ2 hq) (cwV 1 hts gX11_text_X7_read rfl rfl rfl (by decide +kernel) ⟨Nat.le_of_ble_eq_true rfl, Nat.le_of_ble_eq_true rfl⟩) (k_recv C hw (LC_7 LC) rfl) rfl hl.1 rfl (Nat.le_of_ble_eq_true rfl) dX11_text_34 (fun H locs hw => ?_)
      refine lv_istore_n (lv' := [(2, .int q3), (0, .ref (ad 0)), (1, .int p1)]) hx hb dX11_text_37 rfl hl (by decide) rfl (fun ls hl => ?_)
      refine lv_aload_n hx hb dX11_text_38 rfl (lv_at hl 1 rfl) ?_
      refine lv_aload_n hx hb dX11_text_39 rfl (lv_at hl 1 rfl) ?_
      refine k_get C hw (LC_0 LC) (ci := 11) rfl k_in11 1 (by decide) lk11_21 (v := .ref (ad 7)) rfl dX11_text_40 ?_
      refine k_getN C hw (LC_7 LC) (ci := 7) rfl k_in7 4 (by decide) ln11_121 (v := .int (σ2.1 7 4)) rfl dX11_text_43 ?_
      refine k_put C hw (LC_0 LC) (ci := 11) rfl k_in11 tyX11 tyX11_ok nmX11 12 (by decide) lk11_96 rfl ⟨rfl, rfl⟩ rfl dX11_text_46 (fun σ4 eq H locs hw => ?_)
      have hf := k_nmE eq hf
      refine lv_aload_n hx hb dX11_text_49 rfl (lv_at hl 1 rfl) ?_
      refine lv_aload_n hx hb dX11_text_50 rfl (lv_at hl 1 rfl) ?_
      refine k_get C hw (LC_0 LC) (ci := 11) rfl k_in11 1 (by decide) lk11_21 (v := .ref (ad 7)) rfl dX11_text_51 ?_
      obtain ⟨q6, σ5, hq, hf⟩ := k_bdE hf
      refine k_callVi C hw (c_X7_faultPlace l G Y w ad LC σ4 q6 σ5 hq) (cwV 0 hts gX11_text_X7_faultPlace rfl rfl rfl (by decide +kernel) ⟨Nat.le_of_ble_eq_true rfl, Nat.le_of_ble_eq_true rfl⟩) (k_recv C hw (LC_7 LC) rfl) rfl hl.1 rfl (Nat.le_of_ble_eq_true rfl) dX11_text_54 (fun H locs hw => ?_)
      refine k_put C hw (LC_0 LC) (ci := 11) rfl k_in11 tyX11 tyX11_ok nmX11 13 (by decide) lk11_100 rfl ⟨rfl, rfl⟩ rfl dX11_text_57 (fun σ7 eq H locs hw => ?_)
      have hf := k_nmE eq hf
      refine lv_aload_n hx hb dX11_text_60 rfl (lv_at hl 1 rfl) ?_
      refine k_get C hw (LC_0 LC) (ci := 11) rfl k_in11 12 (by decide) lk11_96 (v := .int (σ7.1 0 12)) rfl dX11_text_61 ?_
      refine lv_if_eq (tgt := 69) hx hb dX11_text_64 (by decide) (fun h => ?_) (fun h => ?_)
      · have hf := k_ifT h hf
        refine lv_aload_n hx hb dX11_text_69 rfl (lv_at hl 1 rfl) ?_
        refine k_get C hw (LC_0 LC) (ci := 11) rfl k_in11 1 (by decide) lk11_21 (v := .ref (ad 7)) rfl dX11_text_70 ?_
        refine lv_aload_n hx hb dX11_text_73 rfl (lv_at hl 1 rfl) ?_
        refine k_get C hw (LC_0 LC) (ci := 11) rfl k_in11 2 (by decide) lk11_28 (v := .ref (ad 10)) rfl dX11_text_74 ?_
        obtain ⟨q9, σ8, hq, hf⟩ := k_bdE hf
        refine k_callVi C hw (c_X7_read l G Y w ad 10 LC (LCL_10 LC) σ7 q9 σ8 hq) (cwV 1 hts gX11_text_X7_read rfl rfl rfl (by decide +kernel) ⟨Nat.le_of_ble_eq_true rfl, Nat.le_of_ble_eq_true rfl⟩) (k_recv C hw (LC_7 LC) rfl) rfl hl.1 rfl (Nat.le_of_ble_eq_true rfl) dX11_text_77 (fun H locs hw => ?_)
        refine lv_pop hx hb dX11_text_80 rfl ?_
        refine lv_aload_n hx hb dX11_text_81 rfl (lv_at hl 1 rfl) ?_
        refine k_get C hw (LC_0 LC) (ci := 11) rfl k_in11 4 (by decide) lk11_38 (v := .ref (ad 50)) rfl dX11_text_82 ?_
        refine lv_aload_n hx hb dX11_text_85 rfl (lv_at hl 1 rfl) ?_
        refine k_get C hw (LC_0 LC) (ci := 11) rfl k_in11 2 (by decide) lk11_28 (v := .ref (ad 10)) rfl dX11_text_86 ?_
        obtain ⟨σ10, hq, hf⟩ := k_bvE hf
        refine k_callVv C hw (c_X5_begin l G Y w ad 50 10 (LCL_50 LC) (LCL_10 LC) σ8 σ10 hq) (cwV 1 hts gX11_text_X5_begin rfl rfl rfl (by decide +kernel) ⟨Nat.le_of_ble_eq_true rfl, Nat.le_of_ble_eq_true rfl⟩) (k_recv C hw (LC_50 LC) rfl) rfl hl.1 rfl (Nat.le_of_ble_eq_true rfl) dX11_text_89 (fun H locs hw => ?_)
        refine lv_aload_n hx hb dX11_text_92 rfl (lv_at hl 1 rfl) ?_
        refine k_get C hw (LC_0 LC) (ci := 11) rfl k_in11 10 (by decide) lk11_84 (v := .ref (ad 78)) rfl dX11_text_93 ?_
        obtain ⟨σ11, hq, hf⟩ := k_bvE hf
        refine k_callVv C hw (c_X6_clear l G Y w ad LC σ10 σ11 hq) (cwV 0 hts gX11_text_X6_clear rfl rfl rfl (by decide +kernel) ⟨Nat.le_of_ble_eq_true rfl, Nat.le_of_ble_eq_true rfl⟩) (k_recv C hw (LC_78 LC) rfl) rfl hl.1 rfl (Nat.le_of_ble_eq_true rfl) dX11_text_96 (fun H locs hw => ?_)
        refine lv_aload_n hx hb dX11_text_99 rfl (lv_at hl 1 rfl) ?_
        refine k_get C hw (LC_0 LC) (ci := 11) rfl k_in11 6 (by decide) lk11_50 (v := .ref (ad 62)) rfl dX11_text_100 ?_
        obtain ⟨σ12, hq, hf⟩ := k_bvE hf
        refine k_callVv C hw (c_X2_clear l G Y w ad LC σ11 σ12 hq) (cwV 0 hts gX11_text_X2_clear rfl rfl rfl (by decide +kernel) ⟨Nat.le_of_ble_eq_true rfl, Nat.le_of_ble_eq_true rfl⟩) (k_recv C hw (LC_62 LC) rfl) rfl hl.1 rfl (Nat.le_of_ble_eq_true rfl) dX11_text_103 (fun H locs hw => ?_)
        refine lv_aload_n hx hb dX11_text_106 rfl (lv_at hl 1 rfl) ?_
        refine lv_iconst (v := (0 : Int32)) hx hb dX11_text_107 (by decide) ?_
        refine k_put C hw (LC_0 LC) (ci := 11) rfl k_in11 tyX11 tyX11_ok nmX11 11 (by decide) lk11_92 rfl ⟨rfl, rfl⟩ rfl dX11_text_108 (fun σ13 eq H locs hw => ?_)
        have hf := k_nmE eq hf
        refine lv_iload_n hx hb dX11_text_111 rfl (lv_at hl 0 rfl) ?_
        exact k_iret C hw hf dX11_text_112
      · have hf := k_ifF h hf
        refine lv_iconst (v := (-1 : Int32)) hx hb dX11_text_67 (by decide) ?_
        exact k_iret C hw hf dX11_text_68
    · have hf := k_ifF h hf
      exact b15 σ _ _ _ (lv_sub hl [] rfl) hw hf
def f_X11_fault_b24  (y0 : Int32) (σ : MSt) : Option (Int32 × MSt) :=
  some (y0, σ)
def f_X11_fault  (p1 : Int32) (σ : MSt) : Option (Int32 × MSt) :=
  if p1 = 0 then
  (f_X11_fault_b24 (σ.1 0 12) σ)
  else
  (if p1 = (1 : Int32) then
  (f_X11_fault_b24 (σ.1 0 13) σ)
  else
  (f_X11_fault_b24 (-1 : Int32) σ))
def rmX11_fault : Room := { frames := 0, cells := 0, slots := 0, locals := 0 }
set_option maxHeartbeats 4000000 in
set_option maxRecDepth 100000 in
theorem c_X11_fault (l : Launch) (G : va_G) (Y : CY) (w : MSt → va_W) (ad : Nat → Nat)  (LC : LayC ad w Y) (p1 : Int32) (σ : MSt) (r : Int32) (σ' : MSt) (hf : f_X11_fault p1 σ = some (r, σ')) : k_Mi l yX11_fault wsX11_fault rmX11_fault G Y w [.ref (ad 0), .int p1] σ r σ' := by
  refine k_ofi (own := RX11) (cc := cX11_fault) (maxL := 2) (some .int) (by decide) rfl rfl (Nat.le_of_ble_eq_true rfl) ?_
  intro p e s m below meth c A C ls hl hw
  have hx := C.1
  have hb := C.2.1
  have hown := C.2.2.2.2.1
  have hts := C.2.2.2.2.2.1
  have hks := C.2.2.2.2.2.2.1
  have hl : lv_has ls 2 [(0, .ref (ad 0)), (1, .int p1)] := hl
  have b24 : ∀ (y0 : Int32) (σ : MSt) (H : Heap) (locs : List Loc) (ls : Array Slot), lv_has ls 2 [] → k_W G w A s.heap σ H locs → f_X11_fault_b24 y0 σ = some (r, σ') → W p l e rmX11_fault s m [.ref (ad 0), .int p1].toArray below meth c H locs 0 0 (MQ below (k_Qi G w A r σ') [.ref (ad 0), .int p1].toArray s 0 0 A) (F0 m 24 ls [.int y0]) := by
    intro y0 σ H locs ls hl hw hf
    unfold f_X11_fault_b24 at hf
    exact k_iret C hw hf dX11_fault_24
  unfold f_X11_fault at hf
  refine lv_iload_n hx hb dX11_fault_0 rfl (lv_at hl 1 rfl) ?_
  refine lv_if_ne (tgt := 11) hx hb dX11_fault_1 (by decide) (fun h => ?_) (fun h => ?_)
  · have hf := k_ifF h hf
    refine lv_iload_n hx hb dX11_fault_11 rfl (lv_at hl 1 rfl) ?_
    refine lv_iconst (v := (1 : Int32)) hx hb dX11_fault_12 (by decide) ?_
    refine lv_icmp_ne (tgt := 23) hx hb dX11_fault_13 (by decide) (fun h => ?_) (fun h => ?_)
    · have hf := k_ifF h hf
      refine lv_iconst (v := (-1 : Int32)) hx hb dX11_fault_23 (by decide) ?_
      exact b24 (-1 : Int32) σ _ _ _ (lv_sub hl [] rfl) hw hf
    · have hf := k_ifT h hf
      refine lv_aload_n hx hb dX11_fault_16 rfl (lv_at hl 0 rfl) ?_
      refine k_get C hw (LC_0 LC) (ci := 11) rfl k_in11 13 (by decide) lk11_100 (v := .int (σ.1 0 13)) rfl dX11_fault_17 ?_
      refine lv_goto (tgt := 24) hx hb dX11_fault_20 (by decide) ?_
      exact b24 (σ.1 0 13) σ _ _ _ (lv_sub hl [] rfl) hw hf
  · have hf := k_ifT h hf
    refine lv_aload_n hx hb dX11_fault_4 rfl (lv_at hl 0 rfl) ?_
    refine k_get C hw (LC_0 LC) (ci := 11) rfl k_in11 12 (by decide) lk11_96 (v := .int (σ.1 0 12)) rfl dX11_fault_5 ?_
    refine lv_goto (tgt := 24) hx hb dX11_fault_8 (by decide) ?_
    exact b24 (σ.1 0 12) σ _ _ _ (lv_sub hl [] rfl) hw hf
def f_X11_named  (p1 : Int32) (σ : MSt) : Option (Int32 × MSt) :=
  k_bd (f_X0_find 10 p1 σ) fun q2 σ1 =>
  some (q2, σ1)
def rmX11_named : Room := { frames := 1, cells := 0, slots := 0, locals := 22 }
set_option maxHeartbeats 4000000 in
set_option maxRecDepth 100000 in
theorem c_X11_named (l : Launch) (G : va_G) (Y : CY) (w : MSt → va_W) (ad : Nat → Nat)  (LC : LayC ad w Y) (p1 : Int32) (σ : MSt) (r : Int32) (σ' : MSt) (hf : f_X11_named p1 σ = some (r, σ')) : k_Mi l yX11_named wsX11_named rmX11_named G Y w [.ref (ad 0), .int p1] σ r σ' := by
  refine k_ofi (own := RX11) (cc := cX11_named) (maxL := 2) (some .int) (by decide) rfl rfl (Nat.le_of_ble_eq_true rfl) ?_
  intro p e s m below meth c A C ls hl hw
  have hx := C.1
  have hb := C.2.1
  have hown := C.2.2.2.2.1
  have hts := C.2.2.2.2.2.1
  have hks := C.2.2.2.2.2.2.1
  have hl : lv_has ls 2 [(0, .ref (ad 0)), (1, .int p1)] := hl
  unfold f_X11_named at hf
  refine lv_aload_n hx hb dX11_named_0 rfl (lv_at hl 0 rfl) ?_
  refine k_get C hw (LC_0 LC) (ci := 11) rfl k_in11 2 (by decide) lk11_28 (v := .ref (ad 10)) rfl dX11_named_1 ?_
  refine lv_iload_n hx hb dX11_named_4 rfl (lv_at hl 1 rfl) ?_
  obtain ⟨q2, σ1, hq, hf⟩ := k_bdE hf
  refine k_callVi C hw (c_X0_find l G Y w ad 10 (LCL_10 LC) p1 σ q2 σ1 hq) (cwV 1 hts gX11_named_X0_find rfl rfl rfl (by decide +kernel) ⟨Nat.le_of_ble_eq_true rfl, Nat.le_of_ble_eq_true rfl⟩) (k_recv C hw (LC_10 LC) rfl) rfl hl.1 rfl (Nat.le_of_ble_eq_true rfl) dX11_named_5 (fun H locs hw => ?_)
  exact k_iret C hw hf dX11_named_8
def f_X11_lane_b22   (σ : MSt) : Option (Int32 × MSt) :=
  some ((-1 : Int32), σ)
def f_X11_lane  (p1 : Int32) (p2 : Int32) (σ : MSt) : Option (Int32 × MSt) :=
  k_bd (f_X0_hasBay 10 p1 σ) fun q2 σ1 =>
  if q2 = 0 then
  (f_X11_lane_b22 σ1)
  else
  (k_bd (f_X0_hasBay 10 p2 σ1) fun q4 σ3 =>
  if q4 = 0 then
  (f_X11_lane_b22 σ3)
  else
  (k_bd (f_X0_daysBetween 10 p1 p2 σ3) fun q6 σ5 =>
  some (q6, σ5)))
def rmX11_lane : Room := { frames := 2, cells := 0, slots := 0, locals := 43 }
set_option maxHeartbeats 4000000 in
set_option maxRecDepth 100000 in
theorem c_X11_lane (l : Launch) (G : va_G) (Y : CY) (w : MSt → va_W) (ad : Nat → Nat)  (LC : LayC ad w Y) (p1 : Int32) (p2 : Int32) (σ : MSt) (r : Int32) (σ' : MSt) (hf : f_X11_lane p1 p2 σ = some (r, σ')) : k_Mi l yX11_lane wsX11_lane rmX11_lane G Y w [.ref (ad 0), .int p1, .int p2] σ r σ' := by
  refine k_ofi (own := RX11) (cc := cX11_lane) (maxL := 3) (some .int) (by decide) rfl rfl (Nat.le_of_ble_eq_true rfl) ?_
  intro p e s m below meth c A C ls hl hw
  have hx := C.1
  have hb := C.2.1
  have hown := C.2.2.2.2.1
  have hts := C.2.2.2.2.2.1
  have hks := C.2.2.2.2.2.2.1
  have hl : lv_has ls 3 [(0, .ref (ad 0)), (1, .int p1), (2, .int p2)] := hl
  have b22 : ∀ (σ : MSt) (H : Heap) (locs : List Loc) (ls : Array Slot), lv_has ls 3 [] → k_W G w A s.heap σ H locs → f_X11_lane_b22 σ = some (r, σ') → W p l e rmX11_lane s m [.ref (ad 0), .int p1, .int p2].toArray below meth c H locs 0 0 (MQ below (k_Qi G w A r σ') [.ref (ad 0), .int p1, .int p2].toArray s 0 0 A) (F0 m 22 ls []) := by
    intro σ H locs ls hl hw hf
    unfold f_X11_lane_b22 at hf
    refine lv_iconst (v := (-1 : Int32)) hx hb dX11_lane_22 (by decide) ?_
    exact k_iret C hw hf dX11_lane_23
  unfold f_X11_lane at hf
  refine lv_aload_n hx hb dX11_lane_0 rfl (lv_at hl 0 rfl) ?_
  refine k_get C hw (LC_0 LC) (ci := 11) rfl k_in11 2 (by decide) lk11_28 (v := .ref (ad 10)) rfl dX11_lane_1 ?_
  refine lv_iload_n hx hb dX11_lane_4 rfl (lv_at hl 1 rfl) ?_
  obtain ⟨q2, σ1, hq, hf⟩ := k_bdE hf
  refine k_callVi C hw (c_X0_hasBay l G Y w ad 10 (LCL_10 LC) p1 σ q2 σ1 hq) (cwV 1 hts gX11_lane_X0_hasBay rfl rfl rfl (by decide +kernel) ⟨Nat.le_of_ble_eq_true rfl, Nat.le_of_ble_eq_true rfl⟩) (k_recv C hw (LC_10 LC) rfl) rfl hl.1 rfl (Nat.le_of_ble_eq_true rfl) dX11_lane_5 (fun H locs hw => ?_)
  refine lv_if_eq (tgt := 22) hx hb dX11_lane_8 (by decide) (fun h => ?_) (fun h => ?_)
  · have hf := k_ifT h hf
    exact b22 σ1 _ _ _ (lv_sub hl [] rfl) hw hf
  · have hf := k_ifF h hf
    refine lv_aload_n hx hb dX11_lane_11 rfl (lv_at hl 0 rfl) ?_
    refine k_get C hw (LC_0 LC) (ci := 11) rfl k_in11 2 (by decide) lk11_28 (v := .ref (ad 10)) rfl dX11_lane_12 ?_
    refine lv_iload_n hx hb dX11_lane_15 rfl (lv_at hl 2 rfl) ?_
    obtain ⟨q4, σ3, hq, hf⟩ := k_bdE hf
    refine k_callVi C hw (c_X0_hasBay l G Y w ad 10 (LCL_10 LC) p2 σ1 q4 σ3 hq) (cwV 1 hts gX11_lane_X0_hasBay rfl rfl rfl (by decide +kernel) ⟨Nat.le_of_ble_eq_true rfl, Nat.le_of_ble_eq_true rfl⟩) (k_recv C hw (LC_10 LC) rfl) rfl hl.1 rfl (Nat.le_of_ble_eq_true rfl) dX11_lane_16 (fun H locs hw => ?_)
    refine lv_if_ne (tgt := 24) hx hb dX11_lane_19 (by decide) (fun h => ?_) (fun h => ?_)
    · have hf := k_ifF h hf
      refine lv_aload_n hx hb dX11_lane_24 rfl (lv_at hl 0 rfl) ?_
      refine k_get C hw (LC_0 LC) (ci := 11) rfl k_in11 2 (by decide) lk11_28 (v := .ref (ad 10)) rfl dX11_lane_25 ?_
      refine lv_iload_n hx hb dX11_lane_28 rfl (lv_at hl 1 rfl) ?_
      refine lv_iload_n hx hb dX11_lane_29 rfl (lv_at hl 2 rfl) ?_
      obtain ⟨q6, σ5, hq, hf⟩ := k_bdE hf
      refine k_callVi C hw (c_X0_daysBetween l G Y w ad 10 (LCL_10 LC) p1 p2 σ3 q6 σ5 hq) (cwV 2 hts gX11_lane_X0_daysBetween rfl rfl rfl (by decide +kernel) ⟨Nat.le_of_ble_eq_true rfl, Nat.le_of_ble_eq_true rfl⟩) (k_recv C hw (LC_10 LC) rfl) rfl hl.1 rfl (Nat.le_of_ble_eq_true rfl) dX11_lane_30 (fun H locs hw => ?_)
      exact k_iret C hw hf dX11_lane_33
    · have hf := k_ifT h hf
      exact b22 σ3 _ _ _ (lv_sub hl [] rfl) hw hf
def f_X11_deed  (p1 : Int32) (p2 : Int32) (σ : MSt) : Option (Int32 × MSt) :=
  k_bd (f_X0_hasDeed 10 p1 σ) fun q2 σ1 =>
  if q2 = 0 then
  (some ((-1 : Int32), σ1))
  else
  (if p2 = (0 : Int32) then
  (k_ck (k_inb p1 12) <|
  some ((σ1.1 13 (p1).toNatClampNeg), σ1))
  else if p2 = (1 : Int32) then
  (k_ck (k_inb p1 12) <|
  some ((σ1.1 14 (p1).toNatClampNeg), σ1))
  else if p2 = (2 : Int32) then
  (k_ck (k_inb p1 12) <|
  some ((σ1.1 15 (p1).toNatClampNeg), σ1))
  else 
  (some ((-1 : Int32), σ1)))
def rmX11_deed : Room := { frames := 1, cells := 0, slots := 0, locals := 21 }
set_option maxHeartbeats 4000000 in
set_option maxRecDepth 100000 in
theorem c_X11_deed (l : Launch) (G : va_G) (Y : CY) (w : MSt → va_W) (ad : Nat → Nat)  (LC : LayC ad w Y) (p1 : Int32) (p2 : Int32) (σ : MSt) (r : Int32) (σ' : MSt) (hf : f_X11_deed p1 p2 σ = some (r, σ')) : k_Mi l yX11_deed wsX11_deed rmX11_deed G Y w [.ref (ad 0), .int p1, .int p2] σ r σ' := by
  refine k_ofi (own := RX11) (cc := cX11_deed) (maxL := 3) (some .int) (by decide) rfl rfl (Nat.le_of_ble_eq_true rfl) ?_
  intro p e s m below meth c A C ls hl hw
  have hx := C.1
  have hb := C.2.1
  have hown := C.2.2.2.2.1
  have hts := C.2.2.2.2.2.1
  have hks := C.2.2.2.2.2.2.1
  have hl : lv_has ls 3 [(0, .ref (ad 0)), (1, .int p1), (2, .int p2)] := hl
  unfold f_X11_deed at hf
  refine lv_aload_n hx hb dX11_deed_0 rfl (lv_at hl 0 rfl) ?_
  refine k_get C hw (LC_0 LC) (ci := 11) rfl k_in11 2 (by decide) lk11_28 (v := .ref (ad 10)) rfl dX11_deed_1 ?_
  refine lv_iload_n hx hb dX11_deed_4 rfl (lv_at hl 1 rfl) ?_
  obtain ⟨q2, σ1, hq, hf⟩ := k_bdE hf
  refine k_callVi C hw (c_X0_hasDeed l G Y w ad 10 (LCL_10 LC) p1 σ q2 σ1 hq) (cwV 1 hts gX11_deed_X0_hasDeed rfl rfl rfl (by decide +kernel) ⟨Nat.le_of_ble_eq_true rfl, Nat.le_of_ble_eq_true rfl⟩) (k_recv C hw (LC_10 LC) rfl) rfl hl.1 rfl (Nat.le_of_ble_eq_true rfl) dX11_deed_5 (fun H locs hw => ?_)
  refine lv_if_ne (tgt := 13) hx hb dX11_deed_8 (by decide) (fun h => ?_) (fun h => ?_)
  · have hf := k_ifF h hf
    refine lv_iload_n hx hb dX11_deed_13 rfl (lv_at hl 2 rfl) ?_
    by_cases h0 : p2 = (0 : Int32)
    · have hf := k_ifT h0 hf
      refine lv_tableIn (tgt := 40) hx hb dX11_deed_14 (by rw [h0]; decide) (by rw [h0]; decide) (by rw [h0]; rfl) (by decide) ?_
      refine lv_aload_n hx hb dX11_deed_40 rfl (lv_at hl 0 rfl) ?_
      refine k_get C hw (LC_0 LC) (ci := 11) rfl k_in11 2 (by decide) lk11_28 (v := .ref (ad 10)) rfl dX11_deed_41 ?_
      refine k_getN C hw (LC_10 LC) (ci := 0) rfl k_in0 2 (by decide) ln11_170 (v := .ref (ad 13)) rfl dX11_deed_44 ?_
      refine lv_iload_n hx hb dX11_deed_47 rfl (lv_at hl 1 rfl) ?_
      obtain ⟨hi, hf⟩ := k_ckE hf
      refine k_iald C hw (LC_13 LC) hi dX11_deed_48 ?_
      exact k_iret C hw hf dX11_deed_49
    have hf := k_ifF h0 hf
    by_cases h1 : p2 = (1 : Int32)
    · have hf := k_ifT h1 hf
      refine lv_tableIn (tgt := 50) hx hb dX11_deed_14 (by rw [h1]; decide) (by rw [h1]; decide) (by rw [h1]; rfl) (by decide) ?_
      refine lv_aload_n hx hb dX11_deed_50 rfl (lv_at hl 0 rfl) ?_
      refine k_get C hw (LC_0 LC) (ci := 11) rfl k_in11 2 (by decide) lk11_28 (v := .ref (ad 10)) rfl dX11_deed_51 ?_
      refine k_getN C hw (LC_10 LC) (ci := 0) rfl k_in0 3 (by decide) ln11_173 (v := .ref (ad 14)) rfl dX11_deed_54 ?_
      refine lv_iload_n hx hb dX11_deed_57 rfl (lv_at hl 1 rfl) ?_
      obtain ⟨hi, hf⟩ := k_ckE hf
      refine k_iald C hw (LC_14 LC) hi dX11_deed_58 ?_
      exact k_iret C hw hf dX11_deed_59
    have hf := k_ifF h1 hf
    by_cases h2 : p2 = (2 : Int32)
    · have hf := k_ifT h2 hf
      refine lv_tableIn (tgt := 60) hx hb dX11_deed_14 (by rw [h2]; decide) (by rw [h2]; decide) (by rw [h2]; rfl) (by decide) ?_
      refine lv_aload_n hx hb dX11_deed_60 rfl (lv_at hl 0 rfl) ?_
      refine k_get C hw (LC_0 LC) (ci := 11) rfl k_in11 2 (by decide) lk11_28 (v := .ref (ad 10)) rfl dX11_deed_61 ?_
      refine k_getN C hw (LC_10 LC) (ci := 0) rfl k_in0 4 (by decide) ln11_176 (v := .ref (ad 15)) rfl dX11_deed_64 ?_
      refine lv_iload_n hx hb dX11_deed_67 rfl (lv_at hl 1 rfl) ?_
      obtain ⟨hi, hf⟩ := k_ckE hf
      refine k_iald C hw (LC_15 LC) hi dX11_deed_68 ?_
      exact k_iret C hw hf dX11_deed_69
    have hf := k_ifF h2 hf
    refine lv_tableOut (tgt := 70) hx hb dX11_deed_14 (k_tout (fun k q1 q2 q3 => ?_)) (by decide) ?_
    · have q4 : p2 = Int32.ofInt k := by rw [← q3, Int32.ofInt_toInt]
      have q5 : k = 0 ∨ k = 1 ∨ k = 2 := by omega
      rcases q5 with rfl | rfl | rfl
      · exact h0 q4
      · exact h1 q4
      · exact h2 q4
    refine lv_iconst (v := (-1 : Int32)) hx hb dX11_deed_70 (by decide) ?_
    exact k_iret C hw hf dX11_deed_71
  · have hf := k_ifT h hf
    refine lv_iconst (v := (-1 : Int32)) hx hb dX11_deed_11 (by decide) ?_
    exact k_iret C hw hf dX11_deed_12
def f_X11_wind_b23  (y0 : Int32) (σ : MSt) : Option (Int32 × MSt) :=
  some (y0, σ)
def f_X11_wind_b11   (σ : MSt) : Option (Int32 × MSt) :=
  f_X11_wind_b23 (-1 : Int32) σ
def f_X11_wind  (p1 : Int32) (σ : MSt) : Option (Int32 × MSt) :=
  if p1 < 0 then
  (f_X11_wind_b11 σ)
  else
  (if p1 ≤ (9999 : Int32) then
  (k_bd (f_X0_galeOf 10 p1 σ) fun q2 σ1 =>
  f_X11_wind_b23 q2 σ1)
  else
  (f_X11_wind_b11 σ))
def rmX11_wind : Room := { frames := 1, cells := 0, slots := 0, locals := 21 }
set_option maxHeartbeats 4000000 in
set_option maxRecDepth 100000 in
theorem c_X11_wind (l : Launch) (G : va_G) (Y : CY) (w : MSt → va_W) (ad : Nat → Nat)  (LC : LayC ad w Y) (p1 : Int32) (σ : MSt) (r : Int32) (σ' : MSt) (hf : f_X11_wind p1 σ = some (r, σ')) : k_Mi l yX11_wind wsX11_wind rmX11_wind G Y w [.ref (ad 0), .int p1] σ r σ' := by
  refine k_ofi (own := RX11) (cc := cX11_wind) (maxL := 2) (some .int) (by decide) rfl rfl (Nat.le_of_ble_eq_true rfl) ?_
  intro p e s m below meth c A C ls hl hw
  have hx := C.1
  have hb := C.2.1
  have hown := C.2.2.2.2.1
  have hts := C.2.2.2.2.2.1
  have hks := C.2.2.2.2.2.2.1
  have hl : lv_has ls 2 [(0, .ref (ad 0)), (1, .int p1)] := hl
  have b23 : ∀ (y0 : Int32) (σ : MSt) (H : Heap) (locs : List Loc) (ls : Array Slot), lv_has ls 2 [] → k_W G w A s.heap σ H locs → f_X11_wind_b23 y0 σ = some (r, σ') → W p l e rmX11_wind s m [.ref (ad 0), .int p1].toArray below meth c H locs 0 0 (MQ below (k_Qi G w A r σ') [.ref (ad 0), .int p1].toArray s 0 0 A) (F0 m 23 ls [.int y0]) := by
    intro y0 σ H locs ls hl hw hf
    unfold f_X11_wind_b23 at hf
    exact k_iret C hw hf dX11_wind_23
  have b11 : ∀ (σ : MSt) (H : Heap) (locs : List Loc) (ls : Array Slot), lv_has ls 2 [] → k_W G w A s.heap σ H locs → f_X11_wind_b11 σ = some (r, σ') → W p l e rmX11_wind s m [.ref (ad 0), .int p1].toArray below meth c H locs 0 0 (MQ below (k_Qi G w A r σ') [.ref (ad 0), .int p1].toArray s 0 0 A) (F0 m 11 ls []) := by
    intro σ H locs ls hl hw hf
    unfold f_X11_wind_b11 at hf
    refine lv_iconst (v := (-1 : Int32)) hx hb dX11_wind_11 (by decide) ?_
    refine lv_goto (tgt := 23) hx hb dX11_wind_12 (by decide) ?_
    exact b23 (-1 : Int32) σ _ _ _ (lv_sub hl [] rfl) hw hf
  unfold f_X11_wind at hf
  refine lv_iload_n hx hb dX11_wind_0 rfl (lv_at hl 1 rfl) ?_
  refine lv_if_lt (tgt := 11) hx hb dX11_wind_1 (by decide) (fun h => ?_) (fun h => ?_)
  · have hf := k_ifT h hf
    exact b11 σ _ _ _ (lv_sub hl [] rfl) hw hf
  · have hf := k_ifF h hf
    refine lv_iload_n hx hb dX11_wind_4 rfl (lv_at hl 1 rfl) ?_
    refine lv_sipush (v := (9999 : Int32)) hx hb dX11_wind_5 (by decide) ?_
    refine lv_icmp_le (tgt := 15) hx hb dX11_wind_8 (by decide) (fun h => ?_) (fun h => ?_)
    · have hf := k_ifT h hf
      refine lv_aload_n hx hb dX11_wind_15 rfl (lv_at hl 0 rfl) ?_
      refine k_get C hw (LC_0 LC) (ci := 11) rfl k_in11 2 (by decide) lk11_28 (v := .ref (ad 10)) rfl dX11_wind_16 ?_
      refine lv_iload_n hx hb dX11_wind_19 rfl (lv_at hl 1 rfl) ?_
      obtain ⟨q2, σ1, hq, hf⟩ := k_bdE hf
      refine k_callVi C hw (c_X0_galeOf l G Y w ad 10 (LCL_10 LC) p1 σ q2 σ1 hq) (cwV 1 hts gX11_wind_X0_galeOf rfl rfl rfl (by decide +kernel) ⟨Nat.le_of_ble_eq_true rfl, Nat.le_of_ble_eq_true rfl⟩) (k_recv C hw (LC_10 LC) rfl) rfl hl.1 rfl (Nat.le_of_ble_eq_true rfl) dX11_wind_20 (fun H locs hw => ?_)
      exact b23 q2 σ1 _ _ _ (lv_sub hl [] rfl) hw hf
    · have hf := k_ifF h hf
      exact b11 σ _ _ _ (lv_sub hl [] rfl) hw hf
def f_X11_canForesee_b41  (y0 : Int32) (σ : MSt) : Option (Int32 × MSt) :=
  k_ck (k_bo y0) <|
  some (y0, σ)
def f_X11_canForesee_b40   (σ : MSt) : Option (Int32 × MSt) :=
  f_X11_canForesee_b41 (0 : Int32) σ
def f_X11_canForesee  (p1 : Int32) (p2 : Int32) (σ : MSt) : Option (Int32 × MSt) :=
  k_bd (f_X0_hasBay 10 p1 σ) fun q2 σ1 =>
  if q2 = 0 then
  (f_X11_canForesee_b40 σ1)
  else
  (if p2 < (σ1.1 50 3) then
  (f_X11_canForesee_b40 σ1)
  else
  (if ((σ1.1 50 3) + (99 : Int32)) < p2 then
  (f_X11_canForesee_b40 σ1)
  else
  (f_X11_canForesee_b41 (1 : Int32) σ1)))
def rmX11_canForesee : Room := { frames := 1, cells := 0, slots := 0, locals := 21 }
set_option maxHeartbeats 4000000 in
set_option maxRecDepth 100000 in
theorem c_X11_canForesee (l : Launch) (G : va_G) (Y : CY) (w : MSt → va_W) (ad : Nat → Nat)  (LC : LayC ad w Y) (p1 : Int32) (p2 : Int32) (σ : MSt) (r : Int32) (σ' : MSt) (hf : f_X11_canForesee p1 p2 σ = some (r, σ')) : k_Mi l yX11_canForesee wsX11_canForesee rmX11_canForesee G Y w [.ref (ad 0), .int p1, .int p2] σ r σ' := by
  refine k_ofi (own := RX11) (cc := cX11_canForesee) (maxL := 3) (some .boolean) (by decide) rfl rfl (Nat.le_of_ble_eq_true rfl) ?_
  intro p e s m below meth c A C ls hl hw
  have hx := C.1
  have hb := C.2.1
  have hown := C.2.2.2.2.1
  have hts := C.2.2.2.2.2.1
  have hks := C.2.2.2.2.2.2.1
  have hl : lv_has ls 3 [(0, .ref (ad 0)), (1, .int p1), (2, .int p2)] := hl
  have b41 : ∀ (y0 : Int32) (σ : MSt) (H : Heap) (locs : List Loc) (ls : Array Slot), lv_has ls 3 [] → k_W G w A s.heap σ H locs → f_X11_canForesee_b41 y0 σ = some (r, σ') → W p l e rmX11_canForesee s m [.ref (ad 0), .int p1, .int p2].toArray below meth c H locs 0 0 (MQ below (k_Qi G w A r σ') [.ref (ad 0), .int p1, .int p2].toArray s 0 0 A) (F0 m 41 ls [.int y0]) := by
    intro y0 σ H locs ls hl hw hf
    unfold f_X11_canForesee_b41 at hf
    obtain ⟨hz, hf⟩ := k_ckE hf
    exact k_zret C hw (k_boE hz).1 hf dX11_canForesee_41
  have b40 : ∀ (σ : MSt) (H : Heap) (locs : List Loc) (ls : Array Slot), lv_has ls 3 [] → k_W G w A s.heap σ H locs → f_X11_canForesee_b40 σ = some (r, σ') → W p l e rmX11_canForesee s m [.ref (ad 0), .int p1, .int p2].toArray below meth c H locs 0 0 (MQ below (k_Qi G w A r σ') [.ref (ad 0), .int p1, .int p2].toArray s 0 0 A) (F0 m 40 ls []) := by
    intro σ H locs ls hl hw hf
    unfold f_X11_canForesee_b40 at hf
    refine lv_iconst (v := (0 : Int32)) hx hb dX11_canForesee_40 (by decide) ?_
    exact b41 (0 : Int32) σ _ _ _ (lv_sub hl [] rfl) hw hf
  unfold f_X11_canForesee at hf
  refine lv_aload_n hx hb dX11_canForesee_0 rfl (lv_at hl 0 rfl) ?_
  refine k_get C hw (LC_0 LC) (ci := 11) rfl k_in11 2 (by decide) lk11_28 (v := .ref (ad 10)) rfl dX11_canForesee_1 ?_
  refine lv_iload_n hx hb dX11_canForesee_4 rfl (lv_at hl 1 rfl) ?_
  obtain ⟨q2, σ1, hq, hf⟩ := k_bdE hf
  refine k_callVi C hw (c_X0_hasBay l G Y w ad 10 (LCL_10 LC) p1 σ q2 σ1 hq) (cwV 1 hts gX11_canForesee_X0_hasBay rfl rfl rfl (by decide +kernel) ⟨Nat.le_of_ble_eq_true rfl, Nat.le_of_ble_eq_true rfl⟩) (k_recv C hw (LC_10 LC) rfl) rfl hl.1 rfl (Nat.le_of_ble_eq_true rfl) dX11_canForesee_5 (fun H locs hw => ?_)
  refine lv_if_eq (tgt := 40) hx hb dX11_canForesee_8 (by decide) (fun h => ?_) (fun h => ?_)
  · have hf := k_ifT h hf
    exact b40 σ1 _ _ _ (lv_sub hl [] rfl) hw hf
  · have hf := k_ifF h hf
    refine lv_iload_n hx hb dX11_canForesee_11 rfl (lv_at hl 2 rfl) ?_
    refine lv_aload_n hx hb dX11_canForesee_12 rfl (lv_at hl 0 rfl) ?_
    refine k_get C hw (LC_0 LC) (ci := 11) rfl k_in11 4 (by decide) lk11_38 (v := .ref (ad 50)) rfl dX11_canForesee_13 ?_
    refine k_getN C hw (LC_50 LC) (ci := 5) rfl k_in5 3 (by decide) ln11_204 (v := .int (σ1.1 50 3)) rfl dX11_canForesee_16 ?_
    refine lv_icmp_lt (tgt := 40) hx hb dX11_canForesee_19 (by decide) (fun h => ?_) (fun h => ?_)
    · have hf := k_ifT h hf
      exact b40 σ1 _ _ _ (lv_sub hl [] rfl) hw hf
    · have hf := k_ifF h hf
      refine lv_iload_n hx hb dX11_canForesee_22 rfl (lv_at hl 2 rfl) ?_
      refine lv_aload_n hx hb dX11_canForesee_23 rfl (lv_at hl 0 rfl) ?_
      refine k_get C hw (LC_0 LC) (ci := 11) rfl k_in11 4 (by decide) lk11_38 (v := .ref (ad 50)) rfl dX11_canForesee_24 ?_
      refine k_getN C hw (LC_50 LC) (ci := 5) rfl k_in5 3 (by decide) ln11_204 (v := .int (σ1.1 50 3)) rfl dX11_canForesee_27 ?_
      refine lv_bipush (v := (99 : Int32)) hx hb dX11_canForesee_30 (by decide) ?_
      refine lv_iadd hx hb dX11_canForesee_32 ?_
      refine lv_icmp_gt (tgt := 40) hx hb dX11_canForesee_33 (by decide) (fun h => ?_) (fun h => ?_)
      · have hf := k_ifT h hf
        exact b40 σ1 _ _ _ (lv_sub hl [] rfl) hw hf
      · have hf := k_ifF h hf
        refine lv_iconst (v := (1 : Int32)) hx hb dX11_canForesee_36 (by decide) ?_
        refine lv_goto (tgt := 41) hx hb dX11_canForesee_37 (by decide) ?_
        exact b41 (1 : Int32) σ1 _ _ _ (lv_sub hl [] rfl) hw hf
def f_X11_mood  (p1 : Int32) (p2 : Int32) (σ : MSt) : Option (Int32 × MSt) :=
  k_bd (f_X11_canForesee p1 p2 σ) fun q2 σ1 =>
  if q2 = 0 then
  (some ((-1 : Int32), σ1))
  else
  (k_bd (f_X3_moodOf p1 p2 σ1) fun q4 σ3 =>
  some (q4, σ3))
def rmX11_mood : Room := { frames := 4, cells := 0, slots := 0, locals := 96 }
set_option maxHeartbeats 4000000 in
set_option maxRecDepth 100000 in
theorem c_X11_mood (l : Launch) (G : va_G) (Y : CY) (w : MSt → va_W) (ad : Nat → Nat)  (LC : LayC ad w Y) (p1 : Int32) (p2 : Int32) (σ : MSt) (r : Int32) (σ' : MSt) (hf : f_X11_mood p1 p2 σ = some (r, σ')) : k_Mi l yX11_mood wsX11_mood rmX11_mood G Y w [.ref (ad 0), .int p1, .int p2] σ r σ' := by
  refine k_ofi (own := RX11) (cc := cX11_mood) (maxL := 3) (some .int) (by decide) rfl rfl (Nat.le_of_ble_eq_true rfl) ?_
  intro p e s m below meth c A C ls hl hw
  have hx := C.1
  have hb := C.2.1
  have hown := C.2.2.2.2.1
  have hts := C.2.2.2.2.2.1
  have hks := C.2.2.2.2.2.2.1
  have hl : lv_has ls 3 [(0, .ref (ad 0)), (1, .int p1), (2, .int p2)] := hl
  unfold f_X11_mood at hf
  refine lv_aload_n hx hb dX11_mood_0 rfl (lv_at hl 0 rfl) ?_
  refine lv_iload_n hx hb dX11_mood_1 rfl (lv_at hl 1 rfl) ?_
  refine lv_iload_n hx hb dX11_mood_2 rfl (lv_at hl 2 rfl) ?_
  obtain ⟨q2, σ1, hq, hf⟩ := k_bdE hf
  refine k_callVi C hw (c_X11_canForesee l G Y w ad LC p1 p2 σ q2 σ1 hq) (cwV 2 hts gX11_mood_X11_canForesee rfl rfl rfl (by decide +kernel) ⟨Nat.le_of_ble_eq_true rfl, Nat.le_of_ble_eq_true rfl⟩) (k_recv C hw (LC_0 LC) rfl) rfl hl.1 rfl (Nat.le_of_ble_eq_true rfl) dX11_mood_3 (fun H locs hw => ?_)
  refine lv_if_ne (tgt := 11) hx hb dX11_mood_6 (by decide) (fun h => ?_) (fun h => ?_)
  · have hf := k_ifF h hf
    refine lv_aload_n hx hb dX11_mood_11 rfl (lv_at hl 0 rfl) ?_
    refine k_get C hw (LC_0 LC) (ci := 11) rfl k_in11 7 (by decide) lk11_59 (v := .ref (ad 67)) rfl dX11_mood_12 ?_
    refine lv_iload_n hx hb dX11_mood_15 rfl (lv_at hl 1 rfl) ?_
    refine lv_iload_n hx hb dX11_mood_16 rfl (lv_at hl 2 rfl) ?_
    obtain ⟨q4, σ3, hq, hf⟩ := k_bdE hf
    refine k_callVi C hw (c_X3_moodOf l G Y w ad LC p1 p2 σ1 q4 σ3 hq) (cwV 2 hts gX11_mood_X3_moodOf rfl rfl rfl (by decide +kernel) ⟨Nat.le_of_ble_eq_true rfl, Nat.le_of_ble_eq_true rfl⟩) (k_recv C hw (LC_67 LC) rfl) rfl hl.1 rfl (Nat.le_of_ble_eq_true rfl) dX11_mood_17 (fun H locs hw => ?_)
    exact k_iret C hw hf dX11_mood_20
  · have hf := k_ifT h hf
    refine lv_iconst (v := (-1 : Int32)) hx hb dX11_mood_9 (by decide) ?_
    exact k_iret C hw hf dX11_mood_10
def f_X11_holds_b28  (y0 : Int32) (σ : MSt) : Option (Int32 × MSt) :=
  some (y0, σ)
def f_X11_holds  (p1 : Int32) (p2 : Int32) (σ : MSt) : Option (Int32 × MSt) :=
  k_bd (f_X11_canForesee p1 p2 σ) fun q2 σ1 =>
  if q2 = 0 then
  (some ((-1 : Int32), σ1))
  else
  (k_bd (f_X3_sees p1 p2 σ1) fun q4 σ3 =>
  if q4 = 0 then
  (f_X11_holds_b28 (0 : Int32) σ3)
  else
  (f_X11_holds_b28 (1 : Int32) σ3))
def rmX11_holds : Room := { frames := 4, cells := 0, slots := 0, locals := 96 }
set_option maxHeartbeats 4000000 in
set_option maxRecDepth 100000 in
theorem c_X11_holds (l : Launch) (G : va_G) (Y : CY) (w : MSt → va_W) (ad : Nat → Nat)  (LC : LayC ad w Y) (p1 : Int32) (p2 : Int32) (σ : MSt) (r : Int32) (σ' : MSt) (hf : f_X11_holds p1 p2 σ = some (r, σ')) : k_Mi l yX11_holds wsX11_holds rmX11_holds G Y w [.ref (ad 0), .int p1, .int p2] σ r σ' := by
  refine k_ofi (own := RX11) (cc := cX11_holds) (maxL := 3) (some .int) (by decide) rfl rfl (Nat.le_of_ble_eq_true rfl) ?_
  intro p e s m below meth c A C ls hl hw
  have hx := C.1
  have hb := C.2.1
  have hown := C.2.2.2.2.1
  have hts := C.2.2.2.2.2.1
  have hks := C.2.2.2.2.2.2.1
  have hl : lv_has ls 3 [(0, .ref (ad 0)), (1, .int p1), (2, .int p2)] := hl
  have b28 : ∀ (y0 : Int32) (σ : MSt) (H : Heap) (locs : List Loc) (ls : Array Slot), lv_has ls 3 [] → k_W G w A s.heap σ H locs → f_X11_holds_b28 y0 σ = some (r, σ') → W p l e rmX11_holds s m [.ref (ad 0), .int p1, .int p2].toArray below meth c H locs 0 0 (MQ below (k_Qi G w A r σ') [.ref (ad 0), .int p1, .int p2].toArray s 0 0 A) (F0 m 28 ls [.int y0]) := by
    intro y0 σ H locs ls hl hw hf
    unfold f_X11_holds_b28 at hf
    exact k_iret C hw hf dX11_holds_28
  unfold f_X11_holds at hf
  refine lv_aload_n hx hb dX11_holds_0 rfl (lv_at hl 0 rfl) ?_
  refine lv_iload_n hx hb dX11_holds_1 rfl (lv_at hl 1 rfl) ?_
  refine lv_iload_n hx hb dX11_holds_2 rfl (lv_at hl 2 rfl) ?_
  obtain ⟨q2, σ1, hq, hf⟩ := k_bdE hf
  refine k_callVi C hw (c_X11_canForesee l G Y w ad LC p1 p2 σ q2 σ1 hq) (cwV 2 hts gX11_holds_X11_canForesee rfl rfl rfl (by decide +kernel) ⟨Nat.le_of_ble_eq_true rfl, Nat.le_of_ble_eq_true rfl⟩) (k_recv C hw (LC_0 LC) rfl) rfl hl.1 rfl (Nat.le_of_ble_eq_true rfl) dX11_holds_3 (fun H locs hw => ?_)
  refine lv_if_ne (tgt := 11) hx hb dX11_holds_6 (by decide) (fun h => ?_) (fun h => ?_)
  · have hf := k_ifF h hf
    refine lv_aload_n hx hb dX11_holds_11 rfl (lv_at hl 0 rfl) ?_
    refine k_get C hw (LC_0 LC) (ci := 11) rfl k_in11 7 (by decide) lk11_59 (v := .ref (ad 67)) rfl dX11_holds_12 ?_
    refine lv_iload_n hx hb dX11_holds_15 rfl (lv_at hl 1 rfl) ?_
    refine lv_iload_n hx hb dX11_holds_16 rfl (lv_at hl 2 rfl) ?_
    obtain ⟨q4, σ3, hq, hf⟩ := k_bdE hf
    refine k_callVi C hw (c_X3_sees l G Y w ad LC p1 p2 σ1 q4 σ3 hq) (cwV 2 hts gX11_holds_X3_sees rfl rfl rfl (by decide +kernel) ⟨Nat.le_of_ble_eq_true rfl, Nat.le_of_ble_eq_true rfl⟩) (k_recv C hw (LC_67 LC) rfl) rfl hl.1 rfl (Nat.le_of_ble_eq_true rfl) dX11_holds_17 (fun H locs hw => ?_)
    refine lv_if_eq (tgt := 27) hx hb dX11_holds_20 (by decide) (fun h => ?_) (fun h => ?_)
    · have hf := k_ifT h hf
      refine lv_iconst (v := (0 : Int32)) hx hb dX11_holds_27 (by decide) ?_
      exact b28 (0 : Int32) σ3 _ _ _ (lv_sub hl [] rfl) hw hf
    · have hf := k_ifF h hf
      refine lv_iconst (v := (1 : Int32)) hx hb dX11_holds_23 (by decide) ?_
      refine lv_goto (tgt := 28) hx hb dX11_holds_24 (by decide) ?_
      exact b28 (1 : Int32) σ3 _ _ _ (lv_sub hl [] rfl) hw hf
  · have hf := k_ifT h hf
    refine lv_iconst (v := (-1 : Int32)) hx hb dX11_holds_9 (by decide) ?_
    exact k_iret C hw hf dX11_holds_10
def f_X11_law_b105  (x1 : Int32) (σ : MSt) : Option (Int64 × MSt) :=
  k_bl (f_X4_worth 17 70 x1 σ) fun q2 σ1 =>
  some (q2, σ1)
def f_X11_law_b79  (x1 : Int32) (y1 : Int32) (y2 : Int32) (y3 : Int32) (σ : MSt) : Option (Int64 × MSt) :=
  k_bv (f_X8_set 70 y1 y2 y3 σ) fun σ1 =>
  if x1 = 0 then
  (k_nm (mI σ1 70 7 (0 : Int32)) fun σ3 =>
  f_X11_law_b105 x1 σ3)
  else
  (k_bv (f_X4_feel 17 70 σ1) fun σ2 =>
  f_X11_law_b105 x1 σ2)
def f_X11_law_b20   (σ : MSt) : Option (Int64 × MSt) :=
  some ((-9223372036854775808 : Int64), σ)
def f_X11_law  (p1 : Int32) (p2 : Int32) (σ : MSt) : Option (Int64 × MSt) :=
  if p1 < 0 then
  (f_X11_law_b20 σ)
  else
  (if (3 : Int32) ≤ p1 then
  (f_X11_law_b20 σ)
  else
  (k_bd (f_X0_hasBay 10 p2 σ) fun q2 σ1 =>
  if q2 = 0 then
  (f_X11_law_b20 σ1)
  else
  (k_bv (f_X8_recall 70 50 p2 σ1) fun σ3 =>
  k_bd (f_X0_galeOf 10 (σ3.1 50 3) σ3) fun q5 σ4 =>
  if (σ4.1 50 4) = p2 then
  (f_X11_law_b79 p1 (σ3.1 50 3) q5 (1 : Int32) σ4)
  else
  (f_X11_law_b79 p1 (σ3.1 50 3) q5 (0 : Int32) σ4))))
def rmX11_law : Room := { frames := 3, cells := 0, slots := 0, locals := 74 }
set_option maxHeartbeats 4000000 in
set_option maxRecDepth 100000 in
theorem c_X11_law (l : Launch) (G : va_G) (Y : CY) (w : MSt → va_W) (ad : Nat → Nat)  (LC : LayC ad w Y) (p1 : Int32) (p2 : Int32) (σ : MSt) (r : Int64) (σ' : MSt) (hf : f_X11_law p1 p2 σ = some (r, σ')) : k_Ml l yX11_law wsX11_law rmX11_law G Y w [.ref (ad 0), .int p1, .int p2] σ r σ' := by
  refine k_ofl (own := RX11) (cc := cX11_law) (maxL := 4) (some .long) (by decide) rfl rfl (Nat.le_of_ble_eq_true rfl) ?_
  intro p e s m below meth c A C ls hl hw
  have hx := C.1
  have hb := C.2.1
  have hown := C.2.2.2.2.1
  have hts := C.2.2.2.2.2.1
  have hks := C.2.2.2.2.2.2.1
  have hl : lv_has ls 4 [(0, .ref (ad 0)), (1, .int p1), (2, .int p2)] := hl
  have b105 : ∀ (x1 : Int32) (σ : MSt) (H : Heap) (locs : List Loc) (ls : Array Slot), lv_has ls 4 [(0, .ref (ad 0)), (1, .int x1), (3, .ref (ad 70))] → k_W G w A s.heap σ H locs → f_X11_law_b105 x1 σ = some (r, σ') → W p l e rmX11_law s m [.ref (ad 0), .int p1, .int p2].toArray below meth c H locs 0 0 (MQ below (k_Ql G w A r σ') [.ref (ad 0), .int p1, .int p2].toArray s 0 0 A) (F0 m 105 ls []) := by
    intro x1 σ H locs ls hl hw hf
    unfold f_X11_law_b105 at hf
    refine lv_aload_n hx hb dX11_law_105 rfl (lv_at hl 0 rfl) ?_
    refine k_get C hw (LC_0 LC) (ci := 11) rfl k_in11 2 (by decide) lk11_28 (v := .ref (ad 10)) rfl dX11_law_106 ?_
    refine k_getN C hw (LC_10 LC) (ci := 0) rfl k_in0 6 (by decide) ln11_214 (v := .ref (ad 17)) rfl dX11_law_109 ?_
    refine lv_iload_n hx hb dX11_law_112 rfl (lv_at hl 1 rfl) ?_
    refine lv_aload_n hx hb dX11_law_113 rfl (lv_at hl 2 rfl) ?_
    obtain ⟨q2, σ1, hq, hf⟩ := k_blE hf
    refine k_callVl C hw (c_X4_worth l G Y w ad 17 70 (LCL_17 LC) (LCL_70 LC) x1 σ q2 σ1 hq) (cwV 2 hts gX11_law_X4_worth rfl rfl rfl (by decide +kernel) ⟨Nat.le_of_ble_eq_true rfl, Nat.le_of_ble_eq_true rfl⟩) (k_recv C hw (LC_17 LC) rfl) rfl hl.1 rfl (Nat.le_of_ble_eq_true rfl) dX11_law_114 (fun H locs hw => ?_)
    exact k_lret C hw hf dX11_law_117
  have b79 : ∀ (x1 : Int32) (y1 : Int32) (y2 : Int32) (y3 : Int32) (σ : MSt) (H : Heap) (locs : List Loc) (ls : Array Slot), lv_has ls 4 [(0, .ref (ad 0)), (1, .int x1), (3, .ref (ad 70))] → k_W G w A s.heap σ H locs → f_X11_law_b79 x1 y1 y2 y3 σ = some (r, σ') → W p l e rmX11_law s m [.ref (ad 0), .int p1, .int p2].toArray below meth c H locs 0 0 (MQ below (k_Ql G w A r σ') [.ref (ad 0), .int p1, .int p2].toArray s 0 0 A) (F0 m 79 ls [.int y3, .int y2, .int y1, .ref (ad 70)]) := by
    intro x1 y1 y2 y3 σ H locs ls hl hw hf
    unfold f_X11_law_b79 at hf
    obtain ⟨σ1, hq, hf⟩ := k_bvE hf
    refine k_callVv C hw (c_X8_set l G Y w ad 70 (LCL_70 LC) y1 y2 y3 σ σ1 hq) (cwV 3 hts gX11_law_X8_set rfl rfl rfl (by decide +kernel) ⟨Nat.le_of_ble_eq_true rfl, Nat.le_of_ble_eq_true rfl⟩) (k_recv C hw (LC_70 LC) rfl) rfl hl.1 rfl (Nat.le_of_ble_eq_true rfl) dX11_law_79 (fun H locs hw => ?_)
    refine lv_iload_n hx hb dX11_law_82 rfl (lv_at hl 1 rfl) ?_
    refine lv_if_ne (tgt := 94) hx hb dX11_law_83 (by decide) (fun h => ?_) (fun h => ?_)
    · have hf := k_ifF h hf
      refine lv_aload_n hx hb dX11_law_94 rfl (lv_at hl 0 rfl) ?_
      refine k_get C hw (LC_0 LC) (ci := 11) rfl k_in11 2 (by decide) lk11_28 (v := .ref (ad 10)) rfl dX11_law_95 ?_
      refine k_getN C hw (LC_10 LC) (ci := 0) rfl k_in0 6 (by decide) ln11_214 (v := .ref (ad 17)) rfl dX11_law_98 ?_
      refine lv_aload_n hx hb dX11_law_101 rfl (lv_at hl 2 rfl) ?_
      obtain ⟨σ2, hq, hf⟩ := k_bvE hf
      refine k_callVv C hw (c_X4_feel l G Y w ad 17 70 (LCL_17 LC) (LCL_70 LC) σ1 σ2 hq) (cwV 1 hts gX11_law_X4_feel rfl rfl rfl (by decide +kernel) ⟨Nat.le_of_ble_eq_true rfl, Nat.le_of_ble_eq_true rfl⟩) (k_recv C hw (LC_17 LC) rfl) rfl hl.1 rfl (Nat.le_of_ble_eq_true rfl) dX11_law_102 (fun H locs hw => ?_)
      exact b105 x1 σ2 _ _ _ (lv_sub hl [0, 1, 2] rfl) hw hf
    · have hf := k_ifT h hf
      refine lv_aload_n hx hb dX11_law_86 rfl (lv_at hl 2 rfl) ?_
      refine lv_iconst (v := (0 : Int32)) hx hb dX11_law_87 (by decide) ?_
      refine k_putN C hw (LC_70 LC) (ci := 8) rfl k_in8 tyX8 tyX8_ok nmX8 7 (by decide) ln11_211 rfl ⟨rfl, rfl⟩ rfl dX11_law_88 (fun σ3 eq H locs hw => ?_)
      have hf := k_nmE eq hf
      refine lv_goto (tgt := 105) hx hb dX11_law_91 (by decide) ?_
      exact b105 x1 σ3 _ _ _ (lv_sub hl [0, 1, 2] rfl) hw hf
  have b20 : ∀ (σ : MSt) (H : Heap) (locs : List Loc) (ls : Array Slot), lv_has ls 4 [] → k_W G w A s.heap σ H locs → f_X11_law_b20 σ = some (r, σ') → W p l e rmX11_law s m [.ref (ad 0), .int p1, .int p2].toArray below meth c H locs 0 0 (MQ below (k_Ql G w A r σ') [.ref (ad 0), .int p1, .int p2].toArray s 0 0 A) (F0 m 20 ls []) := by
    intro σ H locs ls hl hw hf
    unfold f_X11_law_b20 at hf
    refine lv_ldc2 (v := (-9223372036854775808 : Int64)) hx hb hown (hks.ts _ ck11_192) dX11_law_20 ?_
    exact k_lret C hw hf dX11_law_23
  unfold f_X11_law at hf
  refine lv_iload_n hx hb dX11_law_0 rfl (lv_at hl 1 rfl) ?_
  refine lv_if_lt (tgt := 20) hx hb dX11_law_1 (by decide) (fun h => ?_) (fun h => ?_)
  · have hf := k_ifT h hf
    exact b20 σ _ _ _ (lv_sub hl [] rfl) hw hf
  · have hf := k_ifF h hf
    refine lv_iload_n hx hb dX11_law_4 rfl (lv_at hl 1 rfl) ?_
    refine lv_iconst (v := (3 : Int32)) hx hb dX11_law_5 (by decide) ?_
    refine lv_icmp_ge (tgt := 20) hx hb dX11_law_6 (by decide) (fun h => ?_) (fun h => ?_)
    · have hf := k_ifT h hf
      exact b20 σ _ _ _ (lv_sub hl [] rfl) hw hf
    · have hf := k_ifF h hf
      refine lv_aload_n hx hb dX11_law_9 rfl (lv_at hl 0 rfl) ?_
      refine k_get C hw (LC_0 LC) (ci := 11) rfl k_in11 2 (by decide) lk11_28 (v := .ref (ad 10)) rfl dX11_law_10 ?_
      refine lv_iload_n hx hb dX11_law_13 rfl (lv_at hl 2 rfl) ?_
      obtain ⟨q2, σ1, hq, hf⟩ := k_bdE hf
      refine k_callVi C hw (c_X0_hasBay l G Y w ad 10 (LCL_10 LC) p2 σ q2 σ1 hq) (cwV 1 hts gX11_law_X0_hasBay rfl rfl rfl (by decide +kernel) ⟨Nat.le_of_ble_eq_true rfl, Nat.le_of_ble_eq_true rfl⟩) (k_recv C hw (LC_10 LC) rfl) rfl hl.1 rfl (Nat.le_of_ble_eq_true rfl) dX11_law_14 (fun H locs hw => ?_)
      refine lv_if_ne (tgt := 24) hx hb dX11_law_17 (by decide) (fun h => ?_) (fun h => ?_)
      · have hf := k_ifF h hf
        refine lv_aload_n hx hb dX11_law_24 rfl (lv_at hl 0 rfl) ?_
        refine k_get C hw (LC_0 LC) (ci := 11) rfl k_in11 7 (by decide) lk11_59 (v := .ref (ad 67)) rfl dX11_law_25 ?_
        refine k_getN C hw (LC_67 LC) (ci := 3) rfl k_in3 2 (by decide) ln11_194 (v := .ref (ad 70)) rfl dX11_law_28 ?_
        refine lv_astore_n (lv' := [(3, .ref (ad 70)), (0, .ref (ad 0)), (1, .int p1), (2, .int p2)]) hx hb dX11_law_31 rfl hl (by decide) rfl (fun ls hl => ?_)
        refine lv_aload_n hx hb dX11_law_32 rfl (lv_at hl 0 rfl) ?_
        refine lv_aload_n hx hb dX11_law_33 rfl (lv_at hl 1 rfl) ?_
        refine k_get C hw (LC_0 LC) (ci := 11) rfl k_in11 4 (by decide) lk11_38 (v := .ref (ad 50)) rfl dX11_law_34 ?_
        refine lv_iload_n hx hb dX11_law_37 rfl (lv_at hl 3 rfl) ?_
        obtain ⟨σ3, hq, hf⟩ := k_bvE hf
        refine k_callVv C hw (c_X8_recall l G Y w ad 70 50 (LCL_70 LC) (LCL_50 LC) p2 σ1 σ3 hq) (cwV 2 hts gX11_law_X8_recall rfl rfl rfl (by decide +kernel) ⟨Nat.le_of_ble_eq_true rfl, Nat.le_of_ble_eq_true rfl⟩) (k_recv C hw (LC_70 LC) rfl) rfl hl.1 rfl (Nat.le_of_ble_eq_true rfl) dX11_law_38 (fun H locs hw => ?_)
        refine lv_aload_n hx hb dX11_law_41 rfl (lv_at hl 0 rfl) ?_
        refine lv_aload_n hx hb dX11_law_42 rfl (lv_at hl 1 rfl) ?_
        refine k_get C hw (LC_0 LC) (ci := 11) rfl k_in11 4 (by decide) lk11_38 (v := .ref (ad 50)) rfl dX11_law_43 ?_
        refine k_getN C hw (LC_50 LC) (ci := 5) rfl k_in5 3 (by decide) ln11_204 (v := .int (σ3.1 50 3)) rfl dX11_law_46 ?_
        refine lv_aload_n hx hb dX11_law_49 rfl (lv_at hl 1 rfl) ?_
        refine k_get C hw (LC_0 LC) (ci := 11) rfl k_in11 2 (by decide) lk11_28 (v := .ref (ad 10)) rfl dX11_law_50 ?_
        refine lv_aload_n hx hb dX11_law_53 rfl (lv_at hl 1 rfl) ?_
        refine k_get C hw (LC_0 LC) (ci := 11) rfl k_in11 4 (by decide) lk11_38 (v := .ref (ad 50)) rfl dX11_law_54 ?_
        refine k_getN C hw (LC_50 LC) (ci := 5) rfl k_in5 3 (by decide) ln11_204 (v := .int (σ3.1 50 3)) rfl dX11_law_57 ?_
        obtain ⟨q5, σ4, hq, hf⟩ := k_bdE hf
        refine k_callVi C hw (c_X0_galeOf l G Y w ad 10 (LCL_10 LC) (σ3.1 50 3) σ3 q5 σ4 hq) (cwV 1 hts gX11_law_X0_galeOf rfl rfl rfl (by decide +kernel) ⟨Nat.le_of_ble_eq_true rfl, Nat.le_of_ble_eq_true rfl⟩) (k_recv C hw (LC_10 LC) rfl) rfl hl.1 rfl (Nat.le_of_ble_eq_true rfl) dX11_law_60 (fun H locs hw => ?_)
        refine lv_aload_n hx hb dX11_law_63 rfl (lv_at hl 1 rfl) ?_
        refine k_get C hw (LC_0 LC) (ci := 11) rfl k_in11 4 (by decide) lk11_38 (v := .ref (ad 50)) rfl dX11_law_64 ?_
        refine k_getN C hw (LC_50 LC) (ci := 5) rfl k_in5 4 (by decide) ln11_155 (v := .int (σ4.1 50 4)) rfl dX11_law_67 ?_
        refine lv_iload_n hx hb dX11_law_70 rfl (lv_at hl 3 rfl) ?_
        refine lv_icmp_ne (tgt := 78) hx hb dX11_law_71 (by decide) (fun h => ?_) (fun h => ?_)
        · have hf := k_ifF h hf
          refine lv_iconst (v := (0 : Int32)) hx hb dX11_law_78 (by decide) ?_
          exact b79 p1 (σ3.1 50 3) q5 (0 : Int32) σ4 _ _ _ (lv_sub hl [1, 2, 0] rfl) hw hf
        · have hf := k_ifT h hf
          refine lv_iconst (v := (1 : Int32)) hx hb dX11_law_74 (by decide) ?_
          refine lv_goto (tgt := 79) hx hb dX11_law_75 (by decide) ?_
          exact b79 p1 (σ3.1 50 3) q5 (1 : Int32) σ4 _ _ _ (lv_sub hl [1, 2, 0] rfl) hw hf
      · have hf := k_ifT h hf
        exact b20 σ1 _ _ _ (lv_sub hl [] rfl) hw hf
def f_X11_sail_b55   (σ : MSt) : Option (Int32 × MSt) :=
  some ((-2 : Int32), σ)
def f_X11_sail_b22   (σ : MSt) : Option (Int32 × MSt) :=
  some ((-1 : Int32), σ)
def f_X11_sail  (p1 : Int32) (σ : MSt) : Option (Int32 × MSt) :=
  k_bd (f_X0_hasBay 10 p1 σ) fun q2 σ1 =>
  if q2 = 0 then
  (f_X11_sail_b22 σ1)
  else
  (if (σ1.1 50 4) = p1 then
  (f_X11_sail_b22 σ1)
  else
  (k_bd (f_X0_daysBetween 10 (σ1.1 50 4) p1 σ1) fun q4 σ3 =>
  if (σ3.1 50 5) = (-1 : Int32) then
  (if q4 = 0 then
  (f_X11_sail_b55 σ3)
  else
  (k_bv (f_X2_sailed (σ3.1 50 4) σ3) fun σ5 =>
  k_bv (f_X5_leaveFor 50 p1 q4 σ5) fun σ6 =>
  some ((σ6.1 50 6), σ6)))
  else
  (f_X11_sail_b55 σ3)))
def rmX11_sail : Room := { frames := 3, cells := 0, slots := 0, locals := 64 }
set_option maxHeartbeats 4000000 in
set_option maxRecDepth 100000 in
theorem c_X11_sail (l : Launch) (G : va_G) (Y : CY) (w : MSt → va_W) (ad : Nat → Nat)  (LC : LayC ad w Y) (p1 : Int32) (σ : MSt) (r : Int32) (σ' : MSt) (hf : f_X11_sail p1 σ = some (r, σ')) : k_Mi l yX11_sail wsX11_sail rmX11_sail G Y w [.ref (ad 0), .int p1] σ r σ' := by
  refine k_ofi (own := RX11) (cc := cX11_sail) (maxL := 3) (some .int) (by decide) rfl rfl (Nat.le_of_ble_eq_true rfl) ?_
  intro p e s m below meth c A C ls hl hw
  have hx := C.1
  have hb := C.2.1
  have hown := C.2.2.2.2.1
  have hts := C.2.2.2.2.2.1
  have hks := C.2.2.2.2.2.2.1
  have hl : lv_has ls 3 [(0, .ref (ad 0)), (1, .int p1)] := hl
  have b55 : ∀ (σ : MSt) (H : Heap) (locs : List Loc) (ls : Array Slot), lv_has ls 3 [] → k_W G w A s.heap σ H locs → f_X11_sail_b55 σ = some (r, σ') → W p l e rmX11_sail s m [.ref (ad 0), .int p1].toArray below meth c H locs 0 0 (MQ below (k_Qi G w A r σ') [.ref (ad 0), .int p1].toArray s 0 0 A) (F0 m 55 ls []) := by
    intro σ H locs ls hl hw hf
    unfold f_X11_sail_b55 at hf
    refine lv_bipush (v := (-2 : Int32)) hx hb dX11_sail_55 (by decide) ?_
    exact k_iret C hw hf dX11_sail_57
  have b22 : ∀ (σ : MSt) (H : Heap) (locs : List Loc) (ls : Array Slot), lv_has ls 3 [] → k_W G w A s.heap σ H locs → f_X11_sail_b22 σ = some (r, σ') → W p l e rmX11_sail s m [.ref (ad 0), .int p1].toArray below meth c H locs 0 0 (MQ below (k_Qi G w A r σ') [.ref (ad 0), .int p1].toArray s 0 0 A) (F0 m 22 ls []) := by
    intro σ H locs ls hl hw hf
    unfold f_X11_sail_b22 at hf
    refine lv_iconst (v := (-1 : Int32)) hx hb dX11_sail_22 (by decide) ?_
    exact k_iret C hw hf dX11_sail_23
  unfold f_X11_sail at hf
  refine lv_aload_n hx hb dX11_sail_0 rfl (lv_at hl 0 rfl) ?_
  refine k_get C hw (LC_0 LC) (ci := 11) rfl k_in11 2 (by decide) lk11_28 (v := .ref (ad 10)) rfl dX11_sail_1 ?_
  refine lv_iload_n hx hb dX11_sail_4 rfl (lv_at hl 1 rfl) ?_
  obtain ⟨q2, σ1, hq, hf⟩ := k_bdE hf
  refine k_callVi C hw (c_X0_hasBay l G Y w ad 10 (LCL_10 LC) p1 σ q2 σ1 hq) (cwV 1 hts gX11_sail_X0_hasBay rfl rfl rfl (by decide +kernel) ⟨Nat.le_of_ble_eq_true rfl, Nat.le_of_ble_eq_true rfl⟩) (k_recv C hw (LC_10 LC) rfl) rfl hl.1 rfl (Nat.le_of_ble_eq_true rfl) dX11_sail_5 (fun H locs hw => ?_)
  refine lv_if_eq (tgt := 22) hx hb dX11_sail_8 (by decide) (fun h => ?_) (fun h => ?_)
  · have hf := k_ifT h hf
    exact b22 σ1 _ _ _ (lv_sub hl [] rfl) hw hf
  · have hf := k_ifF h hf
    refine lv_aload_n hx hb dX11_sail_11 rfl (lv_at hl 0 rfl) ?_
    refine k_get C hw (LC_0 LC) (ci := 11) rfl k_in11 4 (by decide) lk11_38 (v := .ref (ad 50)) rfl dX11_sail_12 ?_
    refine k_getN C hw (LC_50 LC) (ci := 5) rfl k_in5 4 (by decide) ln11_155 (v := .int (σ1.1 50 4)) rfl dX11_sail_15 ?_
    refine lv_iload_n hx hb dX11_sail_18 rfl (lv_at hl 1 rfl) ?_
    refine lv_icmp_ne (tgt := 24) hx hb dX11_sail_19 (by decide) (fun h => ?_) (fun h => ?_)
    · have hf := k_ifF h hf
      refine lv_aload_n hx hb dX11_sail_24 rfl (lv_at hl 0 rfl) ?_
      refine k_get C hw (LC_0 LC) (ci := 11) rfl k_in11 2 (by decide) lk11_28 (v := .ref (ad 10)) rfl dX11_sail_25 ?_
      refine lv_aload_n hx hb dX11_sail_28 rfl (lv_at hl 0 rfl) ?_
      refine k_get C hw (LC_0 LC) (ci := 11) rfl k_in11 4 (by decide) lk11_38 (v := .ref (ad 50)) rfl dX11_sail_29 ?_
      refine k_getN C hw (LC_50 LC) (ci := 5) rfl k_in5 4 (by decide) ln11_155 (v := .int (σ1.1 50 4)) rfl dX11_sail_32 ?_
      refine lv_iload_n hx hb dX11_sail_35 rfl (lv_at hl 1 rfl) ?_
      obtain ⟨q4, σ3, hq, hf⟩ := k_bdE hf
      refine k_callVi C hw (c_X0_daysBetween l G Y w ad 10 (LCL_10 LC) (σ1.1 50 4) p1 σ1 q4 σ3 hq) (cwV 2 hts gX11_sail_X0_daysBetween rfl rfl rfl (by decide +kernel) ⟨Nat.le_of_ble_eq_true rfl, Nat.le_of_ble_eq_true rfl⟩) (k_recv C hw (LC_10 LC) rfl) rfl hl.1 rfl (Nat.le_of_ble_eq_true rfl) dX11_sail_36 (fun H locs hw => ?_)
      refine lv_istore_n (lv' := [(2, .int q4), (0, .ref (ad 0)), (1, .int p1)]) hx hb dX11_sail_39 rfl hl (by decide) rfl (fun ls hl => ?_)
      refine lv_aload_n hx hb dX11_sail_40 rfl (lv_at hl 1 rfl) ?_
      refine k_get C hw (LC_0 LC) (ci := 11) rfl k_in11 4 (by decide) lk11_38 (v := .ref (ad 50)) rfl dX11_sail_41 ?_
      refine k_getN C hw (LC_50 LC) (ci := 5) rfl k_in5 5 (by decide) ln11_228 (v := .int (σ3.1 50 5)) rfl dX11_sail_44 ?_
      refine lv_iconst (v := (-1 : Int32)) hx hb dX11_sail_47 (by decide) ?_
      refine lv_icmp_ne (tgt := 55) hx hb dX11_sail_48 (by decide) (fun h => ?_) (fun h => ?_)
      · have hf := k_ifF h hf
        exact b55 σ3 _ _ _ (lv_sub hl [] rfl) hw hf
      · have hf := k_ifT h hf
        refine lv_iload_n hx hb dX11_sail_51 rfl (lv_at hl 0 rfl) ?_
        refine lv_if_ne (tgt := 58) hx hb dX11_sail_52 (by decide) (fun h => ?_) (fun h => ?_)
        · have hf := k_ifF h hf
          refine lv_aload_n hx hb dX11_sail_58 rfl (lv_at hl 1 rfl) ?_
          refine k_get C hw (LC_0 LC) (ci := 11) rfl k_in11 6 (by decide) lk11_50 (v := .ref (ad 62)) rfl dX11_sail_59 ?_
          refine lv_aload_n hx hb dX11_sail_62 rfl (lv_at hl 1 rfl) ?_
          refine k_get C hw (LC_0 LC) (ci := 11) rfl k_in11 4 (by decide) lk11_38 (v := .ref (ad 50)) rfl dX11_sail_63 ?_
          refine k_getN C hw (LC_50 LC) (ci := 5) rfl k_in5 4 (by decide) ln11_155 (v := .int (σ3.1 50 4)) rfl dX11_sail_66 ?_
          obtain ⟨σ5, hq, hf⟩ := k_bvE hf
          refine k_callVv C hw (c_X2_sailed l G Y w ad LC (σ3.1 50 4) σ3 σ5 hq) (cwV 1 hts gX11_sail_X2_sailed rfl rfl rfl (by decide +kernel) ⟨Nat.le_of_ble_eq_true rfl, Nat.le_of_ble_eq_true rfl⟩) (k_recv C hw (LC_62 LC) rfl) rfl hl.1 rfl (Nat.le_of_ble_eq_true rfl) dX11_sail_69 (fun H locs hw => ?_)
          refine lv_aload_n hx hb dX11_sail_72 rfl (lv_at hl 1 rfl) ?_
          refine k_get C hw (LC_0 LC) (ci := 11) rfl k_in11 4 (by decide) lk11_38 (v := .ref (ad 50)) rfl dX11_sail_73 ?_
          refine lv_iload_n hx hb dX11_sail_76 rfl (lv_at hl 2 rfl) ?_
          refine lv_iload_n hx hb dX11_sail_77 rfl (lv_at hl 0 rfl) ?_
          obtain ⟨σ6, hq, hf⟩ := k_bvE hf
          refine k_callVv C hw (c_X5_leaveFor l G Y w ad 50 (LCL_50 LC) p1 q4 σ5 σ6 hq) (cwV 2 hts gX11_sail_X5_leaveFor rfl rfl rfl (by decide +kernel) ⟨Nat.le_of_ble_eq_true rfl, Nat.le_of_ble_eq_true rfl⟩) (k_recv C hw (LC_50 LC) rfl) rfl hl.1 rfl (Nat.le_of_ble_eq_true rfl) dX11_sail_78 (fun H locs hw => ?_)
          refine lv_aload_n hx hb dX11_sail_81 rfl (lv_at hl 1 rfl) ?_
          refine k_get C hw (LC_0 LC) (ci := 11) rfl k_in11 4 (by decide) lk11_38 (v := .ref (ad 50)) rfl dX11_sail_82 ?_
          refine k_getN C hw (LC_50 LC) (ci := 5) rfl k_in5 6 (by decide) ln11_238 (v := .int (σ6.1 50 6)) rfl dX11_sail_85 ?_
          exact k_iret C hw hf dX11_sail_88
        · have hf := k_ifT h hf
          exact b55 σ3 _ _ _ (lv_sub hl [] rfl) hw hf
    · have hf := k_ifT h hf
      exact b22 σ1 _ _ _ (lv_sub hl [] rfl) hw hf
def f_X11_kind_b21   (σ : MSt) : Option (Int32 × MSt) :=
  some ((-1 : Int32), σ)
def f_X11_kind  (p1 : Int32) (p2 : Int32) (σ : MSt) : Option (Int32 × MSt) :=
  k_bd (f_X0_hasBay 10 p1 σ) fun q2 σ1 =>
  if q2 = 0 then
  (f_X11_kind_b21 σ1)
  else
  (if p2 < 0 then
  (f_X11_kind_b21 σ1)
  else
  (if p2 ≤ (9 : Int32) then
  (k_bv (f_X2_wasKind p1 σ1) fun σ3 =>
  k_bv (f_X5_remember 50 p1 p2 σ3) fun σ4 =>
  k_ck (k_inb p1 8) <|
  some ((σ4.1 51 (p1).toNatClampNeg), σ4))
  else
  (f_X11_kind_b21 σ1)))
def rmX11_kind : Room := { frames := 3, cells := 0, slots := 0, locals := 64 }
set_option maxHeartbeats 4000000 in
set_option maxRecDepth 100000 in
theorem c_X11_kind (l : Launch) (G : va_G) (Y : CY) (w : MSt → va_W) (ad : Nat → Nat)  (LC : LayC ad w Y) (p1 : Int32) (p2 : Int32) (σ : MSt) (r : Int32) (σ' : MSt) (hf : f_X11_kind p1 p2 σ = some (r, σ')) : k_Mi l yX11_kind wsX11_kind rmX11_kind G Y w [.ref (ad 0), .int p1, .int p2] σ r σ' := by
  refine k_ofi (own := RX11) (cc := cX11_kind) (maxL := 3) (some .int) (by decide) rfl rfl (Nat.le_of_ble_eq_true rfl) ?_
  intro p e s m below meth c A C ls hl hw
  have hx := C.1
  have hb := C.2.1
  have hown := C.2.2.2.2.1
  have hts := C.2.2.2.2.2.1
  have hks := C.2.2.2.2.2.2.1
  have hl : lv_has ls 3 [(0, .ref (ad 0)), (1, .int p1), (2, .int p2)] := hl
  have b21 : ∀ (σ : MSt) (H : Heap) (locs : List Loc) (ls : Array Slot), lv_has ls 3 [] → k_W G w A s.heap σ H locs → f_X11_kind_b21 σ = some (r, σ') → W p l e rmX11_kind s m [.ref (ad 0), .int p1, .int p2].toArray below meth c H locs 0 0 (MQ below (k_Qi G w A r σ') [.ref (ad 0), .int p1, .int p2].toArray s 0 0 A) (F0 m 21 ls []) := by
    intro σ H locs ls hl hw hf
    unfold f_X11_kind_b21 at hf
    refine lv_iconst (v := (-1 : Int32)) hx hb dX11_kind_21 (by decide) ?_
    exact k_iret C hw hf dX11_kind_22
  unfold f_X11_kind at hf
  refine lv_aload_n hx hb dX11_kind_0 rfl (lv_at hl 0 rfl) ?_
  refine k_get C hw (LC_0 LC) (ci := 11) rfl k_in11 2 (by decide) lk11_28 (v := .ref (ad 10)) rfl dX11_kind_1 ?_
  refine lv_iload_n hx hb dX11_kind_4 rfl (lv_at hl 1 rfl) ?_
  obtain ⟨q2, σ1, hq, hf⟩ := k_bdE hf
  refine k_callVi C hw (c_X0_hasBay l G Y w ad 10 (LCL_10 LC) p1 σ q2 σ1 hq) (cwV 1 hts gX11_kind_X0_hasBay rfl rfl rfl (by decide +kernel) ⟨Nat.le_of_ble_eq_true rfl, Nat.le_of_ble_eq_true rfl⟩) (k_recv C hw (LC_10 LC) rfl) rfl hl.1 rfl (Nat.le_of_ble_eq_true rfl) dX11_kind_5 (fun H locs hw => ?_)
  refine lv_if_eq (tgt := 21) hx hb dX11_kind_8 (by decide) (fun h => ?_) (fun h => ?_)
  · have hf := k_ifT h hf
    exact b21 σ1 _ _ _ (lv_sub hl [] rfl) hw hf
  · have hf := k_ifF h hf
    refine lv_iload_n hx hb dX11_kind_11 rfl (lv_at hl 2 rfl) ?_
    refine lv_if_lt (tgt := 21) hx hb dX11_kind_12 (by decide) (fun h => ?_) (fun h => ?_)
    · have hf := k_ifT h hf
      exact b21 σ1 _ _ _ (lv_sub hl [] rfl) hw hf
    · have hf := k_ifF h hf
      refine lv_iload_n hx hb dX11_kind_15 rfl (lv_at hl 2 rfl) ?_
      refine lv_bipush (v := (9 : Int32)) hx hb dX11_kind_16 (by decide) ?_
      refine lv_icmp_le (tgt := 23) hx hb dX11_kind_18 (by decide) (fun h => ?_) (fun h => ?_)
      · have hf := k_ifT h hf
        refine lv_aload_n hx hb dX11_kind_23 rfl (lv_at hl 0 rfl) ?_
        refine k_get C hw (LC_0 LC) (ci := 11) rfl k_in11 6 (by decide) lk11_50 (v := .ref (ad 62)) rfl dX11_kind_24 ?_
        refine lv_iload_n hx hb dX11_kind_27 rfl (lv_at hl 1 rfl) ?_
        obtain ⟨σ3, hq, hf⟩ := k_bvE hf
        refine k_callVv C hw (c_X2_wasKind l G Y w ad LC p1 σ1 σ3 hq) (cwV 1 hts gX11_kind_X2_wasKind rfl rfl rfl (by decide +kernel) ⟨Nat.le_of_ble_eq_true rfl, Nat.le_of_ble_eq_true rfl⟩) (k_recv C hw (LC_62 LC) rfl) rfl hl.1 rfl (Nat.le_of_ble_eq_true rfl) dX11_kind_28 (fun H locs hw => ?_)
        refine lv_aload_n hx hb dX11_kind_31 rfl (lv_at hl 0 rfl) ?_
        refine k_get C hw (LC_0 LC) (ci := 11) rfl k_in11 4 (by decide) lk11_38 (v := .ref (ad 50)) rfl dX11_kind_32 ?_
        refine lv_iload_n hx hb dX11_kind_35 rfl (lv_at hl 1 rfl) ?_
        refine lv_iload_n hx hb dX11_kind_36 rfl (lv_at hl 2 rfl) ?_
        obtain ⟨σ4, hq, hf⟩ := k_bvE hf
        refine k_callVv C hw (c_X5_remember l G Y w ad 50 (LCL_50 LC) p1 p2 σ3 σ4 hq) (cwV 2 hts gX11_kind_X5_remember rfl rfl rfl (by decide +kernel) ⟨Nat.le_of_ble_eq_true rfl, Nat.le_of_ble_eq_true rfl⟩) (k_recv C hw (LC_50 LC) rfl) rfl hl.1 rfl (Nat.le_of_ble_eq_true rfl) dX11_kind_37 (fun H locs hw => ?_)
        refine lv_aload_n hx hb dX11_kind_40 rfl (lv_at hl 0 rfl) ?_
        refine k_get C hw (LC_0 LC) (ci := 11) rfl k_in11 4 (by decide) lk11_38 (v := .ref (ad 50)) rfl dX11_kind_41 ?_
        refine k_getN C hw (LC_50 LC) (ci := 5) rfl k_in5 0 (by decide) ln11_145 (v := .ref (ad 51)) rfl dX11_kind_44 ?_
        refine lv_iload_n hx hb dX11_kind_47 rfl (lv_at hl 1 rfl) ?_
        obtain ⟨hi, hf⟩ := k_ckE hf
        refine k_iald C hw (LC_51 LC) hi dX11_kind_48 ?_
        exact k_iret C hw hf dX11_kind_49
      · have hf := k_ifF h hf
        exact b21 σ1 _ _ _ (lv_sub hl [] rfl) hw hf
def f_X11_copy  (p1 : Int32) (σ : MSt) : Option (Int32 × MSt) :=
  if (σ.1 50 7) = p1 then
  (some ((0 : Int32), σ))
  else
  (k_bv (f_X2_copied σ) fun σ1 =>
  k_ck (k_bo p1) <|
  k_nm (mI σ1 50 7 p1) fun σ2 =>
  some ((1 : Int32), σ2))
def rmX11_copy : Room := { frames := 3, cells := 0, slots := 0, locals := 63 }
set_option maxHeartbeats 4000000 in
set_option maxRecDepth 100000 in
theorem c_X11_copy (l : Launch) (G : va_G) (Y : CY) (w : MSt → va_W) (ad : Nat → Nat)  (LC : LayC ad w Y) (p1 : Int32) (σ : MSt) (r : Int32) (σ' : MSt) (hf : f_X11_copy p1 σ = some (r, σ')) : k_Mi l yX11_copy wsX11_copy rmX11_copy G Y w [.ref (ad 0), .int p1] σ r σ' := by
  refine k_ofi (own := RX11) (cc := cX11_copy) (maxL := 2) (some .boolean) (by decide) rfl rfl (Nat.le_of_ble_eq_true rfl) ?_
  intro p e s m below meth c A C ls hl hw
  have hx := C.1
  have hb := C.2.1
  have hown := C.2.2.2.2.1
  have hts := C.2.2.2.2.2.1
  have hks := C.2.2.2.2.2.2.1
  have hl : lv_has ls 2 [(0, .ref (ad 0)), (1, .int p1)] := hl
  unfold f_X11_copy at hf
  refine lv_aload_n hx hb dX11_copy_0 rfl (lv_at hl 0 rfl) ?_
  refine k_get C hw (LC_0 LC) (ci := 11) rfl k_in11 4 (by decide) lk11_38 (v := .ref (ad 50)) rfl dX11_copy_1 ?_
  refine k_getN C hw (LC_50 LC) (ci := 5) rfl k_in5 7 (by decide) ln11_247 (v := .int (σ.1 50 7)) rfl dX11_copy_4 ?_
  refine lv_iload_n hx hb dX11_copy_7 rfl (lv_at hl 1 rfl) ?_
  refine lv_icmp_ne (tgt := 13) hx hb dX11_copy_8 (by decide) (fun h => ?_) (fun h => ?_)
  · have hf := k_ifF h hf
    refine lv_aload_n hx hb dX11_copy_13 rfl (lv_at hl 0 rfl) ?_
    refine k_get C hw (LC_0 LC) (ci := 11) rfl k_in11 6 (by decide) lk11_50 (v := .ref (ad 62)) rfl dX11_copy_14 ?_
    obtain ⟨σ1, hq, hf⟩ := k_bvE hf
    refine k_callVv C hw (c_X2_copied l G Y w ad LC σ σ1 hq) (cwV 0 hts gX11_copy_X2_copied rfl rfl rfl (by decide +kernel) ⟨Nat.le_of_ble_eq_true rfl, Nat.le_of_ble_eq_true rfl⟩) (k_recv C hw (LC_62 LC) rfl) rfl hl.1 rfl (Nat.le_of_ble_eq_true rfl) dX11_copy_17 (fun H locs hw => ?_)
    refine lv_aload_n hx hb dX11_copy_20 rfl (lv_at hl 0 rfl) ?_
    refine k_get C hw (LC_0 LC) (ci := 11) rfl k_in11 4 (by decide) lk11_38 (v := .ref (ad 50)) rfl dX11_copy_21 ?_
    refine lv_iload_n hx hb dX11_copy_24 rfl (lv_at hl 1 rfl) ?_
    obtain ⟨hz, hf⟩ := k_ckE hf
    refine k_putN C hw (LC_50 LC) (ci := 5) rfl k_in5 tyX5 tyX5_ok nmX5 7 (by decide) ln11_247 rfl (k_boE hz) rfl dX11_copy_25 (fun σ2 eq H locs hw => ?_)
    have hf := k_nmE eq hf
    refine lv_iconst (v := (1 : Int32)) hx hb dX11_copy_28 (by decide) ?_
    exact k_zret C hw rfl hf dX11_copy_29
  · have hf := k_ifT h hf
    refine lv_iconst (v := (0 : Int32)) hx hb dX11_copy_11 (by decide) ?_
    exact k_zret C hw rfl hf dX11_copy_12
def f_X11_go_b47_s  (r47 : Int32 → Int32 → MSt → Option (Int32 × MSt)) (x1 : Int32) (x2 : Int32) (σ : MSt) : Option (Int32 × MSt) :=
  if x1 ≤ x2 then
  (some ((σ.1 50 3), σ))
  else
  (k_bv (f_X1_pass 50 σ) fun σ1 =>
  k_nm (x2 + (1 : Int32)) fun u2 =>
  r47 x1 u2 σ1)
def f_X11_go_b47  : Nat → Int32 → Int32 → MSt → Option (Int32 × MSt)
  | 0 => fun _ _ _ => none
  | n + 1 => f_X11_go_b47_s (f_X11_go_b47 n)
def f_X11_go_b38  (x1 : Int32) (σ : MSt) : Option (Int32 × MSt) :=
  k_bv (f_X1_asTold σ) fun σ1 =>
  f_X11_go_b47 FU x1 (0 : Int32) σ1
def f_X11_go_b25   (σ : MSt) : Option (Int32 × MSt) :=
  some ((-1 : Int32), σ)
def f_X11_go  (p1 : Int32) (σ : MSt) : Option (Int32 × MSt) :=
  if p1 < 0 then
  (f_X11_go_b25 σ)
  else
  (if (99 : Int32) < p1 then
  (f_X11_go_b25 σ)
  else
  (if ((σ.1 50 3) + p1) ≤ (9900 : Int32) then
  (if p1 ≤ 0 then
  (f_X11_go_b38 p1 σ)
  else
  (k_bv (f_X2_clear σ) fun σ1 =>
  f_X11_go_b38 p1 σ1))
  else
  (f_X11_go_b25 σ)))
def rmX11_go : Room := { frames := 5, cells := 0, slots := 0, locals := 118 }
set_option maxHeartbeats 4000000 in
set_option maxRecDepth 100000 in
theorem c_X11_go (l : Launch) (G : va_G) (Y : CY) (w : MSt → va_W) (ad : Nat → Nat)  (LC : LayC ad w Y) (p1 : Int32) (σ : MSt) (r : Int32) (σ' : MSt) (hf : f_X11_go p1 σ = some (r, σ')) : k_Mi l yX11_go wsX11_go rmX11_go G Y w [.ref (ad 0), .int p1] σ r σ' := by
  refine k_ofi (own := RX11) (cc := cX11_go) (maxL := 3) (some .int) (by decide) rfl rfl (Nat.le_of_ble_eq_true rfl) ?_
  intro p e s m below meth c A C ls hl hw
  have hx := C.1
  have hb := C.2.1
  have hown := C.2.2.2.2.1
  have hts := C.2.2.2.2.2.1
  have hks := C.2.2.2.2.2.2.1
  have hl : lv_has ls 3 [(0, .ref (ad 0)), (1, .int p1)] := hl
  have b47 : ∀ (n47 : Nat) (x1 : Int32) (x2 : Int32) (σ : MSt) (H : Heap) (locs : List Loc) (ls : Array Slot), lv_has ls 3 [(0, .ref (ad 0)), (1, .int x1), (2, .int x2)] → k_W G w A s.heap σ H locs → f_X11_go_b47 n47 x1 x2 σ = some (r, σ') → W p l e rmX11_go s m [.ref (ad 0), .int p1].toArray below meth c H locs 0 0 (MQ below (k_Qi G w A r σ') [.ref (ad 0), .int p1].toArray s 0 0 A) (F0 m 47 ls []) := by
    intro n47
    induction n47 with
    | zero =>
      intro x1 x2 σ H locs ls hl hw hf
      have hf : (none : Option (Int32 × MSt)) = some (r, σ') := hf
      cases hf
    | succ n47 ih47 =>
      intro x1 x2 σ H locs ls hl hw hf
      have hf : f_X11_go_b47_s (f_X11_go_b47 n47) x1 x2 σ = some (r, σ') := hf
      unfold f_X11_go_b47_s at hf
      refine lv_iload_n hx hb dX11_go_47 rfl (lv_at hl 2 rfl) ?_
      refine lv_iload_n hx hb dX11_go_48 rfl (lv_at hl 1 rfl) ?_
      refine lv_icmp_ge (tgt := 69) hx hb dX11_go_49 (by decide) (fun h => ?_) (fun h => ?_)
      · have hf := k_ifT h hf
        refine lv_aload_n hx hb dX11_go_69 rfl (lv_at hl 0 rfl) ?_
        refine k_get C hw (LC_0 LC) (ci := 11) rfl k_in11 4 (by decide) lk11_38 (v := .ref (ad 50)) rfl dX11_go_70 ?_
        refine k_getN C hw (LC_50 LC) (ci := 5) rfl k_in5 3 (by decide) ln11_204 (v := .int (σ.1 50 3)) rfl dX11_go_73 ?_
        exact k_iret C hw hf dX11_go_76
      · have hf := k_ifF h hf
        refine lv_aload_n hx hb dX11_go_52 rfl (lv_at hl 0 rfl) ?_
        refine k_get C hw (LC_0 LC) (ci := 11) rfl k_in11 8 (by decide) lk11_66 (v := .ref (ad 71)) rfl dX11_go_53 ?_
        refine lv_aload_n hx hb dX11_go_56 rfl (lv_at hl 0 rfl) ?_
        refine k_get C hw (LC_0 LC) (ci := 11) rfl k_in11 4 (by decide) lk11_38 (v := .ref (ad 50)) rfl dX11_go_57 ?_
        obtain ⟨σ1, hq, hf⟩ := k_bvE hf
        refine k_callVv C hw (c_X1_pass l G Y w ad 50 LC (LCL_50 LC) σ σ1 hq) (cwV 1 hts gX11_go_X1_pass rfl rfl rfl (by decide +kernel) ⟨Nat.le_of_ble_eq_true rfl, Nat.le_of_ble_eq_true rfl⟩) (k_recv C hw (LC_71 LC) rfl) rfl hl.1 rfl (Nat.le_of_ble_eq_true rfl) dX11_go_60 (fun H locs hw => ?_)
        obtain ⟨u2, ex⟩ : ∃ y : Int32, y = (x2 + (1 : Int32)) := ⟨_, rfl⟩
        have hf := k_nmE ex hf
        refine lv_iinc (v := u2) (lv' := [(2, .int u2), (0, .ref (ad 0)), (1, .int x1)]) hx hb dX11_go_63 hl (k := 2) rfl (by rw [ex]; rfl) (by decide) rfl (fun ls hl => ?_)
        refine lv_goto (tgt := 47) hx hb dX11_go_66 (by decide) ?_
        exact ih47 x1 u2 σ1 _ _ _ (lv_sub hl [1, 2, 0] rfl) hw hf
  have b38 : ∀ (x1 : Int32) (σ : MSt) (H : Heap) (locs : List Loc) (ls : Array Slot), lv_has ls 3 [(0, .ref (ad 0)), (1, .int x1)] → k_W G w A s.heap σ H locs → f_X11_go_b38 x1 σ = some (r, σ') → W p l e rmX11_go s m [.ref (ad 0), .int p1].toArray below meth c H locs 0 0 (MQ below (k_Qi G w A r σ') [.ref (ad 0), .int p1].toArray s 0 0 A) (F0 m 38 ls []) := by
    intro x1 σ H locs ls hl hw hf
    unfold f_X11_go_b38 at hf
    refine lv_aload_n hx hb dX11_go_38 rfl (lv_at hl 0 rfl) ?_
    refine k_get C hw (LC_0 LC) (ci := 11) rfl k_in11 8 (by decide) lk11_66 (v := .ref (ad 71)) rfl dX11_go_39 ?_
    obtain ⟨σ1, hq, hf⟩ := k_bvE hf
    refine k_callVv C hw (c_X1_asTold l G Y w ad LC σ σ1 hq) (cwV 0 hts gX11_go_X1_asTold rfl rfl rfl (by decide +kernel) ⟨Nat.le_of_ble_eq_true rfl, Nat.le_of_ble_eq_true rfl⟩) (k_recv C hw (LC_71 LC) rfl) rfl hl.1 rfl (Nat.le_of_ble_eq_true rfl) dX11_go_42 (fun H locs hw => ?_)
    refine lv_iconst (v := (0 : Int32)) hx hb dX11_go_45 (by decide) ?_
    refine lv_istore_n (lv' := [(2, .int (0 : Int32)), (0, .ref (ad 0)), (1, .int x1)]) hx hb dX11_go_46 rfl hl (by decide) rfl (fun ls hl => ?_)
    exact b47 FU x1 (0 : Int32) σ1 _ _ _ (lv_sub hl [1, 2, 0] rfl) hw hf
  have b25 : ∀ (σ : MSt) (H : Heap) (locs : List Loc) (ls : Array Slot), lv_has ls 3 [] → k_W G w A s.heap σ H locs → f_X11_go_b25 σ = some (r, σ') → W p l e rmX11_go s m [.ref (ad 0), .int p1].toArray below meth c H locs 0 0 (MQ below (k_Qi G w A r σ') [.ref (ad 0), .int p1].toArray s 0 0 A) (F0 m 25 ls []) := by
    intro σ H locs ls hl hw hf
    unfold f_X11_go_b25 at hf
    refine lv_iconst (v := (-1 : Int32)) hx hb dX11_go_25 (by decide) ?_
    exact k_iret C hw hf dX11_go_26
  unfold f_X11_go at hf
  refine lv_iload_n hx hb dX11_go_0 rfl (lv_at hl 1 rfl) ?_
  refine lv_if_lt (tgt := 25) hx hb dX11_go_1 (by decide) (fun h => ?_) (fun h => ?_)
  · have hf := k_ifT h hf
    exact b25 σ _ _ _ (lv_sub hl [] rfl) hw hf
  · have hf := k_ifF h hf
    refine lv_iload_n hx hb dX11_go_4 rfl (lv_at hl 1 rfl) ?_
    refine lv_bipush (v := (99 : Int32)) hx hb dX11_go_5 (by decide) ?_
    refine lv_icmp_gt (tgt := 25) hx hb dX11_go_7 (by decide) (fun h => ?_) (fun h => ?_)
    · have hf := k_ifT h hf
      exact b25 σ _ _ _ (lv_sub hl [] rfl) hw hf
    · have hf := k_ifF h hf
      refine lv_aload_n hx hb dX11_go_10 rfl (lv_at hl 0 rfl) ?_
      refine k_get C hw (LC_0 LC) (ci := 11) rfl k_in11 4 (by decide) lk11_38 (v := .ref (ad 50)) rfl dX11_go_11 ?_
      refine k_getN C hw (LC_50 LC) (ci := 5) rfl k_in5 3 (by decide) ln11_204 (v := .int (σ.1 50 3)) rfl dX11_go_14 ?_
      refine lv_iload_n hx hb dX11_go_17 rfl (lv_at hl 1 rfl) ?_
      refine lv_iadd hx hb dX11_go_18 ?_
      refine lv_sipush (v := (9900 : Int32)) hx hb dX11_go_19 (by decide) ?_
      refine lv_icmp_le (tgt := 27) hx hb dX11_go_22 (by decide) (fun h => ?_) (fun h => ?_)
      · have hf := k_ifT h hf
        refine lv_iload_n hx hb dX11_go_27 rfl (lv_at hl 1 rfl) ?_
        refine lv_if_le (tgt := 38) hx hb dX11_go_28 (by decide) (fun h => ?_) (fun h => ?_)
        · have hf := k_ifT h hf
          exact b38 p1 σ _ _ _ (lv_sub hl [0, 1] rfl) hw hf
        · have hf := k_ifF h hf
          refine lv_aload_n hx hb dX11_go_31 rfl (lv_at hl 0 rfl) ?_
          refine k_get C hw (LC_0 LC) (ci := 11) rfl k_in11 6 (by decide) lk11_50 (v := .ref (ad 62)) rfl dX11_go_32 ?_
          obtain ⟨σ1, hq, hf⟩ := k_bvE hf
          refine k_callVv C hw (c_X2_clear l G Y w ad LC σ σ1 hq) (cwV 0 hts gX11_go_X2_clear rfl rfl rfl (by decide +kernel) ⟨Nat.le_of_ble_eq_true rfl, Nat.le_of_ble_eq_true rfl⟩) (k_recv C hw (LC_62 LC) rfl) rfl hl.1 rfl (Nat.le_of_ble_eq_true rfl) dX11_go_35 (fun H locs hw => ?_)
          exact b38 p1 σ1 _ _ _ (lv_sub hl [0, 1] rfl) hw hf
      · have hf := k_ifF h hf
        exact b25 σ _ _ _ (lv_sub hl [] rfl) hw hf
def f_X11_firstAdrift_b11   (σ : MSt) : Option (Int32 × MSt) :=
  some ((-1 : Int32), σ)
def f_X11_firstAdrift  (p1 : Int32) (σ : MSt) : Option (Int32 × MSt) :=
  if p1 < (1 : Int32) then
  (f_X11_firstAdrift_b11 σ)
  else
  (if p1 ≤ (99 : Int32) then
  (k_bv (f_X1_asItGoes σ) fun σ1 =>
  k_bd (f_X1_firstAdriftOf p1 σ1) fun q3 σ2 =>
  some (q3, σ2))
  else
  (f_X11_firstAdrift_b11 σ))
def rmX11_firstAdrift : Room := { frames := 6, cells := 0, slots := 0, locals := 141 }
set_option maxHeartbeats 4000000 in
set_option maxRecDepth 100000 in
theorem c_X11_firstAdrift (l : Launch) (G : va_G) (Y : CY) (w : MSt → va_W) (ad : Nat → Nat)  (LC : LayC ad w Y) (p1 : Int32) (σ : MSt) (r : Int32) (σ' : MSt) (hf : f_X11_firstAdrift p1 σ = some (r, σ')) : k_Mi l yX11_firstAdrift wsX11_firstAdrift rmX11_firstAdrift G Y w [.ref (ad 0), .int p1] σ r σ' := by
  refine k_ofi (own := RX11) (cc := cX11_firstAdrift) (maxL := 2) (some .int) (by decide) rfl rfl (Nat.le_of_ble_eq_true rfl) ?_
  intro p e s m below meth c A C ls hl hw
  have hx := C.1
  have hb := C.2.1
  have hown := C.2.2.2.2.1
  have hts := C.2.2.2.2.2.1
  have hks := C.2.2.2.2.2.2.1
  have hl : lv_has ls 2 [(0, .ref (ad 0)), (1, .int p1)] := hl
  have b11 : ∀ (σ : MSt) (H : Heap) (locs : List Loc) (ls : Array Slot), lv_has ls 2 [] → k_W G w A s.heap σ H locs → f_X11_firstAdrift_b11 σ = some (r, σ') → W p l e rmX11_firstAdrift s m [.ref (ad 0), .int p1].toArray below meth c H locs 0 0 (MQ below (k_Qi G w A r σ') [.ref (ad 0), .int p1].toArray s 0 0 A) (F0 m 11 ls []) := by
    intro σ H locs ls hl hw hf
    unfold f_X11_firstAdrift_b11 at hf
    refine lv_iconst (v := (-1 : Int32)) hx hb dX11_firstAdrift_11 (by decide) ?_
    exact k_iret C hw hf dX11_firstAdrift_12
  unfold f_X11_firstAdrift at hf
  refine lv_iload_n hx hb dX11_firstAdrift_0 rfl (lv_at hl 1 rfl) ?_
  refine lv_iconst (v := (1 : Int32)) hx hb dX11_firstAdrift_1 (by decide) ?_
  refine lv_icmp_lt (tgt := 11) hx hb dX11_firstAdrift_2 (by decide) (fun h => ?_) (fun h => ?_)
  · have hf := k_ifT h hf
    exact b11 σ _ _ _ (lv_sub hl [] rfl) hw hf
  · have hf := k_ifF h hf
    refine lv_iload_n hx hb dX11_firstAdrift_5 rfl (lv_at hl 1 rfl) ?_
    refine lv_bipush (v := (99 : Int32)) hx hb dX11_firstAdrift_6 (by decide) ?_
    refine lv_icmp_le (tgt := 13) hx hb dX11_firstAdrift_8 (by decide) (fun h => ?_) (fun h => ?_)
    · have hf := k_ifT h hf
      refine lv_aload_n hx hb dX11_firstAdrift_13 rfl (lv_at hl 0 rfl) ?_
      refine k_get C hw (LC_0 LC) (ci := 11) rfl k_in11 8 (by decide) lk11_66 (v := .ref (ad 71)) rfl dX11_firstAdrift_14 ?_
      obtain ⟨σ1, hq, hf⟩ := k_bvE hf
      refine k_callVv C hw (c_X1_asItGoes l G Y w ad LC σ σ1 hq) (cwV 0 hts gX11_firstAdrift_X1_asItGoes rfl rfl rfl (by decide +kernel) ⟨Nat.le_of_ble_eq_true rfl, Nat.le_of_ble_eq_true rfl⟩) (k_recv C hw (LC_71 LC) rfl) rfl hl.1 rfl (Nat.le_of_ble_eq_true rfl) dX11_firstAdrift_17 (fun H locs hw => ?_)
      refine lv_aload_n hx hb dX11_firstAdrift_20 rfl (lv_at hl 0 rfl) ?_
      refine k_get C hw (LC_0 LC) (ci := 11) rfl k_in11 8 (by decide) lk11_66 (v := .ref (ad 71)) rfl dX11_firstAdrift_21 ?_
      refine lv_iload_n hx hb dX11_firstAdrift_24 rfl (lv_at hl 1 rfl) ?_
      obtain ⟨q3, σ2, hq, hf⟩ := k_bdE hf
      refine k_callVi C hw (c_X1_firstAdriftOf l G Y w ad LC p1 σ1 q3 σ2 hq) (cwV 1 hts gX11_firstAdrift_X1_firstAdriftOf rfl rfl rfl (by decide +kernel) ⟨Nat.le_of_ble_eq_true rfl, Nat.le_of_ble_eq_true rfl⟩) (k_recv C hw (LC_71 LC) rfl) rfl hl.1 rfl (Nat.le_of_ble_eq_true rfl) dX11_firstAdrift_25 (fun H locs hw => ?_)
      exact k_iret C hw hf dX11_firstAdrift_28
    · have hf := k_ifF h hf
      exact b11 σ _ _ _ (lv_sub hl [] rfl) hw hf
def f_X11_way_b70  (y0 : Int32) (σ : MSt) : Option (Int32 × MSt) :=
  some (y0, σ)
def f_X11_way_b20   (σ : MSt) : Option (Int32 × MSt) :=
  some ((-1 : Int32), σ)
def f_X11_way  (p1 : Int32) (p2 : Int32) (σ : MSt) : Option (Int32 × MSt) :=
  k_bd (f_X0_hasBay 10 p1 σ) fun q2 σ1 =>
  if q2 = 0 then
  (f_X11_way_b20 σ1)
  else
  (if p2 < 0 then
  (f_X11_way_b20 σ1)
  else
  (if p2 ≤ (1 : Int32) then
  (k_bv (f_X10_plan σ1) fun σ3 =>
  k_ck (k_inb p1 8) <|
  if (σ3.1 74 (p1).toNatClampNeg) = (-1 : Int32) then
  (some ((-2 : Int32), σ3))
  else
  (if p2 = 0 then
  (k_ck (k_inb p1 8) <|
  f_X11_way_b70 (σ3.1 74 (p1).toNatClampNeg) σ3)
  else
  (k_ck (k_inb p1 8) <|
  f_X11_way_b70 (σ3.1 75 (p1).toNatClampNeg) σ3)))
  else
  (f_X11_way_b20 σ1)))
def rmX11_way : Room := { frames := 7, cells := 0, slots := 0, locals := 167 }
set_option maxHeartbeats 4000000 in
set_option maxRecDepth 100000 in
theorem c_X11_way (l : Launch) (G : va_G) (Y : CY) (w : MSt → va_W) (ad : Nat → Nat)  (LC : LayC ad w Y) (p1 : Int32) (p2 : Int32) (σ : MSt) (r : Int32) (σ' : MSt) (hf : f_X11_way p1 p2 σ = some (r, σ')) : k_Mi l yX11_way wsX11_way rmX11_way G Y w [.ref (ad 0), .int p1, .int p2] σ r σ' := by
  refine k_ofi (own := RX11) (cc := cX11_way) (maxL := 3) (some .int) (by decide) rfl rfl (Nat.le_of_ble_eq_true rfl) ?_
  intro p e s m below meth c A C ls hl hw
  have hx := C.1
  have hb := C.2.1
  have hown := C.2.2.2.2.1
  have hts := C.2.2.2.2.2.1
  have hks := C.2.2.2.2.2.2.1
  have hl : lv_has ls 3 [(0, .ref (ad 0)), (1, .int p1), (2, .int p2)] := hl
  have b70 : ∀ (y0 : Int32) (σ : MSt) (H : Heap) (locs : List Loc) (ls : Array Slot), lv_has ls 3 [] → k_W G w A s.heap σ H locs → f_X11_way_b70 y0 σ = some (r, σ') → W p l e rmX11_way s m [.ref (ad 0), .int p1, .int p2].toArray below meth c H locs 0 0 (MQ below (k_Qi G w A r σ') [.ref (ad 0), .int p1, .int p2].toArray s 0 0 A) (F0 m 70 ls [.int y0]) := by
    intro y0 σ H locs ls hl hw hf
    unfold f_X11_way_b70 at hf
    exact k_iret C hw hf dX11_way_70
  have b20 : ∀ (σ : MSt) (H : Heap) (locs : List Loc) (ls : Array Slot), lv_has ls 3 [] → k_W G w A s.heap σ H locs → f_X11_way_b20 σ = some (r, σ') → W p l e rmX11_way s m [.ref (ad 0), .int p1, .int p2].toArray below meth c H locs 0 0 (MQ below (k_Qi G w A r σ') [.ref (ad 0), .int p1, .int p2].toArray s 0 0 A) (F0 m 20 ls []) := by
    intro σ H locs ls hl hw hf
    unfold f_X11_way_b20 at hf
    refine lv_iconst (v := (-1 : Int32)) hx hb dX11_way_20 (by decide) ?_
    exact k_iret C hw hf dX11_way_21
  unfold f_X11_way at hf
  refine lv_aload_n hx hb dX11_way_0 rfl (lv_at hl 0 rfl) ?_
  refine k_get C hw (LC_0 LC) (ci := 11) rfl k_in11 2 (by decide) lk11_28 (v := .ref (ad 10)) rfl dX11_way_1 ?_
  refine lv_iload_n hx hb dX11_way_4 rfl (lv_at hl 1 rfl) ?_
  obtain ⟨q2, σ1, hq, hf⟩ := k_bdE hf
  refine k_callVi C hw (c_X0_hasBay l G Y w ad 10 (LCL_10 LC) p1 σ q2 σ1 hq) (cwV 1 hts gX11_way_X0_hasBay rfl rfl rfl (by decide +kernel) ⟨Nat.le_of_ble_eq_true rfl, Nat.le_of_ble_eq_true rfl⟩) (k_recv C hw (LC_10 LC) rfl) rfl hl.1 rfl (Nat.le_of_ble_eq_true rfl) dX11_way_5 (fun H locs hw => ?_)
  refine lv_if_eq (tgt := 20) hx hb dX11_way_8 (by decide) (fun h => ?_) (fun h => ?_)
  · have hf := k_ifT h hf
    exact b20 σ1 _ _ _ (lv_sub hl [] rfl) hw hf
  · have hf := k_ifF h hf
    refine lv_iload_n hx hb dX11_way_11 rfl (lv_at hl 2 rfl) ?_
    refine lv_if_lt (tgt := 20) hx hb dX11_way_12 (by decide) (fun h => ?_) (fun h => ?_)
    · have hf := k_ifT h hf
      exact b20 σ1 _ _ _ (lv_sub hl [] rfl) hw hf
    · have hf := k_ifF h hf
      refine lv_iload_n hx hb dX11_way_15 rfl (lv_at hl 2 rfl) ?_
      refine lv_iconst (v := (1 : Int32)) hx hb dX11_way_16 (by decide) ?_
      refine lv_icmp_le (tgt := 22) hx hb dX11_way_17 (by decide) (fun h => ?_) (fun h => ?_)
      · have hf := k_ifT h hf
        refine lv_aload_n hx hb dX11_way_22 rfl (lv_at hl 0 rfl) ?_
        refine k_get C hw (LC_0 LC) (ci := 11) rfl k_in11 9 (by decide) lk11_75 (v := .ref (ad 73)) rfl dX11_way_23 ?_
        obtain ⟨σ3, hq, hf⟩ := k_bvE hf
        refine k_callVv C hw (c_X10_plan l G Y w ad LC σ1 σ3 hq) (cwV 0 hts gX11_way_X10_plan rfl rfl rfl (by decide +kernel) ⟨Nat.le_of_ble_eq_true rfl, Nat.le_of_ble_eq_true rfl⟩) (k_recv C hw (LC_73 LC) rfl) rfl hl.1 rfl (Nat.le_of_ble_eq_true rfl) dX11_way_26 (fun H locs hw => ?_)
        refine lv_aload_n hx hb dX11_way_29 rfl (lv_at hl 0 rfl) ?_
        refine k_get C hw (LC_0 LC) (ci := 11) rfl k_in11 9 (by decide) lk11_75 (v := .ref (ad 73)) rfl dX11_way_30 ?_
        refine k_getN C hw (LC_73 LC) (ci := 10) rfl k_in10 3 (by decide) ln11_268 (v := .ref (ad 74)) rfl dX11_way_33 ?_
        refine lv_iload_n hx hb dX11_way_36 rfl (lv_at hl 1 rfl) ?_
        obtain ⟨hi, hf⟩ := k_ckE hf
        refine k_iald C hw (LC_74 LC) hi dX11_way_37 ?_
        refine lv_iconst (v := (-1 : Int32)) hx hb dX11_way_38 (by decide) ?_
        refine lv_icmp_ne (tgt := 45) hx hb dX11_way_39 (by decide) (fun h => ?_) (fun h => ?_)
        · have hf := k_ifF h hf
          refine lv_iload_n hx hb dX11_way_45 rfl (lv_at hl 2 rfl) ?_
          refine lv_if_ne (tgt := 61) hx hb dX11_way_46 (by decide) (fun h => ?_) (fun h => ?_)
          · have hf := k_ifF h hf
            refine lv_aload_n hx hb dX11_way_61 rfl (lv_at hl 0 rfl) ?_
            refine k_get C hw (LC_0 LC) (ci := 11) rfl k_in11 9 (by decide) lk11_75 (v := .ref (ad 73)) rfl dX11_way_62 ?_
            refine k_getN C hw (LC_73 LC) (ci := 10) rfl k_in10 4 (by decide) ln11_271 (v := .ref (ad 75)) rfl dX11_way_65 ?_
            refine lv_iload_n hx hb dX11_way_68 rfl (lv_at hl 1 rfl) ?_
            obtain ⟨hi, hf⟩ := k_ckE hf
            refine k_iald C hw (LC_75 LC) hi dX11_way_69 ?_
            exact b70 (σ3.1 75 (p1).toNatClampNeg) σ3 _ _ _ (lv_sub hl [] rfl) hw hf
          · have hf := k_ifT h hf
            refine lv_aload_n hx hb dX11_way_49 rfl (lv_at hl 0 rfl) ?_
            refine k_get C hw (LC_0 LC) (ci := 11) rfl k_in11 9 (by decide) lk11_75 (v := .ref (ad 73)) rfl dX11_way_50 ?_
            refine k_getN C hw (LC_73 LC) (ci := 10) rfl k_in10 3 (by decide) ln11_268 (v := .ref (ad 74)) rfl dX11_way_53 ?_
            refine lv_iload_n hx hb dX11_way_56 rfl (lv_at hl 1 rfl) ?_
            obtain ⟨hi, hf⟩ := k_ckE hf
            refine k_iald C hw (LC_74 LC) hi dX11_way_57 ?_
            refine lv_goto (tgt := 70) hx hb dX11_way_58 (by decide) ?_
            exact b70 (σ3.1 74 (p1).toNatClampNeg) σ3 _ _ _ (lv_sub hl [] rfl) hw hf
        · have hf := k_ifT h hf
          refine lv_bipush (v := (-2 : Int32)) hx hb dX11_way_42 (by decide) ?_
          exact k_iret C hw hf dX11_way_44
      · have hf := k_ifF h hf
        exact b20 σ1 _ _ _ (lv_sub hl [] rfl) hw hf
def f_X11_never_b53  (x1 : Int32) (σ : MSt) : Option (Int32 × MSt) :=
  some (x1, σ)
def f_X11_never_b47  (r11 : Int32 → Int32 → MSt → Option (Int32 × MSt)) (x1 : Int32) (x2 : Int32) (σ : MSt) : Option (Int32 × MSt) :=
  k_nm (x2 + (1 : Int32)) fun u1 =>
  r11 x1 u1 σ
def f_X11_never_b11_s  (r11 : Int32 → Int32 → MSt → Option (Int32 × MSt)) (x1 : Int32) (x2 : Int32) (σ : MSt) : Option (Int32 × MSt) :=
  if (σ.1 10 7) ≤ x2 then
  (f_X11_never_b53 x1 σ)
  else
  (if (8 : Int32) ≤ x2 then
  (f_X11_never_b53 x1 σ)
  else
  (k_ck (k_inb x2 8) <|
  if (σ.1 74 (x2).toNatClampNeg) = (-1 : Int32) then
  (k_nm (x1 ||| ((1 : Int32) <<< (x2 &&& 31))) fun u1 =>
  f_X11_never_b47 r11 u1 x2 σ)
  else
  (f_X11_never_b47 r11 x1 x2 σ)))
def f_X11_never_b11  : Nat → Int32 → Int32 → MSt → Option (Int32 × MSt)
  | 0 => fun _ _ _ => none
  | n + 1 => f_X11_never_b11_s (f_X11_never_b11 n)
def f_X11_never   (σ : MSt) : Option (Int32 × MSt) :=
  k_bv (f_X10_plan σ) fun σ2 =>
  f_X11_never_b11 FU (0 : Int32) (0 : Int32) σ2
def rmX11_never : Room := { frames := 7, cells := 0, slots := 0, locals := 167 }
set_option maxHeartbeats 4000000 in
set_option maxRecDepth 100000 in
theorem c_X11_never (l : Launch) (G : va_G) (Y : CY) (w : MSt → va_W) (ad : Nat → Nat)  (LC : LayC ad w Y)  (σ : MSt) (r : Int32) (σ' : MSt) (hf : f_X11_never σ = some (r, σ')) : k_Mi l yX11_never wsX11_never rmX11_never G Y w [.ref (ad 0)] σ r σ' := by
  refine k_ofi (own := RX11) (cc := cX11_never) (maxL := 3) (some .int) (by decide) rfl rfl (Nat.le_of_ble_eq_true rfl) ?_
  intro p e s m below meth c A C ls hl hw
  have hx := C.1
  have hb := C.2.1
  have hown := C.2.2.2.2.1
  have hts := C.2.2.2.2.2.1
  have hks := C.2.2.2.2.2.2.1
  have hl : lv_has ls 3 [(0, .ref (ad 0))] := hl
  have b53 : ∀ (x1 : Int32) (σ : MSt) (H : Heap) (locs : List Loc) (ls : Array Slot), lv_has ls 3 [(1, .int x1)] → k_W G w A s.heap σ H locs → f_X11_never_b53 x1 σ = some (r, σ') → W p l e rmX11_never s m [.ref (ad 0)].toArray below meth c H locs 0 0 (MQ below (k_Qi G w A r σ') [.ref (ad 0)].toArray s 0 0 A) (F0 m 53 ls []) := by
    intro x1 σ H locs ls hl hw hf
    unfold f_X11_never_b53 at hf
    refine lv_iload_n hx hb dX11_never_53 rfl (lv_at hl 0 rfl) ?_
    exact k_iret C hw hf dX11_never_54
  have b11 : ∀ (n11 : Nat) (x1 : Int32) (x2 : Int32) (σ : MSt) (H : Heap) (locs : List Loc) (ls : Array Slot), lv_has ls 3 [(0, .ref (ad 0)), (1, .int x1), (2, .int x2)] → k_W G w A s.heap σ H locs → f_X11_never_b11 n11 x1 x2 σ = some (r, σ') → W p l e rmX11_never s m [.ref (ad 0)].toArray below meth c H locs 0 0 (MQ below (k_Qi G w A r σ') [.ref (ad 0)].toArray s 0 0 A) (F0 m 11 ls []) := by
    intro n11
    induction n11 with
    | zero =>
      intro x1 x2 σ H locs ls hl hw hf
      have hf : (none : Option (Int32 × MSt)) = some (r, σ') := hf
      cases hf
    | succ n11 ih11 =>
      have b47 : ∀ (x1 : Int32) (x2 : Int32) (σ : MSt) (H : Heap) (locs : List Loc) (ls : Array Slot), lv_has ls 3 [(0, .ref (ad 0)), (1, .int x1), (2, .int x2)] → k_W G w A s.heap σ H locs → f_X11_never_b47 (f_X11_never_b11 n11) x1 x2 σ = some (r, σ') → W p l e rmX11_never s m [.ref (ad 0)].toArray below meth c H locs 0 0 (MQ below (k_Qi G w A r σ') [.ref (ad 0)].toArray s 0 0 A) (F0 m 47 ls []) := by
        intro x1 x2 σ H locs ls hl hw hf
        unfold f_X11_never_b47 at hf
        obtain ⟨u1, ex⟩ : ∃ y : Int32, y = (x2 + (1 : Int32)) := ⟨_, rfl⟩
        have hf := k_nmE ex hf
        refine lv_iinc (v := u1) (lv' := [(2, .int u1), (0, .ref (ad 0)), (1, .int x1)]) hx hb dX11_never_47 hl (k := 2) rfl (by rw [ex]; rfl) (by decide) rfl (fun ls hl => ?_)
        refine lv_goto (tgt := 11) hx hb dX11_never_50 (by decide) ?_
        exact ih11 x1 u1 σ _ _ _ (lv_sub hl [1, 2, 0] rfl) hw hf
      intro x1 x2 σ H locs ls hl hw hf
      have hf : f_X11_never_b11_s (f_X11_never_b11 n11) x1 x2 σ = some (r, σ') := hf
      unfold f_X11_never_b11_s at hf
      refine lv_iload_n hx hb dX11_never_11 rfl (lv_at hl 2 rfl) ?_
      refine lv_aload_n hx hb dX11_never_12 rfl (lv_at hl 0 rfl) ?_
      refine k_get C hw (LC_0 LC) (ci := 11) rfl k_in11 2 (by decide) lk11_28 (v := .ref (ad 10)) rfl dX11_never_13 ?_
      refine k_getN C hw (LC_10 LC) (ci := 0) rfl k_in0 7 (by decide) ln11_274 (v := .int (σ.1 10 7)) rfl dX11_never_16 ?_
      refine lv_icmp_ge (tgt := 53) hx hb dX11_never_19 (by decide) (fun h => ?_) (fun h => ?_)
      · have hf := k_ifT h hf
        exact b53 x1 σ _ _ _ (lv_sub hl [1] rfl) hw hf
      · have hf := k_ifF h hf
        refine lv_iload_n hx hb dX11_never_22 rfl (lv_at hl 2 rfl) ?_
        refine lv_bipush (v := (8 : Int32)) hx hb dX11_never_23 (by decide) ?_
        refine lv_icmp_ge (tgt := 53) hx hb dX11_never_25 (by decide) (fun h => ?_) (fun h => ?_)
        · have hf := k_ifT h hf
          exact b53 x1 σ _ _ _ (lv_sub hl [1] rfl) hw hf
        · have hf := k_ifF h hf
          refine lv_aload_n hx hb dX11_never_28 rfl (lv_at hl 0 rfl) ?_
          refine k_get C hw (LC_0 LC) (ci := 11) rfl k_in11 9 (by decide) lk11_75 (v := .ref (ad 73)) rfl dX11_never_29 ?_
          refine k_getN C hw (LC_73 LC) (ci := 10) rfl k_in10 3 (by decide) ln11_268 (v := .ref (ad 74)) rfl dX11_never_32 ?_
          refine lv_iload_n hx hb dX11_never_35 rfl (lv_at hl 2 rfl) ?_
          obtain ⟨hi, hf⟩ := k_ckE hf
          refine k_iald C hw (LC_74 LC) hi dX11_never_36 ?_
          refine lv_iconst (v := (-1 : Int32)) hx hb dX11_never_37 (by decide) ?_
          refine lv_icmp_ne (tgt := 47) hx hb dX11_never_38 (by decide) (fun h => ?_) (fun h => ?_)
          · have hf := k_ifF h hf
            exact b47 x1 x2 σ _ _ _ (lv_sub hl [0, 1, 2] rfl) hw hf
          · have hf := k_ifT h hf
            refine lv_iload_n hx hb dX11_never_41 rfl (lv_at hl 1 rfl) ?_
            refine lv_iconst (v := (1 : Int32)) hx hb dX11_never_42 (by decide) ?_
            refine lv_iload_n hx hb dX11_never_43 rfl (lv_at hl 2 rfl) ?_
            refine lv_ishl hx hb dX11_never_44 ?_
            refine lv_ior hx hb dX11_never_45 ?_
            refine lv_topi (fun u1 ex => ?_)
            have hf := k_nmE ex hf
            refine lv_istore_n (lv' := [(1, .int u1), (0, .ref (ad 0)), (2, .int x2)]) hx hb dX11_never_46 rfl hl (by decide) rfl (fun ls hl => ?_)
            exact b47 u1 x2 σ _ _ _ (lv_sub hl [1, 0, 2] rfl) hw hf
  unfold f_X11_never at hf
  refine lv_aload_n hx hb dX11_never_0 rfl (lv_at hl 0 rfl) ?_
  refine k_get C hw (LC_0 LC) (ci := 11) rfl k_in11 9 (by decide) lk11_75 (v := .ref (ad 73)) rfl dX11_never_1 ?_
  obtain ⟨σ2, hq, hf⟩ := k_bvE hf
  refine k_callVv C hw (c_X10_plan l G Y w ad LC σ σ2 hq) (cwV 0 hts gX11_never_X10_plan rfl rfl rfl (by decide +kernel) ⟨Nat.le_of_ble_eq_true rfl, Nat.le_of_ble_eq_true rfl⟩) (k_recv C hw (LC_73 LC) rfl) rfl hl.1 rfl (Nat.le_of_ble_eq_true rfl) dX11_never_4 (fun H locs hw => ?_)
  refine lv_iconst (v := (0 : Int32)) hx hb dX11_never_7 (by decide) ?_
  refine lv_istore_n (lv' := [(1, .int (0 : Int32)), (0, .ref (ad 0))]) hx hb dX11_never_8 rfl hl (by decide) rfl (fun ls hl => ?_)
  refine lv_iconst (v := (0 : Int32)) hx hb dX11_never_9 (by decide) ?_
  refine lv_istore_n (lv' := [(2, .int (0 : Int32)), (1, .int (0 : Int32)), (0, .ref (ad 0))]) hx hb dX11_never_10 rfl hl (by decide) rfl (fun ls hl => ?_)
  exact b11 FU (0 : Int32) (0 : Int32) σ2 _ _ _ (lv_sub hl [2, 1, 0] rfl) hw hf
