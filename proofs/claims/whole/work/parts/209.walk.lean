def f_X12_kind_b23   (σ : MSt) : Option (Int32 × MSt) :=
  some ((-1 : Int32), σ)
def f_X12_kind  (p1 : Int32) (p2 : Int32) (σ : MSt) : Option (Int32 × MSt) :=
  k_nm (mI σ 0 0 (0 : Int32)) fun σ1 =>
  k_bd (f_X12_isBay p1 σ1) fun q3 σ2 =>
  if q3 = 0 then
  (f_X12_kind_b23 σ2)
  else
  (if p2 < 0 then
  (f_X12_kind_b23 σ2)
  else
  (if p2 ≤ (9 : Int32) then
  (k_bv (f_X12_keepNow σ2) fun σ4 =>
  k_bv (f_X12_remembers (0 : Int32) p1 p2 σ4) fun σ5 =>
  k_ck (k_inb p1 192) <|
  some ((σ5.1 26 (p1).toNatClampNeg), σ5))
  else
  (f_X12_kind_b23 σ2)))
def rmX12_kind : Room := { frames := 2, cells := 0, slots := 0, locals := 47 }
set_option maxHeartbeats 4000000 in
set_option maxRecDepth 100000 in
theorem c_X12_kind (l : Launch) (G : va_G) (Y : CY) (w : MSt → va_W) (ad : Nat → Nat)  (LM : LayM ad w Y) (p1 : Int32) (p2 : Int32) (σ : MSt) (r : Int32) (σ' : MSt) (hf : f_X12_kind p1 p2 σ = some (r, σ')) : k_Mi l yX12_kind wsX12_kind rmX12_kind G Y w [.ref (ad 0), .int p1, .int p2] σ r σ' := by
  refine k_ofi (own := RX12) (cc := cX12_kind) (maxL := 3) (some .int) (by decide) rfl rfl (Nat.le_of_ble_eq_true rfl) ?_
  intro p e s m below meth c A C ls hl hw
  have hx := C.1
  have hb := C.2.1
  have hown := C.2.2.2.2.1
  have hts := C.2.2.2.2.2.1
  have hks := C.2.2.2.2.2.2.1
  have hl : lv_has ls 3 [(0, .ref (ad 0)), (1, .int p1), (2, .int p2)] := hl
  have b23 : ∀ (σ : MSt) (H : Heap) (locs : List Loc) (ls : Array Slot), lv_has ls 3 [] → k_W G w A s.heap σ H locs → f_X12_kind_b23 σ = some (r, σ') → W p l e rmX12_kind s m [.ref (ad 0), .int p1, .int p2].toArray below meth c H locs 0 0 (MQ below (k_Qi G w A r σ') [.ref (ad 0), .int p1, .int p2].toArray s 0 0 A) (F0 m 23 ls []) := by
    intro σ H locs ls hl hw hf
    unfold f_X12_kind_b23 at hf
    refine lv_iconst (v := (-1 : Int32)) hx hb dX12_kind_23 (by decide) ?_
    exact k_iret C hw hf dX12_kind_24
  unfold f_X12_kind at hf
  refine lv_aload_n hx hb dX12_kind_0 rfl (lv_at hl 0 rfl) ?_
  refine lv_iconst (v := (0 : Int32)) hx hb dX12_kind_1 (by decide) ?_
  refine k_put C hw (LM_0 LM) (ci := 12) rfl k_in12 tyX12 tyX12_ok nmX12 0 (by decide) lk12_145 rfl ⟨rfl, rfl⟩ rfl dX12_kind_2 (fun σ1 eq H locs hw => ?_)
  have hf := k_nmE eq hf
  refine lv_aload_n hx hb dX12_kind_5 rfl (lv_at hl 0 rfl) ?_
  refine lv_iload_n hx hb dX12_kind_6 rfl (lv_at hl 1 rfl) ?_
  obtain ⟨q3, σ2, hq, hf⟩ := k_bdE hf
  refine k_callVi C hw (c_X12_isBay l G Y w ad LM p1 σ1 q3 σ2 hq) (cwV 1 hts gX12_kind_X12_isBay rfl rfl rfl (by decide +kernel) ⟨Nat.le_of_ble_eq_true rfl, Nat.le_of_ble_eq_true rfl⟩) (k_recv C hw (LM_0 LM) rfl) rfl hl.1 rfl (Nat.le_of_ble_eq_true rfl) dX12_kind_7 (fun H locs hw => ?_)
  refine lv_if_eq (tgt := 23) hx hb dX12_kind_10 (by decide) (fun h => ?_) (fun h => ?_)
  · have hf := k_ifT h hf
    exact b23 σ2 _ _ _ (lv_sub hl [] rfl) hw hf
  · have hf := k_ifF h hf
    refine lv_iload_n hx hb dX12_kind_13 rfl (lv_at hl 2 rfl) ?_
    refine lv_if_lt (tgt := 23) hx hb dX12_kind_14 (by decide) (fun h => ?_) (fun h => ?_)
    · have hf := k_ifT h hf
      exact b23 σ2 _ _ _ (lv_sub hl [] rfl) hw hf
    · have hf := k_ifF h hf
      refine lv_iload_n hx hb dX12_kind_17 rfl (lv_at hl 2 rfl) ?_
      refine lv_bipush (v := (9 : Int32)) hx hb dX12_kind_18 (by decide) ?_
      refine lv_icmp_le (tgt := 25) hx hb dX12_kind_20 (by decide) (fun h => ?_) (fun h => ?_)
      · have hf := k_ifT h hf
        refine lv_aload_n hx hb dX12_kind_25 rfl (lv_at hl 0 rfl) ?_
        obtain ⟨σ4, hq, hf⟩ := k_bvE hf
        refine k_callVv C hw (c_X12_keepNow l G Y w ad LM σ2 σ4 hq) (cwV 0 hts gX12_kind_X12_keepNow rfl rfl rfl (by decide +kernel) ⟨Nat.le_of_ble_eq_true rfl, Nat.le_of_ble_eq_true rfl⟩) (k_recv C hw (LM_0 LM) rfl) rfl hl.1 rfl (Nat.le_of_ble_eq_true rfl) dX12_kind_26 (fun H locs hw => ?_)
        refine lv_aload_n hx hb dX12_kind_29 rfl (lv_at hl 0 rfl) ?_
        refine lv_iconst (v := (0 : Int32)) hx hb dX12_kind_30 (by decide) ?_
        refine lv_iload_n hx hb dX12_kind_31 rfl (lv_at hl 1 rfl) ?_
        refine lv_iload_n hx hb dX12_kind_32 rfl (lv_at hl 2 rfl) ?_
        obtain ⟨σ5, hq, hf⟩ := k_bvE hf
        refine k_callVv C hw (c_X12_remembers l G Y w ad LM (0 : Int32) p1 p2 σ4 σ5 hq) (cwV 3 hts gX12_kind_X12_remembers rfl rfl rfl (by decide +kernel) ⟨Nat.le_of_ble_eq_true rfl, Nat.le_of_ble_eq_true rfl⟩) (k_recv C hw (LM_0 LM) rfl) rfl hl.1 rfl (Nat.le_of_ble_eq_true rfl) dX12_kind_33 (fun H locs hw => ?_)
        refine lv_aload_n hx hb dX12_kind_36 rfl (lv_at hl 0 rfl) ?_
        refine k_get C hw (LM_0 LM) (ci := 12) rfl k_in12 41 (by decide) lk12_90 (v := .ref (ad 26)) rfl dX12_kind_37 ?_
        refine lv_iload_n hx hb dX12_kind_40 rfl (lv_at hl 1 rfl) ?_
        obtain ⟨hi, hf⟩ := k_ckE hf
        refine k_iald C hw (LM_26 LM) hi dX12_kind_41 ?_
        exact k_iret C hw hf dX12_kind_42
      · have hf := k_ifF h hf
        exact b23 σ2 _ _ _ (lv_sub hl [] rfl) hw hf
def f_X12_copy_b44  (y1 : Int32) (y2 : Int32) (σ : MSt) : Option (Int32 × MSt) :=
  k_ck (k_inb y1 24) <|
  k_nm (mI σ 21 (y1).toNatClampNeg y2) fun σ1 =>
  some ((1 : Int32), σ1)
def f_X12_copy_b20  (x1 : Int32) (y0 : Int32) (σ : MSt) : Option (Int32 × MSt) :=
  if y0 = x1 then
  (some ((0 : Int32), σ))
  else
  (k_bv (f_X12_keepNow σ) fun σ1 =>
  if x1 = 0 then
  (f_X12_copy_b44 (0 : Int32) (0 : Int32) σ1)
  else
  (f_X12_copy_b44 (0 : Int32) (1 : Int32) σ1))
def f_X12_copy  (p1 : Int32) (σ : MSt) : Option (Int32 × MSt) :=
  k_nm (mI σ 0 0 (0 : Int32)) fun σ2 =>
  k_ck (k_inb (0 : Int32) 24) <|
  if (σ2.1 21 ((0 : Int32)).toNatClampNeg) = (1 : Int32) then
  (f_X12_copy_b20 p1 (1 : Int32) σ2)
  else
  (f_X12_copy_b20 p1 (0 : Int32) σ2)
def rmX12_copy : Room := { frames := 2, cells := 0, slots := 0, locals := 44 }
set_option maxHeartbeats 4000000 in
set_option maxRecDepth 100000 in
theorem c_X12_copy (l : Launch) (G : va_G) (Y : CY) (w : MSt → va_W) (ad : Nat → Nat)  (LM : LayM ad w Y) (p1 : Int32) (σ : MSt) (r : Int32) (σ' : MSt) (hf : f_X12_copy p1 σ = some (r, σ')) : k_Mi l yX12_copy wsX12_copy rmX12_copy G Y w [.ref (ad 0), .int p1] σ r σ' := by
  refine k_ofi (own := RX12) (cc := cX12_copy) (maxL := 2) (some .boolean) (by decide) rfl rfl (Nat.le_of_ble_eq_true rfl) ?_
  intro p e s m below meth c A C ls hl hw
  have hx := C.1
  have hb := C.2.1
  have hown := C.2.2.2.2.1
  have hts := C.2.2.2.2.2.1
  have hks := C.2.2.2.2.2.2.1
  have hl : lv_has ls 2 [(0, .ref (ad 0)), (1, .int p1)] := hl
  have b44 : ∀ (y1 : Int32) (y2 : Int32) (σ : MSt) (H : Heap) (locs : List Loc) (ls : Array Slot), lv_has ls 2 [] → k_W G w A s.heap σ H locs → f_X12_copy_b44 y1 y2 σ = some (r, σ') → W p l e rmX12_copy s m [.ref (ad 0), .int p1].toArray below meth c H locs 0 0 (MQ below (k_Qi G w A r σ') [.ref (ad 0), .int p1].toArray s 0 0 A) (F0 m 44 ls [.int y2, .int y1, .ref (ad 21)]) := by
    intro y1 y2 σ H locs ls hl hw hf
    unfold f_X12_copy_b44 at hf
    obtain ⟨hi, hf⟩ := k_ckE hf
    refine k_iast C hw (LM_21 LM) hi dX12_copy_44 (fun σ1 eq H locs hw => ?_)
    have hf := k_nmE eq hf
    refine lv_iconst (v := (1 : Int32)) hx hb dX12_copy_45 (by decide) ?_
    exact k_zret C hw rfl hf dX12_copy_46
  have b20 : ∀ (x1 : Int32) (y0 : Int32) (σ : MSt) (H : Heap) (locs : List Loc) (ls : Array Slot), lv_has ls 2 [(0, .ref (ad 0)), (1, .int x1)] → k_W G w A s.heap σ H locs → f_X12_copy_b20 x1 y0 σ = some (r, σ') → W p l e rmX12_copy s m [.ref (ad 0), .int p1].toArray below meth c H locs 0 0 (MQ below (k_Qi G w A r σ') [.ref (ad 0), .int p1].toArray s 0 0 A) (F0 m 20 ls [.int y0]) := by
    intro x1 y0 σ H locs ls hl hw hf
    unfold f_X12_copy_b20 at hf
    refine lv_iload_n hx hb dX12_copy_20 rfl (lv_at hl 1 rfl) ?_
    refine lv_icmp_ne (tgt := 26) hx hb dX12_copy_21 (by decide) (fun h => ?_) (fun h => ?_)
    · have hf := k_ifF h hf
      refine lv_aload_n hx hb dX12_copy_26 rfl (lv_at hl 0 rfl) ?_
      obtain ⟨σ1, hq, hf⟩ := k_bvE hf
      refine k_callVv C hw (c_X12_keepNow l G Y w ad LM σ σ1 hq) (cwV 0 hts gX12_copy_X12_keepNow rfl rfl rfl (by decide +kernel) ⟨Nat.le_of_ble_eq_true rfl, Nat.le_of_ble_eq_true rfl⟩) (k_recv C hw (LM_0 LM) rfl) rfl hl.1 rfl (Nat.le_of_ble_eq_true rfl) dX12_copy_27 (fun H locs hw => ?_)
      refine lv_aload_n hx hb dX12_copy_30 rfl (lv_at hl 0 rfl) ?_
      refine k_get C hw (LM_0 LM) (ci := 12) rfl k_in12 36 (by decide) lk12_75 (v := .ref (ad 21)) rfl dX12_copy_31 ?_
      refine lv_iconst (v := (0 : Int32)) hx hb dX12_copy_34 (by decide) ?_
      refine lv_iload_n hx hb dX12_copy_35 rfl (lv_at hl 1 rfl) ?_
      refine lv_if_eq (tgt := 43) hx hb dX12_copy_36 (by decide) (fun h => ?_) (fun h => ?_)
      · have hf := k_ifT h hf
        refine lv_iconst (v := (0 : Int32)) hx hb dX12_copy_43 (by decide) ?_
        exact b44 (0 : Int32) (0 : Int32) σ1 _ _ _ (lv_sub hl [] rfl) hw hf
      · have hf := k_ifF h hf
        refine lv_iconst (v := (1 : Int32)) hx hb dX12_copy_39 (by decide) ?_
        refine lv_goto (tgt := 44) hx hb dX12_copy_40 (by decide) ?_
        exact b44 (0 : Int32) (1 : Int32) σ1 _ _ _ (lv_sub hl [] rfl) hw hf
    · have hf := k_ifT h hf
      refine lv_iconst (v := (0 : Int32)) hx hb dX12_copy_24 (by decide) ?_
      exact k_zret C hw rfl hf dX12_copy_25
  unfold f_X12_copy at hf
  refine lv_aload_n hx hb dX12_copy_0 rfl (lv_at hl 0 rfl) ?_
  refine lv_iconst (v := (0 : Int32)) hx hb dX12_copy_1 (by decide) ?_
  refine k_put C hw (LM_0 LM) (ci := 12) rfl k_in12 tyX12 tyX12_ok nmX12 0 (by decide) lk12_145 rfl ⟨rfl, rfl⟩ rfl dX12_copy_2 (fun σ2 eq H locs hw => ?_)
  have hf := k_nmE eq hf
  refine lv_aload_n hx hb dX12_copy_5 rfl (lv_at hl 0 rfl) ?_
  refine k_get C hw (LM_0 LM) (ci := 12) rfl k_in12 36 (by decide) lk12_75 (v := .ref (ad 21)) rfl dX12_copy_6 ?_
  refine lv_iconst (v := (0 : Int32)) hx hb dX12_copy_9 (by decide) ?_
  obtain ⟨hi, hf⟩ := k_ckE hf
  refine k_iald C hw (LM_21 LM) hi dX12_copy_10 ?_
  refine lv_iconst (v := (1 : Int32)) hx hb dX12_copy_11 (by decide) ?_
  refine lv_icmp_ne (tgt := 19) hx hb dX12_copy_12 (by decide) (fun h => ?_) (fun h => ?_)
  · have hf := k_ifF h hf
    refine lv_iconst (v := (0 : Int32)) hx hb dX12_copy_19 (by decide) ?_
    exact b20 p1 (0 : Int32) σ2 _ _ _ (lv_sub hl [0, 1] rfl) hw hf
  · have hf := k_ifT h hf
    refine lv_iconst (v := (1 : Int32)) hx hb dX12_copy_15 (by decide) ?_
    refine lv_goto (tgt := 20) hx hb dX12_copy_16 (by decide) ?_
    exact b20 p1 (1 : Int32) σ2 _ _ _ (lv_sub hl [0, 1] rfl) hw hf
def f_X12_go_b42_s  (r42 : Int32 → Int32 → MSt → Option (Int32 × MSt)) (x1 : Int32) (x2 : Int32) (σ : MSt) : Option (Int32 × MSt) :=
  if x1 ≤ x2 then
  (k_ck (k_inb (0 : Int32) 24) <|
  some ((σ.1 17 ((0 : Int32)).toNatClampNeg), σ))
  else
  (k_bv (f_X12_passes (0 : Int32) (1 : Int32) σ) fun σ1 =>
  k_nm (x2 + (1 : Int32)) fun u2 =>
  r42 x1 u2 σ1)
def f_X12_go_b42  : Nat → Int32 → Int32 → MSt → Option (Int32 × MSt)
  | 0 => fun _ _ _ => none
  | n + 1 => f_X12_go_b42_s (f_X12_go_b42 n)
def f_X12_go_b40  (x1 : Int32) (σ : MSt) : Option (Int32 × MSt) :=
  f_X12_go_b42 FU x1 (0 : Int32) σ
def f_X12_go_b29   (σ : MSt) : Option (Int32 × MSt) :=
  some ((-1 : Int32), σ)
def f_X12_go  (p1 : Int32) (σ : MSt) : Option (Int32 × MSt) :=
  k_nm (mI σ 0 0 (0 : Int32)) fun σ1 =>
  if p1 < 0 then
  (f_X12_go_b29 σ1)
  else
  (if (99 : Int32) < p1 then
  (f_X12_go_b29 σ1)
  else
  (k_ck (k_inb (0 : Int32) 24) <|
  if ((σ1.1 17 ((0 : Int32)).toNatClampNeg) + p1) ≤ (9900 : Int32) then
  (if p1 ≤ 0 then
  (f_X12_go_b40 p1 σ1)
  else
  (k_nm (mI σ1 0 45 (0 : Int32)) fun σ2 =>
  f_X12_go_b40 p1 σ2))
  else
  (f_X12_go_b29 σ1)))
def rmX12_go : Room := { frames := 7, cells := 0, slots := 0, locals := 172 }
set_option maxHeartbeats 4000000 in
set_option maxRecDepth 100000 in
theorem c_X12_go (l : Launch) (G : va_G) (Y : CY) (w : MSt → va_W) (ad : Nat → Nat)  (LM : LayM ad w Y) (p1 : Int32) (σ : MSt) (r : Int32) (σ' : MSt) (hf : f_X12_go p1 σ = some (r, σ')) : k_Mi l yX12_go wsX12_go rmX12_go G Y w [.ref (ad 0), .int p1] σ r σ' := by
  refine k_ofi (own := RX12) (cc := cX12_go) (maxL := 3) (some .int) (by decide) rfl rfl (Nat.le_of_ble_eq_true rfl) ?_
  intro p e s m below meth c A C ls hl hw
  have hx := C.1
  have hb := C.2.1
  have hown := C.2.2.2.2.1
  have hts := C.2.2.2.2.2.1
  have hks := C.2.2.2.2.2.2.1
  have hl : lv_has ls 3 [(0, .ref (ad 0)), (1, .int p1)] := hl
  have b42 : ∀ (n42 : Nat) (x1 : Int32) (x2 : Int32) (σ : MSt) (H : Heap) (locs : List Loc) (ls : Array Slot), lv_has ls 3 [(0, .ref (ad 0)), (1, .int x1), (2, .int x2)] → k_W G w A s.heap σ H locs → f_X12_go_b42 n42 x1 x2 σ = some (r, σ') → W p l e rmX12_go s m [.ref (ad 0), .int p1].toArray below meth c H locs 0 0 (MQ below (k_Qi G w A r σ') [.ref (ad 0), .int p1].toArray s 0 0 A) (F0 m 42 ls []) := by
    intro n42
    induction n42 with
    | zero =>
      intro x1 x2 σ H locs ls hl hw hf
      have hf : (none : Option (Int32 × MSt)) = some (r, σ') := hf
      cases hf
    | succ n42 ih42 =>
      intro x1 x2 σ H locs ls hl hw hf
      have hf : f_X12_go_b42_s (f_X12_go_b42 n42) x1 x2 σ = some (r, σ') := hf
      unfold f_X12_go_b42_s at hf
      refine lv_iload_n hx hb dX12_go_42 rfl (lv_at hl 2 rfl) ?_
      refine lv_iload_n hx hb dX12_go_43 rfl (lv_at hl 1 rfl) ?_
      refine lv_icmp_ge (tgt := 59) hx hb dX12_go_44 (by decide) (fun h => ?_) (fun h => ?_)
      · have hf := k_ifT h hf
        refine lv_aload_n hx hb dX12_go_59 rfl (lv_at hl 0 rfl) ?_
        refine k_get C hw (LM_0 LM) (ci := 12) rfl k_in12 32 (by decide) lk12_63 (v := .ref (ad 17)) rfl dX12_go_60 ?_
        refine lv_iconst (v := (0 : Int32)) hx hb dX12_go_63 (by decide) ?_
        obtain ⟨hi, hf⟩ := k_ckE hf
        refine k_iald C hw (LM_17 LM) hi dX12_go_64 ?_
        exact k_iret C hw hf dX12_go_65
      · have hf := k_ifF h hf
        refine lv_aload_n hx hb dX12_go_47 rfl (lv_at hl 0 rfl) ?_
        refine lv_iconst (v := (0 : Int32)) hx hb dX12_go_48 (by decide) ?_
        refine lv_iconst (v := (1 : Int32)) hx hb dX12_go_49 (by decide) ?_
        obtain ⟨σ1, hq, hf⟩ := k_bvE hf
        refine k_callVv C hw (c_X12_passes l G Y w ad LM (0 : Int32) (1 : Int32) σ σ1 hq) (cwV 2 hts gX12_go_X12_passes rfl rfl rfl (by decide +kernel) ⟨Nat.le_of_ble_eq_true rfl, Nat.le_of_ble_eq_true rfl⟩) (k_recv C hw (LM_0 LM) rfl) rfl hl.1 rfl (Nat.le_of_ble_eq_true rfl) dX12_go_50 (fun H locs hw => ?_)
        obtain ⟨u2, ex⟩ : ∃ y : Int32, y = (x2 + (1 : Int32)) := ⟨_, rfl⟩
        have hf := k_nmE ex hf
        refine lv_iinc (v := u2) (lv' := [(2, .int u2), (0, .ref (ad 0)), (1, .int x1)]) hx hb dX12_go_53 hl (k := 2) rfl (by rw [ex]; rfl) (by decide) rfl (fun ls hl => ?_)
        refine lv_goto (tgt := 42) hx hb dX12_go_56 (by decide) ?_
        exact ih42 x1 u2 σ1 _ _ _ (lv_sub hl [1, 2, 0] rfl) hw hf
  have b40 : ∀ (x1 : Int32) (σ : MSt) (H : Heap) (locs : List Loc) (ls : Array Slot), lv_has ls 3 [(0, .ref (ad 0)), (1, .int x1)] → k_W G w A s.heap σ H locs → f_X12_go_b40 x1 σ = some (r, σ') → W p l e rmX12_go s m [.ref (ad 0), .int p1].toArray below meth c H locs 0 0 (MQ below (k_Qi G w A r σ') [.ref (ad 0), .int p1].toArray s 0 0 A) (F0 m 40 ls []) := by
    intro x1 σ H locs ls hl hw hf
    unfold f_X12_go_b40 at hf
    refine lv_iconst (v := (0 : Int32)) hx hb dX12_go_40 (by decide) ?_
    refine lv_istore_n (lv' := [(2, .int (0 : Int32)), (0, .ref (ad 0)), (1, .int x1)]) hx hb dX12_go_41 rfl hl (by decide) rfl (fun ls hl => ?_)
    exact b42 FU x1 (0 : Int32) σ _ _ _ (lv_sub hl [1, 2, 0] rfl) hw hf
  have b29 : ∀ (σ : MSt) (H : Heap) (locs : List Loc) (ls : Array Slot), lv_has ls 3 [] → k_W G w A s.heap σ H locs → f_X12_go_b29 σ = some (r, σ') → W p l e rmX12_go s m [.ref (ad 0), .int p1].toArray below meth c H locs 0 0 (MQ below (k_Qi G w A r σ') [.ref (ad 0), .int p1].toArray s 0 0 A) (F0 m 29 ls []) := by
    intro σ H locs ls hl hw hf
    unfold f_X12_go_b29 at hf
    refine lv_iconst (v := (-1 : Int32)) hx hb dX12_go_29 (by decide) ?_
    exact k_iret C hw hf dX12_go_30
  unfold f_X12_go at hf
  refine lv_aload_n hx hb dX12_go_0 rfl (lv_at hl 0 rfl) ?_
  refine lv_iconst (v := (0 : Int32)) hx hb dX12_go_1 (by decide) ?_
  refine k_put C hw (LM_0 LM) (ci := 12) rfl k_in12 tyX12 tyX12_ok nmX12 0 (by decide) lk12_145 rfl ⟨rfl, rfl⟩ rfl dX12_go_2 (fun σ1 eq H locs hw => ?_)
  have hf := k_nmE eq hf
  refine lv_iload_n hx hb dX12_go_5 rfl (lv_at hl 1 rfl) ?_
  refine lv_if_lt (tgt := 29) hx hb dX12_go_6 (by decide) (fun h => ?_) (fun h => ?_)
  · have hf := k_ifT h hf
    exact b29 σ1 _ _ _ (lv_sub hl [] rfl) hw hf
  · have hf := k_ifF h hf
    refine lv_iload_n hx hb dX12_go_9 rfl (lv_at hl 1 rfl) ?_
    refine lv_bipush (v := (99 : Int32)) hx hb dX12_go_10 (by decide) ?_
    refine lv_icmp_gt (tgt := 29) hx hb dX12_go_12 (by decide) (fun h => ?_) (fun h => ?_)
    · have hf := k_ifT h hf
      exact b29 σ1 _ _ _ (lv_sub hl [] rfl) hw hf
    · have hf := k_ifF h hf
      refine lv_aload_n hx hb dX12_go_15 rfl (lv_at hl 0 rfl) ?_
      refine k_get C hw (LM_0 LM) (ci := 12) rfl k_in12 32 (by decide) lk12_63 (v := .ref (ad 17)) rfl dX12_go_16 ?_
      refine lv_iconst (v := (0 : Int32)) hx hb dX12_go_19 (by decide) ?_
      obtain ⟨hi, hf⟩ := k_ckE hf
      refine k_iald C hw (LM_17 LM) hi dX12_go_20 ?_
      refine lv_iload_n hx hb dX12_go_21 rfl (lv_at hl 1 rfl) ?_
      refine lv_iadd hx hb dX12_go_22 ?_
      refine lv_sipush (v := (9900 : Int32)) hx hb dX12_go_23 (by decide) ?_
      refine lv_icmp_le (tgt := 31) hx hb dX12_go_26 (by decide) (fun h => ?_) (fun h => ?_)
      · have hf := k_ifT h hf
        refine lv_iload_n hx hb dX12_go_31 rfl (lv_at hl 1 rfl) ?_
        refine lv_if_le (tgt := 40) hx hb dX12_go_32 (by decide) (fun h => ?_) (fun h => ?_)
        · have hf := k_ifT h hf
          exact b40 p1 σ1 _ _ _ (lv_sub hl [0, 1] rfl) hw hf
        · have hf := k_ifF h hf
          refine lv_aload_n hx hb dX12_go_35 rfl (lv_at hl 0 rfl) ?_
          refine lv_iconst (v := (0 : Int32)) hx hb dX12_go_36 (by decide) ?_
          refine k_put C hw (LM_0 LM) (ci := 12) rfl k_in12 tyX12 tyX12_ok nmX12 45 (by decide) lk12_308 rfl ⟨rfl, rfl⟩ rfl dX12_go_37 (fun σ2 eq H locs hw => ?_)
          have hf := k_nmE eq hf
          exact b40 p1 σ2 _ _ _ (lv_sub hl [0, 1] rfl) hw hf
      · have hf := k_ifF h hf
        exact b29 σ1 _ _ _ (lv_sub hl [] rfl) hw hf
def f_X12_firstAdrift_b26_s  (r26 : Int32 → Int32 → MSt → Option (Int32 × MSt)) (x1 : Int32) (x2 : Int32) (σ : MSt) : Option (Int32 × MSt) :=
  if x1 < x2 then
  (some ((-2 : Int32), σ))
  else
  (k_bv (f_X12_passes (1 : Int32) (0 : Int32) σ) fun σ1 =>
  k_ck (k_inb (1 : Int32) 24) <|
  k_ck (k_inb (0 : Int32) 24) <|
  if (σ1.1 23 ((1 : Int32)).toNatClampNeg) ≤ (σ1.1 23 ((0 : Int32)).toNatClampNeg) then
  (k_nm (x2 + (1 : Int32)) fun u2 =>
  r26 x1 u2 σ1)
  else
  (some (x2, σ1)))
def f_X12_firstAdrift_b26  : Nat → Int32 → Int32 → MSt → Option (Int32 × MSt)
  | 0 => fun _ _ _ => none
  | n + 1 => f_X12_firstAdrift_b26_s (f_X12_firstAdrift_b26 n)
def f_X12_firstAdrift_b16   (σ : MSt) : Option (Int32 × MSt) :=
  some ((-1 : Int32), σ)
def f_X12_firstAdrift  (p1 : Int32) (σ : MSt) : Option (Int32 × MSt) :=
  k_nm (mI σ 0 0 (0 : Int32)) fun σ1 =>
  if p1 < (1 : Int32) then
  (f_X12_firstAdrift_b16 σ1)
  else
  (if p1 ≤ (99 : Int32) then
  (k_bv (f_X12_takes (1 : Int32) (0 : Int32) σ1) fun σ2 =>
  f_X12_firstAdrift_b26 FU p1 (1 : Int32) σ2)
  else
  (f_X12_firstAdrift_b16 σ1))
def rmX12_firstAdrift : Room := { frames := 7, cells := 0, slots := 0, locals := 172 }
set_option maxHeartbeats 4000000 in
set_option maxRecDepth 100000 in
theorem c_X12_firstAdrift (l : Launch) (G : va_G) (Y : CY) (w : MSt → va_W) (ad : Nat → Nat)  (LM : LayM ad w Y) (p1 : Int32) (σ : MSt) (r : Int32) (σ' : MSt) (hf : f_X12_firstAdrift p1 σ = some (r, σ')) : k_Mi l yX12_firstAdrift wsX12_firstAdrift rmX12_firstAdrift G Y w [.ref (ad 0), .int p1] σ r σ' := by
  refine k_ofi (own := RX12) (cc := cX12_firstAdrift) (maxL := 3) (some .int) (by decide) rfl rfl (Nat.le_of_ble_eq_true rfl) ?_
  intro p e s m below meth c A C ls hl hw
  have hx := C.1
  have hb := C.2.1
  have hown := C.2.2.2.2.1
  have hts := C.2.2.2.2.2.1
  have hks := C.2.2.2.2.2.2.1
  have hl : lv_has ls 3 [(0, .ref (ad 0)), (1, .int p1)] := hl
  have b26 : ∀ (n26 : Nat) (x1 : Int32) (x2 : Int32) (σ : MSt) (H : Heap) (locs : List Loc) (ls : Array Slot), lv_has ls 3 [(0, .ref (ad 0)), (1, .int x1), (2, .int x2)] → k_W G w A s.heap σ H locs → f_X12_firstAdrift_b26 n26 x1 x2 σ = some (r, σ') → W p l e rmX12_firstAdrift s m [.ref (ad 0), .int p1].toArray below meth c H locs 0 0 (MQ below (k_Qi G w A r σ') [.ref (ad 0), .int p1].toArray s 0 0 A) (F0 m 26 ls []) := by
    intro n26
    induction n26 with
    | zero =>
      intro x1 x2 σ H locs ls hl hw hf
      have hf : (none : Option (Int32 × MSt)) = some (r, σ') := hf
      cases hf
    | succ n26 ih26 =>
      intro x1 x2 σ H locs ls hl hw hf
      have hf : f_X12_firstAdrift_b26_s (f_X12_firstAdrift_b26 n26) x1 x2 σ = some (r, σ') := hf
      unfold f_X12_firstAdrift_b26_s at hf
      refine lv_iload_n hx hb dX12_firstAdrift_26 rfl (lv_at hl 2 rfl) ?_
      refine lv_iload_n hx hb dX12_firstAdrift_27 rfl (lv_at hl 1 rfl) ?_
      refine lv_icmp_gt (tgt := 60) hx hb dX12_firstAdrift_28 (by decide) (fun h => ?_) (fun h => ?_)
      · have hf := k_ifT h hf
        refine lv_bipush (v := (-2 : Int32)) hx hb dX12_firstAdrift_60 (by decide) ?_
        exact k_iret C hw hf dX12_firstAdrift_62
      · have hf := k_ifF h hf
        refine lv_aload_n hx hb dX12_firstAdrift_31 rfl (lv_at hl 0 rfl) ?_
        refine lv_iconst (v := (1 : Int32)) hx hb dX12_firstAdrift_32 (by decide) ?_
        refine lv_iconst (v := (0 : Int32)) hx hb dX12_firstAdrift_33 (by decide) ?_
        obtain ⟨σ1, hq, hf⟩ := k_bvE hf
        refine k_callVv C hw (c_X12_passes l G Y w ad LM (1 : Int32) (0 : Int32) σ σ1 hq) (cwV 2 hts gX12_firstAdrift_X12_passes rfl rfl rfl (by decide +kernel) ⟨Nat.le_of_ble_eq_true rfl, Nat.le_of_ble_eq_true rfl⟩) (k_recv C hw (LM_0 LM) rfl) rfl hl.1 rfl (Nat.le_of_ble_eq_true rfl) dX12_firstAdrift_34 (fun H locs hw => ?_)
        refine lv_aload_n hx hb dX12_firstAdrift_37 rfl (lv_at hl 0 rfl) ?_
        refine k_get C hw (LM_0 LM) (ci := 12) rfl k_in12 38 (by decide) lk12_81 (v := .ref (ad 23)) rfl dX12_firstAdrift_38 ?_
        refine lv_iconst (v := (1 : Int32)) hx hb dX12_firstAdrift_41 (by decide) ?_
        obtain ⟨hi, hf⟩ := k_ckE hf
        refine k_iald C hw (LM_23 LM) hi dX12_firstAdrift_42 ?_
        refine lv_aload_n hx hb dX12_firstAdrift_43 rfl (lv_at hl 0 rfl) ?_
        refine k_get C hw (LM_0 LM) (ci := 12) rfl k_in12 38 (by decide) lk12_81 (v := .ref (ad 23)) rfl dX12_firstAdrift_44 ?_
        refine lv_iconst (v := (0 : Int32)) hx hb dX12_firstAdrift_47 (by decide) ?_
        obtain ⟨hi, hf⟩ := k_ckE hf
        refine k_iald C hw (LM_23 LM) hi dX12_firstAdrift_48 ?_
        refine lv_icmp_le (tgt := 54) hx hb dX12_firstAdrift_49 (by decide) (fun h => ?_) (fun h => ?_)
        · have hf := k_ifT h hf
          obtain ⟨u2, ex⟩ : ∃ y : Int32, y = (x2 + (1 : Int32)) := ⟨_, rfl⟩
          have hf := k_nmE ex hf
          refine lv_iinc (v := u2) (lv' := [(2, .int u2), (0, .ref (ad 0)), (1, .int x1)]) hx hb dX12_firstAdrift_54 hl (k := 2) rfl (by rw [ex]; rfl) (by decide) rfl (fun ls hl => ?_)
          refine lv_goto (tgt := 26) hx hb dX12_firstAdrift_57 (by decide) ?_
          exact ih26 x1 u2 σ1 _ _ _ (lv_sub hl [1, 2, 0] rfl) hw hf
        · have hf := k_ifF h hf
          refine lv_iload_n hx hb dX12_firstAdrift_52 rfl (lv_at hl 2 rfl) ?_
          exact k_iret C hw hf dX12_firstAdrift_53
  have b16 : ∀ (σ : MSt) (H : Heap) (locs : List Loc) (ls : Array Slot), lv_has ls 3 [] → k_W G w A s.heap σ H locs → f_X12_firstAdrift_b16 σ = some (r, σ') → W p l e rmX12_firstAdrift s m [.ref (ad 0), .int p1].toArray below meth c H locs 0 0 (MQ below (k_Qi G w A r σ') [.ref (ad 0), .int p1].toArray s 0 0 A) (F0 m 16 ls []) := by
    intro σ H locs ls hl hw hf
    unfold f_X12_firstAdrift_b16 at hf
    refine lv_iconst (v := (-1 : Int32)) hx hb dX12_firstAdrift_16 (by decide) ?_
    exact k_iret C hw hf dX12_firstAdrift_17
  unfold f_X12_firstAdrift at hf
  refine lv_aload_n hx hb dX12_firstAdrift_0 rfl (lv_at hl 0 rfl) ?_
  refine lv_iconst (v := (0 : Int32)) hx hb dX12_firstAdrift_1 (by decide) ?_
  refine k_put C hw (LM_0 LM) (ci := 12) rfl k_in12 tyX12 tyX12_ok nmX12 0 (by decide) lk12_145 rfl ⟨rfl, rfl⟩ rfl dX12_firstAdrift_2 (fun σ1 eq H locs hw => ?_)
  have hf := k_nmE eq hf
  refine lv_iload_n hx hb dX12_firstAdrift_5 rfl (lv_at hl 1 rfl) ?_
  refine lv_iconst (v := (1 : Int32)) hx hb dX12_firstAdrift_6 (by decide) ?_
  refine lv_icmp_lt (tgt := 16) hx hb dX12_firstAdrift_7 (by decide) (fun h => ?_) (fun h => ?_)
  · have hf := k_ifT h hf
    exact b16 σ1 _ _ _ (lv_sub hl [] rfl) hw hf
  · have hf := k_ifF h hf
    refine lv_iload_n hx hb dX12_firstAdrift_10 rfl (lv_at hl 1 rfl) ?_
    refine lv_bipush (v := (99 : Int32)) hx hb dX12_firstAdrift_11 (by decide) ?_
    refine lv_icmp_le (tgt := 18) hx hb dX12_firstAdrift_13 (by decide) (fun h => ?_) (fun h => ?_)
    · have hf := k_ifT h hf
      refine lv_aload_n hx hb dX12_firstAdrift_18 rfl (lv_at hl 0 rfl) ?_
      refine lv_iconst (v := (1 : Int32)) hx hb dX12_firstAdrift_19 (by decide) ?_
      refine lv_iconst (v := (0 : Int32)) hx hb dX12_firstAdrift_20 (by decide) ?_
      obtain ⟨σ2, hq, hf⟩ := k_bvE hf
      refine k_callVv C hw (c_X12_takes l G Y w ad LM (1 : Int32) (0 : Int32) σ1 σ2 hq) (cwV 2 hts gX12_firstAdrift_X12_takes rfl rfl rfl (by decide +kernel) ⟨Nat.le_of_ble_eq_true rfl, Nat.le_of_ble_eq_true rfl⟩) (k_recv C hw (LM_0 LM) rfl) rfl hl.1 rfl (Nat.le_of_ble_eq_true rfl) dX12_firstAdrift_21 (fun H locs hw => ?_)
      refine lv_iconst (v := (1 : Int32)) hx hb dX12_firstAdrift_24 (by decide) ?_
      refine lv_istore_n (lv' := [(2, .int (1 : Int32)), (0, .ref (ad 0)), (1, .int p1)]) hx hb dX12_firstAdrift_25 rfl hl (by decide) rfl (fun ls hl => ?_)
      exact b26 FU p1 (1 : Int32) σ2 _ _ _ (lv_sub hl [1, 2, 0] rfl) hw hf
    · have hf := k_ifF h hf
      exact b16 σ1 _ _ _ (lv_sub hl [] rfl) hw hf
def f_X12_fewer_b23  (y0 : Int32) (σ : MSt) : Option (Int32 × MSt) :=
  some (y0, σ)
def f_X12_fewer  (p1 : Int32) (p2 : Int32) (σ : MSt) : Option (Int32 × MSt) :=
  if p1 = (-1 : Int32) then
  (f_X12_fewer_b23 p2 σ)
  else
  (if p2 = (-1 : Int32) then
  (f_X12_fewer_b23 p1 σ)
  else
  (f_X12_fewer_b23 (k_min p1 p2) σ))
def rmX12_fewer : Room := { frames := 1, cells := 0, slots := 0, locals := 23 }
set_option maxHeartbeats 4000000 in
set_option maxRecDepth 100000 in
theorem c_X12_fewer (l : Launch) (G : va_G) (Y : CY) (w : MSt → va_W) (ad : Nat → Nat)  (LM : LayM ad w Y) (p1 : Int32) (p2 : Int32) (σ : MSt) (r : Int32) (σ' : MSt) (hf : f_X12_fewer p1 p2 σ = some (r, σ')) : k_Mi l yX12_fewer wsX12_fewer rmX12_fewer G Y w [.int p1, .int p2] σ r σ' := by
  refine k_ofi (own := RX12) (cc := cX12_fewer) (maxL := 2) (some .int) (by decide) rfl rfl (Nat.le_of_ble_eq_true rfl) ?_
  intro p e s m below meth c A C ls hl hw
  have hx := C.1
  have hb := C.2.1
  have hown := C.2.2.2.2.1
  have hts := C.2.2.2.2.2.1
  have hks := C.2.2.2.2.2.2.1
  have hl : lv_has ls 2 [(0, .int p1), (1, .int p2)] := hl
  have b23 : ∀ (y0 : Int32) (σ : MSt) (H : Heap) (locs : List Loc) (ls : Array Slot), lv_has ls 2 [] → k_W G w A s.heap σ H locs → f_X12_fewer_b23 y0 σ = some (r, σ') → W p l e rmX12_fewer s m [.int p1, .int p2].toArray below meth c H locs 0 0 (MQ below (k_Qi G w A r σ') [.int p1, .int p2].toArray s 0 0 A) (F0 m 23 ls [.int y0]) := by
    intro y0 σ H locs ls hl hw hf
    unfold f_X12_fewer_b23 at hf
    exact k_iret C hw hf dX12_fewer_23
  unfold f_X12_fewer at hf
  refine lv_iload_n hx hb dX12_fewer_0 rfl (lv_at hl 0 rfl) ?_
  refine lv_iconst (v := (-1 : Int32)) hx hb dX12_fewer_1 (by decide) ?_
  refine lv_icmp_ne (tgt := 9) hx hb dX12_fewer_2 (by decide) (fun h => ?_) (fun h => ?_)
  · have hf := k_ifF h hf
    refine lv_iload_n hx hb dX12_fewer_9 rfl (lv_at hl 1 rfl) ?_
    refine lv_iconst (v := (-1 : Int32)) hx hb dX12_fewer_10 (by decide) ?_
    refine lv_icmp_ne (tgt := 18) hx hb dX12_fewer_11 (by decide) (fun h => ?_) (fun h => ?_)
    · have hf := k_ifF h hf
      refine lv_iload_n hx hb dX12_fewer_18 rfl (lv_at hl 0 rfl) ?_
      refine lv_iload_n hx hb dX12_fewer_19 rfl (lv_at hl 1 rfl) ?_
      refine k_mmin C hl.1 ml12_340 ms_Lib_Math_min_name mi_Math mc_Lib_Math_min_name (Nat.le_of_ble_eq_true rfl) (Nat.le_of_ble_eq_true rfl) dX12_fewer_20 ?_
      exact b23 (k_min p1 p2) σ _ _ _ (lv_sub hl [] rfl) hw hf
    · have hf := k_ifT h hf
      refine lv_iload_n hx hb dX12_fewer_14 rfl (lv_at hl 0 rfl) ?_
      refine lv_goto (tgt := 23) hx hb dX12_fewer_15 (by decide) ?_
      exact b23 p1 σ _ _ _ (lv_sub hl [] rfl) hw hf
  · have hf := k_ifT h hf
    refine lv_iload_n hx hb dX12_fewer_5 rfl (lv_at hl 1 rfl) ?_
    refine lv_goto (tgt := 23) hx hb dX12_fewer_6 (by decide) ?_
    exact b23 p2 σ _ _ _ (lv_sub hl [] rfl) hw hf
def f_X12_comesIn  (p1 : Int32) (p2 : Int32) (p3 : Int32) (σ : MSt) : Option MSt :=
  k_ck (k_inb (0 : Int32) 24) <|
  k_bd (f_X12_willHold (0 : Int32) p2 ((σ.1 17 ((0 : Int32)).toNatClampNeg) + p1) (-1 : Int32) σ) fun q2 σ1 =>
  if q2 = 0 then
  (some σ1)
  else
  (k_ck (k_inb (((8 : Int32) * p1) + p2) 504) <|
  k_bd (f_X12_fewer (σ1.1 30 ((((8 : Int32) * p1) + p2)).toNatClampNeg) p3 σ1) fun q4 σ3 =>
  k_ck (k_inb (((8 : Int32) * p1) + p2) 504) <|
  k_nm (mI σ3 30 ((((8 : Int32) * p1) + p2)).toNatClampNeg q4) fun σ5 =>
  k_ck (k_inb (((8 : Int32) * (p1 + (1 : Int32))) + p2) 504) <|
  k_bd (f_X12_fewer (σ5.1 29 ((((8 : Int32) * (p1 + (1 : Int32))) + p2)).toNatClampNeg) p3 σ5) fun q7 σ6 =>
  k_ck (k_inb (((8 : Int32) * (p1 + (1 : Int32))) + p2) 504) <|
  k_nm (mI σ6 29 ((((8 : Int32) * (p1 + (1 : Int32))) + p2)).toNatClampNeg q7) fun σ8 =>
  some σ8)
def rmX12_comesIn : Room := { frames := 6, cells := 0, slots := 0, locals := 148 }
set_option maxHeartbeats 4000000 in
set_option maxRecDepth 100000 in
theorem c_X12_comesIn (l : Launch) (G : va_G) (Y : CY) (w : MSt → va_W) (ad : Nat → Nat)  (LM : LayM ad w Y) (p1 : Int32) (p2 : Int32) (p3 : Int32) (σ : MSt) (σ' : MSt) (hf : f_X12_comesIn p1 p2 p3 σ = some σ') : k_Mv l yX12_comesIn wsX12_comesIn rmX12_comesIn G Y w [.ref (ad 0), .int p1, .int p2, .int p3] σ σ' := by
  refine k_ofv (own := RX12) (cc := cX12_comesIn) (maxL := 4) none (by decide) rfl rfl (Nat.le_of_ble_eq_true rfl) ?_
  intro p e s m below meth c A C ls hl hw
  have hx := C.1
  have hb := C.2.1
  have hown := C.2.2.2.2.1
  have hts := C.2.2.2.2.2.1
  have hks := C.2.2.2.2.2.2.1
  have hl : lv_has ls 4 [(0, .ref (ad 0)), (1, .int p1), (2, .int p2), (3, .int p3)] := hl
  unfold f_X12_comesIn at hf
  refine lv_aload_n hx hb dX12_comesIn_0 rfl (lv_at hl 0 rfl) ?_
  refine lv_iconst (v := (0 : Int32)) hx hb dX12_comesIn_1 (by decide) ?_
  refine lv_iload_n hx hb dX12_comesIn_2 rfl (lv_at hl 2 rfl) ?_
  refine lv_aload_n hx hb dX12_comesIn_3 rfl (lv_at hl 0 rfl) ?_
  refine k_get C hw (LM_0 LM) (ci := 12) rfl k_in12 32 (by decide) lk12_63 (v := .ref (ad 17)) rfl dX12_comesIn_4 ?_
  refine lv_iconst (v := (0 : Int32)) hx hb dX12_comesIn_7 (by decide) ?_
  obtain ⟨hi, hf⟩ := k_ckE hf
  refine k_iald C hw (LM_17 LM) hi dX12_comesIn_8 ?_
  refine lv_iload_n hx hb dX12_comesIn_9 rfl (lv_at hl 1 rfl) ?_
  refine lv_iadd hx hb dX12_comesIn_10 ?_
  refine lv_iconst (v := (-1 : Int32)) hx hb dX12_comesIn_11 (by decide) ?_
  obtain ⟨q2, σ1, hq, hf⟩ := k_bdE hf
  refine k_callVi C hw (c_X12_willHold l G Y w ad LM (0 : Int32) p2 ((σ.1 17 ((0 : Int32)).toNatClampNeg) + p1) (-1 : Int32) σ q2 σ1 hq) (cwV 4 hts gX12_comesIn_X12_willHold rfl rfl rfl (by decide +kernel) ⟨Nat.le_of_ble_eq_true rfl, Nat.le_of_ble_eq_true rfl⟩) (k_recv C hw (LM_0 LM) rfl) rfl hl.1 rfl (Nat.le_of_ble_eq_true rfl) dX12_comesIn_12 (fun H locs hw => ?_)
  refine lv_if_ne (tgt := 19) hx hb dX12_comesIn_15 (by decide) (fun h => ?_) (fun h => ?_)
  · have hf := k_ifF h hf
    refine lv_aload_n hx hb dX12_comesIn_19 rfl (lv_at hl 0 rfl) ?_
    refine k_get C hw (LM_0 LM) (ci := 12) rfl k_in12 55 (by decide) lk12_111 (v := .ref (ad 30)) rfl dX12_comesIn_20 ?_
    refine lv_bipush (v := (8 : Int32)) hx hb dX12_comesIn_23 (by decide) ?_
    refine lv_iload_n hx hb dX12_comesIn_25 rfl (lv_at hl 1 rfl) ?_
    refine lv_imul hx hb dX12_comesIn_26 ?_
    refine lv_iload_n hx hb dX12_comesIn_27 rfl (lv_at hl 2 rfl) ?_
    refine lv_iadd hx hb dX12_comesIn_28 ?_
    refine lv_aload_n hx hb dX12_comesIn_29 rfl (lv_at hl 0 rfl) ?_
    refine k_get C hw (LM_0 LM) (ci := 12) rfl k_in12 55 (by decide) lk12_111 (v := .ref (ad 30)) rfl dX12_comesIn_30 ?_
    refine lv_bipush (v := (8 : Int32)) hx hb dX12_comesIn_33 (by decide) ?_
    refine lv_iload_n hx hb dX12_comesIn_35 rfl (lv_at hl 1 rfl) ?_
    refine lv_imul hx hb dX12_comesIn_36 ?_
    refine lv_iload_n hx hb dX12_comesIn_37 rfl (lv_at hl 2 rfl) ?_
    refine lv_iadd hx hb dX12_comesIn_38 ?_
    obtain ⟨hi, hf⟩ := k_ckE hf
    refine k_iald C hw (LM_30 LM) hi dX12_comesIn_39 ?_
    refine lv_iload_n hx hb dX12_comesIn_40 rfl (lv_at hl 3 rfl) ?_
    obtain ⟨q4, σ3, hq, hf⟩ := k_bdE hf
    refine k_callSi C hw (c_X12_fewer l G Y w ad LM (σ1.1 30 ((((8 : Int32) * p1) + p2)).toNatClampNeg) p3 σ1 q4 σ3 hq) (va_cwS 2 hts gX12_comesIn_X12_fewer rfl rfl rfl (by decide +kernel) ⟨Nat.le_of_ble_eq_true rfl, Nat.le_of_ble_eq_true rfl⟩) rfl hl.1 rfl (Nat.le_of_ble_eq_true rfl) dX12_comesIn_41 (fun H locs hw => ?_)
    obtain ⟨hi, hf⟩ := k_ckE hf
    refine k_iast C hw (LM_30 LM) hi dX12_comesIn_44 (fun σ5 eq H locs hw => ?_)
    have hf := k_nmE eq hf
    refine lv_aload_n hx hb dX12_comesIn_45 rfl (lv_at hl 0 rfl) ?_
    refine k_get C hw (LM_0 LM) (ci := 12) rfl k_in12 54 (by decide) lk12_108 (v := .ref (ad 29)) rfl dX12_comesIn_46 ?_
    refine lv_bipush (v := (8 : Int32)) hx hb dX12_comesIn_49 (by decide) ?_
    refine lv_iload_n hx hb dX12_comesIn_51 rfl (lv_at hl 1 rfl) ?_
    refine lv_iconst (v := (1 : Int32)) hx hb dX12_comesIn_52 (by decide) ?_
    refine lv_iadd hx hb dX12_comesIn_53 ?_
    refine lv_imul hx hb dX12_comesIn_54 ?_
    refine lv_iload_n hx hb dX12_comesIn_55 rfl (lv_at hl 2 rfl) ?_
    refine lv_iadd hx hb dX12_comesIn_56 ?_
    refine lv_aload_n hx hb dX12_comesIn_57 rfl (lv_at hl 0 rfl) ?_
    refine k_get C hw (LM_0 LM) (ci := 12) rfl k_in12 54 (by decide) lk12_108 (v := .ref (ad 29)) rfl dX12_comesIn_58 ?_
    refine lv_bipush (v := (8 : Int32)) hx hb dX12_comesIn_61 (by decide) ?_
    refine lv_iload_n hx hb dX12_comesIn_63 rfl (lv_at hl 1 rfl) ?_
    refine lv_iconst (v := (1 : Int32)) hx hb dX12_comesIn_64 (by decide) ?_
    refine lv_iadd hx hb dX12_comesIn_65 ?_
    refine lv_imul hx hb dX12_comesIn_66 ?_
    refine lv_iload_n hx hb dX12_comesIn_67 rfl (lv_at hl 2 rfl) ?_
    refine lv_iadd hx hb dX12_comesIn_68 ?_
    obtain ⟨hi, hf⟩ := k_ckE hf
    refine k_iald C hw (LM_29 LM) hi dX12_comesIn_69 ?_
    refine lv_iload_n hx hb dX12_comesIn_70 rfl (lv_at hl 3 rfl) ?_
    obtain ⟨q7, σ6, hq, hf⟩ := k_bdE hf
    refine k_callSi C hw (c_X12_fewer l G Y w ad LM (σ5.1 29 ((((8 : Int32) * (p1 + (1 : Int32))) + p2)).toNatClampNeg) p3 σ5 q7 σ6 hq) (va_cwS 2 hts gX12_comesIn_X12_fewer rfl rfl rfl (by decide +kernel) ⟨Nat.le_of_ble_eq_true rfl, Nat.le_of_ble_eq_true rfl⟩) rfl hl.1 rfl (Nat.le_of_ble_eq_true rfl) dX12_comesIn_71 (fun H locs hw => ?_)
    obtain ⟨hi, hf⟩ := k_ckE hf
    refine k_iast C hw (LM_29 LM) hi dX12_comesIn_74 (fun σ8 eq H locs hw => ?_)
    have hf := k_nmE eq hf
    exact k_vret C hw hf dX12_comesIn_75
  · have hf := k_ifT h hf
    exact k_vret C hw hf dX12_comesIn_18
def f_X12_layWays_b289  (r136 : Int32 → MSt → Option MSt) (r144 : Int32 → Int32 → MSt → Option MSt) (x1 : Int32) (x2 : Int32) (σ : MSt) : Option MSt :=
  k_nm (x2 + (1 : Int32)) fun u1 =>
  r144 x1 u1 σ
def f_X12_layWays_b283  (r136 : Int32 → MSt → Option MSt) (r144 : Int32 → Int32 → MSt → Option MSt) (r225 : Int32 → Int32 → Int32 → Int32 → MSt → Option MSt) (x1 : Int32) (x2 : Int32) (x3 : Int32) (x4 : Int32) (σ : MSt) : Option MSt :=
  k_nm (x4 + (1 : Int32)) fun u1 =>
  r225 x1 x2 x3 u1 σ
def f_X12_layWays_b225_s  (r136 : Int32 → MSt → Option MSt) (r144 : Int32 → Int32 → MSt → Option MSt) (r225 : Int32 → Int32 → Int32 → Int32 → MSt → Option MSt) (x1 : Int32) (x2 : Int32) (x3 : Int32) (x4 : Int32) (σ : MSt) : Option MSt :=
  k_ck (k_inb (0 : Int32) 18) <|
  if (σ.1 2 ((0 : Int32)).toNatClampNeg) ≤ x4 then
  (f_X12_layWays_b289 r136 r144 x1 x2 σ)
  else
  (k_bd (f_X12_laneOf x2 x4 σ) fun q2 σ1 =>
  if q2 ≤ 0 then
  (f_X12_layWays_b283 r136 r144 r225 x1 x2 x3 x4 σ1)
  else
  (k_ck (k_inb (5 : Int32) 18) <|
  if (σ1.1 2 ((5 : Int32)).toNatClampNeg) < q2 then
  (f_X12_layWays_b283 r136 r144 r225 x1 x2 x3 x4 σ1)
  else
  (if (60 : Int32) < (x1 + q2) then
  (f_X12_layWays_b283 r136 r144 r225 x1 x2 x3 x4 σ1)
  else
  (k_bv (f_X12_comesIn (x1 + q2) x4 (x3 + (1 : Int32)) σ1) fun σ3 =>
  f_X12_layWays_b283 r136 r144 r225 x1 x2 x3 x4 σ3))))
def f_X12_layWays_b225  (r136 : Int32 → MSt → Option MSt) (r144 : Int32 → Int32 → MSt → Option MSt) : Nat → Int32 → Int32 → Int32 → Int32 → MSt → Option MSt
  | 0 => fun _ _ _ _ _ => none
  | n + 1 => f_X12_layWays_b225_s r136 r144 (f_X12_layWays_b225 r136 r144 n)
def f_X12_layWays_b222  (r136 : Int32 → MSt → Option MSt) (r144 : Int32 → Int32 → MSt → Option MSt) (x1 : Int32) (x2 : Int32) (x3 : Int32) (σ : MSt) : Option MSt :=
  f_X12_layWays_b225 r136 r144 FU x1 x2 x3 (0 : Int32) σ
def f_X12_layWays_b144_s  (r136 : Int32 → MSt → Option MSt) (r144 : Int32 → Int32 → MSt → Option MSt) (x1 : Int32) (x2 : Int32) (σ : MSt) : Option MSt :=
  k_ck (k_inb (0 : Int32) 18) <|
  if (σ.1 2 ((0 : Int32)).toNatClampNeg) ≤ x2 then
  (k_nm (x1 + (1 : Int32)) fun u1 =>
  r136 u1 σ)
  else
  (k_ck (k_inb (((8 : Int32) * x1) + x2) 504) <|
  k_nm (σ.1 29 ((((8 : Int32) * x1) + x2)).toNatClampNeg) fun u2 =>
  if u2 = (-1 : Int32) then
  (f_X12_layWays_b289 r136 r144 x1 x2 σ)
  else
  (k_ck (k_inb (0 : Int32) 24) <|
  k_bd (f_X12_willHold (0 : Int32) x2 ((σ.1 17 ((0 : Int32)).toNatClampNeg) + x1) (-1 : Int32) σ) fun q4 σ3 =>
  if q4 = 0 then
  (f_X12_layWays_b222 r136 r144 x1 x2 u2 σ3)
  else
  (k_ck (k_inb (((8 : Int32) * (x1 + (1 : Int32))) + x2) 504) <|
  k_bd (f_X12_fewer (σ3.1 29 ((((8 : Int32) * (x1 + (1 : Int32))) + x2)).toNatClampNeg) u2 σ3) fun q6 σ5 =>
  k_ck (k_inb (((8 : Int32) * (x1 + (1 : Int32))) + x2) 504) <|
  k_nm (mI σ5 29 ((((8 : Int32) * (x1 + (1 : Int32))) + x2)).toNatClampNeg q6) fun σ7 =>
  f_X12_layWays_b222 r136 r144 x1 x2 u2 σ7)))
def f_X12_layWays_b144  (r136 : Int32 → MSt → Option MSt) : Nat → Int32 → Int32 → MSt → Option MSt
  | 0 => fun _ _ _ => none
  | n + 1 => f_X12_layWays_b144_s r136 (f_X12_layWays_b144 r136 n)
def f_X12_layWays_b136_s  (r136 : Int32 → MSt → Option MSt) (x1 : Int32) (σ : MSt) : Option MSt :=
  if (60 : Int32) < x1 then
  (some σ)
  else
  (f_X12_layWays_b144 r136 FU x1 (0 : Int32) σ)
def f_X12_layWays_b136  : Nat → Int32 → MSt → Option MSt
  | 0 => fun _ _ => none
  | n + 1 => f_X12_layWays_b136_s (f_X12_layWays_b136 n)
def f_X12_layWays_b134   (σ : MSt) : Option MSt :=
  f_X12_layWays_b136 FU (0 : Int32) σ
def f_X12_layWays_b2_s  (r2 : Int32 → MSt → Option MSt) (x1 : Int32) (σ : MSt) : Option MSt :=
  if (504 : Int32) ≤ x1 then
  (k_ck (k_inb (0 : Int32) 18) <|
  if (σ.1 2 ((0 : Int32)).toNatClampNeg) = 0 then
  (some σ)
  else
  (k_ck (k_inb (0 : Int32) 24) <|
  if (σ.1 19 ((0 : Int32)).toNatClampNeg) = (-1 : Int32) then
  (k_ck (k_inb (0 : Int32) 24) <|
  k_ck (k_inb (σ.1 18 ((0 : Int32)).toNatClampNeg) 504) <|
  k_nm (mI σ 30 ((σ.1 18 ((0 : Int32)).toNatClampNeg)).toNatClampNeg (0 : Int32)) fun σ3 =>
  k_ck (k_inb (0 : Int32) 24) <|
  k_ck (k_inb (σ3.1 18 ((0 : Int32)).toNatClampNeg) 504) <|
  k_nm (mI σ3 29 ((σ3.1 18 ((0 : Int32)).toNatClampNeg)).toNatClampNeg (0 : Int32)) fun σ4 =>
  f_X12_layWays_b134 σ4)
  else
  (k_ck (k_inb (0 : Int32) 24) <|
  k_ck (k_inb (0 : Int32) 24) <|
  k_ck (k_inb (0 : Int32) 24) <|
  k_ck (k_inb (((8 : Int32) * ((σ.1 20 ((0 : Int32)).toNatClampNeg) - (σ.1 17 ((0 : Int32)).toNatClampNeg))) + (σ.1 19 ((0 : Int32)).toNatClampNeg)) 504) <|
  k_nm (mI σ 30 ((((8 : Int32) * ((σ.1 20 ((0 : Int32)).toNatClampNeg) - (σ.1 17 ((0 : Int32)).toNatClampNeg))) + (σ.1 19 ((0 : Int32)).toNatClampNeg))).toNatClampNeg (0 : Int32)) fun σ1 =>
  k_ck (k_inb (0 : Int32) 24) <|
  k_ck (k_inb (0 : Int32) 24) <|
  k_ck (k_inb (0 : Int32) 24) <|
  k_ck (k_inb (((8 : Int32) * ((σ1.1 20 ((0 : Int32)).toNatClampNeg) - (σ1.1 17 ((0 : Int32)).toNatClampNeg))) + (σ1.1 19 ((0 : Int32)).toNatClampNeg)) 504) <|
  k_nm (mI σ1 29 ((((8 : Int32) * ((σ1.1 20 ((0 : Int32)).toNatClampNeg) - (σ1.1 17 ((0 : Int32)).toNatClampNeg))) + (σ1.1 19 ((0 : Int32)).toNatClampNeg))).toNatClampNeg (0 : Int32)) fun σ2 =>
  f_X12_layWays_b134 σ2)))
  else
  (k_ck (k_inb x1 504) <|
  k_nm (mI σ 29 (x1).toNatClampNeg (-1 : Int32)) fun σ5 =>
  k_ck (k_inb x1 504) <|
  k_nm (mI σ5 30 (x1).toNatClampNeg (-1 : Int32)) fun σ6 =>
  k_nm (x1 + (1 : Int32)) fun u7 =>
  r2 u7 σ6)
def f_X12_layWays_b2  : Nat → Int32 → MSt → Option MSt
  | 0 => fun _ _ => none
  | n + 1 => f_X12_layWays_b2_s (f_X12_layWays_b2 n)
def f_X12_layWays   (σ : MSt) : Option MSt :=
  f_X12_layWays_b2 FU (0 : Int32) σ
def rmX12_layWays : Room := { frames := 7, cells := 0, slots := 0, locals := 171 }
set_option maxHeartbeats 4000000 in
set_option maxRecDepth 100000 in
theorem c_X12_layWays (l : Launch) (G : va_G) (Y : CY) (w : MSt → va_W) (ad : Nat → Nat)  (LM : LayM ad w Y)  (σ : MSt) (σ' : MSt) (hf : f_X12_layWays σ = some σ') : k_Mv l yX12_layWays wsX12_layWays rmX12_layWays G Y w [.ref (ad 0)] σ σ' := by
  refine k_ofv (own := RX12) (cc := cX12_layWays) (maxL := 6) none (by decide) rfl rfl (Nat.le_of_ble_eq_true rfl) ?_
  intro p e s m below meth c A C ls hl hw
  have hx := C.1
  have hb := C.2.1
  have hown := C.2.2.2.2.1
  have hts := C.2.2.2.2.2.1
  have hks := C.2.2.2.2.2.2.1
  have hl : lv_has ls 6 [(0, .ref (ad 0))] := hl
  have b136 : ∀ (n136 : Nat) (x1 : Int32) (σ : MSt) (H : Heap) (locs : List Loc) (ls : Array Slot), lv_has ls 6 [(0, .ref (ad 0)), (1, .int x1)] → k_W G w A s.heap σ H locs → f_X12_layWays_b136 n136 x1 σ = some σ' → W p l e rmX12_layWays s m [.ref (ad 0)].toArray below meth c H locs 0 0 (MQ below (k_Qv G w A σ') [.ref (ad 0)].toArray s 0 0 A) (F0 m 136 ls []) := by
    intro n136
    induction n136 with
    | zero =>
      intro x1 σ H locs ls hl hw hf
      have hf : (none : Option MSt) = some σ' := hf
      cases hf
    | succ n136 ih136 =>
      have b144 : ∀ (n144 : Nat) (x1 : Int32) (x2 : Int32) (σ : MSt) (H : Heap) (locs : List Loc) (ls : Array Slot), lv_has ls 6 [(0, .ref (ad 0)), (1, .int x1), (2, .int x2)] → k_W G w A s.heap σ H locs → f_X12_layWays_b144 (f_X12_layWays_b136 n136) n144 x1 x2 σ = some σ' → W p l e rmX12_layWays s m [.ref (ad 0)].toArray below meth c H locs 0 0 (MQ below (k_Qv G w A σ') [.ref (ad 0)].toArray s 0 0 A) (F0 m 144 ls []) := by
        intro n144
        induction n144 with
        | zero =>
          intro x1 x2 σ H locs ls hl hw hf
          have hf : (none : Option MSt) = some σ' := hf
          cases hf
        | succ n144 ih144 =>
          have b289 : ∀ (x1 : Int32) (x2 : Int32) (σ : MSt) (H : Heap) (locs : List Loc) (ls : Array Slot), lv_has ls 6 [(0, .ref (ad 0)), (1, .int x1), (2, .int x2)] → k_W G w A s.heap σ H locs → f_X12_layWays_b289 (f_X12_layWays_b136 n136) (f_X12_layWays_b144 (f_X12_layWays_b136 n136) n144) x1 x2 σ = some σ' → W p l e rmX12_layWays s m [.ref (ad 0)].toArray below meth c H locs 0 0 (MQ below (k_Qv G w A σ') [.ref (ad 0)].toArray s 0 0 A) (F0 m 289 ls []) := by
            intro x1 x2 σ H locs ls hl hw hf
            unfold f_X12_layWays_b289 at hf
            obtain ⟨u1, ex⟩ : ∃ y : Int32, y = (x2 + (1 : Int32)) := ⟨_, rfl⟩
            have hf := k_nmE ex hf
            refine lv_iinc (v := u1) (lv' := [(2, .int u1), (0, .ref (ad 0)), (1, .int x1)]) hx hb dX12_layWays_289 hl (k := 2) rfl (by rw [ex]; rfl) (by decide) rfl (fun ls hl => ?_)
            refine lv_goto (tgt := 144) hx hb dX12_layWays_292 (by decide) ?_
            exact ih144 x1 u1 σ _ _ _ (lv_sub hl [1, 2, 0] rfl) hw hf
          have b225 : ∀ (n225 : Nat) (x1 : Int32) (x2 : Int32) (x3 : Int32) (x4 : Int32) (σ : MSt) (H : Heap) (locs : List Loc) (ls : Array Slot), lv_has ls 6 [(0, .ref (ad 0)), (1, .int x1), (2, .int x2), (3, .int x3), (4, .int x4)] → k_W G w A s.heap σ H locs → f_X12_layWays_b225 (f_X12_layWays_b136 n136) (f_X12_layWays_b144 (f_X12_layWays_b136 n136) n144) n225 x1 x2 x3 x4 σ = some σ' → W p l e rmX12_layWays s m [.ref (ad 0)].toArray below meth c H locs 0 0 (MQ below (k_Qv G w A σ') [.ref (ad 0)].toArray s 0 0 A) (F0 m 225 ls []) := by
            intro n225
            induction n225 with
            | zero =>
              intro x1 x2 x3 x4 σ H locs ls hl hw hf
              have hf : (none : Option MSt) = some σ' := hf
              cases hf
            | succ n225 ih225 =>
              have b283 : ∀ (x1 : Int32) (x2 : Int32) (x3 : Int32) (x4 : Int32) (σ : MSt) (H : Heap) (locs : List Loc) (ls : Array Slot), lv_has ls 6 [(0, .ref (ad 0)), (1, .int x1), (2, .int x2), (3, .int x3), (4, .int x4)] → k_W G w A s.heap σ H locs → f_X12_layWays_b283 (f_X12_layWays_b136 n136) (f_X12_layWays_b144 (f_X12_layWays_b136 n136) n144) (f_X12_layWays_b225 (f_X12_layWays_b136 n136) (f_X12_layWays_b144 (f_X12_layWays_b136 n136) n144) n225) x1 x2 x3 x4 σ = some σ' → W p l e rmX12_layWays s m [.ref (ad 0)].toArray below meth c H locs 0 0 (MQ below (k_Qv G w A σ') [.ref (ad 0)].toArray s 0 0 A) (F0 m 283 ls []) := by
                intro x1 x2 x3 x4 σ H locs ls hl hw hf
                unfold f_X12_layWays_b283 at hf
                obtain ⟨u1, ex⟩ : ∃ y : Int32, y = (x4 + (1 : Int32)) := ⟨_, rfl⟩
                have hf := k_nmE ex hf
                refine lv_iinc (v := u1) (lv' := [(4, .int u1), (0, .ref (ad 0)), (1, .int x1), (2, .int x2), (3, .int x3)]) hx hb dX12_layWays_283 hl (k := 4) rfl (by rw [ex]; rfl) (by decide) rfl (fun ls hl => ?_)
                refine lv_goto (tgt := 225) hx hb dX12_layWays_286 (by decide) ?_
                exact ih225 x1 x2 x3 u1 σ _ _ _ (lv_sub hl [1, 2, 3, 4, 0] rfl) hw hf
              intro x1 x2 x3 x4 σ H locs ls hl hw hf
              have hf : f_X12_layWays_b225_s (f_X12_layWays_b136 n136) (f_X12_layWays_b144 (f_X12_layWays_b136 n136) n144) (f_X12_layWays_b225 (f_X12_layWays_b136 n136) (f_X12_layWays_b144 (f_X12_layWays_b136 n136) n144) n225) x1 x2 x3 x4 σ = some σ' := hf
              unfold f_X12_layWays_b225_s at hf
              refine lv_iload hx hb dX12_layWays_225 (lv_at hl 4 rfl) ?_
              refine lv_aload_n hx hb dX12_layWays_227 rfl (lv_at hl 0 rfl) ?_
              refine k_get C hw (LM_0 LM) (ci := 12) rfl k_in12 3 (by decide) lk12_13 (v := .ref (ad 2)) rfl dX12_layWays_228 ?_
              refine lv_iconst (v := (0 : Int32)) hx hb dX12_layWays_231 (by decide) ?_
              obtain ⟨hi, hf⟩ := k_ckE hf
              refine k_iald C hw (LM_2 LM) hi dX12_layWays_232 ?_
              refine lv_icmp_ge (tgt := 289) hx hb dX12_layWays_233 (by decide) (fun h => ?_) (fun h => ?_)
              · have hf := k_ifT h hf
                exact b289 x1 x2 σ _ _ _ (lv_sub hl [0, 1, 2] rfl) hw hf
              · have hf := k_ifF h hf
                refine lv_aload_n hx hb dX12_layWays_236 rfl (lv_at hl 0 rfl) ?_
                refine lv_iload_n hx hb dX12_layWays_237 rfl (lv_at hl 2 rfl) ?_
                refine lv_iload hx hb dX12_layWays_238 (lv_at hl 4 rfl) ?_
                obtain ⟨q2, σ1, hq, hf⟩ := k_bdE hf
                refine k_callVi C hw (c_X12_laneOf l G Y w ad LM x2 x4 σ q2 σ1 hq) (cwV 2 hts gX12_layWays_X12_laneOf rfl rfl rfl (by decide +kernel) ⟨Nat.le_of_ble_eq_true rfl, Nat.le_of_ble_eq_true rfl⟩) (k_recv C hw (LM_0 LM) rfl) rfl hl.1 rfl (Nat.le_of_ble_eq_true rfl) dX12_layWays_240 (fun H locs hw => ?_)
                refine lv_istore (lv' := [(5, .int q2), (0, .ref (ad 0)), (1, .int x1), (2, .int x2), (3, .int x3), (4, .int x4)]) hx hb dX12_layWays_243 hl (by decide) rfl (fun ls hl => ?_)
                refine lv_iload hx hb dX12_layWays_245 (lv_at hl 0 rfl) ?_
                refine lv_if_le (tgt := 283) hx hb dX12_layWays_247 (by decide) (fun h => ?_) (fun h => ?_)
                · have hf := k_ifT h hf
                  exact b283 x1 x2 x3 x4 σ1 _ _ _ (lv_sub hl [1, 2, 3, 4, 5] rfl) hw hf
                · have hf := k_ifF h hf
                  refine lv_iload hx hb dX12_layWays_250 (lv_at hl 0 rfl) ?_
                  refine lv_aload_n hx hb dX12_layWays_252 rfl (lv_at hl 1 rfl) ?_
                  refine k_get C hw (LM_0 LM) (ci := 12) rfl k_in12 3 (by decide) lk12_13 (v := .ref (ad 2)) rfl dX12_layWays_253 ?_
                  refine lv_iconst (v := (5 : Int32)) hx hb dX12_layWays_256 (by decide) ?_
                  obtain ⟨hi, hf⟩ := k_ckE hf
                  refine k_iald C hw (LM_2 LM) hi dX12_layWays_257 ?_
                  refine lv_icmp_gt (tgt := 283) hx hb dX12_layWays_258 (by decide) (fun h => ?_) (fun h => ?_)
                  · have hf := k_ifT h hf
                    exact b283 x1 x2 x3 x4 σ1 _ _ _ (lv_sub hl [1, 2, 3, 4, 5] rfl) hw hf
                  · have hf := k_ifF h hf
                    refine lv_iload_n hx hb dX12_layWays_261 rfl (lv_at hl 2 rfl) ?_
                    refine lv_iload hx hb dX12_layWays_262 (lv_at hl 0 rfl) ?_
                    refine lv_iadd hx hb dX12_layWays_264 ?_
                    refine lv_bipush (v := (60 : Int32)) hx hb dX12_layWays_265 (by decide) ?_
                    refine lv_icmp_gt (tgt := 283) hx hb dX12_layWays_267 (by decide) (fun h => ?_) (fun h => ?_)
                    · have hf := k_ifT h hf
                      exact b283 x1 x2 x3 x4 σ1 _ _ _ (lv_sub hl [1, 2, 3, 4, 5] rfl) hw hf
                    · have hf := k_ifF h hf
                      refine lv_aload_n hx hb dX12_layWays_270 rfl (lv_at hl 1 rfl) ?_
                      refine lv_iload_n hx hb dX12_layWays_271 rfl (lv_at hl 2 rfl) ?_
                      refine lv_iload hx hb dX12_layWays_272 (lv_at hl 0 rfl) ?_
                      refine lv_iadd hx hb dX12_layWays_274 ?_
                      refine lv_iload hx hb dX12_layWays_275 (lv_at hl 5 rfl) ?_
                      refine lv_iload_n hx hb dX12_layWays_277 rfl (lv_at hl 4 rfl) ?_
                      refine lv_iconst (v := (1 : Int32)) hx hb dX12_layWays_278 (by decide) ?_
                      refine lv_iadd hx hb dX12_layWays_279 ?_
                      obtain ⟨σ3, hq, hf⟩ := k_bvE hf
                      refine k_callVv C hw (c_X12_comesIn l G Y w ad LM (x1 + q2) x4 (x3 + (1 : Int32)) σ1 σ3 hq) (cwV 3 hts gX12_layWays_X12_comesIn rfl rfl rfl (by decide +kernel) ⟨Nat.le_of_ble_eq_true rfl, Nat.le_of_ble_eq_true rfl⟩) (k_recv C hw (LM_0 LM) rfl) rfl hl.1 rfl (Nat.le_of_ble_eq_true rfl) dX12_layWays_280 (fun H locs hw => ?_)
                      exact b283 x1 x2 x3 x4 σ3 _ _ _ (lv_sub hl [1, 2, 3, 4, 5] rfl) hw hf
          have b222 : ∀ (x1 : Int32) (x2 : Int32) (x3 : Int32) (σ : MSt) (H : Heap) (locs : List Loc) (ls : Array Slot), lv_has ls 6 [(0, .ref (ad 0)), (1, .int x1), (2, .int x2), (3, .int x3)] → k_W G w A s.heap σ H locs → f_X12_layWays_b222 (f_X12_layWays_b136 n136) (f_X12_layWays_b144 (f_X12_layWays_b136 n136) n144) x1 x2 x3 σ = some σ' → W p l e rmX12_layWays s m [.ref (ad 0)].toArray below meth c H locs 0 0 (MQ below (k_Qv G w A σ') [.ref (ad 0)].toArray s 0 0 A) (F0 m 222 ls []) := by
            intro x1 x2 x3 σ H locs ls hl hw hf
            unfold f_X12_layWays_b222 at hf
            refine lv_iconst (v := (0 : Int32)) hx hb dX12_layWays_222 (by decide) ?_
            refine lv_istore (lv' := [(4, .int (0 : Int32)), (0, .ref (ad 0)), (1, .int x1), (2, .int x2), (3, .int x3)]) hx hb dX12_layWays_223 hl (by decide) rfl (fun ls hl => ?_)
            exact b225 FU x1 x2 x3 (0 : Int32) σ _ _ _ (lv_sub hl [1, 2, 3, 4, 0] rfl) hw hf
          intro x1 x2 σ H locs ls hl hw hf
          have hf : f_X12_layWays_b144_s (f_X12_layWays_b136 n136) (f_X12_layWays_b144 (f_X12_layWays_b136 n136) n144) x1 x2 σ = some σ' := hf
          unfold f_X12_layWays_b144_s at hf
          refine lv_iload_n hx hb dX12_layWays_144 rfl (lv_at hl 2 rfl) ?_
          refine lv_aload_n hx hb dX12_layWays_145 rfl (lv_at hl 0 rfl) ?_
          refine k_get C hw (LM_0 LM) (ci := 12) rfl k_in12 3 (by decide) lk12_13 (v := .ref (ad 2)) rfl dX12_layWays_146 ?_
          refine lv_iconst (v := (0 : Int32)) hx hb dX12_layWays_149 (by decide) ?_
          obtain ⟨hi, hf⟩ := k_ckE hf
          refine k_iald C hw (LM_2 LM) hi dX12_layWays_150 ?_
          refine lv_icmp_ge (tgt := 295) hx hb dX12_layWays_151 (by decide) (fun h => ?_) (fun h => ?_)
          · have hf := k_ifT h hf
            obtain ⟨u1, ex⟩ : ∃ y : Int32, y = (x1 + (1 : Int32)) := ⟨_, rfl⟩
            have hf := k_nmE ex hf
            refine lv_iinc (v := u1) (lv' := [(1, .int u1), (0, .ref (ad 0)), (2, .int x2)]) hx hb dX12_layWays_295 hl (k := 1) rfl (by rw [ex]; rfl) (by decide) rfl (fun ls hl => ?_)
            refine lv_goto (tgt := 136) hx hb dX12_layWays_298 (by decide) ?_
            exact ih136 u1 σ _ _ _ (lv_sub hl [1, 0] rfl) hw hf
          · have hf := k_ifF h hf
            refine lv_aload_n hx hb dX12_layWays_154 rfl (lv_at hl 0 rfl) ?_
            refine k_get C hw (LM_0 LM) (ci := 12) rfl k_in12 54 (by decide) lk12_108 (v := .ref (ad 29)) rfl dX12_layWays_155 ?_
            refine lv_bipush (v := (8 : Int32)) hx hb dX12_layWays_158 (by decide) ?_
            refine lv_iload_n hx hb dX12_layWays_160 rfl (lv_at hl 1 rfl) ?_
            refine lv_imul hx hb dX12_layWays_161 ?_
            refine lv_iload_n hx hb dX12_layWays_162 rfl (lv_at hl 2 rfl) ?_
            refine lv_iadd hx hb dX12_layWays_163 ?_
            obtain ⟨hi, hf⟩ := k_ckE hf
            refine k_iald C hw (LM_29 LM) hi dX12_layWays_164 ?_
            refine lv_topi (fun u2 ex => ?_)
            have hf := k_nmE ex hf
            refine lv_istore_n (lv' := [(3, .int u2), (0, .ref (ad 0)), (1, .int x1), (2, .int x2)]) hx hb dX12_layWays_165 rfl hl (by decide) rfl (fun ls hl => ?_)
            refine lv_iload_n hx hb dX12_layWays_166 rfl (lv_at hl 0 rfl) ?_
            refine lv_iconst (v := (-1 : Int32)) hx hb dX12_layWays_167 (by decide) ?_
            refine lv_icmp_ne (tgt := 174) hx hb dX12_layWays_168 (by decide) (fun h => ?_) (fun h => ?_)
            · have hf := k_ifF h hf
              refine lv_aload_n hx hb dX12_layWays_174 rfl (lv_at hl 1 rfl) ?_
              refine lv_iconst (v := (0 : Int32)) hx hb dX12_layWays_175 (by decide) ?_
              refine lv_iload_n hx hb dX12_layWays_176 rfl (lv_at hl 3 rfl) ?_
              refine lv_aload_n hx hb dX12_layWays_177 rfl (lv_at hl 1 rfl) ?_
              refine k_get C hw (LM_0 LM) (ci := 12) rfl k_in12 32 (by decide) lk12_63 (v := .ref (ad 17)) rfl dX12_layWays_178 ?_
              refine lv_iconst (v := (0 : Int32)) hx hb dX12_layWays_181 (by decide) ?_
              obtain ⟨hi, hf⟩ := k_ckE hf
              refine k_iald C hw (LM_17 LM) hi dX12_layWays_182 ?_
              refine lv_iload_n hx hb dX12_layWays_183 rfl (lv_at hl 2 rfl) ?_
              refine lv_iadd hx hb dX12_layWays_184 ?_
              refine lv_iconst (v := (-1 : Int32)) hx hb dX12_layWays_185 (by decide) ?_
              obtain ⟨q4, σ3, hq, hf⟩ := k_bdE hf
              refine k_callVi C hw (c_X12_willHold l G Y w ad LM (0 : Int32) x2 ((σ.1 17 ((0 : Int32)).toNatClampNeg) + x1) (-1 : Int32) σ q4 σ3 hq) (cwV 4 hts gX12_layWays_X12_willHold rfl rfl rfl (by decide +kernel) ⟨Nat.le_of_ble_eq_true rfl, Nat.le_of_ble_eq_true rfl⟩) (k_recv C hw (LM_0 LM) rfl) rfl hl.1 rfl (Nat.le_of_ble_eq_true rfl) dX12_layWays_186 (fun H locs hw => ?_)
              refine lv_if_eq (tgt := 222) hx hb dX12_layWays_189 (by decide) (fun h => ?_) (fun h => ?_)
              · have hf := k_ifT h hf
                exact b222 x1 x2 u2 σ3 _ _ _ (lv_sub hl [1, 2, 3, 0] rfl) hw hf
              · have hf := k_ifF h hf
                refine lv_aload_n hx hb dX12_layWays_192 rfl (lv_at hl 1 rfl) ?_
                refine k_get C hw (LM_0 LM) (ci := 12) rfl k_in12 54 (by decide) lk12_108 (v := .ref (ad 29)) rfl dX12_layWays_193 ?_
                refine lv_bipush (v := (8 : Int32)) hx hb dX12_layWays_196 (by decide) ?_
                refine lv_iload_n hx hb dX12_layWays_198 rfl (lv_at hl 2 rfl) ?_
                refine lv_iconst (v := (1 : Int32)) hx hb dX12_layWays_199 (by decide) ?_
                refine lv_iadd hx hb dX12_layWays_200 ?_
                refine lv_imul hx hb dX12_layWays_201 ?_
                refine lv_iload_n hx hb dX12_layWays_202 rfl (lv_at hl 3 rfl) ?_
                refine lv_iadd hx hb dX12_layWays_203 ?_
                refine lv_aload_n hx hb dX12_layWays_204 rfl (lv_at hl 1 rfl) ?_
                refine k_get C hw (LM_0 LM) (ci := 12) rfl k_in12 54 (by decide) lk12_108 (v := .ref (ad 29)) rfl dX12_layWays_205 ?_
                refine lv_bipush (v := (8 : Int32)) hx hb dX12_layWays_208 (by decide) ?_
                refine lv_iload_n hx hb dX12_layWays_210 rfl (lv_at hl 2 rfl) ?_
                refine lv_iconst (v := (1 : Int32)) hx hb dX12_layWays_211 (by decide) ?_
                refine lv_iadd hx hb dX12_layWays_212 ?_
                refine lv_imul hx hb dX12_layWays_213 ?_
                refine lv_iload_n hx hb dX12_layWays_214 rfl (lv_at hl 3 rfl) ?_
                refine lv_iadd hx hb dX12_layWays_215 ?_
                obtain ⟨hi, hf⟩ := k_ckE hf
                refine k_iald C hw (LM_29 LM) hi dX12_layWays_216 ?_
                refine lv_iload_n hx hb dX12_layWays_217 rfl (lv_at hl 0 rfl) ?_
                obtain ⟨q6, σ5, hq, hf⟩ := k_bdE hf
                refine k_callSi C hw (c_X12_fewer l G Y w ad LM (σ3.1 29 ((((8 : Int32) * (x1 + (1 : Int32))) + x2)).toNatClampNeg) u2 σ3 q6 σ5 hq) (va_cwS 2 hts gX12_layWays_X12_fewer rfl rfl rfl (by decide +kernel) ⟨Nat.le_of_ble_eq_true rfl, Nat.le_of_ble_eq_true rfl⟩) rfl hl.1 rfl (Nat.le_of_ble_eq_true rfl) dX12_layWays_218 (fun H locs hw => ?_)
                obtain ⟨hi, hf⟩ := k_ckE hf
                refine k_iast C hw (LM_29 LM) hi dX12_layWays_221 (fun σ7 eq H locs hw => ?_)
                have hf := k_nmE eq hf
                exact b222 x1 x2 u2 σ7 _ _ _ (lv_sub hl [1, 2, 3, 0] rfl) hw hf
            · have hf := k_ifT h hf
              refine lv_goto (tgt := 289) hx hb dX12_layWays_171 (by decide) ?_
              exact b289 x1 x2 σ _ _ _ (lv_sub hl [1, 2, 3] rfl) hw hf
      intro x1 σ H locs ls hl hw hf
      have hf : f_X12_layWays_b136_s (f_X12_layWays_b136 n136) x1 σ = some σ' := hf
      unfold f_X12_layWays_b136_s at hf
      refine lv_iload_n hx hb dX12_layWays_136 rfl (lv_at hl 1 rfl) ?_
      refine lv_bipush (v := (60 : Int32)) hx hb dX12_layWays_137 (by decide) ?_
      refine lv_icmp_gt (tgt := 301) hx hb dX12_layWays_139 (by decide) (fun h => ?_) (fun h => ?_)
      · have hf := k_ifT h hf
        exact k_vret C hw hf dX12_layWays_301
      · have hf := k_ifF h hf
        refine lv_iconst (v := (0 : Int32)) hx hb dX12_layWays_142 (by decide) ?_
        refine lv_istore_n (lv' := [(2, .int (0 : Int32)), (0, .ref (ad 0)), (1, .int x1)]) hx hb dX12_layWays_143 rfl hl (by decide) rfl (fun ls hl => ?_)
        exact b144 FU x1 (0 : Int32) σ _ _ _ (lv_sub hl [1, 2, 0] rfl) hw hf
  have b134 : ∀ (σ : MSt) (H : Heap) (locs : List Loc) (ls : Array Slot), lv_has ls 6 [(0, .ref (ad 0))] → k_W G w A s.heap σ H locs → f_X12_layWays_b134 σ = some σ' → W p l e rmX12_layWays s m [.ref (ad 0)].toArray below meth c H locs 0 0 (MQ below (k_Qv G w A σ') [.ref (ad 0)].toArray s 0 0 A) (F0 m 134 ls []) := by
    intro σ H locs ls hl hw hf
    unfold f_X12_layWays_b134 at hf
    refine lv_iconst (v := (0 : Int32)) hx hb dX12_layWays_134 (by decide) ?_
    refine lv_istore_n (lv' := [(1, .int (0 : Int32)), (0, .ref (ad 0))]) hx hb dX12_layWays_135 rfl hl (by decide) rfl (fun ls hl => ?_)
    exact b136 FU (0 : Int32) σ _ _ _ (lv_sub hl [1, 0] rfl) hw hf
  have b2 : ∀ (n2 : Nat) (x1 : Int32) (σ : MSt) (H : Heap) (locs : List Loc) (ls : Array Slot), lv_has ls 6 [(0, .ref (ad 0)), (1, .int x1)] → k_W G w A s.heap σ H locs → f_X12_layWays_b2 n2 x1 σ = some σ' → W p l e rmX12_layWays s m [.ref (ad 0)].toArray below meth c H locs 0 0 (MQ below (k_Qv G w A σ') [.ref (ad 0)].toArray s 0 0 A) (F0 m 2 ls []) := by
    intro n2
    induction n2 with
    | zero =>
      intro x1 σ H locs ls hl hw hf
      have hf : (none : Option MSt) = some σ' := hf
      cases hf
    | succ n2 ih2 =>
      intro x1 σ H locs ls hl hw hf
      have hf : f_X12_layWays_b2_s (f_X12_layWays_b2 n2) x1 σ = some σ' := hf
      unfold f_X12_layWays_b2_s at hf
      refine lv_iload_n hx hb dX12_layWays_2 rfl (lv_at hl 1 rfl) ?_
      refine lv_sipush (v := (504 : Int32)) hx hb dX12_layWays_3 (by decide) ?_
      refine lv_icmp_ge (tgt := 29) hx hb dX12_layWays_6 (by decide) (fun h => ?_) (fun h => ?_)
      · have hf := k_ifT h hf
        refine lv_aload_n hx hb dX12_layWays_29 rfl (lv_at hl 0 rfl) ?_
        refine k_get C hw (LM_0 LM) (ci := 12) rfl k_in12 3 (by decide) lk12_13 (v := .ref (ad 2)) rfl dX12_layWays_30 ?_
        refine lv_iconst (v := (0 : Int32)) hx hb dX12_layWays_33 (by decide) ?_
        obtain ⟨hi, hf⟩ := k_ckE hf
        refine k_iald C hw (LM_2 LM) hi dX12_layWays_34 ?_
        refine lv_if_ne (tgt := 39) hx hb dX12_layWays_35 (by decide) (fun h => ?_) (fun h => ?_)
        · have hf := k_ifF h hf
          refine lv_aload_n hx hb dX12_layWays_39 rfl (lv_at hl 0 rfl) ?_
          refine k_get C hw (LM_0 LM) (ci := 12) rfl k_in12 34 (by decide) lk12_69 (v := .ref (ad 19)) rfl dX12_layWays_40 ?_
          refine lv_iconst (v := (0 : Int32)) hx hb dX12_layWays_43 (by decide) ?_
          obtain ⟨hi, hf⟩ := k_ckE hf
          refine k_iald C hw (LM_19 LM) hi dX12_layWays_44 ?_
          refine lv_iconst (v := (-1 : Int32)) hx hb dX12_layWays_45 (by decide) ?_
          refine lv_icmp_ne (tgt := 76) hx hb dX12_layWays_46 (by decide) (fun h => ?_) (fun h => ?_)
          · have hf := k_ifF h hf
            refine lv_aload_n hx hb dX12_layWays_76 rfl (lv_at hl 0 rfl) ?_
            refine k_get C hw (LM_0 LM) (ci := 12) rfl k_in12 55 (by decide) lk12_111 (v := .ref (ad 30)) rfl dX12_layWays_77 ?_
            refine lv_bipush (v := (8 : Int32)) hx hb dX12_layWays_80 (by decide) ?_
            refine lv_aload_n hx hb dX12_layWays_82 rfl (lv_at hl 0 rfl) ?_
            refine k_get C hw (LM_0 LM) (ci := 12) rfl k_in12 35 (by decide) lk12_72 (v := .ref (ad 20)) rfl dX12_layWays_83 ?_
            refine lv_iconst (v := (0 : Int32)) hx hb dX12_layWays_86 (by decide) ?_
            obtain ⟨hi, hf⟩ := k_ckE hf
            refine k_iald C hw (LM_20 LM) hi dX12_layWays_87 ?_
            refine lv_aload_n hx hb dX12_layWays_88 rfl (lv_at hl 0 rfl) ?_
            refine k_get C hw (LM_0 LM) (ci := 12) rfl k_in12 32 (by decide) lk12_63 (v := .ref (ad 17)) rfl dX12_layWays_89 ?_
            refine lv_iconst (v := (0 : Int32)) hx hb dX12_layWays_92 (by decide) ?_
            obtain ⟨hi, hf⟩ := k_ckE hf
            refine k_iald C hw (LM_17 LM) hi dX12_layWays_93 ?_
            refine lv_isub hx hb dX12_layWays_94 ?_
            refine lv_imul hx hb dX12_layWays_95 ?_
            refine lv_aload_n hx hb dX12_layWays_96 rfl (lv_at hl 0 rfl) ?_
            refine k_get C hw (LM_0 LM) (ci := 12) rfl k_in12 34 (by decide) lk12_69 (v := .ref (ad 19)) rfl dX12_layWays_97 ?_
            refine lv_iconst (v := (0 : Int32)) hx hb dX12_layWays_100 (by decide) ?_
            obtain ⟨hi, hf⟩ := k_ckE hf
            refine k_iald C hw (LM_19 LM) hi dX12_layWays_101 ?_
            refine lv_iadd hx hb dX12_layWays_102 ?_
            refine lv_iconst (v := (0 : Int32)) hx hb dX12_layWays_103 (by decide) ?_
            obtain ⟨hi, hf⟩ := k_ckE hf
            refine k_iast C hw (LM_30 LM) hi dX12_layWays_104 (fun σ1 eq H locs hw => ?_)
            have hf := k_nmE eq hf
            refine lv_aload_n hx hb dX12_layWays_105 rfl (lv_at hl 0 rfl) ?_
            refine k_get C hw (LM_0 LM) (ci := 12) rfl k_in12 54 (by decide) lk12_108 (v := .ref (ad 29)) rfl dX12_layWays_106 ?_
            refine lv_bipush (v := (8 : Int32)) hx hb dX12_layWays_109 (by decide) ?_
            refine lv_aload_n hx hb dX12_layWays_111 rfl (lv_at hl 0 rfl) ?_
            refine k_get C hw (LM_0 LM) (ci := 12) rfl k_in12 35 (by decide) lk12_72 (v := .ref (ad 20)) rfl dX12_layWays_112 ?_
            refine lv_iconst (v := (0 : Int32)) hx hb dX12_layWays_115 (by decide) ?_
            obtain ⟨hi, hf⟩ := k_ckE hf
            refine k_iald C hw (LM_20 LM) hi dX12_layWays_116 ?_
            refine lv_aload_n hx hb dX12_layWays_117 rfl (lv_at hl 0 rfl) ?_
            refine k_get C hw (LM_0 LM) (ci := 12) rfl k_in12 32 (by decide) lk12_63 (v := .ref (ad 17)) rfl dX12_layWays_118 ?_
            refine lv_iconst (v := (0 : Int32)) hx hb dX12_layWays_121 (by decide) ?_
            obtain ⟨hi, hf⟩ := k_ckE hf
            refine k_iald C hw (LM_17 LM) hi dX12_layWays_122 ?_
            refine lv_isub hx hb dX12_layWays_123 ?_
            refine lv_imul hx hb dX12_layWays_124 ?_
            refine lv_aload_n hx hb dX12_layWays_125 rfl (lv_at hl 0 rfl) ?_
            refine k_get C hw (LM_0 LM) (ci := 12) rfl k_in12 34 (by decide) lk12_69 (v := .ref (ad 19)) rfl dX12_layWays_126 ?_
            refine lv_iconst (v := (0 : Int32)) hx hb dX12_layWays_129 (by decide) ?_
            obtain ⟨hi, hf⟩ := k_ckE hf
            refine k_iald C hw (LM_19 LM) hi dX12_layWays_130 ?_
            refine lv_iadd hx hb dX12_layWays_131 ?_
            refine lv_iconst (v := (0 : Int32)) hx hb dX12_layWays_132 (by decide) ?_
            obtain ⟨hi, hf⟩ := k_ckE hf
            refine k_iast C hw (LM_29 LM) hi dX12_layWays_133 (fun σ2 eq H locs hw => ?_)
            have hf := k_nmE eq hf
            exact b134 σ2 _ _ _ (lv_sub hl [0] rfl) hw hf
          · have hf := k_ifT h hf
            refine lv_aload_n hx hb dX12_layWays_49 rfl (lv_at hl 0 rfl) ?_
            refine k_get C hw (LM_0 LM) (ci := 12) rfl k_in12 55 (by decide) lk12_111 (v := .ref (ad 30)) rfl dX12_layWays_50 ?_
            refine lv_aload_n hx hb dX12_layWays_53 rfl (lv_at hl 0 rfl) ?_
            refine k_get C hw (LM_0 LM) (ci := 12) rfl k_in12 33 (by decide) lk12_66 (v := .ref (ad 18)) rfl dX12_layWays_54 ?_
            refine lv_iconst (v := (0 : Int32)) hx hb dX12_layWays_57 (by decide) ?_
            obtain ⟨hi, hf⟩ := k_ckE hf
            refine k_iald C hw (LM_18 LM) hi dX12_layWays_58 ?_
            refine lv_iconst (v := (0 : Int32)) hx hb dX12_layWays_59 (by decide) ?_
            obtain ⟨hi, hf⟩ := k_ckE hf
            refine k_iast C hw (LM_30 LM) hi dX12_layWays_60 (fun σ3 eq H locs hw => ?_)
            have hf := k_nmE eq hf
            refine lv_aload_n hx hb dX12_layWays_61 rfl (lv_at hl 0 rfl) ?_
            refine k_get C hw (LM_0 LM) (ci := 12) rfl k_in12 54 (by decide) lk12_108 (v := .ref (ad 29)) rfl dX12_layWays_62 ?_
            refine lv_aload_n hx hb dX12_layWays_65 rfl (lv_at hl 0 rfl) ?_
            refine k_get C hw (LM_0 LM) (ci := 12) rfl k_in12 33 (by decide) lk12_66 (v := .ref (ad 18)) rfl dX12_layWays_66 ?_
            refine lv_iconst (v := (0 : Int32)) hx hb dX12_layWays_69 (by decide) ?_
            obtain ⟨hi, hf⟩ := k_ckE hf
            refine k_iald C hw (LM_18 LM) hi dX12_layWays_70 ?_
            refine lv_iconst (v := (0 : Int32)) hx hb dX12_layWays_71 (by decide) ?_
            obtain ⟨hi, hf⟩ := k_ckE hf
            refine k_iast C hw (LM_29 LM) hi dX12_layWays_72 (fun σ4 eq H locs hw => ?_)
            have hf := k_nmE eq hf
            refine lv_goto (tgt := 134) hx hb dX12_layWays_73 (by decide) ?_
            exact b134 σ4 _ _ _ (lv_sub hl [0] rfl) hw hf
        · have hf := k_ifT h hf
          exact k_vret C hw hf dX12_layWays_38
      · have hf := k_ifF h hf
        refine lv_aload_n hx hb dX12_layWays_9 rfl (lv_at hl 0 rfl) ?_
        refine k_get C hw (LM_0 LM) (ci := 12) rfl k_in12 54 (by decide) lk12_108 (v := .ref (ad 29)) rfl dX12_layWays_10 ?_
        refine lv_iload_n hx hb dX12_layWays_13 rfl (lv_at hl 1 rfl) ?_
        refine lv_iconst (v := (-1 : Int32)) hx hb dX12_layWays_14 (by decide) ?_
        obtain ⟨hi, hf⟩ := k_ckE hf
        refine k_iast C hw (LM_29 LM) hi dX12_layWays_15 (fun σ5 eq H locs hw => ?_)
        have hf := k_nmE eq hf
        refine lv_aload_n hx hb dX12_layWays_16 rfl (lv_at hl 0 rfl) ?_
        refine k_get C hw (LM_0 LM) (ci := 12) rfl k_in12 55 (by decide) lk12_111 (v := .ref (ad 30)) rfl dX12_layWays_17 ?_
        refine lv_iload_n hx hb dX12_layWays_20 rfl (lv_at hl 1 rfl) ?_
        refine lv_iconst (v := (-1 : Int32)) hx hb dX12_layWays_21 (by decide) ?_
        obtain ⟨hi, hf⟩ := k_ckE hf
        refine k_iast C hw (LM_30 LM) hi dX12_layWays_22 (fun σ6 eq H locs hw => ?_)
        have hf := k_nmE eq hf
        obtain ⟨u7, ex⟩ : ∃ y : Int32, y = (x1 + (1 : Int32)) := ⟨_, rfl⟩
        have hf := k_nmE ex hf
        refine lv_iinc (v := u7) (lv' := [(1, .int u7), (0, .ref (ad 0))]) hx hb dX12_layWays_23 hl (k := 1) rfl (by rw [ex]; rfl) (by decide) rfl (fun ls hl => ?_)
        refine lv_goto (tgt := 2) hx hb dX12_layWays_26 (by decide) ?_
        exact ih2 u7 σ6 _ _ _ (lv_sub hl [1, 0] rfl) hw hf
  unfold f_X12_layWays at hf
  refine lv_iconst (v := (0 : Int32)) hx hb dX12_layWays_0 (by decide) ?_
  refine lv_istore_n (lv' := [(1, .int (0 : Int32)), (0, .ref (ad 0))]) hx hb dX12_layWays_1 rfl hl (by decide) rfl (fun ls hl => ?_)
  exact b2 FU (0 : Int32) σ _ _ _ (lv_sub hl [1, 0] rfl) hw hf
def f_X12_firstDay_b2_s  (r2 : Int32 → Int32 → MSt → Option (Int32 × MSt)) (x1 : Int32) (x2 : Int32) (σ : MSt) : Option (Int32 × MSt) :=
  if (60 : Int32) < x2 then
  (some ((-1 : Int32), σ))
  else
  (k_ck (k_inb (((8 : Int32) * x2) + x1) 504) <|
  if (σ.1 30 ((((8 : Int32) * x2) + x1)).toNatClampNeg) = (-1 : Int32) then
  (k_nm (x2 + (1 : Int32)) fun u1 =>
  r2 x1 u1 σ)
  else
  (some (x2, σ)))
def f_X12_firstDay_b2  : Nat → Int32 → Int32 → MSt → Option (Int32 × MSt)
  | 0 => fun _ _ _ => none
  | n + 1 => f_X12_firstDay_b2_s (f_X12_firstDay_b2 n)
def f_X12_firstDay  (p1 : Int32) (σ : MSt) : Option (Int32 × MSt) :=
  f_X12_firstDay_b2 FU p1 (0 : Int32) σ
def rmX12_firstDay : Room := { frames := 0, cells := 0, slots := 0, locals := 0 }
set_option maxHeartbeats 4000000 in
set_option maxRecDepth 100000 in
theorem c_X12_firstDay (l : Launch) (G : va_G) (Y : CY) (w : MSt → va_W) (ad : Nat → Nat)  (LM : LayM ad w Y) (p1 : Int32) (σ : MSt) (r : Int32) (σ' : MSt) (hf : f_X12_firstDay p1 σ = some (r, σ')) : k_Mi l yX12_firstDay wsX12_firstDay rmX12_firstDay G Y w [.ref (ad 0), .int p1] σ r σ' := by
  refine k_ofi (own := RX12) (cc := cX12_firstDay) (maxL := 3) (some .int) (by decide) rfl rfl (Nat.le_of_ble_eq_true rfl) ?_
  intro p e s m below meth c A C ls hl hw
  have hx := C.1
  have hb := C.2.1
  have hown := C.2.2.2.2.1
  have hts := C.2.2.2.2.2.1
  have hks := C.2.2.2.2.2.2.1
  have hl : lv_has ls 3 [(0, .ref (ad 0)), (1, .int p1)] := hl
  have b2 : ∀ (n2 : Nat) (x1 : Int32) (x2 : Int32) (σ : MSt) (H : Heap) (locs : List Loc) (ls : Array Slot), lv_has ls 3 [(0, .ref (ad 0)), (1, .int x1), (2, .int x2)] → k_W G w A s.heap σ H locs → f_X12_firstDay_b2 n2 x1 x2 σ = some (r, σ') → W p l e rmX12_firstDay s m [.ref (ad 0), .int p1].toArray below meth c H locs 0 0 (MQ below (k_Qi G w A r σ') [.ref (ad 0), .int p1].toArray s 0 0 A) (F0 m 2 ls []) := by
    intro n2
    induction n2 with
    | zero =>
      intro x1 x2 σ H locs ls hl hw hf
      have hf : (none : Option (Int32 × MSt)) = some (r, σ') := hf
      cases hf
    | succ n2 ih2 =>
      intro x1 x2 σ H locs ls hl hw hf
      have hf : f_X12_firstDay_b2_s (f_X12_firstDay_b2 n2) x1 x2 σ = some (r, σ') := hf
      unfold f_X12_firstDay_b2_s at hf
      refine lv_iload_n hx hb dX12_firstDay_2 rfl (lv_at hl 2 rfl) ?_
      refine lv_bipush (v := (60 : Int32)) hx hb dX12_firstDay_3 (by decide) ?_
      refine lv_icmp_gt (tgt := 31) hx hb dX12_firstDay_5 (by decide) (fun h => ?_) (fun h => ?_)
      · have hf := k_ifT h hf
        refine lv_iconst (v := (-1 : Int32)) hx hb dX12_firstDay_31 (by decide) ?_
        exact k_iret C hw hf dX12_firstDay_32
      · have hf := k_ifF h hf
        refine lv_aload_n hx hb dX12_firstDay_8 rfl (lv_at hl 0 rfl) ?_
        refine k_get C hw (LM_0 LM) (ci := 12) rfl k_in12 55 (by decide) lk12_111 (v := .ref (ad 30)) rfl dX12_firstDay_9 ?_
        refine lv_bipush (v := (8 : Int32)) hx hb dX12_firstDay_12 (by decide) ?_
        refine lv_iload_n hx hb dX12_firstDay_14 rfl (lv_at hl 2 rfl) ?_
        refine lv_imul hx hb dX12_firstDay_15 ?_
        refine lv_iload_n hx hb dX12_firstDay_16 rfl (lv_at hl 1 rfl) ?_
        refine lv_iadd hx hb dX12_firstDay_17 ?_
        obtain ⟨hi, hf⟩ := k_ckE hf
        refine k_iald C hw (LM_30 LM) hi dX12_firstDay_18 ?_
        refine lv_iconst (v := (-1 : Int32)) hx hb dX12_firstDay_19 (by decide) ?_
        refine lv_icmp_eq (tgt := 25) hx hb dX12_firstDay_20 (by decide) (fun h => ?_) (fun h => ?_)
        · have hf := k_ifT h hf
          obtain ⟨u1, ex⟩ : ∃ y : Int32, y = (x2 + (1 : Int32)) := ⟨_, rfl⟩
          have hf := k_nmE ex hf
          refine lv_iinc (v := u1) (lv' := [(2, .int u1), (0, .ref (ad 0)), (1, .int x1)]) hx hb dX12_firstDay_25 hl (k := 2) rfl (by rw [ex]; rfl) (by decide) rfl (fun ls hl => ?_)
          refine lv_goto (tgt := 2) hx hb dX12_firstDay_28 (by decide) ?_
          exact ih2 x1 u1 σ _ _ _ (lv_sub hl [1, 2, 0] rfl) hw hf
        · have hf := k_ifF h hf
          refine lv_iload_n hx hb dX12_firstDay_23 rfl (lv_at hl 2 rfl) ?_
          exact k_iret C hw hf dX12_firstDay_24
  unfold f_X12_firstDay at hf
  refine lv_iconst (v := (0 : Int32)) hx hb dX12_firstDay_0 (by decide) ?_
  refine lv_istore_n (lv' := [(2, .int (0 : Int32)), (0, .ref (ad 0)), (1, .int p1)]) hx hb dX12_firstDay_1 rfl hl (by decide) rfl (fun ls hl => ?_)
  exact b2 FU p1 (0 : Int32) σ _ _ _ (lv_sub hl [1, 2, 0] rfl) hw hf
def f_X12_way_b70  (y0 : Int32) (σ : MSt) : Option (Int32 × MSt) :=
  some (y0, σ)
def f_X12_way_b22   (σ : MSt) : Option (Int32 × MSt) :=
  some ((-1 : Int32), σ)
def f_X12_way  (p1 : Int32) (p2 : Int32) (σ : MSt) : Option (Int32 × MSt) :=
  k_nm (mI σ 0 0 (0 : Int32)) fun σ1 =>
  k_bd (f_X12_isBay p1 σ1) fun q3 σ2 =>
  if q3 = 0 then
  (f_X12_way_b22 σ2)
  else
  (if p2 < 0 then
  (f_X12_way_b22 σ2)
  else
  (if p2 ≤ (1 : Int32) then
  (k_bv (f_X12_layWays σ2) fun σ4 =>
  k_bd (f_X12_firstDay p1 σ4) fun q6 σ5 =>
  if q6 = (-1 : Int32) then
  (f_X12_way_b70 (-2 : Int32) σ5)
  else
  (if p2 = 0 then
  (k_ck (k_inb (0 : Int32) 24) <|
  f_X12_way_b70 ((σ5.1 17 ((0 : Int32)).toNatClampNeg) + q6) σ5)
  else
  (k_ck (k_inb (((8 : Int32) * q6) + p1) 504) <|
  f_X12_way_b70 (σ5.1 30 ((((8 : Int32) * q6) + p1)).toNatClampNeg) σ5)))
  else
  (f_X12_way_b22 σ2)))
def rmX12_way : Room := { frames := 8, cells := 0, slots := 0, locals := 196 }
set_option maxHeartbeats 4000000 in
set_option maxRecDepth 100000 in
theorem c_X12_way (l : Launch) (G : va_G) (Y : CY) (w : MSt → va_W) (ad : Nat → Nat)  (LM : LayM ad w Y) (p1 : Int32) (p2 : Int32) (σ : MSt) (r : Int32) (σ' : MSt) (hf : f_X12_way p1 p2 σ = some (r, σ')) : k_Mi l yX12_way wsX12_way rmX12_way G Y w [.ref (ad 0), .int p1, .int p2] σ r σ' := by
  refine k_ofi (own := RX12) (cc := cX12_way) (maxL := 4) (some .int) (by decide) rfl rfl (Nat.le_of_ble_eq_true rfl) ?_
  intro p e s m below meth c A C ls hl hw
  have hx := C.1
  have hb := C.2.1
  have hown := C.2.2.2.2.1
  have hts := C.2.2.2.2.2.1
  have hks := C.2.2.2.2.2.2.1
  have hl : lv_has ls 4 [(0, .ref (ad 0)), (1, .int p1), (2, .int p2)] := hl
  have b70 : ∀ (y0 : Int32) (σ : MSt) (H : Heap) (locs : List Loc) (ls : Array Slot), lv_has ls 4 [] → k_W G w A s.heap σ H locs → f_X12_way_b70 y0 σ = some (r, σ') → W p l e rmX12_way s m [.ref (ad 0), .int p1, .int p2].toArray below meth c H locs 0 0 (MQ below (k_Qi G w A r σ') [.ref (ad 0), .int p1, .int p2].toArray s 0 0 A) (F0 m 70 ls [.int y0]) := by
    intro y0 σ H locs ls hl hw hf
    unfold f_X12_way_b70 at hf
    exact k_iret C hw hf dX12_way_70
  have b22 : ∀ (σ : MSt) (H : Heap) (locs : List Loc) (ls : Array Slot), lv_has ls 4 [] → k_W G w A s.heap σ H locs → f_X12_way_b22 σ = some (r, σ') → W p l e rmX12_way s m [.ref (ad 0), .int p1, .int p2].toArray below meth c H locs 0 0 (MQ below (k_Qi G w A r σ') [.ref (ad 0), .int p1, .int p2].toArray s 0 0 A) (F0 m 22 ls []) := by
    intro σ H locs ls hl hw hf
    unfold f_X12_way_b22 at hf
    refine lv_iconst (v := (-1 : Int32)) hx hb dX12_way_22 (by decide) ?_
    exact k_iret C hw hf dX12_way_23
  unfold f_X12_way at hf
  refine lv_aload_n hx hb dX12_way_0 rfl (lv_at hl 0 rfl) ?_
  refine lv_iconst (v := (0 : Int32)) hx hb dX12_way_1 (by decide) ?_
  refine k_put C hw (LM_0 LM) (ci := 12) rfl k_in12 tyX12 tyX12_ok nmX12 0 (by decide) lk12_145 rfl ⟨rfl, rfl⟩ rfl dX12_way_2 (fun σ1 eq H locs hw => ?_)
  have hf := k_nmE eq hf
  refine lv_aload_n hx hb dX12_way_5 rfl (lv_at hl 0 rfl) ?_
  refine lv_iload_n hx hb dX12_way_6 rfl (lv_at hl 1 rfl) ?_
  obtain ⟨q3, σ2, hq, hf⟩ := k_bdE hf
  refine k_callVi C hw (c_X12_isBay l G Y w ad LM p1 σ1 q3 σ2 hq) (cwV 1 hts gX12_way_X12_isBay rfl rfl rfl (by decide +kernel) ⟨Nat.le_of_ble_eq_true rfl, Nat.le_of_ble_eq_true rfl⟩) (k_recv C hw (LM_0 LM) rfl) rfl hl.1 rfl (Nat.le_of_ble_eq_true rfl) dX12_way_7 (fun H locs hw => ?_)
  refine lv_if_eq (tgt := 22) hx hb dX12_way_10 (by decide) (fun h => ?_) (fun h => ?_)
  · have hf := k_ifT h hf
    exact b22 σ2 _ _ _ (lv_sub hl [] rfl) hw hf
  · have hf := k_ifF h hf
    refine lv_iload_n hx hb dX12_way_13 rfl (lv_at hl 2 rfl) ?_
    refine lv_if_lt (tgt := 22) hx hb dX12_way_14 (by decide) (fun h => ?_) (fun h => ?_)
    · have hf := k_ifT h hf
      exact b22 σ2 _ _ _ (lv_sub hl [] rfl) hw hf
    · have hf := k_ifF h hf
      refine lv_iload_n hx hb dX12_way_17 rfl (lv_at hl 2 rfl) ?_
      refine lv_iconst (v := (1 : Int32)) hx hb dX12_way_18 (by decide) ?_
      refine lv_icmp_le (tgt := 24) hx hb dX12_way_19 (by decide) (fun h => ?_) (fun h => ?_)
      · have hf := k_ifT h hf
        refine lv_aload_n hx hb dX12_way_24 rfl (lv_at hl 0 rfl) ?_
        obtain ⟨σ4, hq, hf⟩ := k_bvE hf
        refine k_callVv C hw (c_X12_layWays l G Y w ad LM σ2 σ4 hq) (cwV 0 hts gX12_way_X12_layWays rfl rfl rfl (by decide +kernel) ⟨Nat.le_of_ble_eq_true rfl, Nat.le_of_ble_eq_true rfl⟩) (k_recv C hw (LM_0 LM) rfl) rfl hl.1 rfl (Nat.le_of_ble_eq_true rfl) dX12_way_25 (fun H locs hw => ?_)
        refine lv_aload_n hx hb dX12_way_28 rfl (lv_at hl 0 rfl) ?_
        refine lv_iload_n hx hb dX12_way_29 rfl (lv_at hl 1 rfl) ?_
        obtain ⟨q6, σ5, hq, hf⟩ := k_bdE hf
        refine k_callVi C hw (c_X12_firstDay l G Y w ad LM p1 σ4 q6 σ5 hq) (cwV 1 hts gX12_way_X12_firstDay rfl rfl rfl (by decide +kernel) ⟨Nat.le_of_ble_eq_true rfl, Nat.le_of_ble_eq_true rfl⟩) (k_recv C hw (LM_0 LM) rfl) rfl hl.1 rfl (Nat.le_of_ble_eq_true rfl) dX12_way_30 (fun H locs hw => ?_)
        refine lv_istore_n (lv' := [(3, .int q6), (0, .ref (ad 0)), (1, .int p1), (2, .int p2)]) hx hb dX12_way_33 rfl hl (by decide) rfl (fun ls hl => ?_)
        refine lv_iload_n hx hb dX12_way_34 rfl (lv_at hl 0 rfl) ?_
        refine lv_iconst (v := (-1 : Int32)) hx hb dX12_way_35 (by decide) ?_
        refine lv_icmp_ne (tgt := 44) hx hb dX12_way_36 (by decide) (fun h => ?_) (fun h => ?_)
        · have hf := k_ifF h hf
          refine lv_iload_n hx hb dX12_way_44 rfl (lv_at hl 3 rfl) ?_
          refine lv_if_ne (tgt := 59) hx hb dX12_way_45 (by decide) (fun h => ?_) (fun h => ?_)
          · have hf := k_ifF h hf
            refine lv_aload_n hx hb dX12_way_59 rfl (lv_at hl 1 rfl) ?_
            refine k_get C hw (LM_0 LM) (ci := 12) rfl k_in12 55 (by decide) lk12_111 (v := .ref (ad 30)) rfl dX12_way_60 ?_
            refine lv_bipush (v := (8 : Int32)) hx hb dX12_way_63 (by decide) ?_
            refine lv_iload_n hx hb dX12_way_65 rfl (lv_at hl 0 rfl) ?_
            refine lv_imul hx hb dX12_way_66 ?_
            refine lv_iload_n hx hb dX12_way_67 rfl (lv_at hl 2 rfl) ?_
            refine lv_iadd hx hb dX12_way_68 ?_
            obtain ⟨hi, hf⟩ := k_ckE hf
            refine k_iald C hw (LM_30 LM) hi dX12_way_69 ?_
            exact b70 (σ5.1 30 ((((8 : Int32) * q6) + p1)).toNatClampNeg) σ5 _ _ _ (lv_sub hl [] rfl) hw hf
          · have hf := k_ifT h hf
            refine lv_aload_n hx hb dX12_way_48 rfl (lv_at hl 1 rfl) ?_
            refine k_get C hw (LM_0 LM) (ci := 12) rfl k_in12 32 (by decide) lk12_63 (v := .ref (ad 17)) rfl dX12_way_49 ?_
            refine lv_iconst (v := (0 : Int32)) hx hb dX12_way_52 (by decide) ?_
            obtain ⟨hi, hf⟩ := k_ckE hf
            refine k_iald C hw (LM_17 LM) hi dX12_way_53 ?_
            refine lv_iload_n hx hb dX12_way_54 rfl (lv_at hl 0 rfl) ?_
            refine lv_iadd hx hb dX12_way_55 ?_
            refine lv_goto (tgt := 70) hx hb dX12_way_56 (by decide) ?_
            exact b70 ((σ5.1 17 ((0 : Int32)).toNatClampNeg) + q6) σ5 _ _ _ (lv_sub hl [] rfl) hw hf
        · have hf := k_ifT h hf
          refine lv_bipush (v := (-2 : Int32)) hx hb dX12_way_39 (by decide) ?_
          refine lv_goto (tgt := 70) hx hb dX12_way_41 (by decide) ?_
          exact b70 (-2 : Int32) σ5 _ _ _ (lv_sub hl [] rfl) hw hf
      · have hf := k_ifF h hf
        exact b22 σ2 _ _ _ (lv_sub hl [] rfl) hw hf
def f_X12_never_b40  (r13 : Int32 → Int32 → MSt → Option (Int32 × MSt)) (x2 : Int32) (y0 : Int32) (y1 : Int32) (σ : MSt) : Option (Int32 × MSt) :=
  k_nm (y0 ||| y1) fun u1 =>
  k_nm (x2 + (1 : Int32)) fun u2 =>
  r13 u1 u2 σ
def f_X12_never_b13_s  (r13 : Int32 → Int32 → MSt → Option (Int32 × MSt)) (x1 : Int32) (x2 : Int32) (σ : MSt) : Option (Int32 × MSt) :=
  k_ck (k_inb (0 : Int32) 18) <|
  if (σ.1 2 ((0 : Int32)).toNatClampNeg) ≤ x2 then
  (some (x1, σ))
  else
  (k_bd (f_X12_firstDay x2 σ) fun q2 σ1 =>
  if q2 = (-1 : Int32) then
  (f_X12_never_b40 r13 x2 x1 ((1 : Int32) <<< (x2 &&& 31)) σ1)
  else
  (f_X12_never_b40 r13 x2 x1 (0 : Int32) σ1))
def f_X12_never_b13  : Nat → Int32 → Int32 → MSt → Option (Int32 × MSt)
  | 0 => fun _ _ _ => none
  | n + 1 => f_X12_never_b13_s (f_X12_never_b13 n)
def f_X12_never   (σ : MSt) : Option (Int32 × MSt) :=
  k_nm (mI σ 0 0 (0 : Int32)) fun σ3 =>
  k_bv (f_X12_layWays σ3) fun σ4 =>
  f_X12_never_b13 FU (0 : Int32) (0 : Int32) σ4
def rmX12_never : Room := { frames := 8, cells := 0, slots := 0, locals := 196 }
set_option maxHeartbeats 4000000 in
set_option maxRecDepth 100000 in
theorem c_X12_never (l : Launch) (G : va_G) (Y : CY) (w : MSt → va_W) (ad : Nat → Nat)  (LM : LayM ad w Y)  (σ : MSt) (r : Int32) (σ' : MSt) (hf : f_X12_never σ = some (r, σ')) : k_Mi l yX12_never wsX12_never rmX12_never G Y w [.ref (ad 0)] σ r σ' := by
  refine k_ofi (own := RX12) (cc := cX12_never) (maxL := 3) (some .int) (by decide) rfl rfl (Nat.le_of_ble_eq_true rfl) ?_
  intro p e s m below meth c A C ls hl hw
  have hx := C.1
  have hb := C.2.1
  have hown := C.2.2.2.2.1
  have hts := C.2.2.2.2.2.1
  have hks := C.2.2.2.2.2.2.1
  have hl : lv_has ls 3 [(0, .ref (ad 0))] := hl
  have b13 : ∀ (n13 : Nat) (x1 : Int32) (x2 : Int32) (σ : MSt) (H : Heap) (locs : List Loc) (ls : Array Slot), lv_has ls 3 [(0, .ref (ad 0)), (1, .int x1), (2, .int x2)] → k_W G w A s.heap σ H locs → f_X12_never_b13 n13 x1 x2 σ = some (r, σ') → W p l e rmX12_never s m [.ref (ad 0)].toArray below meth c H locs 0 0 (MQ below (k_Qi G w A r σ') [.ref (ad 0)].toArray s 0 0 A) (F0 m 13 ls []) := by
    intro n13
    induction n13 with
    | zero =>
      intro x1 x2 σ H locs ls hl hw hf
      have hf : (none : Option (Int32 × MSt)) = some (r, σ') := hf
      cases hf
    | succ n13 ih13 =>
      have b40 : ∀ (x2 : Int32) (y0 : Int32) (y1 : Int32) (σ : MSt) (H : Heap) (locs : List Loc) (ls : Array Slot), lv_has ls 3 [(0, .ref (ad 0)), (2, .int x2)] → k_W G w A s.heap σ H locs → f_X12_never_b40 (f_X12_never_b13 n13) x2 y0 y1 σ = some (r, σ') → W p l e rmX12_never s m [.ref (ad 0)].toArray below meth c H locs 0 0 (MQ below (k_Qi G w A r σ') [.ref (ad 0)].toArray s 0 0 A) (F0 m 40 ls [.int y1, .int y0]) := by
        intro x2 y0 y1 σ H locs ls hl hw hf
        unfold f_X12_never_b40 at hf
        refine lv_ior hx hb dX12_never_40 ?_
        refine lv_topi (fun u1 ex => ?_)
        have hf := k_nmE ex hf
        refine lv_istore_n (lv' := [(1, .int u1), (0, .ref (ad 0)), (2, .int x2)]) hx hb dX12_never_41 rfl hl (by decide) rfl (fun ls hl => ?_)
        obtain ⟨u2, ex⟩ : ∃ y : Int32, y = (x2 + (1 : Int32)) := ⟨_, rfl⟩
        have hf := k_nmE ex hf
        refine lv_iinc (v := u2) (lv' := [(2, .int u2), (1, .int u1), (0, .ref (ad 0))]) hx hb dX12_never_42 hl (k := 2) rfl (by rw [ex]; rfl) (by decide) rfl (fun ls hl => ?_)
        refine lv_goto (tgt := 13) hx hb dX12_never_45 (by decide) ?_
        exact ih13 u1 u2 σ _ _ _ (lv_sub hl [2, 1, 0] rfl) hw hf
      intro x1 x2 σ H locs ls hl hw hf
      have hf : f_X12_never_b13_s (f_X12_never_b13 n13) x1 x2 σ = some (r, σ') := hf
      unfold f_X12_never_b13_s at hf
      refine lv_iload_n hx hb dX12_never_13 rfl (lv_at hl 2 rfl) ?_
      refine lv_aload_n hx hb dX12_never_14 rfl (lv_at hl 0 rfl) ?_
      refine k_get C hw (LM_0 LM) (ci := 12) rfl k_in12 3 (by decide) lk12_13 (v := .ref (ad 2)) rfl dX12_never_15 ?_
      refine lv_iconst (v := (0 : Int32)) hx hb dX12_never_18 (by decide) ?_
      obtain ⟨hi, hf⟩ := k_ckE hf
      refine k_iald C hw (LM_2 LM) hi dX12_never_19 ?_
      refine lv_icmp_ge (tgt := 48) hx hb dX12_never_20 (by decide) (fun h => ?_) (fun h => ?_)
      · have hf := k_ifT h hf
        refine lv_iload_n hx hb dX12_never_48 rfl (lv_at hl 1 rfl) ?_
        exact k_iret C hw hf dX12_never_49
      · have hf := k_ifF h hf
        refine lv_iload_n hx hb dX12_never_23 rfl (lv_at hl 1 rfl) ?_
        refine lv_aload_n hx hb dX12_never_24 rfl (lv_at hl 0 rfl) ?_
        refine lv_iload_n hx hb dX12_never_25 rfl (lv_at hl 2 rfl) ?_
        obtain ⟨q2, σ1, hq, hf⟩ := k_bdE hf
        refine k_callVi C hw (c_X12_firstDay l G Y w ad LM x2 σ q2 σ1 hq) (cwV 1 hts gX12_never_X12_firstDay rfl rfl rfl (by decide +kernel) ⟨Nat.le_of_ble_eq_true rfl, Nat.le_of_ble_eq_true rfl⟩) (k_recv C hw (LM_0 LM) rfl) rfl hl.1 rfl (Nat.le_of_ble_eq_true rfl) dX12_never_26 (fun H locs hw => ?_)
        refine lv_iconst (v := (-1 : Int32)) hx hb dX12_never_29 (by decide) ?_
        refine lv_icmp_ne (tgt := 39) hx hb dX12_never_30 (by decide) (fun h => ?_) (fun h => ?_)
        · have hf := k_ifF h hf
          refine lv_iconst (v := (0 : Int32)) hx hb dX12_never_39 (by decide) ?_
          exact b40 x2 x1 (0 : Int32) σ1 _ _ _ (lv_sub hl [0, 2] rfl) hw hf
        · have hf := k_ifT h hf
          refine lv_iconst (v := (1 : Int32)) hx hb dX12_never_33 (by decide) ?_
          refine lv_iload_n hx hb dX12_never_34 rfl (lv_at hl 2 rfl) ?_
          refine lv_ishl hx hb dX12_never_35 ?_
          refine lv_goto (tgt := 40) hx hb dX12_never_36 (by decide) ?_
          exact b40 x2 x1 ((1 : Int32) <<< (x2 &&& 31)) σ1 _ _ _ (lv_sub hl [0, 2] rfl) hw hf
  unfold f_X12_never at hf
  refine lv_aload_n hx hb dX12_never_0 rfl (lv_at hl 0 rfl) ?_
  refine lv_iconst (v := (0 : Int32)) hx hb dX12_never_1 (by decide) ?_
  refine k_put C hw (LM_0 LM) (ci := 12) rfl k_in12 tyX12 tyX12_ok nmX12 0 (by decide) lk12_145 rfl ⟨rfl, rfl⟩ rfl dX12_never_2 (fun σ3 eq H locs hw => ?_)
  have hf := k_nmE eq hf
  refine lv_aload_n hx hb dX12_never_5 rfl (lv_at hl 0 rfl) ?_
  obtain ⟨σ4, hq, hf⟩ := k_bvE hf
  refine k_callVv C hw (c_X12_layWays l G Y w ad LM σ3 σ4 hq) (cwV 0 hts gX12_never_X12_layWays rfl rfl rfl (by decide +kernel) ⟨Nat.le_of_ble_eq_true rfl, Nat.le_of_ble_eq_true rfl⟩) (k_recv C hw (LM_0 LM) rfl) rfl hl.1 rfl (Nat.le_of_ble_eq_true rfl) dX12_never_6 (fun H locs hw => ?_)
  refine lv_iconst (v := (0 : Int32)) hx hb dX12_never_9 (by decide) ?_
  refine lv_istore_n (lv' := [(1, .int (0 : Int32)), (0, .ref (ad 0))]) hx hb dX12_never_10 rfl hl (by decide) rfl (fun ls hl => ?_)
  refine lv_iconst (v := (0 : Int32)) hx hb dX12_never_11 (by decide) ?_
  refine lv_istore_n (lv' := [(2, .int (0 : Int32)), (1, .int (0 : Int32)), (0, .ref (ad 0))]) hx hb dX12_never_12 rfl hl (by decide) rfl (fun ls hl => ?_)
  exact b13 FU (0 : Int32) (0 : Int32) σ4 _ _ _ (lv_sub hl [2, 1, 0] rfl) hw hf
def f_X12_kindness_b25_s  (r25 : Int32 → Int32 → Int32 → MSt → Option (Int32 × MSt)) (x1 : Int32) (x2 : Int32) (x3 : Int32) (σ : MSt) : Option (Int32 × MSt) :=
  if (9 : Int32) < x3 then
  (some ((-2 : Int32), σ))
  else
  (k_bd (f_X12_willHold (0 : Int32) x1 x2 x3 σ) fun q2 σ1 =>
  if q2 = 0 then
  (k_nm (x3 + (1 : Int32)) fun u3 =>
  r25 x1 x2 u3 σ1)
  else
  (some (x3, σ1)))
def f_X12_kindness_b25  : Nat → Int32 → Int32 → Int32 → MSt → Option (Int32 × MSt)
  | 0 => fun _ _ _ _ => none
  | n + 1 => f_X12_kindness_b25_s (f_X12_kindness_b25 n)
def f_X12_kindness_b21   (σ : MSt) : Option (Int32 × MSt) :=
  some ((-1 : Int32), σ)
def f_X12_kindness  (p1 : Int32) (p2 : Int32) (σ : MSt) : Option (Int32 × MSt) :=
  k_nm (mI σ 0 0 (0 : Int32)) fun σ1 =>
  k_bd (f_X12_isBay p1 σ1) fun q3 σ2 =>
  if q3 = 0 then
  (f_X12_kindness_b21 σ2)
  else
  (k_bd (f_X12_isAhead p2 σ2) fun q5 σ4 =>
  if q5 = 0 then
  (f_X12_kindness_b21 σ4)
  else
  (f_X12_kindness_b25 FU p1 p2 (0 : Int32) σ4))
def rmX12_kindness : Room := { frames := 6, cells := 0, slots := 0, locals := 148 }
set_option maxHeartbeats 4000000 in
set_option maxRecDepth 100000 in
theorem c_X12_kindness (l : Launch) (G : va_G) (Y : CY) (w : MSt → va_W) (ad : Nat → Nat)  (LM : LayM ad w Y) (p1 : Int32) (p2 : Int32) (σ : MSt) (r : Int32) (σ' : MSt) (hf : f_X12_kindness p1 p2 σ = some (r, σ')) : k_Mi l yX12_kindness wsX12_kindness rmX12_kindness G Y w [.ref (ad 0), .int p1, .int p2] σ r σ' := by
  refine k_ofi (own := RX12) (cc := cX12_kindness) (maxL := 4) (some .int) (by decide) rfl rfl (Nat.le_of_ble_eq_true rfl) ?_
  intro p e s m below meth c A C ls hl hw
  have hx := C.1
  have hb := C.2.1
  have hown := C.2.2.2.2.1
  have hts := C.2.2.2.2.2.1
  have hks := C.2.2.2.2.2.2.1
  have hl : lv_has ls 4 [(0, .ref (ad 0)), (1, .int p1), (2, .int p2)] := hl
  have b25 : ∀ (n25 : Nat) (x1 : Int32) (x2 : Int32) (x3 : Int32) (σ : MSt) (H : Heap) (locs : List Loc) (ls : Array Slot), lv_has ls 4 [(0, .ref (ad 0)), (1, .int x1), (2, .int x2), (3, .int x3)] → k_W G w A s.heap σ H locs → f_X12_kindness_b25 n25 x1 x2 x3 σ = some (r, σ') → W p l e rmX12_kindness s m [.ref (ad 0), .int p1, .int p2].toArray below meth c H locs 0 0 (MQ below (k_Qi G w A r σ') [.ref (ad 0), .int p1, .int p2].toArray s 0 0 A) (F0 m 25 ls []) := by
    intro n25
    induction n25 with
    | zero =>
      intro x1 x2 x3 σ H locs ls hl hw hf
      have hf : (none : Option (Int32 × MSt)) = some (r, σ') := hf
      cases hf
    | succ n25 ih25 =>
      intro x1 x2 x3 σ H locs ls hl hw hf
      have hf : f_X12_kindness_b25_s (f_X12_kindness_b25 n25) x1 x2 x3 σ = some (r, σ') := hf
      unfold f_X12_kindness_b25_s at hf
      refine lv_iload_n hx hb dX12_kindness_25 rfl (lv_at hl 3 rfl) ?_
      refine lv_bipush (v := (9 : Int32)) hx hb dX12_kindness_26 (by decide) ?_
      refine lv_icmp_gt (tgt := 50) hx hb dX12_kindness_28 (by decide) (fun h => ?_) (fun h => ?_)
      · have hf := k_ifT h hf
        refine lv_bipush (v := (-2 : Int32)) hx hb dX12_kindness_50 (by decide) ?_
        exact k_iret C hw hf dX12_kindness_52
      · have hf := k_ifF h hf
        refine lv_aload_n hx hb dX12_kindness_31 rfl (lv_at hl 0 rfl) ?_
        refine lv_iconst (v := (0 : Int32)) hx hb dX12_kindness_32 (by decide) ?_
        refine lv_iload_n hx hb dX12_kindness_33 rfl (lv_at hl 1 rfl) ?_
        refine lv_iload_n hx hb dX12_kindness_34 rfl (lv_at hl 2 rfl) ?_
        refine lv_iload_n hx hb dX12_kindness_35 rfl (lv_at hl 3 rfl) ?_
        obtain ⟨q2, σ1, hq, hf⟩ := k_bdE hf
        refine k_callVi C hw (c_X12_willHold l G Y w ad LM (0 : Int32) x1 x2 x3 σ q2 σ1 hq) (cwV 4 hts gX12_kindness_X12_willHold rfl rfl rfl (by decide +kernel) ⟨Nat.le_of_ble_eq_true rfl, Nat.le_of_ble_eq_true rfl⟩) (k_recv C hw (LM_0 LM) rfl) rfl hl.1 rfl (Nat.le_of_ble_eq_true rfl) dX12_kindness_36 (fun H locs hw => ?_)
        refine lv_if_eq (tgt := 44) hx hb dX12_kindness_39 (by decide) (fun h => ?_) (fun h => ?_)
        · have hf := k_ifT h hf
          obtain ⟨u3, ex⟩ : ∃ y : Int32, y = (x3 + (1 : Int32)) := ⟨_, rfl⟩
          have hf := k_nmE ex hf
          refine lv_iinc (v := u3) (lv' := [(3, .int u3), (0, .ref (ad 0)), (1, .int x1), (2, .int x2)]) hx hb dX12_kindness_44 hl (k := 3) rfl (by rw [ex]; rfl) (by decide) rfl (fun ls hl => ?_)
          refine lv_goto (tgt := 25) hx hb dX12_kindness_47 (by decide) ?_
          exact ih25 x1 x2 u3 σ1 _ _ _ (lv_sub hl [1, 2, 3, 0] rfl) hw hf
        · have hf := k_ifF h hf
          refine lv_iload_n hx hb dX12_kindness_42 rfl (lv_at hl 3 rfl) ?_
          exact k_iret C hw hf dX12_kindness_43
  have b21 : ∀ (σ : MSt) (H : Heap) (locs : List Loc) (ls : Array Slot), lv_has ls 4 [] → k_W G w A s.heap σ H locs → f_X12_kindness_b21 σ = some (r, σ') → W p l e rmX12_kindness s m [.ref (ad 0), .int p1, .int p2].toArray below meth c H locs 0 0 (MQ below (k_Qi G w A r σ') [.ref (ad 0), .int p1, .int p2].toArray s 0 0 A) (F0 m 21 ls []) := by
    intro σ H locs ls hl hw hf
    unfold f_X12_kindness_b21 at hf
    refine lv_iconst (v := (-1 : Int32)) hx hb dX12_kindness_21 (by decide) ?_
    exact k_iret C hw hf dX12_kindness_22
  unfold f_X12_kindness at hf
  refine lv_aload_n hx hb dX12_kindness_0 rfl (lv_at hl 0 rfl) ?_
  refine lv_iconst (v := (0 : Int32)) hx hb dX12_kindness_1 (by decide) ?_
  refine k_put C hw (LM_0 LM) (ci := 12) rfl k_in12 tyX12 tyX12_ok nmX12 0 (by decide) lk12_145 rfl ⟨rfl, rfl⟩ rfl dX12_kindness_2 (fun σ1 eq H locs hw => ?_)
  have hf := k_nmE eq hf
  refine lv_aload_n hx hb dX12_kindness_5 rfl (lv_at hl 0 rfl) ?_
  refine lv_iload_n hx hb dX12_kindness_6 rfl (lv_at hl 1 rfl) ?_
  obtain ⟨q3, σ2, hq, hf⟩ := k_bdE hf
  refine k_callVi C hw (c_X12_isBay l G Y w ad LM p1 σ1 q3 σ2 hq) (cwV 1 hts gX12_kindness_X12_isBay rfl rfl rfl (by decide +kernel) ⟨Nat.le_of_ble_eq_true rfl, Nat.le_of_ble_eq_true rfl⟩) (k_recv C hw (LM_0 LM) rfl) rfl hl.1 rfl (Nat.le_of_ble_eq_true rfl) dX12_kindness_7 (fun H locs hw => ?_)
  refine lv_if_eq (tgt := 21) hx hb dX12_kindness_10 (by decide) (fun h => ?_) (fun h => ?_)
  · have hf := k_ifT h hf
    exact b21 σ2 _ _ _ (lv_sub hl [] rfl) hw hf
  · have hf := k_ifF h hf
    refine lv_aload_n hx hb dX12_kindness_13 rfl (lv_at hl 0 rfl) ?_
    refine lv_iload_n hx hb dX12_kindness_14 rfl (lv_at hl 2 rfl) ?_
    obtain ⟨q5, σ4, hq, hf⟩ := k_bdE hf
    refine k_callVi C hw (c_X12_isAhead l G Y w ad LM p2 σ2 q5 σ4 hq) (cwV 1 hts gX12_kindness_X12_isAhead rfl rfl rfl (by decide +kernel) ⟨Nat.le_of_ble_eq_true rfl, Nat.le_of_ble_eq_true rfl⟩) (k_recv C hw (LM_0 LM) rfl) rfl hl.1 rfl (Nat.le_of_ble_eq_true rfl) dX12_kindness_15 (fun H locs hw => ?_)
    refine lv_if_ne (tgt := 23) hx hb dX12_kindness_18 (by decide) (fun h => ?_) (fun h => ?_)
    · have hf := k_ifF h hf
      refine lv_iconst (v := (0 : Int32)) hx hb dX12_kindness_23 (by decide) ?_
      refine lv_istore_n (lv' := [(3, .int (0 : Int32)), (0, .ref (ad 0)), (1, .int p1), (2, .int p2)]) hx hb dX12_kindness_24 rfl hl (by decide) rfl (fun ls hl => ?_)
      exact b25 FU p1 p2 (0 : Int32) σ4 _ _ _ (lv_sub hl [1, 2, 3, 0] rfl) hw hf
    · have hf := k_ifT h hf
      exact b21 σ4 _ _ _ (lv_sub hl [] rfl) hw hf
def f_X12_nightsIn_b36  (r5 : Int32 → Int32 → Int32 → Int32 → MSt → Option (Int32 × MSt)) (x1 : Int32) (x2 : Int32) (x4 : Int32) (y0 : Int32) (y1 : Int32) (σ : MSt) : Option (Int32 × MSt) :=
  k_nm (y0 + y1) fun u1 =>
  k_nm (x4 + (1 : Int32)) fun u2 =>
  r5 x1 x2 u1 u2 σ
def f_X12_nightsIn_b5_s  (r5 : Int32 → Int32 → Int32 → Int32 → MSt → Option (Int32 × MSt)) (x1 : Int32) (x2 : Int32) (x3 : Int32) (x4 : Int32) (σ : MSt) : Option (Int32 × MSt) :=
  if x2 ≤ x4 then
  (some (x3, σ))
  else
  (k_ck (k_inb (0 : Int32) 24) <|
  k_bd (f_X12_willHold (0 : Int32) x1 ((σ.1 17 ((0 : Int32)).toNatClampNeg) + x4) (-1 : Int32) σ) fun q2 σ1 =>
  if q2 = 0 then
  (f_X12_nightsIn_b36 r5 x1 x2 x4 x3 (0 : Int32) σ1)
  else
  (f_X12_nightsIn_b36 r5 x1 x2 x4 x3 (1 : Int32) σ1))
def f_X12_nightsIn_b5  : Nat → Int32 → Int32 → Int32 → Int32 → MSt → Option (Int32 × MSt)
  | 0 => fun _ _ _ _ _ => none
  | n + 1 => f_X12_nightsIn_b5_s (f_X12_nightsIn_b5 n)
def f_X12_nightsIn  (p1 : Int32) (p2 : Int32) (σ : MSt) : Option (Int32 × MSt) :=
  f_X12_nightsIn_b5 FU p1 p2 (0 : Int32) (0 : Int32) σ
def rmX12_nightsIn : Room := { frames := 6, cells := 0, slots := 0, locals := 148 }
set_option maxHeartbeats 4000000 in
set_option maxRecDepth 100000 in
theorem c_X12_nightsIn (l : Launch) (G : va_G) (Y : CY) (w : MSt → va_W) (ad : Nat → Nat)  (LM : LayM ad w Y) (p1 : Int32) (p2 : Int32) (σ : MSt) (r : Int32) (σ' : MSt) (hf : f_X12_nightsIn p1 p2 σ = some (r, σ')) : k_Mi l yX12_nightsIn wsX12_nightsIn rmX12_nightsIn G Y w [.ref (ad 0), .int p1, .int p2] σ r σ' := by
  refine k_ofi (own := RX12) (cc := cX12_nightsIn) (maxL := 5) (some .int) (by decide) rfl rfl (Nat.le_of_ble_eq_true rfl) ?_
  intro p e s m below meth c A C ls hl hw
  have hx := C.1
  have hb := C.2.1
  have hown := C.2.2.2.2.1
  have hts := C.2.2.2.2.2.1
  have hks := C.2.2.2.2.2.2.1
  have hl : lv_has ls 5 [(0, .ref (ad 0)), (1, .int p1), (2, .int p2)] := hl
  have b5 : ∀ (n5 : Nat) (x1 : Int32) (x2 : Int32) (x3 : Int32) (x4 : Int32) (σ : MSt) (H : Heap) (locs : List Loc) (ls : Array Slot), lv_has ls 5 [(0, .ref (ad 0)), (1, .int x1), (2, .int x2), (3, .int x3), (4, .int x4)] → k_W G w A s.heap σ H locs → f_X12_nightsIn_b5 n5 x1 x2 x3 x4 σ = some (r, σ') → W p l e rmX12_nightsIn s m [.ref (ad 0), .int p1, .int p2].toArray below meth c H locs 0 0 (MQ below (k_Qi G w A r σ') [.ref (ad 0), .int p1, .int p2].toArray s 0 0 A) (F0 m 5 ls []) := by
    intro n5
    induction n5 with
    | zero =>
      intro x1 x2 x3 x4 σ H locs ls hl hw hf
      have hf : (none : Option (Int32 × MSt)) = some (r, σ') := hf
      cases hf
    | succ n5 ih5 =>
      have b36 : ∀ (x1 : Int32) (x2 : Int32) (x4 : Int32) (y0 : Int32) (y1 : Int32) (σ : MSt) (H : Heap) (locs : List Loc) (ls : Array Slot), lv_has ls 5 [(0, .ref (ad 0)), (1, .int x1), (2, .int x2), (4, .int x4)] → k_W G w A s.heap σ H locs → f_X12_nightsIn_b36 (f_X12_nightsIn_b5 n5) x1 x2 x4 y0 y1 σ = some (r, σ') → W p l e rmX12_nightsIn s m [.ref (ad 0), .int p1, .int p2].toArray below meth c H locs 0 0 (MQ below (k_Qi G w A r σ') [.ref (ad 0), .int p1, .int p2].toArray s 0 0 A) (F0 m 36 ls [.int y1, .int y0]) := by
        intro x1 x2 x4 y0 y1 σ H locs ls hl hw hf
        unfold f_X12_nightsIn_b36 at hf
        refine lv_iadd hx hb dX12_nightsIn_36 ?_
        refine lv_topi (fun u1 ex => ?_)
        have hf := k_nmE ex hf
        refine lv_istore_n (lv' := [(3, .int u1), (0, .ref (ad 0)), (1, .int x1), (2, .int x2), (4, .int x4)]) hx hb dX12_nightsIn_37 rfl hl (by decide) rfl (fun ls hl => ?_)
        obtain ⟨u2, ex⟩ : ∃ y : Int32, y = (x4 + (1 : Int32)) := ⟨_, rfl⟩
        have hf := k_nmE ex hf
        refine lv_iinc (v := u2) (lv' := [(4, .int u2), (3, .int u1), (0, .ref (ad 0)), (1, .int x1), (2, .int x2)]) hx hb dX12_nightsIn_38 hl (k := 4) rfl (by rw [ex]; rfl) (by decide) rfl (fun ls hl => ?_)
        refine lv_goto (tgt := 5) hx hb dX12_nightsIn_41 (by decide) ?_
        exact ih5 x1 x2 u1 u2 σ _ _ _ (lv_sub hl [2, 3, 4, 1, 0] rfl) hw hf
      intro x1 x2 x3 x4 σ H locs ls hl hw hf
      have hf : f_X12_nightsIn_b5_s (f_X12_nightsIn_b5 n5) x1 x2 x3 x4 σ = some (r, σ') := hf
      unfold f_X12_nightsIn_b5_s at hf
      refine lv_iload hx hb dX12_nightsIn_5 (lv_at hl 4 rfl) ?_
      refine lv_iload_n hx hb dX12_nightsIn_7 rfl (lv_at hl 2 rfl) ?_
      refine lv_icmp_ge (tgt := 44) hx hb dX12_nightsIn_8 (by decide) (fun h => ?_) (fun h => ?_)
      · have hf := k_ifT h hf
        refine lv_iload_n hx hb dX12_nightsIn_44 rfl (lv_at hl 3 rfl) ?_
        exact k_iret C hw hf dX12_nightsIn_45
      · have hf := k_ifF h hf
        refine lv_iload_n hx hb dX12_nightsIn_11 rfl (lv_at hl 3 rfl) ?_
        refine lv_aload_n hx hb dX12_nightsIn_12 rfl (lv_at hl 0 rfl) ?_
        refine lv_iconst (v := (0 : Int32)) hx hb dX12_nightsIn_13 (by decide) ?_
        refine lv_iload_n hx hb dX12_nightsIn_14 rfl (lv_at hl 1 rfl) ?_
        refine lv_aload_n hx hb dX12_nightsIn_15 rfl (lv_at hl 0 rfl) ?_
        refine k_get C hw (LM_0 LM) (ci := 12) rfl k_in12 32 (by decide) lk12_63 (v := .ref (ad 17)) rfl dX12_nightsIn_16 ?_
        refine lv_iconst (v := (0 : Int32)) hx hb dX12_nightsIn_19 (by decide) ?_
        obtain ⟨hi, hf⟩ := k_ckE hf
        refine k_iald C hw (LM_17 LM) hi dX12_nightsIn_20 ?_
        refine lv_iload hx hb dX12_nightsIn_21 (lv_at hl 4 rfl) ?_
        refine lv_iadd hx hb dX12_nightsIn_23 ?_
        refine lv_iconst (v := (-1 : Int32)) hx hb dX12_nightsIn_24 (by decide) ?_
        obtain ⟨q2, σ1, hq, hf⟩ := k_bdE hf
        refine k_callVi C hw (c_X12_willHold l G Y w ad LM (0 : Int32) x1 ((σ.1 17 ((0 : Int32)).toNatClampNeg) + x4) (-1 : Int32) σ q2 σ1 hq) (cwV 4 hts gX12_nightsIn_X12_willHold rfl rfl rfl (by decide +kernel) ⟨Nat.le_of_ble_eq_true rfl, Nat.le_of_ble_eq_true rfl⟩) (k_recv C hw (LM_0 LM) rfl) rfl hl.1 rfl (Nat.le_of_ble_eq_true rfl) dX12_nightsIn_25 (fun H locs hw => ?_)
        refine lv_if_eq (tgt := 35) hx hb dX12_nightsIn_28 (by decide) (fun h => ?_) (fun h => ?_)
        · have hf := k_ifT h hf
          refine lv_iconst (v := (0 : Int32)) hx hb dX12_nightsIn_35 (by decide) ?_
          exact b36 x1 x2 x4 x3 (0 : Int32) σ1 _ _ _ (lv_sub hl [0, 1, 2, 4] rfl) hw hf
        · have hf := k_ifF h hf
          refine lv_iconst (v := (1 : Int32)) hx hb dX12_nightsIn_31 (by decide) ?_
          refine lv_goto (tgt := 36) hx hb dX12_nightsIn_32 (by decide) ?_
          exact b36 x1 x2 x4 x3 (1 : Int32) σ1 _ _ _ (lv_sub hl [0, 1, 2, 4] rfl) hw hf
  unfold f_X12_nightsIn at hf
  refine lv_iconst (v := (0 : Int32)) hx hb dX12_nightsIn_0 (by decide) ?_
  refine lv_istore_n (lv' := [(3, .int (0 : Int32)), (0, .ref (ad 0)), (1, .int p1), (2, .int p2)]) hx hb dX12_nightsIn_1 rfl hl (by decide) rfl (fun ls hl => ?_)
  refine lv_iconst (v := (0 : Int32)) hx hb dX12_nightsIn_2 (by decide) ?_
  refine lv_istore (lv' := [(4, .int (0 : Int32)), (3, .int (0 : Int32)), (0, .ref (ad 0)), (1, .int p1), (2, .int p2)]) hx hb dX12_nightsIn_3 hl (by decide) rfl (fun ls hl => ?_)
  exact b5 FU p1 p2 (0 : Int32) (0 : Int32) σ _ _ _ (lv_sub hl [2, 3, 4, 1, 0] rfl) hw hf
def f_X12_isNights_b25  (y0 : Int32) (σ : MSt) : Option (Int32 × MSt) :=
  k_ck (k_bo y0) <|
  some (y0, σ)
def f_X12_isNights_b24   (σ : MSt) : Option (Int32 × MSt) :=
  f_X12_isNights_b25 (0 : Int32) σ
def f_X12_isNights  (p1 : Int32) (σ : MSt) : Option (Int32 × MSt) :=
  if p1 < (1 : Int32) then
  (f_X12_isNights_b24 σ)
  else
  (if (60 : Int32) < p1 then
  (f_X12_isNights_b24 σ)
  else
  (k_ck (k_inb (0 : Int32) 18) <|
  if (σ.1 2 ((0 : Int32)).toNatClampNeg) ≤ 0 then
  (f_X12_isNights_b24 σ)
  else
  (f_X12_isNights_b25 (1 : Int32) σ)))
def rmX12_isNights : Room := { frames := 0, cells := 0, slots := 0, locals := 0 }
set_option maxHeartbeats 4000000 in
set_option maxRecDepth 100000 in
theorem c_X12_isNights (l : Launch) (G : va_G) (Y : CY) (w : MSt → va_W) (ad : Nat → Nat)  (LM : LayM ad w Y) (p1 : Int32) (σ : MSt) (r : Int32) (σ' : MSt) (hf : f_X12_isNights p1 σ = some (r, σ')) : k_Mi l yX12_isNights wsX12_isNights rmX12_isNights G Y w [.ref (ad 0), .int p1] σ r σ' := by
  refine k_ofi (own := RX12) (cc := cX12_isNights) (maxL := 2) (some .boolean) (by decide) rfl rfl (Nat.le_of_ble_eq_true rfl) ?_
  intro p e s m below meth c A C ls hl hw
  have hx := C.1
  have hb := C.2.1
  have hown := C.2.2.2.2.1
  have hts := C.2.2.2.2.2.1
  have hks := C.2.2.2.2.2.2.1
  have hl : lv_has ls 2 [(0, .ref (ad 0)), (1, .int p1)] := hl
  have b25 : ∀ (y0 : Int32) (σ : MSt) (H : Heap) (locs : List Loc) (ls : Array Slot), lv_has ls 2 [] → k_W G w A s.heap σ H locs → f_X12_isNights_b25 y0 σ = some (r, σ') → W p l e rmX12_isNights s m [.ref (ad 0), .int p1].toArray below meth c H locs 0 0 (MQ below (k_Qi G w A r σ') [.ref (ad 0), .int p1].toArray s 0 0 A) (F0 m 25 ls [.int y0]) := by
    intro y0 σ H locs ls hl hw hf
    unfold f_X12_isNights_b25 at hf
    obtain ⟨hz, hf⟩ := k_ckE hf
    exact k_zret C hw (k_boE hz).1 hf dX12_isNights_25
  have b24 : ∀ (σ : MSt) (H : Heap) (locs : List Loc) (ls : Array Slot), lv_has ls 2 [] → k_W G w A s.heap σ H locs → f_X12_isNights_b24 σ = some (r, σ') → W p l e rmX12_isNights s m [.ref (ad 0), .int p1].toArray below meth c H locs 0 0 (MQ below (k_Qi G w A r σ') [.ref (ad 0), .int p1].toArray s 0 0 A) (F0 m 24 ls []) := by
    intro σ H locs ls hl hw hf
    unfold f_X12_isNights_b24 at hf
    refine lv_iconst (v := (0 : Int32)) hx hb dX12_isNights_24 (by decide) ?_
    exact b25 (0 : Int32) σ _ _ _ (lv_sub hl [] rfl) hw hf
  unfold f_X12_isNights at hf
  refine lv_iload_n hx hb dX12_isNights_0 rfl (lv_at hl 1 rfl) ?_
  refine lv_iconst (v := (1 : Int32)) hx hb dX12_isNights_1 (by decide) ?_
  refine lv_icmp_lt (tgt := 24) hx hb dX12_isNights_2 (by decide) (fun h => ?_) (fun h => ?_)
  · have hf := k_ifT h hf
    exact b24 σ _ _ _ (lv_sub hl [] rfl) hw hf
  · have hf := k_ifF h hf
    refine lv_iload_n hx hb dX12_isNights_5 rfl (lv_at hl 1 rfl) ?_
    refine lv_bipush (v := (60 : Int32)) hx hb dX12_isNights_6 (by decide) ?_
    refine lv_icmp_gt (tgt := 24) hx hb dX12_isNights_8 (by decide) (fun h => ?_) (fun h => ?_)
    · have hf := k_ifT h hf
      exact b24 σ _ _ _ (lv_sub hl [] rfl) hw hf
    · have hf := k_ifF h hf
      refine lv_aload_n hx hb dX12_isNights_11 rfl (lv_at hl 0 rfl) ?_
      refine k_get C hw (LM_0 LM) (ci := 12) rfl k_in12 3 (by decide) lk12_13 (v := .ref (ad 2)) rfl dX12_isNights_12 ?_
      refine lv_iconst (v := (0 : Int32)) hx hb dX12_isNights_15 (by decide) ?_
      obtain ⟨hi, hf⟩ := k_ckE hf
      refine k_iald C hw (LM_2 LM) hi dX12_isNights_16 ?_
      refine lv_if_le (tgt := 24) hx hb dX12_isNights_17 (by decide) (fun h => ?_) (fun h => ?_)
      · have hf := k_ifT h hf
        exact b24 σ _ _ _ (lv_sub hl [] rfl) hw hf
      · have hf := k_ifF h hf
        refine lv_iconst (v := (1 : Int32)) hx hb dX12_isNights_20 (by decide) ?_
        refine lv_goto (tgt := 25) hx hb dX12_isNights_21 (by decide) ?_
        exact b25 (1 : Int32) σ _ _ _ (lv_sub hl [] rfl) hw hf
def f_X12_winter_b85  (y0 : Int32) (σ : MSt) : Option (Int32 × MSt) :=
  some (y0, σ)
def f_X12_winter_b69  (r32 : Int32 → Int32 → Int32 → Int32 → Int32 → MSt → Option (Int32 × MSt)) (x1 : Int32) (x2 : Int32) (x3 : Int32) (x4 : Int32) (x5 : Int32) (σ : MSt) : Option (Int32 × MSt) :=
  k_nm (x5 + (1 : Int32)) fun u1 =>
  r32 x1 x2 x3 x4 u1 σ
def f_X12_winter_b32_s  (r32 : Int32 → Int32 → Int32 → Int32 → Int32 → MSt → Option (Int32 × MSt)) (x1 : Int32) (x2 : Int32) (x3 : Int32) (x4 : Int32) (x5 : Int32) (σ : MSt) : Option (Int32 × MSt) :=
  k_ck (k_inb (0 : Int32) 18) <|
  if (σ.1 2 ((0 : Int32)).toNatClampNeg) ≤ x5 then
  (if x2 = 0 then
  (f_X12_winter_b85 x3 σ)
  else
  (f_X12_winter_b85 x4 σ))
  else
  (k_bd (f_X12_nightsIn x5 x1 σ) fun q2 σ1 =>
  if x4 < q2 then
  (f_X12_winter_b69 r32 x1 x2 x5 q2 x5 σ1)
  else
  (f_X12_winter_b69 r32 x1 x2 x3 x4 x5 σ1))
def f_X12_winter_b32  : Nat → Int32 → Int32 → Int32 → Int32 → Int32 → MSt → Option (Int32 × MSt)
  | 0 => fun _ _ _ _ _ _ => none
  | n + 1 => f_X12_winter_b32_s (f_X12_winter_b32 n)
def f_X12_winter_b22   (σ : MSt) : Option (Int32 × MSt) :=
  some ((-1 : Int32), σ)
def f_X12_winter  (p1 : Int32) (p2 : Int32) (σ : MSt) : Option (Int32 × MSt) :=
  k_nm (mI σ 0 0 (0 : Int32)) fun σ1 =>
  k_bd (f_X12_isNights p1 σ1) fun q3 σ2 =>
  if q3 = 0 then
  (f_X12_winter_b22 σ2)
  else
  (if p2 < 0 then
  (f_X12_winter_b22 σ2)
  else
  (if p2 ≤ (1 : Int32) then
  (f_X12_winter_b32 FU p1 p2 (0 : Int32) (-1 : Int32) (0 : Int32) σ2)
  else
  (f_X12_winter_b22 σ2)))
def rmX12_winter : Room := { frames := 7, cells := 0, slots := 0, locals := 172 }
set_option maxHeartbeats 4000000 in
set_option maxRecDepth 100000 in
theorem c_X12_winter (l : Launch) (G : va_G) (Y : CY) (w : MSt → va_W) (ad : Nat → Nat)  (LM : LayM ad w Y) (p1 : Int32) (p2 : Int32) (σ : MSt) (r : Int32) (σ' : MSt) (hf : f_X12_winter p1 p2 σ = some (r, σ')) : k_Mi l yX12_winter wsX12_winter rmX12_winter G Y w [.ref (ad 0), .int p1, .int p2] σ r σ' := by
  refine k_ofi (own := RX12) (cc := cX12_winter) (maxL := 7) (some .int) (by decide) rfl rfl (Nat.le_of_ble_eq_true rfl) ?_
  intro p e s m below meth c A C ls hl hw
  have hx := C.1
  have hb := C.2.1
  have hown := C.2.2.2.2.1
  have hts := C.2.2.2.2.2.1
  have hks := C.2.2.2.2.2.2.1
  have hl : lv_has ls 7 [(0, .ref (ad 0)), (1, .int p1), (2, .int p2)] := hl
  have b85 : ∀ (y0 : Int32) (σ : MSt) (H : Heap) (locs : List Loc) (ls : Array Slot), lv_has ls 7 [] → k_W G w A s.heap σ H locs → f_X12_winter_b85 y0 σ = some (r, σ') → W p l e rmX12_winter s m [.ref (ad 0), .int p1, .int p2].toArray below meth c H locs 0 0 (MQ below (k_Qi G w A r σ') [.ref (ad 0), .int p1, .int p2].toArray s 0 0 A) (F0 m 85 ls [.int y0]) := by
    intro y0 σ H locs ls hl hw hf
    unfold f_X12_winter_b85 at hf
    exact k_iret C hw hf dX12_winter_85
  have b32 : ∀ (n32 : Nat) (x1 : Int32) (x2 : Int32) (x3 : Int32) (x4 : Int32) (x5 : Int32) (σ : MSt) (H : Heap) (locs : List Loc) (ls : Array Slot), lv_has ls 7 [(0, .ref (ad 0)), (1, .int x1), (2, .int x2), (3, .int x3), (4, .int x4), (5, .int x5)] → k_W G w A s.heap σ H locs → f_X12_winter_b32 n32 x1 x2 x3 x4 x5 σ = some (r, σ') → W p l e rmX12_winter s m [.ref (ad 0), .int p1, .int p2].toArray below meth c H locs 0 0 (MQ below (k_Qi G w A r σ') [.ref (ad 0), .int p1, .int p2].toArray s 0 0 A) (F0 m 32 ls []) := by
    intro n32
    induction n32 with
    | zero =>
      intro x1 x2 x3 x4 x5 σ H locs ls hl hw hf
      have hf : (none : Option (Int32 × MSt)) = some (r, σ') := hf
      cases hf
    | succ n32 ih32 =>
      have b69 : ∀ (x1 : Int32) (x2 : Int32) (x3 : Int32) (x4 : Int32) (x5 : Int32) (σ : MSt) (H : Heap) (locs : List Loc) (ls : Array Slot), lv_has ls 7 [(0, .ref (ad 0)), (1, .int x1), (2, .int x2), (3, .int x3), (4, .int x4), (5, .int x5)] → k_W G w A s.heap σ H locs → f_X12_winter_b69 (f_X12_winter_b32 n32) x1 x2 x3 x4 x5 σ = some (r, σ') → W p l e rmX12_winter s m [.ref (ad 0), .int p1, .int p2].toArray below meth c H locs 0 0 (MQ below (k_Qi G w A r σ') [.ref (ad 0), .int p1, .int p2].toArray s 0 0 A) (F0 m 69 ls []) := by
        intro x1 x2 x3 x4 x5 σ H locs ls hl hw hf
        unfold f_X12_winter_b69 at hf
        obtain ⟨u1, ex⟩ : ∃ y : Int32, y = (x5 + (1 : Int32)) := ⟨_, rfl⟩
        have hf := k_nmE ex hf
        refine lv_iinc (v := u1) (lv' := [(5, .int u1), (0, .ref (ad 0)), (1, .int x1), (2, .int x2), (3, .int x3), (4, .int x4)]) hx hb dX12_winter_69 hl (k := 5) rfl (by rw [ex]; rfl) (by decide) rfl (fun ls hl => ?_)
        refine lv_goto (tgt := 32) hx hb dX12_winter_72 (by decide) ?_
        exact ih32 x1 x2 x3 x4 u1 σ _ _ _ (lv_sub hl [1, 2, 3, 4, 5, 0] rfl) hw hf
      intro x1 x2 x3 x4 x5 σ H locs ls hl hw hf
      have hf : f_X12_winter_b32_s (f_X12_winter_b32 n32) x1 x2 x3 x4 x5 σ = some (r, σ') := hf
      unfold f_X12_winter_b32_s at hf
      refine lv_iload hx hb dX12_winter_32 (lv_at hl 5 rfl) ?_
      refine lv_aload_n hx hb dX12_winter_34 rfl (lv_at hl 0 rfl) ?_
      refine k_get C hw (LM_0 LM) (ci := 12) rfl k_in12 3 (by decide) lk12_13 (v := .ref (ad 2)) rfl dX12_winter_35 ?_
      refine lv_iconst (v := (0 : Int32)) hx hb dX12_winter_38 (by decide) ?_
      obtain ⟨hi, hf⟩ := k_ckE hf
      refine k_iald C hw (LM_2 LM) hi dX12_winter_39 ?_
      refine lv_icmp_ge (tgt := 75) hx hb dX12_winter_40 (by decide) (fun h => ?_) (fun h => ?_)
      · have hf := k_ifT h hf
        refine lv_iload_n hx hb dX12_winter_75 rfl (lv_at hl 2 rfl) ?_
        refine lv_if_ne (tgt := 83) hx hb dX12_winter_76 (by decide) (fun h => ?_) (fun h => ?_)
        · have hf := k_ifF h hf
          refine lv_iload hx hb dX12_winter_83 (lv_at hl 4 rfl) ?_
          exact b85 x4 σ _ _ _ (lv_sub hl [] rfl) hw hf
        · have hf := k_ifT h hf
          refine lv_iload_n hx hb dX12_winter_79 rfl (lv_at hl 3 rfl) ?_
          refine lv_goto (tgt := 85) hx hb dX12_winter_80 (by decide) ?_
          exact b85 x3 σ _ _ _ (lv_sub hl [] rfl) hw hf
      · have hf := k_ifF h hf
        refine lv_aload_n hx hb dX12_winter_43 rfl (lv_at hl 0 rfl) ?_
        refine lv_iload hx hb dX12_winter_44 (lv_at hl 5 rfl) ?_
        refine lv_iload_n hx hb dX12_winter_46 rfl (lv_at hl 1 rfl) ?_
        obtain ⟨q2, σ1, hq, hf⟩ := k_bdE hf
        refine k_callVi C hw (c_X12_nightsIn l G Y w ad LM x5 x1 σ q2 σ1 hq) (cwV 2 hts gX12_winter_X12_nightsIn rfl rfl rfl (by decide +kernel) ⟨Nat.le_of_ble_eq_true rfl, Nat.le_of_ble_eq_true rfl⟩) (k_recv C hw (LM_0 LM) rfl) rfl hl.1 rfl (Nat.le_of_ble_eq_true rfl) dX12_winter_47 (fun H locs hw => ?_)
        refine lv_istore (lv' := [(6, .int q2), (0, .ref (ad 0)), (1, .int x1), (2, .int x2), (3, .int x3), (4, .int x4), (5, .int x5)]) hx hb dX12_winter_50 hl (by decide) rfl (fun ls hl => ?_)
        refine lv_iload hx hb dX12_winter_52 (lv_at hl 0 rfl) ?_
        refine lv_iload hx hb dX12_winter_54 (lv_at hl 5 rfl) ?_
        refine lv_icmp_gt (tgt := 62) hx hb dX12_winter_56 (by decide) (fun h => ?_) (fun h => ?_)
        · have hf := k_ifT h hf
          refine lv_iload hx hb dX12_winter_62 (lv_at hl 6 rfl) ?_
          refine lv_istore_n (lv' := [(3, .int x5), (6, .int q2), (0, .ref (ad 0)), (1, .int x1), (2, .int x2), (4, .int x4), (5, .int x5)]) hx hb dX12_winter_64 rfl hl (by decide) rfl (fun ls hl => ?_)
          refine lv_iload hx hb dX12_winter_65 (lv_at hl 1 rfl) ?_
          refine lv_istore (lv' := [(4, .int q2), (3, .int x5), (6, .int q2), (0, .ref (ad 0)), (1, .int x1), (2, .int x2), (5, .int x5)]) hx hb dX12_winter_67 hl (by decide) rfl (fun ls hl => ?_)
          exact b69 x1 x2 x5 q2 x5 σ1 _ _ _ (lv_sub hl [3, 4, 5, 1, 0, 6] rfl) hw hf
        · have hf := k_ifF h hf
          refine lv_goto (tgt := 69) hx hb dX12_winter_59 (by decide) ?_
          exact b69 x1 x2 x3 x4 x5 σ1 _ _ _ (lv_sub hl [1, 2, 3, 4, 5, 6] rfl) hw hf
  have b22 : ∀ (σ : MSt) (H : Heap) (locs : List Loc) (ls : Array Slot), lv_has ls 7 [] → k_W G w A s.heap σ H locs → f_X12_winter_b22 σ = some (r, σ') → W p l e rmX12_winter s m [.ref (ad 0), .int p1, .int p2].toArray below meth c H locs 0 0 (MQ below (k_Qi G w A r σ') [.ref (ad 0), .int p1, .int p2].toArray s 0 0 A) (F0 m 22 ls []) := by
    intro σ H locs ls hl hw hf
    unfold f_X12_winter_b22 at hf
    refine lv_iconst (v := (-1 : Int32)) hx hb dX12_winter_22 (by decide) ?_
    exact k_iret C hw hf dX12_winter_23
  unfold f_X12_winter at hf
  refine lv_aload_n hx hb dX12_winter_0 rfl (lv_at hl 0 rfl) ?_
  refine lv_iconst (v := (0 : Int32)) hx hb dX12_winter_1 (by decide) ?_
  refine k_put C hw (LM_0 LM) (ci := 12) rfl k_in12 tyX12 tyX12_ok nmX12 0 (by decide) lk12_145 rfl ⟨rfl, rfl⟩ rfl dX12_winter_2 (fun σ1 eq H locs hw => ?_)
  have hf := k_nmE eq hf
  refine lv_aload_n hx hb dX12_winter_5 rfl (lv_at hl 0 rfl) ?_
  refine lv_iload_n hx hb dX12_winter_6 rfl (lv_at hl 1 rfl) ?_
  obtain ⟨q3, σ2, hq, hf⟩ := k_bdE hf
  refine k_callVi C hw (c_X12_isNights l G Y w ad LM p1 σ1 q3 σ2 hq) (cwV 1 hts gX12_winter_X12_isNights rfl rfl rfl (by decide +kernel) ⟨Nat.le_of_ble_eq_true rfl, Nat.le_of_ble_eq_true rfl⟩) (k_recv C hw (LM_0 LM) rfl) rfl hl.1 rfl (Nat.le_of_ble_eq_true rfl) dX12_winter_7 (fun H locs hw => ?_)
  refine lv_if_eq (tgt := 22) hx hb dX12_winter_10 (by decide) (fun h => ?_) (fun h => ?_)
  · have hf := k_ifT h hf
    exact b22 σ2 _ _ _ (lv_sub hl [] rfl) hw hf
  · have hf := k_ifF h hf
    refine lv_iload_n hx hb dX12_winter_13 rfl (lv_at hl 2 rfl) ?_
    refine lv_if_lt (tgt := 22) hx hb dX12_winter_14 (by decide) (fun h => ?_) (fun h => ?_)
    · have hf := k_ifT h hf
      exact b22 σ2 _ _ _ (lv_sub hl [] rfl) hw hf
    · have hf := k_ifF h hf
      refine lv_iload_n hx hb dX12_winter_17 rfl (lv_at hl 2 rfl) ?_
      refine lv_iconst (v := (1 : Int32)) hx hb dX12_winter_18 (by decide) ?_
      refine lv_icmp_le (tgt := 24) hx hb dX12_winter_19 (by decide) (fun h => ?_) (fun h => ?_)
      · have hf := k_ifT h hf
        refine lv_iconst (v := (0 : Int32)) hx hb dX12_winter_24 (by decide) ?_
        refine lv_istore_n (lv' := [(3, .int (0 : Int32)), (0, .ref (ad 0)), (1, .int p1), (2, .int p2)]) hx hb dX12_winter_25 rfl hl (by decide) rfl (fun ls hl => ?_)
        refine lv_iconst (v := (-1 : Int32)) hx hb dX12_winter_26 (by decide) ?_
        refine lv_istore (lv' := [(4, .int (-1 : Int32)), (3, .int (0 : Int32)), (0, .ref (ad 0)), (1, .int p1), (2, .int p2)]) hx hb dX12_winter_27 hl (by decide) rfl (fun ls hl => ?_)
        refine lv_iconst (v := (0 : Int32)) hx hb dX12_winter_29 (by decide) ?_
        refine lv_istore (lv' := [(5, .int (0 : Int32)), (4, .int (-1 : Int32)), (3, .int (0 : Int32)), (0, .ref (ad 0)), (1, .int p1), (2, .int p2)]) hx hb dX12_winter_30 hl (by decide) rfl (fun ls hl => ?_)
        exact b32 FU p1 p2 (0 : Int32) (-1 : Int32) (0 : Int32) σ2 _ _ _ (lv_sub hl [3, 4, 5, 2, 1, 0] rfl) hw hf
      · have hf := k_ifF h hf
        exact b22 σ2 _ _ _ (lv_sub hl [] rfl) hw hf
def f_X12_common_b6_s  (r6 : Int64 → Int64 → MSt → Option (Int64 × MSt)) (x4 : Int64) (x6 : Int64) (σ : MSt) : Option (Int64 × MSt) :=
  if (lg_cmp x6 (0 : Int64)) = 0 then
  (some (x4, σ))
  else
  (k_ck (k_nzl x6) <|
  k_nm (k_lrem x4 x6) fun u1 =>
  r6 x6 u1 σ)
def f_X12_common_b6  : Nat → Int64 → Int64 → MSt → Option (Int64 × MSt)
  | 0 => fun _ _ _ => none
  | n + 1 => f_X12_common_b6_s (f_X12_common_b6 n)
def f_X12_common  (p1 : Int64) (p2 : Int64) (σ : MSt) : Option (Int64 × MSt) :=
  f_X12_common_b6 FU p1 p2 σ
def rmX12_common : Room := { frames := 0, cells := 0, slots := 0, locals := 0 }
set_option maxHeartbeats 4000000 in
set_option maxRecDepth 100000 in
theorem c_X12_common (l : Launch) (G : va_G) (Y : CY) (w : MSt → va_W) (ad : Nat → Nat)  (LM : LayM ad w Y) (p1 : Int64) (p2 : Int64) (σ : MSt) (r : Int64) (σ' : MSt) (hf : f_X12_common p1 p2 σ = some (r, σ')) : k_Ml l yX12_common wsX12_common rmX12_common G Y w [.long p1, .long p2] σ r σ' := by
  refine k_ofl (own := RX12) (cc := cX12_common) (maxL := 10) (some .long) (by decide) rfl rfl (Nat.le_of_ble_eq_true rfl) ?_
  intro p e s m below meth c A C ls hl hw
  have hx := C.1
  have hb := C.2.1
  have hown := C.2.2.2.2.1
  have hts := C.2.2.2.2.2.1
  have hks := C.2.2.2.2.2.2.1
  have hl : lv_has ls 10 [(0, .long p1), (2, .long p2)] := hl
  have b6 : ∀ (n6 : Nat) (x4 : Int64) (x6 : Int64) (σ : MSt) (H : Heap) (locs : List Loc) (ls : Array Slot), lv_has ls 10 [(4, .long x4), (6, .long x6)] → k_W G w A s.heap σ H locs → f_X12_common_b6 n6 x4 x6 σ = some (r, σ') → W p l e rmX12_common s m [.long p1, .long p2].toArray below meth c H locs 0 0 (MQ below (k_Ql G w A r σ') [.long p1, .long p2].toArray s 0 0 A) (F0 m 6 ls []) := by
    intro n6
    induction n6 with
    | zero =>
      intro x4 x6 σ H locs ls hl hw hf
      have hf : (none : Option (Int64 × MSt)) = some (r, σ') := hf
      cases hf
    | succ n6 ih6 =>
      intro x4 x6 σ H locs ls hl hw hf
      have hf : f_X12_common_b6_s (f_X12_common_b6 n6) x4 x6 σ = some (r, σ') := hf
      unfold f_X12_common_b6_s at hf
      refine lv_lload hx hb dX12_common_6 (lv_at hl 1 rfl) ?_
      refine lv_lconst (v := (0 : Int64)) hx hb dX12_common_8 (by decide) ?_
      refine W.lcmp hx hb dX12_common_9 ?_
      refine lv_if_eq (tgt := 31) hx hb dX12_common_10 (by decide) (fun h => ?_) (fun h => ?_)
      · have hf := k_ifT h hf
        refine lv_lload hx hb dX12_common_31 (lv_at hl 0 rfl) ?_
        exact k_lret C hw hf dX12_common_33
      · have hf := k_ifF h hf
        refine lv_lload hx hb dX12_common_13 (lv_at hl 0 rfl) ?_
        refine lv_lload hx hb dX12_common_15 (lv_at hl 1 rfl) ?_
        obtain ⟨hz, hf⟩ := k_ckE hf
        refine k_lremr C dX12_common_17 (k_nzlE hz) ?_
        refine lv_topl (fun u1 ex => ?_)
        have hf := k_nmE ex hf
        refine lv_lstore (lv' := [(8, .long u1), (4, .long x4), (6, .long x6)]) hx hb dX12_common_18 hl (by decide) rfl (fun ls hl => ?_)
        refine lv_lload hx hb dX12_common_20 (lv_at hl 2 rfl) ?_
        refine lv_lstore (lv' := [(4, .long x6), (8, .long u1), (6, .long x6)]) hx hb dX12_common_22 hl (by decide) rfl (fun ls hl => ?_)
        refine lv_lload hx hb dX12_common_24 (lv_at hl 1 rfl) ?_
        refine lv_lstore (lv' := [(6, .long u1), (4, .long x6), (8, .long u1)]) hx hb dX12_common_26 hl (by decide) rfl (fun ls hl => ?_)
        refine lv_goto (tgt := 6) hx hb dX12_common_28 (by decide) ?_
        exact ih6 x6 u1 σ _ _ _ (lv_sub hl [1, 0] rfl) hw hf
  unfold f_X12_common at hf
  refine lv_lload_n hx hb dX12_common_0 rfl (lv_at hl 0 rfl) ?_
  refine lv_lstore (lv' := [(4, .long p1), (0, .long p1), (2, .long p2)]) hx hb dX12_common_1 hl (by decide) rfl (fun ls hl => ?_)
  refine lv_lload_n hx hb dX12_common_3 rfl (lv_at hl 2 rfl) ?_
  refine lv_lstore (lv' := [(6, .long p2), (4, .long p1), (0, .long p1), (2, .long p2)]) hx hb dX12_common_4 hl (by decide) rfl (fun ls hl => ?_)
  exact b6 FU p1 p2 σ _ _ _ (lv_sub hl [1, 0] rfl) hw hf
def f_X12_copies_b92  (y0 : Int64) (σ : MSt) : Option (Int64 × MSt) :=
  some (y0, σ)
def f_X12_copies_b37_s  (r37 : Int32 → Int32 → Int64 → Int64 → Int32 → MSt → Option (Int64 × MSt)) (x1 : Int32) (x2 : Int32) (x3 : Int64) (x5 : Int64) (x7 : Int32) (σ : MSt) : Option (Int64 × MSt) :=
  if x1 ≤ x7 then
  (k_bl (f_X12_common x3 x5 σ) fun q2 σ1 =>
  if x2 = 0 then
  (k_ck (k_nzl q2) <|
  f_X12_copies_b92 (x3 / q2) σ1)
  else
  (k_ck (k_nzl q2) <|
  f_X12_copies_b92 (x5 / q2) σ1))
  else
  (k_ck (k_inb (6 : Int32) 18) <|
  k_nm (x3 * (((σ.1 2 ((6 : Int32)).toNatClampNeg)).toInt64)) fun u3 =>
  k_nm (x5 * (100 : Int64)) fun u4 =>
  k_nm (x7 + (1 : Int32)) fun u5 =>
  r37 x1 x2 u3 u4 u5 σ)
def f_X12_copies_b37  : Nat → Int32 → Int32 → Int64 → Int64 → Int32 → MSt → Option (Int64 × MSt)
  | 0 => fun _ _ _ _ _ _ => none
  | n + 1 => f_X12_copies_b37_s (f_X12_copies_b37 n)
def f_X12_copies_b25   (σ : MSt) : Option (Int64 × MSt) :=
  some ((-1 : Int64), σ)
def f_X12_copies  (p1 : Int32) (p2 : Int32) (σ : MSt) : Option (Int64 × MSt) :=
  k_nm (mI σ 0 0 (0 : Int32)) fun σ1 =>
  if p1 < (1 : Int32) then
  (f_X12_copies_b25 σ1)
  else
  (if (8 : Int32) < p1 then
  (f_X12_copies_b25 σ1)
  else
  (if p2 < 0 then
  (f_X12_copies_b25 σ1)
  else
  (if p2 ≤ (1 : Int32) then
  (f_X12_copies_b37 FU p1 p2 (1 : Int64) (1 : Int64) (0 : Int32) σ1)
  else
  (f_X12_copies_b25 σ1))))
def rmX12_copies : Room := { frames := 1, cells := 0, slots := 0, locals := 29 }
set_option maxHeartbeats 4000000 in
set_option maxRecDepth 100000 in
theorem c_X12_copies (l : Launch) (G : va_G) (Y : CY) (w : MSt → va_W) (ad : Nat → Nat)  (LM : LayM ad w Y) (p1 : Int32) (p2 : Int32) (σ : MSt) (r : Int64) (σ' : MSt) (hf : f_X12_copies p1 p2 σ = some (r, σ')) : k_Ml l yX12_copies wsX12_copies rmX12_copies G Y w [.ref (ad 0), .int p1, .int p2] σ r σ' := by
  refine k_ofl (own := RX12) (cc := cX12_copies) (maxL := 9) (some .long) (by decide) rfl rfl (Nat.le_of_ble_eq_true rfl) ?_
  intro p e s m below meth c A C ls hl hw
  have hx := C.1
  have hb := C.2.1
  have hown := C.2.2.2.2.1
  have hts := C.2.2.2.2.2.1
  have hks := C.2.2.2.2.2.2.1
  have hl : lv_has ls 9 [(0, .ref (ad 0)), (1, .int p1), (2, .int p2)] := hl
  have b92 : ∀ (y0 : Int64) (σ : MSt) (H : Heap) (locs : List Loc) (ls : Array Slot), lv_has ls 9 [] → k_W G w A s.heap σ H locs → f_X12_copies_b92 y0 σ = some (r, σ') → W p l e rmX12_copies s m [.ref (ad 0), .int p1, .int p2].toArray below meth c H locs 0 0 (MQ below (k_Ql G w A r σ') [.ref (ad 0), .int p1, .int p2].toArray s 0 0 A) (F0 m 92 ls [.long y0]) := by
    intro y0 σ H locs ls hl hw hf
    unfold f_X12_copies_b92 at hf
    exact k_lret C hw hf dX12_copies_92
  have b37 : ∀ (n37 : Nat) (x1 : Int32) (x2 : Int32) (x3 : Int64) (x5 : Int64) (x7 : Int32) (σ : MSt) (H : Heap) (locs : List Loc) (ls : Array Slot), lv_has ls 9 [(0, .ref (ad 0)), (1, .int x1), (2, .int x2), (3, .long x3), (5, .long x5), (7, .int x7)] → k_W G w A s.heap σ H locs → f_X12_copies_b37 n37 x1 x2 x3 x5 x7 σ = some (r, σ') → W p l e rmX12_copies s m [.ref (ad 0), .int p1, .int p2].toArray below meth c H locs 0 0 (MQ below (k_Ql G w A r σ') [.ref (ad 0), .int p1, .int p2].toArray s 0 0 A) (F0 m 37 ls []) := by
    intro n37
    induction n37 with
    | zero =>
      intro x1 x2 x3 x5 x7 σ H locs ls hl hw hf
      have hf : (none : Option (Int64 × MSt)) = some (r, σ') := hf
      cases hf
    | succ n37 ih37 =>
      intro x1 x2 x3 x5 x7 σ H locs ls hl hw hf
      have hf : f_X12_copies_b37_s (f_X12_copies_b37 n37) x1 x2 x3 x5 x7 σ = some (r, σ') := hf
      unfold f_X12_copies_b37_s at hf
      refine lv_iload hx hb dX12_copies_37 (lv_at hl 5 rfl) ?_
      refine lv_iload_n hx hb dX12_copies_39 rfl (lv_at hl 1 rfl) ?_
      refine lv_icmp_ge (tgt := 68) hx hb dX12_copies_40 (by decide) (fun h => ?_) (fun h => ?_)
      · have hf := k_ifT h hf
        refine lv_lload_n hx hb dX12_copies_68 rfl (lv_at hl 3 rfl) ?_
        refine lv_lload hx hb dX12_copies_69 (lv_at hl 4 rfl) ?_
        obtain ⟨q2, σ1, hq, hf⟩ := k_blE hf
        refine k_callSl C hw (c_X12_common l G Y w ad LM x3 x5 σ q2 σ1 hq) (va_cwS 2 hts gX12_copies_X12_common rfl rfl rfl (by decide +kernel) ⟨Nat.le_of_ble_eq_true rfl, Nat.le_of_ble_eq_true rfl⟩) rfl hl.1 rfl (Nat.le_of_ble_eq_true rfl) dX12_copies_71 (fun H locs hw => ?_)
        refine lv_lstore (lv' := [(7, .long q2), (0, .ref (ad 0)), (1, .int x1), (2, .int x2), (3, .long x3), (5, .long x5)]) hx hb dX12_copies_74 hl (by decide) rfl (fun ls hl => ?_)
        refine lv_iload_n hx hb dX12_copies_76 rfl (lv_at hl 3 rfl) ?_
        refine lv_if_ne (tgt := 87) hx hb dX12_copies_77 (by decide) (fun h => ?_) (fun h => ?_)
        · have hf := k_ifF h hf
          refine lv_lload hx hb dX12_copies_87 (lv_at hl 5 rfl) ?_
          refine lv_lload hx hb dX12_copies_89 (lv_at hl 0 rfl) ?_
          obtain ⟨hz, hf⟩ := k_ckE hf
          refine lv_ldiv hx hb dX12_copies_91 (k_nzlE hz) ?_
          exact b92 (x5 / q2) σ1 _ _ _ (lv_sub hl [] rfl) hw hf
        · have hf := k_ifT h hf
          refine lv_lload_n hx hb dX12_copies_80 rfl (lv_at hl 4 rfl) ?_
          refine lv_lload hx hb dX12_copies_81 (lv_at hl 0 rfl) ?_
          obtain ⟨hz, hf⟩ := k_ckE hf
          refine lv_ldiv hx hb dX12_copies_83 (k_nzlE hz) ?_
          refine lv_goto (tgt := 92) hx hb dX12_copies_84 (by decide) ?_
          exact b92 (x3 / q2) σ1 _ _ _ (lv_sub hl [] rfl) hw hf
      · have hf := k_ifF h hf
        refine lv_lload_n hx hb dX12_copies_43 rfl (lv_at hl 3 rfl) ?_
        refine lv_aload_n hx hb dX12_copies_44 rfl (lv_at hl 0 rfl) ?_
        refine k_get C hw (LM_0 LM) (ci := 12) rfl k_in12 3 (by decide) lk12_13 (v := .ref (ad 2)) rfl dX12_copies_45 ?_
        refine lv_bipush (v := (6 : Int32)) hx hb dX12_copies_48 (by decide) ?_
        obtain ⟨hi, hf⟩ := k_ckE hf
        refine k_iald C hw (LM_2 LM) hi dX12_copies_50 ?_
        refine lv_i2l (v := (((σ.1 2 ((6 : Int32)).toNatClampNeg)).toInt64)) hx hb dX12_copies_51 rfl ?_
        refine lv_lmul hx hb dX12_copies_52 ?_
        refine lv_topl (fun u3 ex => ?_)
        have hf := k_nmE ex hf
        refine lv_lstore_n (lv' := [(3, .long u3), (0, .ref (ad 0)), (1, .int x1), (2, .int x2), (5, .long x5), (7, .int x7)]) hx hb dX12_copies_53 rfl hl (by decide) rfl (fun ls hl => ?_)
        refine lv_lload hx hb dX12_copies_54 (lv_at hl 4 rfl) ?_
        refine lv_ldc2 (v := (100 : Int64)) hx hb hown (hks.ts _ ck12_350) dX12_copies_56 ?_
        refine lv_lmul hx hb dX12_copies_59 ?_
        refine lv_topl (fun u4 ex => ?_)
        have hf := k_nmE ex hf
        refine lv_lstore (lv' := [(5, .long u4), (3, .long u3), (0, .ref (ad 0)), (1, .int x1), (2, .int x2), (7, .int x7)]) hx hb dX12_copies_60 hl (by decide) rfl (fun ls hl => ?_)
        obtain ⟨u5, ex⟩ : ∃ y : Int32, y = (x7 + (1 : Int32)) := ⟨_, rfl⟩
        have hf := k_nmE ex hf
        refine lv_iinc (v := u5) (lv' := [(7, .int u5), (5, .long u4), (3, .long u3), (0, .ref (ad 0)), (1, .int x1), (2, .int x2)]) hx hb dX12_copies_62 hl (k := 5) rfl (by rw [ex]; rfl) (by decide) rfl (fun ls hl => ?_)
        refine lv_goto (tgt := 37) hx hb dX12_copies_65 (by decide) ?_
        exact ih37 x1 x2 u3 u4 u5 σ _ _ _ (lv_sub hl [3, 4, 5, 2, 1, 0] rfl) hw hf
  have b25 : ∀ (σ : MSt) (H : Heap) (locs : List Loc) (ls : Array Slot), lv_has ls 9 [] → k_W G w A s.heap σ H locs → f_X12_copies_b25 σ = some (r, σ') → W p l e rmX12_copies s m [.ref (ad 0), .int p1, .int p2].toArray below meth c H locs 0 0 (MQ below (k_Ql G w A r σ') [.ref (ad 0), .int p1, .int p2].toArray s 0 0 A) (F0 m 25 ls []) := by
    intro σ H locs ls hl hw hf
    unfold f_X12_copies_b25 at hf
    refine lv_ldc2 (v := (-1 : Int64)) hx hb hown (hks.ts _ ck12_462) dX12_copies_25 ?_
    exact k_lret C hw hf dX12_copies_28
  unfold f_X12_copies at hf
  refine lv_aload_n hx hb dX12_copies_0 rfl (lv_at hl 0 rfl) ?_
  refine lv_iconst (v := (0 : Int32)) hx hb dX12_copies_1 (by decide) ?_
  refine k_put C hw (LM_0 LM) (ci := 12) rfl k_in12 tyX12 tyX12_ok nmX12 0 (by decide) lk12_145 rfl ⟨rfl, rfl⟩ rfl dX12_copies_2 (fun σ1 eq H locs hw => ?_)
  have hf := k_nmE eq hf
  refine lv_iload_n hx hb dX12_copies_5 rfl (lv_at hl 1 rfl) ?_
  refine lv_iconst (v := (1 : Int32)) hx hb dX12_copies_6 (by decide) ?_
  refine lv_icmp_lt (tgt := 25) hx hb dX12_copies_7 (by decide) (fun h => ?_) (fun h => ?_)
  · have hf := k_ifT h hf
    exact b25 σ1 _ _ _ (lv_sub hl [] rfl) hw hf
  · have hf := k_ifF h hf
    refine lv_iload_n hx hb dX12_copies_10 rfl (lv_at hl 1 rfl) ?_
    refine lv_bipush (v := (8 : Int32)) hx hb dX12_copies_11 (by decide) ?_
    refine lv_icmp_gt (tgt := 25) hx hb dX12_copies_13 (by decide) (fun h => ?_) (fun h => ?_)
    · have hf := k_ifT h hf
      exact b25 σ1 _ _ _ (lv_sub hl [] rfl) hw hf
    · have hf := k_ifF h hf
      refine lv_iload_n hx hb dX12_copies_16 rfl (lv_at hl 2 rfl) ?_
      refine lv_if_lt (tgt := 25) hx hb dX12_copies_17 (by decide) (fun h => ?_) (fun h => ?_)
      · have hf := k_ifT h hf
        exact b25 σ1 _ _ _ (lv_sub hl [] rfl) hw hf
      · have hf := k_ifF h hf
        refine lv_iload_n hx hb dX12_copies_20 rfl (lv_at hl 2 rfl) ?_
        refine lv_iconst (v := (1 : Int32)) hx hb dX12_copies_21 (by decide) ?_
        refine lv_icmp_le (tgt := 29) hx hb dX12_copies_22 (by decide) (fun h => ?_) (fun h => ?_)
        · have hf := k_ifT h hf
          refine lv_lconst (v := (1 : Int64)) hx hb dX12_copies_29 (by decide) ?_
          refine lv_lstore_n (lv' := [(3, .long (1 : Int64)), (0, .ref (ad 0)), (1, .int p1), (2, .int p2)]) hx hb dX12_copies_30 rfl hl (by decide) rfl (fun ls hl => ?_)
          refine lv_lconst (v := (1 : Int64)) hx hb dX12_copies_31 (by decide) ?_
          refine lv_lstore (lv' := [(5, .long (1 : Int64)), (3, .long (1 : Int64)), (0, .ref (ad 0)), (1, .int p1), (2, .int p2)]) hx hb dX12_copies_32 hl (by decide) rfl (fun ls hl => ?_)
          refine lv_iconst (v := (0 : Int32)) hx hb dX12_copies_34 (by decide) ?_
          refine lv_istore (lv' := [(7, .int (0 : Int32)), (5, .long (1 : Int64)), (3, .long (1 : Int64)), (0, .ref (ad 0)), (1, .int p1), (2, .int p2)]) hx hb dX12_copies_35 hl (by decide) rfl (fun ls hl => ?_)
          exact b37 FU p1 p2 (1 : Int64) (1 : Int64) (0 : Int32) σ1 _ _ _ (lv_sub hl [3, 4, 5, 2, 1, 0] rfl) hw hf
        · have hf := k_ifF h hf
          exact b25 σ1 _ _ _ (lv_sub hl [] rfl) hw hf
def f_X12_layLanes_b118  (r39 : Int32 → Int32 → MSt → Option MSt) (r47 : Int32 → Int32 → Int32 → MSt → Option MSt) (x2 : Int32) (x3 : Int32) (x4 : Int32) (σ : MSt) : Option MSt :=
  k_nm (x4 + (1 : Int32)) fun u1 =>
  r47 x2 x3 u1 σ
def f_X12_layLanes_b47_s  (r39 : Int32 → Int32 → MSt → Option MSt) (r47 : Int32 → Int32 → Int32 → MSt → Option MSt) (x2 : Int32) (x3 : Int32) (x4 : Int32) (σ : MSt) : Option MSt :=
  k_ck (k_inb (0 : Int32) 18) <|
  if (σ.1 2 ((0 : Int32)).toNatClampNeg) ≤ x4 then
  (k_nm (x3 + (1 : Int32)) fun u1 =>
  r39 x2 u1 σ)
  else
  (k_ck (k_inb x4 8) <|
  if (σ.1 31 (x4).toNatClampNeg) = (-1 : Int32) then
  (k_ck (k_inb x3 8) <|
  k_bd (f_X12_laneOf (σ.1 32 (x3).toNatClampNeg) x4 σ) fun q3 σ2 =>
  if q3 = 0 then
  (f_X12_layLanes_b118 r39 r47 x2 x3 x4 σ2)
  else
  (k_ck (k_inb x3 8) <|
  k_ck (k_inb (σ2.1 32 (x3).toNatClampNeg) 8) <|
  k_ck (k_inb x4 8) <|
  k_nm (mI σ2 31 (x4).toNatClampNeg ((σ2.1 31 ((σ2.1 32 (x3).toNatClampNeg)).toNatClampNeg) + (1 : Int32))) fun σ4 =>
  k_ck (k_inb x2 8) <|
  k_nm (mI σ4 32 (x2).toNatClampNeg x4) fun σ5 =>
  k_nm (x2 + (1 : Int32)) fun u6 =>
  f_X12_layLanes_b118 r39 r47 u6 x3 x4 σ5))
  else
  (f_X12_layLanes_b118 r39 r47 x2 x3 x4 σ))
def f_X12_layLanes_b47  (r39 : Int32 → Int32 → MSt → Option MSt) : Nat → Int32 → Int32 → Int32 → MSt → Option MSt
  | 0 => fun _ _ _ _ => none
  | n + 1 => f_X12_layLanes_b47_s r39 (f_X12_layLanes_b47 r39 n)
def f_X12_layLanes_b39_s  (r39 : Int32 → Int32 → MSt → Option MSt) (x2 : Int32) (x3 : Int32) (σ : MSt) : Option MSt :=
  if x2 ≤ x3 then
  (some σ)
  else
  (f_X12_layLanes_b47 r39 FU x2 x3 (0 : Int32) σ)
def f_X12_layLanes_b39  : Nat → Int32 → Int32 → MSt → Option MSt
  | 0 => fun _ _ _ => none
  | n + 1 => f_X12_layLanes_b39_s (f_X12_layLanes_b39 n)
def f_X12_layLanes_b2_s  (r2 : Int32 → Int32 → MSt → Option MSt) (x1 : Int32) (x2 : Int32) (σ : MSt) : Option MSt :=
  if (8 : Int32) ≤ x2 then
  (k_ck (k_inb x1 8) <|
  k_nm (mI σ 31 (x1).toNatClampNeg (0 : Int32)) fun σ1 =>
  k_ck (k_inb (0 : Int32) 8) <|
  k_nm (mI σ1 32 ((0 : Int32)).toNatClampNeg x1) fun σ2 =>
  f_X12_layLanes_b39 FU (1 : Int32) (0 : Int32) σ2)
  else
  (k_ck (k_inb x2 8) <|
  k_nm (mI σ 31 (x2).toNatClampNeg (-1 : Int32)) fun σ3 =>
  k_nm (x2 + (1 : Int32)) fun u4 =>
  r2 x1 u4 σ3)
def f_X12_layLanes_b2  : Nat → Int32 → Int32 → MSt → Option MSt
  | 0 => fun _ _ _ => none
  | n + 1 => f_X12_layLanes_b2_s (f_X12_layLanes_b2 n)
def f_X12_layLanes  (p1 : Int32) (σ : MSt) : Option MSt :=
  f_X12_layLanes_b2 FU p1 (0 : Int32) σ
def rmX12_layLanes : Room := { frames := 1, cells := 0, slots := 0, locals := 23 }
set_option maxHeartbeats 4000000 in
set_option maxRecDepth 100000 in
theorem c_X12_layLanes (l : Launch) (G : va_G) (Y : CY) (w : MSt → va_W) (ad : Nat → Nat)  (LM : LayM ad w Y) (p1 : Int32) (σ : MSt) (σ' : MSt) (hf : f_X12_layLanes p1 σ = some σ') : k_Mv l yX12_layLanes wsX12_layLanes rmX12_layLanes G Y w [.ref (ad 0), .int p1] σ σ' := by
  refine k_ofv (own := RX12) (cc := cX12_layLanes) (maxL := 5) none (by decide) rfl rfl (Nat.le_of_ble_eq_true rfl) ?_
  intro p e s m below meth c A C ls hl hw
  have hx := C.1
  have hb := C.2.1
  have hown := C.2.2.2.2.1
  have hts := C.2.2.2.2.2.1
  have hks := C.2.2.2.2.2.2.1
  have hl : lv_has ls 5 [(0, .ref (ad 0)), (1, .int p1)] := hl
  have b39 : ∀ (n39 : Nat) (x2 : Int32) (x3 : Int32) (σ : MSt) (H : Heap) (locs : List Loc) (ls : Array Slot), lv_has ls 5 [(0, .ref (ad 0)), (2, .int x2), (3, .int x3)] → k_W G w A s.heap σ H locs → f_X12_layLanes_b39 n39 x2 x3 σ = some σ' → W p l e rmX12_layLanes s m [.ref (ad 0), .int p1].toArray below meth c H locs 0 0 (MQ below (k_Qv G w A σ') [.ref (ad 0), .int p1].toArray s 0 0 A) (F0 m 39 ls []) := by
    intro n39
    induction n39 with
    | zero =>
      intro x2 x3 σ H locs ls hl hw hf
      have hf : (none : Option MSt) = some σ' := hf
      cases hf
    | succ n39 ih39 =>
      have b47 : ∀ (n47 : Nat) (x2 : Int32) (x3 : Int32) (x4 : Int32) (σ : MSt) (H : Heap) (locs : List Loc) (ls : Array Slot), lv_has ls 5 [(0, .ref (ad 0)), (2, .int x2), (3, .int x3), (4, .int x4)] → k_W G w A s.heap σ H locs → f_X12_layLanes_b47 (f_X12_layLanes_b39 n39) n47 x2 x3 x4 σ = some σ' → W p l e rmX12_layLanes s m [.ref (ad 0), .int p1].toArray below meth c H locs 0 0 (MQ below (k_Qv G w A σ') [.ref (ad 0), .int p1].toArray s 0 0 A) (F0 m 47 ls []) := by
        intro n47
        induction n47 with
        | zero =>
          intro x2 x3 x4 σ H locs ls hl hw hf
          have hf : (none : Option MSt) = some σ' := hf
          cases hf
        | succ n47 ih47 =>
          have b118 : ∀ (x2 : Int32) (x3 : Int32) (x4 : Int32) (σ : MSt) (H : Heap) (locs : List Loc) (ls : Array Slot), lv_has ls 5 [(0, .ref (ad 0)), (2, .int x2), (3, .int x3), (4, .int x4)] → k_W G w A s.heap σ H locs → f_X12_layLanes_b118 (f_X12_layLanes_b39 n39) (f_X12_layLanes_b47 (f_X12_layLanes_b39 n39) n47) x2 x3 x4 σ = some σ' → W p l e rmX12_layLanes s m [.ref (ad 0), .int p1].toArray below meth c H locs 0 0 (MQ below (k_Qv G w A σ') [.ref (ad 0), .int p1].toArray s 0 0 A) (F0 m 118 ls []) := by
            intro x2 x3 x4 σ H locs ls hl hw hf
            unfold f_X12_layLanes_b118 at hf
            obtain ⟨u1, ex⟩ : ∃ y : Int32, y = (x4 + (1 : Int32)) := ⟨_, rfl⟩
            have hf := k_nmE ex hf
            refine lv_iinc (v := u1) (lv' := [(4, .int u1), (0, .ref (ad 0)), (2, .int x2), (3, .int x3)]) hx hb dX12_layLanes_118 hl (k := 3) rfl (by rw [ex]; rfl) (by decide) rfl (fun ls hl => ?_)
            refine lv_goto (tgt := 47) hx hb dX12_layLanes_121 (by decide) ?_
            exact ih47 x2 x3 u1 σ _ _ _ (lv_sub hl [1, 2, 3, 0] rfl) hw hf
          intro x2 x3 x4 σ H locs ls hl hw hf
          have hf : f_X12_layLanes_b47_s (f_X12_layLanes_b39 n39) (f_X12_layLanes_b47 (f_X12_layLanes_b39 n39) n47) x2 x3 x4 σ = some σ' := hf
          unfold f_X12_layLanes_b47_s at hf
          refine lv_iload hx hb dX12_layLanes_47 (lv_at hl 3 rfl) ?_
          refine lv_aload_n hx hb dX12_layLanes_49 rfl (lv_at hl 0 rfl) ?_
          refine k_get C hw (LM_0 LM) (ci := 12) rfl k_in12 3 (by decide) lk12_13 (v := .ref (ad 2)) rfl dX12_layLanes_50 ?_
          refine lv_iconst (v := (0 : Int32)) hx hb dX12_layLanes_53 (by decide) ?_
          obtain ⟨hi, hf⟩ := k_ckE hf
          refine k_iald C hw (LM_2 LM) hi dX12_layLanes_54 ?_
          refine lv_icmp_ge (tgt := 124) hx hb dX12_layLanes_55 (by decide) (fun h => ?_) (fun h => ?_)
          · have hf := k_ifT h hf
            obtain ⟨u1, ex⟩ : ∃ y : Int32, y = (x3 + (1 : Int32)) := ⟨_, rfl⟩
            have hf := k_nmE ex hf
            refine lv_iinc (v := u1) (lv' := [(3, .int u1), (0, .ref (ad 0)), (2, .int x2), (4, .int x4)]) hx hb dX12_layLanes_124 hl (k := 2) rfl (by rw [ex]; rfl) (by decide) rfl (fun ls hl => ?_)
            refine lv_goto (tgt := 39) hx hb dX12_layLanes_127 (by decide) ?_
            exact ih39 x2 u1 σ _ _ _ (lv_sub hl [1, 2, 0] rfl) hw hf
          · have hf := k_ifF h hf
            refine lv_aload_n hx hb dX12_layLanes_58 rfl (lv_at hl 0 rfl) ?_
            refine k_get C hw (LM_0 LM) (ci := 12) rfl k_in12 56 (by decide) lk12_114 (v := .ref (ad 31)) rfl dX12_layLanes_59 ?_
            refine lv_iload hx hb dX12_layLanes_62 (lv_at hl 3 rfl) ?_
            obtain ⟨hi, hf⟩ := k_ckE hf
            refine k_iald C hw (LM_31 LM) hi dX12_layLanes_64 ?_
            refine lv_iconst (v := (-1 : Int32)) hx hb dX12_layLanes_65 (by decide) ?_
            refine lv_icmp_ne (tgt := 118) hx hb dX12_layLanes_66 (by decide) (fun h => ?_) (fun h => ?_)
            · have hf := k_ifF h hf
              exact b118 x2 x3 x4 σ _ _ _ (lv_sub hl [0, 1, 2, 3] rfl) hw hf
            · have hf := k_ifT h hf
              refine lv_aload_n hx hb dX12_layLanes_69 rfl (lv_at hl 0 rfl) ?_
              refine lv_aload_n hx hb dX12_layLanes_70 rfl (lv_at hl 0 rfl) ?_
              refine k_get C hw (LM_0 LM) (ci := 12) rfl k_in12 57 (by decide) lk12_117 (v := .ref (ad 32)) rfl dX12_layLanes_71 ?_
              refine lv_iload_n hx hb dX12_layLanes_74 rfl (lv_at hl 2 rfl) ?_
              obtain ⟨hi, hf⟩ := k_ckE hf
              refine k_iald C hw (LM_32 LM) hi dX12_layLanes_75 ?_
              refine lv_iload hx hb dX12_layLanes_76 (lv_at hl 3 rfl) ?_
              obtain ⟨q3, σ2, hq, hf⟩ := k_bdE hf
              refine k_callVi C hw (c_X12_laneOf l G Y w ad LM (σ.1 32 (x3).toNatClampNeg) x4 σ q3 σ2 hq) (cwV 2 hts gX12_layLanes_X12_laneOf rfl rfl rfl (by decide +kernel) ⟨Nat.le_of_ble_eq_true rfl, Nat.le_of_ble_eq_true rfl⟩) (k_recv C hw (LM_0 LM) rfl) rfl hl.1 rfl (Nat.le_of_ble_eq_true rfl) dX12_layLanes_78 (fun H locs hw => ?_)
              refine lv_if_ne (tgt := 87) hx hb dX12_layLanes_81 (by decide) (fun h => ?_) (fun h => ?_)
              · have hf := k_ifF h hf
                refine lv_aload_n hx hb dX12_layLanes_87 rfl (lv_at hl 0 rfl) ?_
                refine k_get C hw (LM_0 LM) (ci := 12) rfl k_in12 56 (by decide) lk12_114 (v := .ref (ad 31)) rfl dX12_layLanes_88 ?_
                refine lv_iload hx hb dX12_layLanes_91 (lv_at hl 3 rfl) ?_
                refine lv_aload_n hx hb dX12_layLanes_93 rfl (lv_at hl 0 rfl) ?_
                refine k_get C hw (LM_0 LM) (ci := 12) rfl k_in12 56 (by decide) lk12_114 (v := .ref (ad 31)) rfl dX12_layLanes_94 ?_
                refine lv_aload_n hx hb dX12_layLanes_97 rfl (lv_at hl 0 rfl) ?_
                refine k_get C hw (LM_0 LM) (ci := 12) rfl k_in12 57 (by decide) lk12_117 (v := .ref (ad 32)) rfl dX12_layLanes_98 ?_
                refine lv_iload_n hx hb dX12_layLanes_101 rfl (lv_at hl 2 rfl) ?_
                obtain ⟨hi, hf⟩ := k_ckE hf
                refine k_iald C hw (LM_32 LM) hi dX12_layLanes_102 ?_
                obtain ⟨hi, hf⟩ := k_ckE hf
                refine k_iald C hw (LM_31 LM) hi dX12_layLanes_103 ?_
                refine lv_iconst (v := (1 : Int32)) hx hb dX12_layLanes_104 (by decide) ?_
                refine lv_iadd hx hb dX12_layLanes_105 ?_
                obtain ⟨hi, hf⟩ := k_ckE hf
                refine k_iast C hw (LM_31 LM) hi dX12_layLanes_106 (fun σ4 eq H locs hw => ?_)
                have hf := k_nmE eq hf
                refine lv_aload_n hx hb dX12_layLanes_107 rfl (lv_at hl 0 rfl) ?_
                refine k_get C hw (LM_0 LM) (ci := 12) rfl k_in12 57 (by decide) lk12_117 (v := .ref (ad 32)) rfl dX12_layLanes_108 ?_
                refine lv_iload_n hx hb dX12_layLanes_111 rfl (lv_at hl 1 rfl) ?_
                refine lv_iload hx hb dX12_layLanes_112 (lv_at hl 3 rfl) ?_
                obtain ⟨hi, hf⟩ := k_ckE hf
                refine k_iast C hw (LM_32 LM) hi dX12_layLanes_114 (fun σ5 eq H locs hw => ?_)
                have hf := k_nmE eq hf
                obtain ⟨u6, ex⟩ : ∃ y : Int32, y = (x2 + (1 : Int32)) := ⟨_, rfl⟩
                have hf := k_nmE ex hf
                refine lv_iinc (v := u6) (lv' := [(2, .int u6), (0, .ref (ad 0)), (3, .int x3), (4, .int x4)]) hx hb dX12_layLanes_115 hl (k := 1) rfl (by rw [ex]; rfl) (by decide) rfl (fun ls hl => ?_)
                exact b118 u6 x3 x4 σ5 _ _ _ (lv_sub hl [1, 0, 2, 3] rfl) hw hf
              · have hf := k_ifT h hf
                refine lv_goto (tgt := 118) hx hb dX12_layLanes_84 (by decide) ?_
                exact b118 x2 x3 x4 σ2 _ _ _ (lv_sub hl [0, 1, 2, 3] rfl) hw hf
      intro x2 x3 σ H locs ls hl hw hf
      have hf : f_X12_layLanes_b39_s (f_X12_layLanes_b39 n39) x2 x3 σ = some σ' := hf
      unfold f_X12_layLanes_b39_s at hf
      refine lv_iload_n hx hb dX12_layLanes_39 rfl (lv_at hl 2 rfl) ?_
      refine lv_iload_n hx hb dX12_layLanes_40 rfl (lv_at hl 1 rfl) ?_
      refine lv_icmp_ge (tgt := 130) hx hb dX12_layLanes_41 (by decide) (fun h => ?_) (fun h => ?_)
      · have hf := k_ifT h hf
        exact k_vret C hw hf dX12_layLanes_130
      · have hf := k_ifF h hf
        refine lv_iconst (v := (0 : Int32)) hx hb dX12_layLanes_44 (by decide) ?_
        refine lv_istore (lv' := [(4, .int (0 : Int32)), (0, .ref (ad 0)), (2, .int x2), (3, .int x3)]) hx hb dX12_layLanes_45 hl (by decide) rfl (fun ls hl => ?_)
        exact b47 FU x2 x3 (0 : Int32) σ _ _ _ (lv_sub hl [1, 2, 3, 0] rfl) hw hf
  have b2 : ∀ (n2 : Nat) (x1 : Int32) (x2 : Int32) (σ : MSt) (H : Heap) (locs : List Loc) (ls : Array Slot), lv_has ls 5 [(0, .ref (ad 0)), (1, .int x1), (2, .int x2)] → k_W G w A s.heap σ H locs → f_X12_layLanes_b2 n2 x1 x2 σ = some σ' → W p l e rmX12_layLanes s m [.ref (ad 0), .int p1].toArray below meth c H locs 0 0 (MQ below (k_Qv G w A σ') [.ref (ad 0), .int p1].toArray s 0 0 A) (F0 m 2 ls []) := by
    intro n2
    induction n2 with
    | zero =>
      intro x1 x2 σ H locs ls hl hw hf
      have hf : (none : Option MSt) = some σ' := hf
      cases hf
    | succ n2 ih2 =>
      intro x1 x2 σ H locs ls hl hw hf
      have hf : f_X12_layLanes_b2_s (f_X12_layLanes_b2 n2) x1 x2 σ = some σ' := hf
      unfold f_X12_layLanes_b2_s at hf
      refine lv_iload_n hx hb dX12_layLanes_2 rfl (lv_at hl 2 rfl) ?_
      refine lv_bipush (v := (8 : Int32)) hx hb dX12_layLanes_3 (by decide) ?_
      refine lv_icmp_ge (tgt := 21) hx hb dX12_layLanes_5 (by decide) (fun h => ?_) (fun h => ?_)
      · have hf := k_ifT h hf
        refine lv_aload_n hx hb dX12_layLanes_21 rfl (lv_at hl 0 rfl) ?_
        refine k_get C hw (LM_0 LM) (ci := 12) rfl k_in12 56 (by decide) lk12_114 (v := .ref (ad 31)) rfl dX12_layLanes_22 ?_
        refine lv_iload_n hx hb dX12_layLanes_25 rfl (lv_at hl 1 rfl) ?_
        refine lv_iconst (v := (0 : Int32)) hx hb dX12_layLanes_26 (by decide) ?_
        obtain ⟨hi, hf⟩ := k_ckE hf
        refine k_iast C hw (LM_31 LM) hi dX12_layLanes_27 (fun σ1 eq H locs hw => ?_)
        have hf := k_nmE eq hf
        refine lv_aload_n hx hb dX12_layLanes_28 rfl (lv_at hl 0 rfl) ?_
        refine k_get C hw (LM_0 LM) (ci := 12) rfl k_in12 57 (by decide) lk12_117 (v := .ref (ad 32)) rfl dX12_layLanes_29 ?_
        refine lv_iconst (v := (0 : Int32)) hx hb dX12_layLanes_32 (by decide) ?_
        refine lv_iload_n hx hb dX12_layLanes_33 rfl (lv_at hl 1 rfl) ?_
        obtain ⟨hi, hf⟩ := k_ckE hf
        refine k_iast C hw (LM_32 LM) hi dX12_layLanes_34 (fun σ2 eq H locs hw => ?_)
        have hf := k_nmE eq hf
        refine lv_iconst (v := (1 : Int32)) hx hb dX12_layLanes_35 (by decide) ?_
        refine lv_istore_n (lv' := [(2, .int (1 : Int32)), (0, .ref (ad 0)), (1, .int x1)]) hx hb dX12_layLanes_36 rfl hl (by decide) rfl (fun ls hl => ?_)
        refine lv_iconst (v := (0 : Int32)) hx hb dX12_layLanes_37 (by decide) ?_
        refine lv_istore_n (lv' := [(3, .int (0 : Int32)), (2, .int (1 : Int32)), (0, .ref (ad 0)), (1, .int x1)]) hx hb dX12_layLanes_38 rfl hl (by decide) rfl (fun ls hl => ?_)
        exact b39 FU (1 : Int32) (0 : Int32) σ2 _ _ _ (lv_sub hl [2, 1, 0] rfl) hw hf
      · have hf := k_ifF h hf
        refine lv_aload_n hx hb dX12_layLanes_8 rfl (lv_at hl 0 rfl) ?_
        refine k_get C hw (LM_0 LM) (ci := 12) rfl k_in12 56 (by decide) lk12_114 (v := .ref (ad 31)) rfl dX12_layLanes_9 ?_
        refine lv_iload_n hx hb dX12_layLanes_12 rfl (lv_at hl 2 rfl) ?_
        refine lv_iconst (v := (-1 : Int32)) hx hb dX12_layLanes_13 (by decide) ?_
        obtain ⟨hi, hf⟩ := k_ckE hf
        refine k_iast C hw (LM_31 LM) hi dX12_layLanes_14 (fun σ3 eq H locs hw => ?_)
        have hf := k_nmE eq hf
        obtain ⟨u4, ex⟩ : ∃ y : Int32, y = (x2 + (1 : Int32)) := ⟨_, rfl⟩
        have hf := k_nmE ex hf
        refine lv_iinc (v := u4) (lv' := [(2, .int u4), (0, .ref (ad 0)), (1, .int x1)]) hx hb dX12_layLanes_15 hl (k := 2) rfl (by rw [ex]; rfl) (by decide) rfl (fun ls hl => ?_)
        refine lv_goto (tgt := 2) hx hb dX12_layLanes_18 (by decide) ?_
        exact ih2 x1 u4 σ3 _ _ _ (lv_sub hl [1, 2, 0] rfl) hw hf
  unfold f_X12_layLanes at hf
  refine lv_iconst (v := (0 : Int32)) hx hb dX12_layLanes_0 (by decide) ?_
  refine lv_istore_n (lv' := [(2, .int (0 : Int32)), (0, .ref (ad 0)), (1, .int p1)]) hx hb dX12_layLanes_1 rfl hl (by decide) rfl (fun ls hl => ?_)
  exact b2 FU p1 (0 : Int32) σ _ _ _ (lv_sub hl [1, 2, 0] rfl) hw hf
def f_X12_bids_b171  (y0 : Int32) (σ : MSt) : Option (Int32 × MSt) :=
  some (y0, σ)
def f_X12_bids_b156  (r61 : Int32 → Int32 → Int32 → Int32 → MSt → Option (Int32 × MSt)) (x1 : Int32) (x2 : Int32) (x3 : Int32) (x4 : Int32) (σ : MSt) : Option (Int32 × MSt) :=
  k_nm (x4 + (1 : Int32)) fun u1 =>
  r61 x1 x2 x3 u1 σ
def f_X12_bids_b139  (r61 : Int32 → Int32 → Int32 → Int32 → MSt → Option (Int32 × MSt)) (x1 : Int32) (x2 : Int32) (x3 : Int32) (x4 : Int32) (y0 : Int32) (σ : MSt) : Option (Int32 × MSt) :=
  if x3 < y0 then
  (f_X12_bids_b156 r61 x1 x4 y0 x4 σ)
  else
  (f_X12_bids_b156 r61 x1 x2 x3 x4 σ)
def f_X12_bids_b61_s  (r61 : Int32 → Int32 → Int32 → Int32 → MSt → Option (Int32 × MSt)) (x1 : Int32) (x2 : Int32) (x3 : Int32) (x4 : Int32) (σ : MSt) : Option (Int32 × MSt) :=
  k_ck (k_inb (0 : Int32) 18) <|
  if (σ.1 2 ((0 : Int32)).toNatClampNeg) ≤ x4 then
  (if x1 = 0 then
  (f_X12_bids_b171 x2 σ)
  else
  (f_X12_bids_b171 x3 σ))
  else
  (k_ck (k_inb (0 : Int32) 24) <|
  k_bv (f_X12_foresees (0 : Int32) x4 (σ.1 17 ((0 : Int32)).toNatClampNeg) (-1 : Int32) σ) fun σ1 =>
  k_ck (k_inb x4 8) <|
  if (σ1.1 31 (x4).toNatClampNeg) = (-1 : Int32) then
  (f_X12_bids_b139 r61 x1 x2 x3 x4 (0 : Int32) σ1)
  else
  (k_ck (k_inb (0 : Int32) 24) <|
  k_bd (f_X12_moodBy (σ1.1 0 51) (σ1.1 0 52) (σ1.1 0 53) (σ1.1 17 ((0 : Int32)).toNatClampNeg) (0 : Int32) σ1) fun q3 σ2 =>
  k_ck (k_inb x4 8) <|
  f_X12_bids_b139 r61 x1 x2 x3 x4 (k_max (0 : Int32) (q3 - ((10 : Int32) * (σ2.1 31 (x4).toNatClampNeg)))) σ2))
def f_X12_bids_b61  : Nat → Int32 → Int32 → Int32 → Int32 → MSt → Option (Int32 × MSt)
  | 0 => fun _ _ _ _ _ => none
  | n + 1 => f_X12_bids_b61_s (f_X12_bids_b61 n)
def f_X12_bids_b51  (x1 : Int32) (y1 : Int32) (σ : MSt) : Option (Int32 × MSt) :=
  k_bv (f_X12_layLanes y1 σ) fun σ1 =>
  f_X12_bids_b61 FU x1 (0 : Int32) (-1 : Int32) (0 : Int32) σ1
def f_X12_bids_b23   (σ : MSt) : Option (Int32 × MSt) :=
  some ((-1 : Int32), σ)
def f_X12_bids  (p1 : Int32) (σ : MSt) : Option (Int32 × MSt) :=
  k_nm (mI σ 0 0 (0 : Int32)) fun σ1 =>
  if p1 < 0 then
  (f_X12_bids_b23 σ1)
  else
  (if (1 : Int32) < p1 then
  (f_X12_bids_b23 σ1)
  else
  (k_ck (k_inb (0 : Int32) 18) <|
  if (σ1.1 2 ((0 : Int32)).toNatClampNeg) = 0 then
  (f_X12_bids_b23 σ1)
  else
  (k_ck (k_inb (0 : Int32) 24) <|
  if (σ1.1 19 ((0 : Int32)).toNatClampNeg) = (-1 : Int32) then
  (k_ck (k_inb (0 : Int32) 24) <|
  f_X12_bids_b51 p1 (σ1.1 18 ((0 : Int32)).toNatClampNeg) σ1)
  else
  (k_ck (k_inb (0 : Int32) 24) <|
  f_X12_bids_b51 p1 (σ1.1 19 ((0 : Int32)).toNatClampNeg) σ1))))
def rmX12_bids : Room := { frames := 4, cells := 0, slots := 0, locals := 98 }
set_option maxHeartbeats 4000000 in
set_option maxRecDepth 100000 in
theorem c_X12_bids (l : Launch) (G : va_G) (Y : CY) (w : MSt → va_W) (ad : Nat → Nat)  (LM : LayM ad w Y) (p1 : Int32) (σ : MSt) (r : Int32) (σ' : MSt) (hf : f_X12_bids p1 σ = some (r, σ')) : k_Mi l yX12_bids wsX12_bids rmX12_bids G Y w [.ref (ad 0), .int p1] σ r σ' := by
  refine k_ofi (own := RX12) (cc := cX12_bids) (maxL := 6) (some .int) (by decide) rfl rfl (Nat.le_of_ble_eq_true rfl) ?_
  intro p e s m below meth c A C ls hl hw
  have hx := C.1
  have hb := C.2.1
  have hown := C.2.2.2.2.1
  have hts := C.2.2.2.2.2.1
  have hks := C.2.2.2.2.2.2.1
  have hl : lv_has ls 6 [(0, .ref (ad 0)), (1, .int p1)] := hl
  have b171 : ∀ (y0 : Int32) (σ : MSt) (H : Heap) (locs : List Loc) (ls : Array Slot), lv_has ls 6 [] → k_W G w A s.heap σ H locs → f_X12_bids_b171 y0 σ = some (r, σ') → W p l e rmX12_bids s m [.ref (ad 0), .int p1].toArray below meth c H locs 0 0 (MQ below (k_Qi G w A r σ') [.ref (ad 0), .int p1].toArray s 0 0 A) (F0 m 171 ls [.int y0]) := by
    intro y0 σ H locs ls hl hw hf
    unfold f_X12_bids_b171 at hf
    exact k_iret C hw hf dX12_bids_171
  have b61 : ∀ (n61 : Nat) (x1 : Int32) (x2 : Int32) (x3 : Int32) (x4 : Int32) (σ : MSt) (H : Heap) (locs : List Loc) (ls : Array Slot), lv_has ls 6 [(0, .ref (ad 0)), (1, .int x1), (2, .int x2), (3, .int x3), (4, .int x4)] → k_W G w A s.heap σ H locs → f_X12_bids_b61 n61 x1 x2 x3 x4 σ = some (r, σ') → W p l e rmX12_bids s m [.ref (ad 0), .int p1].toArray below meth c H locs 0 0 (MQ below (k_Qi G w A r σ') [.ref (ad 0), .int p1].toArray s 0 0 A) (F0 m 61 ls []) := by
    intro n61
    induction n61 with
    | zero =>
      intro x1 x2 x3 x4 σ H locs ls hl hw hf
      have hf : (none : Option (Int32 × MSt)) = some (r, σ') := hf
      cases hf
    | succ n61 ih61 =>
      have b156 : ∀ (x1 : Int32) (x2 : Int32) (x3 : Int32) (x4 : Int32) (σ : MSt) (H : Heap) (locs : List Loc) (ls : Array Slot), lv_has ls 6 [(0, .ref (ad 0)), (1, .int x1), (2, .int x2), (3, .int x3), (4, .int x4)] → k_W G w A s.heap σ H locs → f_X12_bids_b156 (f_X12_bids_b61 n61) x1 x2 x3 x4 σ = some (r, σ') → W p l e rmX12_bids s m [.ref (ad 0), .int p1].toArray below meth c H locs 0 0 (MQ below (k_Qi G w A r σ') [.ref (ad 0), .int p1].toArray s 0 0 A) (F0 m 156 ls []) := by
        intro x1 x2 x3 x4 σ H locs ls hl hw hf
        unfold f_X12_bids_b156 at hf
        obtain ⟨u1, ex⟩ : ∃ y : Int32, y = (x4 + (1 : Int32)) := ⟨_, rfl⟩
        have hf := k_nmE ex hf
        refine lv_iinc (v := u1) (lv' := [(4, .int u1), (0, .ref (ad 0)), (1, .int x1), (2, .int x2), (3, .int x3)]) hx hb dX12_bids_156 hl (k := 4) rfl (by rw [ex]; rfl) (by decide) rfl (fun ls hl => ?_)
        refine lv_goto (tgt := 61) hx hb dX12_bids_159 (by decide) ?_
        exact ih61 x1 x2 x3 u1 σ _ _ _ (lv_sub hl [1, 2, 3, 4, 0] rfl) hw hf
      have b139 : ∀ (x1 : Int32) (x2 : Int32) (x3 : Int32) (x4 : Int32) (y0 : Int32) (σ : MSt) (H : Heap) (locs : List Loc) (ls : Array Slot), lv_has ls 6 [(0, .ref (ad 0)), (1, .int x1), (2, .int x2), (3, .int x3), (4, .int x4)] → k_W G w A s.heap σ H locs → f_X12_bids_b139 (f_X12_bids_b61 n61) x1 x2 x3 x4 y0 σ = some (r, σ') → W p l e rmX12_bids s m [.ref (ad 0), .int p1].toArray below meth c H locs 0 0 (MQ below (k_Qi G w A r σ') [.ref (ad 0), .int p1].toArray s 0 0 A) (F0 m 139 ls [.int y0]) := by
        intro x1 x2 x3 x4 y0 σ H locs ls hl hw hf
        unfold f_X12_bids_b139 at hf
        refine lv_istore (lv' := [(5, .int y0), (0, .ref (ad 0)), (1, .int x1), (2, .int x2), (3, .int x3), (4, .int x4)]) hx hb dX12_bids_139 hl (by decide) rfl (fun ls hl => ?_)
        refine lv_iload hx hb dX12_bids_141 (lv_at hl 0 rfl) ?_
        refine lv_iload_n hx hb dX12_bids_143 rfl (lv_at hl 4 rfl) ?_
        refine lv_icmp_gt (tgt := 150) hx hb dX12_bids_144 (by decide) (fun h => ?_) (fun h => ?_)
        · have hf := k_ifT h hf
          refine lv_iload hx hb dX12_bids_150 (lv_at hl 5 rfl) ?_
          refine lv_istore_n (lv' := [(2, .int x4), (5, .int y0), (0, .ref (ad 0)), (1, .int x1), (3, .int x3), (4, .int x4)]) hx hb dX12_bids_152 rfl hl (by decide) rfl (fun ls hl => ?_)
          refine lv_iload hx hb dX12_bids_153 (lv_at hl 1 rfl) ?_
          refine lv_istore_n (lv' := [(3, .int y0), (2, .int x4), (5, .int y0), (0, .ref (ad 0)), (1, .int x1), (4, .int x4)]) hx hb dX12_bids_155 rfl hl (by decide) rfl (fun ls hl => ?_)
          exact b156 x1 x4 y0 x4 σ _ _ _ (lv_sub hl [3, 4, 1, 0, 5] rfl) hw hf
        · have hf := k_ifF h hf
          refine lv_goto (tgt := 156) hx hb dX12_bids_147 (by decide) ?_
          exact b156 x1 x2 x3 x4 σ _ _ _ (lv_sub hl [1, 2, 3, 4, 5] rfl) hw hf
      intro x1 x2 x3 x4 σ H locs ls hl hw hf
      have hf : f_X12_bids_b61_s (f_X12_bids_b61 n61) x1 x2 x3 x4 σ = some (r, σ') := hf
      unfold f_X12_bids_b61_s at hf
      refine lv_iload hx hb dX12_bids_61 (lv_at hl 4 rfl) ?_
      refine lv_aload_n hx hb dX12_bids_63 rfl (lv_at hl 0 rfl) ?_
      refine k_get C hw (LM_0 LM) (ci := 12) rfl k_in12 3 (by decide) lk12_13 (v := .ref (ad 2)) rfl dX12_bids_64 ?_
      refine lv_iconst (v := (0 : Int32)) hx hb dX12_bids_67 (by decide) ?_
      obtain ⟨hi, hf⟩ := k_ckE hf
      refine k_iald C hw (LM_2 LM) hi dX12_bids_68 ?_
      refine lv_icmp_ge (tgt := 162) hx hb dX12_bids_69 (by decide) (fun h => ?_) (fun h => ?_)
      · have hf := k_ifT h hf
        refine lv_iload_n hx hb dX12_bids_162 rfl (lv_at hl 1 rfl) ?_
        refine lv_if_ne (tgt := 170) hx hb dX12_bids_163 (by decide) (fun h => ?_) (fun h => ?_)
        · have hf := k_ifF h hf
          refine lv_iload_n hx hb dX12_bids_170 rfl (lv_at hl 3 rfl) ?_
          exact b171 x3 σ _ _ _ (lv_sub hl [] rfl) hw hf
        · have hf := k_ifT h hf
          refine lv_iload_n hx hb dX12_bids_166 rfl (lv_at hl 2 rfl) ?_
          refine lv_goto (tgt := 171) hx hb dX12_bids_167 (by decide) ?_
          exact b171 x2 σ _ _ _ (lv_sub hl [] rfl) hw hf
      · have hf := k_ifF h hf
        refine lv_aload_n hx hb dX12_bids_72 rfl (lv_at hl 0 rfl) ?_
        refine lv_iconst (v := (0 : Int32)) hx hb dX12_bids_73 (by decide) ?_
        refine lv_iload hx hb dX12_bids_74 (lv_at hl 4 rfl) ?_
        refine lv_aload_n hx hb dX12_bids_76 rfl (lv_at hl 0 rfl) ?_
        refine k_get C hw (LM_0 LM) (ci := 12) rfl k_in12 32 (by decide) lk12_63 (v := .ref (ad 17)) rfl dX12_bids_77 ?_
        refine lv_iconst (v := (0 : Int32)) hx hb dX12_bids_80 (by decide) ?_
        obtain ⟨hi, hf⟩ := k_ckE hf
        refine k_iald C hw (LM_17 LM) hi dX12_bids_81 ?_
        refine lv_iconst (v := (-1 : Int32)) hx hb dX12_bids_82 (by decide) ?_
        obtain ⟨σ1, hq, hf⟩ := k_bvE hf
        refine k_callVv C hw (c_X12_foresees l G Y w ad LM (0 : Int32) x4 (σ.1 17 ((0 : Int32)).toNatClampNeg) (-1 : Int32) σ σ1 hq) (cwV 4 hts gX12_bids_X12_foresees rfl rfl rfl (by decide +kernel) ⟨Nat.le_of_ble_eq_true rfl, Nat.le_of_ble_eq_true rfl⟩) (k_recv C hw (LM_0 LM) rfl) rfl hl.1 rfl (Nat.le_of_ble_eq_true rfl) dX12_bids_83 (fun H locs hw => ?_)
        refine lv_aload_n hx hb dX12_bids_86 rfl (lv_at hl 0 rfl) ?_
        refine k_get C hw (LM_0 LM) (ci := 12) rfl k_in12 56 (by decide) lk12_114 (v := .ref (ad 31)) rfl dX12_bids_87 ?_
        refine lv_iload hx hb dX12_bids_90 (lv_at hl 4 rfl) ?_
        obtain ⟨hi, hf⟩ := k_ckE hf
        refine k_iald C hw (LM_31 LM) hi dX12_bids_92 ?_
        refine lv_iconst (v := (-1 : Int32)) hx hb dX12_bids_93 (by decide) ?_
        refine lv_icmp_ne (tgt := 101) hx hb dX12_bids_94 (by decide) (fun h => ?_) (fun h => ?_)
        · have hf := k_ifF h hf
          refine lv_iconst (v := (0 : Int32)) hx hb dX12_bids_101 (by decide) ?_
          refine lv_aload_n hx hb dX12_bids_102 rfl (lv_at hl 0 rfl) ?_
          refine lv_aload_n hx hb dX12_bids_103 rfl (lv_at hl 0 rfl) ?_
          refine k_get C hw (LM_0 LM) (ci := 12) rfl k_in12 51 (by decide) lk12_370 (v := .int (σ1.1 0 51)) rfl dX12_bids_104 ?_
          refine lv_aload_n hx hb dX12_bids_107 rfl (lv_at hl 0 rfl) ?_
          refine k_get C hw (LM_0 LM) (ci := 12) rfl k_in12 52 (by decide) lk12_373 (v := .int (σ1.1 0 52)) rfl dX12_bids_108 ?_
          refine lv_aload_n hx hb dX12_bids_111 rfl (lv_at hl 0 rfl) ?_
          refine k_get C hw (LM_0 LM) (ci := 12) rfl k_in12 53 (by decide) lk12_376 (v := .int (σ1.1 0 53)) rfl dX12_bids_112 ?_
          refine lv_aload_n hx hb dX12_bids_115 rfl (lv_at hl 0 rfl) ?_
          refine k_get C hw (LM_0 LM) (ci := 12) rfl k_in12 32 (by decide) lk12_63 (v := .ref (ad 17)) rfl dX12_bids_116 ?_
          refine lv_iconst (v := (0 : Int32)) hx hb dX12_bids_119 (by decide) ?_
          obtain ⟨hi, hf⟩ := k_ckE hf
          refine k_iald C hw (LM_17 LM) hi dX12_bids_120 ?_
          refine lv_iconst (v := (0 : Int32)) hx hb dX12_bids_121 (by decide) ?_
          obtain ⟨q3, σ2, hq, hf⟩ := k_bdE hf
          refine k_callVi C hw (c_X12_moodBy l G Y w ad LM (σ1.1 0 51) (σ1.1 0 52) (σ1.1 0 53) (σ1.1 17 ((0 : Int32)).toNatClampNeg) (0 : Int32) σ1 q3 σ2 hq) (cwV 5 hts gX12_bids_X12_moodBy rfl rfl rfl (by decide +kernel) ⟨Nat.le_of_ble_eq_true rfl, Nat.le_of_ble_eq_true rfl⟩) (k_recv C hw (LM_0 LM) rfl) rfl hl.1 rfl (Nat.le_of_ble_eq_true rfl) dX12_bids_122 (fun H locs hw => ?_)
          refine lv_bipush (v := (10 : Int32)) hx hb dX12_bids_125 (by decide) ?_
          refine lv_aload_n hx hb dX12_bids_127 rfl (lv_at hl 0 rfl) ?_
          refine k_get C hw (LM_0 LM) (ci := 12) rfl k_in12 56 (by decide) lk12_114 (v := .ref (ad 31)) rfl dX12_bids_128 ?_
          refine lv_iload hx hb dX12_bids_131 (lv_at hl 4 rfl) ?_
          obtain ⟨hi, hf⟩ := k_ckE hf
          refine k_iald C hw (LM_31 LM) hi dX12_bids_133 ?_
          refine lv_imul hx hb dX12_bids_134 ?_
          refine lv_isub hx hb dX12_bids_135 ?_
          refine k_mmax C hl.1 ml12_385 ms_Lib_Math_max_name mi_Math mc_Lib_Math_max_name (Nat.le_of_ble_eq_true rfl) (Nat.le_of_ble_eq_true rfl) dX12_bids_136 ?_
          exact b139 x1 x2 x3 x4 (k_max (0 : Int32) (q3 - ((10 : Int32) * (σ2.1 31 (x4).toNatClampNeg)))) σ2 _ _ _ (lv_sub hl [0, 1, 2, 3, 4] rfl) hw hf
        · have hf := k_ifT h hf
          refine lv_iconst (v := (0 : Int32)) hx hb dX12_bids_97 (by decide) ?_
          refine lv_goto (tgt := 139) hx hb dX12_bids_98 (by decide) ?_
          exact b139 x1 x2 x3 x4 (0 : Int32) σ1 _ _ _ (lv_sub hl [0, 1, 2, 3, 4] rfl) hw hf
  have b51 : ∀ (x1 : Int32) (y1 : Int32) (σ : MSt) (H : Heap) (locs : List Loc) (ls : Array Slot), lv_has ls 6 [(0, .ref (ad 0)), (1, .int x1)] → k_W G w A s.heap σ H locs → f_X12_bids_b51 x1 y1 σ = some (r, σ') → W p l e rmX12_bids s m [.ref (ad 0), .int p1].toArray below meth c H locs 0 0 (MQ below (k_Qi G w A r σ') [.ref (ad 0), .int p1].toArray s 0 0 A) (F0 m 51 ls [.int y1, .ref (ad 0)]) := by
    intro x1 y1 σ H locs ls hl hw hf
    unfold f_X12_bids_b51 at hf
    obtain ⟨σ1, hq, hf⟩ := k_bvE hf
    refine k_callVv C hw (c_X12_layLanes l G Y w ad LM y1 σ σ1 hq) (cwV 1 hts gX12_bids_X12_layLanes rfl rfl rfl (by decide +kernel) ⟨Nat.le_of_ble_eq_true rfl, Nat.le_of_ble_eq_true rfl⟩) (k_recv C hw (LM_0 LM) rfl) rfl hl.1 rfl (Nat.le_of_ble_eq_true rfl) dX12_bids_51 (fun H locs hw => ?_)
    refine lv_iconst (v := (0 : Int32)) hx hb dX12_bids_54 (by decide) ?_
    refine lv_istore_n (lv' := [(2, .int (0 : Int32)), (0, .ref (ad 0)), (1, .int x1)]) hx hb dX12_bids_55 rfl hl (by decide) rfl (fun ls hl => ?_)
    refine lv_iconst (v := (-1 : Int32)) hx hb dX12_bids_56 (by decide) ?_
    refine lv_istore_n (lv' := [(3, .int (-1 : Int32)), (2, .int (0 : Int32)), (0, .ref (ad 0)), (1, .int x1)]) hx hb dX12_bids_57 rfl hl (by decide) rfl (fun ls hl => ?_)
    refine lv_iconst (v := (0 : Int32)) hx hb dX12_bids_58 (by decide) ?_
    refine lv_istore (lv' := [(4, .int (0 : Int32)), (3, .int (-1 : Int32)), (2, .int (0 : Int32)), (0, .ref (ad 0)), (1, .int x1)]) hx hb dX12_bids_59 hl (by decide) rfl (fun ls hl => ?_)
    exact b61 FU x1 (0 : Int32) (-1 : Int32) (0 : Int32) σ1 _ _ _ (lv_sub hl [3, 4, 2, 1, 0] rfl) hw hf
  have b23 : ∀ (σ : MSt) (H : Heap) (locs : List Loc) (ls : Array Slot), lv_has ls 6 [] → k_W G w A s.heap σ H locs → f_X12_bids_b23 σ = some (r, σ') → W p l e rmX12_bids s m [.ref (ad 0), .int p1].toArray below meth c H locs 0 0 (MQ below (k_Qi G w A r σ') [.ref (ad 0), .int p1].toArray s 0 0 A) (F0 m 23 ls []) := by
    intro σ H locs ls hl hw hf
    unfold f_X12_bids_b23 at hf
    refine lv_iconst (v := (-1 : Int32)) hx hb dX12_bids_23 (by decide) ?_
    exact k_iret C hw hf dX12_bids_24
  unfold f_X12_bids at hf
  refine lv_aload_n hx hb dX12_bids_0 rfl (lv_at hl 0 rfl) ?_
  refine lv_iconst (v := (0 : Int32)) hx hb dX12_bids_1 (by decide) ?_
  refine k_put C hw (LM_0 LM) (ci := 12) rfl k_in12 tyX12 tyX12_ok nmX12 0 (by decide) lk12_145 rfl ⟨rfl, rfl⟩ rfl dX12_bids_2 (fun σ1 eq H locs hw => ?_)
  have hf := k_nmE eq hf
  refine lv_iload_n hx hb dX12_bids_5 rfl (lv_at hl 1 rfl) ?_
  refine lv_if_lt (tgt := 23) hx hb dX12_bids_6 (by decide) (fun h => ?_) (fun h => ?_)
  · have hf := k_ifT h hf
    exact b23 σ1 _ _ _ (lv_sub hl [] rfl) hw hf
  · have hf := k_ifF h hf
    refine lv_iload_n hx hb dX12_bids_9 rfl (lv_at hl 1 rfl) ?_
    refine lv_iconst (v := (1 : Int32)) hx hb dX12_bids_10 (by decide) ?_
    refine lv_icmp_gt (tgt := 23) hx hb dX12_bids_11 (by decide) (fun h => ?_) (fun h => ?_)
    · have hf := k_ifT h hf
      exact b23 σ1 _ _ _ (lv_sub hl [] rfl) hw hf
    · have hf := k_ifF h hf
      refine lv_aload_n hx hb dX12_bids_14 rfl (lv_at hl 0 rfl) ?_
      refine k_get C hw (LM_0 LM) (ci := 12) rfl k_in12 3 (by decide) lk12_13 (v := .ref (ad 2)) rfl dX12_bids_15 ?_
      refine lv_iconst (v := (0 : Int32)) hx hb dX12_bids_18 (by decide) ?_
      obtain ⟨hi, hf⟩ := k_ckE hf
      refine k_iald C hw (LM_2 LM) hi dX12_bids_19 ?_
      refine lv_if_ne (tgt := 25) hx hb dX12_bids_20 (by decide) (fun h => ?_) (fun h => ?_)
      · have hf := k_ifF h hf
        refine lv_aload_n hx hb dX12_bids_25 rfl (lv_at hl 0 rfl) ?_
        refine lv_aload_n hx hb dX12_bids_26 rfl (lv_at hl 0 rfl) ?_
        refine k_get C hw (LM_0 LM) (ci := 12) rfl k_in12 34 (by decide) lk12_69 (v := .ref (ad 19)) rfl dX12_bids_27 ?_
        refine lv_iconst (v := (0 : Int32)) hx hb dX12_bids_30 (by decide) ?_
        obtain ⟨hi, hf⟩ := k_ckE hf
        refine k_iald C hw (LM_19 LM) hi dX12_bids_31 ?_
        refine lv_iconst (v := (-1 : Int32)) hx hb dX12_bids_32 (by decide) ?_
        refine lv_icmp_ne (tgt := 45) hx hb dX12_bids_33 (by decide) (fun h => ?_) (fun h => ?_)
        · have hf := k_ifF h hf
          refine lv_aload_n hx hb dX12_bids_45 rfl (lv_at hl 0 rfl) ?_
          refine k_get C hw (LM_0 LM) (ci := 12) rfl k_in12 34 (by decide) lk12_69 (v := .ref (ad 19)) rfl dX12_bids_46 ?_
          refine lv_iconst (v := (0 : Int32)) hx hb dX12_bids_49 (by decide) ?_
          obtain ⟨hi, hf⟩ := k_ckE hf
          refine k_iald C hw (LM_19 LM) hi dX12_bids_50 ?_
          exact b51 p1 (σ1.1 19 ((0 : Int32)).toNatClampNeg) σ1 _ _ _ (lv_sub hl [0, 1] rfl) hw hf
        · have hf := k_ifT h hf
          refine lv_aload_n hx hb dX12_bids_36 rfl (lv_at hl 0 rfl) ?_
          refine k_get C hw (LM_0 LM) (ci := 12) rfl k_in12 33 (by decide) lk12_66 (v := .ref (ad 18)) rfl dX12_bids_37 ?_
          refine lv_iconst (v := (0 : Int32)) hx hb dX12_bids_40 (by decide) ?_
          obtain ⟨hi, hf⟩ := k_ckE hf
          refine k_iald C hw (LM_18 LM) hi dX12_bids_41 ?_
          refine lv_goto (tgt := 51) hx hb dX12_bids_42 (by decide) ?_
          exact b51 p1 (σ1.1 18 ((0 : Int32)).toNatClampNeg) σ1 _ _ _ (lv_sub hl [0, 1] rfl) hw hf
      · have hf := k_ifT h hf
        exact b23 σ1 _ _ _ (lv_sub hl [] rfl) hw hf
def f_X12_shareOf_b22  (y0 : Int32) (σ : MSt) : Option (Int32 × MSt) :=
  some (y0, σ)
def f_X12_shareOf  (p1 : Int32) (p2 : Int32) (σ : MSt) : Option (Int32 × MSt) :=
  if p1 = p2 then
  (k_ck (k_inb p1 8) <|
  f_X12_shareOf_b22 ((σ.1 33 (p1).toNatClampNeg) / (2 : Int32)) σ)
  else
  (k_ck (k_inb p1 8) <|
  f_X12_shareOf_b22 (σ.1 33 (p1).toNatClampNeg) σ)
def rmX12_shareOf : Room := { frames := 0, cells := 0, slots := 0, locals := 0 }
set_option maxHeartbeats 4000000 in
set_option maxRecDepth 100000 in
theorem c_X12_shareOf (l : Launch) (G : va_G) (Y : CY) (w : MSt → va_W) (ad : Nat → Nat)  (LM : LayM ad w Y) (p1 : Int32) (p2 : Int32) (σ : MSt) (r : Int32) (σ' : MSt) (hf : f_X12_shareOf p1 p2 σ = some (r, σ')) : k_Mi l yX12_shareOf wsX12_shareOf rmX12_shareOf G Y w [.ref (ad 0), .int p1, .int p2] σ r σ' := by
  refine k_ofi (own := RX12) (cc := cX12_shareOf) (maxL := 3) (some .int) (by decide) rfl rfl (Nat.le_of_ble_eq_true rfl) ?_
  intro p e s m below meth c A C ls hl hw
  have hx := C.1
  have hb := C.2.1
  have hown := C.2.2.2.2.1
  have hts := C.2.2.2.2.2.1
  have hks := C.2.2.2.2.2.2.1
  have hl : lv_has ls 3 [(0, .ref (ad 0)), (1, .int p1), (2, .int p2)] := hl
  have b22 : ∀ (y0 : Int32) (σ : MSt) (H : Heap) (locs : List Loc) (ls : Array Slot), lv_has ls 3 [] → k_W G w A s.heap σ H locs → f_X12_shareOf_b22 y0 σ = some (r, σ') → W p l e rmX12_shareOf s m [.ref (ad 0), .int p1, .int p2].toArray below meth c H locs 0 0 (MQ below (k_Qi G w A r σ') [.ref (ad 0), .int p1, .int p2].toArray s 0 0 A) (F0 m 22 ls [.int y0]) := by
    intro y0 σ H locs ls hl hw hf
    unfold f_X12_shareOf_b22 at hf
    exact k_iret C hw hf dX12_shareOf_22
  unfold f_X12_shareOf at hf
  refine lv_iload_n hx hb dX12_shareOf_0 rfl (lv_at hl 1 rfl) ?_
  refine lv_iload_n hx hb dX12_shareOf_1 rfl (lv_at hl 2 rfl) ?_
  refine lv_icmp_ne (tgt := 16) hx hb dX12_shareOf_2 (by decide) (fun h => ?_) (fun h => ?_)
  · have hf := k_ifF h hf
    refine lv_aload_n hx hb dX12_shareOf_16 rfl (lv_at hl 0 rfl) ?_
    refine k_get C hw (LM_0 LM) (ci := 12) rfl k_in12 58 (by decide) lk12_120 (v := .ref (ad 33)) rfl dX12_shareOf_17 ?_
    refine lv_iload_n hx hb dX12_shareOf_20 rfl (lv_at hl 1 rfl) ?_
    obtain ⟨hi, hf⟩ := k_ckE hf
    refine k_iald C hw (LM_33 LM) hi dX12_shareOf_21 ?_
    exact b22 (σ.1 33 (p1).toNatClampNeg) σ _ _ _ (lv_sub hl [] rfl) hw hf
  · have hf := k_ifT h hf
    refine lv_aload_n hx hb dX12_shareOf_5 rfl (lv_at hl 0 rfl) ?_
    refine k_get C hw (LM_0 LM) (ci := 12) rfl k_in12 58 (by decide) lk12_120 (v := .ref (ad 33)) rfl dX12_shareOf_6 ?_
    refine lv_iload_n hx hb dX12_shareOf_9 rfl (lv_at hl 1 rfl) ?_
    obtain ⟨hi, hf⟩ := k_ckE hf
    refine k_iald C hw (LM_33 LM) hi dX12_shareOf_10 ?_
    refine lv_iconst (v := (2 : Int32)) hx hb dX12_shareOf_11 (by decide) ?_
    refine lv_idiv hx hb dX12_shareOf_12 (by decide) ?_
    refine lv_goto (tgt := 22) hx hb dX12_shareOf_13 (by decide) ?_
    exact b22 ((σ.1 33 (p1).toNatClampNeg) / (2 : Int32)) σ _ _ _ (lv_sub hl [] rfl) hw hf
def f_X12_isRest_b42   (σ : MSt) : Option (Int32 × MSt) :=
  some ((0 : Int32), σ)
def f_X12_isRest_b2_s  (r2 : Int32 → Int32 → Int32 → MSt → Option (Int32 × MSt)) (x1 : Int32) (x2 : Int32) (x3 : Int32) (σ : MSt) : Option (Int32 × MSt) :=
  k_ck (k_inb (0 : Int32) 18) <|
  if (σ.1 2 ((0 : Int32)).toNatClampNeg) ≤ x3 then
  (some ((1 : Int32), σ))
  else
  (k_bd (f_X12_shareOf x3 x2 σ) fun q2 σ1 =>
  k_bd (f_X12_shareOf x1 x2 σ1) fun q4 σ3 =>
  if q4 < q2 then
  (f_X12_isRest_b42 σ3)
  else
  (k_bd (f_X12_shareOf x3 x1 σ3) fun q6 σ5 =>
  k_bd (f_X12_shareOf x2 x1 σ5) fun q8 σ7 =>
  if q6 ≤ q8 then
  (k_nm (x3 + (1 : Int32)) fun u9 =>
  r2 x1 x2 u9 σ7)
  else
  (f_X12_isRest_b42 σ7)))
def f_X12_isRest_b2  : Nat → Int32 → Int32 → Int32 → MSt → Option (Int32 × MSt)
  | 0 => fun _ _ _ _ => none
  | n + 1 => f_X12_isRest_b2_s (f_X12_isRest_b2 n)
def f_X12_isRest  (p1 : Int32) (p2 : Int32) (σ : MSt) : Option (Int32 × MSt) :=
  f_X12_isRest_b2 FU p1 p2 (0 : Int32) σ
def rmX12_isRest : Room := { frames := 1, cells := 0, slots := 0, locals := 22 }
set_option maxHeartbeats 4000000 in
set_option maxRecDepth 100000 in
theorem c_X12_isRest (l : Launch) (G : va_G) (Y : CY) (w : MSt → va_W) (ad : Nat → Nat)  (LM : LayM ad w Y) (p1 : Int32) (p2 : Int32) (σ : MSt) (r : Int32) (σ' : MSt) (hf : f_X12_isRest p1 p2 σ = some (r, σ')) : k_Mi l yX12_isRest wsX12_isRest rmX12_isRest G Y w [.ref (ad 0), .int p1, .int p2] σ r σ' := by
  refine k_ofi (own := RX12) (cc := cX12_isRest) (maxL := 4) (some .boolean) (by decide) rfl rfl (Nat.le_of_ble_eq_true rfl) ?_
  intro p e s m below meth c A C ls hl hw
  have hx := C.1
  have hb := C.2.1
  have hown := C.2.2.2.2.1
  have hts := C.2.2.2.2.2.1
  have hks := C.2.2.2.2.2.2.1
  have hl : lv_has ls 4 [(0, .ref (ad 0)), (1, .int p1), (2, .int p2)] := hl
  have b42 : ∀ (σ : MSt) (H : Heap) (locs : List Loc) (ls : Array Slot), lv_has ls 4 [] → k_W G w A s.heap σ H locs → f_X12_isRest_b42 σ = some (r, σ') → W p l e rmX12_isRest s m [.ref (ad 0), .int p1, .int p2].toArray below meth c H locs 0 0 (MQ below (k_Qi G w A r σ') [.ref (ad 0), .int p1, .int p2].toArray s 0 0 A) (F0 m 42 ls []) := by
    intro σ H locs ls hl hw hf
    unfold f_X12_isRest_b42 at hf
    refine lv_iconst (v := (0 : Int32)) hx hb dX12_isRest_42 (by decide) ?_
    exact k_zret C hw rfl hf dX12_isRest_43
  have b2 : ∀ (n2 : Nat) (x1 : Int32) (x2 : Int32) (x3 : Int32) (σ : MSt) (H : Heap) (locs : List Loc) (ls : Array Slot), lv_has ls 4 [(0, .ref (ad 0)), (1, .int x1), (2, .int x2), (3, .int x3)] → k_W G w A s.heap σ H locs → f_X12_isRest_b2 n2 x1 x2 x3 σ = some (r, σ') → W p l e rmX12_isRest s m [.ref (ad 0), .int p1, .int p2].toArray below meth c H locs 0 0 (MQ below (k_Qi G w A r σ') [.ref (ad 0), .int p1, .int p2].toArray s 0 0 A) (F0 m 2 ls []) := by
    intro n2
    induction n2 with
    | zero =>
      intro x1 x2 x3 σ H locs ls hl hw hf
      have hf : (none : Option (Int32 × MSt)) = some (r, σ') := hf
      cases hf
    | succ n2 ih2 =>
      intro x1 x2 x3 σ H locs ls hl hw hf
      have hf : f_X12_isRest_b2_s (f_X12_isRest_b2 n2) x1 x2 x3 σ = some (r, σ') := hf
      unfold f_X12_isRest_b2_s at hf
      refine lv_iload_n hx hb dX12_isRest_2 rfl (lv_at hl 3 rfl) ?_
      refine lv_aload_n hx hb dX12_isRest_3 rfl (lv_at hl 0 rfl) ?_
      refine k_get C hw (LM_0 LM) (ci := 12) rfl k_in12 3 (by decide) lk12_13 (v := .ref (ad 2)) rfl dX12_isRest_4 ?_
      refine lv_iconst (v := (0 : Int32)) hx hb dX12_isRest_7 (by decide) ?_
      obtain ⟨hi, hf⟩ := k_ckE hf
      refine k_iald C hw (LM_2 LM) hi dX12_isRest_8 ?_
      refine lv_icmp_ge (tgt := 50) hx hb dX12_isRest_9 (by decide) (fun h => ?_) (fun h => ?_)
      · have hf := k_ifT h hf
        refine lv_iconst (v := (1 : Int32)) hx hb dX12_isRest_50 (by decide) ?_
        exact k_zret C hw rfl hf dX12_isRest_51
      · have hf := k_ifF h hf
        refine lv_aload_n hx hb dX12_isRest_12 rfl (lv_at hl 0 rfl) ?_
        refine lv_iload_n hx hb dX12_isRest_13 rfl (lv_at hl 3 rfl) ?_
        refine lv_iload_n hx hb dX12_isRest_14 rfl (lv_at hl 2 rfl) ?_
        obtain ⟨q2, σ1, hq, hf⟩ := k_bdE hf
        refine k_callVi C hw (c_X12_shareOf l G Y w ad LM x3 x2 σ q2 σ1 hq) (cwV 2 hts gX12_isRest_X12_shareOf rfl rfl rfl (by decide +kernel) ⟨Nat.le_of_ble_eq_true rfl, Nat.le_of_ble_eq_true rfl⟩) (k_recv C hw (LM_0 LM) rfl) rfl hl.1 rfl (Nat.le_of_ble_eq_true rfl) dX12_isRest_15 (fun H locs hw => ?_)
        refine lv_aload_n hx hb dX12_isRest_18 rfl (lv_at hl 0 rfl) ?_
        refine lv_iload_n hx hb dX12_isRest_19 rfl (lv_at hl 1 rfl) ?_
        refine lv_iload_n hx hb dX12_isRest_20 rfl (lv_at hl 2 rfl) ?_
        obtain ⟨q4, σ3, hq, hf⟩ := k_bdE hf
        refine k_callVi C hw (c_X12_shareOf l G Y w ad LM x1 x2 σ1 q4 σ3 hq) (cwV 2 hts gX12_isRest_X12_shareOf rfl rfl rfl (by decide +kernel) ⟨Nat.le_of_ble_eq_true rfl, Nat.le_of_ble_eq_true rfl⟩) (k_recv C hw (LM_0 LM) rfl) rfl hl.1 rfl (Nat.le_of_ble_eq_true rfl) dX12_isRest_21 (fun H locs hw => ?_)
        refine lv_icmp_gt (tgt := 42) hx hb dX12_isRest_24 (by decide) (fun h => ?_) (fun h => ?_)
        · have hf := k_ifT h hf
          exact b42 σ3 _ _ _ (lv_sub hl [] rfl) hw hf
        · have hf := k_ifF h hf
          refine lv_aload_n hx hb dX12_isRest_27 rfl (lv_at hl 0 rfl) ?_
          refine lv_iload_n hx hb dX12_isRest_28 rfl (lv_at hl 3 rfl) ?_
          refine lv_iload_n hx hb dX12_isRest_29 rfl (lv_at hl 1 rfl) ?_
          obtain ⟨q6, σ5, hq, hf⟩ := k_bdE hf
          refine k_callVi C hw (c_X12_shareOf l G Y w ad LM x3 x1 σ3 q6 σ5 hq) (cwV 2 hts gX12_isRest_X12_shareOf rfl rfl rfl (by decide +kernel) ⟨Nat.le_of_ble_eq_true rfl, Nat.le_of_ble_eq_true rfl⟩) (k_recv C hw (LM_0 LM) rfl) rfl hl.1 rfl (Nat.le_of_ble_eq_true rfl) dX12_isRest_30 (fun H locs hw => ?_)
          refine lv_aload_n hx hb dX12_isRest_33 rfl (lv_at hl 0 rfl) ?_
          refine lv_iload_n hx hb dX12_isRest_34 rfl (lv_at hl 2 rfl) ?_
          refine lv_iload_n hx hb dX12_isRest_35 rfl (lv_at hl 1 rfl) ?_
          obtain ⟨q8, σ7, hq, hf⟩ := k_bdE hf
          refine k_callVi C hw (c_X12_shareOf l G Y w ad LM x2 x1 σ5 q8 σ7 hq) (cwV 2 hts gX12_isRest_X12_shareOf rfl rfl rfl (by decide +kernel) ⟨Nat.le_of_ble_eq_true rfl, Nat.le_of_ble_eq_true rfl⟩) (k_recv C hw (LM_0 LM) rfl) rfl hl.1 rfl (Nat.le_of_ble_eq_true rfl) dX12_isRest_36 (fun H locs hw => ?_)
          refine lv_icmp_le (tgt := 44) hx hb dX12_isRest_39 (by decide) (fun h => ?_) (fun h => ?_)
          · have hf := k_ifT h hf
            obtain ⟨u9, ex⟩ : ∃ y : Int32, y = (x3 + (1 : Int32)) := ⟨_, rfl⟩
            have hf := k_nmE ex hf
            refine lv_iinc (v := u9) (lv' := [(3, .int u9), (0, .ref (ad 0)), (1, .int x1), (2, .int x2)]) hx hb dX12_isRest_44 hl (k := 3) rfl (by rw [ex]; rfl) (by decide) rfl (fun ls hl => ?_)
            refine lv_goto (tgt := 2) hx hb dX12_isRest_47 (by decide) ?_
            exact ih2 x1 x2 u9 σ7 _ _ _ (lv_sub hl [1, 2, 3, 0] rfl) hw hf
          · have hf := k_ifF h hf
            exact b42 σ7 _ _ _ (lv_sub hl [] rfl) hw hf
  unfold f_X12_isRest at hf
  refine lv_iconst (v := (0 : Int32)) hx hb dX12_isRest_0 (by decide) ?_
  refine lv_istore_n (lv' := [(3, .int (0 : Int32)), (0, .ref (ad 0)), (1, .int p1), (2, .int p2)]) hx hb dX12_isRest_1 rfl hl (by decide) rfl (fun ls hl => ?_)
  exact b2 FU p1 p2 (0 : Int32) σ _ _ _ (lv_sub hl [1, 2, 3, 0] rfl) hw hf
