def f_X4_clear_b7_s (o : Nat) (r7 : Int32 → MSt → Option MSt) (x1 : Int32) (σ : MSt) : Option MSt :=
  if (3 : Int32) ≤ x1 then
  (some σ)
  else
  (k_ck (k_inb x1 3) <|
  k_nm (mI σ (o + 3) (x1).toNatClampNeg (0 : Int32)) fun σ1 =>
  k_ck (k_inb x1 3) <|
  k_nm (mI σ1 (o + 4) (x1).toNatClampNeg (0 : Int32)) fun σ2 =>
  k_nm (x1 + (1 : Int32)) fun u3 =>
  r7 u3 σ2)
def f_X4_clear_b7 (o : Nat) : Nat → Int32 → MSt → Option MSt
  | 0 => fun _ _ => none
  | n + 1 => f_X4_clear_b7_s o (f_X4_clear_b7 o n)
def f_X4_clear (o : Nat)  (σ : MSt) : Option MSt :=
  k_nm (mI σ o 5 (0 : Int32)) fun σ4 =>
  f_X4_clear_b7 o FU (0 : Int32) σ4
def rmX4_clear : Room := { frames := 0, cells := 0, slots := 0, locals := 0 }
set_option maxHeartbeats 4000000 in
set_option maxRecDepth 100000 in
theorem c_X4_clear (l : Launch) (G : va_G) (Y : CY) (w : MSt → va_W) (ad : Nat → Nat) (o : Nat) (Lo : LayX4 ad w Y o)  (σ : MSt) (σ' : MSt) (hf : f_X4_clear o σ = some σ') : k_Mv l yX4_clear wsX4_clear rmX4_clear G Y w [.ref (ad o)] σ σ' := by
  refine k_ofv (own := RX4) (cc := cX4_clear) (maxL := 2) none (by decide) rfl rfl (Nat.le_of_ble_eq_true rfl) ?_
  intro p e s m below meth c A C ls hl hw
  have hx := C.1
  have hb := C.2.1
  have hown := C.2.2.2.2.1
  have hts := C.2.2.2.2.2.1
  have hks := C.2.2.2.2.2.2.1
  have hl : lv_has ls 2 [(0, .ref (ad o))] := hl
  have b7 : ∀ (n7 : Nat) (x1 : Int32) (σ : MSt) (H : Heap) (locs : List Loc) (ls : Array Slot), lv_has ls 2 [(0, .ref (ad o)), (1, .int x1)] → k_W G w A s.heap σ H locs → f_X4_clear_b7 o n7 x1 σ = some σ' → W p l e rmX4_clear s m [.ref (ad o)].toArray below meth c H locs 0 0 (MQ below (k_Qv G w A σ') [.ref (ad o)].toArray s 0 0 A) (F0 m 7 ls []) := by
    intro n7
    induction n7 with
    | zero =>
      intro x1 σ H locs ls hl hw hf
      have hf : (none : Option MSt) = some σ' := hf
      cases hf
    | succ n7 ih7 =>
      intro x1 σ H locs ls hl hw hf
      have hf : f_X4_clear_b7_s o (f_X4_clear_b7 o n7) x1 σ = some σ' := hf
      unfold f_X4_clear_b7_s at hf
      refine lv_iload_n hx hb dX4_clear_7 rfl (lv_at hl 1 rfl) ?_
      refine lv_iconst (v := (3 : Int32)) hx hb dX4_clear_8 (by decide) ?_
      refine lv_icmp_ge (tgt := 32) hx hb dX4_clear_9 (by decide) (fun h => ?_) (fun h => ?_)
      · have hf := k_ifT h hf
        exact k_vret C hw hf dX4_clear_32
      · have hf := k_ifF h hf
        refine lv_aload_n hx hb dX4_clear_12 rfl (lv_at hl 0 rfl) ?_
        refine k_get C hw (LX4_o Lo) (ci := 4) rfl k_in4 2 (by decide) lk4_18 (v := .ref (ad (o + 3))) rfl dX4_clear_13 ?_
        refine lv_iload_n hx hb dX4_clear_16 rfl (lv_at hl 1 rfl) ?_
        refine lv_iconst (v := (0 : Int32)) hx hb dX4_clear_17 (by decide) ?_
        obtain ⟨hi, hf⟩ := k_ckE hf
        refine k_iast C hw (LX4_3 Lo) hi dX4_clear_18 (fun σ1 eq H locs hw => ?_)
        have hf := k_nmE eq hf
        refine lv_aload_n hx hb dX4_clear_19 rfl (lv_at hl 0 rfl) ?_
        refine k_get C hw (LX4_o Lo) (ci := 4) rfl k_in4 3 (by decide) lk4_21 (v := .ref (ad (o + 4))) rfl dX4_clear_20 ?_
        refine lv_iload_n hx hb dX4_clear_23 rfl (lv_at hl 1 rfl) ?_
        refine lv_iconst (v := (0 : Int32)) hx hb dX4_clear_24 (by decide) ?_
        obtain ⟨hi, hf⟩ := k_ckE hf
        refine k_iast C hw (LX4_4 Lo) hi dX4_clear_25 (fun σ2 eq H locs hw => ?_)
        have hf := k_nmE eq hf
        obtain ⟨u3, ex⟩ : ∃ y : Int32, y = (x1 + (1 : Int32)) := ⟨_, rfl⟩
        have hf := k_nmE ex hf
        refine lv_iinc (v := u3) (lv' := [(1, .int u3), (0, .ref (ad o))]) hx hb dX4_clear_26 hl (k := 1) rfl (by rw [ex]; rfl) (by decide) rfl (fun ls hl => ?_)
        refine lv_goto (tgt := 7) hx hb dX4_clear_29 (by decide) ?_
        exact ih7 u3 σ2 _ _ _ (lv_sub hl [1, 0] rfl) hw hf
  unfold f_X4_clear at hf
  refine lv_aload_n hx hb dX4_clear_0 rfl (lv_at hl 0 rfl) ?_
  refine lv_iconst (v := (0 : Int32)) hx hb dX4_clear_1 (by decide) ?_
  refine k_put C hw (LX4_o Lo) (ci := 4) rfl k_in4 tyX4 tyX4_ok nmX4 5 (by decide) lk4_28 rfl ⟨rfl, rfl⟩ rfl dX4_clear_2 (fun σ4 eq H locs hw => ?_)
  have hf := k_nmE eq hf
  refine lv_iconst (v := (0 : Int32)) hx hb dX4_clear_5 (by decide) ?_
  refine lv_istore_n (lv' := [(1, .int (0 : Int32)), (0, .ref (ad o))]) hx hb dX4_clear_6 rfl hl (by decide) rfl (fun ls hl => ?_)
  exact b7 FU (0 : Int32) σ4 _ _ _ (lv_sub hl [1, 0] rfl) hw hf
def f_X0_clear_b2_s (o : Nat) (r2 : Int32 → MSt → Option MSt) (x1 : Int32) (σ : MSt) : Option MSt :=
  if (64 : Int32) ≤ x1 then
  (k_bv (f_X4_clear (o + 7) σ) fun σ1 =>
  k_nm (mI σ1 o 7 (0 : Int32)) fun σ2 =>
  k_nm (mI σ2 o 8 (0 : Int32)) fun σ3 =>
  k_nm (mI σ3 o 9 (0 : Int32)) fun σ4 =>
  k_nm (mI σ4 o 10 (0 : Int32)) fun σ5 =>
  k_nm (mI σ5 o 11 (-1 : Int32)) fun σ6 =>
  k_nm (mI σ6 o 12 (9 : Int32)) fun σ7 =>
  k_nm (mI σ7 o 13 (50 : Int32)) fun σ8 =>
  k_nm (mI σ8 o 14 (0 : Int32)) fun σ9 =>
  some σ9)
  else
  (k_ck (k_inb x1 64) <|
  k_nm (mI σ (o + 2) (x1).toNatClampNeg (0 : Int32)) fun σ10 =>
  k_nm (x1 + (1 : Int32)) fun u11 =>
  r2 u11 σ10)
def f_X0_clear_b2 (o : Nat) : Nat → Int32 → MSt → Option MSt
  | 0 => fun _ _ => none
  | n + 1 => f_X0_clear_b2_s o (f_X0_clear_b2 o n)
def f_X0_clear (o : Nat)  (σ : MSt) : Option MSt :=
  f_X0_clear_b2 o FU (0 : Int32) σ
def rmX0_clear : Room := { frames := 1, cells := 0, slots := 0, locals := 21 }
set_option maxHeartbeats 4000000 in
set_option maxRecDepth 100000 in
theorem c_X0_clear (l : Launch) (G : va_G) (Y : CY) (w : MSt → va_W) (ad : Nat → Nat) (o : Nat) (Lo : LayX0 ad w Y o)  (σ : MSt) (σ' : MSt) (hf : f_X0_clear o σ = some σ') : k_Mv l yX0_clear wsX0_clear rmX0_clear G Y w [.ref (ad o)] σ σ' := by
  refine k_ofv (own := RX0) (cc := cX0_clear) (maxL := 2) none (by decide) rfl rfl (Nat.le_of_ble_eq_true rfl) ?_
  intro p e s m below meth c A C ls hl hw
  have hx := C.1
  have hb := C.2.1
  have hown := C.2.2.2.2.1
  have hts := C.2.2.2.2.2.1
  have hks := C.2.2.2.2.2.2.1
  have hl : lv_has ls 2 [(0, .ref (ad o))] := hl
  have b2 : ∀ (n2 : Nat) (x1 : Int32) (σ : MSt) (H : Heap) (locs : List Loc) (ls : Array Slot), lv_has ls 2 [(0, .ref (ad o)), (1, .int x1)] → k_W G w A s.heap σ H locs → f_X0_clear_b2 o n2 x1 σ = some σ' → W p l e rmX0_clear s m [.ref (ad o)].toArray below meth c H locs 0 0 (MQ below (k_Qv G w A σ') [.ref (ad o)].toArray s 0 0 A) (F0 m 2 ls []) := by
    intro n2
    induction n2 with
    | zero =>
      intro x1 σ H locs ls hl hw hf
      have hf : (none : Option MSt) = some σ' := hf
      cases hf
    | succ n2 ih2 =>
      intro x1 σ H locs ls hl hw hf
      have hf : f_X0_clear_b2_s o (f_X0_clear_b2 o n2) x1 σ = some σ' := hf
      unfold f_X0_clear_b2_s at hf
      refine lv_iload_n hx hb dX0_clear_2 rfl (lv_at hl 1 rfl) ?_
      refine lv_aload_n hx hb dX0_clear_3 rfl (lv_at hl 0 rfl) ?_
      refine k_get C hw (LX0_o Lo) (ci := 0) rfl k_in0 1 (by decide) lk0_15 (v := .ref (ad (o + 2))) rfl dX0_clear_4 ?_
      refine k_alen C hw (LX0_2 Lo) (v := (64 : Int32)) (by decide) dX0_clear_7 ?_
      refine lv_icmp_ge (tgt := 24) hx hb dX0_clear_8 (by decide) (fun h => ?_) (fun h => ?_)
      · have hf := k_ifT h hf
        refine lv_aload_n hx hb dX0_clear_24 rfl (lv_at hl 0 rfl) ?_
        refine k_get C hw (LX0_o Lo) (ci := 0) rfl k_in0 6 (by decide) lk0_33 (v := .ref (ad (o + 7))) rfl dX0_clear_25 ?_
        obtain ⟨σ1, hq, hf⟩ := k_bvE hf
        refine k_callNv C hw (c_X4_clear l G Y w ad (o + 7) (LX0_laws Lo) σ σ1 hq) ⟨va_cnB 0 hts gX0_clear_X4_clear_n40 rfl rfl rfl (hks.2 _ lm0_40) (hts (.initialized RX4) (by decide +kernel)) (by decide +kernel) ⟨Nat.le_of_ble_eq_true rfl, Nat.le_of_ble_eq_true rfl⟩, hts (.instanceMethod yX4_clear) (by decide +kernel), hts (.selects RX4 yX4_clear yX4_clear) (by decide +kernel)⟩ (k_recv C hw (LX4_o (LX0_laws Lo)) rfl) rfl hl.1 rfl (Nat.le_of_ble_eq_true rfl) dX0_clear_28 (fun H locs hw => ?_)
        refine lv_aload_n hx hb dX0_clear_31 rfl (lv_at hl 0 rfl) ?_
        refine lv_iconst (v := (0 : Int32)) hx hb dX0_clear_32 (by decide) ?_
        refine k_put C hw (LX0_o Lo) (ci := 0) rfl k_in0 tyX0 tyX0_ok nmX0 7 (by decide) lk0_41 rfl ⟨rfl, rfl⟩ rfl dX0_clear_33 (fun σ2 eq H locs hw => ?_)
        have hf := k_nmE eq hf
        refine lv_aload_n hx hb dX0_clear_36 rfl (lv_at hl 0 rfl) ?_
        refine lv_iconst (v := (0 : Int32)) hx hb dX0_clear_37 (by decide) ?_
        refine k_put C hw (LX0_o Lo) (ci := 0) rfl k_in0 tyX0 tyX0_ok nmX0 8 (by decide) lk0_45 rfl ⟨rfl, rfl⟩ rfl dX0_clear_38 (fun σ3 eq H locs hw => ?_)
        have hf := k_nmE eq hf
        refine lv_aload_n hx hb dX0_clear_41 rfl (lv_at hl 0 rfl) ?_
        refine lv_iconst (v := (0 : Int32)) hx hb dX0_clear_42 (by decide) ?_
        refine k_put C hw (LX0_o Lo) (ci := 0) rfl k_in0 tyX0 tyX0_ok nmX0 9 (by decide) lk0_48 rfl ⟨rfl, rfl⟩ rfl dX0_clear_43 (fun σ4 eq H locs hw => ?_)
        have hf := k_nmE eq hf
        refine lv_aload_n hx hb dX0_clear_46 rfl (lv_at hl 0 rfl) ?_
        refine lv_iconst (v := (0 : Int32)) hx hb dX0_clear_47 (by decide) ?_
        refine k_put C hw (LX0_o Lo) (ci := 0) rfl k_in0 tyX0 tyX0_ok nmX0 10 (by decide) lk0_51 rfl ⟨rfl, rfl⟩ rfl dX0_clear_48 (fun σ5 eq H locs hw => ?_)
        have hf := k_nmE eq hf
        refine lv_aload_n hx hb dX0_clear_51 rfl (lv_at hl 0 rfl) ?_
        refine lv_iconst (v := (-1 : Int32)) hx hb dX0_clear_52 (by decide) ?_
        refine k_put C hw (LX0_o Lo) (ci := 0) rfl k_in0 tyX0 tyX0_ok nmX0 11 (by decide) lk0_54 rfl ⟨rfl, rfl⟩ rfl dX0_clear_53 (fun σ6 eq H locs hw => ?_)
        have hf := k_nmE eq hf
        refine lv_aload_n hx hb dX0_clear_56 rfl (lv_at hl 0 rfl) ?_
        refine lv_bipush (v := (9 : Int32)) hx hb dX0_clear_57 (by decide) ?_
        refine k_put C hw (LX0_o Lo) (ci := 0) rfl k_in0 tyX0 tyX0_ok nmX0 12 (by decide) lk0_57 rfl ⟨rfl, rfl⟩ rfl dX0_clear_59 (fun σ7 eq H locs hw => ?_)
        have hf := k_nmE eq hf
        refine lv_aload_n hx hb dX0_clear_62 rfl (lv_at hl 0 rfl) ?_
        refine lv_bipush (v := (50 : Int32)) hx hb dX0_clear_63 (by decide) ?_
        refine k_put C hw (LX0_o Lo) (ci := 0) rfl k_in0 tyX0 tyX0_ok nmX0 13 (by decide) lk0_60 rfl ⟨rfl, rfl⟩ rfl dX0_clear_65 (fun σ8 eq H locs hw => ?_)
        have hf := k_nmE eq hf
        refine lv_aload_n hx hb dX0_clear_68 rfl (lv_at hl 0 rfl) ?_
        refine lv_iconst (v := (0 : Int32)) hx hb dX0_clear_69 (by decide) ?_
        refine k_put C hw (LX0_o Lo) (ci := 0) rfl k_in0 tyX0 tyX0_ok nmX0 14 (by decide) lk0_63 rfl ⟨rfl, rfl⟩ rfl dX0_clear_70 (fun σ9 eq H locs hw => ?_)
        have hf := k_nmE eq hf
        exact k_vret C hw hf dX0_clear_73
      · have hf := k_ifF h hf
        refine lv_aload_n hx hb dX0_clear_11 rfl (lv_at hl 0 rfl) ?_
        refine k_get C hw (LX0_o Lo) (ci := 0) rfl k_in0 1 (by decide) lk0_15 (v := .ref (ad (o + 2))) rfl dX0_clear_12 ?_
        refine lv_iload_n hx hb dX0_clear_15 rfl (lv_at hl 1 rfl) ?_
        refine lv_iconst (v := (0 : Int32)) hx hb dX0_clear_16 (by decide) ?_
        obtain ⟨hi, hf⟩ := k_ckE hf
        refine k_iast C hw (LX0_2 Lo) hi dX0_clear_17 (fun σ10 eq H locs hw => ?_)
        have hf := k_nmE eq hf
        obtain ⟨u11, ex⟩ : ∃ y : Int32, y = (x1 + (1 : Int32)) := ⟨_, rfl⟩
        have hf := k_nmE ex hf
        refine lv_iinc (v := u11) (lv' := [(1, .int u11), (0, .ref (ad o))]) hx hb dX0_clear_18 hl (k := 1) rfl (by rw [ex]; rfl) (by decide) rfl (fun ls hl => ?_)
        refine lv_goto (tgt := 2) hx hb dX0_clear_21 (by decide) ?_
        exact ih2 u11 σ10 _ _ _ (lv_sub hl [1, 0] rfl) hw hf
  unfold f_X0_clear at hf
  refine lv_iconst (v := (0 : Int32)) hx hb dX0_clear_0 (by decide) ?_
  refine lv_istore_n (lv' := [(1, .int (0 : Int32)), (0, .ref (ad o))]) hx hb dX0_clear_1 rfl hl (by decide) rfl (fun ls hl => ?_)
  exact b2 FU (0 : Int32) σ _ _ _ (lv_sub hl [1, 0] rfl) hw hf
def f_X0_hasBay_b23 (o : Nat) (y0 : Int32) (σ : MSt) : Option (Int32 × MSt) :=
  k_ck (k_bo y0) <|
  some (y0, σ)
def f_X0_hasBay_b22 (o : Nat)  (σ : MSt) : Option (Int32 × MSt) :=
  f_X0_hasBay_b23 o (0 : Int32) σ
def f_X0_hasBay (o : Nat) (p1 : Int32) (σ : MSt) : Option (Int32 × MSt) :=
  if p1 < 0 then
  (f_X0_hasBay_b22 o σ)
  else
  (if (σ.1 o 7) ≤ p1 then
  (f_X0_hasBay_b22 o σ)
  else
  (if (8 : Int32) ≤ p1 then
  (f_X0_hasBay_b22 o σ)
  else
  (f_X0_hasBay_b23 o (1 : Int32) σ)))
def rmX0_hasBay : Room := { frames := 0, cells := 0, slots := 0, locals := 0 }
set_option maxHeartbeats 4000000 in
set_option maxRecDepth 100000 in
theorem c_X0_hasBay (l : Launch) (G : va_G) (Y : CY) (w : MSt → va_W) (ad : Nat → Nat) (o : Nat) (Lo : LayX0 ad w Y o) (p1 : Int32) (σ : MSt) (r : Int32) (σ' : MSt) (hf : f_X0_hasBay o p1 σ = some (r, σ')) : k_Mi l yX0_hasBay wsX0_hasBay rmX0_hasBay G Y w [.ref (ad o), .int p1] σ r σ' := by
  refine k_ofi (own := RX0) (cc := cX0_hasBay) (maxL := 2) (some .boolean) (by decide) rfl rfl (Nat.le_of_ble_eq_true rfl) ?_
  intro p e s m below meth c A C ls hl hw
  have hx := C.1
  have hb := C.2.1
  have hown := C.2.2.2.2.1
  have hts := C.2.2.2.2.2.1
  have hks := C.2.2.2.2.2.2.1
  have hl : lv_has ls 2 [(0, .ref (ad o)), (1, .int p1)] := hl
  have b23 : ∀ (y0 : Int32) (σ : MSt) (H : Heap) (locs : List Loc) (ls : Array Slot), lv_has ls 2 [] → k_W G w A s.heap σ H locs → f_X0_hasBay_b23 o y0 σ = some (r, σ') → W p l e rmX0_hasBay s m [.ref (ad o), .int p1].toArray below meth c H locs 0 0 (MQ below (k_Qi G w A r σ') [.ref (ad o), .int p1].toArray s 0 0 A) (F0 m 23 ls [.int y0]) := by
    intro y0 σ H locs ls hl hw hf
    unfold f_X0_hasBay_b23 at hf
    obtain ⟨hz, hf⟩ := k_ckE hf
    exact k_zret C hw (k_boE hz).1 hf dX0_hasBay_23
  have b22 : ∀ (σ : MSt) (H : Heap) (locs : List Loc) (ls : Array Slot), lv_has ls 2 [] → k_W G w A s.heap σ H locs → f_X0_hasBay_b22 o σ = some (r, σ') → W p l e rmX0_hasBay s m [.ref (ad o), .int p1].toArray below meth c H locs 0 0 (MQ below (k_Qi G w A r σ') [.ref (ad o), .int p1].toArray s 0 0 A) (F0 m 22 ls []) := by
    intro σ H locs ls hl hw hf
    unfold f_X0_hasBay_b22 at hf
    refine lv_iconst (v := (0 : Int32)) hx hb dX0_hasBay_22 (by decide) ?_
    exact b23 (0 : Int32) σ _ _ _ (lv_sub hl [] rfl) hw hf
  unfold f_X0_hasBay at hf
  refine lv_iload_n hx hb dX0_hasBay_0 rfl (lv_at hl 1 rfl) ?_
  refine lv_if_lt (tgt := 22) hx hb dX0_hasBay_1 (by decide) (fun h => ?_) (fun h => ?_)
  · have hf := k_ifT h hf
    exact b22 σ _ _ _ (lv_sub hl [] rfl) hw hf
  · have hf := k_ifF h hf
    refine lv_iload_n hx hb dX0_hasBay_4 rfl (lv_at hl 1 rfl) ?_
    refine lv_aload_n hx hb dX0_hasBay_5 rfl (lv_at hl 0 rfl) ?_
    refine k_get C hw (LX0_o Lo) (ci := 0) rfl k_in0 7 (by decide) lk0_41 (v := .int (σ.1 o 7)) rfl dX0_hasBay_6 ?_
    refine lv_icmp_ge (tgt := 22) hx hb dX0_hasBay_9 (by decide) (fun h => ?_) (fun h => ?_)
    · have hf := k_ifT h hf
      exact b22 σ _ _ _ (lv_sub hl [] rfl) hw hf
    · have hf := k_ifF h hf
      refine lv_iload_n hx hb dX0_hasBay_12 rfl (lv_at hl 1 rfl) ?_
      refine lv_bipush (v := (8 : Int32)) hx hb dX0_hasBay_13 (by decide) ?_
      refine lv_icmp_ge (tgt := 22) hx hb dX0_hasBay_15 (by decide) (fun h => ?_) (fun h => ?_)
      · have hf := k_ifT h hf
        exact b22 σ _ _ _ (lv_sub hl [] rfl) hw hf
      · have hf := k_ifF h hf
        refine lv_iconst (v := (1 : Int32)) hx hb dX0_hasBay_18 (by decide) ?_
        refine lv_goto (tgt := 23) hx hb dX0_hasBay_19 (by decide) ?_
        exact b23 (1 : Int32) σ _ _ _ (lv_sub hl [] rfl) hw hf
def f_X0_hasDeed_b23 (o : Nat) (y0 : Int32) (σ : MSt) : Option (Int32 × MSt) :=
  k_ck (k_bo y0) <|
  some (y0, σ)
def f_X0_hasDeed_b22 (o : Nat)  (σ : MSt) : Option (Int32 × MSt) :=
  f_X0_hasDeed_b23 o (0 : Int32) σ
def f_X0_hasDeed (o : Nat) (p1 : Int32) (σ : MSt) : Option (Int32 × MSt) :=
  if p1 < 0 then
  (f_X0_hasDeed_b22 o σ)
  else
  (if (σ.1 o 9) ≤ p1 then
  (f_X0_hasDeed_b22 o σ)
  else
  (if (12 : Int32) ≤ p1 then
  (f_X0_hasDeed_b22 o σ)
  else
  (f_X0_hasDeed_b23 o (1 : Int32) σ)))
def rmX0_hasDeed : Room := { frames := 0, cells := 0, slots := 0, locals := 0 }
set_option maxHeartbeats 4000000 in
set_option maxRecDepth 100000 in
theorem c_X0_hasDeed (l : Launch) (G : va_G) (Y : CY) (w : MSt → va_W) (ad : Nat → Nat) (o : Nat) (Lo : LayX0 ad w Y o) (p1 : Int32) (σ : MSt) (r : Int32) (σ' : MSt) (hf : f_X0_hasDeed o p1 σ = some (r, σ')) : k_Mi l yX0_hasDeed wsX0_hasDeed rmX0_hasDeed G Y w [.ref (ad o), .int p1] σ r σ' := by
  refine k_ofi (own := RX0) (cc := cX0_hasDeed) (maxL := 2) (some .boolean) (by decide) rfl rfl (Nat.le_of_ble_eq_true rfl) ?_
  intro p e s m below meth c A C ls hl hw
  have hx := C.1
  have hb := C.2.1
  have hown := C.2.2.2.2.1
  have hts := C.2.2.2.2.2.1
  have hks := C.2.2.2.2.2.2.1
  have hl : lv_has ls 2 [(0, .ref (ad o)), (1, .int p1)] := hl
  have b23 : ∀ (y0 : Int32) (σ : MSt) (H : Heap) (locs : List Loc) (ls : Array Slot), lv_has ls 2 [] → k_W G w A s.heap σ H locs → f_X0_hasDeed_b23 o y0 σ = some (r, σ') → W p l e rmX0_hasDeed s m [.ref (ad o), .int p1].toArray below meth c H locs 0 0 (MQ below (k_Qi G w A r σ') [.ref (ad o), .int p1].toArray s 0 0 A) (F0 m 23 ls [.int y0]) := by
    intro y0 σ H locs ls hl hw hf
    unfold f_X0_hasDeed_b23 at hf
    obtain ⟨hz, hf⟩ := k_ckE hf
    exact k_zret C hw (k_boE hz).1 hf dX0_hasDeed_23
  have b22 : ∀ (σ : MSt) (H : Heap) (locs : List Loc) (ls : Array Slot), lv_has ls 2 [] → k_W G w A s.heap σ H locs → f_X0_hasDeed_b22 o σ = some (r, σ') → W p l e rmX0_hasDeed s m [.ref (ad o), .int p1].toArray below meth c H locs 0 0 (MQ below (k_Qi G w A r σ') [.ref (ad o), .int p1].toArray s 0 0 A) (F0 m 22 ls []) := by
    intro σ H locs ls hl hw hf
    unfold f_X0_hasDeed_b22 at hf
    refine lv_iconst (v := (0 : Int32)) hx hb dX0_hasDeed_22 (by decide) ?_
    exact b23 (0 : Int32) σ _ _ _ (lv_sub hl [] rfl) hw hf
  unfold f_X0_hasDeed at hf
  refine lv_iload_n hx hb dX0_hasDeed_0 rfl (lv_at hl 1 rfl) ?_
  refine lv_if_lt (tgt := 22) hx hb dX0_hasDeed_1 (by decide) (fun h => ?_) (fun h => ?_)
  · have hf := k_ifT h hf
    exact b22 σ _ _ _ (lv_sub hl [] rfl) hw hf
  · have hf := k_ifF h hf
    refine lv_iload_n hx hb dX0_hasDeed_4 rfl (lv_at hl 1 rfl) ?_
    refine lv_aload_n hx hb dX0_hasDeed_5 rfl (lv_at hl 0 rfl) ?_
    refine k_get C hw (LX0_o Lo) (ci := 0) rfl k_in0 9 (by decide) lk0_48 (v := .int (σ.1 o 9)) rfl dX0_hasDeed_6 ?_
    refine lv_icmp_ge (tgt := 22) hx hb dX0_hasDeed_9 (by decide) (fun h => ?_) (fun h => ?_)
    · have hf := k_ifT h hf
      exact b22 σ _ _ _ (lv_sub hl [] rfl) hw hf
    · have hf := k_ifF h hf
      refine lv_iload_n hx hb dX0_hasDeed_12 rfl (lv_at hl 1 rfl) ?_
      refine lv_bipush (v := (12 : Int32)) hx hb dX0_hasDeed_13 (by decide) ?_
      refine lv_icmp_ge (tgt := 22) hx hb dX0_hasDeed_15 (by decide) (fun h => ?_) (fun h => ?_)
      · have hf := k_ifT h hf
        exact b22 σ _ _ _ (lv_sub hl [] rfl) hw hf
      · have hf := k_ifF h hf
        refine lv_iconst (v := (1 : Int32)) hx hb dX0_hasDeed_18 (by decide) ?_
        refine lv_goto (tgt := 23) hx hb dX0_hasDeed_19 (by decide) ?_
        exact b23 (1 : Int32) σ _ _ _ (lv_sub hl [] rfl) hw hf
def f_X0_find_b34 (o : Nat)  (σ : MSt) : Option (Int32 × MSt) :=
  some ((-1 : Int32), σ)
def f_X0_find_b2_s (o : Nat) (r2 : Int32 → Int32 → MSt → Option (Int32 × MSt)) (x1 : Int32) (x2 : Int32) (σ : MSt) : Option (Int32 × MSt) :=
  if (σ.1 o 7) ≤ x2 then
  (f_X0_find_b34 o σ)
  else
  (if (8 : Int32) ≤ x2 then
  (f_X0_find_b34 o σ)
  else
  (k_ck (k_inb x2 8) <|
  if (σ.1 (o + 1) (x2).toNatClampNeg) = x1 then
  (some (x2, σ))
  else
  (k_nm (x2 + (1 : Int32)) fun u1 =>
  r2 x1 u1 σ)))
def f_X0_find_b2 (o : Nat) : Nat → Int32 → Int32 → MSt → Option (Int32 × MSt)
  | 0 => fun _ _ _ => none
  | n + 1 => f_X0_find_b2_s o (f_X0_find_b2 o n)
def f_X0_find (o : Nat) (p1 : Int32) (σ : MSt) : Option (Int32 × MSt) :=
  f_X0_find_b2 o FU p1 (0 : Int32) σ
def rmX0_find : Room := { frames := 0, cells := 0, slots := 0, locals := 0 }
set_option maxHeartbeats 4000000 in
set_option maxRecDepth 100000 in
theorem c_X0_find (l : Launch) (G : va_G) (Y : CY) (w : MSt → va_W) (ad : Nat → Nat) (o : Nat) (Lo : LayX0 ad w Y o) (p1 : Int32) (σ : MSt) (r : Int32) (σ' : MSt) (hf : f_X0_find o p1 σ = some (r, σ')) : k_Mi l yX0_find wsX0_find rmX0_find G Y w [.ref (ad o), .int p1] σ r σ' := by
  refine k_ofi (own := RX0) (cc := cX0_find) (maxL := 3) (some .int) (by decide) rfl rfl (Nat.le_of_ble_eq_true rfl) ?_
  intro p e s m below meth c A C ls hl hw
  have hx := C.1
  have hb := C.2.1
  have hown := C.2.2.2.2.1
  have hts := C.2.2.2.2.2.1
  have hks := C.2.2.2.2.2.2.1
  have hl : lv_has ls 3 [(0, .ref (ad o)), (1, .int p1)] := hl
  have b34 : ∀ (σ : MSt) (H : Heap) (locs : List Loc) (ls : Array Slot), lv_has ls 3 [] → k_W G w A s.heap σ H locs → f_X0_find_b34 o σ = some (r, σ') → W p l e rmX0_find s m [.ref (ad o), .int p1].toArray below meth c H locs 0 0 (MQ below (k_Qi G w A r σ') [.ref (ad o), .int p1].toArray s 0 0 A) (F0 m 34 ls []) := by
    intro σ H locs ls hl hw hf
    unfold f_X0_find_b34 at hf
    refine lv_iconst (v := (-1 : Int32)) hx hb dX0_find_34 (by decide) ?_
    exact k_iret C hw hf dX0_find_35
  have b2 : ∀ (n2 : Nat) (x1 : Int32) (x2 : Int32) (σ : MSt) (H : Heap) (locs : List Loc) (ls : Array Slot), lv_has ls 3 [(0, .ref (ad o)), (1, .int x1), (2, .int x2)] → k_W G w A s.heap σ H locs → f_X0_find_b2 o n2 x1 x2 σ = some (r, σ') → W p l e rmX0_find s m [.ref (ad o), .int p1].toArray below meth c H locs 0 0 (MQ below (k_Qi G w A r σ') [.ref (ad o), .int p1].toArray s 0 0 A) (F0 m 2 ls []) := by
    intro n2
    induction n2 with
    | zero =>
      intro x1 x2 σ H locs ls hl hw hf
      have hf : (none : Option (Int32 × MSt)) = some (r, σ') := hf
      cases hf
    | succ n2 ih2 =>
      intro x1 x2 σ H locs ls hl hw hf
      have hf : f_X0_find_b2_s o (f_X0_find_b2 o n2) x1 x2 σ = some (r, σ') := hf
      unfold f_X0_find_b2_s at hf
      refine lv_iload_n hx hb dX0_find_2 rfl (lv_at hl 2 rfl) ?_
      refine lv_aload_n hx hb dX0_find_3 rfl (lv_at hl 0 rfl) ?_
      refine k_get C hw (LX0_o Lo) (ci := 0) rfl k_in0 7 (by decide) lk0_41 (v := .int (σ.1 o 7)) rfl dX0_find_4 ?_
      refine lv_icmp_ge (tgt := 34) hx hb dX0_find_7 (by decide) (fun h => ?_) (fun h => ?_)
      · have hf := k_ifT h hf
        exact b34 σ _ _ _ (lv_sub hl [] rfl) hw hf
      · have hf := k_ifF h hf
        refine lv_iload_n hx hb dX0_find_10 rfl (lv_at hl 2 rfl) ?_
        refine lv_bipush (v := (8 : Int32)) hx hb dX0_find_11 (by decide) ?_
        refine lv_icmp_ge (tgt := 34) hx hb dX0_find_13 (by decide) (fun h => ?_) (fun h => ?_)
        · have hf := k_ifT h hf
          exact b34 σ _ _ _ (lv_sub hl [] rfl) hw hf
        · have hf := k_ifF h hf
          refine lv_aload_n hx hb dX0_find_16 rfl (lv_at hl 0 rfl) ?_
          refine k_get C hw (LX0_o Lo) (ci := 0) rfl k_in0 0 (by decide) lk0_9 (v := .ref (ad (o + 1))) rfl dX0_find_17 ?_
          refine lv_iload_n hx hb dX0_find_20 rfl (lv_at hl 2 rfl) ?_
          obtain ⟨hi, hf⟩ := k_ckE hf
          refine k_iald C hw (LX0_1 Lo) hi dX0_find_21 ?_
          refine lv_iload_n hx hb dX0_find_22 rfl (lv_at hl 1 rfl) ?_
          refine lv_icmp_ne (tgt := 28) hx hb dX0_find_23 (by decide) (fun h => ?_) (fun h => ?_)
          · have hf := k_ifF h hf
            obtain ⟨u1, ex⟩ : ∃ y : Int32, y = (x2 + (1 : Int32)) := ⟨_, rfl⟩
            have hf := k_nmE ex hf
            refine lv_iinc (v := u1) (lv' := [(2, .int u1), (0, .ref (ad o)), (1, .int x1)]) hx hb dX0_find_28 hl (k := 2) rfl (by rw [ex]; rfl) (by decide) rfl (fun ls hl => ?_)
            refine lv_goto (tgt := 2) hx hb dX0_find_31 (by decide) ?_
            exact ih2 x1 u1 σ _ _ _ (lv_sub hl [1, 2, 0] rfl) hw hf
          · have hf := k_ifT h hf
            refine lv_iload_n hx hb dX0_find_26 rfl (lv_at hl 2 rfl) ?_
            exact k_iret C hw hf dX0_find_27
  unfold f_X0_find at hf
  refine lv_iconst (v := (0 : Int32)) hx hb dX0_find_0 (by decide) ?_
  refine lv_istore_n (lv' := [(2, .int (0 : Int32)), (0, .ref (ad o)), (1, .int p1)]) hx hb dX0_find_1 rfl hl (by decide) rfl (fun ls hl => ?_)
  exact b2 FU p1 (0 : Int32) σ _ _ _ (lv_sub hl [1, 2, 0] rfl) hw hf
def f_X0_daysBetween_b31 (o : Nat) (y0 : Int32) (σ : MSt) : Option (Int32 × MSt) :=
  some (y0, σ)
def f_X0_daysBetween_b30 (o : Nat)  (σ : MSt) : Option (Int32 × MSt) :=
  f_X0_daysBetween_b31 o (0 : Int32) σ
def f_X0_daysBetween (o : Nat) (p1 : Int32) (p2 : Int32) (σ : MSt) : Option (Int32 × MSt) :=
  k_bd (f_X0_hasBay o p1 σ) fun q2 σ1 =>
  if q2 = 0 then
  (f_X0_daysBetween_b30 o σ1)
  else
  (k_bd (f_X0_hasBay o p2 σ1) fun q4 σ3 =>
  if q4 = 0 then
  (f_X0_daysBetween_b30 o σ3)
  else
  (k_ck (k_inb ((p1 * (8 : Int32)) + p2) 64) <|
  f_X0_daysBetween_b31 o (σ3.1 (o + 2) (((p1 * (8 : Int32)) + p2)).toNatClampNeg) σ3))
def rmX0_daysBetween : Room := { frames := 1, cells := 0, slots := 0, locals := 21 }
set_option maxHeartbeats 4000000 in
set_option maxRecDepth 100000 in
theorem c_X0_daysBetween (l : Launch) (G : va_G) (Y : CY) (w : MSt → va_W) (ad : Nat → Nat) (o : Nat) (Lo : LayX0 ad w Y o) (p1 : Int32) (p2 : Int32) (σ : MSt) (r : Int32) (σ' : MSt) (hf : f_X0_daysBetween o p1 p2 σ = some (r, σ')) : k_Mi l yX0_daysBetween wsX0_daysBetween rmX0_daysBetween G Y w [.ref (ad o), .int p1, .int p2] σ r σ' := by
  refine k_ofi (own := RX0) (cc := cX0_daysBetween) (maxL := 3) (some .int) (by decide) rfl rfl (Nat.le_of_ble_eq_true rfl) ?_
  intro p e s m below meth c A C ls hl hw
  have hx := C.1
  have hb := C.2.1
  have hown := C.2.2.2.2.1
  have hts := C.2.2.2.2.2.1
  have hks := C.2.2.2.2.2.2.1
  have hl : lv_has ls 3 [(0, .ref (ad o)), (1, .int p1), (2, .int p2)] := hl
  have b31 : ∀ (y0 : Int32) (σ : MSt) (H : Heap) (locs : List Loc) (ls : Array Slot), lv_has ls 3 [] → k_W G w A s.heap σ H locs → f_X0_daysBetween_b31 o y0 σ = some (r, σ') → W p l e rmX0_daysBetween s m [.ref (ad o), .int p1, .int p2].toArray below meth c H locs 0 0 (MQ below (k_Qi G w A r σ') [.ref (ad o), .int p1, .int p2].toArray s 0 0 A) (F0 m 31 ls [.int y0]) := by
    intro y0 σ H locs ls hl hw hf
    unfold f_X0_daysBetween_b31 at hf
    exact k_iret C hw hf dX0_daysBetween_31
  have b30 : ∀ (σ : MSt) (H : Heap) (locs : List Loc) (ls : Array Slot), lv_has ls 3 [] → k_W G w A s.heap σ H locs → f_X0_daysBetween_b30 o σ = some (r, σ') → W p l e rmX0_daysBetween s m [.ref (ad o), .int p1, .int p2].toArray below meth c H locs 0 0 (MQ below (k_Qi G w A r σ') [.ref (ad o), .int p1, .int p2].toArray s 0 0 A) (F0 m 30 ls []) := by
    intro σ H locs ls hl hw hf
    unfold f_X0_daysBetween_b30 at hf
    refine lv_iconst (v := (0 : Int32)) hx hb dX0_daysBetween_30 (by decide) ?_
    exact b31 (0 : Int32) σ _ _ _ (lv_sub hl [] rfl) hw hf
  unfold f_X0_daysBetween at hf
  refine lv_aload_n hx hb dX0_daysBetween_0 rfl (lv_at hl 0 rfl) ?_
  refine lv_iload_n hx hb dX0_daysBetween_1 rfl (lv_at hl 1 rfl) ?_
  obtain ⟨q2, σ1, hq, hf⟩ := k_bdE hf
  refine k_callVi C hw (c_X0_hasBay l G Y w ad o Lo p1 σ q2 σ1 hq) (cwV 1 hts gX0_daysBetween_X0_hasBay rfl rfl rfl (by decide +kernel) ⟨Nat.le_of_ble_eq_true rfl, Nat.le_of_ble_eq_true rfl⟩) (k_recv C hw (LX0_o Lo) rfl) rfl hl.1 rfl (Nat.le_of_ble_eq_true rfl) dX0_daysBetween_2 (fun H locs hw => ?_)
  refine lv_if_eq (tgt := 30) hx hb dX0_daysBetween_5 (by decide) (fun h => ?_) (fun h => ?_)
  · have hf := k_ifT h hf
    exact b30 σ1 _ _ _ (lv_sub hl [] rfl) hw hf
  · have hf := k_ifF h hf
    refine lv_aload_n hx hb dX0_daysBetween_8 rfl (lv_at hl 0 rfl) ?_
    refine lv_iload_n hx hb dX0_daysBetween_9 rfl (lv_at hl 2 rfl) ?_
    obtain ⟨q4, σ3, hq, hf⟩ := k_bdE hf
    refine k_callVi C hw (c_X0_hasBay l G Y w ad o Lo p2 σ1 q4 σ3 hq) (cwV 1 hts gX0_daysBetween_X0_hasBay rfl rfl rfl (by decide +kernel) ⟨Nat.le_of_ble_eq_true rfl, Nat.le_of_ble_eq_true rfl⟩) (k_recv C hw (LX0_o Lo) rfl) rfl hl.1 rfl (Nat.le_of_ble_eq_true rfl) dX0_daysBetween_10 (fun H locs hw => ?_)
    refine lv_if_eq (tgt := 30) hx hb dX0_daysBetween_13 (by decide) (fun h => ?_) (fun h => ?_)
    · have hf := k_ifT h hf
      exact b30 σ3 _ _ _ (lv_sub hl [] rfl) hw hf
    · have hf := k_ifF h hf
      refine lv_aload_n hx hb dX0_daysBetween_16 rfl (lv_at hl 0 rfl) ?_
      refine k_get C hw (LX0_o Lo) (ci := 0) rfl k_in0 1 (by decide) lk0_15 (v := .ref (ad (o + 2))) rfl dX0_daysBetween_17 ?_
      refine lv_iload_n hx hb dX0_daysBetween_20 rfl (lv_at hl 1 rfl) ?_
      refine lv_bipush (v := (8 : Int32)) hx hb dX0_daysBetween_21 (by decide) ?_
      refine lv_imul hx hb dX0_daysBetween_23 ?_
      refine lv_iload_n hx hb dX0_daysBetween_24 rfl (lv_at hl 2 rfl) ?_
      refine lv_iadd hx hb dX0_daysBetween_25 ?_
      obtain ⟨hi, hf⟩ := k_ckE hf
      refine k_iald C hw (LX0_2 Lo) hi dX0_daysBetween_26 ?_
      refine lv_goto (tgt := 31) hx hb dX0_daysBetween_27 (by decide) ?_
      exact b31 (σ3.1 (o + 2) (((p1 * (8 : Int32)) + p2)).toNatClampNeg) σ3 _ _ _ (lv_sub hl [] rfl) hw hf
def f_X0_galeOf_b28 (o : Nat) (y0 : Int32) (σ : MSt) : Option (Int32 × MSt) :=
  some (y0, σ)
def f_X0_galeOf_b27 (o : Nat)  (σ : MSt) : Option (Int32 × MSt) :=
  f_X0_galeOf_b28 o (0 : Int32) σ
def f_X0_galeOf (o : Nat) (p1 : Int32) (σ : MSt) : Option (Int32 × MSt) :=
  if p1 < 0 then
  (f_X0_galeOf_b27 o σ)
  else
  (if (σ.1 o 10) ≤ p1 then
  (f_X0_galeOf_b27 o σ)
  else
  (if (20 : Int32) ≤ p1 then
  (f_X0_galeOf_b27 o σ)
  else
  (k_ck (k_inb p1 20) <|
  f_X0_galeOf_b28 o (σ.1 (o + 6) (p1).toNatClampNeg) σ)))
def rmX0_galeOf : Room := { frames := 0, cells := 0, slots := 0, locals := 0 }
set_option maxHeartbeats 4000000 in
set_option maxRecDepth 100000 in
theorem c_X0_galeOf (l : Launch) (G : va_G) (Y : CY) (w : MSt → va_W) (ad : Nat → Nat) (o : Nat) (Lo : LayX0 ad w Y o) (p1 : Int32) (σ : MSt) (r : Int32) (σ' : MSt) (hf : f_X0_galeOf o p1 σ = some (r, σ')) : k_Mi l yX0_galeOf wsX0_galeOf rmX0_galeOf G Y w [.ref (ad o), .int p1] σ r σ' := by
  refine k_ofi (own := RX0) (cc := cX0_galeOf) (maxL := 2) (some .int) (by decide) rfl rfl (Nat.le_of_ble_eq_true rfl) ?_
  intro p e s m below meth c A C ls hl hw
  have hx := C.1
  have hb := C.2.1
  have hown := C.2.2.2.2.1
  have hts := C.2.2.2.2.2.1
  have hks := C.2.2.2.2.2.2.1
  have hl : lv_has ls 2 [(0, .ref (ad o)), (1, .int p1)] := hl
  have b28 : ∀ (y0 : Int32) (σ : MSt) (H : Heap) (locs : List Loc) (ls : Array Slot), lv_has ls 2 [] → k_W G w A s.heap σ H locs → f_X0_galeOf_b28 o y0 σ = some (r, σ') → W p l e rmX0_galeOf s m [.ref (ad o), .int p1].toArray below meth c H locs 0 0 (MQ below (k_Qi G w A r σ') [.ref (ad o), .int p1].toArray s 0 0 A) (F0 m 28 ls [.int y0]) := by
    intro y0 σ H locs ls hl hw hf
    unfold f_X0_galeOf_b28 at hf
    exact k_iret C hw hf dX0_galeOf_28
  have b27 : ∀ (σ : MSt) (H : Heap) (locs : List Loc) (ls : Array Slot), lv_has ls 2 [] → k_W G w A s.heap σ H locs → f_X0_galeOf_b27 o σ = some (r, σ') → W p l e rmX0_galeOf s m [.ref (ad o), .int p1].toArray below meth c H locs 0 0 (MQ below (k_Qi G w A r σ') [.ref (ad o), .int p1].toArray s 0 0 A) (F0 m 27 ls []) := by
    intro σ H locs ls hl hw hf
    unfold f_X0_galeOf_b27 at hf
    refine lv_iconst (v := (0 : Int32)) hx hb dX0_galeOf_27 (by decide) ?_
    exact b28 (0 : Int32) σ _ _ _ (lv_sub hl [] rfl) hw hf
  unfold f_X0_galeOf at hf
  refine lv_iload_n hx hb dX0_galeOf_0 rfl (lv_at hl 1 rfl) ?_
  refine lv_if_lt (tgt := 27) hx hb dX0_galeOf_1 (by decide) (fun h => ?_) (fun h => ?_)
  · have hf := k_ifT h hf
    exact b27 σ _ _ _ (lv_sub hl [] rfl) hw hf
  · have hf := k_ifF h hf
    refine lv_iload_n hx hb dX0_galeOf_4 rfl (lv_at hl 1 rfl) ?_
    refine lv_aload_n hx hb dX0_galeOf_5 rfl (lv_at hl 0 rfl) ?_
    refine k_get C hw (LX0_o Lo) (ci := 0) rfl k_in0 10 (by decide) lk0_51 (v := .int (σ.1 o 10)) rfl dX0_galeOf_6 ?_
    refine lv_icmp_ge (tgt := 27) hx hb dX0_galeOf_9 (by decide) (fun h => ?_) (fun h => ?_)
    · have hf := k_ifT h hf
      exact b27 σ _ _ _ (lv_sub hl [] rfl) hw hf
    · have hf := k_ifF h hf
      refine lv_iload_n hx hb dX0_galeOf_12 rfl (lv_at hl 1 rfl) ?_
      refine lv_bipush (v := (20 : Int32)) hx hb dX0_galeOf_13 (by decide) ?_
      refine lv_icmp_ge (tgt := 27) hx hb dX0_galeOf_15 (by decide) (fun h => ?_) (fun h => ?_)
      · have hf := k_ifT h hf
        exact b27 σ _ _ _ (lv_sub hl [] rfl) hw hf
      · have hf := k_ifF h hf
        refine lv_aload_n hx hb dX0_galeOf_18 rfl (lv_at hl 0 rfl) ?_
        refine k_get C hw (LX0_o Lo) (ci := 0) rfl k_in0 5 (by decide) lk0_27 (v := .ref (ad (o + 6))) rfl dX0_galeOf_19 ?_
        refine lv_iload_n hx hb dX0_galeOf_22 rfl (lv_at hl 1 rfl) ?_
        obtain ⟨hi, hf⟩ := k_ckE hf
        refine k_iald C hw (LX0_6 Lo) hi dX0_galeOf_23 ?_
        refine lv_goto (tgt := 28) hx hb dX0_galeOf_24 (by decide) ?_
        exact b28 (σ.1 (o + 6) (p1).toNatClampNeg) σ _ _ _ (lv_sub hl [] rfl) hw hf
def f_X0_firstBay_b27 (o : Nat) (y0 : Int32) (σ : MSt) : Option (Int32 × MSt) :=
  some (y0, σ)
def f_X0_firstBay (o : Nat)  (σ : MSt) : Option (Int32 × MSt) :=
  if (σ.1 o 11) = (-1 : Int32) then
  (if (σ.1 o 7) ≤ 0 then
  (f_X0_firstBay_b27 o (-1 : Int32) σ)
  else
  (f_X0_firstBay_b27 o (0 : Int32) σ))
  else
  (f_X0_firstBay_b27 o (σ.1 o 11) σ)
def rmX0_firstBay : Room := { frames := 0, cells := 0, slots := 0, locals := 0 }
set_option maxHeartbeats 4000000 in
set_option maxRecDepth 100000 in
theorem c_X0_firstBay (l : Launch) (G : va_G) (Y : CY) (w : MSt → va_W) (ad : Nat → Nat) (o : Nat) (Lo : LayX0 ad w Y o)  (σ : MSt) (r : Int32) (σ' : MSt) (hf : f_X0_firstBay o σ = some (r, σ')) : k_Mi l yX0_firstBay wsX0_firstBay rmX0_firstBay G Y w [.ref (ad o)] σ r σ' := by
  refine k_ofi (own := RX0) (cc := cX0_firstBay) (maxL := 1) (some .int) (by decide) rfl rfl (Nat.le_of_ble_eq_true rfl) ?_
  intro p e s m below meth c A C ls hl hw
  have hx := C.1
  have hb := C.2.1
  have hown := C.2.2.2.2.1
  have hts := C.2.2.2.2.2.1
  have hks := C.2.2.2.2.2.2.1
  have hl : lv_has ls 1 [(0, .ref (ad o))] := hl
  have b27 : ∀ (y0 : Int32) (σ : MSt) (H : Heap) (locs : List Loc) (ls : Array Slot), lv_has ls 1 [] → k_W G w A s.heap σ H locs → f_X0_firstBay_b27 o y0 σ = some (r, σ') → W p l e rmX0_firstBay s m [.ref (ad o)].toArray below meth c H locs 0 0 (MQ below (k_Qi G w A r σ') [.ref (ad o)].toArray s 0 0 A) (F0 m 27 ls [.int y0]) := by
    intro y0 σ H locs ls hl hw hf
    unfold f_X0_firstBay_b27 at hf
    exact k_iret C hw hf dX0_firstBay_27
  unfold f_X0_firstBay at hf
  refine lv_aload_n hx hb dX0_firstBay_0 rfl (lv_at hl 0 rfl) ?_
  refine k_get C hw (LX0_o Lo) (ci := 0) rfl k_in0 11 (by decide) lk0_54 (v := .int (σ.1 o 11)) rfl dX0_firstBay_1 ?_
  refine lv_iconst (v := (-1 : Int32)) hx hb dX0_firstBay_4 (by decide) ?_
  refine lv_icmp_eq (tgt := 15) hx hb dX0_firstBay_5 (by decide) (fun h => ?_) (fun h => ?_)
  · have hf := k_ifT h hf
    refine lv_aload_n hx hb dX0_firstBay_15 rfl (lv_at hl 0 rfl) ?_
    refine k_get C hw (LX0_o Lo) (ci := 0) rfl k_in0 7 (by decide) lk0_41 (v := .int (σ.1 o 7)) rfl dX0_firstBay_16 ?_
    refine lv_if_le (tgt := 26) hx hb dX0_firstBay_19 (by decide) (fun h => ?_) (fun h => ?_)
    · have hf := k_ifT h hf
      refine lv_iconst (v := (-1 : Int32)) hx hb dX0_firstBay_26 (by decide) ?_
      exact b27 (-1 : Int32) σ _ _ _ (lv_sub hl [] rfl) hw hf
    · have hf := k_ifF h hf
      refine lv_iconst (v := (0 : Int32)) hx hb dX0_firstBay_22 (by decide) ?_
      refine lv_goto (tgt := 27) hx hb dX0_firstBay_23 (by decide) ?_
      exact b27 (0 : Int32) σ _ _ _ (lv_sub hl [] rfl) hw hf
  · have hf := k_ifF h hf
    refine lv_aload_n hx hb dX0_firstBay_8 rfl (lv_at hl 0 rfl) ?_
    refine k_get C hw (LX0_o Lo) (ci := 0) rfl k_in0 11 (by decide) lk0_54 (v := .int (σ.1 o 11)) rfl dX0_firstBay_9 ?_
    refine lv_goto (tgt := 27) hx hb dX0_firstBay_12 (by decide) ?_
    exact b27 (σ.1 o 11) σ _ _ _ (lv_sub hl [] rfl) hw hf
def f_X0_addBay_b29 (o : Nat)  (σ : MSt) : Option MSt :=
  some σ
def f_X0_addBay (o : Nat) (p1 : Int32) (σ : MSt) : Option MSt :=
  if (8 : Int32) ≤ (σ.1 o 7) then
  (f_X0_addBay_b29 o σ)
  else
  (k_ck (k_inb (σ.1 o 7) 8) <|
  k_nm (mI σ (o + 1) ((σ.1 o 7)).toNatClampNeg p1) fun σ1 =>
  k_nm (mI σ1 o 7 ((σ1.1 o 7) + (1 : Int32))) fun σ2 =>
  f_X0_addBay_b29 o σ2)
def rmX0_addBay : Room := { frames := 0, cells := 0, slots := 0, locals := 0 }
set_option maxHeartbeats 4000000 in
set_option maxRecDepth 100000 in
theorem c_X0_addBay (l : Launch) (G : va_G) (Y : CY) (w : MSt → va_W) (ad : Nat → Nat) (o : Nat) (Lo : LayX0 ad w Y o) (p1 : Int32) (σ : MSt) (σ' : MSt) (hf : f_X0_addBay o p1 σ = some σ') : k_Mv l yX0_addBay wsX0_addBay rmX0_addBay G Y w [.ref (ad o), .int p1] σ σ' := by
  refine k_ofv (own := RX0) (cc := cX0_addBay) (maxL := 2) none (by decide) rfl rfl (Nat.le_of_ble_eq_true rfl) ?_
  intro p e s m below meth c A C ls hl hw
  have hx := C.1
  have hb := C.2.1
  have hown := C.2.2.2.2.1
  have hts := C.2.2.2.2.2.1
  have hks := C.2.2.2.2.2.2.1
  have hl : lv_has ls 2 [(0, .ref (ad o)), (1, .int p1)] := hl
  have b29 : ∀ (σ : MSt) (H : Heap) (locs : List Loc) (ls : Array Slot), lv_has ls 2 [] → k_W G w A s.heap σ H locs → f_X0_addBay_b29 o σ = some σ' → W p l e rmX0_addBay s m [.ref (ad o), .int p1].toArray below meth c H locs 0 0 (MQ below (k_Qv G w A σ') [.ref (ad o), .int p1].toArray s 0 0 A) (F0 m 29 ls []) := by
    intro σ H locs ls hl hw hf
    unfold f_X0_addBay_b29 at hf
    exact k_vret C hw hf dX0_addBay_29
  unfold f_X0_addBay at hf
  refine lv_aload_n hx hb dX0_addBay_0 rfl (lv_at hl 0 rfl) ?_
  refine k_get C hw (LX0_o Lo) (ci := 0) rfl k_in0 7 (by decide) lk0_41 (v := .int (σ.1 o 7)) rfl dX0_addBay_1 ?_
  refine lv_bipush (v := (8 : Int32)) hx hb dX0_addBay_4 (by decide) ?_
  refine lv_icmp_ge (tgt := 29) hx hb dX0_addBay_6 (by decide) (fun h => ?_) (fun h => ?_)
  · have hf := k_ifT h hf
    exact b29 σ _ _ _ (lv_sub hl [] rfl) hw hf
  · have hf := k_ifF h hf
    refine lv_aload_n hx hb dX0_addBay_9 rfl (lv_at hl 0 rfl) ?_
    refine k_get C hw (LX0_o Lo) (ci := 0) rfl k_in0 0 (by decide) lk0_9 (v := .ref (ad (o + 1))) rfl dX0_addBay_10 ?_
    refine lv_aload_n hx hb dX0_addBay_13 rfl (lv_at hl 0 rfl) ?_
    refine k_get C hw (LX0_o Lo) (ci := 0) rfl k_in0 7 (by decide) lk0_41 (v := .int (σ.1 o 7)) rfl dX0_addBay_14 ?_
    refine lv_iload_n hx hb dX0_addBay_17 rfl (lv_at hl 1 rfl) ?_
    obtain ⟨hi, hf⟩ := k_ckE hf
    refine k_iast C hw (LX0_1 Lo) hi dX0_addBay_18 (fun σ1 eq H locs hw => ?_)
    have hf := k_nmE eq hf
    refine lv_aload_n hx hb dX0_addBay_19 rfl (lv_at hl 0 rfl) ?_
    refine lv_dup hx hb dX0_addBay_20 rfl ?_
    refine k_get C hw (LX0_o Lo) (ci := 0) rfl k_in0 7 (by decide) lk0_41 (v := .int (σ1.1 o 7)) rfl dX0_addBay_21 ?_
    refine lv_iconst (v := (1 : Int32)) hx hb dX0_addBay_24 (by decide) ?_
    refine lv_iadd hx hb dX0_addBay_25 ?_
    refine k_put C hw (LX0_o Lo) (ci := 0) rfl k_in0 tyX0 tyX0_ok nmX0 7 (by decide) lk0_41 rfl ⟨rfl, rfl⟩ rfl dX0_addBay_26 (fun σ2 eq H locs hw => ?_)
    have hf := k_nmE eq hf
    exact b29 σ2 _ _ _ (lv_sub hl [] rfl) hw hf
def f_X0_addLane_b50 (o : Nat)  (σ : MSt) : Option MSt :=
  some σ
def f_X0_addLane (o : Nat) (p1 : Int32) (p2 : Int32) (p3 : Int32) (σ : MSt) : Option MSt :=
  k_bd (f_X0_hasBay o p1 σ) fun q2 σ1 =>
  if q2 = 0 then
  (f_X0_addLane_b50 o σ1)
  else
  (k_bd (f_X0_hasBay o p2 σ1) fun q4 σ3 =>
  if q4 = 0 then
  (f_X0_addLane_b50 o σ3)
  else
  (k_ck (k_inb ((p1 * (8 : Int32)) + p2) 64) <|
  k_nm (mI σ3 (o + 2) (((p1 * (8 : Int32)) + p2)).toNatClampNeg p3) fun σ5 =>
  k_ck (k_inb ((p2 * (8 : Int32)) + p1) 64) <|
  k_nm (mI σ5 (o + 2) (((p2 * (8 : Int32)) + p1)).toNatClampNeg p3) fun σ6 =>
  k_nm (mI σ6 o 8 ((σ6.1 o 8) + (1 : Int32))) fun σ7 =>
  f_X0_addLane_b50 o σ7))
def rmX0_addLane : Room := { frames := 1, cells := 0, slots := 0, locals := 21 }
set_option maxHeartbeats 4000000 in
set_option maxRecDepth 100000 in
theorem c_X0_addLane (l : Launch) (G : va_G) (Y : CY) (w : MSt → va_W) (ad : Nat → Nat) (o : Nat) (Lo : LayX0 ad w Y o) (p1 : Int32) (p2 : Int32) (p3 : Int32) (σ : MSt) (σ' : MSt) (hf : f_X0_addLane o p1 p2 p3 σ = some σ') : k_Mv l yX0_addLane wsX0_addLane rmX0_addLane G Y w [.ref (ad o), .int p1, .int p2, .int p3] σ σ' := by
  refine k_ofv (own := RX0) (cc := cX0_addLane) (maxL := 4) none (by decide) rfl rfl (Nat.le_of_ble_eq_true rfl) ?_
  intro p e s m below meth c A C ls hl hw
  have hx := C.1
  have hb := C.2.1
  have hown := C.2.2.2.2.1
  have hts := C.2.2.2.2.2.1
  have hks := C.2.2.2.2.2.2.1
  have hl : lv_has ls 4 [(0, .ref (ad o)), (1, .int p1), (2, .int p2), (3, .int p3)] := hl
  have b50 : ∀ (σ : MSt) (H : Heap) (locs : List Loc) (ls : Array Slot), lv_has ls 4 [] → k_W G w A s.heap σ H locs → f_X0_addLane_b50 o σ = some σ' → W p l e rmX0_addLane s m [.ref (ad o), .int p1, .int p2, .int p3].toArray below meth c H locs 0 0 (MQ below (k_Qv G w A σ') [.ref (ad o), .int p1, .int p2, .int p3].toArray s 0 0 A) (F0 m 50 ls []) := by
    intro σ H locs ls hl hw hf
    unfold f_X0_addLane_b50 at hf
    exact k_vret C hw hf dX0_addLane_50
  unfold f_X0_addLane at hf
  refine lv_aload_n hx hb dX0_addLane_0 rfl (lv_at hl 0 rfl) ?_
  refine lv_iload_n hx hb dX0_addLane_1 rfl (lv_at hl 1 rfl) ?_
  obtain ⟨q2, σ1, hq, hf⟩ := k_bdE hf
  refine k_callVi C hw (c_X0_hasBay l G Y w ad o Lo p1 σ q2 σ1 hq) (cwV 1 hts gX0_addLane_X0_hasBay rfl rfl rfl (by decide +kernel) ⟨Nat.le_of_ble_eq_true rfl, Nat.le_of_ble_eq_true rfl⟩) (k_recv C hw (LX0_o Lo) rfl) rfl hl.1 rfl (Nat.le_of_ble_eq_true rfl) dX0_addLane_2 (fun H locs hw => ?_)
  refine lv_if_eq (tgt := 50) hx hb dX0_addLane_5 (by decide) (fun h => ?_) (fun h => ?_)
  · have hf := k_ifT h hf
    exact b50 σ1 _ _ _ (lv_sub hl [] rfl) hw hf
  · have hf := k_ifF h hf
    refine lv_aload_n hx hb dX0_addLane_8 rfl (lv_at hl 0 rfl) ?_
    refine lv_iload_n hx hb dX0_addLane_9 rfl (lv_at hl 2 rfl) ?_
    obtain ⟨q4, σ3, hq, hf⟩ := k_bdE hf
    refine k_callVi C hw (c_X0_hasBay l G Y w ad o Lo p2 σ1 q4 σ3 hq) (cwV 1 hts gX0_addLane_X0_hasBay rfl rfl rfl (by decide +kernel) ⟨Nat.le_of_ble_eq_true rfl, Nat.le_of_ble_eq_true rfl⟩) (k_recv C hw (LX0_o Lo) rfl) rfl hl.1 rfl (Nat.le_of_ble_eq_true rfl) dX0_addLane_10 (fun H locs hw => ?_)
    refine lv_if_eq (tgt := 50) hx hb dX0_addLane_13 (by decide) (fun h => ?_) (fun h => ?_)
    · have hf := k_ifT h hf
      exact b50 σ3 _ _ _ (lv_sub hl [] rfl) hw hf
    · have hf := k_ifF h hf
      refine lv_aload_n hx hb dX0_addLane_16 rfl (lv_at hl 0 rfl) ?_
      refine k_get C hw (LX0_o Lo) (ci := 0) rfl k_in0 1 (by decide) lk0_15 (v := .ref (ad (o + 2))) rfl dX0_addLane_17 ?_
      refine lv_iload_n hx hb dX0_addLane_20 rfl (lv_at hl 1 rfl) ?_
      refine lv_bipush (v := (8 : Int32)) hx hb dX0_addLane_21 (by decide) ?_
      refine lv_imul hx hb dX0_addLane_23 ?_
      refine lv_iload_n hx hb dX0_addLane_24 rfl (lv_at hl 2 rfl) ?_
      refine lv_iadd hx hb dX0_addLane_25 ?_
      refine lv_iload_n hx hb dX0_addLane_26 rfl (lv_at hl 3 rfl) ?_
      obtain ⟨hi, hf⟩ := k_ckE hf
      refine k_iast C hw (LX0_2 Lo) hi dX0_addLane_27 (fun σ5 eq H locs hw => ?_)
      have hf := k_nmE eq hf
      refine lv_aload_n hx hb dX0_addLane_28 rfl (lv_at hl 0 rfl) ?_
      refine k_get C hw (LX0_o Lo) (ci := 0) rfl k_in0 1 (by decide) lk0_15 (v := .ref (ad (o + 2))) rfl dX0_addLane_29 ?_
      refine lv_iload_n hx hb dX0_addLane_32 rfl (lv_at hl 2 rfl) ?_
      refine lv_bipush (v := (8 : Int32)) hx hb dX0_addLane_33 (by decide) ?_
      refine lv_imul hx hb dX0_addLane_35 ?_
      refine lv_iload_n hx hb dX0_addLane_36 rfl (lv_at hl 1 rfl) ?_
      refine lv_iadd hx hb dX0_addLane_37 ?_
      refine lv_iload_n hx hb dX0_addLane_38 rfl (lv_at hl 3 rfl) ?_
      obtain ⟨hi, hf⟩ := k_ckE hf
      refine k_iast C hw (LX0_2 Lo) hi dX0_addLane_39 (fun σ6 eq H locs hw => ?_)
      have hf := k_nmE eq hf
      refine lv_aload_n hx hb dX0_addLane_40 rfl (lv_at hl 0 rfl) ?_
      refine lv_dup hx hb dX0_addLane_41 rfl ?_
      refine k_get C hw (LX0_o Lo) (ci := 0) rfl k_in0 8 (by decide) lk0_45 (v := .int (σ6.1 o 8)) rfl dX0_addLane_42 ?_
      refine lv_iconst (v := (1 : Int32)) hx hb dX0_addLane_45 (by decide) ?_
      refine lv_iadd hx hb dX0_addLane_46 ?_
      refine k_put C hw (LX0_o Lo) (ci := 0) rfl k_in0 tyX0 tyX0_ok nmX0 8 (by decide) lk0_45 rfl ⟨rfl, rfl⟩ rfl dX0_addLane_47 (fun σ7 eq H locs hw => ?_)
      have hf := k_nmE eq hf
      exact b50 σ7 _ _ _ (lv_sub hl [] rfl) hw hf
def f_X0_addDeed_b49 (o : Nat)  (σ : MSt) : Option MSt :=
  some σ
def f_X0_addDeed (o : Nat) (p1 : Int32) (p2 : Int32) (p3 : Int32) (σ : MSt) : Option MSt :=
  if (12 : Int32) ≤ (σ.1 o 9) then
  (f_X0_addDeed_b49 o σ)
  else
  (k_ck (k_inb (σ.1 o 9) 12) <|
  k_nm (mI σ (o + 3) ((σ.1 o 9)).toNatClampNeg p1) fun σ1 =>
  k_ck (k_inb (σ1.1 o 9) 12) <|
  k_nm (mI σ1 (o + 4) ((σ1.1 o 9)).toNatClampNeg p2) fun σ2 =>
  k_ck (k_inb (σ2.1 o 9) 12) <|
  k_nm (mI σ2 (o + 5) ((σ2.1 o 9)).toNatClampNeg p3) fun σ3 =>
  k_nm (mI σ3 o 9 ((σ3.1 o 9) + (1 : Int32))) fun σ4 =>
  f_X0_addDeed_b49 o σ4)
def rmX0_addDeed : Room := { frames := 0, cells := 0, slots := 0, locals := 0 }
set_option maxHeartbeats 4000000 in
set_option maxRecDepth 100000 in
theorem c_X0_addDeed (l : Launch) (G : va_G) (Y : CY) (w : MSt → va_W) (ad : Nat → Nat) (o : Nat) (Lo : LayX0 ad w Y o) (p1 : Int32) (p2 : Int32) (p3 : Int32) (σ : MSt) (σ' : MSt) (hf : f_X0_addDeed o p1 p2 p3 σ = some σ') : k_Mv l yX0_addDeed wsX0_addDeed rmX0_addDeed G Y w [.ref (ad o), .int p1, .int p2, .int p3] σ σ' := by
  refine k_ofv (own := RX0) (cc := cX0_addDeed) (maxL := 4) none (by decide) rfl rfl (Nat.le_of_ble_eq_true rfl) ?_
  intro p e s m below meth c A C ls hl hw
  have hx := C.1
  have hb := C.2.1
  have hown := C.2.2.2.2.1
  have hts := C.2.2.2.2.2.1
  have hks := C.2.2.2.2.2.2.1
  have hl : lv_has ls 4 [(0, .ref (ad o)), (1, .int p1), (2, .int p2), (3, .int p3)] := hl
  have b49 : ∀ (σ : MSt) (H : Heap) (locs : List Loc) (ls : Array Slot), lv_has ls 4 [] → k_W G w A s.heap σ H locs → f_X0_addDeed_b49 o σ = some σ' → W p l e rmX0_addDeed s m [.ref (ad o), .int p1, .int p2, .int p3].toArray below meth c H locs 0 0 (MQ below (k_Qv G w A σ') [.ref (ad o), .int p1, .int p2, .int p3].toArray s 0 0 A) (F0 m 49 ls []) := by
    intro σ H locs ls hl hw hf
    unfold f_X0_addDeed_b49 at hf
    exact k_vret C hw hf dX0_addDeed_49
  unfold f_X0_addDeed at hf
  refine lv_aload_n hx hb dX0_addDeed_0 rfl (lv_at hl 0 rfl) ?_
  refine k_get C hw (LX0_o Lo) (ci := 0) rfl k_in0 9 (by decide) lk0_48 (v := .int (σ.1 o 9)) rfl dX0_addDeed_1 ?_
  refine lv_bipush (v := (12 : Int32)) hx hb dX0_addDeed_4 (by decide) ?_
  refine lv_icmp_ge (tgt := 49) hx hb dX0_addDeed_6 (by decide) (fun h => ?_) (fun h => ?_)
  · have hf := k_ifT h hf
    exact b49 σ _ _ _ (lv_sub hl [] rfl) hw hf
  · have hf := k_ifF h hf
    refine lv_aload_n hx hb dX0_addDeed_9 rfl (lv_at hl 0 rfl) ?_
    refine k_get C hw (LX0_o Lo) (ci := 0) rfl k_in0 2 (by decide) lk0_18 (v := .ref (ad (o + 3))) rfl dX0_addDeed_10 ?_
    refine lv_aload_n hx hb dX0_addDeed_13 rfl (lv_at hl 0 rfl) ?_
    refine k_get C hw (LX0_o Lo) (ci := 0) rfl k_in0 9 (by decide) lk0_48 (v := .int (σ.1 o 9)) rfl dX0_addDeed_14 ?_
    refine lv_iload_n hx hb dX0_addDeed_17 rfl (lv_at hl 1 rfl) ?_
    obtain ⟨hi, hf⟩ := k_ckE hf
    refine k_iast C hw (LX0_3 Lo) hi dX0_addDeed_18 (fun σ1 eq H locs hw => ?_)
    have hf := k_nmE eq hf
    refine lv_aload_n hx hb dX0_addDeed_19 rfl (lv_at hl 0 rfl) ?_
    refine k_get C hw (LX0_o Lo) (ci := 0) rfl k_in0 3 (by decide) lk0_21 (v := .ref (ad (o + 4))) rfl dX0_addDeed_20 ?_
    refine lv_aload_n hx hb dX0_addDeed_23 rfl (lv_at hl 0 rfl) ?_
    refine k_get C hw (LX0_o Lo) (ci := 0) rfl k_in0 9 (by decide) lk0_48 (v := .int (σ1.1 o 9)) rfl dX0_addDeed_24 ?_
    refine lv_iload_n hx hb dX0_addDeed_27 rfl (lv_at hl 2 rfl) ?_
    obtain ⟨hi, hf⟩ := k_ckE hf
    refine k_iast C hw (LX0_4 Lo) hi dX0_addDeed_28 (fun σ2 eq H locs hw => ?_)
    have hf := k_nmE eq hf
    refine lv_aload_n hx hb dX0_addDeed_29 rfl (lv_at hl 0 rfl) ?_
    refine k_get C hw (LX0_o Lo) (ci := 0) rfl k_in0 4 (by decide) lk0_24 (v := .ref (ad (o + 5))) rfl dX0_addDeed_30 ?_
    refine lv_aload_n hx hb dX0_addDeed_33 rfl (lv_at hl 0 rfl) ?_
    refine k_get C hw (LX0_o Lo) (ci := 0) rfl k_in0 9 (by decide) lk0_48 (v := .int (σ2.1 o 9)) rfl dX0_addDeed_34 ?_
    refine lv_iload_n hx hb dX0_addDeed_37 rfl (lv_at hl 3 rfl) ?_
    obtain ⟨hi, hf⟩ := k_ckE hf
    refine k_iast C hw (LX0_5 Lo) hi dX0_addDeed_38 (fun σ3 eq H locs hw => ?_)
    have hf := k_nmE eq hf
    refine lv_aload_n hx hb dX0_addDeed_39 rfl (lv_at hl 0 rfl) ?_
    refine lv_dup hx hb dX0_addDeed_40 rfl ?_
    refine k_get C hw (LX0_o Lo) (ci := 0) rfl k_in0 9 (by decide) lk0_48 (v := .int (σ3.1 o 9)) rfl dX0_addDeed_41 ?_
    refine lv_iconst (v := (1 : Int32)) hx hb dX0_addDeed_44 (by decide) ?_
    refine lv_iadd hx hb dX0_addDeed_45 ?_
    refine k_put C hw (LX0_o Lo) (ci := 0) rfl k_in0 tyX0 tyX0_ok nmX0 9 (by decide) lk0_48 rfl ⟨rfl, rfl⟩ rfl dX0_addDeed_46 (fun σ4 eq H locs hw => ?_)
    have hf := k_nmE eq hf
    exact b49 σ4 _ _ _ (lv_sub hl [] rfl) hw hf
def f_X0_addWind_b29 (o : Nat)  (σ : MSt) : Option MSt :=
  some σ
def f_X0_addWind (o : Nat) (p1 : Int32) (σ : MSt) : Option MSt :=
  if (20 : Int32) ≤ (σ.1 o 10) then
  (f_X0_addWind_b29 o σ)
  else
  (k_ck (k_inb (σ.1 o 10) 20) <|
  k_nm (mI σ (o + 6) ((σ.1 o 10)).toNatClampNeg p1) fun σ1 =>
  k_nm (mI σ1 o 10 ((σ1.1 o 10) + (1 : Int32))) fun σ2 =>
  f_X0_addWind_b29 o σ2)
def rmX0_addWind : Room := { frames := 0, cells := 0, slots := 0, locals := 0 }
set_option maxHeartbeats 4000000 in
set_option maxRecDepth 100000 in
theorem c_X0_addWind (l : Launch) (G : va_G) (Y : CY) (w : MSt → va_W) (ad : Nat → Nat) (o : Nat) (Lo : LayX0 ad w Y o) (p1 : Int32) (σ : MSt) (σ' : MSt) (hf : f_X0_addWind o p1 σ = some σ') : k_Mv l yX0_addWind wsX0_addWind rmX0_addWind G Y w [.ref (ad o), .int p1] σ σ' := by
  refine k_ofv (own := RX0) (cc := cX0_addWind) (maxL := 2) none (by decide) rfl rfl (Nat.le_of_ble_eq_true rfl) ?_
  intro p e s m below meth c A C ls hl hw
  have hx := C.1
  have hb := C.2.1
  have hown := C.2.2.2.2.1
  have hts := C.2.2.2.2.2.1
  have hks := C.2.2.2.2.2.2.1
  have hl : lv_has ls 2 [(0, .ref (ad o)), (1, .int p1)] := hl
  have b29 : ∀ (σ : MSt) (H : Heap) (locs : List Loc) (ls : Array Slot), lv_has ls 2 [] → k_W G w A s.heap σ H locs → f_X0_addWind_b29 o σ = some σ' → W p l e rmX0_addWind s m [.ref (ad o), .int p1].toArray below meth c H locs 0 0 (MQ below (k_Qv G w A σ') [.ref (ad o), .int p1].toArray s 0 0 A) (F0 m 29 ls []) := by
    intro σ H locs ls hl hw hf
    unfold f_X0_addWind_b29 at hf
    exact k_vret C hw hf dX0_addWind_29
  unfold f_X0_addWind at hf
  refine lv_aload_n hx hb dX0_addWind_0 rfl (lv_at hl 0 rfl) ?_
  refine k_get C hw (LX0_o Lo) (ci := 0) rfl k_in0 10 (by decide) lk0_51 (v := .int (σ.1 o 10)) rfl dX0_addWind_1 ?_
  refine lv_bipush (v := (20 : Int32)) hx hb dX0_addWind_4 (by decide) ?_
  refine lv_icmp_ge (tgt := 29) hx hb dX0_addWind_6 (by decide) (fun h => ?_) (fun h => ?_)
  · have hf := k_ifT h hf
    exact b29 σ _ _ _ (lv_sub hl [] rfl) hw hf
  · have hf := k_ifF h hf
    refine lv_aload_n hx hb dX0_addWind_9 rfl (lv_at hl 0 rfl) ?_
    refine k_get C hw (LX0_o Lo) (ci := 0) rfl k_in0 5 (by decide) lk0_27 (v := .ref (ad (o + 6))) rfl dX0_addWind_10 ?_
    refine lv_aload_n hx hb dX0_addWind_13 rfl (lv_at hl 0 rfl) ?_
    refine k_get C hw (LX0_o Lo) (ci := 0) rfl k_in0 10 (by decide) lk0_51 (v := .int (σ.1 o 10)) rfl dX0_addWind_14 ?_
    refine lv_iload_n hx hb dX0_addWind_17 rfl (lv_at hl 1 rfl) ?_
    obtain ⟨hi, hf⟩ := k_ckE hf
    refine k_iast C hw (LX0_6 Lo) hi dX0_addWind_18 (fun σ1 eq H locs hw => ?_)
    have hf := k_nmE eq hf
    refine lv_aload_n hx hb dX0_addWind_19 rfl (lv_at hl 0 rfl) ?_
    refine lv_dup hx hb dX0_addWind_20 rfl ?_
    refine k_get C hw (LX0_o Lo) (ci := 0) rfl k_in0 10 (by decide) lk0_51 (v := .int (σ1.1 o 10)) rfl dX0_addWind_21 ?_
    refine lv_iconst (v := (1 : Int32)) hx hb dX0_addWind_24 (by decide) ?_
    refine lv_iadd hx hb dX0_addWind_25 ?_
    refine k_put C hw (LX0_o Lo) (ci := 0) rfl k_in0 tyX0 tyX0_ok nmX0 10 (by decide) lk0_51 rfl ⟨rfl, rfl⟩ rfl dX0_addWind_26 (fun σ2 eq H locs hw => ?_)
    have hf := k_nmE eq hf
    exact b29 σ2 _ _ _ (lv_sub hl [] rfl) hw hf
def f_X5_take_b2_s (o : Nat) (o1 : Nat) (r2 : Int32 → MSt → Option MSt) (x2 : Int32) (σ : MSt) : Option MSt :=
  if (8 : Int32) ≤ x2 then
  (k_nm (mI σ o 3 (σ.1 o1 3)) fun σ1 =>
  k_nm (mI σ1 o 4 (σ1.1 o1 4)) fun σ2 =>
  k_nm (mI σ2 o 5 (σ2.1 o1 5)) fun σ3 =>
  k_nm (mI σ3 o 6 (σ3.1 o1 6)) fun σ4 =>
  k_ck (k_bo (σ4.1 o1 7)) <|
  k_nm (mI σ4 o 7 (σ4.1 o1 7)) fun σ5 =>
  k_nm (mJ σ5 o 8 (σ5.2 o1 8)) fun σ6 =>
  k_nm (mI σ6 o 9 (σ6.1 o1 9)) fun σ7 =>
  k_nm (mI σ7 o 10 (σ7.1 o1 10)) fun σ8 =>
  k_nm (mI σ8 o 11 (σ8.1 o1 11)) fun σ9 =>
  some σ9)
  else
  (k_ck (k_inb x2 8) <|
  k_ck (k_inb x2 8) <|
  k_nm (mI σ (o + 1) (x2).toNatClampNeg (σ.1 (o1 + 1) (x2).toNatClampNeg)) fun σ10 =>
  k_ck (k_inb x2 8) <|
  k_ck (k_inb x2 8) <|
  k_nm (mI σ10 (o + 2) (x2).toNatClampNeg (σ10.1 (o1 + 2) (x2).toNatClampNeg)) fun σ11 =>
  k_ck (k_inb x2 8) <|
  k_ck (k_inb x2 8) <|
  k_nm (mI σ11 (o + 3) (x2).toNatClampNeg (σ11.1 (o1 + 3) (x2).toNatClampNeg)) fun σ12 =>
  k_nm (x2 + (1 : Int32)) fun u13 =>
  r2 u13 σ12)
def f_X5_take_b2 (o : Nat) (o1 : Nat) : Nat → Int32 → MSt → Option MSt
  | 0 => fun _ _ => none
  | n + 1 => f_X5_take_b2_s o o1 (f_X5_take_b2 o o1 n)
def f_X5_take (o : Nat) (o1 : Nat)  (σ : MSt) : Option MSt :=
  f_X5_take_b2 o o1 FU (0 : Int32) σ
def rmX5_take : Room := { frames := 0, cells := 0, slots := 0, locals := 0 }
set_option maxHeartbeats 4000000 in
set_option maxRecDepth 100000 in
theorem c_X5_take (l : Launch) (G : va_G) (Y : CY) (w : MSt → va_W) (ad : Nat → Nat) (o : Nat) (o1 : Nat) (Lo : LayX5 ad w Y o) (L1 : LayX5 ad w Y o1)  (σ : MSt) (σ' : MSt) (hf : f_X5_take o o1 σ = some σ') : k_Mv l yX5_take wsX5_take rmX5_take G Y w [.ref (ad o), .ref (ad o1)] σ σ' := by
  refine k_ofv (own := RX5) (cc := cX5_take) (maxL := 3) none (by decide) rfl rfl (Nat.le_of_ble_eq_true rfl) ?_
  intro p e s m below meth c A C ls hl hw
  have hx := C.1
  have hb := C.2.1
  have hown := C.2.2.2.2.1
  have hts := C.2.2.2.2.2.1
  have hks := C.2.2.2.2.2.2.1
  have hl : lv_has ls 3 [(0, .ref (ad o)), (1, .ref (ad o1))] := hl
  have b2 : ∀ (n2 : Nat) (x2 : Int32) (σ : MSt) (H : Heap) (locs : List Loc) (ls : Array Slot), lv_has ls 3 [(0, .ref (ad o)), (1, .ref (ad o1)), (2, .int x2)] → k_W G w A s.heap σ H locs → f_X5_take_b2 o o1 n2 x2 σ = some σ' → W p l e rmX5_take s m [.ref (ad o), .ref (ad o1)].toArray below meth c H locs 0 0 (MQ below (k_Qv G w A σ') [.ref (ad o), .ref (ad o1)].toArray s 0 0 A) (F0 m 2 ls []) := by
    intro n2
    induction n2 with
    | zero =>
      intro x2 σ H locs ls hl hw hf
      have hf : (none : Option MSt) = some σ' := hf
      cases hf
    | succ n2 ih2 =>
      intro x2 σ H locs ls hl hw hf
      have hf : f_X5_take_b2_s o o1 (f_X5_take_b2 o o1 n2) x2 σ = some σ' := hf
      unfold f_X5_take_b2_s at hf
      refine lv_iload_n hx hb dX5_take_2 rfl (lv_at hl 2 rfl) ?_
      refine lv_bipush (v := (8 : Int32)) hx hb dX5_take_3 (by decide) ?_
      refine lv_icmp_ge (tgt := 50) hx hb dX5_take_5 (by decide) (fun h => ?_) (fun h => ?_)
      · have hf := k_ifT h hf
        refine lv_aload_n hx hb dX5_take_50 rfl (lv_at hl 0 rfl) ?_
        refine lv_aload_n hx hb dX5_take_51 rfl (lv_at hl 1 rfl) ?_
        refine k_get C hw (LX5_o L1) (ci := 5) rfl k_in5 3 (by decide) lk5_31 (v := .int (σ.1 o1 3)) rfl dX5_take_52 ?_
        refine k_put C hw (LX5_o Lo) (ci := 5) rfl k_in5 tyX5 tyX5_ok nmX5 3 (by decide) lk5_31 rfl ⟨rfl, rfl⟩ rfl dX5_take_55 (fun σ1 eq H locs hw => ?_)
        have hf := k_nmE eq hf
        refine lv_aload_n hx hb dX5_take_58 rfl (lv_at hl 0 rfl) ?_
        refine lv_aload_n hx hb dX5_take_59 rfl (lv_at hl 1 rfl) ?_
        refine k_get C hw (LX5_o L1) (ci := 5) rfl k_in5 4 (by decide) lk5_21 (v := .int (σ1.1 o1 4)) rfl dX5_take_60 ?_
        refine k_put C hw (LX5_o Lo) (ci := 5) rfl k_in5 tyX5 tyX5_ok nmX5 4 (by decide) lk5_21 rfl ⟨rfl, rfl⟩ rfl dX5_take_63 (fun σ2 eq H locs hw => ?_)
        have hf := k_nmE eq hf
        refine lv_aload_n hx hb dX5_take_66 rfl (lv_at hl 0 rfl) ?_
        refine lv_aload_n hx hb dX5_take_67 rfl (lv_at hl 1 rfl) ?_
        refine k_get C hw (LX5_o L1) (ci := 5) rfl k_in5 5 (by decide) lk5_25 (v := .int (σ2.1 o1 5)) rfl dX5_take_68 ?_
        refine k_put C hw (LX5_o Lo) (ci := 5) rfl k_in5 tyX5 tyX5_ok nmX5 5 (by decide) lk5_25 rfl ⟨rfl, rfl⟩ rfl dX5_take_71 (fun σ3 eq H locs hw => ?_)
        have hf := k_nmE eq hf
        refine lv_aload_n hx hb dX5_take_74 rfl (lv_at hl 0 rfl) ?_
        refine lv_aload_n hx hb dX5_take_75 rfl (lv_at hl 1 rfl) ?_
        refine k_get C hw (LX5_o L1) (ci := 5) rfl k_in5 6 (by decide) lk5_28 (v := .int (σ3.1 o1 6)) rfl dX5_take_76 ?_
        refine k_put C hw (LX5_o Lo) (ci := 5) rfl k_in5 tyX5 tyX5_ok nmX5 6 (by decide) lk5_28 rfl ⟨rfl, rfl⟩ rfl dX5_take_79 (fun σ4 eq H locs hw => ?_)
        have hf := k_nmE eq hf
        refine lv_aload_n hx hb dX5_take_82 rfl (lv_at hl 0 rfl) ?_
        refine lv_aload_n hx hb dX5_take_83 rfl (lv_at hl 1 rfl) ?_
        refine k_get C hw (LX5_o L1) (ci := 5) rfl k_in5 7 (by decide) lk5_40 (v := .int (σ4.1 o1 7)) rfl dX5_take_84 ?_
        obtain ⟨hz, hf⟩ := k_ckE hf
        refine k_put C hw (LX5_o Lo) (ci := 5) rfl k_in5 tyX5 tyX5_ok nmX5 7 (by decide) lk5_40 rfl (k_boE hz) rfl dX5_take_87 (fun σ5 eq H locs hw => ?_)
        have hf := k_nmE eq hf
        refine lv_aload_n hx hb dX5_take_90 rfl (lv_at hl 0 rfl) ?_
        refine lv_aload_n hx hb dX5_take_91 rfl (lv_at hl 1 rfl) ?_
        refine k_get C hw (LX5_o L1) (ci := 5) rfl k_in5 8 (by decide) lk5_47 (v := .long (σ5.2 o1 8)) rfl dX5_take_92 ?_
        refine k_putJ C hw (LX5_o Lo) (ci := 5) rfl k_in5 tyX5 tyX5_ok nmX5 8 (by decide) lk5_47 rfl ⟨rfl, rfl⟩ rfl dX5_take_95 (fun σ6 eq H locs hw => ?_)
        have hf := k_nmE eq hf
        refine lv_aload_n hx hb dX5_take_98 rfl (lv_at hl 0 rfl) ?_
        refine lv_aload_n hx hb dX5_take_99 rfl (lv_at hl 1 rfl) ?_
        refine k_get C hw (LX5_o L1) (ci := 5) rfl k_in5 9 (by decide) lk5_51 (v := .int (σ6.1 o1 9)) rfl dX5_take_100 ?_
        refine k_put C hw (LX5_o Lo) (ci := 5) rfl k_in5 tyX5 tyX5_ok nmX5 9 (by decide) lk5_51 rfl ⟨rfl, rfl⟩ rfl dX5_take_103 (fun σ7 eq H locs hw => ?_)
        have hf := k_nmE eq hf
        refine lv_aload_n hx hb dX5_take_106 rfl (lv_at hl 0 rfl) ?_
        refine lv_aload_n hx hb dX5_take_107 rfl (lv_at hl 1 rfl) ?_
        refine k_get C hw (LX5_o L1) (ci := 5) rfl k_in5 10 (by decide) lk5_54 (v := .int (σ7.1 o1 10)) rfl dX5_take_108 ?_
        refine k_put C hw (LX5_o Lo) (ci := 5) rfl k_in5 tyX5 tyX5_ok nmX5 10 (by decide) lk5_54 rfl ⟨rfl, rfl⟩ rfl dX5_take_111 (fun σ8 eq H locs hw => ?_)
        have hf := k_nmE eq hf
        refine lv_aload_n hx hb dX5_take_114 rfl (lv_at hl 0 rfl) ?_
        refine lv_aload_n hx hb dX5_take_115 rfl (lv_at hl 1 rfl) ?_
        refine k_get C hw (LX5_o L1) (ci := 5) rfl k_in5 11 (by decide) lk5_57 (v := .int (σ8.1 o1 11)) rfl dX5_take_116 ?_
        refine k_put C hw (LX5_o Lo) (ci := 5) rfl k_in5 tyX5 tyX5_ok nmX5 11 (by decide) lk5_57 rfl ⟨rfl, rfl⟩ rfl dX5_take_119 (fun σ9 eq H locs hw => ?_)
        have hf := k_nmE eq hf
        exact k_vret C hw hf dX5_take_122
      · have hf := k_ifF h hf
        refine lv_aload_n hx hb dX5_take_8 rfl (lv_at hl 0 rfl) ?_
        refine k_get C hw (LX5_o Lo) (ci := 5) rfl k_in5 0 (by decide) lk5_9 (v := .ref (ad (o + 1))) rfl dX5_take_9 ?_
        refine lv_iload_n hx hb dX5_take_12 rfl (lv_at hl 2 rfl) ?_
        refine lv_aload_n hx hb dX5_take_13 rfl (lv_at hl 1 rfl) ?_
        refine k_get C hw (LX5_o L1) (ci := 5) rfl k_in5 0 (by decide) lk5_9 (v := .ref (ad (o1 + 1))) rfl dX5_take_14 ?_
        refine lv_iload_n hx hb dX5_take_17 rfl (lv_at hl 2 rfl) ?_
        obtain ⟨hi, hf⟩ := k_ckE hf
        refine k_iald C hw (LX5_1 L1) hi dX5_take_18 ?_
        obtain ⟨hi, hf⟩ := k_ckE hf
        refine k_iast C hw (LX5_1 Lo) hi dX5_take_19 (fun σ10 eq H locs hw => ?_)
        have hf := k_nmE eq hf
        refine lv_aload_n hx hb dX5_take_20 rfl (lv_at hl 0 rfl) ?_
        refine k_get C hw (LX5_o Lo) (ci := 5) rfl k_in5 1 (by decide) lk5_15 (v := .ref (ad (o + 2))) rfl dX5_take_21 ?_
        refine lv_iload_n hx hb dX5_take_24 rfl (lv_at hl 2 rfl) ?_
        refine lv_aload_n hx hb dX5_take_25 rfl (lv_at hl 1 rfl) ?_
        refine k_get C hw (LX5_o L1) (ci := 5) rfl k_in5 1 (by decide) lk5_15 (v := .ref (ad (o1 + 2))) rfl dX5_take_26 ?_
        refine lv_iload_n hx hb dX5_take_29 rfl (lv_at hl 2 rfl) ?_
        obtain ⟨hi, hf⟩ := k_ckE hf
        refine k_iald C hw (LX5_2 L1) hi dX5_take_30 ?_
        obtain ⟨hi, hf⟩ := k_ckE hf
        refine k_iast C hw (LX5_2 Lo) hi dX5_take_31 (fun σ11 eq H locs hw => ?_)
        have hf := k_nmE eq hf
        refine lv_aload_n hx hb dX5_take_32 rfl (lv_at hl 0 rfl) ?_
        refine k_get C hw (LX5_o Lo) (ci := 5) rfl k_in5 2 (by decide) lk5_18 (v := .ref (ad (o + 3))) rfl dX5_take_33 ?_
        refine lv_iload_n hx hb dX5_take_36 rfl (lv_at hl 2 rfl) ?_
        refine lv_aload_n hx hb dX5_take_37 rfl (lv_at hl 1 rfl) ?_
        refine k_get C hw (LX5_o L1) (ci := 5) rfl k_in5 2 (by decide) lk5_18 (v := .ref (ad (o1 + 3))) rfl dX5_take_38 ?_
        refine lv_iload_n hx hb dX5_take_41 rfl (lv_at hl 2 rfl) ?_
        obtain ⟨hi, hf⟩ := k_ckE hf
        refine k_iald C hw (LX5_3 L1) hi dX5_take_42 ?_
        obtain ⟨hi, hf⟩ := k_ckE hf
        refine k_iast C hw (LX5_3 Lo) hi dX5_take_43 (fun σ12 eq H locs hw => ?_)
        have hf := k_nmE eq hf
        obtain ⟨u13, ex⟩ : ∃ y : Int32, y = (x2 + (1 : Int32)) := ⟨_, rfl⟩
        have hf := k_nmE ex hf
        refine lv_iinc (v := u13) (lv' := [(2, .int u13), (0, .ref (ad o)), (1, .ref (ad o1))]) hx hb dX5_take_44 hl (k := 2) rfl (by rw [ex]; rfl) (by decide) rfl (fun ls hl => ?_)
        refine lv_goto (tgt := 2) hx hb dX5_take_47 (by decide) ?_
        exact ih2 u13 σ12 _ _ _ (lv_sub hl [1, 2, 0] rfl) hw hf
  unfold f_X5_take at hf
  refine lv_iconst (v := (0 : Int32)) hx hb dX5_take_0 (by decide) ?_
  refine lv_istore_n (lv' := [(2, .int (0 : Int32)), (0, .ref (ad o)), (1, .ref (ad o1))]) hx hb dX5_take_1 rfl hl (by decide) rfl (fun ls hl => ?_)
  exact b2 FU (0 : Int32) σ _ _ _ (lv_sub hl [1, 2, 0] rfl) hw hf
def f_X1_asTold   (σ : MSt) : Option MSt :=
  k_bv (f_X5_take 58 50 σ) fun σ1 =>
  k_nm (mI σ1 71 4 (1 : Int32)) fun σ2 =>
  k_nm (mI σ2 71 5 (0 : Int32)) fun σ3 =>
  k_nm (mI σ3 71 6 (0 : Int32)) fun σ4 =>
  k_nm (mI σ4 71 7 (0 : Int32)) fun σ5 =>
  k_nm (mI σ5 71 8 (-1 : Int32)) fun σ6 =>
  some σ6
def rmX1_asTold : Room := { frames := 1, cells := 0, slots := 0, locals := 22 }
set_option maxHeartbeats 4000000 in
set_option maxRecDepth 100000 in
theorem c_X1_asTold (l : Launch) (G : va_G) (Y : CY) (w : MSt → va_W) (ad : Nat → Nat)  (LC : LayC ad w Y)  (σ : MSt) (σ' : MSt) (hf : f_X1_asTold σ = some σ') : k_Mv l yX1_asTold wsX1_asTold rmX1_asTold G Y w [.ref (ad 71)] σ σ' := by
  refine k_ofv (own := RX1) (cc := cX1_asTold) (maxL := 1) none (by decide) rfl rfl (Nat.le_of_ble_eq_true rfl) ?_
  intro p e s m below meth c A C ls hl hw
  have hx := C.1
  have hb := C.2.1
  have hown := C.2.2.2.2.1
  have hts := C.2.2.2.2.2.1
  have hks := C.2.2.2.2.2.2.1
  have hl : lv_has ls 1 [(0, .ref (ad 71))] := hl
  unfold f_X1_asTold at hf
  refine lv_aload_n hx hb dX1_asTold_0 rfl (lv_at hl 0 rfl) ?_
  refine k_get C hw (LC_71 LC) (ci := 1) rfl k_in1 2 (by decide) lk1_12 (v := .ref (ad 58)) rfl dX1_asTold_1 ?_
  refine lv_aload_n hx hb dX1_asTold_4 rfl (lv_at hl 0 rfl) ?_
  refine k_get C hw (LC_71 LC) (ci := 1) rfl k_in1 1 (by decide) lk1_29 (v := .ref (ad 50)) rfl dX1_asTold_5 ?_
  obtain ⟨σ1, hq, hf⟩ := k_bvE hf
  refine k_callVv C hw (c_X5_take l G Y w ad 58 50 (LCL_58 LC) (LCL_50 LC) σ σ1 hq) (cwV 1 hts gX1_asTold_X5_take rfl rfl rfl (by decide +kernel) ⟨Nat.le_of_ble_eq_true rfl, Nat.le_of_ble_eq_true rfl⟩) (k_recv C hw (LC_58 LC) rfl) rfl hl.1 rfl (Nat.le_of_ble_eq_true rfl) dX1_asTold_8 (fun H locs hw => ?_)
  refine lv_aload_n hx hb dX1_asTold_11 rfl (lv_at hl 0 rfl) ?_
  refine lv_iconst (v := (1 : Int32)) hx hb dX1_asTold_12 (by decide) ?_
  refine k_put C hw (LC_71 LC) (ci := 1) rfl k_in1 tyX1 tyX1_ok nmX1 4 (by decide) lk1_36 rfl ⟨rfl, rfl⟩ rfl dX1_asTold_13 (fun σ2 eq H locs hw => ?_)
  have hf := k_nmE eq hf
  refine lv_aload_n hx hb dX1_asTold_16 rfl (lv_at hl 0 rfl) ?_
  refine lv_iconst (v := (0 : Int32)) hx hb dX1_asTold_17 (by decide) ?_
  refine k_put C hw (LC_71 LC) (ci := 1) rfl k_in1 tyX1 tyX1_ok nmX1 5 (by decide) lk1_40 rfl ⟨rfl, rfl⟩ rfl dX1_asTold_18 (fun σ3 eq H locs hw => ?_)
  have hf := k_nmE eq hf
  refine lv_aload_n hx hb dX1_asTold_21 rfl (lv_at hl 0 rfl) ?_
  refine lv_iconst (v := (0 : Int32)) hx hb dX1_asTold_22 (by decide) ?_
  refine k_put C hw (LC_71 LC) (ci := 1) rfl k_in1 tyX1 tyX1_ok nmX1 6 (by decide) lk1_43 rfl ⟨rfl, rfl⟩ rfl dX1_asTold_23 (fun σ4 eq H locs hw => ?_)
  have hf := k_nmE eq hf
  refine lv_aload_n hx hb dX1_asTold_26 rfl (lv_at hl 0 rfl) ?_
  refine lv_iconst (v := (0 : Int32)) hx hb dX1_asTold_27 (by decide) ?_
  refine k_put C hw (LC_71 LC) (ci := 1) rfl k_in1 tyX1 tyX1_ok nmX1 7 (by decide) lk1_46 rfl ⟨rfl, rfl⟩ rfl dX1_asTold_28 (fun σ5 eq H locs hw => ?_)
  have hf := k_nmE eq hf
  refine lv_aload_n hx hb dX1_asTold_31 rfl (lv_at hl 0 rfl) ?_
  refine lv_iconst (v := (-1 : Int32)) hx hb dX1_asTold_32 (by decide) ?_
  refine k_put C hw (LC_71 LC) (ci := 1) rfl k_in1 tyX1 tyX1_ok nmX1 8 (by decide) lk1_49 rfl ⟨rfl, rfl⟩ rfl dX1_asTold_33 (fun σ6 eq H locs hw => ?_)
  have hf := k_nmE eq hf
  exact k_vret C hw hf dX1_asTold_36
def f_X1_asItGoes   (σ : MSt) : Option MSt :=
  k_bv (f_X1_asTold σ) fun σ1 =>
  k_nm (mI σ1 71 4 (0 : Int32)) fun σ2 =>
  some σ2
def rmX1_asItGoes : Room := { frames := 2, cells := 0, slots := 0, locals := 42 }
set_option maxHeartbeats 4000000 in
set_option maxRecDepth 100000 in
theorem c_X1_asItGoes (l : Launch) (G : va_G) (Y : CY) (w : MSt → va_W) (ad : Nat → Nat)  (LC : LayC ad w Y)  (σ : MSt) (σ' : MSt) (hf : f_X1_asItGoes σ = some σ') : k_Mv l yX1_asItGoes wsX1_asItGoes rmX1_asItGoes G Y w [.ref (ad 71)] σ σ' := by
  refine k_ofv (own := RX1) (cc := cX1_asItGoes) (maxL := 1) none (by decide) rfl rfl (Nat.le_of_ble_eq_true rfl) ?_
  intro p e s m below meth c A C ls hl hw
  have hx := C.1
  have hb := C.2.1
  have hown := C.2.2.2.2.1
  have hts := C.2.2.2.2.2.1
  have hks := C.2.2.2.2.2.2.1
  have hl : lv_has ls 1 [(0, .ref (ad 71))] := hl
  unfold f_X1_asItGoes at hf
  refine lv_aload_n hx hb dX1_asItGoes_0 rfl (lv_at hl 0 rfl) ?_
  obtain ⟨σ1, hq, hf⟩ := k_bvE hf
  refine k_callVv C hw (c_X1_asTold l G Y w ad LC σ σ1 hq) (cwV 0 hts gX1_asItGoes_X1_asTold rfl rfl rfl (by decide +kernel) ⟨Nat.le_of_ble_eq_true rfl, Nat.le_of_ble_eq_true rfl⟩) (k_recv C hw (LC_71 LC) rfl) rfl hl.1 rfl (Nat.le_of_ble_eq_true rfl) dX1_asItGoes_1 (fun H locs hw => ?_)
  refine lv_aload_n hx hb dX1_asItGoes_4 rfl (lv_at hl 0 rfl) ?_
  refine lv_iconst (v := (0 : Int32)) hx hb dX1_asItGoes_5 (by decide) ?_
  refine k_put C hw (LC_71 LC) (ci := 1) rfl k_in1 tyX1 tyX1_ok nmX1 4 (by decide) lk1_36 rfl ⟨rfl, rfl⟩ rfl dX1_asItGoes_6 (fun σ2 eq H locs hw => ?_)
  have hf := k_nmE eq hf
  exact k_vret C hw hf dX1_asItGoes_9
def f_X1_byChance  (p1 : Int64) (σ : MSt) : Option MSt :=
  k_bv (f_X1_asTold σ) fun σ1 =>
  k_nm (mI σ1 71 5 (1 : Int32)) fun σ2 =>
  k_nm (mJ σ2 58 8 p1) fun σ3 =>
  some σ3
def rmX1_byChance : Room := { frames := 2, cells := 0, slots := 0, locals := 42 }
set_option maxHeartbeats 4000000 in
set_option maxRecDepth 100000 in
theorem c_X1_byChance (l : Launch) (G : va_G) (Y : CY) (w : MSt → va_W) (ad : Nat → Nat)  (LC : LayC ad w Y) (p1 : Int64) (σ : MSt) (σ' : MSt) (hf : f_X1_byChance p1 σ = some σ') : k_Mv l yX1_byChance wsX1_byChance rmX1_byChance G Y w [.ref (ad 71), .long p1] σ σ' := by
  refine k_ofv (own := RX1) (cc := cX1_byChance) (maxL := 3) none (by decide) rfl rfl (Nat.le_of_ble_eq_true rfl) ?_
  intro p e s m below meth c A C ls hl hw
  have hx := C.1
  have hb := C.2.1
  have hown := C.2.2.2.2.1
  have hts := C.2.2.2.2.2.1
  have hks := C.2.2.2.2.2.2.1
  have hl : lv_has ls 3 [(0, .ref (ad 71)), (1, .long p1)] := hl
  unfold f_X1_byChance at hf
  refine lv_aload_n hx hb dX1_byChance_0 rfl (lv_at hl 0 rfl) ?_
  obtain ⟨σ1, hq, hf⟩ := k_bvE hf
  refine k_callVv C hw (c_X1_asTold l G Y w ad LC σ σ1 hq) (cwV 0 hts gX1_byChance_X1_asTold rfl rfl rfl (by decide +kernel) ⟨Nat.le_of_ble_eq_true rfl, Nat.le_of_ble_eq_true rfl⟩) (k_recv C hw (LC_71 LC) rfl) rfl hl.1 rfl (Nat.le_of_ble_eq_true rfl) dX1_byChance_1 (fun H locs hw => ?_)
  refine lv_aload_n hx hb dX1_byChance_4 rfl (lv_at hl 0 rfl) ?_
  refine lv_iconst (v := (1 : Int32)) hx hb dX1_byChance_5 (by decide) ?_
  refine k_put C hw (LC_71 LC) (ci := 1) rfl k_in1 tyX1 tyX1_ok nmX1 5 (by decide) lk1_40 rfl ⟨rfl, rfl⟩ rfl dX1_byChance_6 (fun σ2 eq H locs hw => ?_)
  have hf := k_nmE eq hf
  refine lv_aload_n hx hb dX1_byChance_9 rfl (lv_at hl 0 rfl) ?_
  refine k_get C hw (LC_71 LC) (ci := 1) rfl k_in1 2 (by decide) lk1_12 (v := .ref (ad 58)) rfl dX1_byChance_10 ?_
  refine lv_lload_n hx hb dX1_byChance_13 rfl (lv_at hl 1 rfl) ?_
  refine k_putJN C hw (LC_58 LC) (ci := 5) rfl k_in5 tyX5 tyX5_ok nmX5 8 (by decide) ln1_56 rfl ⟨rfl, rfl⟩ rfl dX1_byChance_14 (fun σ3 eq H locs hw => ?_)
  have hf := k_nmE eq hf
  exact k_vret C hw hf dX1_byChance_17
def f_X1_otherwise_b69   (σ : MSt) : Option MSt :=
  some σ
def f_X1_otherwise_b66  (y1 : Int32) (σ : MSt) : Option MSt :=
  k_ck (k_bo y1) <|
  k_nm (mI σ 58 7 y1) fun σ1 =>
  f_X1_otherwise_b69 σ1
def f_X1_otherwise_b52  (x1 : Int32) (σ : MSt) : Option MSt :=
  if x1 = (4 : Int32) then
  (f_X1_otherwise_b66 (1 : Int32) σ)
  else
  (f_X1_otherwise_b66 (0 : Int32) σ)
def f_X1_otherwise_b39  (x1 : Int32) (y1 : Int32) (σ : MSt) : Option MSt :=
  k_ck (k_bo y1) <|
  k_nm (mI σ 71 7 y1) fun σ1 =>
  if x1 = (4 : Int32) then
  (f_X1_otherwise_b52 x1 σ1)
  else
  (if x1 = (5 : Int32) then
  (f_X1_otherwise_b52 x1 σ1)
  else
  (f_X1_otherwise_b69 σ1))
def f_X1_otherwise_b25  (x1 : Int32) (y1 : Int32) (σ : MSt) : Option MSt :=
  k_nm (mI σ 71 8 y1) fun σ1 =>
  if x1 = (3 : Int32) then
  (f_X1_otherwise_b39 x1 (1 : Int32) σ1)
  else
  (f_X1_otherwise_b39 x1 (0 : Int32) σ1)
def f_X1_otherwise_b11  (x1 : Int32) (x2 : Int32) (y1 : Int32) (σ : MSt) : Option MSt :=
  k_ck (k_bo y1) <|
  k_nm (mI σ 71 6 y1) fun σ1 =>
  if x1 = (2 : Int32) then
  (f_X1_otherwise_b25 x1 x2 σ1)
  else
  (f_X1_otherwise_b25 x1 (-1 : Int32) σ1)
def f_X1_otherwise  (p1 : Int32) (p2 : Int32) (σ : MSt) : Option MSt :=
  if p1 = (1 : Int32) then
  (f_X1_otherwise_b11 p1 p2 (1 : Int32) σ)
  else
  (f_X1_otherwise_b11 p1 p2 (0 : Int32) σ)
def rmX1_otherwise : Room := { frames := 0, cells := 0, slots := 0, locals := 0 }
set_option maxHeartbeats 4000000 in
set_option maxRecDepth 100000 in
theorem c_X1_otherwise (l : Launch) (G : va_G) (Y : CY) (w : MSt → va_W) (ad : Nat → Nat)  (LC : LayC ad w Y) (p1 : Int32) (p2 : Int32) (σ : MSt) (σ' : MSt) (hf : f_X1_otherwise p1 p2 σ = some σ') : k_Mv l yX1_otherwise wsX1_otherwise rmX1_otherwise G Y w [.ref (ad 71), .int p1, .int p2] σ σ' := by
  refine k_ofv (own := RX1) (cc := cX1_otherwise) (maxL := 3) none (by decide) rfl rfl (Nat.le_of_ble_eq_true rfl) ?_
  intro p e s m below meth c A C ls hl hw
  have hx := C.1
  have hb := C.2.1
  have hown := C.2.2.2.2.1
  have hts := C.2.2.2.2.2.1
  have hks := C.2.2.2.2.2.2.1
  have hl : lv_has ls 3 [(0, .ref (ad 71)), (1, .int p1), (2, .int p2)] := hl
  have b69 : ∀ (σ : MSt) (H : Heap) (locs : List Loc) (ls : Array Slot), lv_has ls 3 [] → k_W G w A s.heap σ H locs → f_X1_otherwise_b69 σ = some σ' → W p l e rmX1_otherwise s m [.ref (ad 71), .int p1, .int p2].toArray below meth c H locs 0 0 (MQ below (k_Qv G w A σ') [.ref (ad 71), .int p1, .int p2].toArray s 0 0 A) (F0 m 69 ls []) := by
    intro σ H locs ls hl hw hf
    unfold f_X1_otherwise_b69 at hf
    exact k_vret C hw hf dX1_otherwise_69
  have b66 : ∀ (y1 : Int32) (σ : MSt) (H : Heap) (locs : List Loc) (ls : Array Slot), lv_has ls 3 [] → k_W G w A s.heap σ H locs → f_X1_otherwise_b66 y1 σ = some σ' → W p l e rmX1_otherwise s m [.ref (ad 71), .int p1, .int p2].toArray below meth c H locs 0 0 (MQ below (k_Qv G w A σ') [.ref (ad 71), .int p1, .int p2].toArray s 0 0 A) (F0 m 66 ls [.int y1, .ref (ad 58)]) := by
    intro y1 σ H locs ls hl hw hf
    unfold f_X1_otherwise_b66 at hf
    obtain ⟨hz, hf⟩ := k_ckE hf
    refine k_putN C hw (LC_58 LC) (ci := 5) rfl k_in5 tyX5 tyX5_ok nmX5 7 (by decide) ln1_60 rfl (k_boE hz) rfl dX1_otherwise_66 (fun σ1 eq H locs hw => ?_)
    have hf := k_nmE eq hf
    exact b69 σ1 _ _ _ (lv_sub hl [] rfl) hw hf
  have b52 : ∀ (x1 : Int32) (σ : MSt) (H : Heap) (locs : List Loc) (ls : Array Slot), lv_has ls 3 [(0, .ref (ad 71)), (1, .int x1)] → k_W G w A s.heap σ H locs → f_X1_otherwise_b52 x1 σ = some σ' → W p l e rmX1_otherwise s m [.ref (ad 71), .int p1, .int p2].toArray below meth c H locs 0 0 (MQ below (k_Qv G w A σ') [.ref (ad 71), .int p1, .int p2].toArray s 0 0 A) (F0 m 52 ls []) := by
    intro x1 σ H locs ls hl hw hf
    unfold f_X1_otherwise_b52 at hf
    refine lv_aload_n hx hb dX1_otherwise_52 rfl (lv_at hl 0 rfl) ?_
    refine k_get C hw (LC_71 LC) (ci := 1) rfl k_in1 2 (by decide) lk1_12 (v := .ref (ad 58)) rfl dX1_otherwise_53 ?_
    refine lv_iload_n hx hb dX1_otherwise_56 rfl (lv_at hl 1 rfl) ?_
    refine lv_iconst (v := (4 : Int32)) hx hb dX1_otherwise_57 (by decide) ?_
    refine lv_icmp_ne (tgt := 65) hx hb dX1_otherwise_58 (by decide) (fun h => ?_) (fun h => ?_)
    · have hf := k_ifF h hf
      refine lv_iconst (v := (0 : Int32)) hx hb dX1_otherwise_65 (by decide) ?_
      exact b66 (0 : Int32) σ _ _ _ (lv_sub hl [] rfl) hw hf
    · have hf := k_ifT h hf
      refine lv_iconst (v := (1 : Int32)) hx hb dX1_otherwise_61 (by decide) ?_
      refine lv_goto (tgt := 66) hx hb dX1_otherwise_62 (by decide) ?_
      exact b66 (1 : Int32) σ _ _ _ (lv_sub hl [] rfl) hw hf
  have b39 : ∀ (x1 : Int32) (y1 : Int32) (σ : MSt) (H : Heap) (locs : List Loc) (ls : Array Slot), lv_has ls 3 [(0, .ref (ad 71)), (1, .int x1)] → k_W G w A s.heap σ H locs → f_X1_otherwise_b39 x1 y1 σ = some σ' → W p l e rmX1_otherwise s m [.ref (ad 71), .int p1, .int p2].toArray below meth c H locs 0 0 (MQ below (k_Qv G w A σ') [.ref (ad 71), .int p1, .int p2].toArray s 0 0 A) (F0 m 39 ls [.int y1, .ref (ad 71)]) := by
    intro x1 y1 σ H locs ls hl hw hf
    unfold f_X1_otherwise_b39 at hf
    obtain ⟨hz, hf⟩ := k_ckE hf
    refine k_put C hw (LC_71 LC) (ci := 1) rfl k_in1 tyX1 tyX1_ok nmX1 7 (by decide) lk1_46 rfl (k_boE hz) rfl dX1_otherwise_39 (fun σ1 eq H locs hw => ?_)
    have hf := k_nmE eq hf
    refine lv_iload_n hx hb dX1_otherwise_42 rfl (lv_at hl 1 rfl) ?_
    refine lv_iconst (v := (4 : Int32)) hx hb dX1_otherwise_43 (by decide) ?_
    refine lv_icmp_eq (tgt := 52) hx hb dX1_otherwise_44 (by decide) (fun h => ?_) (fun h => ?_)
    · have hf := k_ifT h hf
      exact b52 x1 σ1 _ _ _ (lv_sub hl [0, 1] rfl) hw hf
    · have hf := k_ifF h hf
      refine lv_iload_n hx hb dX1_otherwise_47 rfl (lv_at hl 1 rfl) ?_
      refine lv_iconst (v := (5 : Int32)) hx hb dX1_otherwise_48 (by decide) ?_
      refine lv_icmp_ne (tgt := 69) hx hb dX1_otherwise_49 (by decide) (fun h => ?_) (fun h => ?_)
      · have hf := k_ifF h hf
        exact b69 σ1 _ _ _ (lv_sub hl [] rfl) hw hf
      · have hf := k_ifT h hf
        exact b52 x1 σ1 _ _ _ (lv_sub hl [0, 1] rfl) hw hf
  have b25 : ∀ (x1 : Int32) (y1 : Int32) (σ : MSt) (H : Heap) (locs : List Loc) (ls : Array Slot), lv_has ls 3 [(0, .ref (ad 71)), (1, .int x1)] → k_W G w A s.heap σ H locs → f_X1_otherwise_b25 x1 y1 σ = some σ' → W p l e rmX1_otherwise s m [.ref (ad 71), .int p1, .int p2].toArray below meth c H locs 0 0 (MQ below (k_Qv G w A σ') [.ref (ad 71), .int p1, .int p2].toArray s 0 0 A) (F0 m 25 ls [.int y1, .ref (ad 71)]) := by
    intro x1 y1 σ H locs ls hl hw hf
    unfold f_X1_otherwise_b25 at hf
    refine k_put C hw (LC_71 LC) (ci := 1) rfl k_in1 tyX1 tyX1_ok nmX1 8 (by decide) lk1_49 rfl ⟨rfl, rfl⟩ rfl dX1_otherwise_25 (fun σ1 eq H locs hw => ?_)
    have hf := k_nmE eq hf
    refine lv_aload_n hx hb dX1_otherwise_28 rfl (lv_at hl 0 rfl) ?_
    refine lv_iload_n hx hb dX1_otherwise_29 rfl (lv_at hl 1 rfl) ?_
    refine lv_iconst (v := (3 : Int32)) hx hb dX1_otherwise_30 (by decide) ?_
    refine lv_icmp_ne (tgt := 38) hx hb dX1_otherwise_31 (by decide) (fun h => ?_) (fun h => ?_)
    · have hf := k_ifF h hf
      refine lv_iconst (v := (0 : Int32)) hx hb dX1_otherwise_38 (by decide) ?_
      exact b39 x1 (0 : Int32) σ1 _ _ _ (lv_sub hl [0, 1] rfl) hw hf
    · have hf := k_ifT h hf
      refine lv_iconst (v := (1 : Int32)) hx hb dX1_otherwise_34 (by decide) ?_
      refine lv_goto (tgt := 39) hx hb dX1_otherwise_35 (by decide) ?_
      exact b39 x1 (1 : Int32) σ1 _ _ _ (lv_sub hl [0, 1] rfl) hw hf
  have b11 : ∀ (x1 : Int32) (x2 : Int32) (y1 : Int32) (σ : MSt) (H : Heap) (locs : List Loc) (ls : Array Slot), lv_has ls 3 [(0, .ref (ad 71)), (1, .int x1), (2, .int x2)] → k_W G w A s.heap σ H locs → f_X1_otherwise_b11 x1 x2 y1 σ = some σ' → W p l e rmX1_otherwise s m [.ref (ad 71), .int p1, .int p2].toArray below meth c H locs 0 0 (MQ below (k_Qv G w A σ') [.ref (ad 71), .int p1, .int p2].toArray s 0 0 A) (F0 m 11 ls [.int y1, .ref (ad 71)]) := by
    intro x1 x2 y1 σ H locs ls hl hw hf
    unfold f_X1_otherwise_b11 at hf
    obtain ⟨hz, hf⟩ := k_ckE hf
    refine k_put C hw (LC_71 LC) (ci := 1) rfl k_in1 tyX1 tyX1_ok nmX1 6 (by decide) lk1_43 rfl (k_boE hz) rfl dX1_otherwise_11 (fun σ1 eq H locs hw => ?_)
    have hf := k_nmE eq hf
    refine lv_aload_n hx hb dX1_otherwise_14 rfl (lv_at hl 0 rfl) ?_
    refine lv_iload_n hx hb dX1_otherwise_15 rfl (lv_at hl 1 rfl) ?_
    refine lv_iconst (v := (2 : Int32)) hx hb dX1_otherwise_16 (by decide) ?_
    refine lv_icmp_ne (tgt := 24) hx hb dX1_otherwise_17 (by decide) (fun h => ?_) (fun h => ?_)
    · have hf := k_ifF h hf
      refine lv_iconst (v := (-1 : Int32)) hx hb dX1_otherwise_24 (by decide) ?_
      exact b25 x1 (-1 : Int32) σ1 _ _ _ (lv_sub hl [0, 1] rfl) hw hf
    · have hf := k_ifT h hf
      refine lv_iload_n hx hb dX1_otherwise_20 rfl (lv_at hl 2 rfl) ?_
      refine lv_goto (tgt := 25) hx hb dX1_otherwise_21 (by decide) ?_
      exact b25 x1 x2 σ1 _ _ _ (lv_sub hl [0, 1] rfl) hw hf
  unfold f_X1_otherwise at hf
  refine lv_aload_n hx hb dX1_otherwise_0 rfl (lv_at hl 0 rfl) ?_
  refine lv_iload_n hx hb dX1_otherwise_1 rfl (lv_at hl 1 rfl) ?_
  refine lv_iconst (v := (1 : Int32)) hx hb dX1_otherwise_2 (by decide) ?_
  refine lv_icmp_ne (tgt := 10) hx hb dX1_otherwise_3 (by decide) (fun h => ?_) (fun h => ?_)
  · have hf := k_ifF h hf
    refine lv_iconst (v := (0 : Int32)) hx hb dX1_otherwise_10 (by decide) ?_
    exact b11 p1 p2 (0 : Int32) σ _ _ _ (lv_sub hl [0, 1, 2] rfl) hw hf
  · have hf := k_ifT h hf
    refine lv_iconst (v := (1 : Int32)) hx hb dX1_otherwise_6 (by decide) ?_
    refine lv_goto (tgt := 11) hx hb dX1_otherwise_7 (by decide) ?_
    exact b11 p1 p2 (1 : Int32) σ _ _ _ (lv_sub hl [0, 1, 2] rfl) hw hf
def f_X5_remember_b50 (o : Nat)  (σ : MSt) : Option MSt :=
  some σ
def f_X5_remember (o : Nat) (p1 : Int32) (p2 : Int32) (σ : MSt) : Option MSt :=
  if p1 < 0 then
  (f_X5_remember_b50 o σ)
  else
  (if (8 : Int32) ≤ p1 then
  (f_X5_remember_b50 o σ)
  else
  (k_ck (k_inb p1 8) <|
  k_ck (k_inb p1 8) <|
  k_nm (mI σ (o + 1) (p1).toNatClampNeg (k_min (9999 : Int32) ((σ.1 (o + 1) (p1).toNatClampNeg) + p2))) fun σ1 =>
  k_ck (k_inb p1 8) <|
  k_ck (k_inb p1 8) <|
  k_nm (mI σ1 (o + 2) (p1).toNatClampNeg ((σ1.1 (o + 2) (p1).toNatClampNeg) + (1 : Int32))) fun σ2 =>
  k_ck (k_inb p1 8) <|
  k_nm (mI σ2 (o + 3) (p1).toNatClampNeg (σ2.1 o 3)) fun σ3 =>
  f_X5_remember_b50 o σ3))
def rmX5_remember : Room := { frames := 1, cells := 0, slots := 0, locals := 23 }
set_option maxHeartbeats 4000000 in
set_option maxRecDepth 100000 in
theorem c_X5_remember (l : Launch) (G : va_G) (Y : CY) (w : MSt → va_W) (ad : Nat → Nat) (o : Nat) (Lo : LayX5 ad w Y o) (p1 : Int32) (p2 : Int32) (σ : MSt) (σ' : MSt) (hf : f_X5_remember o p1 p2 σ = some σ') : k_Mv l yX5_remember wsX5_remember rmX5_remember G Y w [.ref (ad o), .int p1, .int p2] σ σ' := by
  refine k_ofv (own := RX5) (cc := cX5_remember) (maxL := 3) none (by decide) rfl rfl (Nat.le_of_ble_eq_true rfl) ?_
  intro p e s m below meth c A C ls hl hw
  have hx := C.1
  have hb := C.2.1
  have hown := C.2.2.2.2.1
  have hts := C.2.2.2.2.2.1
  have hks := C.2.2.2.2.2.2.1
  have hl : lv_has ls 3 [(0, .ref (ad o)), (1, .int p1), (2, .int p2)] := hl
  have b50 : ∀ (σ : MSt) (H : Heap) (locs : List Loc) (ls : Array Slot), lv_has ls 3 [] → k_W G w A s.heap σ H locs → f_X5_remember_b50 o σ = some σ' → W p l e rmX5_remember s m [.ref (ad o), .int p1, .int p2].toArray below meth c H locs 0 0 (MQ below (k_Qv G w A σ') [.ref (ad o), .int p1, .int p2].toArray s 0 0 A) (F0 m 50 ls []) := by
    intro σ H locs ls hl hw hf
    unfold f_X5_remember_b50 at hf
    exact k_vret C hw hf dX5_remember_50
  unfold f_X5_remember at hf
  refine lv_iload_n hx hb dX5_remember_0 rfl (lv_at hl 1 rfl) ?_
  refine lv_if_lt (tgt := 50) hx hb dX5_remember_1 (by decide) (fun h => ?_) (fun h => ?_)
  · have hf := k_ifT h hf
    exact b50 σ _ _ _ (lv_sub hl [] rfl) hw hf
  · have hf := k_ifF h hf
    refine lv_iload_n hx hb dX5_remember_4 rfl (lv_at hl 1 rfl) ?_
    refine lv_bipush (v := (8 : Int32)) hx hb dX5_remember_5 (by decide) ?_
    refine lv_icmp_ge (tgt := 50) hx hb dX5_remember_7 (by decide) (fun h => ?_) (fun h => ?_)
    · have hf := k_ifT h hf
      exact b50 σ _ _ _ (lv_sub hl [] rfl) hw hf
    · have hf := k_ifF h hf
      refine lv_aload_n hx hb dX5_remember_10 rfl (lv_at hl 0 rfl) ?_
      refine k_get C hw (LX5_o Lo) (ci := 5) rfl k_in5 0 (by decide) lk5_9 (v := .ref (ad (o + 1))) rfl dX5_remember_11 ?_
      refine lv_iload_n hx hb dX5_remember_14 rfl (lv_at hl 1 rfl) ?_
      refine lv_sipush (v := (9999 : Int32)) hx hb dX5_remember_15 (by decide) ?_
      refine lv_aload_n hx hb dX5_remember_18 rfl (lv_at hl 0 rfl) ?_
      refine k_get C hw (LX5_o Lo) (ci := 5) rfl k_in5 0 (by decide) lk5_9 (v := .ref (ad (o + 1))) rfl dX5_remember_19 ?_
      refine lv_iload_n hx hb dX5_remember_22 rfl (lv_at hl 1 rfl) ?_
      obtain ⟨hi, hf⟩ := k_ckE hf
      refine k_iald C hw (LX5_1 Lo) hi dX5_remember_23 ?_
      refine lv_iload_n hx hb dX5_remember_24 rfl (lv_at hl 2 rfl) ?_
      refine lv_iadd hx hb dX5_remember_25 ?_
      refine k_mmin C hl.1 ml5_60 ms_Lib_Math_min_name mi_Math mc_Lib_Math_min_name (Nat.le_of_ble_eq_true rfl) (Nat.le_of_ble_eq_true rfl) dX5_remember_26 ?_
      obtain ⟨hi, hf⟩ := k_ckE hf
      refine k_iast C hw (LX5_1 Lo) hi dX5_remember_29 (fun σ1 eq H locs hw => ?_)
      have hf := k_nmE eq hf
      refine lv_aload_n hx hb dX5_remember_30 rfl (lv_at hl 0 rfl) ?_
      refine k_get C hw (LX5_o Lo) (ci := 5) rfl k_in5 1 (by decide) lk5_15 (v := .ref (ad (o + 2))) rfl dX5_remember_31 ?_
      refine lv_iload_n hx hb dX5_remember_34 rfl (lv_at hl 1 rfl) ?_
      refine lv_dup2_11 hx hb dX5_remember_35 rfl rfl ?_
      obtain ⟨hi, hf⟩ := k_ckE hf
      refine k_iald C hw (LX5_2 Lo) hi dX5_remember_36 ?_
      refine lv_iconst (v := (1 : Int32)) hx hb dX5_remember_37 (by decide) ?_
      refine lv_iadd hx hb dX5_remember_38 ?_
      obtain ⟨hi, hf⟩ := k_ckE hf
      refine k_iast C hw (LX5_2 Lo) hi dX5_remember_39 (fun σ2 eq H locs hw => ?_)
      have hf := k_nmE eq hf
      refine lv_aload_n hx hb dX5_remember_40 rfl (lv_at hl 0 rfl) ?_
      refine k_get C hw (LX5_o Lo) (ci := 5) rfl k_in5 2 (by decide) lk5_18 (v := .ref (ad (o + 3))) rfl dX5_remember_41 ?_
      refine lv_iload_n hx hb dX5_remember_44 rfl (lv_at hl 1 rfl) ?_
      refine lv_aload_n hx hb dX5_remember_45 rfl (lv_at hl 0 rfl) ?_
      refine k_get C hw (LX5_o Lo) (ci := 5) rfl k_in5 3 (by decide) lk5_31 (v := .int (σ2.1 o 3)) rfl dX5_remember_46 ?_
      obtain ⟨hi, hf⟩ := k_ckE hf
      refine k_iast C hw (LX5_3 Lo) hi dX5_remember_49 (fun σ3 eq H locs hw => ?_)
      have hf := k_nmE eq hf
      exact b50 σ3 _ _ _ (lv_sub hl [] rfl) hw hf
def f_X5_lieIn (o : Nat) (p1 : Int32) (σ : MSt) : Option MSt :=
  k_nm (mI σ o 4 p1) fun σ1 =>
  k_nm (mI σ1 o 5 (-1 : Int32)) fun σ2 =>
  k_nm (mI σ2 o 6 (-1 : Int32)) fun σ3 =>
  some σ3
def rmX5_lieIn : Room := { frames := 0, cells := 0, slots := 0, locals := 0 }
set_option maxHeartbeats 4000000 in
set_option maxRecDepth 100000 in
theorem c_X5_lieIn (l : Launch) (G : va_G) (Y : CY) (w : MSt → va_W) (ad : Nat → Nat) (o : Nat) (Lo : LayX5 ad w Y o) (p1 : Int32) (σ : MSt) (σ' : MSt) (hf : f_X5_lieIn o p1 σ = some σ') : k_Mv l yX5_lieIn wsX5_lieIn rmX5_lieIn G Y w [.ref (ad o), .int p1] σ σ' := by
  refine k_ofv (own := RX5) (cc := cX5_lieIn) (maxL := 2) none (by decide) rfl rfl (Nat.le_of_ble_eq_true rfl) ?_
  intro p e s m below meth c A C ls hl hw
  have hx := C.1
  have hb := C.2.1
  have hown := C.2.2.2.2.1
  have hts := C.2.2.2.2.2.1
  have hks := C.2.2.2.2.2.2.1
  have hl : lv_has ls 2 [(0, .ref (ad o)), (1, .int p1)] := hl
  unfold f_X5_lieIn at hf
  refine lv_aload_n hx hb dX5_lieIn_0 rfl (lv_at hl 0 rfl) ?_
  refine lv_iload_n hx hb dX5_lieIn_1 rfl (lv_at hl 1 rfl) ?_
  refine k_put C hw (LX5_o Lo) (ci := 5) rfl k_in5 tyX5 tyX5_ok nmX5 4 (by decide) lk5_21 rfl ⟨rfl, rfl⟩ rfl dX5_lieIn_2 (fun σ1 eq H locs hw => ?_)
  have hf := k_nmE eq hf
  refine lv_aload_n hx hb dX5_lieIn_5 rfl (lv_at hl 0 rfl) ?_
  refine lv_iconst (v := (-1 : Int32)) hx hb dX5_lieIn_6 (by decide) ?_
  refine k_put C hw (LX5_o Lo) (ci := 5) rfl k_in5 tyX5 tyX5_ok nmX5 5 (by decide) lk5_25 rfl ⟨rfl, rfl⟩ rfl dX5_lieIn_7 (fun σ2 eq H locs hw => ?_)
  have hf := k_nmE eq hf
  refine lv_aload_n hx hb dX5_lieIn_10 rfl (lv_at hl 0 rfl) ?_
  refine lv_iconst (v := (-1 : Int32)) hx hb dX5_lieIn_11 (by decide) ?_
  refine k_put C hw (LX5_o Lo) (ci := 5) rfl k_in5 tyX5 tyX5_ok nmX5 6 (by decide) lk5_28 rfl ⟨rfl, rfl⟩ rfl dX5_lieIn_12 (fun σ3 eq H locs hw => ?_)
  have hf := k_nmE eq hf
  exact k_vret C hw hf dX5_lieIn_15
def f_X5_draw (o : Nat)  (σ : MSt) : Option (Int32 × MSt) :=
  k_nm (mJ σ o 8 ((((σ.2 o 8) * (1103515245 : Int64)) + (12345 : Int64)) &&& (2147483647 : Int64))) fun σ1 =>
  some (((((σ1.2 o 8) / (65536 : Int64))).toInt32), σ1)
def rmX5_draw : Room := { frames := 0, cells := 0, slots := 0, locals := 0 }
set_option maxHeartbeats 4000000 in
set_option maxRecDepth 100000 in
theorem c_X5_draw (l : Launch) (G : va_G) (Y : CY) (w : MSt → va_W) (ad : Nat → Nat) (o : Nat) (Lo : LayX5 ad w Y o)  (σ : MSt) (r : Int32) (σ' : MSt) (hf : f_X5_draw o σ = some (r, σ')) : k_Mi l yX5_draw wsX5_draw rmX5_draw G Y w [.ref (ad o)] σ r σ' := by
  refine k_ofi (own := RX5) (cc := cX5_draw) (maxL := 1) (some .int) (by decide) rfl rfl (Nat.le_of_ble_eq_true rfl) ?_
  intro p e s m below meth c A C ls hl hw
  have hx := C.1
  have hb := C.2.1
  have hown := C.2.2.2.2.1
  have hts := C.2.2.2.2.2.1
  have hks := C.2.2.2.2.2.2.1
  have hl : lv_has ls 1 [(0, .ref (ad o))] := hl
  unfold f_X5_draw at hf
  refine lv_aload_n hx hb dX5_draw_0 rfl (lv_at hl 0 rfl) ?_
  refine lv_aload_n hx hb dX5_draw_1 rfl (lv_at hl 0 rfl) ?_
  refine k_get C hw (LX5_o Lo) (ci := 5) rfl k_in5 8 (by decide) lk5_47 (v := .long (σ.2 o 8)) rfl dX5_draw_2 ?_
  refine lv_ldc2 (v := (1103515245 : Int64)) hx hb hown (hks.ts _ ck5_69) dX5_draw_5 ?_
  refine lv_lmul hx hb dX5_draw_8 ?_
  refine lv_ldc2 (v := (12345 : Int64)) hx hb hown (hks.ts _ ck5_71) dX5_draw_9 ?_
  refine lv_ladd hx hb dX5_draw_12 ?_
  refine lv_ldc2 (v := (2147483647 : Int64)) hx hb hown (hks.ts _ ck5_73) dX5_draw_13 ?_
  refine lv_land hx hb dX5_draw_16 ?_
  refine k_putJ C hw (LX5_o Lo) (ci := 5) rfl k_in5 tyX5 tyX5_ok nmX5 8 (by decide) lk5_47 rfl ⟨rfl, rfl⟩ rfl dX5_draw_17 (fun σ1 eq H locs hw => ?_)
  have hf := k_nmE eq hf
  refine lv_aload_n hx hb dX5_draw_20 rfl (lv_at hl 0 rfl) ?_
  refine k_get C hw (LX5_o Lo) (ci := 5) rfl k_in5 8 (by decide) lk5_47 (v := .long (σ1.2 o 8)) rfl dX5_draw_21 ?_
  refine lv_ldc2 (v := (65536 : Int64)) hx hb hown (hks.ts _ ck5_75) dX5_draw_24 ?_
  refine lv_ldiv hx hb dX5_draw_27 (by decide) ?_
  refine lv_l2i (v := ((((σ1.2 o 8) / (65536 : Int64))).toInt32)) hx hb dX5_draw_28 rfl ?_
  exact k_iret C hw hf dX5_draw_29
def f_X1_lieByCopy_b77 (o1 : Nat)  (σ : MSt) : Option MSt :=
  some σ
def f_X1_lieByCopy_b49 (o1 : Nat) (y0 : Int32) (σ : MSt) : Option MSt :=
  if y0 = 0 then
  (k_nm (mI σ o1 10 ((σ.1 o1 10) + (1 : Int32))) fun σ1 =>
  f_X1_lieByCopy_b77 o1 σ1)
  else
  (k_nm (mI σ o1 9 ((σ.1 o1 9) + (1 : Int32))) fun σ2 =>
  f_X1_lieByCopy_b77 o1 σ2)
def f_X1_lieByCopy (o1 : Nat)  (σ : MSt) : Option MSt :=
  if (σ.1 71 4) = 0 then
  (if (σ.1 10 13) < (50 : Int32) then
  (f_X1_lieByCopy_b49 o1 (0 : Int32) σ)
  else
  (f_X1_lieByCopy_b49 o1 (1 : Int32) σ))
  else
  (k_bd (f_X5_draw o1 σ) fun q4 σ3 =>
  if (σ3.1 10 13) ≤ (k_rem q4 (100 : Int32)) then
  (f_X1_lieByCopy_b49 o1 (0 : Int32) σ3)
  else
  (f_X1_lieByCopy_b49 o1 (1 : Int32) σ3))
def rmX1_lieByCopy : Room := { frames := 1, cells := 0, slots := 0, locals := 20 }
set_option maxHeartbeats 4000000 in
set_option maxRecDepth 100000 in
theorem c_X1_lieByCopy (l : Launch) (G : va_G) (Y : CY) (w : MSt → va_W) (ad : Nat → Nat) (o1 : Nat) (LC : LayC ad w Y) (L1 : LayX5 ad w Y o1)  (σ : MSt) (σ' : MSt) (hf : f_X1_lieByCopy o1 σ = some σ') : k_Mv l yX1_lieByCopy wsX1_lieByCopy rmX1_lieByCopy G Y w [.ref (ad 71), .ref (ad o1)] σ σ' := by
  refine k_ofv (own := RX1) (cc := cX1_lieByCopy) (maxL := 3) none (by decide) rfl rfl (Nat.le_of_ble_eq_true rfl) ?_
  intro p e s m below meth c A C ls hl hw
  have hx := C.1
  have hb := C.2.1
  have hown := C.2.2.2.2.1
  have hts := C.2.2.2.2.2.1
  have hks := C.2.2.2.2.2.2.1
  have hl : lv_has ls 3 [(0, .ref (ad 71)), (1, .ref (ad o1))] := hl
  have b77 : ∀ (σ : MSt) (H : Heap) (locs : List Loc) (ls : Array Slot), lv_has ls 3 [] → k_W G w A s.heap σ H locs → f_X1_lieByCopy_b77 o1 σ = some σ' → W p l e rmX1_lieByCopy s m [.ref (ad 71), .ref (ad o1)].toArray below meth c H locs 0 0 (MQ below (k_Qv G w A σ') [.ref (ad 71), .ref (ad o1)].toArray s 0 0 A) (F0 m 77 ls []) := by
    intro σ H locs ls hl hw hf
    unfold f_X1_lieByCopy_b77 at hf
    exact k_vret C hw hf dX1_lieByCopy_77
  have b49 : ∀ (y0 : Int32) (σ : MSt) (H : Heap) (locs : List Loc) (ls : Array Slot), lv_has ls 3 [(1, .ref (ad o1))] → k_W G w A s.heap σ H locs → f_X1_lieByCopy_b49 o1 y0 σ = some σ' → W p l e rmX1_lieByCopy s m [.ref (ad 71), .ref (ad o1)].toArray below meth c H locs 0 0 (MQ below (k_Qv G w A σ') [.ref (ad 71), .ref (ad o1)].toArray s 0 0 A) (F0 m 49 ls [.int y0]) := by
    intro y0 σ H locs ls hl hw hf
    unfold f_X1_lieByCopy_b49 at hf
    refine lv_istore_n (lv' := [(2, .int y0), (1, .ref (ad o1))]) hx hb dX1_lieByCopy_49 rfl hl (by decide) rfl (fun ls hl => ?_)
    refine lv_iload_n hx hb dX1_lieByCopy_50 rfl (lv_at hl 0 rfl) ?_
    refine lv_if_eq (tgt := 67) hx hb dX1_lieByCopy_51 (by decide) (fun h => ?_) (fun h => ?_)
    · have hf := k_ifT h hf
      refine lv_aload_n hx hb dX1_lieByCopy_67 rfl (lv_at hl 1 rfl) ?_
      refine lv_dup hx hb dX1_lieByCopy_68 rfl ?_
      refine k_getN C hw (LX5_o L1) (ci := 5) rfl k_in5 10 (by decide) ln1_63 (v := .int (σ.1 o1 10)) rfl dX1_lieByCopy_69 ?_
      refine lv_iconst (v := (1 : Int32)) hx hb dX1_lieByCopy_72 (by decide) ?_
      refine lv_iadd hx hb dX1_lieByCopy_73 ?_
      refine k_putN C hw (LX5_o L1) (ci := 5) rfl k_in5 tyX5 tyX5_ok nmX5 10 (by decide) ln1_63 rfl ⟨rfl, rfl⟩ rfl dX1_lieByCopy_74 (fun σ1 eq H locs hw => ?_)
      have hf := k_nmE eq hf
      exact b77 σ1 _ _ _ (lv_sub hl [] rfl) hw hf
    · have hf := k_ifF h hf
      refine lv_aload_n hx hb dX1_lieByCopy_54 rfl (lv_at hl 1 rfl) ?_
      refine lv_dup hx hb dX1_lieByCopy_55 rfl ?_
      refine k_getN C hw (LX5_o L1) (ci := 5) rfl k_in5 9 (by decide) ln1_125 (v := .int (σ.1 o1 9)) rfl dX1_lieByCopy_56 ?_
      refine lv_iconst (v := (1 : Int32)) hx hb dX1_lieByCopy_59 (by decide) ?_
      refine lv_iadd hx hb dX1_lieByCopy_60 ?_
      refine k_putN C hw (LX5_o L1) (ci := 5) rfl k_in5 tyX5 tyX5_ok nmX5 9 (by decide) ln1_125 rfl ⟨rfl, rfl⟩ rfl dX1_lieByCopy_61 (fun σ2 eq H locs hw => ?_)
      have hf := k_nmE eq hf
      refine lv_goto (tgt := 77) hx hb dX1_lieByCopy_64 (by decide) ?_
      exact b77 σ2 _ _ _ (lv_sub hl [] rfl) hw hf
  unfold f_X1_lieByCopy at hf
  refine lv_aload_n hx hb dX1_lieByCopy_0 rfl (lv_at hl 0 rfl) ?_
  refine k_get C hw (LC_71 LC) (ci := 1) rfl k_in1 4 (by decide) lk1_36 (v := .int (σ.1 71 4)) rfl dX1_lieByCopy_1 ?_
  refine lv_if_eq (tgt := 32) hx hb dX1_lieByCopy_4 (by decide) (fun h => ?_) (fun h => ?_)
  · have hf := k_ifT h hf
    refine lv_aload_n hx hb dX1_lieByCopy_32 rfl (lv_at hl 0 rfl) ?_
    refine k_get C hw (LC_71 LC) (ci := 1) rfl k_in1 0 (by decide) lk1_25 (v := .ref (ad 10)) rfl dX1_lieByCopy_33 ?_
    refine k_getN C hw (LC_10 LC) (ci := 0) rfl k_in0 13 (by decide) ln1_122 (v := .int (σ.1 10 13)) rfl dX1_lieByCopy_36 ?_
    refine lv_bipush (v := (50 : Int32)) hx hb dX1_lieByCopy_39 (by decide) ?_
    refine lv_icmp_lt (tgt := 48) hx hb dX1_lieByCopy_41 (by decide) (fun h => ?_) (fun h => ?_)
    · have hf := k_ifT h hf
      refine lv_iconst (v := (0 : Int32)) hx hb dX1_lieByCopy_48 (by decide) ?_
      exact b49 (0 : Int32) σ _ _ _ (lv_sub hl [1] rfl) hw hf
    · have hf := k_ifF h hf
      refine lv_iconst (v := (1 : Int32)) hx hb dX1_lieByCopy_44 (by decide) ?_
      refine lv_goto (tgt := 49) hx hb dX1_lieByCopy_45 (by decide) ?_
      exact b49 (1 : Int32) σ _ _ _ (lv_sub hl [1] rfl) hw hf
  · have hf := k_ifF h hf
    refine lv_aload_n hx hb dX1_lieByCopy_7 rfl (lv_at hl 1 rfl) ?_
    obtain ⟨q4, σ3, hq, hf⟩ := k_bdE hf
    refine k_callVi C hw (c_X5_draw l G Y w ad o1 L1 σ q4 σ3 hq) (cwV 0 hts gX1_lieByCopy_X5_draw rfl rfl rfl (by decide +kernel) ⟨Nat.le_of_ble_eq_true rfl, Nat.le_of_ble_eq_true rfl⟩) (k_recv C hw (LX5_o L1) rfl) rfl hl.1 rfl (Nat.le_of_ble_eq_true rfl) dX1_lieByCopy_8 (fun H locs hw => ?_)
    refine lv_bipush (v := (100 : Int32)) hx hb dX1_lieByCopy_11 (by decide) ?_
    refine k_irem C dX1_lieByCopy_13 (by decide) ?_
    refine lv_aload_n hx hb dX1_lieByCopy_14 rfl (lv_at hl 0 rfl) ?_
    refine k_get C hw (LC_71 LC) (ci := 1) rfl k_in1 0 (by decide) lk1_25 (v := .ref (ad 10)) rfl dX1_lieByCopy_15 ?_
    refine k_getN C hw (LC_10 LC) (ci := 0) rfl k_in0 13 (by decide) ln1_122 (v := .int (σ3.1 10 13)) rfl dX1_lieByCopy_18 ?_
    refine lv_icmp_ge (tgt := 28) hx hb dX1_lieByCopy_21 (by decide) (fun h => ?_) (fun h => ?_)
    · have hf := k_ifT h hf
      refine lv_iconst (v := (0 : Int32)) hx hb dX1_lieByCopy_28 (by decide) ?_
      refine lv_goto (tgt := 49) hx hb dX1_lieByCopy_29 (by decide) ?_
      exact b49 (0 : Int32) σ3 _ _ _ (lv_sub hl [1] rfl) hw hf
    · have hf := k_ifF h hf
      refine lv_iconst (v := (1 : Int32)) hx hb dX1_lieByCopy_24 (by decide) ?_
      refine lv_goto (tgt := 49) hx hb dX1_lieByCopy_25 (by decide) ?_
      exact b49 (1 : Int32) σ3 _ _ _ (lv_sub hl [1] rfl) hw hf
def f_X8_forget (o : Nat)  (σ : MSt) : Option MSt :=
  k_nm (mI σ o 0 (0 : Int32)) fun σ1 =>
  k_nm (mI σ1 o 1 (0 : Int32)) fun σ2 =>
  k_nm (mI σ2 o 2 (-1 : Int32)) fun σ3 =>
  some σ3
def rmX8_forget : Room := { frames := 0, cells := 0, slots := 0, locals := 0 }
set_option maxHeartbeats 4000000 in
set_option maxRecDepth 100000 in
theorem c_X8_forget (l : Launch) (G : va_G) (Y : CY) (w : MSt → va_W) (ad : Nat → Nat) (o : Nat) (Lo : LayX8 ad w Y o)  (σ : MSt) (σ' : MSt) (hf : f_X8_forget o σ = some σ') : k_Mv l yX8_forget wsX8_forget rmX8_forget G Y w [.ref (ad o)] σ σ' := by
  refine k_ofv (own := RX8) (cc := cX8_forget) (maxL := 1) none (by decide) rfl rfl (Nat.le_of_ble_eq_true rfl) ?_
  intro p e s m below meth c A C ls hl hw
  have hx := C.1
  have hb := C.2.1
  have hown := C.2.2.2.2.1
  have hts := C.2.2.2.2.2.1
  have hks := C.2.2.2.2.2.2.1
  have hl : lv_has ls 1 [(0, .ref (ad o))] := hl
  unfold f_X8_forget at hf
  refine lv_aload_n hx hb dX8_forget_0 rfl (lv_at hl 0 rfl) ?_
  refine lv_iconst (v := (0 : Int32)) hx hb dX8_forget_1 (by decide) ?_
  refine k_put C hw (LX8_o Lo) (ci := 8) rfl k_in8 tyX8 tyX8_ok nmX8 0 (by decide) lk8_9 rfl ⟨rfl, rfl⟩ rfl dX8_forget_2 (fun σ1 eq H locs hw => ?_)
  have hf := k_nmE eq hf
  refine lv_aload_n hx hb dX8_forget_5 rfl (lv_at hl 0 rfl) ?_
  refine lv_iconst (v := (0 : Int32)) hx hb dX8_forget_6 (by decide) ?_
  refine k_put C hw (LX8_o Lo) (ci := 8) rfl k_in8 tyX8 tyX8_ok nmX8 1 (by decide) lk8_15 rfl ⟨rfl, rfl⟩ rfl dX8_forget_7 (fun σ2 eq H locs hw => ?_)
  have hf := k_nmE eq hf
  refine lv_aload_n hx hb dX8_forget_10 rfl (lv_at hl 0 rfl) ?_
  refine lv_iconst (v := (-1 : Int32)) hx hb dX8_forget_11 (by decide) ?_
  refine k_put C hw (LX8_o Lo) (ci := 8) rfl k_in8 tyX8 tyX8_ok nmX8 2 (by decide) lk8_18 rfl ⟨rfl, rfl⟩ rfl dX8_forget_12 (fun σ3 eq H locs hw => ?_)
  have hf := k_nmE eq hf
  exact k_vret C hw hf dX8_forget_15
def f_X8_recall_b44 (o : Nat) (o1 : Nat)  (σ : MSt) : Option MSt :=
  some σ
def f_X8_recall (o : Nat) (o1 : Nat) (p2 : Int32) (σ : MSt) : Option MSt :=
  k_bv (f_X8_forget o σ) fun σ1 =>
  if p2 < 0 then
  (f_X8_recall_b44 o o1 σ1)
  else
  (if (8 : Int32) ≤ p2 then
  (f_X8_recall_b44 o o1 σ1)
  else
  (k_ck (k_inb p2 8) <|
  k_nm (mI σ1 o 0 (σ1.1 (o1 + 1) (p2).toNatClampNeg)) fun σ2 =>
  k_ck (k_inb p2 8) <|
  k_nm (mI σ2 o 1 (σ2.1 (o1 + 2) (p2).toNatClampNeg)) fun σ3 =>
  k_ck (k_inb p2 8) <|
  k_nm (mI σ3 o 2 (σ3.1 (o1 + 3) (p2).toNatClampNeg)) fun σ4 =>
  f_X8_recall_b44 o o1 σ4))
def rmX8_recall : Room := { frames := 1, cells := 0, slots := 0, locals := 20 }
set_option maxHeartbeats 4000000 in
set_option maxRecDepth 100000 in
theorem c_X8_recall (l : Launch) (G : va_G) (Y : CY) (w : MSt → va_W) (ad : Nat → Nat) (o : Nat) (o1 : Nat) (Lo : LayX8 ad w Y o) (L1 : LayX5 ad w Y o1) (p2 : Int32) (σ : MSt) (σ' : MSt) (hf : f_X8_recall o o1 p2 σ = some σ') : k_Mv l yX8_recall wsX8_recall rmX8_recall G Y w [.ref (ad o), .ref (ad o1), .int p2] σ σ' := by
  refine k_ofv (own := RX8) (cc := cX8_recall) (maxL := 3) none (by decide) rfl rfl (Nat.le_of_ble_eq_true rfl) ?_
  intro p e s m below meth c A C ls hl hw
  have hx := C.1
  have hb := C.2.1
  have hown := C.2.2.2.2.1
  have hts := C.2.2.2.2.2.1
  have hks := C.2.2.2.2.2.2.1
  have hl : lv_has ls 3 [(0, .ref (ad o)), (1, .ref (ad o1)), (2, .int p2)] := hl
  have b44 : ∀ (σ : MSt) (H : Heap) (locs : List Loc) (ls : Array Slot), lv_has ls 3 [] → k_W G w A s.heap σ H locs → f_X8_recall_b44 o o1 σ = some σ' → W p l e rmX8_recall s m [.ref (ad o), .ref (ad o1), .int p2].toArray below meth c H locs 0 0 (MQ below (k_Qv G w A σ') [.ref (ad o), .ref (ad o1), .int p2].toArray s 0 0 A) (F0 m 44 ls []) := by
    intro σ H locs ls hl hw hf
    unfold f_X8_recall_b44 at hf
    exact k_vret C hw hf dX8_recall_44
  unfold f_X8_recall at hf
  refine lv_aload_n hx hb dX8_recall_0 rfl (lv_at hl 0 rfl) ?_
  obtain ⟨σ1, hq, hf⟩ := k_bvE hf
  refine k_callVv C hw (c_X8_forget l G Y w ad o Lo σ σ1 hq) (cwV 0 hts gX8_recall_X8_forget rfl rfl rfl (by decide +kernel) ⟨Nat.le_of_ble_eq_true rfl, Nat.le_of_ble_eq_true rfl⟩) (k_recv C hw (LX8_o Lo) rfl) rfl hl.1 rfl (Nat.le_of_ble_eq_true rfl) dX8_recall_1 (fun H locs hw => ?_)
  refine lv_iload_n hx hb dX8_recall_4 rfl (lv_at hl 2 rfl) ?_
  refine lv_if_lt (tgt := 44) hx hb dX8_recall_5 (by decide) (fun h => ?_) (fun h => ?_)
  · have hf := k_ifT h hf
    exact b44 σ1 _ _ _ (lv_sub hl [] rfl) hw hf
  · have hf := k_ifF h hf
    refine lv_iload_n hx hb dX8_recall_8 rfl (lv_at hl 2 rfl) ?_
    refine lv_bipush (v := (8 : Int32)) hx hb dX8_recall_9 (by decide) ?_
    refine lv_icmp_ge (tgt := 44) hx hb dX8_recall_11 (by decide) (fun h => ?_) (fun h => ?_)
    · have hf := k_ifT h hf
      exact b44 σ1 _ _ _ (lv_sub hl [] rfl) hw hf
    · have hf := k_ifF h hf
      refine lv_aload_n hx hb dX8_recall_14 rfl (lv_at hl 0 rfl) ?_
      refine lv_aload_n hx hb dX8_recall_15 rfl (lv_at hl 1 rfl) ?_
      refine k_getN C hw (LX5_o L1) (ci := 5) rfl k_in5 0 (by decide) ln8_24 (v := .ref (ad (o1 + 1))) rfl dX8_recall_16 ?_
      refine lv_iload_n hx hb dX8_recall_19 rfl (lv_at hl 2 rfl) ?_
      obtain ⟨hi, hf⟩ := k_ckE hf
      refine k_iald C hw (LX5_1 L1) hi dX8_recall_20 ?_
      refine k_put C hw (LX8_o Lo) (ci := 8) rfl k_in8 tyX8 tyX8_ok nmX8 0 (by decide) lk8_9 rfl ⟨rfl, rfl⟩ rfl dX8_recall_21 (fun σ2 eq H locs hw => ?_)
      have hf := k_nmE eq hf
      refine lv_aload_n hx hb dX8_recall_24 rfl (lv_at hl 0 rfl) ?_
      refine lv_aload_n hx hb dX8_recall_25 rfl (lv_at hl 1 rfl) ?_
      refine k_getN C hw (LX5_o L1) (ci := 5) rfl k_in5 1 (by decide) ln8_29 (v := .ref (ad (o1 + 2))) rfl dX8_recall_26 ?_
      refine lv_iload_n hx hb dX8_recall_29 rfl (lv_at hl 2 rfl) ?_
      obtain ⟨hi, hf⟩ := k_ckE hf
      refine k_iald C hw (LX5_2 L1) hi dX8_recall_30 ?_
      refine k_put C hw (LX8_o Lo) (ci := 8) rfl k_in8 tyX8 tyX8_ok nmX8 1 (by decide) lk8_15 rfl ⟨rfl, rfl⟩ rfl dX8_recall_31 (fun σ3 eq H locs hw => ?_)
      have hf := k_nmE eq hf
      refine lv_aload_n hx hb dX8_recall_34 rfl (lv_at hl 0 rfl) ?_
      refine lv_aload_n hx hb dX8_recall_35 rfl (lv_at hl 1 rfl) ?_
      refine k_getN C hw (LX5_o L1) (ci := 5) rfl k_in5 2 (by decide) ln8_31 (v := .ref (ad (o1 + 3))) rfl dX8_recall_36 ?_
      refine lv_iload_n hx hb dX8_recall_39 rfl (lv_at hl 2 rfl) ?_
      obtain ⟨hi, hf⟩ := k_ckE hf
      refine k_iald C hw (LX5_3 L1) hi dX8_recall_40 ?_
      refine k_put C hw (LX8_o Lo) (ci := 8) rfl k_in8 tyX8 tyX8_ok nmX8 2 (by decide) lk8_18 rfl ⟨rfl, rfl⟩ rfl dX8_recall_41 (fun σ4 eq H locs hw => ?_)
      have hf := k_nmE eq hf
      exact b44 σ4 _ _ _ (lv_sub hl [] rfl) hw hf
def f_X8_set_b40 (o : Nat) (y1 : Int32) (σ : MSt) : Option MSt :=
  k_nm (mI σ o 3 y1) fun σ1 =>
  some σ1
def f_X8_set (o : Nat) (p1 : Int32) (p2 : Int32) (p3 : Int32) (σ : MSt) : Option MSt :=
  k_nm (mI σ o 4 p1) fun σ2 =>
  k_nm (mI σ2 o 5 p2) fun σ3 =>
  k_nm (mI σ3 o 6 p3) fun σ4 =>
  if (σ4.1 o 2) = (-1 : Int32) then
  (f_X8_set_b40 o (99 : Int32) σ4)
  else
  (f_X8_set_b40 o (k_min (99 : Int32) (p1 - (σ4.1 o 2))) σ4)
def rmX8_set : Room := { frames := 1, cells := 0, slots := 0, locals := 23 }
set_option maxHeartbeats 4000000 in
set_option maxRecDepth 100000 in
theorem c_X8_set (l : Launch) (G : va_G) (Y : CY) (w : MSt → va_W) (ad : Nat → Nat) (o : Nat) (Lo : LayX8 ad w Y o) (p1 : Int32) (p2 : Int32) (p3 : Int32) (σ : MSt) (σ' : MSt) (hf : f_X8_set o p1 p2 p3 σ = some σ') : k_Mv l yX8_set wsX8_set rmX8_set G Y w [.ref (ad o), .int p1, .int p2, .int p3] σ σ' := by
  refine k_ofv (own := RX8) (cc := cX8_set) (maxL := 4) none (by decide) rfl rfl (Nat.le_of_ble_eq_true rfl) ?_
  intro p e s m below meth c A C ls hl hw
  have hx := C.1
  have hb := C.2.1
  have hown := C.2.2.2.2.1
  have hts := C.2.2.2.2.2.1
  have hks := C.2.2.2.2.2.2.1
  have hl : lv_has ls 4 [(0, .ref (ad o)), (1, .int p1), (2, .int p2), (3, .int p3)] := hl
  have b40 : ∀ (y1 : Int32) (σ : MSt) (H : Heap) (locs : List Loc) (ls : Array Slot), lv_has ls 4 [] → k_W G w A s.heap σ H locs → f_X8_set_b40 o y1 σ = some σ' → W p l e rmX8_set s m [.ref (ad o), .int p1, .int p2, .int p3].toArray below meth c H locs 0 0 (MQ below (k_Qv G w A σ') [.ref (ad o), .int p1, .int p2, .int p3].toArray s 0 0 A) (F0 m 40 ls [.int y1, .ref (ad o)]) := by
    intro y1 σ H locs ls hl hw hf
    unfold f_X8_set_b40 at hf
    refine k_put C hw (LX8_o Lo) (ci := 8) rfl k_in8 tyX8 tyX8_ok nmX8 3 (by decide) lk8_51 rfl ⟨rfl, rfl⟩ rfl dX8_set_40 (fun σ1 eq H locs hw => ?_)
    have hf := k_nmE eq hf
    exact k_vret C hw hf dX8_set_43
  unfold f_X8_set at hf
  refine lv_aload_n hx hb dX8_set_0 rfl (lv_at hl 0 rfl) ?_
  refine lv_iload_n hx hb dX8_set_1 rfl (lv_at hl 1 rfl) ?_
  refine k_put C hw (LX8_o Lo) (ci := 8) rfl k_in8 tyX8 tyX8_ok nmX8 4 (by decide) lk8_42 rfl ⟨rfl, rfl⟩ rfl dX8_set_2 (fun σ2 eq H locs hw => ?_)
  have hf := k_nmE eq hf
  refine lv_aload_n hx hb dX8_set_5 rfl (lv_at hl 0 rfl) ?_
  refine lv_iload_n hx hb dX8_set_6 rfl (lv_at hl 2 rfl) ?_
  refine k_put C hw (LX8_o Lo) (ci := 8) rfl k_in8 tyX8 tyX8_ok nmX8 5 (by decide) lk8_45 rfl ⟨rfl, rfl⟩ rfl dX8_set_7 (fun σ3 eq H locs hw => ?_)
  have hf := k_nmE eq hf
  refine lv_aload_n hx hb dX8_set_10 rfl (lv_at hl 0 rfl) ?_
  refine lv_iload_n hx hb dX8_set_11 rfl (lv_at hl 3 rfl) ?_
  refine k_put C hw (LX8_o Lo) (ci := 8) rfl k_in8 tyX8 tyX8_ok nmX8 6 (by decide) lk8_48 rfl ⟨rfl, rfl⟩ rfl dX8_set_12 (fun σ4 eq H locs hw => ?_)
  have hf := k_nmE eq hf
  refine lv_aload_n hx hb dX8_set_15 rfl (lv_at hl 0 rfl) ?_
  refine lv_aload_n hx hb dX8_set_16 rfl (lv_at hl 0 rfl) ?_
  refine k_get C hw (LX8_o Lo) (ci := 8) rfl k_in8 2 (by decide) lk8_18 (v := .int (σ4.1 o 2)) rfl dX8_set_17 ?_
  refine lv_iconst (v := (-1 : Int32)) hx hb dX8_set_20 (by decide) ?_
  refine lv_icmp_ne (tgt := 29) hx hb dX8_set_21 (by decide) (fun h => ?_) (fun h => ?_)
  · have hf := k_ifF h hf
    refine lv_bipush (v := (99 : Int32)) hx hb dX8_set_29 (by decide) ?_
    refine lv_iload_n hx hb dX8_set_31 rfl (lv_at hl 1 rfl) ?_
    refine lv_aload_n hx hb dX8_set_32 rfl (lv_at hl 0 rfl) ?_
    refine k_get C hw (LX8_o Lo) (ci := 8) rfl k_in8 2 (by decide) lk8_18 (v := .int (σ4.1 o 2)) rfl dX8_set_33 ?_
    refine lv_isub hx hb dX8_set_36 ?_
    refine k_mmin C hl.1 ml8_33 ms_Lib_Math_min_name mi_Math mc_Lib_Math_min_name (Nat.le_of_ble_eq_true rfl) (Nat.le_of_ble_eq_true rfl) dX8_set_37 ?_
    exact b40 (k_min (99 : Int32) (p1 - (σ4.1 o 2))) σ4 _ _ _ (lv_sub hl [] rfl) hw hf
  · have hf := k_ifT h hf
    refine lv_bipush (v := (99 : Int32)) hx hb dX8_set_24 (by decide) ?_
    refine lv_goto (tgt := 40) hx hb dX8_set_26 (by decide) ?_
    exact b40 (99 : Int32) σ4 _ _ _ (lv_sub hl [] rfl) hw hf
def f_X8_valueOf (o : Nat) (p1 : Int32) (σ : MSt) : Option (Int64 × MSt) :=
  if p1 = (25 : Int32) then
  (some ((((σ.1 o 0)).toInt64), σ))
  else if p1 = (26 : Int32) then
  (some ((((σ.1 o 3)).toInt64), σ))
  else if p1 = (27 : Int32) then
  (some ((((σ.1 o 1)).toInt64), σ))
  else if p1 = (28 : Int32) then
  (some ((((σ.1 o 5)).toInt64), σ))
  else if p1 = (29 : Int32) then
  (some ((((σ.1 o 4)).toInt64), σ))
  else if p1 = (30 : Int32) then
  (some ((((σ.1 o 7)).toInt64), σ))
  else 
  (some ((((σ.1 o 6)).toInt64), σ))
def rmX8_valueOf : Room := { frames := 0, cells := 0, slots := 0, locals := 0 }
set_option maxHeartbeats 4000000 in
set_option maxRecDepth 100000 in
theorem c_X8_valueOf (l : Launch) (G : va_G) (Y : CY) (w : MSt → va_W) (ad : Nat → Nat) (o : Nat) (Lo : LayX8 ad w Y o) (p1 : Int32) (σ : MSt) (r : Int64) (σ' : MSt) (hf : f_X8_valueOf o p1 σ = some (r, σ')) : k_Ml l yX8_valueOf wsX8_valueOf rmX8_valueOf G Y w [.ref (ad o), .int p1] σ r σ' := by
  refine k_ofl (own := RX8) (cc := cX8_valueOf) (maxL := 2) (some .long) (by decide) rfl rfl (Nat.le_of_ble_eq_true rfl) ?_
  intro p e s m below meth c A C ls hl hw
  have hx := C.1
  have hb := C.2.1
  have hown := C.2.2.2.2.1
  have hts := C.2.2.2.2.2.1
  have hks := C.2.2.2.2.2.2.1
  have hl : lv_has ls 2 [(0, .ref (ad o)), (1, .int p1)] := hl
  unfold f_X8_valueOf at hf
  refine lv_iload_n hx hb dX8_valueOf_0 rfl (lv_at hl 1 rfl) ?_
  by_cases h25 : p1 = (25 : Int32)
  · have hf := k_ifT h25 hf
    refine lv_tableIn (tgt := 40) hx hb dX8_valueOf_1 (by rw [h25]; decide) (by rw [h25]; decide) (by rw [h25]; rfl) (by decide) ?_
    refine lv_aload_n hx hb dX8_valueOf_40 rfl (lv_at hl 0 rfl) ?_
    refine k_get C hw (LX8_o Lo) (ci := 8) rfl k_in8 0 (by decide) lk8_9 (v := .int (σ.1 o 0)) rfl dX8_valueOf_41 ?_
    refine lv_i2l (v := (((σ.1 o 0)).toInt64)) hx hb dX8_valueOf_44 rfl ?_
    exact k_lret C hw hf dX8_valueOf_45
  have hf := k_ifF h25 hf
  by_cases h26 : p1 = (26 : Int32)
  · have hf := k_ifT h26 hf
    refine lv_tableIn (tgt := 46) hx hb dX8_valueOf_1 (by rw [h26]; decide) (by rw [h26]; decide) (by rw [h26]; rfl) (by decide) ?_
    refine lv_aload_n hx hb dX8_valueOf_46 rfl (lv_at hl 0 rfl) ?_
    refine k_get C hw (LX8_o Lo) (ci := 8) rfl k_in8 3 (by decide) lk8_51 (v := .int (σ.1 o 3)) rfl dX8_valueOf_47 ?_
    refine lv_i2l (v := (((σ.1 o 3)).toInt64)) hx hb dX8_valueOf_50 rfl ?_
    exact k_lret C hw hf dX8_valueOf_51
  have hf := k_ifF h26 hf
  by_cases h27 : p1 = (27 : Int32)
  · have hf := k_ifT h27 hf
    refine lv_tableIn (tgt := 52) hx hb dX8_valueOf_1 (by rw [h27]; decide) (by rw [h27]; decide) (by rw [h27]; rfl) (by decide) ?_
    refine lv_aload_n hx hb dX8_valueOf_52 rfl (lv_at hl 0 rfl) ?_
    refine k_get C hw (LX8_o Lo) (ci := 8) rfl k_in8 1 (by decide) lk8_15 (v := .int (σ.1 o 1)) rfl dX8_valueOf_53 ?_
    refine lv_i2l (v := (((σ.1 o 1)).toInt64)) hx hb dX8_valueOf_56 rfl ?_
    exact k_lret C hw hf dX8_valueOf_57
  have hf := k_ifF h27 hf
  by_cases h28 : p1 = (28 : Int32)
  · have hf := k_ifT h28 hf
    refine lv_tableIn (tgt := 58) hx hb dX8_valueOf_1 (by rw [h28]; decide) (by rw [h28]; decide) (by rw [h28]; rfl) (by decide) ?_
    refine lv_aload_n hx hb dX8_valueOf_58 rfl (lv_at hl 0 rfl) ?_
    refine k_get C hw (LX8_o Lo) (ci := 8) rfl k_in8 5 (by decide) lk8_45 (v := .int (σ.1 o 5)) rfl dX8_valueOf_59 ?_
    refine lv_i2l (v := (((σ.1 o 5)).toInt64)) hx hb dX8_valueOf_62 rfl ?_
    exact k_lret C hw hf dX8_valueOf_63
  have hf := k_ifF h28 hf
  by_cases h29 : p1 = (29 : Int32)
  · have hf := k_ifT h29 hf
    refine lv_tableIn (tgt := 64) hx hb dX8_valueOf_1 (by rw [h29]; decide) (by rw [h29]; decide) (by rw [h29]; rfl) (by decide) ?_
    refine lv_aload_n hx hb dX8_valueOf_64 rfl (lv_at hl 0 rfl) ?_
    refine k_get C hw (LX8_o Lo) (ci := 8) rfl k_in8 4 (by decide) lk8_42 (v := .int (σ.1 o 4)) rfl dX8_valueOf_65 ?_
    refine lv_i2l (v := (((σ.1 o 4)).toInt64)) hx hb dX8_valueOf_68 rfl ?_
    exact k_lret C hw hf dX8_valueOf_69
  have hf := k_ifF h29 hf
  by_cases h30 : p1 = (30 : Int32)
  · have hf := k_ifT h30 hf
    refine lv_tableIn (tgt := 70) hx hb dX8_valueOf_1 (by rw [h30]; decide) (by rw [h30]; decide) (by rw [h30]; rfl) (by decide) ?_
    refine lv_aload_n hx hb dX8_valueOf_70 rfl (lv_at hl 0 rfl) ?_
    refine k_get C hw (LX8_o Lo) (ci := 8) rfl k_in8 7 (by decide) lk8_54 (v := .int (σ.1 o 7)) rfl dX8_valueOf_71 ?_
    refine lv_i2l (v := (((σ.1 o 7)).toInt64)) hx hb dX8_valueOf_74 rfl ?_
    exact k_lret C hw hf dX8_valueOf_75
  have hf := k_ifF h30 hf
  refine lv_tableOut (tgt := 76) hx hb dX8_valueOf_1 (k_tout (fun k q1 q2 q3 => ?_)) (by decide) ?_
  · have q4 : p1 = Int32.ofInt k := by rw [← q3, Int32.ofInt_toInt]
    have q5 : k = 25 ∨ k = 26 ∨ k = 27 ∨ k = 28 ∨ k = 29 ∨ k = 30 := by omega
    rcases q5 with rfl | rfl | rfl | rfl | rfl | rfl
    · exact h25 q4
    · exact h26 q4
    · exact h27 q4
    · exact h28 q4
    · exact h29 q4
    · exact h30 q4
  refine lv_aload_n hx hb dX8_valueOf_76 rfl (lv_at hl 0 rfl) ?_
  refine k_get C hw (LX8_o Lo) (ci := 8) rfl k_in8 6 (by decide) lk8_48 (v := .int (σ.1 o 6)) rfl dX8_valueOf_77 ?_
  refine lv_i2l (v := (((σ.1 o 6)).toInt64)) hx hb dX8_valueOf_80 rfl ?_
  exact k_lret C hw hf dX8_valueOf_81
def f_X4_join_b367  (y0 : Int64) (σ : MSt) : Option (Int64 × MSt) :=
  some (y0, σ)
def f_X4_join_b359   (σ : MSt) : Option (Int64 × MSt) :=
  f_X4_join_b367 (-9223372036854775808 : Int64) σ
def f_X4_join_b339  (y0 : Int64) (σ : MSt) : Option (Int64 × MSt) :=
  if 0 < (lg_cmp y0 (1000000000000 : Int64)) then
  (f_X4_join_b359 σ)
  else
  (if 0 ≤ (lg_cmp y0 (-1000000000000 : Int64)) then
  (f_X4_join_b367 y0 σ)
  else
  (f_X4_join_b359 σ))
def f_X4_join_b312  (x0 : Int32) (x1 : Int64) (x3 : Int64) (σ : MSt) : Option (Int64 × MSt) :=
  if x0 = (45 : Int32) then
  (f_X4_join_b339 (x1 * x3) σ)
  else
  (if x0 = (43 : Int32) then
  (f_X4_join_b339 (x1 + x3) σ)
  else
  (f_X4_join_b339 (x1 - x3) σ))
def f_X4_join_b303  (x0 : Int32) (x1 : Int64) (x3 : Int64) (y0 : Int64) (y1 : Int64) (y2 : Int64) (σ : MSt) : Option (Int64 × MSt) :=
  k_ck (k_nzl y2) <|
  if (lg_cmp y0 (y1 / y2)) ≤ 0 then
  (f_X4_join_b312 x0 x1 x3 σ)
  else
  (some ((-9223372036854775808 : Int64), σ))
def f_X4_join_b288  (x0 : Int32) (x1 : Int64) (x3 : Int64) (y0 : Int64) (σ : MSt) : Option (Int64 × MSt) :=
  if 0 ≤ (lg_cmp x1 (0 : Int64)) then
  (f_X4_join_b303 x0 x1 x3 y0 (1000000000000 : Int64) x1 σ)
  else
  (f_X4_join_b303 x0 x1 x3 y0 (1000000000000 : Int64) (-x1) σ)
def f_X4_join_b264  (x0 : Int32) (x1 : Int64) (x3 : Int64) (σ : MSt) : Option (Int64 × MSt) :=
  if x0 = (45 : Int32) then
  (if (lg_cmp x1 (0 : Int64)) = 0 then
  (f_X4_join_b312 x0 x1 x3 σ)
  else
  (if 0 ≤ (lg_cmp x3 (0 : Int64)) then
  (f_X4_join_b288 x0 x1 x3 x3 σ)
  else
  (f_X4_join_b288 x0 x1 x3 (-x3) σ)))
  else
  (f_X4_join_b312 x0 x1 x3 σ)
def f_X4_join_b263  (y0 : Int64) (σ : MSt) : Option (Int64 × MSt) :=
  some (y0, σ)
def f_X4_join_b247  (y0 : Int64) (σ : MSt) : Option (Int64 × MSt) :=
  some (y0, σ)
def f_X4_join_b235  (y0 : Int64) (σ : MSt) : Option (Int64 × MSt) :=
  some (y0, σ)
def f_X4_join_b223  (y0 : Int64) (σ : MSt) : Option (Int64 × MSt) :=
  some (y0, σ)
def f_X4_join_b211  (y0 : Int64) (σ : MSt) : Option (Int64 × MSt) :=
  some (y0, σ)
def f_X4_join_b199  (y0 : Int64) (σ : MSt) : Option (Int64 × MSt) :=
  some (y0, σ)
def f_X4_join_b187  (y0 : Int64) (σ : MSt) : Option (Int64 × MSt) :=
  some (y0, σ)
def f_X4_join_b175  (y0 : Int64) (σ : MSt) : Option (Int64 × MSt) :=
  some (y0, σ)
def f_X4_join_b174   (σ : MSt) : Option (Int64 × MSt) :=
  f_X4_join_b175 (0 : Int64) σ
def f_X4_join_b157  (y0 : Int64) (σ : MSt) : Option (Int64 × MSt) :=
  some (y0, σ)
def f_X4_join_b152   (σ : MSt) : Option (Int64 × MSt) :=
  f_X4_join_b157 (1 : Int64) σ
def f_X4_join  (p1 : Int32) (p2 : Int64) (p3 : Int64) (σ : MSt) : Option (Int64 × MSt) :=
  if p1 = (22 : Int32) then
  (if (lg_cmp p2 (0 : Int64)) = 0 then
  (if (lg_cmp p3 (0 : Int64)) = 0 then
  (f_X4_join_b157 (0 : Int64) σ)
  else
  (f_X4_join_b152 σ))
  else
  (f_X4_join_b152 σ))
  else if p1 = (23 : Int32) then
  (if (lg_cmp p2 (0 : Int64)) = 0 then
  (f_X4_join_b174 σ)
  else
  (if (lg_cmp p3 (0 : Int64)) = 0 then
  (f_X4_join_b174 σ)
  else
  (f_X4_join_b175 (1 : Int64) σ)))
  else if p1 = (24 : Int32) then
  (f_X4_join_b264 p1 p2 p3 σ)
  else if p1 = (25 : Int32) then
  (f_X4_join_b264 p1 p2 p3 σ)
  else if p1 = (26 : Int32) then
  (f_X4_join_b264 p1 p2 p3 σ)
  else if p1 = (27 : Int32) then
  (f_X4_join_b264 p1 p2 p3 σ)
  else if p1 = (28 : Int32) then
  (f_X4_join_b264 p1 p2 p3 σ)
  else if p1 = (29 : Int32) then
  (f_X4_join_b264 p1 p2 p3 σ)
  else if p1 = (30 : Int32) then
  (f_X4_join_b264 p1 p2 p3 σ)
  else if p1 = (31 : Int32) then
  (f_X4_join_b264 p1 p2 p3 σ)
  else if p1 = (32 : Int32) then
  (f_X4_join_b264 p1 p2 p3 σ)
  else if p1 = (33 : Int32) then
  (f_X4_join_b264 p1 p2 p3 σ)
  else if p1 = (34 : Int32) then
  (f_X4_join_b264 p1 p2 p3 σ)
  else if p1 = (35 : Int32) then
  (f_X4_join_b264 p1 p2 p3 σ)
  else if p1 = (36 : Int32) then
  (f_X4_join_b264 p1 p2 p3 σ)
  else if p1 = (37 : Int32) then
  (f_X4_join_b264 p1 p2 p3 σ)
  else if p1 = (38 : Int32) then
  (f_X4_join_b264 p1 p2 p3 σ)
  else if p1 = (39 : Int32) then
  (f_X4_join_b264 p1 p2 p3 σ)
  else if p1 = (40 : Int32) then
  (f_X4_join_b264 p1 p2 p3 σ)
  else if p1 = (41 : Int32) then
  (f_X4_join_b264 p1 p2 p3 σ)
  else if p1 = (42 : Int32) then
  (f_X4_join_b264 p1 p2 p3 σ)
  else if p1 = (43 : Int32) then
  (f_X4_join_b264 p1 p2 p3 σ)
  else if p1 = (44 : Int32) then
  (f_X4_join_b264 p1 p2 p3 σ)
  else if p1 = (45 : Int32) then
  (f_X4_join_b264 p1 p2 p3 σ)
  else if p1 = (46 : Int32) then
  (if (lg_cmp p3 (0 : Int64)) = 0 then
  (f_X4_join_b263 (-9223372036854775808 : Int64) σ)
  else
  (k_ck (k_nzl p3) <|
  f_X4_join_b263 (p2 / p3) σ))
  else if p1 = (47 : Int32) then
  (if 0 ≤ (lg_cmp p2 p3) then
  (f_X4_join_b187 (0 : Int64) σ)
  else
  (f_X4_join_b187 (1 : Int64) σ))
  else if p1 = (48 : Int32) then
  (if 0 < (lg_cmp p2 p3) then
  (f_X4_join_b199 (0 : Int64) σ)
  else
  (f_X4_join_b199 (1 : Int64) σ))
  else if p1 = (49 : Int32) then
  (if (lg_cmp p2 p3) = 0 then
  (f_X4_join_b211 (1 : Int64) σ)
  else
  (f_X4_join_b211 (0 : Int64) σ))
  else if p1 = (50 : Int32) then
  (if (lg_cmp p2 p3) = 0 then
  (f_X4_join_b223 (0 : Int64) σ)
  else
  (f_X4_join_b223 (1 : Int64) σ))
  else if p1 = (51 : Int32) then
  (if (lg_cmp p2 p3) < 0 then
  (f_X4_join_b235 (0 : Int64) σ)
  else
  (f_X4_join_b235 (1 : Int64) σ))
  else if p1 = (52 : Int32) then
  (if (lg_cmp p2 p3) ≤ 0 then
  (f_X4_join_b247 (0 : Int64) σ)
  else
  (f_X4_join_b247 (1 : Int64) σ))
  else 
  (f_X4_join_b264 p1 p2 p3 σ)
def rmX4_join : Room := { frames := 0, cells := 0, slots := 0, locals := 0 }
set_option maxHeartbeats 4000000 in
set_option maxRecDepth 100000 in
theorem c_X4_join (l : Launch) (G : va_G) (Y : CY) (w : MSt → va_W) (ad : Nat → Nat)   (p1 : Int32) (p2 : Int64) (p3 : Int64) (σ : MSt) (r : Int64) (σ' : MSt) (hf : f_X4_join p1 p2 p3 σ = some (r, σ')) : k_Ml l yX4_join wsX4_join rmX4_join G Y w [.int p1, .long p2, .long p3] σ r σ' := by
  refine k_ofl (own := RX4) (cc := cX4_join) (maxL := 7) (some .long) (by decide) rfl rfl (Nat.le_of_ble_eq_true rfl) ?_
  intro p e s m below meth c A C ls hl hw
  have hx := C.1
  have hb := C.2.1
  have hown := C.2.2.2.2.1
  have hts := C.2.2.2.2.2.1
  have hks := C.2.2.2.2.2.2.1
  have hl : lv_has ls 7 [(0, .int p1), (1, .long p2), (3, .long p3)] := hl
  have b367 : ∀ (y0 : Int64) (σ : MSt) (H : Heap) (locs : List Loc) (ls : Array Slot), lv_has ls 7 [] → k_W G w A s.heap σ H locs → f_X4_join_b367 y0 σ = some (r, σ') → W p l e rmX4_join s m [.int p1, .long p2, .long p3].toArray below meth c H locs 0 0 (MQ below (k_Ql G w A r σ') [.int p1, .long p2, .long p3].toArray s 0 0 A) (F0 m 367 ls [.long y0]) := by
    intro y0 σ H locs ls hl hw hf
    unfold f_X4_join_b367 at hf
    exact k_lret C hw hf dX4_join_367
  have b359 : ∀ (σ : MSt) (H : Heap) (locs : List Loc) (ls : Array Slot), lv_has ls 7 [] → k_W G w A s.heap σ H locs → f_X4_join_b359 σ = some (r, σ') → W p l e rmX4_join s m [.int p1, .long p2, .long p3].toArray below meth c H locs 0 0 (MQ below (k_Ql G w A r σ') [.int p1, .long p2, .long p3].toArray s 0 0 A) (F0 m 359 ls []) := by
    intro σ H locs ls hl hw hf
    unfold f_X4_join_b359 at hf
    refine lv_ldc2 (v := (-9223372036854775808 : Int64)) hx hb hown (hks.ts _ ck4_41) dX4_join_359 ?_
    refine lv_goto (tgt := 367) hx hb dX4_join_362 (by decide) ?_
    exact b367 (-9223372036854775808 : Int64) σ _ _ _ (lv_sub hl [] rfl) hw hf
  have b339 : ∀ (y0 : Int64) (σ : MSt) (H : Heap) (locs : List Loc) (ls : Array Slot), lv_has ls 7 [] → k_W G w A s.heap σ H locs → f_X4_join_b339 y0 σ = some (r, σ') → W p l e rmX4_join s m [.int p1, .long p2, .long p3].toArray below meth c H locs 0 0 (MQ below (k_Ql G w A r σ') [.int p1, .long p2, .long p3].toArray s 0 0 A) (F0 m 339 ls [.long y0]) := by
    intro y0 σ H locs ls hl hw hf
    unfold f_X4_join_b339 at hf
    refine lv_lstore (lv' := [(5, .long y0)]) hx hb dX4_join_339 hl (by decide) rfl (fun ls hl => ?_)
    refine lv_lload hx hb dX4_join_341 (lv_at hl 0 rfl) ?_
    refine lv_ldc2 (v := (1000000000000 : Int64)) hx hb hown (hks.ts _ ck4_73) dX4_join_343 ?_
    refine W.lcmp hx hb dX4_join_346 ?_
    refine lv_if_gt (tgt := 359) hx hb dX4_join_347 (by decide) (fun h => ?_) (fun h => ?_)
    · have hf := k_ifT h hf
      exact b359 σ _ _ _ (lv_sub hl [] rfl) hw hf
    · have hf := k_ifF h hf
      refine lv_lload hx hb dX4_join_350 (lv_at hl 0 rfl) ?_
      refine lv_ldc2 (v := (-1000000000000 : Int64)) hx hb hown (hks.ts _ ck4_75) dX4_join_352 ?_
      refine W.lcmp hx hb dX4_join_355 ?_
      refine lv_if_ge (tgt := 365) hx hb dX4_join_356 (by decide) (fun h => ?_) (fun h => ?_)
      · have hf := k_ifT h hf
        refine lv_lload hx hb dX4_join_365 (lv_at hl 0 rfl) ?_
        exact b367 y0 σ _ _ _ (lv_sub hl [] rfl) hw hf
      · have hf := k_ifF h hf
        exact b359 σ _ _ _ (lv_sub hl [] rfl) hw hf
  have b312 : ∀ (x0 : Int32) (x1 : Int64) (x3 : Int64) (σ : MSt) (H : Heap) (locs : List Loc) (ls : Array Slot), lv_has ls 7 [(0, .int x0), (1, .long x1), (3, .long x3)] → k_W G w A s.heap σ H locs → f_X4_join_b312 x0 x1 x3 σ = some (r, σ') → W p l e rmX4_join s m [.int p1, .long p2, .long p3].toArray below meth c H locs 0 0 (MQ below (k_Ql G w A r σ') [.int p1, .long p2, .long p3].toArray s 0 0 A) (F0 m 312 ls []) := by
    intro x0 x1 x3 σ H locs ls hl hw hf
    unfold f_X4_join_b312 at hf
    refine lv_iload_n hx hb dX4_join_312 rfl (lv_at hl 0 rfl) ?_
    refine lv_bipush (v := (45 : Int32)) hx hb dX4_join_313 (by decide) ?_
    refine lv_icmp_ne (tgt := 324) hx hb dX4_join_315 (by decide) (fun h => ?_) (fun h => ?_)
    · have hf := k_ifF h hf
      refine lv_iload_n hx hb dX4_join_324 rfl (lv_at hl 0 rfl) ?_
      refine lv_bipush (v := (43 : Int32)) hx hb dX4_join_325 (by decide) ?_
      refine lv_icmp_ne (tgt := 336) hx hb dX4_join_327 (by decide) (fun h => ?_) (fun h => ?_)
      · have hf := k_ifF h hf
        refine lv_lload_n hx hb dX4_join_336 rfl (lv_at hl 1 rfl) ?_
        refine lv_lload_n hx hb dX4_join_337 rfl (lv_at hl 2 rfl) ?_
        refine lv_lsub hx hb dX4_join_338 ?_
        exact b339 (x1 - x3) σ _ _ _ (lv_sub hl [] rfl) hw hf
      · have hf := k_ifT h hf
        refine lv_lload_n hx hb dX4_join_330 rfl (lv_at hl 1 rfl) ?_
        refine lv_lload_n hx hb dX4_join_331 rfl (lv_at hl 2 rfl) ?_
        refine lv_ladd hx hb dX4_join_332 ?_
        refine lv_goto (tgt := 339) hx hb dX4_join_333 (by decide) ?_
        exact b339 (x1 + x3) σ _ _ _ (lv_sub hl [] rfl) hw hf
    · have hf := k_ifT h hf
      refine lv_lload_n hx hb dX4_join_318 rfl (lv_at hl 1 rfl) ?_
      refine lv_lload_n hx hb dX4_join_319 rfl (lv_at hl 2 rfl) ?_
      refine lv_lmul hx hb dX4_join_320 ?_
      refine lv_goto (tgt := 339) hx hb dX4_join_321 (by decide) ?_
      exact b339 (x1 * x3) σ _ _ _ (lv_sub hl [] rfl) hw hf
  have b303 : ∀ (x0 : Int32) (x1 : Int64) (x3 : Int64) (y0 : Int64) (y1 : Int64) (y2 : Int64) (σ : MSt) (H : Heap) (locs : List Loc) (ls : Array Slot), lv_has ls 7 [(0, .int x0), (1, .long x1), (3, .long x3)] → k_W G w A s.heap σ H locs → f_X4_join_b303 x0 x1 x3 y0 y1 y2 σ = some (r, σ') → W p l e rmX4_join s m [.int p1, .long p2, .long p3].toArray below meth c H locs 0 0 (MQ below (k_Ql G w A r σ') [.int p1, .long p2, .long p3].toArray s 0 0 A) (F0 m 303 ls [.long y2, .long y1, .long y0]) := by
    intro x0 x1 x3 y0 y1 y2 σ H locs ls hl hw hf
    unfold f_X4_join_b303 at hf
    obtain ⟨hz, hf⟩ := k_ckE hf
    refine lv_ldiv hx hb dX4_join_303 (k_nzlE hz) ?_
    refine W.lcmp hx hb dX4_join_304 ?_
    refine lv_if_le (tgt := 312) hx hb dX4_join_305 (by decide) (fun h => ?_) (fun h => ?_)
    · have hf := k_ifT h hf
      exact b312 x0 x1 x3 σ _ _ _ (lv_sub hl [0, 1, 2] rfl) hw hf
    · have hf := k_ifF h hf
      refine lv_ldc2 (v := (-9223372036854775808 : Int64)) hx hb hown (hks.ts _ ck4_41) dX4_join_308 ?_
      exact k_lret C hw hf dX4_join_311
  have b288 : ∀ (x0 : Int32) (x1 : Int64) (x3 : Int64) (y0 : Int64) (σ : MSt) (H : Heap) (locs : List Loc) (ls : Array Slot), lv_has ls 7 [(0, .int x0), (1, .long x1), (3, .long x3)] → k_W G w A s.heap σ H locs → f_X4_join_b288 x0 x1 x3 y0 σ = some (r, σ') → W p l e rmX4_join s m [.int p1, .long p2, .long p3].toArray below meth c H locs 0 0 (MQ below (k_Ql G w A r σ') [.int p1, .long p2, .long p3].toArray s 0 0 A) (F0 m 288 ls [.long y0]) := by
    intro x0 x1 x3 y0 σ H locs ls hl hw hf
    unfold f_X4_join_b288 at hf
    refine lv_ldc2 (v := (1000000000000 : Int64)) hx hb hown (hks.ts _ ck4_73) dX4_join_288 ?_
    refine lv_lload_n hx hb dX4_join_291 rfl (lv_at hl 1 rfl) ?_
    refine lv_lconst (v := (0 : Int64)) hx hb dX4_join_292 (by decide) ?_
    refine W.lcmp hx hb dX4_join_293 ?_
    refine lv_if_ge (tgt := 302) hx hb dX4_join_294 (by decide) (fun h => ?_) (fun h => ?_)
    · have hf := k_ifT h hf
      refine lv_lload_n hx hb dX4_join_302 rfl (lv_at hl 1 rfl) ?_
      exact b303 x0 x1 x3 y0 (1000000000000 : Int64) x1 σ _ _ _ (lv_sub hl [0, 1, 2] rfl) hw hf
    · have hf := k_ifF h hf
      refine lv_lload_n hx hb dX4_join_297 rfl (lv_at hl 1 rfl) ?_
      refine lv_lneg hx hb dX4_join_298 ?_
      refine lv_goto (tgt := 303) hx hb dX4_join_299 (by decide) ?_
      exact b303 x0 x1 x3 y0 (1000000000000 : Int64) (-x1) σ _ _ _ (lv_sub hl [0, 1, 2] rfl) hw hf
  have b264 : ∀ (x0 : Int32) (x1 : Int64) (x3 : Int64) (σ : MSt) (H : Heap) (locs : List Loc) (ls : Array Slot), lv_has ls 7 [(0, .int x0), (1, .long x1), (3, .long x3)] → k_W G w A s.heap σ H locs → f_X4_join_b264 x0 x1 x3 σ = some (r, σ') → W p l e rmX4_join s m [.int p1, .long p2, .long p3].toArray below meth c H locs 0 0 (MQ below (k_Ql G w A r σ') [.int p1, .long p2, .long p3].toArray s 0 0 A) (F0 m 264 ls []) := by
    intro x0 x1 x3 σ H locs ls hl hw hf
    unfold f_X4_join_b264 at hf
    refine lv_iload_n hx hb dX4_join_264 rfl (lv_at hl 0 rfl) ?_
    refine lv_bipush (v := (45 : Int32)) hx hb dX4_join_265 (by decide) ?_
    refine lv_icmp_ne (tgt := 312) hx hb dX4_join_267 (by decide) (fun h => ?_) (fun h => ?_)
    · have hf := k_ifF h hf
      exact b312 x0 x1 x3 σ _ _ _ (lv_sub hl [0, 1, 2] rfl) hw hf
    · have hf := k_ifT h hf
      refine lv_lload_n hx hb dX4_join_270 rfl (lv_at hl 1 rfl) ?_
      refine lv_lconst (v := (0 : Int64)) hx hb dX4_join_271 (by decide) ?_
      refine W.lcmp hx hb dX4_join_272 ?_
      refine lv_if_eq (tgt := 312) hx hb dX4_join_273 (by decide) (fun h => ?_) (fun h => ?_)
      · have hf := k_ifT h hf
        exact b312 x0 x1 x3 σ _ _ _ (lv_sub hl [0, 1, 2] rfl) hw hf
      · have hf := k_ifF h hf
        refine lv_lload_n hx hb dX4_join_276 rfl (lv_at hl 2 rfl) ?_
        refine lv_lconst (v := (0 : Int64)) hx hb dX4_join_277 (by decide) ?_
        refine W.lcmp hx hb dX4_join_278 ?_
        refine lv_if_ge (tgt := 287) hx hb dX4_join_279 (by decide) (fun h => ?_) (fun h => ?_)
        · have hf := k_ifT h hf
          refine lv_lload_n hx hb dX4_join_287 rfl (lv_at hl 2 rfl) ?_
          exact b288 x0 x1 x3 x3 σ _ _ _ (lv_sub hl [0, 1, 2] rfl) hw hf
        · have hf := k_ifF h hf
          refine lv_lload_n hx hb dX4_join_282 rfl (lv_at hl 2 rfl) ?_
          refine lv_lneg hx hb dX4_join_283 ?_
          refine lv_goto (tgt := 288) hx hb dX4_join_284 (by decide) ?_
          exact b288 x0 x1 x3 (-x3) σ _ _ _ (lv_sub hl [0, 1, 2] rfl) hw hf
  have b263 : ∀ (y0 : Int64) (σ : MSt) (H : Heap) (locs : List Loc) (ls : Array Slot), lv_has ls 7 [] → k_W G w A s.heap σ H locs → f_X4_join_b263 y0 σ = some (r, σ') → W p l e rmX4_join s m [.int p1, .long p2, .long p3].toArray below meth c H locs 0 0 (MQ below (k_Ql G w A r σ') [.int p1, .long p2, .long p3].toArray s 0 0 A) (F0 m 263 ls [.long y0]) := by
    intro y0 σ H locs ls hl hw hf
    unfold f_X4_join_b263 at hf
    exact k_lret C hw hf dX4_join_263
  have b247 : ∀ (y0 : Int64) (σ : MSt) (H : Heap) (locs : List Loc) (ls : Array Slot), lv_has ls 7 [] → k_W G w A s.heap σ H locs → f_X4_join_b247 y0 σ = some (r, σ') → W p l e rmX4_join s m [.int p1, .long p2, .long p3].toArray below meth c H locs 0 0 (MQ below (k_Ql G w A r σ') [.int p1, .long p2, .long p3].toArray s 0 0 A) (F0 m 247 ls [.long y0]) := by
    intro y0 σ H locs ls hl hw hf
    unfold f_X4_join_b247 at hf
    exact k_lret C hw hf dX4_join_247
  have b235 : ∀ (y0 : Int64) (σ : MSt) (H : Heap) (locs : List Loc) (ls : Array Slot), lv_has ls 7 [] → k_W G w A s.heap σ H locs → f_X4_join_b235 y0 σ = some (r, σ') → W p l e rmX4_join s m [.int p1, .long p2, .long p3].toArray below meth c H locs 0 0 (MQ below (k_Ql G w A r σ') [.int p1, .long p2, .long p3].toArray s 0 0 A) (F0 m 235 ls [.long y0]) := by
    intro y0 σ H locs ls hl hw hf
    unfold f_X4_join_b235 at hf
    exact k_lret C hw hf dX4_join_235
  have b223 : ∀ (y0 : Int64) (σ : MSt) (H : Heap) (locs : List Loc) (ls : Array Slot), lv_has ls 7 [] → k_W G w A s.heap σ H locs → f_X4_join_b223 y0 σ = some (r, σ') → W p l e rmX4_join s m [.int p1, .long p2, .long p3].toArray below meth c H locs 0 0 (MQ below (k_Ql G w A r σ') [.int p1, .long p2, .long p3].toArray s 0 0 A) (F0 m 223 ls [.long y0]) := by
    intro y0 σ H locs ls hl hw hf
    unfold f_X4_join_b223 at hf
    exact k_lret C hw hf dX4_join_223
  have b211 : ∀ (y0 : Int64) (σ : MSt) (H : Heap) (locs : List Loc) (ls : Array Slot), lv_has ls 7 [] → k_W G w A s.heap σ H locs → f_X4_join_b211 y0 σ = some (r, σ') → W p l e rmX4_join s m [.int p1, .long p2, .long p3].toArray below meth c H locs 0 0 (MQ below (k_Ql G w A r σ') [.int p1, .long p2, .long p3].toArray s 0 0 A) (F0 m 211 ls [.long y0]) := by
    intro y0 σ H locs ls hl hw hf
    unfold f_X4_join_b211 at hf
    exact k_lret C hw hf dX4_join_211
  have b199 : ∀ (y0 : Int64) (σ : MSt) (H : Heap) (locs : List Loc) (ls : Array Slot), lv_has ls 7 [] → k_W G w A s.heap σ H locs → f_X4_join_b199 y0 σ = some (r, σ') → W p l e rmX4_join s m [.int p1, .long p2, .long p3].toArray below meth c H locs 0 0 (MQ below (k_Ql G w A r σ') [.int p1, .long p2, .long p3].toArray s 0 0 A) (F0 m 199 ls [.long y0]) := by
    intro y0 σ H locs ls hl hw hf
    unfold f_X4_join_b199 at hf
    exact k_lret C hw hf dX4_join_199
  have b187 : ∀ (y0 : Int64) (σ : MSt) (H : Heap) (locs : List Loc) (ls : Array Slot), lv_has ls 7 [] → k_W G w A s.heap σ H locs → f_X4_join_b187 y0 σ = some (r, σ') → W p l e rmX4_join s m [.int p1, .long p2, .long p3].toArray below meth c H locs 0 0 (MQ below (k_Ql G w A r σ') [.int p1, .long p2, .long p3].toArray s 0 0 A) (F0 m 187 ls [.long y0]) := by
    intro y0 σ H locs ls hl hw hf
    unfold f_X4_join_b187 at hf
    exact k_lret C hw hf dX4_join_187
  have b175 : ∀ (y0 : Int64) (σ : MSt) (H : Heap) (locs : List Loc) (ls : Array Slot), lv_has ls 7 [] → k_W G w A s.heap σ H locs → f_X4_join_b175 y0 σ = some (r, σ') → W p l e rmX4_join s m [.int p1, .long p2, .long p3].toArray below meth c H locs 0 0 (MQ below (k_Ql G w A r σ') [.int p1, .long p2, .long p3].toArray s 0 0 A) (F0 m 175 ls [.long y0]) := by
    intro y0 σ H locs ls hl hw hf
    unfold f_X4_join_b175 at hf
    exact k_lret C hw hf dX4_join_175
  have b174 : ∀ (σ : MSt) (H : Heap) (locs : List Loc) (ls : Array Slot), lv_has ls 7 [] → k_W G w A s.heap σ H locs → f_X4_join_b174 σ = some (r, σ') → W p l e rmX4_join s m [.int p1, .long p2, .long p3].toArray below meth c H locs 0 0 (MQ below (k_Ql G w A r σ') [.int p1, .long p2, .long p3].toArray s 0 0 A) (F0 m 174 ls []) := by
    intro σ H locs ls hl hw hf
    unfold f_X4_join_b174 at hf
    refine lv_lconst (v := (0 : Int64)) hx hb dX4_join_174 (by decide) ?_
    exact b175 (0 : Int64) σ _ _ _ (lv_sub hl [] rfl) hw hf
  have b157 : ∀ (y0 : Int64) (σ : MSt) (H : Heap) (locs : List Loc) (ls : Array Slot), lv_has ls 7 [] → k_W G w A s.heap σ H locs → f_X4_join_b157 y0 σ = some (r, σ') → W p l e rmX4_join s m [.int p1, .long p2, .long p3].toArray below meth c H locs 0 0 (MQ below (k_Ql G w A r σ') [.int p1, .long p2, .long p3].toArray s 0 0 A) (F0 m 157 ls [.long y0]) := by
    intro y0 σ H locs ls hl hw hf
    unfold f_X4_join_b157 at hf
    exact k_lret C hw hf dX4_join_157
  have b152 : ∀ (σ : MSt) (H : Heap) (locs : List Loc) (ls : Array Slot), lv_has ls 7 [] → k_W G w A s.heap σ H locs → f_X4_join_b152 σ = some (r, σ') → W p l e rmX4_join s m [.int p1, .long p2, .long p3].toArray below meth c H locs 0 0 (MQ below (k_Ql G w A r σ') [.int p1, .long p2, .long p3].toArray s 0 0 A) (F0 m 152 ls []) := by
    intro σ H locs ls hl hw hf
    unfold f_X4_join_b152 at hf
    refine lv_lconst (v := (1 : Int64)) hx hb dX4_join_152 (by decide) ?_
    refine lv_goto (tgt := 157) hx hb dX4_join_153 (by decide) ?_
    exact b157 (1 : Int64) σ _ _ _ (lv_sub hl [] rfl) hw hf
  unfold f_X4_join at hf
  refine lv_iload_n hx hb dX4_join_0 rfl (lv_at hl 0 rfl) ?_
  by_cases h22 : p1 = (22 : Int32)
  · have hf := k_ifT h22 hf
    refine lv_tableIn (tgt := 140) hx hb dX4_join_1 (by rw [h22]; decide) (by rw [h22]; decide) (by rw [h22]; rfl) (by decide) ?_
    refine lv_lload_n hx hb dX4_join_140 rfl (lv_at hl 1 rfl) ?_
    refine lv_lconst (v := (0 : Int64)) hx hb dX4_join_141 (by decide) ?_
    refine W.lcmp hx hb dX4_join_142 ?_
    refine lv_if_ne (tgt := 152) hx hb dX4_join_143 (by decide) (fun h => ?_) (fun h => ?_)
    · have hf := k_ifF h hf
      exact b152 σ _ _ _ (lv_sub hl [] rfl) hw hf
    · have hf := k_ifT h hf
      refine lv_lload_n hx hb dX4_join_146 rfl (lv_at hl 2 rfl) ?_
      refine lv_lconst (v := (0 : Int64)) hx hb dX4_join_147 (by decide) ?_
      refine W.lcmp hx hb dX4_join_148 ?_
      refine lv_if_eq (tgt := 156) hx hb dX4_join_149 (by decide) (fun h => ?_) (fun h => ?_)
      · have hf := k_ifT h hf
        refine lv_lconst (v := (0 : Int64)) hx hb dX4_join_156 (by decide) ?_
        exact b157 (0 : Int64) σ _ _ _ (lv_sub hl [] rfl) hw hf
      · have hf := k_ifF h hf
        exact b152 σ _ _ _ (lv_sub hl [] rfl) hw hf
  have hf := k_ifF h22 hf
  by_cases h23 : p1 = (23 : Int32)
  · have hf := k_ifT h23 hf
    refine lv_tableIn (tgt := 158) hx hb dX4_join_1 (by rw [h23]; decide) (by rw [h23]; decide) (by rw [h23]; rfl) (by decide) ?_
    refine lv_lload_n hx hb dX4_join_158 rfl (lv_at hl 1 rfl) ?_
    refine lv_lconst (v := (0 : Int64)) hx hb dX4_join_159 (by decide) ?_
    refine W.lcmp hx hb dX4_join_160 ?_
    refine lv_if_eq (tgt := 174) hx hb dX4_join_161 (by decide) (fun h => ?_) (fun h => ?_)
    · have hf := k_ifT h hf
      exact b174 σ _ _ _ (lv_sub hl [] rfl) hw hf
    · have hf := k_ifF h hf
      refine lv_lload_n hx hb dX4_join_164 rfl (lv_at hl 2 rfl) ?_
      refine lv_lconst (v := (0 : Int64)) hx hb dX4_join_165 (by decide) ?_
      refine W.lcmp hx hb dX4_join_166 ?_
      refine lv_if_eq (tgt := 174) hx hb dX4_join_167 (by decide) (fun h => ?_) (fun h => ?_)
      · have hf := k_ifT h hf
        exact b174 σ _ _ _ (lv_sub hl [] rfl) hw hf
      · have hf := k_ifF h hf
        refine lv_lconst (v := (1 : Int64)) hx hb dX4_join_170 (by decide) ?_
        refine lv_goto (tgt := 175) hx hb dX4_join_171 (by decide) ?_
        exact b175 (1 : Int64) σ _ _ _ (lv_sub hl [] rfl) hw hf
  have hf := k_ifF h23 hf
  by_cases h24 : p1 = (24 : Int32)
  · have hf := k_ifT h24 hf
    refine lv_tableIn (tgt := 264) hx hb dX4_join_1 (by rw [h24]; decide) (by rw [h24]; decide) (by rw [h24]; rfl) (by decide) ?_
    exact b264 p1 p2 p3 σ _ _ _ (lv_sub hl [0, 1, 2] rfl) hw hf
  have hf := k_ifF h24 hf
  by_cases h25 : p1 = (25 : Int32)
  · have hf := k_ifT h25 hf
    refine lv_tableIn (tgt := 264) hx hb dX4_join_1 (by rw [h25]; decide) (by rw [h25]; decide) (by rw [h25]; rfl) (by decide) ?_
    exact b264 p1 p2 p3 σ _ _ _ (lv_sub hl [0, 1, 2] rfl) hw hf
  have hf := k_ifF h25 hf
  by_cases h26 : p1 = (26 : Int32)
  · have hf := k_ifT h26 hf
    refine lv_tableIn (tgt := 264) hx hb dX4_join_1 (by rw [h26]; decide) (by rw [h26]; decide) (by rw [h26]; rfl) (by decide) ?_
    exact b264 p1 p2 p3 σ _ _ _ (lv_sub hl [0, 1, 2] rfl) hw hf
  have hf := k_ifF h26 hf
  by_cases h27 : p1 = (27 : Int32)
  · have hf := k_ifT h27 hf
    refine lv_tableIn (tgt := 264) hx hb dX4_join_1 (by rw [h27]; decide) (by rw [h27]; decide) (by rw [h27]; rfl) (by decide) ?_
    exact b264 p1 p2 p3 σ _ _ _ (lv_sub hl [0, 1, 2] rfl) hw hf
  have hf := k_ifF h27 hf
  by_cases h28 : p1 = (28 : Int32)
  · have hf := k_ifT h28 hf
    refine lv_tableIn (tgt := 264) hx hb dX4_join_1 (by rw [h28]; decide) (by rw [h28]; decide) (by rw [h28]; rfl) (by decide) ?_
    exact b264 p1 p2 p3 σ _ _ _ (lv_sub hl [0, 1, 2] rfl) hw hf
  have hf := k_ifF h28 hf
  by_cases h29 : p1 = (29 : Int32)
  · have hf := k_ifT h29 hf
    refine lv_tableIn (tgt := 264) hx hb dX4_join_1 (by rw [h29]; decide) (by rw [h29]; decide) (by rw [h29]; rfl) (by decide) ?_
    exact b264 p1 p2 p3 σ _ _ _ (lv_sub hl [0, 1, 2] rfl) hw hf
  have hf := k_ifF h29 hf
  by_cases h30 : p1 = (30 : Int32)
  · have hf := k_ifT h30 hf
    refine lv_tableIn (tgt := 264) hx hb dX4_join_1 (by rw [h30]; decide) (by rw [h30]; decide) (by rw [h30]; rfl) (by decide) ?_
    exact b264 p1 p2 p3 σ _ _ _ (lv_sub hl [0, 1, 2] rfl) hw hf
  have hf := k_ifF h30 hf
  by_cases h31 : p1 = (31 : Int32)
  · have hf := k_ifT h31 hf
    refine lv_tableIn (tgt := 264) hx hb dX4_join_1 (by rw [h31]; decide) (by rw [h31]; decide) (by rw [h31]; rfl) (by decide) ?_
    exact b264 p1 p2 p3 σ _ _ _ (lv_sub hl [0, 1, 2] rfl) hw hf
  have hf := k_ifF h31 hf
  by_cases h32 : p1 = (32 : Int32)
  · have hf := k_ifT h32 hf
    refine lv_tableIn (tgt := 264) hx hb dX4_join_1 (by rw [h32]; decide) (by rw [h32]; decide) (by rw [h32]; rfl) (by decide) ?_
    exact b264 p1 p2 p3 σ _ _ _ (lv_sub hl [0, 1, 2] rfl) hw hf
  have hf := k_ifF h32 hf
  by_cases h33 : p1 = (33 : Int32)
  · have hf := k_ifT h33 hf
    refine lv_tableIn (tgt := 264) hx hb dX4_join_1 (by rw [h33]; decide) (by rw [h33]; decide) (by rw [h33]; rfl) (by decide) ?_
    exact b264 p1 p2 p3 σ _ _ _ (lv_sub hl [0, 1, 2] rfl) hw hf
  have hf := k_ifF h33 hf
  by_cases h34 : p1 = (34 : Int32)
  · have hf := k_ifT h34 hf
    refine lv_tableIn (tgt := 264) hx hb dX4_join_1 (by rw [h34]; decide) (by rw [h34]; decide) (by rw [h34]; rfl) (by decide) ?_
    exact b264 p1 p2 p3 σ _ _ _ (lv_sub hl [0, 1, 2] rfl) hw hf
  have hf := k_ifF h34 hf
  by_cases h35 : p1 = (35 : Int32)
  · have hf := k_ifT h35 hf
    refine lv_tableIn (tgt := 264) hx hb dX4_join_1 (by rw [h35]; decide) (by rw [h35]; decide) (by rw [h35]; rfl) (by decide) ?_
    exact b264 p1 p2 p3 σ _ _ _ (lv_sub hl [0, 1, 2] rfl) hw hf
  have hf := k_ifF h35 hf
  by_cases h36 : p1 = (36 : Int32)
  · have hf := k_ifT h36 hf
    refine lv_tableIn (tgt := 264) hx hb dX4_join_1 (by rw [h36]; decide) (by rw [h36]; decide) (by rw [h36]; rfl) (by decide) ?_
    exact b264 p1 p2 p3 σ _ _ _ (lv_sub hl [0, 1, 2] rfl) hw hf
  have hf := k_ifF h36 hf
  by_cases h37 : p1 = (37 : Int32)
  · have hf := k_ifT h37 hf
    refine lv_tableIn (tgt := 264) hx hb dX4_join_1 (by rw [h37]; decide) (by rw [h37]; decide) (by rw [h37]; rfl) (by decide) ?_
    exact b264 p1 p2 p3 σ _ _ _ (lv_sub hl [0, 1, 2] rfl) hw hf
  have hf := k_ifF h37 hf
  by_cases h38 : p1 = (38 : Int32)
  · have hf := k_ifT h38 hf
    refine lv_tableIn (tgt := 264) hx hb dX4_join_1 (by rw [h38]; decide) (by rw [h38]; decide) (by rw [h38]; rfl) (by decide) ?_
    exact b264 p1 p2 p3 σ _ _ _ (lv_sub hl [0, 1, 2] rfl) hw hf
  have hf := k_ifF h38 hf
  by_cases h39 : p1 = (39 : Int32)
  · have hf := k_ifT h39 hf
    refine lv_tableIn (tgt := 264) hx hb dX4_join_1 (by rw [h39]; decide) (by rw [h39]; decide) (by rw [h39]; rfl) (by decide) ?_
    exact b264 p1 p2 p3 σ _ _ _ (lv_sub hl [0, 1, 2] rfl) hw hf
  have hf := k_ifF h39 hf
  by_cases h40 : p1 = (40 : Int32)
  · have hf := k_ifT h40 hf
    refine lv_tableIn (tgt := 264) hx hb dX4_join_1 (by rw [h40]; decide) (by rw [h40]; decide) (by rw [h40]; rfl) (by decide) ?_
    exact b264 p1 p2 p3 σ _ _ _ (lv_sub hl [0, 1, 2] rfl) hw hf
  have hf := k_ifF h40 hf
  by_cases h41 : p1 = (41 : Int32)
  · have hf := k_ifT h41 hf
    refine lv_tableIn (tgt := 264) hx hb dX4_join_1 (by rw [h41]; decide) (by rw [h41]; decide) (by rw [h41]; rfl) (by decide) ?_
    exact b264 p1 p2 p3 σ _ _ _ (lv_sub hl [0, 1, 2] rfl) hw hf
  have hf := k_ifF h41 hf
  by_cases h42 : p1 = (42 : Int32)
  · have hf := k_ifT h42 hf
    refine lv_tableIn (tgt := 264) hx hb dX4_join_1 (by rw [h42]; decide) (by rw [h42]; decide) (by rw [h42]; rfl) (by decide) ?_
    exact b264 p1 p2 p3 σ _ _ _ (lv_sub hl [0, 1, 2] rfl) hw hf
  have hf := k_ifF h42 hf
  by_cases h43 : p1 = (43 : Int32)
  · have hf := k_ifT h43 hf
    refine lv_tableIn (tgt := 264) hx hb dX4_join_1 (by rw [h43]; decide) (by rw [h43]; decide) (by rw [h43]; rfl) (by decide) ?_
    exact b264 p1 p2 p3 σ _ _ _ (lv_sub hl [0, 1, 2] rfl) hw hf
  have hf := k_ifF h43 hf
  by_cases h44 : p1 = (44 : Int32)
  · have hf := k_ifT h44 hf
    refine lv_tableIn (tgt := 264) hx hb dX4_join_1 (by rw [h44]; decide) (by rw [h44]; decide) (by rw [h44]; rfl) (by decide) ?_
    exact b264 p1 p2 p3 σ _ _ _ (lv_sub hl [0, 1, 2] rfl) hw hf
  have hf := k_ifF h44 hf
  by_cases h45 : p1 = (45 : Int32)
  · have hf := k_ifT h45 hf
    refine lv_tableIn (tgt := 264) hx hb dX4_join_1 (by rw [h45]; decide) (by rw [h45]; decide) (by rw [h45]; rfl) (by decide) ?_
    exact b264 p1 p2 p3 σ _ _ _ (lv_sub hl [0, 1, 2] rfl) hw hf
  have hf := k_ifF h45 hf
  by_cases h46 : p1 = (46 : Int32)
  · have hf := k_ifT h46 hf
    refine lv_tableIn (tgt := 248) hx hb dX4_join_1 (by rw [h46]; decide) (by rw [h46]; decide) (by rw [h46]; rfl) (by decide) ?_
    refine lv_lload_n hx hb dX4_join_248 rfl (lv_at hl 2 rfl) ?_
    refine lv_lconst (v := (0 : Int64)) hx hb dX4_join_249 (by decide) ?_
    refine W.lcmp hx hb dX4_join_250 ?_
    refine lv_if_ne (tgt := 260) hx hb dX4_join_251 (by decide) (fun h => ?_) (fun h => ?_)
    · have hf := k_ifF h hf
      refine lv_lload_n hx hb dX4_join_260 rfl (lv_at hl 1 rfl) ?_
      refine lv_lload_n hx hb dX4_join_261 rfl (lv_at hl 2 rfl) ?_
      obtain ⟨hz, hf⟩ := k_ckE hf
      refine lv_ldiv hx hb dX4_join_262 (k_nzlE hz) ?_
      exact b263 (p2 / p3) σ _ _ _ (lv_sub hl [] rfl) hw hf
    · have hf := k_ifT h hf
      refine lv_ldc2 (v := (-9223372036854775808 : Int64)) hx hb hown (hks.ts _ ck4_41) dX4_join_254 ?_
      refine lv_goto (tgt := 263) hx hb dX4_join_257 (by decide) ?_
      exact b263 (-9223372036854775808 : Int64) σ _ _ _ (lv_sub hl [] rfl) hw hf
  have hf := k_ifF h46 hf
  by_cases h47 : p1 = (47 : Int32)
  · have hf := k_ifT h47 hf
    refine lv_tableIn (tgt := 176) hx hb dX4_join_1 (by rw [h47]; decide) (by rw [h47]; decide) (by rw [h47]; rfl) (by decide) ?_
    refine lv_lload_n hx hb dX4_join_176 rfl (lv_at hl 1 rfl) ?_
    refine lv_lload_n hx hb dX4_join_177 rfl (lv_at hl 2 rfl) ?_
    refine W.lcmp hx hb dX4_join_178 ?_
    refine lv_if_ge (tgt := 186) hx hb dX4_join_179 (by decide) (fun h => ?_) (fun h => ?_)
    · have hf := k_ifT h hf
      refine lv_lconst (v := (0 : Int64)) hx hb dX4_join_186 (by decide) ?_
      exact b187 (0 : Int64) σ _ _ _ (lv_sub hl [] rfl) hw hf
    · have hf := k_ifF h hf
      refine lv_lconst (v := (1 : Int64)) hx hb dX4_join_182 (by decide) ?_
      refine lv_goto (tgt := 187) hx hb dX4_join_183 (by decide) ?_
      exact b187 (1 : Int64) σ _ _ _ (lv_sub hl [] rfl) hw hf
  have hf := k_ifF h47 hf
  by_cases h48 : p1 = (48 : Int32)
  · have hf := k_ifT h48 hf
    refine lv_tableIn (tgt := 188) hx hb dX4_join_1 (by rw [h48]; decide) (by rw [h48]; decide) (by rw [h48]; rfl) (by decide) ?_
    refine lv_lload_n hx hb dX4_join_188 rfl (lv_at hl 1 rfl) ?_
    refine lv_lload_n hx hb dX4_join_189 rfl (lv_at hl 2 rfl) ?_
    refine W.lcmp hx hb dX4_join_190 ?_
    refine lv_if_gt (tgt := 198) hx hb dX4_join_191 (by decide) (fun h => ?_) (fun h => ?_)
    · have hf := k_ifT h hf
      refine lv_lconst (v := (0 : Int64)) hx hb dX4_join_198 (by decide) ?_
      exact b199 (0 : Int64) σ _ _ _ (lv_sub hl [] rfl) hw hf
    · have hf := k_ifF h hf
      refine lv_lconst (v := (1 : Int64)) hx hb dX4_join_194 (by decide) ?_
      refine lv_goto (tgt := 199) hx hb dX4_join_195 (by decide) ?_
      exact b199 (1 : Int64) σ _ _ _ (lv_sub hl [] rfl) hw hf
  have hf := k_ifF h48 hf
  by_cases h49 : p1 = (49 : Int32)
  · have hf := k_ifT h49 hf
    refine lv_tableIn (tgt := 200) hx hb dX4_join_1 (by rw [h49]; decide) (by rw [h49]; decide) (by rw [h49]; rfl) (by decide) ?_
    refine lv_lload_n hx hb dX4_join_200 rfl (lv_at hl 1 rfl) ?_
    refine lv_lload_n hx hb dX4_join_201 rfl (lv_at hl 2 rfl) ?_
    refine W.lcmp hx hb dX4_join_202 ?_
    refine lv_if_ne (tgt := 210) hx hb dX4_join_203 (by decide) (fun h => ?_) (fun h => ?_)
    · have hf := k_ifF h hf
      refine lv_lconst (v := (0 : Int64)) hx hb dX4_join_210 (by decide) ?_
      exact b211 (0 : Int64) σ _ _ _ (lv_sub hl [] rfl) hw hf
    · have hf := k_ifT h hf
      refine lv_lconst (v := (1 : Int64)) hx hb dX4_join_206 (by decide) ?_
      refine lv_goto (tgt := 211) hx hb dX4_join_207 (by decide) ?_
      exact b211 (1 : Int64) σ _ _ _ (lv_sub hl [] rfl) hw hf
  have hf := k_ifF h49 hf
  by_cases h50 : p1 = (50 : Int32)
  · have hf := k_ifT h50 hf
    refine lv_tableIn (tgt := 212) hx hb dX4_join_1 (by rw [h50]; decide) (by rw [h50]; decide) (by rw [h50]; rfl) (by decide) ?_
    refine lv_lload_n hx hb dX4_join_212 rfl (lv_at hl 1 rfl) ?_
    refine lv_lload_n hx hb dX4_join_213 rfl (lv_at hl 2 rfl) ?_
    refine W.lcmp hx hb dX4_join_214 ?_
    refine lv_if_eq (tgt := 222) hx hb dX4_join_215 (by decide) (fun h => ?_) (fun h => ?_)
    · have hf := k_ifT h hf
      refine lv_lconst (v := (0 : Int64)) hx hb dX4_join_222 (by decide) ?_
      exact b223 (0 : Int64) σ _ _ _ (lv_sub hl [] rfl) hw hf
    · have hf := k_ifF h hf
      refine lv_lconst (v := (1 : Int64)) hx hb dX4_join_218 (by decide) ?_
      refine lv_goto (tgt := 223) hx hb dX4_join_219 (by decide) ?_
      exact b223 (1 : Int64) σ _ _ _ (lv_sub hl [] rfl) hw hf
  have hf := k_ifF h50 hf
  by_cases h51 : p1 = (51 : Int32)
  · have hf := k_ifT h51 hf
    refine lv_tableIn (tgt := 224) hx hb dX4_join_1 (by rw [h51]; decide) (by rw [h51]; decide) (by rw [h51]; rfl) (by decide) ?_
    refine lv_lload_n hx hb dX4_join_224 rfl (lv_at hl 1 rfl) ?_
    refine lv_lload_n hx hb dX4_join_225 rfl (lv_at hl 2 rfl) ?_
    refine W.lcmp hx hb dX4_join_226 ?_
    refine lv_if_lt (tgt := 234) hx hb dX4_join_227 (by decide) (fun h => ?_) (fun h => ?_)
    · have hf := k_ifT h hf
      refine lv_lconst (v := (0 : Int64)) hx hb dX4_join_234 (by decide) ?_
      exact b235 (0 : Int64) σ _ _ _ (lv_sub hl [] rfl) hw hf
    · have hf := k_ifF h hf
      refine lv_lconst (v := (1 : Int64)) hx hb dX4_join_230 (by decide) ?_
      refine lv_goto (tgt := 235) hx hb dX4_join_231 (by decide) ?_
      exact b235 (1 : Int64) σ _ _ _ (lv_sub hl [] rfl) hw hf
  have hf := k_ifF h51 hf
  by_cases h52 : p1 = (52 : Int32)
  · have hf := k_ifT h52 hf
    refine lv_tableIn (tgt := 236) hx hb dX4_join_1 (by rw [h52]; decide) (by rw [h52]; decide) (by rw [h52]; rfl) (by decide) ?_
    refine lv_lload_n hx hb dX4_join_236 rfl (lv_at hl 1 rfl) ?_
    refine lv_lload_n hx hb dX4_join_237 rfl (lv_at hl 2 rfl) ?_
    refine W.lcmp hx hb dX4_join_238 ?_
    refine lv_if_le (tgt := 246) hx hb dX4_join_239 (by decide) (fun h => ?_) (fun h => ?_)
    · have hf := k_ifT h hf
      refine lv_lconst (v := (0 : Int64)) hx hb dX4_join_246 (by decide) ?_
      exact b247 (0 : Int64) σ _ _ _ (lv_sub hl [] rfl) hw hf
    · have hf := k_ifF h hf
      refine lv_lconst (v := (1 : Int64)) hx hb dX4_join_242 (by decide) ?_
      refine lv_goto (tgt := 247) hx hb dX4_join_243 (by decide) ?_
      exact b247 (1 : Int64) σ _ _ _ (lv_sub hl [] rfl) hw hf
  have hf := k_ifF h52 hf
  refine lv_tableOut (tgt := 264) hx hb dX4_join_1 (k_tout (fun k q1 q2 q3 => ?_)) (by decide) ?_
  · have q4 : p1 = Int32.ofInt k := by rw [← q3, Int32.ofInt_toInt]
    have q5 : k = 22 ∨ k = 23 ∨ k = 24 ∨ k = 25 ∨ k = 26 ∨ k = 27 ∨ k = 28 ∨ k = 29 ∨ k = 30 ∨ k = 31 ∨ k = 32 ∨ k = 33 ∨ k = 34 ∨ k = 35 ∨ k = 36 ∨ k = 37 ∨ k = 38 ∨ k = 39 ∨ k = 40 ∨ k = 41 ∨ k = 42 ∨ k = 43 ∨ k = 44 ∨ k = 45 ∨ k = 46 ∨ k = 47 ∨ k = 48 ∨ k = 49 ∨ k = 50 ∨ k = 51 ∨ k = 52 := by omega
    rcases q5 with rfl | rfl | rfl | rfl | rfl | rfl | rfl | rfl | rfl | rfl | rfl | rfl | rfl | rfl | rfl | rfl | rfl | rfl | rfl | rfl | rfl | rfl | rfl | rfl | rfl | rfl | rfl | rfl | rfl | rfl | rfl
    · exact h22 q4
    · exact h23 q4
    · exact h24 q4
    · exact h25 q4
    · exact h26 q4
    · exact h27 q4
    · exact h28 q4
    · exact h29 q4
    · exact h30 q4
    · exact h31 q4
    · exact h32 q4
    · exact h33 q4
    · exact h34 q4
    · exact h35 q4
    · exact h36 q4
    · exact h37 q4
    · exact h38 q4
    · exact h39 q4
    · exact h40 q4
    · exact h41 q4
    · exact h42 q4
    · exact h43 q4
    · exact h44 q4
    · exact h45 q4
    · exact h46 q4
    · exact h47 q4
    · exact h48 q4
    · exact h49 q4
    · exact h50 q4
    · exact h51 q4
    · exact h52 q4
  exact b264 p1 p2 p3 σ _ _ _ (lv_sub hl [0, 1, 2] rfl) hw hf
def f_X4_worth_b226 (o : Nat) (o2 : Nat)  (σ : MSt) : Option (Int64 × MSt) :=
  k_ck (k_inb (0 : Int32) 64) <|
  some ((σ.2 (o + 5) ((0 : Int32)).toNatClampNeg), σ)
def f_X4_worth_b220 (o : Nat) (o2 : Nat) (r38 : Int32 → Int32 → Int32 → MSt → Option (Int64 × MSt)) (x1 : Int32) (x3 : Int32) (x4 : Int32) (σ : MSt) : Option (Int64 × MSt) :=
  k_nm (x4 + (1 : Int32)) fun u1 =>
  r38 x1 x3 u1 σ
def f_X4_worth_b166 (o : Nat) (o2 : Nat) (r38 : Int32 → Int32 → Int32 → MSt → Option (Int64 × MSt)) (x1 : Int32) (x3 : Int32) (x4 : Int32) (x5 : Int32) (σ : MSt) : Option (Int64 × MSt) :=
  if x3 ≤ (1 : Int32) then
  (f_X4_worth_b220 o o2 r38 x1 x3 x4 σ)
  else
  (k_nm (x3 + (-1 : Int32)) fun u1 =>
  k_ck (k_inb (u1 - (1 : Int32)) 64) <|
  k_ck (k_inb u1 64) <|
  k_bl (f_X4_join x5 (σ.2 (o + 5) ((u1 - (1 : Int32))).toNatClampNeg) (σ.2 (o + 5) (u1).toNatClampNeg) σ) fun q3 σ2 =>
  k_ck (k_inb (u1 - (1 : Int32)) 64) <|
  k_nm (mJ σ2 (o + 5) ((u1 - (1 : Int32))).toNatClampNeg q3) fun σ4 =>
  k_ck (k_inb (u1 - (1 : Int32)) 64) <|
  if (lg_cmp (σ4.2 (o + 5) ((u1 - (1 : Int32))).toNatClampNeg) (-9223372036854775808 : Int64)) = 0 then
  (some ((-9223372036854775808 : Int64), σ4))
  else
  (f_X4_worth_b220 o o2 r38 x1 u1 x4 σ4))
def f_X4_worth_b159 (o : Nat) (o2 : Nat) (r38 : Int32 → Int32 → Int32 → MSt → Option (Int64 × MSt)) (x1 : Int32) (x3 : Int32) (x4 : Int32) (y1 : Int32) (y2 : Int64) (σ : MSt) : Option (Int64 × MSt) :=
  k_ck (k_inb y1 64) <|
  k_nm (mJ σ (o + 5) (y1).toNatClampNeg y2) fun σ1 =>
  k_nm (x3 + (1 : Int32)) fun u2 =>
  f_X4_worth_b220 o o2 r38 x1 u2 x4 σ1
def f_X4_worth_b125 (o : Nat) (o2 : Nat) (r38 : Int32 → Int32 → Int32 → MSt → Option (Int64 × MSt)) (x1 : Int32) (x3 : Int32) (x4 : Int32) (x5 : Int32) (σ : MSt) : Option (Int64 × MSt) :=
  if (64 : Int32) ≤ x3 then
  (f_X4_worth_b220 o o2 r38 x1 x3 x4 σ)
  else
  (if x5 = (3 : Int32) then
  (k_ck (k_inb x4 64) <|
  f_X4_worth_b159 o o2 r38 x1 x3 x4 x3 (((σ.1 (o + 2) (x4).toNatClampNeg)).toInt64) σ)
  else
  (k_bl (f_X8_valueOf o2 x5 σ) fun q2 σ1 =>
  f_X4_worth_b159 o o2 r38 x1 x3 x4 x3 q2 σ1))
def f_X4_worth_b105 (o : Nat) (o2 : Nat) (r38 : Int32 → Int32 → Int32 → MSt → Option (Int64 × MSt)) (x1 : Int32) (x3 : Int32) (x4 : Int32) (x5 : Int32) (σ : MSt) : Option (Int64 × MSt) :=
  if x5 = (3 : Int32) then
  (f_X4_worth_b125 o o2 r38 x1 x3 x4 x5 σ)
  else
  (if x5 < (25 : Int32) then
  (f_X4_worth_b166 o o2 r38 x1 x3 x4 x5 σ)
  else
  (if (31 : Int32) < x5 then
  (f_X4_worth_b166 o o2 r38 x1 x3 x4 x5 σ)
  else
  (f_X4_worth_b125 o o2 r38 x1 x3 x4 x5 σ)))
def f_X4_worth_b101 (o : Nat) (o2 : Nat) (r38 : Int32 → Int32 → Int32 → MSt → Option (Int64 × MSt)) (x1 : Int32) (x3 : Int32) (x4 : Int32) (y1 : Int32) (y2 : Int64) (σ : MSt) : Option (Int64 × MSt) :=
  k_ck (k_inb y1 64) <|
  k_nm (mJ σ (o + 5) (y1).toNatClampNeg y2) fun σ1 =>
  f_X4_worth_b220 o o2 r38 x1 x3 x4 σ1
def f_X4_worth_b38_s (o : Nat) (o2 : Nat) (r38 : Int32 → Int32 → Int32 → MSt → Option (Int64 × MSt)) (x1 : Int32) (x3 : Int32) (x4 : Int32) (σ : MSt) : Option (Int64 × MSt) :=
  k_ck (k_inb x1 3) <|
  if (σ.1 (o + 4) (x1).toNatClampNeg) ≤ x4 then
  (f_X4_worth_b226 o o2 σ)
  else
  (if (64 : Int32) ≤ x4 then
  (f_X4_worth_b226 o o2 σ)
  else
  (k_ck (k_inb x4 64) <|
  k_nm (σ.1 (o + 1) (x4).toNatClampNeg) fun u1 =>
  if u1 = (24 : Int32) then
  (if x3 ≤ 0 then
  (f_X4_worth_b105 o o2 r38 x1 x3 x4 u1 σ)
  else
  (k_ck (k_inb (x3 - (1 : Int32)) 64) <|
  if (lg_cmp (σ.2 (o + 5) ((x3 - (1 : Int32))).toNatClampNeg) (0 : Int64)) = 0 then
  (f_X4_worth_b101 o o2 r38 x1 x3 x4 (x3 - (1 : Int32)) (1 : Int64) σ)
  else
  (f_X4_worth_b101 o o2 r38 x1 x3 x4 (x3 - (1 : Int32)) (0 : Int64) σ)))
  else
  (f_X4_worth_b105 o o2 r38 x1 x3 x4 u1 σ)))
def f_X4_worth_b38 (o : Nat) (o2 : Nat) : Nat → Int32 → Int32 → Int32 → MSt → Option (Int64 × MSt)
  | 0 => fun _ _ _ _ => none
  | n + 1 => f_X4_worth_b38_s o o2 (f_X4_worth_b38 o o2 n)
def f_X4_worth_b24 (o : Nat) (o2 : Nat)  (σ : MSt) : Option (Int64 × MSt) :=
  some ((-9223372036854775808 : Int64), σ)
def f_X4_worth (o : Nat) (o2 : Nat) (p1 : Int32) (σ : MSt) : Option (Int64 × MSt) :=
  if p1 < 0 then
  (f_X4_worth_b24 o o2 σ)
  else
  (if (3 : Int32) ≤ p1 then
  (f_X4_worth_b24 o o2 σ)
  else
  (k_ck (k_inb p1 3) <|
  k_ck (k_inb p1 3) <|
  if (σ.1 (o + 3) (p1).toNatClampNeg) < (σ.1 (o + 4) (p1).toNatClampNeg) then
  (k_ck (k_inb p1 3) <|
  k_nm (σ.1 (o + 3) (p1).toNatClampNeg) fun u1 =>
  f_X4_worth_b38 o o2 FU p1 (0 : Int32) u1 σ)
  else
  (f_X4_worth_b24 o o2 σ)))
def rmX4_worth : Room := { frames := 1, cells := 0, slots := 0, locals := 26 }
set_option maxHeartbeats 4000000 in
set_option maxRecDepth 100000 in
theorem c_X4_worth (l : Launch) (G : va_G) (Y : CY) (w : MSt → va_W) (ad : Nat → Nat) (o : Nat) (o2 : Nat) (Lo : LayX4 ad w Y o) (L2 : LayX8 ad w Y o2) (p1 : Int32) (σ : MSt) (r : Int64) (σ' : MSt) (hf : f_X4_worth o o2 p1 σ = some (r, σ')) : k_Ml l yX4_worth wsX4_worth rmX4_worth G Y w [.ref (ad o), .int p1, .ref (ad o2)] σ r σ' := by
  refine k_ofl (own := RX4) (cc := cX4_worth) (maxL := 6) (some .long) (by decide) rfl rfl (Nat.le_of_ble_eq_true rfl) ?_
  intro p e s m below meth c A C ls hl hw
  have hx := C.1
  have hb := C.2.1
  have hown := C.2.2.2.2.1
  have hts := C.2.2.2.2.2.1
  have hks := C.2.2.2.2.2.2.1
  have hl : lv_has ls 6 [(0, .ref (ad o)), (1, .int p1), (2, .ref (ad o2))] := hl
  have b226 : ∀ (σ : MSt) (H : Heap) (locs : List Loc) (ls : Array Slot), lv_has ls 6 [(0, .ref (ad o))] → k_W G w A s.heap σ H locs → f_X4_worth_b226 o o2 σ = some (r, σ') → W p l e rmX4_worth s m [.ref (ad o), .int p1, .ref (ad o2)].toArray below meth c H locs 0 0 (MQ below (k_Ql G w A r σ') [.ref (ad o), .int p1, .ref (ad o2)].toArray s 0 0 A) (F0 m 226 ls []) := by
    intro σ H locs ls hl hw hf
    unfold f_X4_worth_b226 at hf
    refine lv_aload_n hx hb dX4_worth_226 rfl (lv_at hl 0 rfl) ?_
    refine k_get C hw (LX4_o Lo) (ci := 4) rfl k_in4 4 (by decide) lk4_24 (v := .ref (ad (o + 5))) rfl dX4_worth_227 ?_
    refine lv_iconst (v := (0 : Int32)) hx hb dX4_worth_230 (by decide) ?_
    obtain ⟨hi, hf⟩ := k_ckE hf
    refine k_lald C hw (LX4_5 Lo) hi dX4_worth_231 ?_
    exact k_lret C hw hf dX4_worth_232
  have b38 : ∀ (n38 : Nat) (x1 : Int32) (x3 : Int32) (x4 : Int32) (σ : MSt) (H : Heap) (locs : List Loc) (ls : Array Slot), lv_has ls 6 [(0, .ref (ad o)), (1, .int x1), (2, .ref (ad o2)), (3, .int x3), (4, .int x4)] → k_W G w A s.heap σ H locs → f_X4_worth_b38 o o2 n38 x1 x3 x4 σ = some (r, σ') → W p l e rmX4_worth s m [.ref (ad o), .int p1, .ref (ad o2)].toArray below meth c H locs 0 0 (MQ below (k_Ql G w A r σ') [.ref (ad o), .int p1, .ref (ad o2)].toArray s 0 0 A) (F0 m 38 ls []) := by
    intro n38
    induction n38 with
    | zero =>
      intro x1 x3 x4 σ H locs ls hl hw hf
      have hf : (none : Option (Int64 × MSt)) = some (r, σ') := hf
      cases hf
    | succ n38 ih38 =>
      have b220 : ∀ (x1 : Int32) (x3 : Int32) (x4 : Int32) (σ : MSt) (H : Heap) (locs : List Loc) (ls : Array Slot), lv_has ls 6 [(0, .ref (ad o)), (1, .int x1), (2, .ref (ad o2)), (3, .int x3), (4, .int x4)] → k_W G w A s.heap σ H locs → f_X4_worth_b220 o o2 (f_X4_worth_b38 o o2 n38) x1 x3 x4 σ = some (r, σ') → W p l e rmX4_worth s m [.ref (ad o), .int p1, .ref (ad o2)].toArray below meth c H locs 0 0 (MQ below (k_Ql G w A r σ') [.ref (ad o), .int p1, .ref (ad o2)].toArray s 0 0 A) (F0 m 220 ls []) := by
        intro x1 x3 x4 σ H locs ls hl hw hf
        unfold f_X4_worth_b220 at hf
        obtain ⟨u1, ex⟩ : ∃ y : Int32, y = (x4 + (1 : Int32)) := ⟨_, rfl⟩
        have hf := k_nmE ex hf
        refine lv_iinc (v := u1) (lv' := [(4, .int u1), (0, .ref (ad o)), (1, .int x1), (2, .ref (ad o2)), (3, .int x3)]) hx hb dX4_worth_220 hl (k := 4) rfl (by rw [ex]; rfl) (by decide) rfl (fun ls hl => ?_)
        refine lv_goto (tgt := 38) hx hb dX4_worth_223 (by decide) ?_
        exact ih38 x1 x3 u1 σ _ _ _ (lv_sub hl [1, 2, 3, 4, 0] rfl) hw hf
      have b166 : ∀ (x1 : Int32) (x3 : Int32) (x4 : Int32) (x5 : Int32) (σ : MSt) (H : Heap) (locs : List Loc) (ls : Array Slot), lv_has ls 6 [(0, .ref (ad o)), (1, .int x1), (2, .ref (ad o2)), (3, .int x3), (4, .int x4), (5, .int x5)] → k_W G w A s.heap σ H locs → f_X4_worth_b166 o o2 (f_X4_worth_b38 o o2 n38) x1 x3 x4 x5 σ = some (r, σ') → W p l e rmX4_worth s m [.ref (ad o), .int p1, .ref (ad o2)].toArray below meth c H locs 0 0 (MQ below (k_Ql G w A r σ') [.ref (ad o), .int p1, .ref (ad o2)].toArray s 0 0 A) (F0 m 166 ls []) := by
        intro x1 x3 x4 x5 σ H locs ls hl hw hf
        unfold f_X4_worth_b166 at hf
        refine lv_iload_n hx hb dX4_worth_166 rfl (lv_at hl 3 rfl) ?_
        refine lv_iconst (v := (1 : Int32)) hx hb dX4_worth_167 (by decide) ?_
        refine lv_icmp_le (tgt := 220) hx hb dX4_worth_168 (by decide) (fun h => ?_) (fun h => ?_)
        · have hf := k_ifT h hf
          exact b220 x1 x3 x4 σ _ _ _ (lv_sub hl [0, 1, 2, 3, 4] rfl) hw hf
        · have hf := k_ifF h hf
          obtain ⟨u1, ex⟩ : ∃ y : Int32, y = (x3 + (-1 : Int32)) := ⟨_, rfl⟩
          have hf := k_nmE ex hf
          refine lv_iinc (v := u1) (lv' := [(3, .int u1), (0, .ref (ad o)), (1, .int x1), (2, .ref (ad o2)), (4, .int x4), (5, .int x5)]) hx hb dX4_worth_171 hl (k := 3) rfl (by rw [ex]; rfl) (by decide) rfl (fun ls hl => ?_)
          refine lv_aload_n hx hb dX4_worth_174 rfl (lv_at hl 1 rfl) ?_
          refine k_get C hw (LX4_o Lo) (ci := 4) rfl k_in4 4 (by decide) lk4_24 (v := .ref (ad (o + 5))) rfl dX4_worth_175 ?_
          refine lv_iload_n hx hb dX4_worth_178 rfl (lv_at hl 0 rfl) ?_
          refine lv_iconst (v := (1 : Int32)) hx hb dX4_worth_179 (by decide) ?_
          refine lv_isub hx hb dX4_worth_180 ?_
          refine lv_iload hx hb dX4_worth_181 (lv_at hl 5 rfl) ?_
          refine lv_aload_n hx hb dX4_worth_183 rfl (lv_at hl 1 rfl) ?_
          refine k_get C hw (LX4_o Lo) (ci := 4) rfl k_in4 4 (by decide) lk4_24 (v := .ref (ad (o + 5))) rfl dX4_worth_184 ?_
          refine lv_iload_n hx hb dX4_worth_187 rfl (lv_at hl 0 rfl) ?_
          refine lv_iconst (v := (1 : Int32)) hx hb dX4_worth_188 (by decide) ?_
          refine lv_isub hx hb dX4_worth_189 ?_
          obtain ⟨hi, hf⟩ := k_ckE hf
          refine k_lald C hw (LX4_5 Lo) hi dX4_worth_190 ?_
          refine lv_aload_n hx hb dX4_worth_191 rfl (lv_at hl 1 rfl) ?_
          refine k_get C hw (LX4_o Lo) (ci := 4) rfl k_in4 4 (by decide) lk4_24 (v := .ref (ad (o + 5))) rfl dX4_worth_192 ?_
          refine lv_iload_n hx hb dX4_worth_195 rfl (lv_at hl 0 rfl) ?_
          obtain ⟨hi, hf⟩ := k_ckE hf
          refine k_lald C hw (LX4_5 Lo) hi dX4_worth_196 ?_
          obtain ⟨q3, σ2, hq, hf⟩ := k_blE hf
          refine k_callSl C hw (c_X4_join l G Y w ad x5 (σ.2 (o + 5) ((u1 - (1 : Int32))).toNatClampNeg) (σ.2 (o + 5) (u1).toNatClampNeg) σ q3 σ2 hq) (va_cwS 3 hts gX4_worth_X4_join rfl rfl rfl (by decide +kernel) ⟨Nat.le_of_ble_eq_true rfl, Nat.le_of_ble_eq_true rfl⟩) rfl hl.1 rfl (Nat.le_of_ble_eq_true rfl) dX4_worth_197 (fun H locs hw => ?_)
          obtain ⟨hi, hf⟩ := k_ckE hf
          refine k_last C hw (LX4_5 Lo) hi dX4_worth_200 (fun σ4 eq H locs hw => ?_)
          have hf := k_nmE eq hf
          refine lv_aload_n hx hb dX4_worth_201 rfl (lv_at hl 1 rfl) ?_
          refine k_get C hw (LX4_o Lo) (ci := 4) rfl k_in4 4 (by decide) lk4_24 (v := .ref (ad (o + 5))) rfl dX4_worth_202 ?_
          refine lv_iload_n hx hb dX4_worth_205 rfl (lv_at hl 0 rfl) ?_
          refine lv_iconst (v := (1 : Int32)) hx hb dX4_worth_206 (by decide) ?_
          refine lv_isub hx hb dX4_worth_207 ?_
          obtain ⟨hi, hf⟩ := k_ckE hf
          refine k_lald C hw (LX4_5 Lo) hi dX4_worth_208 ?_
          refine lv_ldc2 (v := (-9223372036854775808 : Int64)) hx hb hown (hks.ts _ ck4_41) dX4_worth_209 ?_
          refine W.lcmp hx hb dX4_worth_212 ?_
          refine lv_if_ne (tgt := 220) hx hb dX4_worth_213 (by decide) (fun h => ?_) (fun h => ?_)
          · have hf := k_ifF h hf
            exact b220 x1 u1 x4 σ4 _ _ _ (lv_sub hl [1, 2, 3, 0, 4] rfl) hw hf
          · have hf := k_ifT h hf
            refine lv_ldc2 (v := (-9223372036854775808 : Int64)) hx hb hown (hks.ts _ ck4_41) dX4_worth_216 ?_
            exact k_lret C hw hf dX4_worth_219
      have b159 : ∀ (x1 : Int32) (x3 : Int32) (x4 : Int32) (y1 : Int32) (y2 : Int64) (σ : MSt) (H : Heap) (locs : List Loc) (ls : Array Slot), lv_has ls 6 [(0, .ref (ad o)), (1, .int x1), (2, .ref (ad o2)), (3, .int x3), (4, .int x4)] → k_W G w A s.heap σ H locs → f_X4_worth_b159 o o2 (f_X4_worth_b38 o o2 n38) x1 x3 x4 y1 y2 σ = some (r, σ') → W p l e rmX4_worth s m [.ref (ad o), .int p1, .ref (ad o2)].toArray below meth c H locs 0 0 (MQ below (k_Ql G w A r σ') [.ref (ad o), .int p1, .ref (ad o2)].toArray s 0 0 A) (F0 m 159 ls [.long y2, .int y1, .ref (ad (o + 5))]) := by
        intro x1 x3 x4 y1 y2 σ H locs ls hl hw hf
        unfold f_X4_worth_b159 at hf
        obtain ⟨hi, hf⟩ := k_ckE hf
        refine k_last C hw (LX4_5 Lo) hi dX4_worth_159 (fun σ1 eq H locs hw => ?_)
        have hf := k_nmE eq hf
        obtain ⟨u2, ex⟩ : ∃ y : Int32, y = (x3 + (1 : Int32)) := ⟨_, rfl⟩
        have hf := k_nmE ex hf
        refine lv_iinc (v := u2) (lv' := [(3, .int u2), (0, .ref (ad o)), (1, .int x1), (2, .ref (ad o2)), (4, .int x4)]) hx hb dX4_worth_160 hl (k := 3) rfl (by rw [ex]; rfl) (by decide) rfl (fun ls hl => ?_)
        refine lv_goto (tgt := 220) hx hb dX4_worth_163 (by decide) ?_
        exact b220 x1 u2 x4 σ1 _ _ _ (lv_sub hl [1, 2, 3, 0, 4] rfl) hw hf
      have b125 : ∀ (x1 : Int32) (x3 : Int32) (x4 : Int32) (x5 : Int32) (σ : MSt) (H : Heap) (locs : List Loc) (ls : Array Slot), lv_has ls 6 [(0, .ref (ad o)), (1, .int x1), (2, .ref (ad o2)), (3, .int x3), (4, .int x4), (5, .int x5)] → k_W G w A s.heap σ H locs → f_X4_worth_b125 o o2 (f_X4_worth_b38 o o2 n38) x1 x3 x4 x5 σ = some (r, σ') → W p l e rmX4_worth s m [.ref (ad o), .int p1, .ref (ad o2)].toArray below meth c H locs 0 0 (MQ below (k_Ql G w A r σ') [.ref (ad o), .int p1, .ref (ad o2)].toArray s 0 0 A) (F0 m 125 ls []) := by
        intro x1 x3 x4 x5 σ H locs ls hl hw hf
        unfold f_X4_worth_b125 at hf
        refine lv_iload_n hx hb dX4_worth_125 rfl (lv_at hl 3 rfl) ?_
        refine lv_bipush (v := (64 : Int32)) hx hb dX4_worth_126 (by decide) ?_
        refine lv_icmp_ge (tgt := 220) hx hb dX4_worth_128 (by decide) (fun h => ?_) (fun h => ?_)
        · have hf := k_ifT h hf
          exact b220 x1 x3 x4 σ _ _ _ (lv_sub hl [0, 1, 2, 3, 4] rfl) hw hf
        · have hf := k_ifF h hf
          refine lv_aload_n hx hb dX4_worth_131 rfl (lv_at hl 0 rfl) ?_
          refine k_get C hw (LX4_o Lo) (ci := 4) rfl k_in4 4 (by decide) lk4_24 (v := .ref (ad (o + 5))) rfl dX4_worth_132 ?_
          refine lv_iload_n hx hb dX4_worth_135 rfl (lv_at hl 3 rfl) ?_
          refine lv_iload hx hb dX4_worth_136 (lv_at hl 5 rfl) ?_
          refine lv_iconst (v := (3 : Int32)) hx hb dX4_worth_138 (by decide) ?_
          refine lv_icmp_ne (tgt := 153) hx hb dX4_worth_139 (by decide) (fun h => ?_) (fun h => ?_)
          · have hf := k_ifF h hf
            refine lv_aload_n hx hb dX4_worth_153 rfl (lv_at hl 2 rfl) ?_
            refine lv_iload hx hb dX4_worth_154 (lv_at hl 5 rfl) ?_
            obtain ⟨q2, σ1, hq, hf⟩ := k_blE hf
            refine k_callVl C hw (c_X8_valueOf l G Y w ad o2 L2 x5 σ q2 σ1 hq) (cwV 1 hts gX4_worth_X8_valueOf rfl rfl rfl (by decide +kernel) ⟨Nat.le_of_ble_eq_true rfl, Nat.le_of_ble_eq_true rfl⟩) (k_recv C hw (LX8_o L2) rfl) rfl hl.1 rfl (Nat.le_of_ble_eq_true rfl) dX4_worth_156 (fun H locs hw => ?_)
            exact b159 x1 x3 x4 x3 q2 σ1 _ _ _ (lv_sub hl [0, 1, 2, 3, 4] rfl) hw hf
          · have hf := k_ifT h hf
            refine lv_aload_n hx hb dX4_worth_142 rfl (lv_at hl 0 rfl) ?_
            refine k_get C hw (LX4_o Lo) (ci := 4) rfl k_in4 1 (by decide) lk4_15 (v := .ref (ad (o + 2))) rfl dX4_worth_143 ?_
            refine lv_iload hx hb dX4_worth_146 (lv_at hl 4 rfl) ?_
            obtain ⟨hi, hf⟩ := k_ckE hf
            refine k_iald C hw (LX4_2 Lo) hi dX4_worth_148 ?_
            refine lv_i2l (v := (((σ.1 (o + 2) (x4).toNatClampNeg)).toInt64)) hx hb dX4_worth_149 rfl ?_
            refine lv_goto (tgt := 159) hx hb dX4_worth_150 (by decide) ?_
            exact b159 x1 x3 x4 x3 (((σ.1 (o + 2) (x4).toNatClampNeg)).toInt64) σ _ _ _ (lv_sub hl [0, 1, 2, 3, 4] rfl) hw hf
      have b105 : ∀ (x1 : Int32) (x3 : Int32) (x4 : Int32) (x5 : Int32) (σ : MSt) (H : Heap) (locs : List Loc) (ls : Array Slot), lv_has ls 6 [(0, .ref (ad o)), (1, .int x1), (2, .ref (ad o2)), (3, .int x3), (4, .int x4), (5, .int x5)] → k_W G w A s.heap σ H locs → f_X4_worth_b105 o o2 (f_X4_worth_b38 o o2 n38) x1 x3 x4 x5 σ = some (r, σ') → W p l e rmX4_worth s m [.ref (ad o), .int p1, .ref (ad o2)].toArray below meth c H locs 0 0 (MQ below (k_Ql G w A r σ') [.ref (ad o), .int p1, .ref (ad o2)].toArray s 0 0 A) (F0 m 105 ls []) := by
        intro x1 x3 x4 x5 σ H locs ls hl hw hf
        unfold f_X4_worth_b105 at hf
        refine lv_iload hx hb dX4_worth_105 (lv_at hl 5 rfl) ?_
        refine lv_iconst (v := (3 : Int32)) hx hb dX4_worth_107 (by decide) ?_
        refine lv_icmp_eq (tgt := 125) hx hb dX4_worth_108 (by decide) (fun h => ?_) (fun h => ?_)
        · have hf := k_ifT h hf
          exact b125 x1 x3 x4 x5 σ _ _ _ (lv_sub hl [0, 1, 2, 3, 4, 5] rfl) hw hf
        · have hf := k_ifF h hf
          refine lv_iload hx hb dX4_worth_111 (lv_at hl 5 rfl) ?_
          refine lv_bipush (v := (25 : Int32)) hx hb dX4_worth_113 (by decide) ?_
          refine lv_icmp_lt (tgt := 166) hx hb dX4_worth_115 (by decide) (fun h => ?_) (fun h => ?_)
          · have hf := k_ifT h hf
            exact b166 x1 x3 x4 x5 σ _ _ _ (lv_sub hl [0, 1, 2, 3, 4, 5] rfl) hw hf
          · have hf := k_ifF h hf
            refine lv_iload hx hb dX4_worth_118 (lv_at hl 5 rfl) ?_
            refine lv_bipush (v := (31 : Int32)) hx hb dX4_worth_120 (by decide) ?_
            refine lv_icmp_gt (tgt := 166) hx hb dX4_worth_122 (by decide) (fun h => ?_) (fun h => ?_)
            · have hf := k_ifT h hf
              exact b166 x1 x3 x4 x5 σ _ _ _ (lv_sub hl [0, 1, 2, 3, 4, 5] rfl) hw hf
            · have hf := k_ifF h hf
              exact b125 x1 x3 x4 x5 σ _ _ _ (lv_sub hl [0, 1, 2, 3, 4, 5] rfl) hw hf
      have b101 : ∀ (x1 : Int32) (x3 : Int32) (x4 : Int32) (y1 : Int32) (y2 : Int64) (σ : MSt) (H : Heap) (locs : List Loc) (ls : Array Slot), lv_has ls 6 [(0, .ref (ad o)), (1, .int x1), (2, .ref (ad o2)), (3, .int x3), (4, .int x4)] → k_W G w A s.heap σ H locs → f_X4_worth_b101 o o2 (f_X4_worth_b38 o o2 n38) x1 x3 x4 y1 y2 σ = some (r, σ') → W p l e rmX4_worth s m [.ref (ad o), .int p1, .ref (ad o2)].toArray below meth c H locs 0 0 (MQ below (k_Ql G w A r σ') [.ref (ad o), .int p1, .ref (ad o2)].toArray s 0 0 A) (F0 m 101 ls [.long y2, .int y1, .ref (ad (o + 5))]) := by
        intro x1 x3 x4 y1 y2 σ H locs ls hl hw hf
        unfold f_X4_worth_b101 at hf
        obtain ⟨hi, hf⟩ := k_ckE hf
        refine k_last C hw (LX4_5 Lo) hi dX4_worth_101 (fun σ1 eq H locs hw => ?_)
        have hf := k_nmE eq hf
        refine lv_goto (tgt := 220) hx hb dX4_worth_102 (by decide) ?_
        exact b220 x1 x3 x4 σ1 _ _ _ (lv_sub hl [0, 1, 2, 3, 4] rfl) hw hf
      intro x1 x3 x4 σ H locs ls hl hw hf
      have hf : f_X4_worth_b38_s o o2 (f_X4_worth_b38 o o2 n38) x1 x3 x4 σ = some (r, σ') := hf
      unfold f_X4_worth_b38_s at hf
      refine lv_iload hx hb dX4_worth_38 (lv_at hl 4 rfl) ?_
      refine lv_aload_n hx hb dX4_worth_40 rfl (lv_at hl 0 rfl) ?_
      refine k_get C hw (LX4_o Lo) (ci := 4) rfl k_in4 3 (by decide) lk4_21 (v := .ref (ad (o + 4))) rfl dX4_worth_41 ?_
      refine lv_iload_n hx hb dX4_worth_44 rfl (lv_at hl 1 rfl) ?_
      obtain ⟨hi, hf⟩ := k_ckE hf
      refine k_iald C hw (LX4_4 Lo) hi dX4_worth_45 ?_
      refine lv_icmp_ge (tgt := 226) hx hb dX4_worth_46 (by decide) (fun h => ?_) (fun h => ?_)
      · have hf := k_ifT h hf
        exact b226 σ _ _ _ (lv_sub hl [0] rfl) hw hf
      · have hf := k_ifF h hf
        refine lv_iload hx hb dX4_worth_49 (lv_at hl 4 rfl) ?_
        refine lv_bipush (v := (64 : Int32)) hx hb dX4_worth_51 (by decide) ?_
        refine lv_icmp_ge (tgt := 226) hx hb dX4_worth_53 (by decide) (fun h => ?_) (fun h => ?_)
        · have hf := k_ifT h hf
          exact b226 σ _ _ _ (lv_sub hl [0] rfl) hw hf
        · have hf := k_ifF h hf
          refine lv_aload_n hx hb dX4_worth_56 rfl (lv_at hl 0 rfl) ?_
          refine k_get C hw (LX4_o Lo) (ci := 4) rfl k_in4 0 (by decide) lk4_9 (v := .ref (ad (o + 1))) rfl dX4_worth_57 ?_
          refine lv_iload hx hb dX4_worth_60 (lv_at hl 4 rfl) ?_
          obtain ⟨hi, hf⟩ := k_ckE hf
          refine k_iald C hw (LX4_1 Lo) hi dX4_worth_62 ?_
          refine lv_topi (fun u1 ex => ?_)
          have hf := k_nmE ex hf
          refine lv_istore (lv' := [(5, .int u1), (0, .ref (ad o)), (1, .int x1), (2, .ref (ad o2)), (3, .int x3), (4, .int x4)]) hx hb dX4_worth_63 hl (by decide) rfl (fun ls hl => ?_)
          refine lv_iload hx hb dX4_worth_65 (lv_at hl 0 rfl) ?_
          refine lv_bipush (v := (24 : Int32)) hx hb dX4_worth_67 (by decide) ?_
          refine lv_icmp_ne (tgt := 105) hx hb dX4_worth_69 (by decide) (fun h => ?_) (fun h => ?_)
          · have hf := k_ifF h hf
            exact b105 x1 x3 x4 u1 σ _ _ _ (lv_sub hl [1, 2, 3, 4, 5, 0] rfl) hw hf
          · have hf := k_ifT h hf
            refine lv_iload_n hx hb dX4_worth_72 rfl (lv_at hl 4 rfl) ?_
            refine lv_if_le (tgt := 105) hx hb dX4_worth_73 (by decide) (fun h => ?_) (fun h => ?_)
            · have hf := k_ifT h hf
              exact b105 x1 x3 x4 u1 σ _ _ _ (lv_sub hl [1, 2, 3, 4, 5, 0] rfl) hw hf
            · have hf := k_ifF h hf
              refine lv_aload_n hx hb dX4_worth_76 rfl (lv_at hl 1 rfl) ?_
              refine k_get C hw (LX4_o Lo) (ci := 4) rfl k_in4 4 (by decide) lk4_24 (v := .ref (ad (o + 5))) rfl dX4_worth_77 ?_
              refine lv_iload_n hx hb dX4_worth_80 rfl (lv_at hl 4 rfl) ?_
              refine lv_iconst (v := (1 : Int32)) hx hb dX4_worth_81 (by decide) ?_
              refine lv_isub hx hb dX4_worth_82 ?_
              refine lv_aload_n hx hb dX4_worth_83 rfl (lv_at hl 1 rfl) ?_
              refine k_get C hw (LX4_o Lo) (ci := 4) rfl k_in4 4 (by decide) lk4_24 (v := .ref (ad (o + 5))) rfl dX4_worth_84 ?_
              refine lv_iload_n hx hb dX4_worth_87 rfl (lv_at hl 4 rfl) ?_
              refine lv_iconst (v := (1 : Int32)) hx hb dX4_worth_88 (by decide) ?_
              refine lv_isub hx hb dX4_worth_89 ?_
              obtain ⟨hi, hf⟩ := k_ckE hf
              refine k_lald C hw (LX4_5 Lo) hi dX4_worth_90 ?_
              refine lv_lconst (v := (0 : Int64)) hx hb dX4_worth_91 (by decide) ?_
              refine W.lcmp hx hb dX4_worth_92 ?_
              refine lv_if_ne (tgt := 100) hx hb dX4_worth_93 (by decide) (fun h => ?_) (fun h => ?_)
              · have hf := k_ifF h hf
                refine lv_lconst (v := (0 : Int64)) hx hb dX4_worth_100 (by decide) ?_
                exact b101 x1 x3 x4 (x3 - (1 : Int32)) (0 : Int64) σ _ _ _ (lv_sub hl [1, 2, 3, 4, 5] rfl) hw hf
              · have hf := k_ifT h hf
                refine lv_lconst (v := (1 : Int64)) hx hb dX4_worth_96 (by decide) ?_
                refine lv_goto (tgt := 101) hx hb dX4_worth_97 (by decide) ?_
                exact b101 x1 x3 x4 (x3 - (1 : Int32)) (1 : Int64) σ _ _ _ (lv_sub hl [1, 2, 3, 4, 5] rfl) hw hf
  have b24 : ∀ (σ : MSt) (H : Heap) (locs : List Loc) (ls : Array Slot), lv_has ls 6 [] → k_W G w A s.heap σ H locs → f_X4_worth_b24 o o2 σ = some (r, σ') → W p l e rmX4_worth s m [.ref (ad o), .int p1, .ref (ad o2)].toArray below meth c H locs 0 0 (MQ below (k_Ql G w A r σ') [.ref (ad o), .int p1, .ref (ad o2)].toArray s 0 0 A) (F0 m 24 ls []) := by
    intro σ H locs ls hl hw hf
    unfold f_X4_worth_b24 at hf
    refine lv_ldc2 (v := (-9223372036854775808 : Int64)) hx hb hown (hks.ts _ ck4_41) dX4_worth_24 ?_
    exact k_lret C hw hf dX4_worth_27
  unfold f_X4_worth at hf
  refine lv_iload_n hx hb dX4_worth_0 rfl (lv_at hl 1 rfl) ?_
  refine lv_if_lt (tgt := 24) hx hb dX4_worth_1 (by decide) (fun h => ?_) (fun h => ?_)
  · have hf := k_ifT h hf
    exact b24 σ _ _ _ (lv_sub hl [] rfl) hw hf
  · have hf := k_ifF h hf
    refine lv_iload_n hx hb dX4_worth_4 rfl (lv_at hl 1 rfl) ?_
    refine lv_iconst (v := (3 : Int32)) hx hb dX4_worth_5 (by decide) ?_
    refine lv_icmp_ge (tgt := 24) hx hb dX4_worth_6 (by decide) (fun h => ?_) (fun h => ?_)
    · have hf := k_ifT h hf
      exact b24 σ _ _ _ (lv_sub hl [] rfl) hw hf
    · have hf := k_ifF h hf
      refine lv_aload_n hx hb dX4_worth_9 rfl (lv_at hl 0 rfl) ?_
      refine k_get C hw (LX4_o Lo) (ci := 4) rfl k_in4 2 (by decide) lk4_18 (v := .ref (ad (o + 3))) rfl dX4_worth_10 ?_
      refine lv_iload_n hx hb dX4_worth_13 rfl (lv_at hl 1 rfl) ?_
      obtain ⟨hi, hf⟩ := k_ckE hf
      refine k_iald C hw (LX4_3 Lo) hi dX4_worth_14 ?_
      refine lv_aload_n hx hb dX4_worth_15 rfl (lv_at hl 0 rfl) ?_
      refine k_get C hw (LX4_o Lo) (ci := 4) rfl k_in4 3 (by decide) lk4_21 (v := .ref (ad (o + 4))) rfl dX4_worth_16 ?_
      refine lv_iload_n hx hb dX4_worth_19 rfl (lv_at hl 1 rfl) ?_
      obtain ⟨hi, hf⟩ := k_ckE hf
      refine k_iald C hw (LX4_4 Lo) hi dX4_worth_20 ?_
      refine lv_icmp_lt (tgt := 28) hx hb dX4_worth_21 (by decide) (fun h => ?_) (fun h => ?_)
      · have hf := k_ifT h hf
        refine lv_iconst (v := (0 : Int32)) hx hb dX4_worth_28 (by decide) ?_
        refine lv_istore_n (lv' := [(3, .int (0 : Int32)), (0, .ref (ad o)), (1, .int p1), (2, .ref (ad o2))]) hx hb dX4_worth_29 rfl hl (by decide) rfl (fun ls hl => ?_)
        refine lv_aload_n hx hb dX4_worth_30 rfl (lv_at hl 1 rfl) ?_
        refine k_get C hw (LX4_o Lo) (ci := 4) rfl k_in4 2 (by decide) lk4_18 (v := .ref (ad (o + 3))) rfl dX4_worth_31 ?_
        refine lv_iload_n hx hb dX4_worth_34 rfl (lv_at hl 2 rfl) ?_
        obtain ⟨hi, hf⟩ := k_ckE hf
        refine k_iald C hw (LX4_3 Lo) hi dX4_worth_35 ?_
        refine lv_topi (fun u1 ex => ?_)
        have hf := k_nmE ex hf
        refine lv_istore (lv' := [(4, .int u1), (3, .int (0 : Int32)), (0, .ref (ad o)), (1, .int p1), (2, .ref (ad o2))]) hx hb dX4_worth_36 hl (by decide) rfl (fun ls hl => ?_)
        exact b38 FU p1 (0 : Int32) u1 σ _ _ _ (lv_sub hl [2, 3, 4, 1, 0] rfl) hw hf
      · have hf := k_ifF h hf
        exact b24 σ _ _ _ (lv_sub hl [] rfl) hw hf
