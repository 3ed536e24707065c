def f_X5_take_b2_s (o : Nat) (o1 : Nat) (r2 : Int32 → MSt → Option MSt) (x2 : Int32) (σ : MSt) : Option MSt :=
  if (8 : Int32) ≤ x2 then
  (k_nm (mI σ o 3 (σ.1 o1 3)) fun σ1 =>
  k_nm (mI σ1 o 4 (σ1.1 o1 4)) fun σ2 =>
  k_nm (mI σ2 o 5 (σ2.1 o1 5)) fun σ3 =>
  k_nm (mI σ3 o 6 (σ3.1 o1 6)) fun σ4 =>
  k_ck (k_bo (σ4.1 o1 7)) <|
  k_nm (mI σ4 o 7 (σ4.1 o1 7)) fun σ5 =>
  k_nm (mJ σ5 o 8 (σ5.2 o1 8)) fun σ6 =>
  k_nm (mI σ6 o 9 (σ6.1 o1 9)) fun σ7 =>
  k_nm (mI σ7 o 10 (σ7.1 o1 10)) fun σ8 =>
  k_nm (mI σ8 o 11 (σ8.1 o1 11)) fun σ9 =>
  some σ9)
  else
  (k_ck (k_inb x2 8) <|
  k_ck (k_inb x2 8) <|
  k_nm (mI σ (o + 1) (x2).toNatClampNeg (σ.1 (o1 + 1) (x2).toNatClampNeg)) fun σ10 =>
  k_ck (k_inb x2 8) <|
  k_ck (k_inb x2 8) <|
  k_nm (mI σ10 (o + 2) (x2).toNatClampNeg (σ10.1 (o1 + 2) (x2).toNatClampNeg)) fun σ11 =>
  k_ck (k_inb x2 8) <|
  k_ck (k_inb x2 8) <|
  k_nm (mI σ11 (o + 3) (x2).toNatClampNeg (σ11.1 (o1 + 3) (x2).toNatClampNeg)) fun σ12 =>
  k_nm (x2 + (1 : Int32)) fun x13 =>
  r2 x13 σ12)
def f_X5_take_b2 (o : Nat) (o1 : Nat) : Nat → Int32 → MSt → Option MSt
  | 0 => fun _ _ => none
  | n + 1 => f_X5_take_b2_s o o1 (f_X5_take_b2 o o1 n)
def f_X5_take (o : Nat) (o1 : Nat)  (σ : MSt) : Option MSt :=
  f_X5_take_b2 o o1 FU (0 : Int32) σ
def rmX5_take : Room := { frames := 0, cells := 0, slots := 0, locals := 0 }
set_option maxHeartbeats 4000000 in
set_option maxRecDepth 100000 in
theorem c_X5_take (l : Launch) (G : va_G) (Y : CY) (w : MSt → va_W) (ad : Nat → Nat) (o : Nat) (o1 : Nat) (Lo : LayX5 ad w Y o) (L1 : LayX5 ad w Y o1)  (σ : MSt) (σ' : MSt) (hf : f_X5_take o o1 σ = some σ') : k_Mv l yX5_take wsX5_take rmX5_take G Y w [.ref (ad o), .ref (ad o1)] σ σ' := by
  refine k_ofv (own := RX5) (cc := cX5_take) (maxL := 3) none (by decide) rfl rfl (Nat.le_of_ble_eq_true rfl) ?_
  intro p e s m below meth c A C ls hl hw
  have hx := C.1
  have hb := C.2.1
  have hown := C.2.2.2.2.1
  have hts := C.2.2.2.2.2.1
  have hks := C.2.2.2.2.2.2.1
  have hl : lv_has ls 3 [(0, .ref (ad o)), (1, .ref (ad o1))] := hl
  have b2 : ∀ (n2 : Nat) (x2 : Int32) (σ : MSt) (H : Heap) (locs : List Loc) (ls : Array Slot), lv_has ls 3 [(0, .ref (ad o)), (1, .ref (ad o1)), (2, .int x2)] → k_W G w A s.heap σ H locs → f_X5_take_b2 o o1 n2 x2 σ = some σ' → W p l e rmX5_take s m _ below meth c H locs 0 0 (MQ below (k_Qv G w A σ') _ s 0 0 A) (F0 m 2 ls []) := by
    intro n2
    induction n2 with
    | zero =>
      intro x2 σ H locs ls hl hw hf
      have hf : (none : Option MSt) = some σ' := hf
      cases hf
    | succ n2 ih2 =>
      intro x2 σ H locs ls hl hw hf
      have hf : f_X5_take_b2_s o o1 (f_X5_take_b2 o o1 n2) x2 σ = some σ' := hf
      unfold f_X5_take_b2_s at hf
      refine lv_iload_n hx hb dX5_take_2 rfl (lv_at hl 2 rfl) ?_
      refine lv_bipush (v := (8 : Int32)) hx hb dX5_take_3 (by decide) ?_
      refine lv_icmp_ge (tgt := 50) hx hb dX5_take_5 (by decide) (fun h => ?_) (fun h => ?_)
      · have hf := k_ifT h hf
        refine lv_aload_n hx hb dX5_take_50 rfl (lv_at hl 0 rfl) ?_
        refine lv_aload_n hx hb dX5_take_51 rfl (lv_at hl 1 rfl) ?_
        refine k_get C hw (LX5_o L1) (ci := 5) rfl k_in5 3 (by decide) lk5_31 (v := .int (σ.1 o1 3)) rfl dX5_take_52 ?_
        refine k_put C hw (LX5_o Lo) (ci := 5) rfl k_in5 tyX5 tyX5_ok nmX5 3 (by decide) lk5_31 rfl ⟨rfl, rfl⟩ rfl dX5_take_55 (fun σ1 eq H locs hw => ?_)
        have hf := k_nmE eq hf
        refine lv_aload_n hx hb dX5_take_58 rfl (lv_at hl 0 rfl) ?_
        refine lv_aload_n hx hb dX5_take_59 rfl (lv_at hl 1 rfl) ?_
        refine k_get C hw (LX5_o L1) (ci := 5) rfl k_in5 4 (by decide) lk5_21 (v := .int (σ1.1 o1 4)) rfl dX5_take_60 ?_
        refine k_put C hw (LX5_o Lo) (ci := 5) rfl k_in5 tyX5 tyX5_ok nmX5 4 (by decide) lk5_21 rfl ⟨rfl, rfl⟩ rfl dX5_take_63 (fun σ2 eq H locs hw => ?_)
        have hf := k_nmE eq hf
        refine lv_aload_n hx hb dX5_take_66 rfl (lv_at hl 0 rfl) ?_
        refine lv_aload_n hx hb dX5_take_67 rfl (lv_at hl 1 rfl) ?_
        refine k_get C hw (LX5_o L1) (ci := 5) rfl k_in5 5 (by decide) lk5_25 (v := .int (σ2.1 o1 5)) rfl dX5_take_68 ?_
        refine k_put C hw (LX5_o Lo) (ci := 5) rfl k_in5 tyX5 tyX5_ok nmX5 5 (by decide) lk5_25 rfl ⟨rfl, rfl⟩ rfl dX5_take_71 (fun σ3 eq H locs hw => ?_)
        have hf := k_nmE eq hf
        refine lv_aload_n hx hb dX5_take_74 rfl (lv_at hl 0 rfl) ?_
        refine lv_aload_n hx hb dX5_take_75 rfl (lv_at hl 1 rfl) ?_
        refine k_get C hw (LX5_o L1) (ci := 5) rfl k_in5 6 (by decide) lk5_28 (v := .int (σ3.1 o1 6)) rfl dX5_take_76 ?_
        refine k_put C hw (LX5_o Lo) (ci := 5) rfl k_in5 tyX5 tyX5_ok nmX5 6 (by decide) lk5_28 rfl ⟨rfl, rfl⟩ rfl dX5_take_79 (fun σ4 eq H locs hw => ?_)
        have hf := k_nmE eq hf
        refine lv_aload_n hx hb dX5_take_82 rfl (lv_at hl 0 rfl) ?_
        refine lv_aload_n hx hb dX5_take_83 rfl (lv_at hl 1 rfl) ?_
        refine k_get C hw (LX5_o L1) (ci := 5) rfl k_in5 7 (by decide) lk5_40 (v := .int (σ4.1 o1 7)) rfl dX5_take_84 ?_
        obtain ⟨hz, hf⟩ := k_ckE hf
        refine k_put C hw (LX5_o Lo) (ci := 5) rfl k_in5 tyX5 tyX5_ok nmX5 7 (by decide) lk5_40 rfl (k_boE hz) rfl dX5_take_87 (fun σ5 eq H locs hw => ?_)
        have hf := k_nmE eq hf
        refine lv_aload_n hx hb dX5_take_90 rfl (lv_at hl 0 rfl) ?_
        refine lv_aload_n hx hb dX5_take_91 rfl (lv_at hl 1 rfl) ?_
        refine k_get C hw (LX5_o L1) (ci := 5) rfl k_in5 8 (by decide) lk5_47 (v := .long (σ5.2 o1 8)) rfl dX5_take_92 ?_
        refine k_putJ C hw (LX5_o Lo) (ci := 5) rfl k_in5 tyX5 tyX5_ok nmX5 8 (by decide) lk5_47 rfl ⟨rfl, rfl⟩ rfl dX5_take_95 (fun σ6 eq H locs hw => ?_)
        have hf := k_nmE eq hf
        refine lv_aload_n hx hb dX5_take_98 rfl (lv_at hl 0 rfl) ?_
        refine lv_aload_n hx hb dX5_take_99 rfl (lv_at hl 1 rfl) ?_
        refine k_get C hw (LX5_o L1) (ci := 5) rfl k_in5 9 (by decide) lk5_51 (v := .int (σ6.1 o1 9)) rfl dX5_take_100 ?_
        refine k_put C hw (LX5_o Lo) (ci := 5) rfl k_in5 tyX5 tyX5_ok nmX5 9 (by decide) lk5_51 rfl ⟨rfl, rfl⟩ rfl dX5_take_103 (fun σ7 eq H locs hw => ?_)
        have hf := k_nmE eq hf
        refine lv_aload_n hx hb dX5_take_106 rfl (lv_at hl 0 rfl) ?_
        refine lv_aload_n hx hb dX5_take_107 rfl (lv_at hl 1 rfl) ?_
        refine k_get C hw (LX5_o L1) (ci := 5) rfl k_in5 10 (by decide) lk5_54 (v := .int (σ7.1 o1 10)) rfl dX5_take_108 ?_
        refine k_put C hw (LX5_o Lo) (ci := 5) rfl k_in5 tyX5 tyX5_ok nmX5 10 (by decide) lk5_54 rfl ⟨rfl, rfl⟩ rfl dX5_take_111 (fun σ8 eq H locs hw => ?_)
        have hf := k_nmE eq hf
        refine lv_aload_n hx hb dX5_take_114 rfl (lv_at hl 0 rfl) ?_
        refine lv_aload_n hx hb dX5_take_115 rfl (lv_at hl 1 rfl) ?_
        refine k_get C hw (LX5_o L1) (ci := 5) rfl k_in5 11 (by decide) lk5_57 (v := .int (σ8.1 o1 11)) rfl dX5_take_116 ?_
        refine k_put C hw (LX5_o Lo) (ci := 5) rfl k_in5 tyX5 tyX5_ok nmX5 11 (by decide) lk5_57 rfl ⟨rfl, rfl⟩ rfl dX5_take_119 (fun σ9 eq H locs hw => ?_)
        have hf := k_nmE eq hf
        exact k_vret C hw hf dX5_take_122
      · have hf := k_ifF h hf
        refine lv_aload_n hx hb dX5_take_8 rfl (lv_at hl 0 rfl) ?_
        refine k_get C hw (LX5_o Lo) (ci := 5) rfl k_in5 0 (by decide) lk5_9 (v := .ref (ad (o + 1))) rfl dX5_take_9 ?_
        refine lv_iload_n hx hb dX5_take_12 rfl (lv_at hl 2 rfl) ?_
        refine lv_aload_n hx hb dX5_take_13 rfl (lv_at hl 1 rfl) ?_
        refine k_get C hw (LX5_o L1) (ci := 5) rfl k_in5 0 (by decide) lk5_9 (v := .ref (ad (o1 + 1))) rfl dX5_take_14 ?_
        refine lv_iload_n hx hb dX5_take_17 rfl (lv_at hl 2 rfl) ?_
        obtain ⟨hi, hf⟩ := k_ckE hf
        refine k_iald C hw (LX5_1 L1) hi dX5_take_18 ?_
        obtain ⟨hi, hf⟩ := k_ckE hf
        refine k_iast C hw (LX5_1 Lo) hi dX5_take_19 (fun σ10 eq H locs hw => ?_)
        have hf := k_nmE eq hf
        refine lv_aload_n hx hb dX5_take_20 rfl (lv_at hl 0 rfl) ?_
        refine k_get C hw (LX5_o Lo) (ci := 5) rfl k_in5 1 (by decide) lk5_15 (v := .ref (ad (o + 2))) rfl dX5_take_21 ?_
        refine lv_iload_n hx hb dX5_take_24 rfl (lv_at hl 2 rfl) ?_
        refine lv_aload_n hx hb dX5_take_25 rfl (lv_at hl 1 rfl) ?_
        refine k_get C hw (LX5_o L1) (ci := 5) rfl k_in5 1 (by decide) lk5_15 (v := .ref (ad (o1 + 2))) rfl dX5_take_26 ?_
        refine lv_iload_n hx hb dX5_take_29 rfl (lv_at hl 2 rfl) ?_
        obtain ⟨hi, hf⟩ := k_ckE hf
        refine k_iald C hw (LX5_2 L1) hi dX5_take_30 ?_
        obtain ⟨hi, hf⟩ := k_ckE hf
        refine k_iast C hw (LX5_2 Lo) hi dX5_take_31 (fun σ11 eq H locs hw => ?_)
        have hf := k_nmE eq hf
        refine lv_aload_n hx hb dX5_take_32 rfl (lv_at hl 0 rfl) ?_
        refine k_get C hw (LX5_o Lo) (ci := 5) rfl k_in5 2 (by decide) lk5_18 (v := .ref (ad (o + 3))) rfl dX5_take_33 ?_
        refine lv_iload_n hx hb dX5_take_36 rfl (lv_at hl 2 rfl) ?_
        refine lv_aload_n hx hb dX5_take_37 rfl (lv_at hl 1 rfl) ?_
        refine k_get C hw (LX5_o L1) (ci := 5) rfl k_in5 2 (by decide) lk5_18 (v := .ref (ad (o1 + 3))) rfl dX5_take_38 ?_
        refine lv_iload_n hx hb dX5_take_41 rfl (lv_at hl 2 rfl) ?_
        obtain ⟨hi, hf⟩ := k_ckE hf
        refine k_iald C hw (LX5_3 L1) hi dX5_take_42 ?_
        obtain ⟨hi, hf⟩ := k_ckE hf
        refine k_iast C hw (LX5_3 Lo) hi dX5_take_43 (fun σ12 eq H locs hw => ?_)
        have hf := k_nmE eq hf
        obtain ⟨x13, ex⟩ : ∃ y : Int32, y = (x2 + (1 : Int32)) := ⟨_, rfl⟩
        have hf := k_nmE ex hf
        refine lv_iinc (v := x13) (lv' := [(2, .int x13), (0, .ref (ad o)), (1, .ref (ad o1))]) hx hb dX5_take_44 hl (k := 2) rfl (by rw [ex]; rfl) (by decide) rfl (fun ls hl => ?_)
        refine lv_goto (tgt := 2) hx hb dX5_take_47 (by decide) ?_
        exact ih2 x13 σ12 _ _ _ (lv_sub hl [1, 2, 0] rfl) hw hf
  unfold f_X5_take at hf
  refine lv_iconst (v := (0 : Int32)) hx hb dX5_take_0 (by decide) ?_
  refine lv_istore_n (lv' := [(2, .int (0 : Int32)), (0, .ref (ad o)), (1, .ref (ad o1))]) hx hb dX5_take_1 rfl hl (by decide) rfl (fun ls hl => ?_)
  exact b2 FU (0 : Int32) σ _ _ _ (lv_sub hl [1, 2, 0] rfl) hw hf
def f_X5_remember_b50 (o : Nat)  (σ : MSt) : Option MSt :=
  some σ
def f_X5_remember (o : Nat) (p1 : Int32) (p2 : Int32) (σ : MSt) : Option MSt :=
  if p1 < 0 then
  (f_X5_remember_b50 o σ)
  else
  (if (8 : Int32) ≤ p1 then
  (f_X5_remember_b50 o σ)
  else
  (k_ck (k_inb p1 8) <|
  k_ck (k_inb p1 8) <|
  k_nm (mI σ (o + 1) (p1).toNatClampNeg (k_min (9999 : Int32) ((σ.1 (o + 1) (p1).toNatClampNeg) + p2))) fun σ1 =>
  k_ck (k_inb p1 8) <|
  k_ck (k_inb p1 8) <|
  k_nm (mI σ1 (o + 2) (p1).toNatClampNeg ((σ1.1 (o + 2) (p1).toNatClampNeg) + (1 : Int32))) fun σ2 =>
  k_ck (k_inb p1 8) <|
  k_nm (mI σ2 (o + 3) (p1).toNatClampNeg (σ2.1 o 3)) fun σ3 =>
  f_X5_remember_b50 o σ3))
def rmX5_remember : Room := { frames := 1, cells := 0, slots := 0, locals := 23 }
set_option maxHeartbeats 4000000 in
set_option maxRecDepth 100000 in
theorem c_X5_remember (l : Launch) (G : va_G) (Y : CY) (w : MSt → va_W) (ad : Nat → Nat) (o : Nat) (Lo : LayX5 ad w Y o) (p1 : Int32) (p2 : Int32) (σ : MSt) (σ' : MSt) (hf : f_X5_remember o p1 p2 σ = some σ') : k_Mv l yX5_remember wsX5_remember rmX5_remember G Y w [.ref (ad o), .int p1, .int p2] σ σ' := by
  refine k_ofv (own := RX5) (cc := cX5_remember) (maxL := 3) none (by decide) rfl rfl (Nat.le_of_ble_eq_true rfl) ?_
  intro p e s m below meth c A C ls hl hw
  have hx := C.1
  have hb := C.2.1
  have hown := C.2.2.2.2.1
  have hts := C.2.2.2.2.2.1
  have hks := C.2.2.2.2.2.2.1
  have hl : lv_has ls 3 [(0, .ref (ad o)), (1, .int p1), (2, .int p2)] := hl
  have b50 : ∀ (σ : MSt) (H : Heap) (locs : List Loc) (ls : Array Slot), lv_has ls 3 [] → k_W G w A s.heap σ H locs → f_X5_remember_b50 o σ = some σ' → W p l e rmX5_remember s m _ below meth c H locs 0 0 (MQ below (k_Qv G w A σ') _ s 0 0 A) (F0 m 50 ls []) := by
    intro σ H locs ls hl hw hf
    unfold f_X5_remember_b50 at hf
    exact k_vret C hw hf dX5_remember_50
  unfold f_X5_remember at hf
  refine lv_iload_n hx hb dX5_remember_0 rfl (lv_at hl 1 rfl) ?_
  refine lv_if_lt (tgt := 50) hx hb dX5_remember_1 (by decide) (fun h => ?_) (fun h => ?_)
  · have hf := k_ifT h hf
    exact b50 σ _ _ _ (lv_sub hl [] rfl) hw hf
  · have hf := k_ifF h hf
    refine lv_iload_n hx hb dX5_remember_4 rfl (lv_at hl 1 rfl) ?_
    refine lv_bipush (v := (8 : Int32)) hx hb dX5_remember_5 (by decide) ?_
    refine lv_icmp_ge (tgt := 50) hx hb dX5_remember_7 (by decide) (fun h => ?_) (fun h => ?_)
    · have hf := k_ifT h hf
      exact b50 σ _ _ _ (lv_sub hl [] rfl) hw hf
    · have hf := k_ifF h hf
      refine lv_aload_n hx hb dX5_remember_10 rfl (lv_at hl 0 rfl) ?_
      refine k_get C hw (LX5_o Lo) (ci := 5) rfl k_in5 0 (by decide) lk5_9 (v := .ref (ad (o + 1))) rfl dX5_remember_11 ?_
      refine lv_iload_n hx hb dX5_remember_14 rfl (lv_at hl 1 rfl) ?_
      refine lv_sipush (v := (9999 : Int32)) hx hb dX5_remember_15 (by decide) ?_
      refine lv_aload_n hx hb dX5_remember_18 rfl (lv_at hl 0 rfl) ?_
      refine k_get C hw (LX5_o Lo) (ci := 5) rfl k_in5 0 (by decide) lk5_9 (v := .ref (ad (o + 1))) rfl dX5_remember_19 ?_
      refine lv_iload_n hx hb dX5_remember_22 rfl (lv_at hl 1 rfl) ?_
      obtain ⟨hi, hf⟩ := k_ckE hf
      refine k_iald C hw (LX5_1 Lo) hi dX5_remember_23 ?_
      refine lv_iload_n hx hb dX5_remember_24 rfl (lv_at hl 2 rfl) ?_
      refine lv_iadd hx hb dX5_remember_25 ?_
      refine k_mmin C hl.1 ml5_60 ms_Lib_Math_min_name mi_Math mc_Lib_Math_min_name (Nat.le_of_ble_eq_true rfl) (Nat.le_of_ble_eq_true rfl) dX5_remember_26 ?_
      obtain ⟨hi, hf⟩ := k_ckE hf
      refine k_iast C hw (LX5_1 Lo) hi dX5_remember_29 (fun σ1 eq H locs hw => ?_)
      have hf := k_nmE eq hf
      refine lv_aload_n hx hb dX5_remember_30 rfl (lv_at hl 0 rfl) ?_
      refine k_get C hw (LX5_o Lo) (ci := 5) rfl k_in5 1 (by decide) lk5_15 (v := .ref (ad (o + 2))) rfl dX5_remember_31 ?_
      refine lv_iload_n hx hb dX5_remember_34 rfl (lv_at hl 1 rfl) ?_
      refine lv_dup2_11 hx hb dX5_remember_35 rfl rfl ?_
      obtain ⟨hi, hf⟩ := k_ckE hf
      refine k_iald C hw (LX5_2 Lo) hi dX5_remember_36 ?_
      refine lv_iconst (v := (1 : Int32)) hx hb dX5_remember_37 (by decide) ?_
      refine lv_iadd hx hb dX5_remember_38 ?_
      obtain ⟨hi, hf⟩ := k_ckE hf
      refine k_iast C hw (LX5_2 Lo) hi dX5_remember_39 (fun σ2 eq H locs hw => ?_)
      have hf := k_nmE eq hf
      refine lv_aload_n hx hb dX5_remember_40 rfl (lv_at hl 0 rfl) ?_
      refine k_get C hw (LX5_o Lo) (ci := 5) rfl k_in5 2 (by decide) lk5_18 (v := .ref (ad (o + 3))) rfl dX5_remember_41 ?_
      refine lv_iload_n hx hb dX5_remember_44 rfl (lv_at hl 1 rfl) ?_
      refine lv_aload_n hx hb dX5_remember_45 rfl (lv_at hl 0 rfl) ?_
      refine k_get C hw (LX5_o Lo) (ci := 5) rfl k_in5 3 (by decide) lk5_31 (v := .int (σ2.1 o 3)) rfl dX5_remember_46 ?_
      obtain ⟨hi, hf⟩ := k_ckE hf
      refine k_iast C hw (LX5_3 Lo) hi dX5_remember_49 (fun σ3 eq H locs hw => ?_)
      have hf := k_nmE eq hf
      exact b50 σ3 _ _ _ (lv_sub hl [] rfl) hw hf
def f_X5_lieIn (o : Nat) (p1 : Int32) (σ : MSt) : Option MSt :=
  k_nm (mI σ o 4 p1) fun σ1 =>
  k_nm (mI σ1 o 5 (-1 : Int32)) fun σ2 =>
  k_nm (mI σ2 o 6 (-1 : Int32)) fun σ3 =>
  some σ3
def rmX5_lieIn : Room := { frames := 0, cells := 0, slots := 0, locals := 0 }
set_option maxHeartbeats 4000000 in
set_option maxRecDepth 100000 in
theorem c_X5_lieIn (l : Launch) (G : va_G) (Y : CY) (w : MSt → va_W) (ad : Nat → Nat) (o : Nat) (Lo : LayX5 ad w Y o) (p1 : Int32) (σ : MSt) (σ' : MSt) (hf : f_X5_lieIn o p1 σ = some σ') : k_Mv l yX5_lieIn wsX5_lieIn rmX5_lieIn G Y w [.ref (ad o), .int p1] σ σ' := by
  refine k_ofv (own := RX5) (cc := cX5_lieIn) (maxL := 2) none (by decide) rfl rfl (Nat.le_of_ble_eq_true rfl) ?_
  intro p e s m below meth c A C ls hl hw
  have hx := C.1
  have hb := C.2.1
  have hown := C.2.2.2.2.1
  have hts := C.2.2.2.2.2.1
  have hks := C.2.2.2.2.2.2.1
  have hl : lv_has ls 2 [(0, .ref (ad o)), (1, .int p1)] := hl
  unfold f_X5_lieIn at hf
  refine lv_aload_n hx hb dX5_lieIn_0 rfl (lv_at hl 0 rfl) ?_
  refine lv_iload_n hx hb dX5_lieIn_1 rfl (lv_at hl 1 rfl) ?_
  refine k_put C hw (LX5_o Lo) (ci := 5) rfl k_in5 tyX5 tyX5_ok nmX5 4 (by decide) lk5_21 rfl ⟨rfl, rfl⟩ rfl dX5_lieIn_2 (fun σ1 eq H locs hw => ?_)
  have hf := k_nmE eq hf
  refine lv_aload_n hx hb dX5_lieIn_5 rfl (lv_at hl 0 rfl) ?_
  refine lv_iconst (v := (-1 : Int32)) hx hb dX5_lieIn_6 (by decide) ?_
  refine k_put C hw (LX5_o Lo) (ci := 5) rfl k_in5 tyX5 tyX5_ok nmX5 5 (by decide) lk5_25 rfl ⟨rfl, rfl⟩ rfl dX5_lieIn_7 (fun σ2 eq H locs hw => ?_)
  have hf := k_nmE eq hf
  refine lv_aload_n hx hb dX5_lieIn_10 rfl (lv_at hl 0 rfl) ?_
  refine lv_iconst (v := (-1 : Int32)) hx hb dX5_lieIn_11 (by decide) ?_
  refine k_put C hw (LX5_o Lo) (ci := 5) rfl k_in5 tyX5 tyX5_ok nmX5 6 (by decide) lk5_28 rfl ⟨rfl, rfl⟩ rfl dX5_lieIn_12 (fun σ3 eq H locs hw => ?_)
  have hf := k_nmE eq hf
  exact k_vret C hw hf dX5_lieIn_15
def f_X5_draw (o : Nat)  (σ : MSt) : Option (Int32 × MSt) :=
  k_nm (mJ σ o 8 ((((σ.2 o 8) * (1103515245 : Int64)) + (12345 : Int64)) &&& (2147483647 : Int64))) fun σ1 =>
  some (((((σ1.2 o 8) / (65536 : Int64))).toInt32), σ1)
def rmX5_draw : Room := { frames := 0, cells := 0, slots := 0, locals := 0 }
set_option maxHeartbeats 4000000 in
set_option maxRecDepth 100000 in
theorem c_X5_draw (l : Launch) (G : va_G) (Y : CY) (w : MSt → va_W) (ad : Nat → Nat) (o : Nat) (Lo : LayX5 ad w Y o)  (σ : MSt) (r : Int32) (σ' : MSt) (hf : f_X5_draw o σ = some (r, σ')) : k_Mi l yX5_draw wsX5_draw rmX5_draw G Y w [.ref (ad o)] σ r σ' := by
  refine k_ofi (own := RX5) (cc := cX5_draw) (maxL := 1) (some .int) (by decide) rfl rfl (Nat.le_of_ble_eq_true rfl) ?_
  intro p e s m below meth c A C ls hl hw
  have hx := C.1
  have hb := C.2.1
  have hown := C.2.2.2.2.1
  have hts := C.2.2.2.2.2.1
  have hks := C.2.2.2.2.2.2.1
  have hl : lv_has ls 1 [(0, .ref (ad o))] := hl
  unfold f_X5_draw at hf
  refine lv_aload_n hx hb dX5_draw_0 rfl (lv_at hl 0 rfl) ?_
  refine lv_aload_n hx hb dX5_draw_1 rfl (lv_at hl 0 rfl) ?_
  refine k_get C hw (LX5_o Lo) (ci := 5) rfl k_in5 8 (by decide) lk5_47 (v := .long (σ.2 o 8)) rfl dX5_draw_2 ?_
  refine lv_ldc2 (v := (1103515245 : Int64)) hx hb hown (hks.ts _ ck5_69) dX5_draw_5 ?_
  refine lv_lmul hx hb dX5_draw_8 ?_
  refine lv_ldc2 (v := (12345 : Int64)) hx hb hown (hks.ts _ ck5_71) dX5_draw_9 ?_
  refine lv_ladd hx hb dX5_draw_12 ?_
  refine lv_ldc2 (v := (2147483647 : Int64)) hx hb hown (hks.ts _ ck5_73) dX5_draw_13 ?_
  refine lv_land hx hb dX5_draw_16 ?_
  refine k_putJ C hw (LX5_o Lo) (ci := 5) rfl k_in5 tyX5 tyX5_ok nmX5 8 (by decide) lk5_47 rfl ⟨rfl, rfl⟩ rfl dX5_draw_17 (fun σ1 eq H locs hw => ?_)
  have hf := k_nmE eq hf
  refine lv_aload_n hx hb dX5_draw_20 rfl (lv_at hl 0 rfl) ?_
  refine k_get C hw (LX5_o Lo) (ci := 5) rfl k_in5 8 (by decide) lk5_47 (v := .long (σ1.2 o 8)) rfl dX5_draw_21 ?_
  refine lv_ldc2 (v := (65536 : Int64)) hx hb hown (hks.ts _ ck5_75) dX5_draw_24 ?_
  refine lv_ldiv hx hb dX5_draw_27 (by decide) ?_
  refine lv_l2i (v := ((((σ1.2 o 8) / (65536 : Int64))).toInt32)) hx hb dX5_draw_28 rfl ?_
  exact k_iret C hw hf dX5_draw_29
def f_X8_forget (o : Nat)  (σ : MSt) : Option MSt :=
  k_nm (mI σ o 0 (0 : Int32)) fun σ1 =>
  k_nm (mI σ1 o 1 (0 : Int32)) fun σ2 =>
  k_nm (mI σ2 o 2 (-1 : Int32)) fun σ3 =>
  some σ3
def rmX8_forget : Room := { frames := 0, cells := 0, slots := 0, locals := 0 }
set_option maxHeartbeats 4000000 in
set_option maxRecDepth 100000 in
theorem c_X8_forget (l : Launch) (G : va_G) (Y : CY) (w : MSt → va_W) (ad : Nat → Nat) (o : Nat) (Lo : LayX8 ad w Y o)  (σ : MSt) (σ' : MSt) (hf : f_X8_forget o σ = some σ') : k_Mv l yX8_forget wsX8_forget rmX8_forget G Y w [.ref (ad o)] σ σ' := by
  refine k_ofv (own := RX8) (cc := cX8_forget) (maxL := 1) none (by decide) rfl rfl (Nat.le_of_ble_eq_true rfl) ?_
  intro p e s m below meth c A C ls hl hw
  have hx := C.1
  have hb := C.2.1
  have hown := C.2.2.2.2.1
  have hts := C.2.2.2.2.2.1
  have hks := C.2.2.2.2.2.2.1
  have hl : lv_has ls 1 [(0, .ref (ad o))] := hl
  unfold f_X8_forget at hf
  refine lv_aload_n hx hb dX8_forget_0 rfl (lv_at hl 0 rfl) ?_
  refine lv_iconst (v := (0 : Int32)) hx hb dX8_forget_1 (by decide) ?_
  refine k_put C hw (LX8_o Lo) (ci := 8) rfl k_in8 tyX8 tyX8_ok nmX8 0 (by decide) lk8_9 rfl ⟨rfl, rfl⟩ rfl dX8_forget_2 (fun σ1 eq H locs hw => ?_)
  have hf := k_nmE eq hf
  refine lv_aload_n hx hb dX8_forget_5 rfl (lv_at hl 0 rfl) ?_
  refine lv_iconst (v := (0 : Int32)) hx hb dX8_forget_6 (by decide) ?_
  refine k_put C hw (LX8_o Lo) (ci := 8) rfl k_in8 tyX8 tyX8_ok nmX8 1 (by decide) lk8_15 rfl ⟨rfl, rfl⟩ rfl dX8_forget_7 (fun σ2 eq H locs hw => ?_)
  have hf := k_nmE eq hf
  refine lv_aload_n hx hb dX8_forget_10 rfl (lv_at hl 0 rfl) ?_
  refine lv_iconst (v := (-1 : Int32)) hx hb dX8_forget_11 (by decide) ?_
  refine k_put C hw (LX8_o Lo) (ci := 8) rfl k_in8 tyX8 tyX8_ok nmX8 2 (by decide) lk8_18 rfl ⟨rfl, rfl⟩ rfl dX8_forget_12 (fun σ3 eq H locs hw => ?_)
  have hf := k_nmE eq hf
  exact k_vret C hw hf dX8_forget_15
def f_X8_recall_b44 (o : Nat) (o1 : Nat)  (σ : MSt) : Option MSt :=
  some σ
def f_X8_recall (o : Nat) (o1 : Nat) (p2 : Int32) (σ : MSt) : Option MSt :=
  k_bv (f_X8_forget o σ) fun σ1 =>
  if p2 < 0 then
  (f_X8_recall_b44 o o1 σ1)
  else
  (if (8 : Int32) ≤ p2 then
  (f_X8_recall_b44 o o1 σ1)
  else
  (k_ck (k_inb p2 8) <|
  k_nm (mI σ1 o 0 (σ1.1 (o1 + 1) (p2).toNatClampNeg)) fun σ2 =>
  k_ck (k_inb p2 8) <|
  k_nm (mI σ2 o 1 (σ2.1 (o1 + 2) (p2).toNatClampNeg)) fun σ3 =>
  k_ck (k_inb p2 8) <|
  k_nm (mI σ3 o 2 (σ3.1 (o1 + 3) (p2).toNatClampNeg)) fun σ4 =>
  f_X8_recall_b44 o o1 σ4))
def rmX8_recall : Room := { frames := 1, cells := 0, slots := 0, locals := 20 }
set_option maxHeartbeats 4000000 in
set_option maxRecDepth 100000 in
theorem c_X8_recall (l : Launch) (G : va_G) (Y : CY) (w : MSt → va_W) (ad : Nat → Nat) (o : Nat) (o1 : Nat) (Lo : LayX8 ad w Y o) (L1 : LayX5 ad w Y o1) (p2 : Int32) (σ : MSt) (σ' : MSt) (hf : f_X8_recall o o1 p2 σ = some σ') : k_Mv l yX8_recall wsX8_recall rmX8_recall G Y w [.ref (ad o), .ref (ad o1), .int p2] σ σ' := by
  refine k_ofv (own := RX8) (cc := cX8_recall) (maxL := 3) none (by decide) rfl rfl (Nat.le_of_ble_eq_true rfl) ?_
  intro p e s m below meth c A C ls hl hw
  have hx := C.1
  have hb := C.2.1
  have hown := C.2.2.2.2.1
  have hts := C.2.2.2.2.2.1
  have hks := C.2.2.2.2.2.2.1
  have hl : lv_has ls 3 [(0, .ref (ad o)), (1, .ref (ad o1)), (2, .int p2)] := hl
  have b44 : ∀ (σ : MSt) (H : Heap) (locs : List Loc) (ls : Array Slot), lv_has ls 3 [] → k_W G w A s.heap σ H locs → f_X8_recall_b44 o o1 σ = some σ' → W p l e rmX8_recall s m _ below meth c H locs 0 0 (MQ below (k_Qv G w A σ') _ s 0 0 A) (F0 m 44 ls []) := by
    intro σ H locs ls hl hw hf
    unfold f_X8_recall_b44 at hf
    exact k_vret C hw hf dX8_recall_44
  unfold f_X8_recall at hf
  refine lv_aload_n hx hb dX8_recall_0 rfl (lv_at hl 0 rfl) ?_
  obtain ⟨σ1, hq, hf⟩ := k_bvE hf
  refine k_callVv C hw (c_X8_forget l G Y w ad o Lo σ σ1 hq) (cwV 0 hts gX8_recall_X8_forget rfl rfl rfl (by decide +kernel) ⟨Nat.le_of_ble_eq_true rfl, Nat.le_of_ble_eq_true rfl⟩) (k_recv C hw (LX8_o Lo) rfl) rfl hl.1 rfl (Nat.le_of_ble_eq_true rfl) dX8_recall_1 (fun H locs hw => ?_)
  refine lv_iload_n hx hb dX8_recall_4 rfl (lv_at hl 2 rfl) ?_
  refine lv_if_lt (tgt := 44) hx hb dX8_recall_5 (by decide) (fun h => ?_) (fun h => ?_)
  · have hf := k_ifT h hf
    exact b44 σ1 _ _ _ (lv_sub hl [] rfl) hw hf
  · have hf := k_ifF h hf
    refine lv_iload_n hx hb dX8_recall_8 rfl (lv_at hl 2 rfl) ?_
    refine lv_bipush (v := (8 : Int32)) hx hb dX8_recall_9 (by decide) ?_
    refine lv_icmp_ge (tgt := 44) hx hb dX8_recall_11 (by decide) (fun h => ?_) (fun h => ?_)
    · have hf := k_ifT h hf
      exact b44 σ1 _ _ _ (lv_sub hl [] rfl) hw hf
    · have hf := k_ifF h hf
      refine lv_aload_n hx hb dX8_recall_14 rfl (lv_at hl 0 rfl) ?_
      refine lv_aload_n hx hb dX8_recall_15 rfl (lv_at hl 1 rfl) ?_
      refine k_getN C hw (LX5_o L1) (ci := 5) rfl k_in5 0 (by decide) ln8_24 (v := .ref (ad (o1 + 1))) rfl dX8_recall_16 ?_
      refine lv_iload_n hx hb dX8_recall_19 rfl (lv_at hl 2 rfl) ?_
      obtain ⟨hi, hf⟩ := k_ckE hf
      refine k_iald C hw (LX5_1 L1) hi dX8_recall_20 ?_
      refine k_put C hw (LX8_o Lo) (ci := 8) rfl k_in8 tyX8 tyX8_ok nmX8 0 (by decide) lk8_9 rfl ⟨rfl, rfl⟩ rfl dX8_recall_21 (fun σ2 eq H locs hw => ?_)
      have hf := k_nmE eq hf
      refine lv_aload_n hx hb dX8_recall_24 rfl (lv_at hl 0 rfl) ?_
      refine lv_aload_n hx hb dX8_recall_25 rfl (lv_at hl 1 rfl) ?_
      refine k_getN C hw (LX5_o L1) (ci := 5) rfl k_in5 1 (by decide) ln8_29 (v := .ref (ad (o1 + 2))) rfl dX8_recall_26 ?_
      refine lv_iload_n hx hb dX8_recall_29 rfl (lv_at hl 2 rfl) ?_
      obtain ⟨hi, hf⟩ := k_ckE hf
      refine k_iald C hw (LX5_2 L1) hi dX8_recall_30 ?_
      refine k_put C hw (LX8_o Lo) (ci := 8) rfl k_in8 tyX8 tyX8_ok nmX8 1 (by decide) lk8_15 rfl ⟨rfl, rfl⟩ rfl dX8_recall_31 (fun σ3 eq H locs hw => ?_)
      have hf := k_nmE eq hf
      refine lv_aload_n hx hb dX8_recall_34 rfl (lv_at hl 0 rfl) ?_
      refine lv_aload_n hx hb dX8_recall_35 rfl (lv_at hl 1 rfl) ?_
      refine k_getN C hw (LX5_o L1) (ci := 5) rfl k_in5 2 (by decide) ln8_31 (v := .ref (ad (o1 + 3))) rfl dX8_recall_36 ?_
      refine lv_iload_n hx hb dX8_recall_39 rfl (lv_at hl 2 rfl) ?_
      obtain ⟨hi, hf⟩ := k_ckE hf
      refine k_iald C hw (LX5_3 L1) hi dX8_recall_40 ?_
      refine k_put C hw (LX8_o Lo) (ci := 8) rfl k_in8 tyX8 tyX8_ok nmX8 2 (by decide) lk8_18 rfl ⟨rfl, rfl⟩ rfl dX8_recall_41 (fun σ4 eq H locs hw => ?_)
      have hf := k_nmE eq hf
      exact b44 σ4 _ _ _ (lv_sub hl [] rfl) hw hf
def f_X8_set_b40 (o : Nat) (y1 : Int32) (σ : MSt) : Option MSt :=
  k_nm (mI σ o 3 y1) fun σ1 =>
  some σ1
def f_X8_set (o : Nat) (p1 : Int32) (p2 : Int32) (p3 : Int32) (σ : MSt) : Option MSt :=
  k_nm (mI σ o 4 p1) fun σ2 =>
  k_nm (mI σ2 o 5 p2) fun σ3 =>
  k_nm (mI σ3 o 6 p3) fun σ4 =>
  if (σ4.1 o 2) = (-1 : Int32) then
  (f_X8_set_b40 o (99 : Int32) σ4)
  else
  (f_X8_set_b40 o (k_min (99 : Int32) (p1 - (σ4.1 o 2))) σ4)
def rmX8_set : Room := { frames := 1, cells := 0, slots := 0, locals := 23 }
set_option maxHeartbeats 4000000 in
set_option maxRecDepth 100000 in
theorem c_X8_set (l : Launch) (G : va_G) (Y : CY) (w : MSt → va_W) (ad : Nat → Nat) (o : Nat) (Lo : LayX8 ad w Y o) (p1 : Int32) (p2 : Int32) (p3 : Int32) (σ : MSt) (σ' : MSt) (hf : f_X8_set o p1 p2 p3 σ = some σ') : k_Mv l yX8_set wsX8_set rmX8_set G Y w [.ref (ad o), .int p1, .int p2, .int p3] σ σ' := by
  refine k_ofv (own := RX8) (cc := cX8_set) (maxL := 4) none (by decide) rfl rfl (Nat.le_of_ble_eq_true rfl) ?_
  intro p e s m below meth c A C ls hl hw
  have hx := C.1
  have hb := C.2.1
  have hown := C.2.2.2.2.1
  have hts := C.2.2.2.2.2.1
  have hks := C.2.2.2.2.2.2.1
  have hl : lv_has ls 4 [(0, .ref (ad o)), (1, .int p1), (2, .int p2), (3, .int p3)] := hl
  have b40 : ∀ (y1 : Int32) (σ : MSt) (H : Heap) (locs : List Loc) (ls : Array Slot), lv_has ls 4 [] → k_W G w A s.heap σ H locs → f_X8_set_b40 o y1 σ = some σ' → W p l e rmX8_set s m _ below meth c H locs 0 0 (MQ below (k_Qv G w A σ') _ s 0 0 A) (F0 m 40 ls [.int y1, .ref (ad o)]) := by
    intro y1 σ H locs ls hl hw hf
    unfold f_X8_set_b40 at hf
    refine k_put C hw (LX8_o Lo) (ci := 8) rfl k_in8 tyX8 tyX8_ok nmX8 3 (by decide) lk8_51 rfl ⟨rfl, rfl⟩ rfl dX8_set_40 (fun σ1 eq H locs hw => ?_)
    have hf := k_nmE eq hf
    exact k_vret C hw hf dX8_set_43
  unfold f_X8_set at hf
  refine lv_aload_n hx hb dX8_set_0 rfl (lv_at hl 0 rfl) ?_
  refine lv_iload_n hx hb dX8_set_1 rfl (lv_at hl 1 rfl) ?_
  refine k_put C hw (LX8_o Lo) (ci := 8) rfl k_in8 tyX8 tyX8_ok nmX8 4 (by decide) lk8_42 rfl ⟨rfl, rfl⟩ rfl dX8_set_2 (fun σ2 eq H locs hw => ?_)
  have hf := k_nmE eq hf
  refine lv_aload_n hx hb dX8_set_5 rfl (lv_at hl 0 rfl) ?_
  refine lv_iload_n hx hb dX8_set_6 rfl (lv_at hl 2 rfl) ?_
  refine k_put C hw (LX8_o Lo) (ci := 8) rfl k_in8 tyX8 tyX8_ok nmX8 5 (by decide) lk8_45 rfl ⟨rfl, rfl⟩ rfl dX8_set_7 (fun σ3 eq H locs hw => ?_)
  have hf := k_nmE eq hf
  refine lv_aload_n hx hb dX8_set_10 rfl (lv_at hl 0 rfl) ?_
  refine lv_iload_n hx hb dX8_set_11 rfl (lv_at hl 3 rfl) ?_
  refine k_put C hw (LX8_o Lo) (ci := 8) rfl k_in8 tyX8 tyX8_ok nmX8 6 (by decide) lk8_48 rfl ⟨rfl, rfl⟩ rfl dX8_set_12 (fun σ4 eq H locs hw => ?_)
  have hf := k_nmE eq hf
  refine lv_aload_n hx hb dX8_set_15 rfl (lv_at hl 0 rfl) ?_
  refine lv_aload_n hx hb dX8_set_16 rfl (lv_at hl 0 rfl) ?_
  refine k_get C hw (LX8_o Lo) (ci := 8) rfl k_in8 2 (by decide) lk8_18 (v := .int (σ4.1 o 2)) rfl dX8_set_17 ?_
  refine lv_iconst (v := (-1 : Int32)) hx hb dX8_set_20 (by decide) ?_
  refine lv_icmp_ne (tgt := 29) hx hb dX8_set_21 (by decide) (fun h => ?_) (fun h => ?_)
  · have hf := k_ifF h hf
    refine lv_bipush (v := (99 : Int32)) hx hb dX8_set_29 (by decide) ?_
    refine lv_iload_n hx hb dX8_set_31 rfl (lv_at hl 1 rfl) ?_
    refine lv_aload_n hx hb dX8_set_32 rfl (lv_at hl 0 rfl) ?_
    refine k_get C hw (LX8_o Lo) (ci := 8) rfl k_in8 2 (by decide) lk8_18 (v := .int (σ4.1 o 2)) rfl dX8_set_33 ?_
    refine lv_isub hx hb dX8_set_36 ?_
    refine k_mmin C hl.1 ml8_33 ms_Lib_Math_min_name mi_Math mc_Lib_Math_min_name (Nat.le_of_ble_eq_true rfl) (Nat.le_of_ble_eq_true rfl) dX8_set_37 ?_
    exact b40 (k_min (99 : Int32) (p1 - (σ4.1 o 2))) σ4 _ _ _ (lv_sub hl [] rfl) hw hf
  · have hf := k_ifT h hf
    refine lv_bipush (v := (99 : Int32)) hx hb dX8_set_24 (by decide) ?_
    refine lv_goto (tgt := 40) hx hb dX8_set_26 (by decide) ?_
    exact b40 (99 : Int32) σ4 _ _ _ (lv_sub hl [] rfl) hw hf
def f_X8_valueOf (o : Nat) (p1 : Int32) (σ : MSt) : Option (Int64 × MSt) :=
  if p1 = (25 : Int32) then
  (some ((((σ.1 o 0)).toInt64), σ))
  else if p1 = (26 : Int32) then
  (some ((((σ.1 o 3)).toInt64), σ))
  else if p1 = (27 : Int32) then
  (some ((((σ.1 o 1)).toInt64), σ))
  else if p1 = (28 : Int32) then
  (some ((((σ.1 o 5)).toInt64), σ))
  else if p1 = (29 : Int32) then
  (some ((((σ.1 o 4)).toInt64), σ))
  else if p1 = (30 : Int32) then
  (some ((((σ.1 o 7)).toInt64), σ))
  else 
  (some ((((σ.1 o 6)).toInt64), σ))
def rmX8_valueOf : Room := { frames := 0, cells := 0, slots := 0, locals := 0 }
set_option maxHeartbeats 4000000 in
set_option maxRecDepth 100000 in
theorem c_X8_valueOf (l : Launch) (G : va_G) (Y : CY) (w : MSt → va_W) (ad : Nat → Nat) (o : Nat) (Lo : LayX8 ad w Y o) (p1 : Int32) (σ : MSt) (r : Int64) (σ' : MSt) (hf : f_X8_valueOf o p1 σ = some (r, σ')) : k_Ml l yX8_valueOf wsX8_valueOf rmX8_valueOf G Y w [.ref (ad o), .int p1] σ r σ' := by
  refine k_ofl (own := RX8) (cc := cX8_valueOf) (maxL := 2) (some .long) (by decide) rfl rfl (Nat.le_of_ble_eq_true rfl) ?_
  intro p e s m below meth c A C ls hl hw
  have hx := C.1
  have hb := C.2.1
  have hown := C.2.2.2.2.1
  have hts := C.2.2.2.2.2.1
  have hks := C.2.2.2.2.2.2.1
  have hl : lv_has ls 2 [(0, .ref (ad o)), (1, .int p1)] := hl
  unfold f_X8_valueOf at hf
  refine lv_iload_n hx hb dX8_valueOf_0 rfl (lv_at hl 1 rfl) ?_
  obtain ⟨z, ez⟩ : ∃ z : Int32, z = p1 := ⟨_, rfl⟩
  rw [← ez] at hf ⊢
  by_cases h25 : z = (25 : Int32)
  · have hf := k_ifT h25 hf
    refine lv_tableIn (tgt := 40) hx hb dX8_valueOf_1 (by rw [h25]; decide) (by rw [h25]; decide) (by rw [h25]; rfl) (by decide) ?_
    refine lv_aload_n hx hb dX8_valueOf_40 rfl (lv_at hl 0 rfl) ?_
    refine k_get C hw (LX8_o Lo) (ci := 8) rfl k_in8 0 (by decide) lk8_9 (v := .int (σ.1 o 0)) rfl dX8_valueOf_41 ?_
    refine lv_i2l (v := (((σ.1 o 0)).toInt64)) hx hb dX8_valueOf_44 rfl ?_
    exact k_lret C hw hf dX8_valueOf_45
  have hf := k_ifF h25 hf
  by_cases h26 : z = (26 : Int32)
  · have hf := k_ifT h26 hf
    refine lv_tableIn (tgt := 46) hx hb dX8_valueOf_1 (by rw [h26]; decide) (by rw [h26]; decide) (by rw [h26]; rfl) (by decide) ?_
    refine lv_aload_n hx hb dX8_valueOf_46 rfl (lv_at hl 0 rfl) ?_
    refine k_get C hw (LX8_o Lo) (ci := 8) rfl k_in8 3 (by decide) lk8_51 (v := .int (σ.1 o 3)) rfl dX8_valueOf_47 ?_
    refine lv_i2l (v := (((σ.1 o 3)).toInt64)) hx hb dX8_valueOf_50 rfl ?_
    exact k_lret C hw hf dX8_valueOf_51
  have hf := k_ifF h26 hf
  by_cases h27 : z = (27 : Int32)
  · have hf := k_ifT h27 hf
    refine lv_tableIn (tgt := 52) hx hb dX8_valueOf_1 (by rw [h27]; decide) (by rw [h27]; decide) (by rw [h27]; rfl) (by decide) ?_
    refine lv_aload_n hx hb dX8_valueOf_52 rfl (lv_at hl 0 rfl) ?_
    refine k_get C hw (LX8_o Lo) (ci := 8) rfl k_in8 1 (by decide) lk8_15 (v := .int (σ.1 o 1)) rfl dX8_valueOf_53 ?_
    refine lv_i2l (v := (((σ.1 o 1)).toInt64)) hx hb dX8_valueOf_56 rfl ?_
    exact k_lret C hw hf dX8_valueOf_57
  have hf := k_ifF h27 hf
  by_cases h28 : z = (28 : Int32)
  · have hf := k_ifT h28 hf
    refine lv_tableIn (tgt := 58) hx hb dX8_valueOf_1 (by rw [h28]; decide) (by rw [h28]; decide) (by rw [h28]; rfl) (by decide) ?_
    refine lv_aload_n hx hb dX8_valueOf_58 rfl (lv_at hl 0 rfl) ?_
    refine k_get C hw (LX8_o Lo) (ci := 8) rfl k_in8 5 (by decide) lk8_45 (v := .int (σ.1 o 5)) rfl dX8_valueOf_59 ?_
    refine lv_i2l (v := (((σ.1 o 5)).toInt64)) hx hb dX8_valueOf_62 rfl ?_
    exact k_lret C hw hf dX8_valueOf_63
  have hf := k_ifF h28 hf
  by_cases h29 : z = (29 : Int32)
  · have hf := k_ifT h29 hf
    refine lv_tableIn (tgt := 64) hx hb dX8_valueOf_1 (by rw [h29]; decide) (by rw [h29]; decide) (by rw [h29]; rfl) (by decide) ?_
    refine lv_aload_n hx hb dX8_valueOf_64 rfl (lv_at hl 0 rfl) ?_
    refine k_get C hw (LX8_o Lo) (ci := 8) rfl k_in8 4 (by decide) lk8_42 (v := .int (σ.1 o 4)) rfl dX8_valueOf_65 ?_
    refine lv_i2l (v := (((σ.1 o 4)).toInt64)) hx hb dX8_valueOf_68 rfl ?_
    exact k_lret C hw hf dX8_valueOf_69
  have hf := k_ifF h29 hf
  by_cases h30 : z = (30 : Int32)
  · have hf := k_ifT h30 hf
    refine lv_tableIn (tgt := 70) hx hb dX8_valueOf_1 (by rw [h30]; decide) (by rw [h30]; decide) (by rw [h30]; rfl) (by decide) ?_
    refine lv_aload_n hx hb dX8_valueOf_70 rfl (lv_at hl 0 rfl) ?_
    refine k_get C hw (LX8_o Lo) (ci := 8) rfl k_in8 7 (by decide) lk8_54 (v := .int (σ.1 o 7)) rfl dX8_valueOf_71 ?_
    refine lv_i2l (v := (((σ.1 o 7)).toInt64)) hx hb dX8_valueOf_74 rfl ?_
    exact k_lret C hw hf dX8_valueOf_75
  have hf := k_ifF h30 hf
  refine lv_tableOut (tgt := 76) hx hb dX8_valueOf_1 (k_tout (fun k q1 q2 q3 => ?_)) (by decide) ?_
  · have q4 : z = Int32.ofInt k := by rw [← q3, Int32.ofInt_toInt]
    have q5 : k = 25 ∨ k = 26 ∨ k = 27 ∨ k = 28 ∨ k = 29 ∨ k = 30 := by omega
    rcases q5 with rfl | rfl | rfl | rfl | rfl | rfl
    · exact h25 q4
    · exact h26 q4
    · exact h27 q4
    · exact h28 q4
    · exact h29 q4
    · exact h30 q4
  refine lv_aload_n hx hb dX8_valueOf_76 rfl (lv_at hl 0 rfl) ?_
  refine k_get C hw (LX8_o Lo) (ci := 8) rfl k_in8 6 (by decide) lk8_48 (v := .int (σ.1 o 6)) rfl dX8_valueOf_77 ?_
  refine lv_i2l (v := (((σ.1 o 6)).toInt64)) hx hb dX8_valueOf_80 rfl ?_
  exact k_lret C hw hf dX8_valueOf_81
def f_X5_drag_b28 (o : Nat)  (σ : MSt) : Option MSt :=
  some σ
def f_X5_drag (o : Nat) (p1 : Int32) (σ : MSt) : Option MSt :=
  if p1 < 0 then
  (f_X5_drag_b28 o σ)
  else
  (if (8 : Int32) ≤ p1 then
  (f_X5_drag_b28 o σ)
  else
  (k_ck (k_inb p1 8) <|
  k_ck (k_inb p1 8) <|
  k_nm (mI σ (o + 1) (p1).toNatClampNeg (k_max (0 : Int32) ((σ.1 (o + 1) (p1).toNatClampNeg) - (2 : Int32)))) fun σ1 =>
  f_X5_drag_b28 o σ1))
def rmX5_drag : Room := { frames := 1, cells := 0, slots := 0, locals := 23 }
set_option maxHeartbeats 4000000 in
set_option maxRecDepth 100000 in
theorem c_X5_drag (l : Launch) (G : va_G) (Y : CY) (w : MSt → va_W) (ad : Nat → Nat) (o : Nat) (Lo : LayX5 ad w Y o) (p1 : Int32) (σ : MSt) (σ' : MSt) (hf : f_X5_drag o p1 σ = some σ') : k_Mv l yX5_drag wsX5_drag rmX5_drag G Y w [.ref (ad o), .int p1] σ σ' := by
  refine k_ofv (own := RX5) (cc := cX5_drag) (maxL := 2) none (by decide) rfl rfl (Nat.le_of_ble_eq_true rfl) ?_
  intro p e s m below meth c A C ls hl hw
  have hx := C.1
  have hb := C.2.1
  have hown := C.2.2.2.2.1
  have hts := C.2.2.2.2.2.1
  have hks := C.2.2.2.2.2.2.1
  have hl : lv_has ls 2 [(0, .ref (ad o)), (1, .int p1)] := hl
  have b28 : ∀ (σ : MSt) (H : Heap) (locs : List Loc) (ls : Array Slot), lv_has ls 2 [] → k_W G w A s.heap σ H locs → f_X5_drag_b28 o σ = some σ' → W p l e rmX5_drag s m _ below meth c H locs 0 0 (MQ below (k_Qv G w A σ') _ s 0 0 A) (F0 m 28 ls []) := by
    intro σ H locs ls hl hw hf
    unfold f_X5_drag_b28 at hf
    exact k_vret C hw hf dX5_drag_28
  unfold f_X5_drag at hf
  refine lv_iload_n hx hb dX5_drag_0 rfl (lv_at hl 1 rfl) ?_
  refine lv_if_lt (tgt := 28) hx hb dX5_drag_1 (by decide) (fun h => ?_) (fun h => ?_)
  · have hf := k_ifT h hf
    exact b28 σ _ _ _ (lv_sub hl [] rfl) hw hf
  · have hf := k_ifF h hf
    refine lv_iload_n hx hb dX5_drag_4 rfl (lv_at hl 1 rfl) ?_
    refine lv_bipush (v := (8 : Int32)) hx hb dX5_drag_5 (by decide) ?_
    refine lv_icmp_ge (tgt := 28) hx hb dX5_drag_7 (by decide) (fun h => ?_) (fun h => ?_)
    · have hf := k_ifT h hf
      exact b28 σ _ _ _ (lv_sub hl [] rfl) hw hf
    · have hf := k_ifF h hf
      refine lv_aload_n hx hb dX5_drag_10 rfl (lv_at hl 0 rfl) ?_
      refine k_get C hw (LX5_o Lo) (ci := 5) rfl k_in5 0 (by decide) lk5_9 (v := .ref (ad (o + 1))) rfl dX5_drag_11 ?_
      refine lv_iload_n hx hb dX5_drag_14 rfl (lv_at hl 1 rfl) ?_
      refine lv_iconst (v := (0 : Int32)) hx hb dX5_drag_15 (by decide) ?_
      refine lv_aload_n hx hb dX5_drag_16 rfl (lv_at hl 0 rfl) ?_
      refine k_get C hw (LX5_o Lo) (ci := 5) rfl k_in5 0 (by decide) lk5_9 (v := .ref (ad (o + 1))) rfl dX5_drag_17 ?_
      refine lv_iload_n hx hb dX5_drag_20 rfl (lv_at hl 1 rfl) ?_
      obtain ⟨hi, hf⟩ := k_ckE hf
      refine k_iald C hw (LX5_1 Lo) hi dX5_drag_21 ?_
      refine lv_iconst (v := (2 : Int32)) hx hb dX5_drag_22 (by decide) ?_
      refine lv_isub hx hb dX5_drag_23 ?_
      refine k_mmax C hl.1 ml5_66 ms_Lib_Math_max_name mi_Math mc_Lib_Math_max_name (Nat.le_of_ble_eq_true rfl) (Nat.le_of_ble_eq_true rfl) dX5_drag_24 ?_
      obtain ⟨hi, hf⟩ := k_ckE hf
      refine k_iast C hw (LX5_1 Lo) hi dX5_drag_27 (fun σ1 eq H locs hw => ?_)
      have hf := k_nmE eq hf
      exact b28 σ1 _ _ _ (lv_sub hl [] rfl) hw hf
def f_X8_add (o : Nat) (p1 : Int32) (p2 : Int32) (σ : MSt) : Option MSt :=
  k_nm (mI σ o 0 (k_min (9999 : Int32) ((σ.1 o 0) + p1))) fun σ1 =>
  k_nm (mI σ1 o 1 ((σ1.1 o 1) + (1 : Int32))) fun σ2 =>
  k_nm (mI σ2 o 2 (k_max (σ2.1 o 2) p2)) fun σ3 =>
  some σ3
def rmX8_add : Room := { frames := 1, cells := 0, slots := 0, locals := 23 }
set_option maxHeartbeats 4000000 in
set_option maxRecDepth 100000 in
theorem c_X8_add (l : Launch) (G : va_G) (Y : CY) (w : MSt → va_W) (ad : Nat → Nat) (o : Nat) (Lo : LayX8 ad w Y o) (p1 : Int32) (p2 : Int32) (σ : MSt) (σ' : MSt) (hf : f_X8_add o p1 p2 σ = some σ') : k_Mv l yX8_add wsX8_add rmX8_add G Y w [.ref (ad o), .int p1, .int p2] σ σ' := by
  refine k_ofv (own := RX8) (cc := cX8_add) (maxL := 3) none (by decide) rfl rfl (Nat.le_of_ble_eq_true rfl) ?_
  intro p e s m below meth c A C ls hl hw
  have hx := C.1
  have hb := C.2.1
  have hown := C.2.2.2.2.1
  have hts := C.2.2.2.2.2.1
  have hks := C.2.2.2.2.2.2.1
  have hl : lv_has ls 3 [(0, .ref (ad o)), (1, .int p1), (2, .int p2)] := hl
  unfold f_X8_add at hf
  refine lv_aload_n hx hb dX8_add_0 rfl (lv_at hl 0 rfl) ?_
  refine lv_sipush (v := (9999 : Int32)) hx hb dX8_add_1 (by decide) ?_
  refine lv_aload_n hx hb dX8_add_4 rfl (lv_at hl 0 rfl) ?_
  refine k_get C hw (LX8_o Lo) (ci := 8) rfl k_in8 0 (by decide) lk8_9 (v := .int (σ.1 o 0)) rfl dX8_add_5 ?_
  refine lv_iload_n hx hb dX8_add_8 rfl (lv_at hl 1 rfl) ?_
  refine lv_iadd hx hb dX8_add_9 ?_
  refine k_mmin C hl.1 ml8_33 ms_Lib_Math_min_name mi_Math mc_Lib_Math_min_name (Nat.le_of_ble_eq_true rfl) (Nat.le_of_ble_eq_true rfl) dX8_add_10 ?_
  refine k_put C hw (LX8_o Lo) (ci := 8) rfl k_in8 tyX8 tyX8_ok nmX8 0 (by decide) lk8_9 rfl ⟨rfl, rfl⟩ rfl dX8_add_13 (fun σ1 eq H locs hw => ?_)
  have hf := k_nmE eq hf
  refine lv_aload_n hx hb dX8_add_16 rfl (lv_at hl 0 rfl) ?_
  refine lv_dup hx hb dX8_add_17 rfl ?_
  refine k_get C hw (LX8_o Lo) (ci := 8) rfl k_in8 1 (by decide) lk8_15 (v := .int (σ1.1 o 1)) rfl dX8_add_18 ?_
  refine lv_iconst (v := (1 : Int32)) hx hb dX8_add_21 (by decide) ?_
  refine lv_iadd hx hb dX8_add_22 ?_
  refine k_put C hw (LX8_o Lo) (ci := 8) rfl k_in8 tyX8 tyX8_ok nmX8 1 (by decide) lk8_15 rfl ⟨rfl, rfl⟩ rfl dX8_add_23 (fun σ2 eq H locs hw => ?_)
  have hf := k_nmE eq hf
  refine lv_aload_n hx hb dX8_add_26 rfl (lv_at hl 0 rfl) ?_
  refine lv_aload_n hx hb dX8_add_27 rfl (lv_at hl 0 rfl) ?_
  refine k_get C hw (LX8_o Lo) (ci := 8) rfl k_in8 2 (by decide) lk8_18 (v := .int (σ2.1 o 2)) rfl dX8_add_28 ?_
  refine lv_iload_n hx hb dX8_add_31 rfl (lv_at hl 2 rfl) ?_
  refine k_mmax C hl.1 ml8_39 ms_Lib_Math_max_name mi_Math mc_Lib_Math_max_name (Nat.le_of_ble_eq_true rfl) (Nat.le_of_ble_eq_true rfl) dX8_add_32 ?_
  refine k_put C hw (LX8_o Lo) (ci := 8) rfl k_in8 tyX8 tyX8_ok nmX8 2 (by decide) lk8_18 rfl ⟨rfl, rfl⟩ rfl dX8_add_35 (fun σ3 eq H locs hw => ?_)
  have hf := k_nmE eq hf
  exact k_vret C hw hf dX8_add_38
def f_X5_begin_b2_s (o : Nat) (o1 : Nat) (r2 : Int32 → MSt → Option MSt) (x2 : Int32) (σ : MSt) : Option MSt :=
  if (8 : Int32) ≤ x2 then
  (k_nm (mI σ o 3 (0 : Int32)) fun σ1 =>
  k_bd (f_X0_firstBay o1 σ1) fun r3 σ2 =>
  k_nm (mI σ2 o 4 r3) fun σ4 =>
  k_nm (mI σ4 o 5 (-1 : Int32)) fun σ5 =>
  k_nm (mI σ5 o 6 (-1 : Int32)) fun σ6 =>
  k_nm (mI σ6 o 7 (0 : Int32)) fun σ7 =>
  k_nm (mJ σ7 o 8 (((σ7.1 o1 14)).toInt64)) fun σ8 =>
  k_nm (mI σ8 o 9 (0 : Int32)) fun σ9 =>
  k_nm (mI σ9 o 10 (0 : Int32)) fun σ10 =>
  k_nm (mI σ10 o 11 (0 : Int32)) fun σ11 =>
  some σ11)
  else
  (k_ck (k_inb x2 8) <|
  k_nm (mI σ (o + 1) (x2).toNatClampNeg (0 : Int32)) fun σ12 =>
  k_ck (k_inb x2 8) <|
  k_nm (mI σ12 (o + 2) (x2).toNatClampNeg (0 : Int32)) fun σ13 =>
  k_ck (k_inb x2 8) <|
  k_nm (mI σ13 (o + 3) (x2).toNatClampNeg (-1 : Int32)) fun σ14 =>
  k_nm (x2 + (1 : Int32)) fun x15 =>
  r2 x15 σ14)
def f_X5_begin_b2 (o : Nat) (o1 : Nat) : Nat → Int32 → MSt → Option MSt
  | 0 => fun _ _ => none
  | n + 1 => f_X5_begin_b2_s o o1 (f_X5_begin_b2 o o1 n)
def f_X5_begin (o : Nat) (o1 : Nat)  (σ : MSt) : Option MSt :=
  f_X5_begin_b2 o o1 FU (0 : Int32) σ
def rmX5_begin : Room := { frames := 1, cells := 0, slots := 0, locals := 20 }
set_option maxHeartbeats 4000000 in
set_option maxRecDepth 100000 in
theorem c_X5_begin (l : Launch) (G : va_G) (Y : CY) (w : MSt → va_W) (ad : Nat → Nat) (o : Nat) (o1 : Nat) (Lo : LayX5 ad w Y o) (L1 : LayX0 ad w Y o1)  (σ : MSt) (σ' : MSt) (hf : f_X5_begin o o1 σ = some σ') : k_Mv l yX5_begin wsX5_begin rmX5_begin G Y w [.ref (ad o), .ref (ad o1)] σ σ' := by
  refine k_ofv (own := RX5) (cc := cX5_begin) (maxL := 3) none (by decide) rfl rfl (Nat.le_of_ble_eq_true rfl) ?_
  intro p e s m below meth c A C ls hl hw
  have hx := C.1
  have hb := C.2.1
  have hown := C.2.2.2.2.1
  have hts := C.2.2.2.2.2.1
  have hks := C.2.2.2.2.2.2.1
  have hl : lv_has ls 3 [(0, .ref (ad o)), (1, .ref (ad o1))] := hl
  have b2 : ∀ (n2 : Nat) (x2 : Int32) (σ : MSt) (H : Heap) (locs : List Loc) (ls : Array Slot), lv_has ls 3 [(0, .ref (ad o)), (1, .ref (ad o1)), (2, .int x2)] → k_W G w A s.heap σ H locs → f_X5_begin_b2 o o1 n2 x2 σ = some σ' → W p l e rmX5_begin s m _ below meth c H locs 0 0 (MQ below (k_Qv G w A σ') _ s 0 0 A) (F0 m 2 ls []) := by
    intro n2
    induction n2 with
    | zero =>
      intro x2 σ H locs ls hl hw hf
      have hf : (none : Option MSt) = some σ' := hf
      cases hf
    | succ n2 ih2 =>
      intro x2 σ H locs ls hl hw hf
      have hf : f_X5_begin_b2_s o o1 (f_X5_begin_b2 o o1 n2) x2 σ = some σ' := hf
      unfold f_X5_begin_b2_s at hf
      refine lv_iload_n hx hb dX5_begin_2 rfl (lv_at hl 2 rfl) ?_
      refine lv_bipush (v := (8 : Int32)) hx hb dX5_begin_3 (by decide) ?_
      refine lv_icmp_ge (tgt := 35) hx hb dX5_begin_5 (by decide) (fun h => ?_) (fun h => ?_)
      · have hf := k_ifT h hf
        refine lv_aload_n hx hb dX5_begin_35 rfl (lv_at hl 0 rfl) ?_
        refine lv_iconst (v := (0 : Int32)) hx hb dX5_begin_36 (by decide) ?_
        refine k_put C hw (LX5_o Lo) (ci := 5) rfl k_in5 tyX5 tyX5_ok nmX5 3 (by decide) lk5_31 rfl ⟨rfl, rfl⟩ rfl dX5_begin_37 (fun σ1 eq H locs hw => ?_)
        have hf := k_nmE eq hf
        refine lv_aload_n hx hb dX5_begin_40 rfl (lv_at hl 0 rfl) ?_
        refine lv_aload_n hx hb dX5_begin_41 rfl (lv_at hl 1 rfl) ?_
        obtain ⟨r3, σ2, hq, hf⟩ := k_bdE hf
        refine k_callVi C hw (c_X0_firstBay l G Y w ad o1 L1 σ1 r3 σ2 hq) (cwV 0 hts gX5_begin_X0_firstBay rfl rfl rfl (by decide +kernel) ⟨Nat.le_of_ble_eq_true rfl, Nat.le_of_ble_eq_true rfl⟩) (k_recv C hw (LX0_o L1) rfl) rfl hl.1 rfl (Nat.le_of_ble_eq_true rfl) dX5_begin_42 (fun H locs hw => ?_)
        refine k_put C hw (LX5_o Lo) (ci := 5) rfl k_in5 tyX5 tyX5_ok nmX5 4 (by decide) lk5_21 rfl ⟨rfl, rfl⟩ rfl dX5_begin_45 (fun σ4 eq H locs hw => ?_)
        have hf := k_nmE eq hf
        refine lv_aload_n hx hb dX5_begin_48 rfl (lv_at hl 0 rfl) ?_
        refine lv_iconst (v := (-1 : Int32)) hx hb dX5_begin_49 (by decide) ?_
        refine k_put C hw (LX5_o Lo) (ci := 5) rfl k_in5 tyX5 tyX5_ok nmX5 5 (by decide) lk5_25 rfl ⟨rfl, rfl⟩ rfl dX5_begin_50 (fun σ5 eq H locs hw => ?_)
        have hf := k_nmE eq hf
        refine lv_aload_n hx hb dX5_begin_53 rfl (lv_at hl 0 rfl) ?_
        refine lv_iconst (v := (-1 : Int32)) hx hb dX5_begin_54 (by decide) ?_
        refine k_put C hw (LX5_o Lo) (ci := 5) rfl k_in5 tyX5 tyX5_ok nmX5 6 (by decide) lk5_28 rfl ⟨rfl, rfl⟩ rfl dX5_begin_55 (fun σ6 eq H locs hw => ?_)
        have hf := k_nmE eq hf
        refine lv_aload_n hx hb dX5_begin_58 rfl (lv_at hl 0 rfl) ?_
        refine lv_iconst (v := (0 : Int32)) hx hb dX5_begin_59 (by decide) ?_
        refine k_put C hw (LX5_o Lo) (ci := 5) rfl k_in5 tyX5 tyX5_ok nmX5 7 (by decide) lk5_40 rfl ⟨rfl, rfl⟩ rfl dX5_begin_60 (fun σ7 eq H locs hw => ?_)
        have hf := k_nmE eq hf
        refine lv_aload_n hx hb dX5_begin_63 rfl (lv_at hl 0 rfl) ?_
        refine lv_aload_n hx hb dX5_begin_64 rfl (lv_at hl 1 rfl) ?_
        refine k_getN C hw (LX0_o L1) (ci := 0) rfl k_in0 14 (by decide) ln5_44 (v := .int (σ7.1 o1 14)) rfl dX5_begin_65 ?_
        refine lv_i2l (v := (((σ7.1 o1 14)).toInt64)) hx hb dX5_begin_68 rfl ?_
        refine k_putJ C hw (LX5_o Lo) (ci := 5) rfl k_in5 tyX5 tyX5_ok nmX5 8 (by decide) lk5_47 rfl ⟨rfl, rfl⟩ rfl dX5_begin_69 (fun σ8 eq H locs hw => ?_)
        have hf := k_nmE eq hf
        refine lv_aload_n hx hb dX5_begin_72 rfl (lv_at hl 0 rfl) ?_
        refine lv_iconst (v := (0 : Int32)) hx hb dX5_begin_73 (by decide) ?_
        refine k_put C hw (LX5_o Lo) (ci := 5) rfl k_in5 tyX5 tyX5_ok nmX5 9 (by decide) lk5_51 rfl ⟨rfl, rfl⟩ rfl dX5_begin_74 (fun σ9 eq H locs hw => ?_)
        have hf := k_nmE eq hf
        refine lv_aload_n hx hb dX5_begin_77 rfl (lv_at hl 0 rfl) ?_
        refine lv_iconst (v := (0 : Int32)) hx hb dX5_begin_78 (by decide) ?_
        refine k_put C hw (LX5_o Lo) (ci := 5) rfl k_in5 tyX5 tyX5_ok nmX5 10 (by decide) lk5_54 rfl ⟨rfl, rfl⟩ rfl dX5_begin_79 (fun σ10 eq H locs hw => ?_)
        have hf := k_nmE eq hf
        refine lv_aload_n hx hb dX5_begin_82 rfl (lv_at hl 0 rfl) ?_
        refine lv_iconst (v := (0 : Int32)) hx hb dX5_begin_83 (by decide) ?_
        refine k_put C hw (LX5_o Lo) (ci := 5) rfl k_in5 tyX5 tyX5_ok nmX5 11 (by decide) lk5_57 rfl ⟨rfl, rfl⟩ rfl dX5_begin_84 (fun σ11 eq H locs hw => ?_)
        have hf := k_nmE eq hf
        exact k_vret C hw hf dX5_begin_87
      · have hf := k_ifF h hf
        refine lv_aload_n hx hb dX5_begin_8 rfl (lv_at hl 0 rfl) ?_
        refine k_get C hw (LX5_o Lo) (ci := 5) rfl k_in5 0 (by decide) lk5_9 (v := .ref (ad (o + 1))) rfl dX5_begin_9 ?_
        refine lv_iload_n hx hb dX5_begin_12 rfl (lv_at hl 2 rfl) ?_
        refine lv_iconst (v := (0 : Int32)) hx hb dX5_begin_13 (by decide) ?_
        obtain ⟨hi, hf⟩ := k_ckE hf
        refine k_iast C hw (LX5_1 Lo) hi dX5_begin_14 (fun σ12 eq H locs hw => ?_)
        have hf := k_nmE eq hf
        refine lv_aload_n hx hb dX5_begin_15 rfl (lv_at hl 0 rfl) ?_
        refine k_get C hw (LX5_o Lo) (ci := 5) rfl k_in5 1 (by decide) lk5_15 (v := .ref (ad (o + 2))) rfl dX5_begin_16 ?_
        refine lv_iload_n hx hb dX5_begin_19 rfl (lv_at hl 2 rfl) ?_
        refine lv_iconst (v := (0 : Int32)) hx hb dX5_begin_20 (by decide) ?_
        obtain ⟨hi, hf⟩ := k_ckE hf
        refine k_iast C hw (LX5_2 Lo) hi dX5_begin_21 (fun σ13 eq H locs hw => ?_)
        have hf := k_nmE eq hf
        refine lv_aload_n hx hb dX5_begin_22 rfl (lv_at hl 0 rfl) ?_
        refine k_get C hw (LX5_o Lo) (ci := 5) rfl k_in5 2 (by decide) lk5_18 (v := .ref (ad (o + 3))) rfl dX5_begin_23 ?_
        refine lv_iload_n hx hb dX5_begin_26 rfl (lv_at hl 2 rfl) ?_
        refine lv_iconst (v := (-1 : Int32)) hx hb dX5_begin_27 (by decide) ?_
        obtain ⟨hi, hf⟩ := k_ckE hf
        refine k_iast C hw (LX5_3 Lo) hi dX5_begin_28 (fun σ14 eq H locs hw => ?_)
        have hf := k_nmE eq hf
        obtain ⟨x15, ex⟩ : ∃ y : Int32, y = (x2 + (1 : Int32)) := ⟨_, rfl⟩
        have hf := k_nmE ex hf
        refine lv_iinc (v := x15) (lv' := [(2, .int x15), (0, .ref (ad o)), (1, .ref (ad o1))]) hx hb dX5_begin_29 hl (k := 2) rfl (by rw [ex]; rfl) (by decide) rfl (fun ls hl => ?_)
        refine lv_goto (tgt := 2) hx hb dX5_begin_32 (by decide) ?_
        exact ih2 x15 σ14 _ _ _ (lv_sub hl [1, 2, 0] rfl) hw hf
  unfold f_X5_begin at hf
  refine lv_iconst (v := (0 : Int32)) hx hb dX5_begin_0 (by decide) ?_
  refine lv_istore_n (lv' := [(2, .int (0 : Int32)), (0, .ref (ad o)), (1, .ref (ad o1))]) hx hb dX5_begin_1 rfl hl (by decide) rfl (fun ls hl => ?_)
  exact b2 FU (0 : Int32) σ _ _ _ (lv_sub hl [1, 2, 0] rfl) hw hf
def f_X5_daysSince_b20 (o : Nat)  (σ : MSt) : Option (Int32 × MSt) :=
  some ((99 : Int32), σ)
def f_X5_daysSince (o : Nat) (p1 : Int32) (σ : MSt) : Option (Int32 × MSt) :=
  if p1 < 0 then
  (f_X5_daysSince_b20 o σ)
  else
  (if (8 : Int32) ≤ p1 then
  (f_X5_daysSince_b20 o σ)
  else
  (k_ck (k_inb p1 8) <|
  if (σ.1 (o + 3) (p1).toNatClampNeg) = (-1 : Int32) then
  (f_X5_daysSince_b20 o σ)
  else
  (k_ck (k_inb p1 8) <|
  some ((k_min (99 : Int32) ((σ.1 o 3) - (σ.1 (o + 3) (p1).toNatClampNeg))), σ))))
def rmX5_daysSince : Room := { frames := 1, cells := 0, slots := 0, locals := 23 }
set_option maxHeartbeats 4000000 in
set_option maxRecDepth 100000 in
theorem c_X5_daysSince (l : Launch) (G : va_G) (Y : CY) (w : MSt → va_W) (ad : Nat → Nat) (o : Nat) (Lo : LayX5 ad w Y o) (p1 : Int32) (σ : MSt) (r : Int32) (σ' : MSt) (hf : f_X5_daysSince o p1 σ = some (r, σ')) : k_Mi l yX5_daysSince wsX5_daysSince rmX5_daysSince G Y w [.ref (ad o), .int p1] σ r σ' := by
  refine k_ofi (own := RX5) (cc := cX5_daysSince) (maxL := 2) (some .int) (by decide) rfl rfl (Nat.le_of_ble_eq_true rfl) ?_
  intro p e s m below meth c A C ls hl hw
  have hx := C.1
  have hb := C.2.1
  have hown := C.2.2.2.2.1
  have hts := C.2.2.2.2.2.1
  have hks := C.2.2.2.2.2.2.1
  have hl : lv_has ls 2 [(0, .ref (ad o)), (1, .int p1)] := hl
  have b20 : ∀ (σ : MSt) (H : Heap) (locs : List Loc) (ls : Array Slot), lv_has ls 2 [] → k_W G w A s.heap σ H locs → f_X5_daysSince_b20 o σ = some (r, σ') → W p l e rmX5_daysSince s m _ below meth c H locs 0 0 (MQ below (k_Qi G w A r σ') _ s 0 0 A) (F0 m 20 ls []) := by
    intro σ H locs ls hl hw hf
    unfold f_X5_daysSince_b20 at hf
    refine lv_bipush (v := (99 : Int32)) hx hb dX5_daysSince_20 (by decide) ?_
    exact k_iret C hw hf dX5_daysSince_22
  unfold f_X5_daysSince at hf
  refine lv_iload_n hx hb dX5_daysSince_0 rfl (lv_at hl 1 rfl) ?_
  refine lv_if_lt (tgt := 20) hx hb dX5_daysSince_1 (by decide) (fun h => ?_) (fun h => ?_)
  · have hf := k_ifT h hf
    exact b20 σ _ _ _ (lv_sub hl [] rfl) hw hf
  · have hf := k_ifF h hf
    refine lv_iload_n hx hb dX5_daysSince_4 rfl (lv_at hl 1 rfl) ?_
    refine lv_bipush (v := (8 : Int32)) hx hb dX5_daysSince_5 (by decide) ?_
    refine lv_icmp_ge (tgt := 20) hx hb dX5_daysSince_7 (by decide) (fun h => ?_) (fun h => ?_)
    · have hf := k_ifT h hf
      exact b20 σ _ _ _ (lv_sub hl [] rfl) hw hf
    · have hf := k_ifF h hf
      refine lv_aload_n hx hb dX5_daysSince_10 rfl (lv_at hl 0 rfl) ?_
      refine k_get C hw (LX5_o Lo) (ci := 5) rfl k_in5 2 (by decide) lk5_18 (v := .ref (ad (o + 3))) rfl dX5_daysSince_11 ?_
      refine lv_iload_n hx hb dX5_daysSince_14 rfl (lv_at hl 1 rfl) ?_
      obtain ⟨hi, hf⟩ := k_ckE hf
      refine k_iald C hw (LX5_3 Lo) hi dX5_daysSince_15 ?_
      refine lv_iconst (v := (-1 : Int32)) hx hb dX5_daysSince_16 (by decide) ?_
      refine lv_icmp_ne (tgt := 23) hx hb dX5_daysSince_17 (by decide) (fun h => ?_) (fun h => ?_)
      · have hf := k_ifF h hf
        refine lv_bipush (v := (99 : Int32)) hx hb dX5_daysSince_23 (by decide) ?_
        refine lv_aload_n hx hb dX5_daysSince_25 rfl (lv_at hl 0 rfl) ?_
        refine k_get C hw (LX5_o Lo) (ci := 5) rfl k_in5 3 (by decide) lk5_31 (v := .int (σ.1 o 3)) rfl dX5_daysSince_26 ?_
        refine lv_aload_n hx hb dX5_daysSince_29 rfl (lv_at hl 0 rfl) ?_
        refine k_get C hw (LX5_o Lo) (ci := 5) rfl k_in5 2 (by decide) lk5_18 (v := .ref (ad (o + 3))) rfl dX5_daysSince_30 ?_
        refine lv_iload_n hx hb dX5_daysSince_33 rfl (lv_at hl 1 rfl) ?_
        obtain ⟨hi, hf⟩ := k_ckE hf
        refine k_iald C hw (LX5_3 Lo) hi dX5_daysSince_34 ?_
        refine lv_isub hx hb dX5_daysSince_35 ?_
        refine k_mmin C hl.1 ml5_60 ms_Lib_Math_min_name mi_Math mc_Lib_Math_min_name (Nat.le_of_ble_eq_true rfl) (Nat.le_of_ble_eq_true rfl) dX5_daysSince_36 ?_
        exact k_iret C hw hf dX5_daysSince_39
      · have hf := k_ifT h hf
        exact b20 σ _ _ _ (lv_sub hl [] rfl) hw hf
def f_X5_leaveFor (o : Nat) (p1 : Int32) (p2 : Int32) (σ : MSt) : Option MSt :=
  k_nm (mI σ o 4 (-1 : Int32)) fun σ1 =>
  k_nm (mI σ1 o 5 p1) fun σ2 =>
  k_nm (mI σ2 o 6 ((σ2.1 o 3) + p2)) fun σ3 =>
  some σ3
def rmX5_leaveFor : Room := { frames := 0, cells := 0, slots := 0, locals := 0 }
set_option maxHeartbeats 4000000 in
set_option maxRecDepth 100000 in
theorem c_X5_leaveFor (l : Launch) (G : va_G) (Y : CY) (w : MSt → va_W) (ad : Nat → Nat) (o : Nat) (Lo : LayX5 ad w Y o) (p1 : Int32) (p2 : Int32) (σ : MSt) (σ' : MSt) (hf : f_X5_leaveFor o p1 p2 σ = some σ') : k_Mv l yX5_leaveFor wsX5_leaveFor rmX5_leaveFor G Y w [.ref (ad o), .int p1, .int p2] σ σ' := by
  refine k_ofv (own := RX5) (cc := cX5_leaveFor) (maxL := 3) none (by decide) rfl rfl (Nat.le_of_ble_eq_true rfl) ?_
  intro p e s m below meth c A C ls hl hw
  have hx := C.1
  have hb := C.2.1
  have hown := C.2.2.2.2.1
  have hts := C.2.2.2.2.2.1
  have hks := C.2.2.2.2.2.2.1
  have hl : lv_has ls 3 [(0, .ref (ad o)), (1, .int p1), (2, .int p2)] := hl
  unfold f_X5_leaveFor at hf
  refine lv_aload_n hx hb dX5_leaveFor_0 rfl (lv_at hl 0 rfl) ?_
  refine lv_iconst (v := (-1 : Int32)) hx hb dX5_leaveFor_1 (by decide) ?_
  refine k_put C hw (LX5_o Lo) (ci := 5) rfl k_in5 tyX5 tyX5_ok nmX5 4 (by decide) lk5_21 rfl ⟨rfl, rfl⟩ rfl dX5_leaveFor_2 (fun σ1 eq H locs hw => ?_)
  have hf := k_nmE eq hf
  refine lv_aload_n hx hb dX5_leaveFor_5 rfl (lv_at hl 0 rfl) ?_
  refine lv_iload_n hx hb dX5_leaveFor_6 rfl (lv_at hl 1 rfl) ?_
  refine k_put C hw (LX5_o Lo) (ci := 5) rfl k_in5 tyX5 tyX5_ok nmX5 5 (by decide) lk5_25 rfl ⟨rfl, rfl⟩ rfl dX5_leaveFor_7 (fun σ2 eq H locs hw => ?_)
  have hf := k_nmE eq hf
  refine lv_aload_n hx hb dX5_leaveFor_10 rfl (lv_at hl 0 rfl) ?_
  refine lv_aload_n hx hb dX5_leaveFor_11 rfl (lv_at hl 0 rfl) ?_
  refine k_get C hw (LX5_o Lo) (ci := 5) rfl k_in5 3 (by decide) lk5_31 (v := .int (σ2.1 o 3)) rfl dX5_leaveFor_12 ?_
  refine lv_iload_n hx hb dX5_leaveFor_15 rfl (lv_at hl 2 rfl) ?_
  refine lv_iadd hx hb dX5_leaveFor_16 ?_
  refine k_put C hw (LX5_o Lo) (ci := 5) rfl k_in5 tyX5 tyX5_ok nmX5 6 (by decide) lk5_28 rfl ⟨rfl, rfl⟩ rfl dX5_leaveFor_17 (fun σ3 eq H locs hw => ?_)
  have hf := k_nmE eq hf
  exact k_vret C hw hf dX5_leaveFor_20
