def f_X12_restOf_b114  (y0 : Int32) (σ : MSt) : Option (Int32 × MSt) :=
  some (y0, σ)
def f_X12_restOf_b91  (r35 : Int32 → Int32 → Int32 → MSt → Option (Int32 × MSt)) (r49 : Int32 → Int32 → Int32 → Int32 → MSt → Option (Int32 × MSt)) (x2 : Int32) (x3 : Int32) (x4 : Int32) (x5 : Int32) (σ : MSt) : Option (Int32 × MSt) :=
  k_nm (x5 + (1 : Int32)) fun u1 =>
  r49 x2 x3 x4 u1 σ
def f_X12_restOf_b49_s  (r35 : Int32 → Int32 → Int32 → MSt → Option (Int32 × MSt)) (r49 : Int32 → Int32 → Int32 → Int32 → MSt → Option (Int32 × MSt)) (x2 : Int32) (x3 : Int32) (x4 : Int32) (x5 : Int32) (σ : MSt) : Option (Int32 × MSt) :=
  k_ck (k_inb (0 : Int32) 18) <|
  if (σ.1 2 ((0 : Int32)).toNatClampNeg) ≤ x5 then
  (k_nm (x4 + (1 : Int32)) fun u1 =>
  r35 x2 x3 u1 σ)
  else
  (k_bd (f_X12_isRest x4 x5 σ) fun q3 σ2 =>
  if q3 = 0 then
  (f_X12_restOf_b91 r35 r49 x2 x3 x4 x5 σ2)
  else
  (if x3 = x2 then
  (some ((((10 : Int32) * x4) + x5), σ2))
  else
  (k_nm (x3 + (1 : Int32)) fun u4 =>
  f_X12_restOf_b91 r35 r49 x2 u4 x4 x5 σ2)))
def f_X12_restOf_b49  (r35 : Int32 → Int32 → Int32 → MSt → Option (Int32 × MSt)) : Nat → Int32 → Int32 → Int32 → Int32 → MSt → Option (Int32 × MSt)
  | 0 => fun _ _ _ _ _ => none
  | n + 1 => f_X12_restOf_b49_s r35 (f_X12_restOf_b49 r35 n)
def f_X12_restOf_b35_s  (r35 : Int32 → Int32 → Int32 → MSt → Option (Int32 × MSt)) (x2 : Int32) (x3 : Int32) (x4 : Int32) (σ : MSt) : Option (Int32 × MSt) :=
  k_ck (k_inb (0 : Int32) 18) <|
  if (σ.1 2 ((0 : Int32)).toNatClampNeg) ≤ x4 then
  (if x2 = (-1 : Int32) then
  (f_X12_restOf_b114 x3 σ)
  else
  (f_X12_restOf_b114 (-2 : Int32) σ))
  else
  (f_X12_restOf_b49 r35 FU x2 x3 x4 (0 : Int32) σ)
def f_X12_restOf_b35  : Nat → Int32 → Int32 → Int32 → MSt → Option (Int32 × MSt)
  | 0 => fun _ _ _ _ => none
  | n + 1 => f_X12_restOf_b35_s (f_X12_restOf_b35 n)
def f_X12_restOf_b2_s  (r2 : Int32 → Int32 → Int32 → MSt → Option (Int32 × MSt)) (x1 : Int32) (x2 : Int32) (x3 : Int32) (σ : MSt) : Option (Int32 × MSt) :=
  k_ck (k_inb (0 : Int32) 18) <|
  if (σ.1 2 ((0 : Int32)).toNatClampNeg) ≤ x3 then
  (f_X12_restOf_b35 FU x2 (0 : Int32) (0 : Int32) σ)
  else
  (k_bd (f_X12_nightsIn x3 x1 σ) fun q2 σ1 =>
  k_ck (k_inb x3 8) <|
  k_nm (mI σ1 33 (x3).toNatClampNeg q2) fun σ3 =>
  k_nm (x3 + (1 : Int32)) fun u4 =>
  r2 x1 x2 u4 σ3)
def f_X12_restOf_b2  : Nat → Int32 → Int32 → Int32 → MSt → Option (Int32 × MSt)
  | 0 => fun _ _ _ _ => none
  | n + 1 => f_X12_restOf_b2_s (f_X12_restOf_b2 n)
def f_X12_restOf  (p1 : Int32) (p2 : Int32) (σ : MSt) : Option (Int32 × MSt) :=
  f_X12_restOf_b2 FU p1 p2 (0 : Int32) σ
def rmX12_restOf : Room := { frames := 7, cells := 0, slots := 0, locals := 172 }
set_option maxHeartbeats 4000000 in
set_option maxRecDepth 100000 in
theorem c_X12_restOf (l : Launch) (G : va_G) (Y : CY) (w : MSt → va_W) (ad : Nat → Nat)  (LM : LayM ad w Y) (p1 : Int32) (p2 : Int32) (σ : MSt) (r : Int32) (σ' : MSt) (hf : f_X12_restOf p1 p2 σ = some (r, σ')) : k_Mi l yX12_restOf wsX12_restOf rmX12_restOf G Y w [.ref (ad 0), .int p1, .int p2] σ r σ' := by
  refine k_ofi (own := RX12) (cc := cX12_restOf) (maxL := 6) (some .int) (by decide) rfl rfl (Nat.le_of_ble_eq_true rfl) ?_
  intro p e s m below meth c A C ls hl hw
  have hx := C.1
  have hb := C.2.1
  have hown := C.2.2.2.2.1
  have hts := C.2.2.2.2.2.1
  have hks := C.2.2.2.2.2.2.1
  have hl : lv_has ls 6 [(0, .ref (ad 0)), (1, .int p1), (2, .int p2)] := hl
  have b114 : ∀ (y0 : Int32) (σ : MSt) (H : Heap) (locs : List Loc) (ls : Array Slot), lv_has ls 6 [] → k_W G w A s.heap σ H locs → f_X12_restOf_b114 y0 σ = some (r, σ') → W p l e rmX12_restOf s m [.ref (ad 0), .int p1, .int p2].toArray below meth c H locs 0 0 (MQ below (k_Qi G w A r σ') [.ref (ad 0), .int p1, .int p2].toArray s 0 0 A) (F0 m 114 ls [.int y0]) := by
    intro y0 σ H locs ls hl hw hf
    unfold f_X12_restOf_b114 at hf
    exact k_iret C hw hf dX12_restOf_114
  have b35 : ∀ (n35 : Nat) (x2 : Int32) (x3 : Int32) (x4 : Int32) (σ : MSt) (H : Heap) (locs : List Loc) (ls : Array Slot), lv_has ls 6 [(0, .ref (ad 0)), (2, .int x2), (3, .int x3), (4, .int x4)] → k_W G w A s.heap σ H locs → f_X12_restOf_b35 n35 x2 x3 x4 σ = some (r, σ') → W p l e rmX12_restOf s m [.ref (ad 0), .int p1, .int p2].toArray below meth c H locs 0 0 (MQ below (k_Qi G w A r σ') [.ref (ad 0), .int p1, .int p2].toArray s 0 0 A) (F0 m 35 ls []) := by
    intro n35
    induction n35 with
    | zero =>
      intro x2 x3 x4 σ H locs ls hl hw hf
      have hf : (none : Option (Int32 × MSt)) = some (r, σ') := hf
      cases hf
    | succ n35 ih35 =>
      have b49 : ∀ (n49 : Nat) (x2 : Int32) (x3 : Int32) (x4 : Int32) (x5 : Int32) (σ : MSt) (H : Heap) (locs : List Loc) (ls : Array Slot), lv_has ls 6 [(0, .ref (ad 0)), (2, .int x2), (3, .int x3), (4, .int x4), (5, .int x5)] → k_W G w A s.heap σ H locs → f_X12_restOf_b49 (f_X12_restOf_b35 n35) n49 x2 x3 x4 x5 σ = some (r, σ') → W p l e rmX12_restOf s m [.ref (ad 0), .int p1, .int p2].toArray below meth c H locs 0 0 (MQ below (k_Qi G w A r σ') [.ref (ad 0), .int p1, .int p2].toArray s 0 0 A) (F0 m 49 ls []) := by
        intro n49
        induction n49 with
        | zero =>
          intro x2 x3 x4 x5 σ H locs ls hl hw hf
          have hf : (none : Option (Int32 × MSt)) = some (r, σ') := hf
          cases hf
        | succ n49 ih49 =>
          have b91 : ∀ (x2 : Int32) (x3 : Int32) (x4 : Int32) (x5 : Int32) (σ : MSt) (H : Heap) (locs : List Loc) (ls : Array Slot), lv_has ls 6 [(0, .ref (ad 0)), (2, .int x2), (3, .int x3), (4, .int x4), (5, .int x5)] → k_W G w A s.heap σ H locs → f_X12_restOf_b91 (f_X12_restOf_b35 n35) (f_X12_restOf_b49 (f_X12_restOf_b35 n35) n49) x2 x3 x4 x5 σ = some (r, σ') → W p l e rmX12_restOf s m [.ref (ad 0), .int p1, .int p2].toArray below meth c H locs 0 0 (MQ below (k_Qi G w A r σ') [.ref (ad 0), .int p1, .int p2].toArray s 0 0 A) (F0 m 91 ls []) := by
            intro x2 x3 x4 x5 σ H locs ls hl hw hf
            unfold f_X12_restOf_b91 at hf
            obtain ⟨u1, ex⟩ : ∃ y : Int32, y = (x5 + (1 : Int32)) := ⟨_, rfl⟩
            have hf := k_nmE ex hf
            refine lv_iinc (v := u1) (lv' := [(5, .int u1), (0, .ref (ad 0)), (2, .int x2), (3, .int x3), (4, .int x4)]) hx hb dX12_restOf_91 hl (k := 4) rfl (by rw [ex]; rfl) (by decide) rfl (fun ls hl => ?_)
            refine lv_goto (tgt := 49) hx hb dX12_restOf_94 (by decide) ?_
            exact ih49 x2 x3 x4 u1 σ _ _ _ (lv_sub hl [1, 2, 3, 4, 0] rfl) hw hf
          intro x2 x3 x4 x5 σ H locs ls hl hw hf
          have hf : f_X12_restOf_b49_s (f_X12_restOf_b35 n35) (f_X12_restOf_b49 (f_X12_restOf_b35 n35) n49) x2 x3 x4 x5 σ = some (r, σ') := hf
          unfold f_X12_restOf_b49_s at hf
          refine lv_iload hx hb dX12_restOf_49 (lv_at hl 4 rfl) ?_
          refine lv_aload_n hx hb dX12_restOf_51 rfl (lv_at hl 0 rfl) ?_
          refine k_get C hw (LM_0 LM) (ci := 12) rfl k_in12 3 (by decide) lk12_13 (v := .ref (ad 2)) rfl dX12_restOf_52 ?_
          refine lv_iconst (v := (0 : Int32)) hx hb dX12_restOf_55 (by decide) ?_
          obtain ⟨hi, hf⟩ := k_ckE hf
          refine k_iald C hw (LM_2 LM) hi dX12_restOf_56 ?_
          refine lv_icmp_ge (tgt := 97) hx hb dX12_restOf_57 (by decide) (fun h => ?_) (fun h => ?_)
          · have hf := k_ifT h hf
            obtain ⟨u1, ex⟩ : ∃ y : Int32, y = (x4 + (1 : Int32)) := ⟨_, rfl⟩
            have hf := k_nmE ex hf
            refine lv_iinc (v := u1) (lv' := [(4, .int u1), (0, .ref (ad 0)), (2, .int x2), (3, .int x3), (5, .int x5)]) hx hb dX12_restOf_97 hl (k := 3) rfl (by rw [ex]; rfl) (by decide) rfl (fun ls hl => ?_)
            refine lv_goto (tgt := 35) hx hb dX12_restOf_100 (by decide) ?_
            exact ih35 x2 x3 u1 σ _ _ _ (lv_sub hl [1, 2, 3, 0] rfl) hw hf
          · have hf := k_ifF h hf
            refine lv_aload_n hx hb dX12_restOf_60 rfl (lv_at hl 0 rfl) ?_
            refine lv_iload hx hb dX12_restOf_61 (lv_at hl 3 rfl) ?_
            refine lv_iload hx hb dX12_restOf_63 (lv_at hl 4 rfl) ?_
            obtain ⟨q3, σ2, hq, hf⟩ := k_bdE hf
            refine k_callVi C hw (c_X12_isRest l G Y w ad LM x4 x5 σ q3 σ2 hq) (cwV 2 hts gX12_restOf_X12_isRest rfl rfl rfl (by decide +kernel) ⟨Nat.le_of_ble_eq_true rfl, Nat.le_of_ble_eq_true rfl⟩) (k_recv C hw (LM_0 LM) rfl) rfl hl.1 rfl (Nat.le_of_ble_eq_true rfl) dX12_restOf_65 (fun H locs hw => ?_)
            refine lv_if_ne (tgt := 74) hx hb dX12_restOf_68 (by decide) (fun h => ?_) (fun h => ?_)
            · have hf := k_ifF h hf
              refine lv_iload_n hx hb dX12_restOf_74 rfl (lv_at hl 2 rfl) ?_
              refine lv_iload_n hx hb dX12_restOf_75 rfl (lv_at hl 1 rfl) ?_
              refine lv_icmp_ne (tgt := 88) hx hb dX12_restOf_76 (by decide) (fun h => ?_) (fun h => ?_)
              · have hf := k_ifF h hf
                obtain ⟨u4, ex⟩ : ∃ y : Int32, y = (x3 + (1 : Int32)) := ⟨_, rfl⟩
                have hf := k_nmE ex hf
                refine lv_iinc (v := u4) (lv' := [(3, .int u4), (0, .ref (ad 0)), (2, .int x2), (4, .int x4), (5, .int x5)]) hx hb dX12_restOf_88 hl (k := 2) rfl (by rw [ex]; rfl) (by decide) rfl (fun ls hl => ?_)
                exact b91 x2 u4 x4 x5 σ2 _ _ _ (lv_sub hl [1, 2, 0, 3, 4] rfl) hw hf
              · have hf := k_ifT h hf
                refine lv_bipush (v := (10 : Int32)) hx hb dX12_restOf_79 (by decide) ?_
                refine lv_iload hx hb dX12_restOf_81 (lv_at hl 3 rfl) ?_
                refine lv_imul hx hb dX12_restOf_83 ?_
                refine lv_iload hx hb dX12_restOf_84 (lv_at hl 4 rfl) ?_
                refine lv_iadd hx hb dX12_restOf_86 ?_
                exact k_iret C hw hf dX12_restOf_87
            · have hf := k_ifT h hf
              refine lv_goto (tgt := 91) hx hb dX12_restOf_71 (by decide) ?_
              exact b91 x2 x3 x4 x5 σ2 _ _ _ (lv_sub hl [0, 1, 2, 3, 4] rfl) hw hf
      intro x2 x3 x4 σ H locs ls hl hw hf
      have hf : f_X12_restOf_b35_s (f_X12_restOf_b35 n35) x2 x3 x4 σ = some (r, σ') := hf
      unfold f_X12_restOf_b35_s at hf
      refine lv_iload hx hb dX12_restOf_35 (lv_at hl 3 rfl) ?_
      refine lv_aload_n hx hb dX12_restOf_37 rfl (lv_at hl 0 rfl) ?_
      refine k_get C hw (LM_0 LM) (ci := 12) rfl k_in12 3 (by decide) lk12_13 (v := .ref (ad 2)) rfl dX12_restOf_38 ?_
      refine lv_iconst (v := (0 : Int32)) hx hb dX12_restOf_41 (by decide) ?_
      obtain ⟨hi, hf⟩ := k_ckE hf
      refine k_iald C hw (LM_2 LM) hi dX12_restOf_42 ?_
      refine lv_icmp_ge (tgt := 103) hx hb dX12_restOf_43 (by decide) (fun h => ?_) (fun h => ?_)
      · have hf := k_ifT h hf
        refine lv_iload_n hx hb dX12_restOf_103 rfl (lv_at hl 1 rfl) ?_
        refine lv_iconst (v := (-1 : Int32)) hx hb dX12_restOf_104 (by decide) ?_
        refine lv_icmp_ne (tgt := 112) hx hb dX12_restOf_105 (by decide) (fun h => ?_) (fun h => ?_)
        · have hf := k_ifF h hf
          refine lv_bipush (v := (-2 : Int32)) hx hb dX12_restOf_112 (by decide) ?_
          exact b114 (-2 : Int32) σ _ _ _ (lv_sub hl [] rfl) hw hf
        · have hf := k_ifT h hf
          refine lv_iload_n hx hb dX12_restOf_108 rfl (lv_at hl 2 rfl) ?_
          refine lv_goto (tgt := 114) hx hb dX12_restOf_109 (by decide) ?_
          exact b114 x3 σ _ _ _ (lv_sub hl [] rfl) hw hf
      · have hf := k_ifF h hf
        refine lv_iconst (v := (0 : Int32)) hx hb dX12_restOf_46 (by decide) ?_
        refine lv_istore (lv' := [(5, .int (0 : Int32)), (0, .ref (ad 0)), (2, .int x2), (3, .int x3), (4, .int x4)]) hx hb dX12_restOf_47 hl (by decide) rfl (fun ls hl => ?_)
        exact b49 FU x2 x3 x4 (0 : Int32) σ _ _ _ (lv_sub hl [1, 2, 3, 4, 0] rfl) hw hf
  have b2 : ∀ (n2 : Nat) (x1 : Int32) (x2 : Int32) (x3 : Int32) (σ : MSt) (H : Heap) (locs : List Loc) (ls : Array Slot), lv_has ls 6 [(0, .ref (ad 0)), (1, .int x1), (2, .int x2), (3, .int x3)] → k_W G w A s.heap σ H locs → f_X12_restOf_b2 n2 x1 x2 x3 σ = some (r, σ') → W p l e rmX12_restOf s m [.ref (ad 0), .int p1, .int p2].toArray below meth c H locs 0 0 (MQ below (k_Qi G w A r σ') [.ref (ad 0), .int p1, .int p2].toArray s 0 0 A) (F0 m 2 ls []) := by
    intro n2
    induction n2 with
    | zero =>
      intro x1 x2 x3 σ H locs ls hl hw hf
      have hf : (none : Option (Int32 × MSt)) = some (r, σ') := hf
      cases hf
    | succ n2 ih2 =>
      intro x1 x2 x3 σ H locs ls hl hw hf
      have hf : f_X12_restOf_b2_s (f_X12_restOf_b2 n2) x1 x2 x3 σ = some (r, σ') := hf
      unfold f_X12_restOf_b2_s at hf
      refine lv_iload_n hx hb dX12_restOf_2 rfl (lv_at hl 3 rfl) ?_
      refine lv_aload_n hx hb dX12_restOf_3 rfl (lv_at hl 0 rfl) ?_
      refine k_get C hw (LM_0 LM) (ci := 12) rfl k_in12 3 (by decide) lk12_13 (v := .ref (ad 2)) rfl dX12_restOf_4 ?_
      refine lv_iconst (v := (0 : Int32)) hx hb dX12_restOf_7 (by decide) ?_
      obtain ⟨hi, hf⟩ := k_ckE hf
      refine k_iald C hw (LM_2 LM) hi dX12_restOf_8 ?_
      refine lv_icmp_ge (tgt := 30) hx hb dX12_restOf_9 (by decide) (fun h => ?_) (fun h => ?_)
      · have hf := k_ifT h hf
        refine lv_iconst (v := (0 : Int32)) hx hb dX12_restOf_30 (by decide) ?_
        refine lv_istore_n (lv' := [(3, .int (0 : Int32)), (0, .ref (ad 0)), (1, .int x1), (2, .int x2)]) hx hb dX12_restOf_31 rfl hl (by decide) rfl (fun ls hl => ?_)
        refine lv_iconst (v := (0 : Int32)) hx hb dX12_restOf_32 (by decide) ?_
        refine lv_istore (lv' := [(4, .int (0 : Int32)), (3, .int (0 : Int32)), (0, .ref (ad 0)), (1, .int x1), (2, .int x2)]) hx hb dX12_restOf_33 hl (by decide) rfl (fun ls hl => ?_)
        exact b35 FU x2 (0 : Int32) (0 : Int32) σ _ _ _ (lv_sub hl [2, 4, 1, 0] rfl) hw hf
      · have hf := k_ifF h hf
        refine lv_aload_n hx hb dX12_restOf_12 rfl (lv_at hl 0 rfl) ?_
        refine k_get C hw (LM_0 LM) (ci := 12) rfl k_in12 58 (by decide) lk12_120 (v := .ref (ad 33)) rfl dX12_restOf_13 ?_
        refine lv_iload_n hx hb dX12_restOf_16 rfl (lv_at hl 3 rfl) ?_
        refine lv_aload_n hx hb dX12_restOf_17 rfl (lv_at hl 0 rfl) ?_
        refine lv_iload_n hx hb dX12_restOf_18 rfl (lv_at hl 3 rfl) ?_
        refine lv_iload_n hx hb dX12_restOf_19 rfl (lv_at hl 1 rfl) ?_
        obtain ⟨q2, σ1, hq, hf⟩ := k_bdE hf
        refine k_callVi C hw (c_X12_nightsIn l G Y w ad LM x3 x1 σ q2 σ1 hq) (cwV 2 hts gX12_restOf_X12_nightsIn rfl rfl rfl (by decide +kernel) ⟨Nat.le_of_ble_eq_true rfl, Nat.le_of_ble_eq_true rfl⟩) (k_recv C hw (LM_0 LM) rfl) rfl hl.1 rfl (Nat.le_of_ble_eq_true rfl) dX12_restOf_20 (fun H locs hw => ?_)
        obtain ⟨hi, hf⟩ := k_ckE hf
        refine k_iast C hw (LM_33 LM) hi dX12_restOf_23 (fun σ3 eq H locs hw => ?_)
        have hf := k_nmE eq hf
        obtain ⟨u4, ex⟩ : ∃ y : Int32, y = (x3 + (1 : Int32)) := ⟨_, rfl⟩
        have hf := k_nmE ex hf
        refine lv_iinc (v := u4) (lv' := [(3, .int u4), (0, .ref (ad 0)), (1, .int x1), (2, .int x2)]) hx hb dX12_restOf_24 hl (k := 3) rfl (by rw [ex]; rfl) (by decide) rfl (fun ls hl => ?_)
        refine lv_goto (tgt := 2) hx hb dX12_restOf_27 (by decide) ?_
        exact ih2 x1 x2 u4 σ3 _ _ _ (lv_sub hl [1, 2, 3, 0] rfl) hw hf
  unfold f_X12_restOf at hf
  refine lv_iconst (v := (0 : Int32)) hx hb dX12_restOf_0 (by decide) ?_
  refine lv_istore_n (lv' := [(3, .int (0 : Int32)), (0, .ref (ad 0)), (1, .int p1), (2, .int p2)]) hx hb dX12_restOf_1 rfl hl (by decide) rfl (fun ls hl => ?_)
  exact b2 FU p1 p2 (0 : Int32) σ _ _ _ (lv_sub hl [1, 2, 3, 0] rfl) hw hf
def f_X12_rests_b23  (y0 : Int32) (σ : MSt) : Option (Int32 × MSt) :=
  some (y0, σ)
def f_X12_rests  (p1 : Int32) (σ : MSt) : Option (Int32 × MSt) :=
  k_nm (mI σ 0 0 (0 : Int32)) fun σ1 =>
  k_bd (f_X12_isNights p1 σ1) fun q3 σ2 =>
  if q3 = 0 then
  (f_X12_rests_b23 (-1 : Int32) σ2)
  else
  (k_bd (f_X12_restOf p1 (-1 : Int32) σ2) fun q5 σ4 =>
  f_X12_rests_b23 q5 σ4)
def rmX12_rests : Room := { frames := 8, cells := 0, slots := 0, locals := 197 }
set_option maxHeartbeats 4000000 in
set_option maxRecDepth 100000 in
theorem c_X12_rests (l : Launch) (G : va_G) (Y : CY) (w : MSt → va_W) (ad : Nat → Nat)  (LM : LayM ad w Y) (p1 : Int32) (σ : MSt) (r : Int32) (σ' : MSt) (hf : f_X12_rests p1 σ = some (r, σ')) : k_Mi l yX12_rests wsX12_rests rmX12_rests G Y w [.ref (ad 0), .int p1] σ r σ' := by
  refine k_ofi (own := RX12) (cc := cX12_rests) (maxL := 2) (some .int) (by decide) rfl rfl (Nat.le_of_ble_eq_true rfl) ?_
  intro p e s m below meth c A C ls hl hw
  have hx := C.1
  have hb := C.2.1
  have hown := C.2.2.2.2.1
  have hts := C.2.2.2.2.2.1
  have hks := C.2.2.2.2.2.2.1
  have hl : lv_has ls 2 [(0, .ref (ad 0)), (1, .int p1)] := hl
  have b23 : ∀ (y0 : Int32) (σ : MSt) (H : Heap) (locs : List Loc) (ls : Array Slot), lv_has ls 2 [] → k_W G w A s.heap σ H locs → f_X12_rests_b23 y0 σ = some (r, σ') → W p l e rmX12_rests s m [.ref (ad 0), .int p1].toArray below meth c H locs 0 0 (MQ below (k_Qi G w A r σ') [.ref (ad 0), .int p1].toArray s 0 0 A) (F0 m 23 ls [.int y0]) := by
    intro y0 σ H locs ls hl hw hf
    unfold f_X12_rests_b23 at hf
    exact k_iret C hw hf dX12_rests_23
  unfold f_X12_rests at hf
  refine lv_aload_n hx hb dX12_rests_0 rfl (lv_at hl 0 rfl) ?_
  refine lv_iconst (v := (0 : Int32)) hx hb dX12_rests_1 (by decide) ?_
  refine k_put C hw (LM_0 LM) (ci := 12) rfl k_in12 tyX12 tyX12_ok nmX12 0 (by decide) lk12_145 rfl ⟨rfl, rfl⟩ rfl dX12_rests_2 (fun σ1 eq H locs hw => ?_)
  have hf := k_nmE eq hf
  refine lv_aload_n hx hb dX12_rests_5 rfl (lv_at hl 0 rfl) ?_
  refine lv_iload_n hx hb dX12_rests_6 rfl (lv_at hl 1 rfl) ?_
  obtain ⟨q3, σ2, hq, hf⟩ := k_bdE hf
  refine k_callVi C hw (c_X12_isNights l G Y w ad LM p1 σ1 q3 σ2 hq) (cwV 1 hts gX12_rests_X12_isNights rfl rfl rfl (by decide +kernel) ⟨Nat.le_of_ble_eq_true rfl, Nat.le_of_ble_eq_true rfl⟩) (k_recv C hw (LM_0 LM) rfl) rfl hl.1 rfl (Nat.le_of_ble_eq_true rfl) dX12_rests_7 (fun H locs hw => ?_)
  refine lv_if_eq (tgt := 22) hx hb dX12_rests_10 (by decide) (fun h => ?_) (fun h => ?_)
  · have hf := k_ifT h hf
    refine lv_iconst (v := (-1 : Int32)) hx hb dX12_rests_22 (by decide) ?_
    exact b23 (-1 : Int32) σ2 _ _ _ (lv_sub hl [] rfl) hw hf
  · have hf := k_ifF h hf
    refine lv_aload_n hx hb dX12_rests_13 rfl (lv_at hl 0 rfl) ?_
    refine lv_iload_n hx hb dX12_rests_14 rfl (lv_at hl 1 rfl) ?_
    refine lv_iconst (v := (-1 : Int32)) hx hb dX12_rests_15 (by decide) ?_
    obtain ⟨q5, σ4, hq, hf⟩ := k_bdE hf
    refine k_callVi C hw (c_X12_restOf l G Y w ad LM p1 (-1 : Int32) σ2 q5 σ4 hq) (cwV 2 hts gX12_rests_X12_restOf rfl rfl rfl (by decide +kernel) ⟨Nat.le_of_ble_eq_true rfl, Nat.le_of_ble_eq_true rfl⟩) (k_recv C hw (LM_0 LM) rfl) rfl hl.1 rfl (Nat.le_of_ble_eq_true rfl) dX12_rests_16 (fun H locs hw => ?_)
    refine lv_goto (tgt := 23) hx hb dX12_rests_19 (by decide) ?_
    exact b23 q5 σ4 _ _ _ (lv_sub hl [] rfl) hw hf
def f_X12_rest_b27  (y0 : Int32) (σ : MSt) : Option (Int32 × MSt) :=
  some (y0, σ)
def f_X12_rest_b26   (σ : MSt) : Option (Int32 × MSt) :=
  f_X12_rest_b27 (-1 : Int32) σ
def f_X12_rest  (p1 : Int32) (p2 : Int32) (σ : MSt) : Option (Int32 × MSt) :=
  k_nm (mI σ 0 0 (0 : Int32)) fun σ1 =>
  k_bd (f_X12_isNights p1 σ1) fun q3 σ2 =>
  if q3 = 0 then
  (f_X12_rest_b26 σ2)
  else
  (if p2 < 0 then
  (f_X12_rest_b26 σ2)
  else
  (k_bd (f_X12_restOf p1 p2 σ2) fun q5 σ4 =>
  f_X12_rest_b27 q5 σ4))
def rmX12_rest : Room := { frames := 8, cells := 0, slots := 0, locals := 197 }
set_option maxHeartbeats 4000000 in
set_option maxRecDepth 100000 in
theorem c_X12_rest (l : Launch) (G : va_G) (Y : CY) (w : MSt → va_W) (ad : Nat → Nat)  (LM : LayM ad w Y) (p1 : Int32) (p2 : Int32) (σ : MSt) (r : Int32) (σ' : MSt) (hf : f_X12_rest p1 p2 σ = some (r, σ')) : k_Mi l yX12_rest wsX12_rest rmX12_rest G Y w [.ref (ad 0), .int p1, .int p2] σ r σ' := by
  refine k_ofi (own := RX12) (cc := cX12_rest) (maxL := 3) (some .int) (by decide) rfl rfl (Nat.le_of_ble_eq_true rfl) ?_
  intro p e s m below meth c A C ls hl hw
  have hx := C.1
  have hb := C.2.1
  have hown := C.2.2.2.2.1
  have hts := C.2.2.2.2.2.1
  have hks := C.2.2.2.2.2.2.1
  have hl : lv_has ls 3 [(0, .ref (ad 0)), (1, .int p1), (2, .int p2)] := hl
  have b27 : ∀ (y0 : Int32) (σ : MSt) (H : Heap) (locs : List Loc) (ls : Array Slot), lv_has ls 3 [] → k_W G w A s.heap σ H locs → f_X12_rest_b27 y0 σ = some (r, σ') → W p l e rmX12_rest s m [.ref (ad 0), .int p1, .int p2].toArray below meth c H locs 0 0 (MQ below (k_Qi G w A r σ') [.ref (ad 0), .int p1, .int p2].toArray s 0 0 A) (F0 m 27 ls [.int y0]) := by
    intro y0 σ H locs ls hl hw hf
    unfold f_X12_rest_b27 at hf
    exact k_iret C hw hf dX12_rest_27
  have b26 : ∀ (σ : MSt) (H : Heap) (locs : List Loc) (ls : Array Slot), lv_has ls 3 [] → k_W G w A s.heap σ H locs → f_X12_rest_b26 σ = some (r, σ') → W p l e rmX12_rest s m [.ref (ad 0), .int p1, .int p2].toArray below meth c H locs 0 0 (MQ below (k_Qi G w A r σ') [.ref (ad 0), .int p1, .int p2].toArray s 0 0 A) (F0 m 26 ls []) := by
    intro σ H locs ls hl hw hf
    unfold f_X12_rest_b26 at hf
    refine lv_iconst (v := (-1 : Int32)) hx hb dX12_rest_26 (by decide) ?_
    exact b27 (-1 : Int32) σ _ _ _ (lv_sub hl [] rfl) hw hf
  unfold f_X12_rest at hf
  refine lv_aload_n hx hb dX12_rest_0 rfl (lv_at hl 0 rfl) ?_
  refine lv_iconst (v := (0 : Int32)) hx hb dX12_rest_1 (by decide) ?_
  refine k_put C hw (LM_0 LM) (ci := 12) rfl k_in12 tyX12 tyX12_ok nmX12 0 (by decide) lk12_145 rfl ⟨rfl, rfl⟩ rfl dX12_rest_2 (fun σ1 eq H locs hw => ?_)
  have hf := k_nmE eq hf
  refine lv_aload_n hx hb dX12_rest_5 rfl (lv_at hl 0 rfl) ?_
  refine lv_iload_n hx hb dX12_rest_6 rfl (lv_at hl 1 rfl) ?_
  obtain ⟨q3, σ2, hq, hf⟩ := k_bdE hf
  refine k_callVi C hw (c_X12_isNights l G Y w ad LM p1 σ1 q3 σ2 hq) (cwV 1 hts gX12_rest_X12_isNights rfl rfl rfl (by decide +kernel) ⟨Nat.le_of_ble_eq_true rfl, Nat.le_of_ble_eq_true rfl⟩) (k_recv C hw (LM_0 LM) rfl) rfl hl.1 rfl (Nat.le_of_ble_eq_true rfl) dX12_rest_7 (fun H locs hw => ?_)
  refine lv_if_eq (tgt := 26) hx hb dX12_rest_10 (by decide) (fun h => ?_) (fun h => ?_)
  · have hf := k_ifT h hf
    exact b26 σ2 _ _ _ (lv_sub hl [] rfl) hw hf
  · have hf := k_ifF h hf
    refine lv_iload_n hx hb dX12_rest_13 rfl (lv_at hl 2 rfl) ?_
    refine lv_if_lt (tgt := 26) hx hb dX12_rest_14 (by decide) (fun h => ?_) (fun h => ?_)
    · have hf := k_ifT h hf
      exact b26 σ2 _ _ _ (lv_sub hl [] rfl) hw hf
    · have hf := k_ifF h hf
      refine lv_aload_n hx hb dX12_rest_17 rfl (lv_at hl 0 rfl) ?_
      refine lv_iload_n hx hb dX12_rest_18 rfl (lv_at hl 1 rfl) ?_
      refine lv_iload_n hx hb dX12_rest_19 rfl (lv_at hl 2 rfl) ?_
      obtain ⟨q5, σ4, hq, hf⟩ := k_bdE hf
      refine k_callVi C hw (c_X12_restOf l G Y w ad LM p1 p2 σ2 q5 σ4 hq) (cwV 2 hts gX12_rest_X12_restOf rfl rfl rfl (by decide +kernel) ⟨Nat.le_of_ble_eq_true rfl, Nat.le_of_ble_eq_true rfl⟩) (k_recv C hw (LM_0 LM) rfl) rfl hl.1 rfl (Nat.le_of_ble_eq_true rfl) dX12_rest_20 (fun H locs hw => ?_)
      refine lv_goto (tgt := 27) hx hb dX12_rest_23 (by decide) ?_
      exact b27 q5 σ4 _ _ _ (lv_sub hl [] rfl) hw hf
def f_X12_note_b32   (σ : MSt) : Option (Int32 × MSt) :=
  some ((-1 : Int32), σ)
def f_X12_note  (p1 : Int32) (p2 : Int32) (p3 : Int32) (σ : MSt) : Option (Int32 × MSt) :=
  k_nm (mI σ 0 0 (0 : Int32)) fun σ1 =>
  k_bd (f_X12_isBay p1 σ1) fun q3 σ2 =>
  if q3 = 0 then
  (f_X12_note_b32 σ2)
  else
  (if p2 < 0 then
  (f_X12_note_b32 σ2)
  else
  (if (99 : Int32) < p2 then
  (f_X12_note_b32 σ2)
  else
  (if (σ2.1 0 59) = (24 : Int32) then
  (f_X12_note_b32 σ2)
  else
  (k_ck (k_inb (σ2.1 0 59) 24) <|
  k_nm (mI σ2 34 ((σ2.1 0 59)).toNatClampNeg p1) fun σ4 =>
  k_ck (k_inb (σ4.1 0 59) 24) <|
  k_nm (mI σ4 35 ((σ4.1 0 59)).toNatClampNeg p2) fun σ5 =>
  k_ck (k_inb (σ5.1 0 59) 24) <|
  k_nm (mI σ5 36 ((σ5.1 0 59)).toNatClampNeg (vp_nar .boolean p3)) fun σ6 =>
  k_ck (k_inb (σ6.1 0 59) 24) <|
  k_nm (mI σ6 37 ((σ6.1 0 59)).toNatClampNeg (-1 : Int32)) fun σ7 =>
  k_nm (mI σ7 0 59 ((σ7.1 0 59) + (1 : Int32))) fun σ8 =>
  some (((σ8.1 0 59) - (1 : Int32)), σ8)))))
def rmX12_note : Room := { frames := 1, cells := 0, slots := 0, locals := 21 }
set_option maxHeartbeats 4000000 in
set_option maxRecDepth 100000 in
theorem c_X12_note (l : Launch) (G : va_G) (Y : CY) (w : MSt → va_W) (ad : Nat → Nat)  (LM : LayM ad w Y) (p1 : Int32) (p2 : Int32) (p3 : Int32) (σ : MSt) (r : Int32) (σ' : MSt) (hf : f_X12_note p1 p2 p3 σ = some (r, σ')) : k_Mi l yX12_note wsX12_note rmX12_note G Y w [.ref (ad 0), .int p1, .int p2, .int p3] σ r σ' := by
  refine k_ofi (own := RX12) (cc := cX12_note) (maxL := 4) (some .int) (by decide) rfl rfl (Nat.le_of_ble_eq_true rfl) ?_
  intro p e s m below meth c A C ls hl hw
  have hx := C.1
  have hb := C.2.1
  have hown := C.2.2.2.2.1
  have hts := C.2.2.2.2.2.1
  have hks := C.2.2.2.2.2.2.1
  have hl : lv_has ls 4 [(0, .ref (ad 0)), (1, .int p1), (2, .int p2), (3, .int p3)] := hl
  have b32 : ∀ (σ : MSt) (H : Heap) (locs : List Loc) (ls : Array Slot), lv_has ls 4 [] → k_W G w A s.heap σ H locs → f_X12_note_b32 σ = some (r, σ') → W p l e rmX12_note s m [.ref (ad 0), .int p1, .int p2, .int p3].toArray below meth c H locs 0 0 (MQ below (k_Qi G w A r σ') [.ref (ad 0), .int p1, .int p2, .int p3].toArray s 0 0 A) (F0 m 32 ls []) := by
    intro σ H locs ls hl hw hf
    unfold f_X12_note_b32 at hf
    refine lv_iconst (v := (-1 : Int32)) hx hb dX12_note_32 (by decide) ?_
    exact k_iret C hw hf dX12_note_33
  unfold f_X12_note at hf
  refine lv_aload_n hx hb dX12_note_0 rfl (lv_at hl 0 rfl) ?_
  refine lv_iconst (v := (0 : Int32)) hx hb dX12_note_1 (by decide) ?_
  refine k_put C hw (LM_0 LM) (ci := 12) rfl k_in12 tyX12 tyX12_ok nmX12 0 (by decide) lk12_145 rfl ⟨rfl, rfl⟩ rfl dX12_note_2 (fun σ1 eq H locs hw => ?_)
  have hf := k_nmE eq hf
  refine lv_aload_n hx hb dX12_note_5 rfl (lv_at hl 0 rfl) ?_
  refine lv_iload_n hx hb dX12_note_6 rfl (lv_at hl 1 rfl) ?_
  obtain ⟨q3, σ2, hq, hf⟩ := k_bdE hf
  refine k_callVi C hw (c_X12_isBay l G Y w ad LM p1 σ1 q3 σ2 hq) (cwV 1 hts gX12_note_X12_isBay rfl rfl rfl (by decide +kernel) ⟨Nat.le_of_ble_eq_true rfl, Nat.le_of_ble_eq_true rfl⟩) (k_recv C hw (LM_0 LM) rfl) rfl hl.1 rfl (Nat.le_of_ble_eq_true rfl) dX12_note_7 (fun H locs hw => ?_)
  refine lv_if_eq (tgt := 32) hx hb dX12_note_10 (by decide) (fun h => ?_) (fun h => ?_)
  · have hf := k_ifT h hf
    exact b32 σ2 _ _ _ (lv_sub hl [] rfl) hw hf
  · have hf := k_ifF h hf
    refine lv_iload_n hx hb dX12_note_13 rfl (lv_at hl 2 rfl) ?_
    refine lv_if_lt (tgt := 32) hx hb dX12_note_14 (by decide) (fun h => ?_) (fun h => ?_)
    · have hf := k_ifT h hf
      exact b32 σ2 _ _ _ (lv_sub hl [] rfl) hw hf
    · have hf := k_ifF h hf
      refine lv_iload_n hx hb dX12_note_17 rfl (lv_at hl 2 rfl) ?_
      refine lv_bipush (v := (99 : Int32)) hx hb dX12_note_18 (by decide) ?_
      refine lv_icmp_gt (tgt := 32) hx hb dX12_note_20 (by decide) (fun h => ?_) (fun h => ?_)
      · have hf := k_ifT h hf
        exact b32 σ2 _ _ _ (lv_sub hl [] rfl) hw hf
      · have hf := k_ifF h hf
        refine lv_aload_n hx hb dX12_note_23 rfl (lv_at hl 0 rfl) ?_
        refine k_get C hw (LM_0 LM) (ci := 12) rfl k_in12 59 (by decide) lk12_301 (v := .int (σ2.1 0 59)) rfl dX12_note_24 ?_
        refine lv_bipush (v := (24 : Int32)) hx hb dX12_note_27 (by decide) ?_
        refine lv_icmp_ne (tgt := 34) hx hb dX12_note_29 (by decide) (fun h => ?_) (fun h => ?_)
        · have hf := k_ifF h hf
          refine lv_aload_n hx hb dX12_note_34 rfl (lv_at hl 0 rfl) ?_
          refine k_get C hw (LM_0 LM) (ci := 12) rfl k_in12 61 (by decide) lk12_126 (v := .ref (ad 34)) rfl dX12_note_35 ?_
          refine lv_aload_n hx hb dX12_note_38 rfl (lv_at hl 0 rfl) ?_
          refine k_get C hw (LM_0 LM) (ci := 12) rfl k_in12 59 (by decide) lk12_301 (v := .int (σ2.1 0 59)) rfl dX12_note_39 ?_
          refine lv_iload_n hx hb dX12_note_42 rfl (lv_at hl 1 rfl) ?_
          obtain ⟨hi, hf⟩ := k_ckE hf
          refine k_iast C hw (LM_34 LM) hi dX12_note_43 (fun σ4 eq H locs hw => ?_)
          have hf := k_nmE eq hf
          refine lv_aload_n hx hb dX12_note_44 rfl (lv_at hl 0 rfl) ?_
          refine k_get C hw (LM_0 LM) (ci := 12) rfl k_in12 62 (by decide) lk12_129 (v := .ref (ad 35)) rfl dX12_note_45 ?_
          refine lv_aload_n hx hb dX12_note_48 rfl (lv_at hl 0 rfl) ?_
          refine k_get C hw (LM_0 LM) (ci := 12) rfl k_in12 59 (by decide) lk12_301 (v := .int (σ4.1 0 59)) rfl dX12_note_49 ?_
          refine lv_iload_n hx hb dX12_note_52 rfl (lv_at hl 2 rfl) ?_
          obtain ⟨hi, hf⟩ := k_ckE hf
          refine k_iast C hw (LM_35 LM) hi dX12_note_53 (fun σ5 eq H locs hw => ?_)
          have hf := k_nmE eq hf
          refine lv_aload_n hx hb dX12_note_54 rfl (lv_at hl 0 rfl) ?_
          refine k_get C hw (LM_0 LM) (ci := 12) rfl k_in12 63 (by decide) lk12_132 (v := .ref (ad 36)) rfl dX12_note_55 ?_
          refine lv_aload_n hx hb dX12_note_58 rfl (lv_at hl 0 rfl) ?_
          refine k_get C hw (LM_0 LM) (ci := 12) rfl k_in12 59 (by decide) lk12_301 (v := .int (σ5.1 0 59)) rfl dX12_note_59 ?_
          refine lv_iload_n hx hb dX12_note_62 rfl (lv_at hl 3 rfl) ?_
          obtain ⟨hi, hf⟩ := k_ckE hf
          refine k_zast C hw (LM_36 LM) hi dX12_note_63 (fun σ6 eq H locs hw => ?_)
          have hf := k_nmE eq hf
          refine lv_aload_n hx hb dX12_note_64 rfl (lv_at hl 0 rfl) ?_
          refine k_get C hw (LM_0 LM) (ci := 12) rfl k_in12 64 (by decide) lk12_136 (v := .ref (ad 37)) rfl dX12_note_65 ?_
          refine lv_aload_n hx hb dX12_note_68 rfl (lv_at hl 0 rfl) ?_
          refine k_get C hw (LM_0 LM) (ci := 12) rfl k_in12 59 (by decide) lk12_301 (v := .int (σ6.1 0 59)) rfl dX12_note_69 ?_
          refine lv_iconst (v := (-1 : Int32)) hx hb dX12_note_72 (by decide) ?_
          obtain ⟨hi, hf⟩ := k_ckE hf
          refine k_iast C hw (LM_37 LM) hi dX12_note_73 (fun σ7 eq H locs hw => ?_)
          have hf := k_nmE eq hf
          refine lv_aload_n hx hb dX12_note_74 rfl (lv_at hl 0 rfl) ?_
          refine lv_dup hx hb dX12_note_75 rfl ?_
          refine k_get C hw (LM_0 LM) (ci := 12) rfl k_in12 59 (by decide) lk12_301 (v := .int (σ7.1 0 59)) rfl dX12_note_76 ?_
          refine lv_iconst (v := (1 : Int32)) hx hb dX12_note_79 (by decide) ?_
          refine lv_iadd hx hb dX12_note_80 ?_
          refine k_put C hw (LM_0 LM) (ci := 12) rfl k_in12 tyX12 tyX12_ok nmX12 59 (by decide) lk12_301 rfl ⟨rfl, rfl⟩ rfl dX12_note_81 (fun σ8 eq H locs hw => ?_)
          have hf := k_nmE eq hf
          refine lv_aload_n hx hb dX12_note_84 rfl (lv_at hl 0 rfl) ?_
          refine k_get C hw (LM_0 LM) (ci := 12) rfl k_in12 59 (by decide) lk12_301 (v := .int (σ8.1 0 59)) rfl dX12_note_85 ?_
          refine lv_iconst (v := (1 : Int32)) hx hb dX12_note_88 (by decide) ?_
          refine lv_isub hx hb dX12_note_89 ?_
          exact k_iret C hw hf dX12_note_90
        · have hf := k_ifT h hf
          exact b32 σ2 _ _ _ (lv_sub hl [] rfl) hw hf
def f_X12_out_b26   (σ : MSt) : Option (Int32 × MSt) :=
  some ((-1 : Int32), σ)
def f_X12_out  (p1 : Int32) (σ : MSt) : Option (Int32 × MSt) :=
  k_nm (mI σ 0 0 (0 : Int32)) fun σ1 =>
  if p1 < 0 then
  (f_X12_out_b26 σ1)
  else
  (if (σ1.1 0 59) ≤ p1 then
  (f_X12_out_b26 σ1)
  else
  (if (σ1.1 0 59) = (24 : Int32) then
  (f_X12_out_b26 σ1)
  else
  (k_ck (k_inb (σ1.1 0 59) 24) <|
  k_nm (mI σ1 37 ((σ1.1 0 59)).toNatClampNeg p1) fun σ2 =>
  k_nm (mI σ2 0 59 ((σ2.1 0 59) + (1 : Int32))) fun σ3 =>
  some (((σ3.1 0 59) - (1 : Int32)), σ3))))
def rmX12_out : Room := { frames := 0, cells := 0, slots := 0, locals := 0 }
set_option maxHeartbeats 4000000 in
set_option maxRecDepth 100000 in
theorem c_X12_out (l : Launch) (G : va_G) (Y : CY) (w : MSt → va_W) (ad : Nat → Nat)  (LM : LayM ad w Y) (p1 : Int32) (σ : MSt) (r : Int32) (σ' : MSt) (hf : f_X12_out p1 σ = some (r, σ')) : k_Mi l yX12_out wsX12_out rmX12_out G Y w [.ref (ad 0), .int p1] σ r σ' := by
  refine k_ofi (own := RX12) (cc := cX12_out) (maxL := 2) (some .int) (by decide) rfl rfl (Nat.le_of_ble_eq_true rfl) ?_
  intro p e s m below meth c A C ls hl hw
  have hx := C.1
  have hb := C.2.1
  have hown := C.2.2.2.2.1
  have hts := C.2.2.2.2.2.1
  have hks := C.2.2.2.2.2.2.1
  have hl : lv_has ls 2 [(0, .ref (ad 0)), (1, .int p1)] := hl
  have b26 : ∀ (σ : MSt) (H : Heap) (locs : List Loc) (ls : Array Slot), lv_has ls 2 [] → k_W G w A s.heap σ H locs → f_X12_out_b26 σ = some (r, σ') → W p l e rmX12_out s m [.ref (ad 0), .int p1].toArray below meth c H locs 0 0 (MQ below (k_Qi G w A r σ') [.ref (ad 0), .int p1].toArray s 0 0 A) (F0 m 26 ls []) := by
    intro σ H locs ls hl hw hf
    unfold f_X12_out_b26 at hf
    refine lv_iconst (v := (-1 : Int32)) hx hb dX12_out_26 (by decide) ?_
    exact k_iret C hw hf dX12_out_27
  unfold f_X12_out at hf
  refine lv_aload_n hx hb dX12_out_0 rfl (lv_at hl 0 rfl) ?_
  refine lv_iconst (v := (0 : Int32)) hx hb dX12_out_1 (by decide) ?_
  refine k_put C hw (LM_0 LM) (ci := 12) rfl k_in12 tyX12 tyX12_ok nmX12 0 (by decide) lk12_145 rfl ⟨rfl, rfl⟩ rfl dX12_out_2 (fun σ1 eq H locs hw => ?_)
  have hf := k_nmE eq hf
  refine lv_iload_n hx hb dX12_out_5 rfl (lv_at hl 1 rfl) ?_
  refine lv_if_lt (tgt := 26) hx hb dX12_out_6 (by decide) (fun h => ?_) (fun h => ?_)
  · have hf := k_ifT h hf
    exact b26 σ1 _ _ _ (lv_sub hl [] rfl) hw hf
  · have hf := k_ifF h hf
    refine lv_iload_n hx hb dX12_out_9 rfl (lv_at hl 1 rfl) ?_
    refine lv_aload_n hx hb dX12_out_10 rfl (lv_at hl 0 rfl) ?_
    refine k_get C hw (LM_0 LM) (ci := 12) rfl k_in12 59 (by decide) lk12_301 (v := .int (σ1.1 0 59)) rfl dX12_out_11 ?_
    refine lv_icmp_ge (tgt := 26) hx hb dX12_out_14 (by decide) (fun h => ?_) (fun h => ?_)
    · have hf := k_ifT h hf
      exact b26 σ1 _ _ _ (lv_sub hl [] rfl) hw hf
    · have hf := k_ifF h hf
      refine lv_aload_n hx hb dX12_out_17 rfl (lv_at hl 0 rfl) ?_
      refine k_get C hw (LM_0 LM) (ci := 12) rfl k_in12 59 (by decide) lk12_301 (v := .int (σ1.1 0 59)) rfl dX12_out_18 ?_
      refine lv_bipush (v := (24 : Int32)) hx hb dX12_out_21 (by decide) ?_
      refine lv_icmp_ne (tgt := 28) hx hb dX12_out_23 (by decide) (fun h => ?_) (fun h => ?_)
      · have hf := k_ifF h hf
        refine lv_aload_n hx hb dX12_out_28 rfl (lv_at hl 0 rfl) ?_
        refine k_get C hw (LM_0 LM) (ci := 12) rfl k_in12 64 (by decide) lk12_136 (v := .ref (ad 37)) rfl dX12_out_29 ?_
        refine lv_aload_n hx hb dX12_out_32 rfl (lv_at hl 0 rfl) ?_
        refine k_get C hw (LM_0 LM) (ci := 12) rfl k_in12 59 (by decide) lk12_301 (v := .int (σ1.1 0 59)) rfl dX12_out_33 ?_
        refine lv_iload_n hx hb dX12_out_36 rfl (lv_at hl 1 rfl) ?_
        obtain ⟨hi, hf⟩ := k_ckE hf
        refine k_iast C hw (LM_37 LM) hi dX12_out_37 (fun σ2 eq H locs hw => ?_)
        have hf := k_nmE eq hf
        refine lv_aload_n hx hb dX12_out_38 rfl (lv_at hl 0 rfl) ?_
        refine lv_dup hx hb dX12_out_39 rfl ?_
        refine k_get C hw (LM_0 LM) (ci := 12) rfl k_in12 59 (by decide) lk12_301 (v := .int (σ2.1 0 59)) rfl dX12_out_40 ?_
        refine lv_iconst (v := (1 : Int32)) hx hb dX12_out_43 (by decide) ?_
        refine lv_iadd hx hb dX12_out_44 ?_
        refine k_put C hw (LM_0 LM) (ci := 12) rfl k_in12 tyX12 tyX12_ok nmX12 59 (by decide) lk12_301 rfl ⟨rfl, rfl⟩ rfl dX12_out_45 (fun σ3 eq H locs hw => ?_)
        have hf := k_nmE eq hf
        refine lv_aload_n hx hb dX12_out_48 rfl (lv_at hl 0 rfl) ?_
        refine k_get C hw (LM_0 LM) (ci := 12) rfl k_in12 59 (by decide) lk12_301 (v := .int (σ3.1 0 59)) rfl dX12_out_49 ?_
        refine lv_iconst (v := (1 : Int32)) hx hb dX12_out_52 (by decide) ?_
        refine lv_isub hx hb dX12_out_53 ?_
        exact k_iret C hw hf dX12_out_54
      · have hf := k_ifT h hf
        exact b26 σ1 _ _ _ (lv_sub hl [] rfl) hw hf
def f_X12_known_b18   (σ : MSt) : Option (Int32 × MSt) :=
  some ((0 : Int32), σ)
def f_X12_known  (p1 : Int32) (σ : MSt) : Option (Int32 × MSt) :=
  k_nm (mI σ 0 0 (0 : Int32)) fun σ1 =>
  if p1 < (-1 : Int32) then
  (f_X12_known_b18 σ1)
  else
  (if p1 ≤ (σ1.1 0 59) then
  (k_nm (mI σ1 0 60 p1) fun σ2 =>
  some ((1 : Int32), σ2))
  else
  (f_X12_known_b18 σ1))
def rmX12_known : Room := { frames := 0, cells := 0, slots := 0, locals := 0 }
set_option maxHeartbeats 4000000 in
set_option maxRecDepth 100000 in
theorem c_X12_known (l : Launch) (G : va_G) (Y : CY) (w : MSt → va_W) (ad : Nat → Nat)  (LM : LayM ad w Y) (p1 : Int32) (σ : MSt) (r : Int32) (σ' : MSt) (hf : f_X12_known p1 σ = some (r, σ')) : k_Mi l yX12_known wsX12_known rmX12_known G Y w [.ref (ad 0), .int p1] σ r σ' := by
  refine k_ofi (own := RX12) (cc := cX12_known) (maxL := 2) (some .boolean) (by decide) rfl rfl (Nat.le_of_ble_eq_true rfl) ?_
  intro p e s m below meth c A C ls hl hw
  have hx := C.1
  have hb := C.2.1
  have hown := C.2.2.2.2.1
  have hts := C.2.2.2.2.2.1
  have hks := C.2.2.2.2.2.2.1
  have hl : lv_has ls 2 [(0, .ref (ad 0)), (1, .int p1)] := hl
  have b18 : ∀ (σ : MSt) (H : Heap) (locs : List Loc) (ls : Array Slot), lv_has ls 2 [] → k_W G w A s.heap σ H locs → f_X12_known_b18 σ = some (r, σ') → W p l e rmX12_known s m [.ref (ad 0), .int p1].toArray below meth c H locs 0 0 (MQ below (k_Qi G w A r σ') [.ref (ad 0), .int p1].toArray s 0 0 A) (F0 m 18 ls []) := by
    intro σ H locs ls hl hw hf
    unfold f_X12_known_b18 at hf
    refine lv_iconst (v := (0 : Int32)) hx hb dX12_known_18 (by decide) ?_
    exact k_zret C hw rfl hf dX12_known_19
  unfold f_X12_known at hf
  refine lv_aload_n hx hb dX12_known_0 rfl (lv_at hl 0 rfl) ?_
  refine lv_iconst (v := (0 : Int32)) hx hb dX12_known_1 (by decide) ?_
  refine k_put C hw (LM_0 LM) (ci := 12) rfl k_in12 tyX12 tyX12_ok nmX12 0 (by decide) lk12_145 rfl ⟨rfl, rfl⟩ rfl dX12_known_2 (fun σ1 eq H locs hw => ?_)
  have hf := k_nmE eq hf
  refine lv_iload_n hx hb dX12_known_5 rfl (lv_at hl 1 rfl) ?_
  refine lv_iconst (v := (-1 : Int32)) hx hb dX12_known_6 (by decide) ?_
  refine lv_icmp_lt (tgt := 18) hx hb dX12_known_7 (by decide) (fun h => ?_) (fun h => ?_)
  · have hf := k_ifT h hf
    exact b18 σ1 _ _ _ (lv_sub hl [] rfl) hw hf
  · have hf := k_ifF h hf
    refine lv_iload_n hx hb dX12_known_10 rfl (lv_at hl 1 rfl) ?_
    refine lv_aload_n hx hb dX12_known_11 rfl (lv_at hl 0 rfl) ?_
    refine k_get C hw (LM_0 LM) (ci := 12) rfl k_in12 59 (by decide) lk12_301 (v := .int (σ1.1 0 59)) rfl dX12_known_12 ?_
    refine lv_icmp_le (tgt := 20) hx hb dX12_known_15 (by decide) (fun h => ?_) (fun h => ?_)
    · have hf := k_ifT h hf
      refine lv_aload_n hx hb dX12_known_20 rfl (lv_at hl 0 rfl) ?_
      refine lv_iload_n hx hb dX12_known_21 rfl (lv_at hl 1 rfl) ?_
      refine k_put C hw (LM_0 LM) (ci := 12) rfl k_in12 tyX12 tyX12_ok nmX12 60 (by decide) lk12_123 rfl ⟨rfl, rfl⟩ rfl dX12_known_22 (fun σ2 eq H locs hw => ?_)
      have hf := k_nmE eq hf
      refine lv_iconst (v := (1 : Int32)) hx hb dX12_known_25 (by decide) ?_
      exact k_zret C hw rfl hf dX12_known_26
    · have hf := k_ifF h hf
      exact b18 σ1 _ _ _ (lv_sub hl [] rfl) hw hf
def f_X12_knownMany_b19  (y0 : Int32) (σ : MSt) : Option (Int32 × MSt) :=
  some (y0, σ)
def f_X12_knownMany   (σ : MSt) : Option (Int32 × MSt) :=
  if (σ.1 0 60) = (-1 : Int32) then
  (f_X12_knownMany_b19 (σ.1 0 59) σ)
  else
  (f_X12_knownMany_b19 (σ.1 0 60) σ)
def rmX12_knownMany : Room := { frames := 0, cells := 0, slots := 0, locals := 0 }
set_option maxHeartbeats 4000000 in
set_option maxRecDepth 100000 in
theorem c_X12_knownMany (l : Launch) (G : va_G) (Y : CY) (w : MSt → va_W) (ad : Nat → Nat)  (LM : LayM ad w Y)  (σ : MSt) (r : Int32) (σ' : MSt) (hf : f_X12_knownMany σ = some (r, σ')) : k_Mi l yX12_knownMany wsX12_knownMany rmX12_knownMany G Y w [.ref (ad 0)] σ r σ' := by
  refine k_ofi (own := RX12) (cc := cX12_knownMany) (maxL := 1) (some .int) (by decide) rfl rfl (Nat.le_of_ble_eq_true rfl) ?_
  intro p e s m below meth c A C ls hl hw
  have hx := C.1
  have hb := C.2.1
  have hown := C.2.2.2.2.1
  have hts := C.2.2.2.2.2.1
  have hks := C.2.2.2.2.2.2.1
  have hl : lv_has ls 1 [(0, .ref (ad 0))] := hl
  have b19 : ∀ (y0 : Int32) (σ : MSt) (H : Heap) (locs : List Loc) (ls : Array Slot), lv_has ls 1 [] → k_W G w A s.heap σ H locs → f_X12_knownMany_b19 y0 σ = some (r, σ') → W p l e rmX12_knownMany s m [.ref (ad 0)].toArray below meth c H locs 0 0 (MQ below (k_Qi G w A r σ') [.ref (ad 0)].toArray s 0 0 A) (F0 m 19 ls [.int y0]) := by
    intro y0 σ H locs ls hl hw hf
    unfold f_X12_knownMany_b19 at hf
    exact k_iret C hw hf dX12_knownMany_19
  unfold f_X12_knownMany at hf
  refine lv_aload_n hx hb dX12_knownMany_0 rfl (lv_at hl 0 rfl) ?_
  refine k_get C hw (LM_0 LM) (ci := 12) rfl k_in12 60 (by decide) lk12_123 (v := .int (σ.1 0 60)) rfl dX12_knownMany_1 ?_
  refine lv_iconst (v := (-1 : Int32)) hx hb dX12_knownMany_4 (by decide) ?_
  refine lv_icmp_ne (tgt := 15) hx hb dX12_knownMany_5 (by decide) (fun h => ?_) (fun h => ?_)
  · have hf := k_ifF h hf
    refine lv_aload_n hx hb dX12_knownMany_15 rfl (lv_at hl 0 rfl) ?_
    refine k_get C hw (LM_0 LM) (ci := 12) rfl k_in12 60 (by decide) lk12_123 (v := .int (σ.1 0 60)) rfl dX12_knownMany_16 ?_
    exact b19 (σ.1 0 60) σ _ _ _ (lv_sub hl [] rfl) hw hf
  · have hf := k_ifT h hf
    refine lv_aload_n hx hb dX12_knownMany_8 rfl (lv_at hl 0 rfl) ?_
    refine k_get C hw (LM_0 LM) (ci := 12) rfl k_in12 59 (by decide) lk12_301 (v := .int (σ.1 0 59)) rfl dX12_knownMany_9 ?_
    refine lv_goto (tgt := 19) hx hb dX12_knownMany_12 (by decide) ?_
    exact b19 (σ.1 0 59) σ _ _ _ (lv_sub hl [] rfl) hw hf
def f_X12_areSo_b58  (r2 : Int32 → MSt → Option (Int32 × MSt)) (x1 : Int32) (σ : MSt) : Option (Int32 × MSt) :=
  k_nm (x1 + (1 : Int32)) fun u1 =>
  r2 u1 σ
def f_X12_areSo_b2_s  (r2 : Int32 → MSt → Option (Int32 × MSt)) (x1 : Int32) (σ : MSt) : Option (Int32 × MSt) :=
  k_bd (f_X12_knownMany σ) fun q2 σ1 =>
  if q2 ≤ x1 then
  (some ((1 : Int32), σ1))
  else
  (k_ck (k_inb x1 24) <|
  if (σ1.1 38 (x1).toNatClampNeg) = 0 then
  (k_ck (k_inb x1 24) <|
  if (σ1.1 37 (x1).toNatClampNeg) = (-1 : Int32) then
  (k_ck (k_inb x1 24) <|
  k_ck (k_inb x1 24) <|
  k_bd (f_X12_willHold (2 : Int32) (σ1.1 34 (x1).toNatClampNeg) (σ1.1 35 (x1).toNatClampNeg) (-1 : Int32) σ1) fun q4 σ3 =>
  k_ck (k_inb x1 24) <|
  if q4 = (σ3.1 36 (x1).toNatClampNeg) then
  (f_X12_areSo_b58 r2 x1 σ3)
  else
  (some ((0 : Int32), σ3)))
  else
  (f_X12_areSo_b58 r2 x1 σ1))
  else
  (f_X12_areSo_b58 r2 x1 σ1))
def f_X12_areSo_b2  : Nat → Int32 → MSt → Option (Int32 × MSt)
  | 0 => fun _ _ => none
  | n + 1 => f_X12_areSo_b2_s (f_X12_areSo_b2 n)
def f_X12_areSo   (σ : MSt) : Option (Int32 × MSt) :=
  f_X12_areSo_b2 FU (0 : Int32) σ
def rmX12_areSo : Room := { frames := 6, cells := 0, slots := 0, locals := 148 }
set_option maxHeartbeats 4000000 in
set_option maxRecDepth 100000 in
theorem c_X12_areSo (l : Launch) (G : va_G) (Y : CY) (w : MSt → va_W) (ad : Nat → Nat)  (LM : LayM ad w Y)  (σ : MSt) (r : Int32) (σ' : MSt) (hf : f_X12_areSo σ = some (r, σ')) : k_Mi l yX12_areSo wsX12_areSo rmX12_areSo G Y w [.ref (ad 0)] σ r σ' := by
  refine k_ofi (own := RX12) (cc := cX12_areSo) (maxL := 2) (some .boolean) (by decide) rfl rfl (Nat.le_of_ble_eq_true rfl) ?_
  intro p e s m below meth c A C ls hl hw
  have hx := C.1
  have hb := C.2.1
  have hown := C.2.2.2.2.1
  have hts := C.2.2.2.2.2.1
  have hks := C.2.2.2.2.2.2.1
  have hl : lv_has ls 2 [(0, .ref (ad 0))] := hl
  have b2 : ∀ (n2 : Nat) (x1 : Int32) (σ : MSt) (H : Heap) (locs : List Loc) (ls : Array Slot), lv_has ls 2 [(0, .ref (ad 0)), (1, .int x1)] → k_W G w A s.heap σ H locs → f_X12_areSo_b2 n2 x1 σ = some (r, σ') → W p l e rmX12_areSo s m [.ref (ad 0)].toArray below meth c H locs 0 0 (MQ below (k_Qi G w A r σ') [.ref (ad 0)].toArray s 0 0 A) (F0 m 2 ls []) := by
    intro n2
    induction n2 with
    | zero =>
      intro x1 σ H locs ls hl hw hf
      have hf : (none : Option (Int32 × MSt)) = some (r, σ') := hf
      cases hf
    | succ n2 ih2 =>
      have b58 : ∀ (x1 : Int32) (σ : MSt) (H : Heap) (locs : List Loc) (ls : Array Slot), lv_has ls 2 [(0, .ref (ad 0)), (1, .int x1)] → k_W G w A s.heap σ H locs → f_X12_areSo_b58 (f_X12_areSo_b2 n2) x1 σ = some (r, σ') → W p l e rmX12_areSo s m [.ref (ad 0)].toArray below meth c H locs 0 0 (MQ below (k_Qi G w A r σ') [.ref (ad 0)].toArray s 0 0 A) (F0 m 58 ls []) := by
        intro x1 σ H locs ls hl hw hf
        unfold f_X12_areSo_b58 at hf
        obtain ⟨u1, ex⟩ : ∃ y : Int32, y = (x1 + (1 : Int32)) := ⟨_, rfl⟩
        have hf := k_nmE ex hf
        refine lv_iinc (v := u1) (lv' := [(1, .int u1), (0, .ref (ad 0))]) hx hb dX12_areSo_58 hl (k := 1) rfl (by rw [ex]; rfl) (by decide) rfl (fun ls hl => ?_)
        refine lv_goto (tgt := 2) hx hb dX12_areSo_61 (by decide) ?_
        exact ih2 u1 σ _ _ _ (lv_sub hl [1, 0] rfl) hw hf
      intro x1 σ H locs ls hl hw hf
      have hf : f_X12_areSo_b2_s (f_X12_areSo_b2 n2) x1 σ = some (r, σ') := hf
      unfold f_X12_areSo_b2_s at hf
      refine lv_iload_n hx hb dX12_areSo_2 rfl (lv_at hl 1 rfl) ?_
      refine lv_aload_n hx hb dX12_areSo_3 rfl (lv_at hl 0 rfl) ?_
      obtain ⟨q2, σ1, hq, hf⟩ := k_bdE hf
      refine k_callVi C hw (c_X12_knownMany l G Y w ad LM σ q2 σ1 hq) (cwV 0 hts gX12_areSo_X12_knownMany rfl rfl rfl (by decide +kernel) ⟨Nat.le_of_ble_eq_true rfl, Nat.le_of_ble_eq_true rfl⟩) (k_recv C hw (LM_0 LM) rfl) rfl hl.1 rfl (Nat.le_of_ble_eq_true rfl) dX12_areSo_4 (fun H locs hw => ?_)
      refine lv_icmp_ge (tgt := 64) hx hb dX12_areSo_7 (by decide) (fun h => ?_) (fun h => ?_)
      · have hf := k_ifT h hf
        refine lv_iconst (v := (1 : Int32)) hx hb dX12_areSo_64 (by decide) ?_
        exact k_zret C hw rfl hf dX12_areSo_65
      · have hf := k_ifF h hf
        refine lv_aload_n hx hb dX12_areSo_10 rfl (lv_at hl 0 rfl) ?_
        refine k_get C hw (LM_0 LM) (ci := 12) rfl k_in12 65 (by decide) lk12_139 (v := .ref (ad 38)) rfl dX12_areSo_11 ?_
        refine lv_iload_n hx hb dX12_areSo_14 rfl (lv_at hl 1 rfl) ?_
        obtain ⟨hi, hf⟩ := k_ckE hf
        refine k_zald C hw (LM_38 LM) hi dX12_areSo_15 ?_
        refine lv_if_ne (tgt := 58) hx hb dX12_areSo_16 (by decide) (fun h => ?_) (fun h => ?_)
        · have hf := k_ifF h hf
          exact b58 x1 σ1 _ _ _ (lv_sub hl [0, 1] rfl) hw hf
        · have hf := k_ifT h hf
          refine lv_aload_n hx hb dX12_areSo_19 rfl (lv_at hl 0 rfl) ?_
          refine k_get C hw (LM_0 LM) (ci := 12) rfl k_in12 64 (by decide) lk12_136 (v := .ref (ad 37)) rfl dX12_areSo_20 ?_
          refine lv_iload_n hx hb dX12_areSo_23 rfl (lv_at hl 1 rfl) ?_
          obtain ⟨hi, hf⟩ := k_ckE hf
          refine k_iald C hw (LM_37 LM) hi dX12_areSo_24 ?_
          refine lv_iconst (v := (-1 : Int32)) hx hb dX12_areSo_25 (by decide) ?_
          refine lv_icmp_ne (tgt := 58) hx hb dX12_areSo_26 (by decide) (fun h => ?_) (fun h => ?_)
          · have hf := k_ifF h hf
            exact b58 x1 σ1 _ _ _ (lv_sub hl [0, 1] rfl) hw hf
          · have hf := k_ifT h hf
            refine lv_aload_n hx hb dX12_areSo_29 rfl (lv_at hl 0 rfl) ?_
            refine lv_iconst (v := (2 : Int32)) hx hb dX12_areSo_30 (by decide) ?_
            refine lv_aload_n hx hb dX12_areSo_31 rfl (lv_at hl 0 rfl) ?_
            refine k_get C hw (LM_0 LM) (ci := 12) rfl k_in12 61 (by decide) lk12_126 (v := .ref (ad 34)) rfl dX12_areSo_32 ?_
            refine lv_iload_n hx hb dX12_areSo_35 rfl (lv_at hl 1 rfl) ?_
            obtain ⟨hi, hf⟩ := k_ckE hf
            refine k_iald C hw (LM_34 LM) hi dX12_areSo_36 ?_
            refine lv_aload_n hx hb dX12_areSo_37 rfl (lv_at hl 0 rfl) ?_
            refine k_get C hw (LM_0 LM) (ci := 12) rfl k_in12 62 (by decide) lk12_129 (v := .ref (ad 35)) rfl dX12_areSo_38 ?_
            refine lv_iload_n hx hb dX12_areSo_41 rfl (lv_at hl 1 rfl) ?_
            obtain ⟨hi, hf⟩ := k_ckE hf
            refine k_iald C hw (LM_35 LM) hi dX12_areSo_42 ?_
            refine lv_iconst (v := (-1 : Int32)) hx hb dX12_areSo_43 (by decide) ?_
            obtain ⟨q4, σ3, hq, hf⟩ := k_bdE hf
            refine k_callVi C hw (c_X12_willHold l G Y w ad LM (2 : Int32) (σ1.1 34 (x1).toNatClampNeg) (σ1.1 35 (x1).toNatClampNeg) (-1 : Int32) σ1 q4 σ3 hq) (cwV 4 hts gX12_areSo_X12_willHold rfl rfl rfl (by decide +kernel) ⟨Nat.le_of_ble_eq_true rfl, Nat.le_of_ble_eq_true rfl⟩) (k_recv C hw (LM_0 LM) rfl) rfl hl.1 rfl (Nat.le_of_ble_eq_true rfl) dX12_areSo_44 (fun H locs hw => ?_)
            refine lv_aload_n hx hb dX12_areSo_47 rfl (lv_at hl 0 rfl) ?_
            refine k_get C hw (LM_0 LM) (ci := 12) rfl k_in12 63 (by decide) lk12_132 (v := .ref (ad 36)) rfl dX12_areSo_48 ?_
            refine lv_iload_n hx hb dX12_areSo_51 rfl (lv_at hl 1 rfl) ?_
            obtain ⟨hi, hf⟩ := k_ckE hf
            refine k_zald C hw (LM_36 LM) hi dX12_areSo_52 ?_
            refine lv_icmp_eq (tgt := 58) hx hb dX12_areSo_53 (by decide) (fun h => ?_) (fun h => ?_)
            · have hf := k_ifT h hf
              exact b58 x1 σ3 _ _ _ (lv_sub hl [0, 1] rfl) hw hf
            · have hf := k_ifF h hf
              refine lv_iconst (v := (0 : Int32)) hx hb dX12_areSo_56 (by decide) ?_
              exact k_zret C hw rfl hf dX12_areSo_57
  unfold f_X12_areSo at hf
  refine lv_iconst (v := (0 : Int32)) hx hb dX12_areSo_0 (by decide) ?_
  refine lv_istore_n (lv' := [(1, .int (0 : Int32)), (0, .ref (ad 0))]) hx hb dX12_areSo_1 rfl hl (by decide) rfl (fun ls hl => ?_)
  exact b2 FU (0 : Int32) σ _ _ _ (lv_sub hl [1, 0] rfl) hw hf
def f_X12_wasOf_b111  (r85 : Int32 → Int32 → MSt → Option (Int32 × MSt)) (x3 : Int32) (y0 : Int32) (y1 : Int32) (σ : MSt) : Option (Int32 × MSt) :=
  k_nm (y0 ||| y1) fun u1 =>
  k_nm (x3 + (1 : Int32)) fun u2 =>
  r85 u1 u2 σ
def f_X12_wasOf_b85_s  (r85 : Int32 → Int32 → MSt → Option (Int32 × MSt)) (x2 : Int32) (x3 : Int32) (σ : MSt) : Option (Int32 × MSt) :=
  if (9 : Int32) < x3 then
  (k_nm (mI σ 0 48 (-1 : Int32)) fun σ1 =>
  some (x2, σ1))
  else
  (k_nm (mI σ 0 49 x3) fun σ2 =>
  k_bd (f_X12_areSo σ2) fun q4 σ3 =>
  if q4 = 0 then
  (f_X12_wasOf_b111 r85 x3 x2 (0 : Int32) σ3)
  else
  (f_X12_wasOf_b111 r85 x3 x2 ((1 : Int32) <<< (x3 &&& 31)) σ3))
def f_X12_wasOf_b85  : Nat → Int32 → Int32 → MSt → Option (Int32 × MSt)
  | 0 => fun _ _ _ => none
  | n + 1 => f_X12_wasOf_b85_s (f_X12_wasOf_b85 n)
def f_X12_wasOf_b70  (r35 : Int32 → Int32 → MSt → Option (Int32 × MSt)) (x1 : Int32) (x2 : Int32) (σ : MSt) : Option (Int32 × MSt) :=
  k_nm (x2 + (-1 : Int32)) fun u1 =>
  r35 x1 u1 σ
def f_X12_wasOf_b35_s  (r35 : Int32 → Int32 → MSt → Option (Int32 × MSt)) (x1 : Int32) (x2 : Int32) (σ : MSt) : Option (Int32 × MSt) :=
  if x2 < 0 then
  (k_nm (mI σ 0 48 x1) fun σ1 =>
  f_X12_wasOf_b85 FU (0 : Int32) (0 : Int32) σ1)
  else
  (k_ck (k_inb x2 24) <|
  if (σ.1 38 (x2).toNatClampNeg) = 0 then
  (k_ck (k_inb x2 24) <|
  if (σ.1 37 (x2).toNatClampNeg) = (-1 : Int32) then
  (f_X12_wasOf_b70 r35 x1 x2 σ)
  else
  (k_ck (k_inb x2 24) <|
  k_ck (k_inb (σ.1 37 (x2).toNatClampNeg) 24) <|
  k_nm (mI σ 38 ((σ.1 37 (x2).toNatClampNeg)).toNatClampNeg (vp_nar .boolean (1 : Int32))) fun σ2 =>
  f_X12_wasOf_b70 r35 x1 x2 σ2))
  else
  (f_X12_wasOf_b70 r35 x1 x2 σ))
def f_X12_wasOf_b35  : Nat → Int32 → Int32 → MSt → Option (Int32 × MSt)
  | 0 => fun _ _ _ => none
  | n + 1 => f_X12_wasOf_b35_s (f_X12_wasOf_b35 n)
def f_X12_wasOf_b7_s  (r7 : Int32 → Int32 → MSt → Option (Int32 × MSt)) (x1 : Int32) (x2 : Int32) (σ : MSt) : Option (Int32 × MSt) :=
  k_bd (f_X12_knownMany σ) fun q2 σ1 =>
  if q2 ≤ x2 then
  (k_bd (f_X12_knownMany σ1) fun q4 σ3 =>
  k_nm (q4 - (1 : Int32)) fun u5 =>
  f_X12_wasOf_b35 FU x1 u5 σ3)
  else
  (k_ck (k_inb x2 24) <|
  k_nm (mI σ1 38 (x2).toNatClampNeg (vp_nar .boolean (0 : Int32))) fun σ6 =>
  k_nm (x2 + (1 : Int32)) fun u7 =>
  r7 x1 u7 σ6)
def f_X12_wasOf_b7  : Nat → Int32 → Int32 → MSt → Option (Int32 × MSt)
  | 0 => fun _ _ _ => none
  | n + 1 => f_X12_wasOf_b7_s (f_X12_wasOf_b7 n)
def f_X12_wasOf  (p1 : Int32) (σ : MSt) : Option (Int32 × MSt) :=
  k_bv (f_X12_starts (2 : Int32) σ) fun σ8 =>
  f_X12_wasOf_b7 FU p1 (0 : Int32) σ8
def rmX12_wasOf : Room := { frames := 7, cells := 0, slots := 0, locals := 169 }
set_option maxHeartbeats 4000000 in
set_option maxRecDepth 100000 in
theorem c_X12_wasOf (l : Launch) (G : va_G) (Y : CY) (w : MSt → va_W) (ad : Nat → Nat)  (LM : LayM ad w Y) (p1 : Int32) (σ : MSt) (r : Int32) (σ' : MSt) (hf : f_X12_wasOf p1 σ = some (r, σ')) : k_Mi l yX12_wasOf wsX12_wasOf rmX12_wasOf G Y w [.ref (ad 0), .int p1] σ r σ' := by
  refine k_ofi (own := RX12) (cc := cX12_wasOf) (maxL := 4) (some .int) (by decide) rfl rfl (Nat.le_of_ble_eq_true rfl) ?_
  intro p e s m below meth c A C ls hl hw
  have hx := C.1
  have hb := C.2.1
  have hown := C.2.2.2.2.1
  have hts := C.2.2.2.2.2.1
  have hks := C.2.2.2.2.2.2.1
  have hl : lv_has ls 4 [(0, .ref (ad 0)), (1, .int p1)] := hl
  have b85 : ∀ (n85 : Nat) (x2 : Int32) (x3 : Int32) (σ : MSt) (H : Heap) (locs : List Loc) (ls : Array Slot), lv_has ls 4 [(0, .ref (ad 0)), (2, .int x2), (3, .int x3)] → k_W G w A s.heap σ H locs → f_X12_wasOf_b85 n85 x2 x3 σ = some (r, σ') → W p l e rmX12_wasOf s m [.ref (ad 0), .int p1].toArray below meth c H locs 0 0 (MQ below (k_Qi G w A r σ') [.ref (ad 0), .int p1].toArray s 0 0 A) (F0 m 85 ls []) := by
    intro n85
    induction n85 with
    | zero =>
      intro x2 x3 σ H locs ls hl hw hf
      have hf : (none : Option (Int32 × MSt)) = some (r, σ') := hf
      cases hf
    | succ n85 ih85 =>
      have b111 : ∀ (x3 : Int32) (y0 : Int32) (y1 : Int32) (σ : MSt) (H : Heap) (locs : List Loc) (ls : Array Slot), lv_has ls 4 [(0, .ref (ad 0)), (3, .int x3)] → k_W G w A s.heap σ H locs → f_X12_wasOf_b111 (f_X12_wasOf_b85 n85) x3 y0 y1 σ = some (r, σ') → W p l e rmX12_wasOf s m [.ref (ad 0), .int p1].toArray below meth c H locs 0 0 (MQ below (k_Qi G w A r σ') [.ref (ad 0), .int p1].toArray s 0 0 A) (F0 m 111 ls [.int y1, .int y0]) := by
        intro x3 y0 y1 σ H locs ls hl hw hf
        unfold f_X12_wasOf_b111 at hf
        refine lv_ior hx hb dX12_wasOf_111 ?_
        refine lv_topi (fun u1 ex => ?_)
        have hf := k_nmE ex hf
        refine lv_istore_n (lv' := [(2, .int u1), (0, .ref (ad 0)), (3, .int x3)]) hx hb dX12_wasOf_112 rfl hl (by decide) rfl (fun ls hl => ?_)
        obtain ⟨u2, ex⟩ : ∃ y : Int32, y = (x3 + (1 : Int32)) := ⟨_, rfl⟩
        have hf := k_nmE ex hf
        refine lv_iinc (v := u2) (lv' := [(3, .int u2), (2, .int u1), (0, .ref (ad 0))]) hx hb dX12_wasOf_113 hl (k := 2) rfl (by rw [ex]; rfl) (by decide) rfl (fun ls hl => ?_)
        refine lv_goto (tgt := 85) hx hb dX12_wasOf_116 (by decide) ?_
        exact ih85 u1 u2 σ _ _ _ (lv_sub hl [2, 1, 0] rfl) hw hf
      intro x2 x3 σ H locs ls hl hw hf
      have hf : f_X12_wasOf_b85_s (f_X12_wasOf_b85 n85) x2 x3 σ = some (r, σ') := hf
      unfold f_X12_wasOf_b85_s at hf
      refine lv_iload_n hx hb dX12_wasOf_85 rfl (lv_at hl 2 rfl) ?_
      refine lv_bipush (v := (9 : Int32)) hx hb dX12_wasOf_86 (by decide) ?_
      refine lv_icmp_gt (tgt := 119) hx hb dX12_wasOf_88 (by decide) (fun h => ?_) (fun h => ?_)
      · have hf := k_ifT h hf
        refine lv_aload_n hx hb dX12_wasOf_119 rfl (lv_at hl 0 rfl) ?_
        refine lv_iconst (v := (-1 : Int32)) hx hb dX12_wasOf_120 (by decide) ?_
        refine k_put C hw (LM_0 LM) (ci := 12) rfl k_in12 tyX12 tyX12_ok nmX12 48 (by decide) lk12_102 rfl ⟨rfl, rfl⟩ rfl dX12_wasOf_121 (fun σ1 eq H locs hw => ?_)
        have hf := k_nmE eq hf
        refine lv_iload_n hx hb dX12_wasOf_124 rfl (lv_at hl 1 rfl) ?_
        exact k_iret C hw hf dX12_wasOf_125
      · have hf := k_ifF h hf
        refine lv_aload_n hx hb dX12_wasOf_91 rfl (lv_at hl 0 rfl) ?_
        refine lv_iload_n hx hb dX12_wasOf_92 rfl (lv_at hl 2 rfl) ?_
        refine k_put C hw (LM_0 LM) (ci := 12) rfl k_in12 tyX12 tyX12_ok nmX12 49 (by decide) lk12_337 rfl ⟨rfl, rfl⟩ rfl dX12_wasOf_93 (fun σ2 eq H locs hw => ?_)
        have hf := k_nmE eq hf
        refine lv_iload_n hx hb dX12_wasOf_96 rfl (lv_at hl 1 rfl) ?_
        refine lv_aload_n hx hb dX12_wasOf_97 rfl (lv_at hl 0 rfl) ?_
        obtain ⟨q4, σ3, hq, hf⟩ := k_bdE hf
        refine k_callVi C hw (c_X12_areSo l G Y w ad LM σ2 q4 σ3 hq) (cwV 0 hts gX12_wasOf_X12_areSo rfl rfl rfl (by decide +kernel) ⟨Nat.le_of_ble_eq_true rfl, Nat.le_of_ble_eq_true rfl⟩) (k_recv C hw (LM_0 LM) rfl) rfl hl.1 rfl (Nat.le_of_ble_eq_true rfl) dX12_wasOf_98 (fun H locs hw => ?_)
        refine lv_if_eq (tgt := 110) hx hb dX12_wasOf_101 (by decide) (fun h => ?_) (fun h => ?_)
        · have hf := k_ifT h hf
          refine lv_iconst (v := (0 : Int32)) hx hb dX12_wasOf_110 (by decide) ?_
          exact b111 x3 x2 (0 : Int32) σ3 _ _ _ (lv_sub hl [0, 2] rfl) hw hf
        · have hf := k_ifF h hf
          refine lv_iconst (v := (1 : Int32)) hx hb dX12_wasOf_104 (by decide) ?_
          refine lv_iload_n hx hb dX12_wasOf_105 rfl (lv_at hl 2 rfl) ?_
          refine lv_ishl hx hb dX12_wasOf_106 ?_
          refine lv_goto (tgt := 111) hx hb dX12_wasOf_107 (by decide) ?_
          exact b111 x3 x2 ((1 : Int32) <<< (x3 &&& 31)) σ3 _ _ _ (lv_sub hl [0, 2] rfl) hw hf
  have b35 : ∀ (n35 : Nat) (x1 : Int32) (x2 : Int32) (σ : MSt) (H : Heap) (locs : List Loc) (ls : Array Slot), lv_has ls 4 [(0, .ref (ad 0)), (1, .int x1), (2, .int x2)] → k_W G w A s.heap σ H locs → f_X12_wasOf_b35 n35 x1 x2 σ = some (r, σ') → W p l e rmX12_wasOf s m [.ref (ad 0), .int p1].toArray below meth c H locs 0 0 (MQ below (k_Qi G w A r σ') [.ref (ad 0), .int p1].toArray s 0 0 A) (F0 m 35 ls []) := by
    intro n35
    induction n35 with
    | zero =>
      intro x1 x2 σ H locs ls hl hw hf
      have hf : (none : Option (Int32 × MSt)) = some (r, σ') := hf
      cases hf
    | succ n35 ih35 =>
      have b70 : ∀ (x1 : Int32) (x2 : Int32) (σ : MSt) (H : Heap) (locs : List Loc) (ls : Array Slot), lv_has ls 4 [(0, .ref (ad 0)), (1, .int x1), (2, .int x2)] → k_W G w A s.heap σ H locs → f_X12_wasOf_b70 (f_X12_wasOf_b35 n35) x1 x2 σ = some (r, σ') → W p l e rmX12_wasOf s m [.ref (ad 0), .int p1].toArray below meth c H locs 0 0 (MQ below (k_Qi G w A r σ') [.ref (ad 0), .int p1].toArray s 0 0 A) (F0 m 70 ls []) := by
        intro x1 x2 σ H locs ls hl hw hf
        unfold f_X12_wasOf_b70 at hf
        obtain ⟨u1, ex⟩ : ∃ y : Int32, y = (x2 + (-1 : Int32)) := ⟨_, rfl⟩
        have hf := k_nmE ex hf
        refine lv_iinc (v := u1) (lv' := [(2, .int u1), (0, .ref (ad 0)), (1, .int x1)]) hx hb dX12_wasOf_70 hl (k := 2) rfl (by rw [ex]; rfl) (by decide) rfl (fun ls hl => ?_)
        refine lv_goto (tgt := 35) hx hb dX12_wasOf_73 (by decide) ?_
        exact ih35 x1 u1 σ _ _ _ (lv_sub hl [1, 2, 0] rfl) hw hf
      intro x1 x2 σ H locs ls hl hw hf
      have hf : f_X12_wasOf_b35_s (f_X12_wasOf_b35 n35) x1 x2 σ = some (r, σ') := hf
      unfold f_X12_wasOf_b35_s at hf
      refine lv_iload_n hx hb dX12_wasOf_35 rfl (lv_at hl 2 rfl) ?_
      refine lv_if_lt (tgt := 76) hx hb dX12_wasOf_36 (by decide) (fun h => ?_) (fun h => ?_)
      · have hf := k_ifT h hf
        refine lv_iconst (v := (0 : Int32)) hx hb dX12_wasOf_76 (by decide) ?_
        refine lv_istore_n (lv' := [(2, .int (0 : Int32)), (0, .ref (ad 0)), (1, .int x1)]) hx hb dX12_wasOf_77 rfl hl (by decide) rfl (fun ls hl => ?_)
        refine lv_aload_n hx hb dX12_wasOf_78 rfl (lv_at hl 1 rfl) ?_
        refine lv_iload_n hx hb dX12_wasOf_79 rfl (lv_at hl 2 rfl) ?_
        refine k_put C hw (LM_0 LM) (ci := 12) rfl k_in12 tyX12 tyX12_ok nmX12 48 (by decide) lk12_102 rfl ⟨rfl, rfl⟩ rfl dX12_wasOf_80 (fun σ1 eq H locs hw => ?_)
        have hf := k_nmE eq hf
        refine lv_iconst (v := (0 : Int32)) hx hb dX12_wasOf_83 (by decide) ?_
        refine lv_istore_n (lv' := [(3, .int (0 : Int32)), (2, .int (0 : Int32)), (0, .ref (ad 0)), (1, .int x1)]) hx hb dX12_wasOf_84 rfl hl (by decide) rfl (fun ls hl => ?_)
        exact b85 FU (0 : Int32) (0 : Int32) σ1 _ _ _ (lv_sub hl [2, 1, 0] rfl) hw hf
      · have hf := k_ifF h hf
        refine lv_aload_n hx hb dX12_wasOf_39 rfl (lv_at hl 0 rfl) ?_
        refine k_get C hw (LM_0 LM) (ci := 12) rfl k_in12 65 (by decide) lk12_139 (v := .ref (ad 38)) rfl dX12_wasOf_40 ?_
        refine lv_iload_n hx hb dX12_wasOf_43 rfl (lv_at hl 2 rfl) ?_
        obtain ⟨hi, hf⟩ := k_ckE hf
        refine k_zald C hw (LM_38 LM) hi dX12_wasOf_44 ?_
        refine lv_if_ne (tgt := 70) hx hb dX12_wasOf_45 (by decide) (fun h => ?_) (fun h => ?_)
        · have hf := k_ifF h hf
          exact b70 x1 x2 σ _ _ _ (lv_sub hl [0, 1, 2] rfl) hw hf
        · have hf := k_ifT h hf
          refine lv_aload_n hx hb dX12_wasOf_48 rfl (lv_at hl 0 rfl) ?_
          refine k_get C hw (LM_0 LM) (ci := 12) rfl k_in12 64 (by decide) lk12_136 (v := .ref (ad 37)) rfl dX12_wasOf_49 ?_
          refine lv_iload_n hx hb dX12_wasOf_52 rfl (lv_at hl 2 rfl) ?_
          obtain ⟨hi, hf⟩ := k_ckE hf
          refine k_iald C hw (LM_37 LM) hi dX12_wasOf_53 ?_
          refine lv_iconst (v := (-1 : Int32)) hx hb dX12_wasOf_54 (by decide) ?_
          refine lv_icmp_eq (tgt := 70) hx hb dX12_wasOf_55 (by decide) (fun h => ?_) (fun h => ?_)
          · have hf := k_ifT h hf
            exact b70 x1 x2 σ _ _ _ (lv_sub hl [0, 1, 2] rfl) hw hf
          · have hf := k_ifF h hf
            refine lv_aload_n hx hb dX12_wasOf_58 rfl (lv_at hl 0 rfl) ?_
            refine k_get C hw (LM_0 LM) (ci := 12) rfl k_in12 65 (by decide) lk12_139 (v := .ref (ad 38)) rfl dX12_wasOf_59 ?_
            refine lv_aload_n hx hb dX12_wasOf_62 rfl (lv_at hl 0 rfl) ?_
            refine k_get C hw (LM_0 LM) (ci := 12) rfl k_in12 64 (by decide) lk12_136 (v := .ref (ad 37)) rfl dX12_wasOf_63 ?_
            refine lv_iload_n hx hb dX12_wasOf_66 rfl (lv_at hl 2 rfl) ?_
            obtain ⟨hi, hf⟩ := k_ckE hf
            refine k_iald C hw (LM_37 LM) hi dX12_wasOf_67 ?_
            refine lv_iconst (v := (1 : Int32)) hx hb dX12_wasOf_68 (by decide) ?_
            obtain ⟨hi, hf⟩ := k_ckE hf
            refine k_zast C hw (LM_38 LM) hi dX12_wasOf_69 (fun σ2 eq H locs hw => ?_)
            have hf := k_nmE eq hf
            exact b70 x1 x2 σ2 _ _ _ (lv_sub hl [0, 1, 2] rfl) hw hf
  have b7 : ∀ (n7 : Nat) (x1 : Int32) (x2 : Int32) (σ : MSt) (H : Heap) (locs : List Loc) (ls : Array Slot), lv_has ls 4 [(0, .ref (ad 0)), (1, .int x1), (2, .int x2)] → k_W G w A s.heap σ H locs → f_X12_wasOf_b7 n7 x1 x2 σ = some (r, σ') → W p l e rmX12_wasOf s m [.ref (ad 0), .int p1].toArray below meth c H locs 0 0 (MQ below (k_Qi G w A r σ') [.ref (ad 0), .int p1].toArray s 0 0 A) (F0 m 7 ls []) := by
    intro n7
    induction n7 with
    | zero =>
      intro x1 x2 σ H locs ls hl hw hf
      have hf : (none : Option (Int32 × MSt)) = some (r, σ') := hf
      cases hf
    | succ n7 ih7 =>
      intro x1 x2 σ H locs ls hl hw hf
      have hf : f_X12_wasOf_b7_s (f_X12_wasOf_b7 n7) x1 x2 σ = some (r, σ') := hf
      unfold f_X12_wasOf_b7_s at hf
      refine lv_iload_n hx hb dX12_wasOf_7 rfl (lv_at hl 2 rfl) ?_
      refine lv_aload_n hx hb dX12_wasOf_8 rfl (lv_at hl 0 rfl) ?_
      obtain ⟨q2, σ1, hq, hf⟩ := k_bdE hf
      refine k_callVi C hw (c_X12_knownMany l G Y w ad LM σ q2 σ1 hq) (cwV 0 hts gX12_wasOf_X12_knownMany rfl rfl rfl (by decide +kernel) ⟨Nat.le_of_ble_eq_true rfl, Nat.le_of_ble_eq_true rfl⟩) (k_recv C hw (LM_0 LM) rfl) rfl hl.1 rfl (Nat.le_of_ble_eq_true rfl) dX12_wasOf_9 (fun H locs hw => ?_)
      refine lv_icmp_ge (tgt := 28) hx hb dX12_wasOf_12 (by decide) (fun h => ?_) (fun h => ?_)
      · have hf := k_ifT h hf
        refine lv_aload_n hx hb dX12_wasOf_28 rfl (lv_at hl 0 rfl) ?_
        obtain ⟨q4, σ3, hq, hf⟩ := k_bdE hf
        refine k_callVi C hw (c_X12_knownMany l G Y w ad LM σ1 q4 σ3 hq) (cwV 0 hts gX12_wasOf_X12_knownMany rfl rfl rfl (by decide +kernel) ⟨Nat.le_of_ble_eq_true rfl, Nat.le_of_ble_eq_true rfl⟩) (k_recv C hw (LM_0 LM) rfl) rfl hl.1 rfl (Nat.le_of_ble_eq_true rfl) dX12_wasOf_29 (fun H locs hw => ?_)
        refine lv_iconst (v := (1 : Int32)) hx hb dX12_wasOf_32 (by decide) ?_
        refine lv_isub hx hb dX12_wasOf_33 ?_
        refine lv_topi (fun u5 ex => ?_)
        have hf := k_nmE ex hf
        refine lv_istore_n (lv' := [(2, .int u5), (0, .ref (ad 0)), (1, .int x1)]) hx hb dX12_wasOf_34 rfl hl (by decide) rfl (fun ls hl => ?_)
        exact b35 FU x1 u5 σ3 _ _ _ (lv_sub hl [1, 2, 0] rfl) hw hf
      · have hf := k_ifF h hf
        refine lv_aload_n hx hb dX12_wasOf_15 rfl (lv_at hl 0 rfl) ?_
        refine k_get C hw (LM_0 LM) (ci := 12) rfl k_in12 65 (by decide) lk12_139 (v := .ref (ad 38)) rfl dX12_wasOf_16 ?_
        refine lv_iload_n hx hb dX12_wasOf_19 rfl (lv_at hl 2 rfl) ?_
        refine lv_iconst (v := (0 : Int32)) hx hb dX12_wasOf_20 (by decide) ?_
        obtain ⟨hi, hf⟩ := k_ckE hf
        refine k_zast C hw (LM_38 LM) hi dX12_wasOf_21 (fun σ6 eq H locs hw => ?_)
        have hf := k_nmE eq hf
        obtain ⟨u7, ex⟩ : ∃ y : Int32, y = (x2 + (1 : Int32)) := ⟨_, rfl⟩
        have hf := k_nmE ex hf
        refine lv_iinc (v := u7) (lv' := [(2, .int u7), (0, .ref (ad 0)), (1, .int x1)]) hx hb dX12_wasOf_22 hl (k := 2) rfl (by rw [ex]; rfl) (by decide) rfl (fun ls hl => ?_)
        refine lv_goto (tgt := 7) hx hb dX12_wasOf_25 (by decide) ?_
        exact ih7 x1 u7 σ6 _ _ _ (lv_sub hl [1, 2, 0] rfl) hw hf
  unfold f_X12_wasOf at hf
  refine lv_aload_n hx hb dX12_wasOf_0 rfl (lv_at hl 0 rfl) ?_
  refine lv_iconst (v := (2 : Int32)) hx hb dX12_wasOf_1 (by decide) ?_
  obtain ⟨σ8, hq, hf⟩ := k_bvE hf
  refine k_callVv C hw (c_X12_starts l G Y w ad LM (2 : Int32) σ σ8 hq) (cwV 1 hts gX12_wasOf_X12_starts rfl rfl rfl (by decide +kernel) ⟨Nat.le_of_ble_eq_true rfl, Nat.le_of_ble_eq_true rfl⟩) (k_recv C hw (LM_0 LM) rfl) rfl hl.1 rfl (Nat.le_of_ble_eq_true rfl) dX12_wasOf_2 (fun H locs hw => ?_)
  refine lv_iconst (v := (0 : Int32)) hx hb dX12_wasOf_5 (by decide) ?_
  refine lv_istore_n (lv' := [(2, .int (0 : Int32)), (0, .ref (ad 0)), (1, .int p1)]) hx hb dX12_wasOf_6 rfl hl (by decide) rfl (fun ls hl => ?_)
  exact b7 FU p1 (0 : Int32) σ8 _ _ _ (lv_sub hl [1, 2, 0] rfl) hw hf
def f_X12_was_b22  (y0 : Int32) (σ : MSt) : Option (Int32 × MSt) :=
  some (y0, σ)
def f_X12_was  (p1 : Int32) (σ : MSt) : Option (Int32 × MSt) :=
  k_nm (mI σ 0 0 (0 : Int32)) fun σ1 =>
  k_bd (f_X12_isDeed p1 σ1) fun q3 σ2 =>
  if q3 = 0 then
  (f_X12_was_b22 (-1 : Int32) σ2)
  else
  (k_bd (f_X12_wasOf p1 σ2) fun q5 σ4 =>
  f_X12_was_b22 q5 σ4)
def rmX12_was : Room := { frames := 8, cells := 0, slots := 0, locals := 192 }
set_option maxHeartbeats 4000000 in
set_option maxRecDepth 100000 in
theorem c_X12_was (l : Launch) (G : va_G) (Y : CY) (w : MSt → va_W) (ad : Nat → Nat)  (LM : LayM ad w Y) (p1 : Int32) (σ : MSt) (r : Int32) (σ' : MSt) (hf : f_X12_was p1 σ = some (r, σ')) : k_Mi l yX12_was wsX12_was rmX12_was G Y w [.ref (ad 0), .int p1] σ r σ' := by
  refine k_ofi (own := RX12) (cc := cX12_was) (maxL := 2) (some .int) (by decide) rfl rfl (Nat.le_of_ble_eq_true rfl) ?_
  intro p e s m below meth c A C ls hl hw
  have hx := C.1
  have hb := C.2.1
  have hown := C.2.2.2.2.1
  have hts := C.2.2.2.2.2.1
  have hks := C.2.2.2.2.2.2.1
  have hl : lv_has ls 2 [(0, .ref (ad 0)), (1, .int p1)] := hl
  have b22 : ∀ (y0 : Int32) (σ : MSt) (H : Heap) (locs : List Loc) (ls : Array Slot), lv_has ls 2 [] → k_W G w A s.heap σ H locs → f_X12_was_b22 y0 σ = some (r, σ') → W p l e rmX12_was s m [.ref (ad 0), .int p1].toArray below meth c H locs 0 0 (MQ below (k_Qi G w A r σ') [.ref (ad 0), .int p1].toArray s 0 0 A) (F0 m 22 ls [.int y0]) := by
    intro y0 σ H locs ls hl hw hf
    unfold f_X12_was_b22 at hf
    exact k_iret C hw hf dX12_was_22
  unfold f_X12_was at hf
  refine lv_aload_n hx hb dX12_was_0 rfl (lv_at hl 0 rfl) ?_
  refine lv_iconst (v := (0 : Int32)) hx hb dX12_was_1 (by decide) ?_
  refine k_put C hw (LM_0 LM) (ci := 12) rfl k_in12 tyX12 tyX12_ok nmX12 0 (by decide) lk12_145 rfl ⟨rfl, rfl⟩ rfl dX12_was_2 (fun σ1 eq H locs hw => ?_)
  have hf := k_nmE eq hf
  refine lv_aload_n hx hb dX12_was_5 rfl (lv_at hl 0 rfl) ?_
  refine lv_iload_n hx hb dX12_was_6 rfl (lv_at hl 1 rfl) ?_
  obtain ⟨q3, σ2, hq, hf⟩ := k_bdE hf
  refine k_callVi C hw (c_X12_isDeed l G Y w ad LM p1 σ1 q3 σ2 hq) (cwV 1 hts gX12_was_X12_isDeed rfl rfl rfl (by decide +kernel) ⟨Nat.le_of_ble_eq_true rfl, Nat.le_of_ble_eq_true rfl⟩) (k_recv C hw (LM_0 LM) rfl) rfl hl.1 rfl (Nat.le_of_ble_eq_true rfl) dX12_was_7 (fun H locs hw => ?_)
  refine lv_if_eq (tgt := 21) hx hb dX12_was_10 (by decide) (fun h => ?_) (fun h => ?_)
  · have hf := k_ifT h hf
    refine lv_iconst (v := (-1 : Int32)) hx hb dX12_was_21 (by decide) ?_
    exact b22 (-1 : Int32) σ2 _ _ _ (lv_sub hl [] rfl) hw hf
  · have hf := k_ifF h hf
    refine lv_aload_n hx hb dX12_was_13 rfl (lv_at hl 0 rfl) ?_
    refine lv_iload_n hx hb dX12_was_14 rfl (lv_at hl 1 rfl) ?_
    obtain ⟨q5, σ4, hq, hf⟩ := k_bdE hf
    refine k_callVi C hw (c_X12_wasOf l G Y w ad LM p1 σ2 q5 σ4 hq) (cwV 1 hts gX12_was_X12_wasOf rfl rfl rfl (by decide +kernel) ⟨Nat.le_of_ble_eq_true rfl, Nat.le_of_ble_eq_true rfl⟩) (k_recv C hw (LM_0 LM) rfl) rfl hl.1 rfl (Nat.le_of_ble_eq_true rfl) dX12_was_15 (fun H locs hw => ?_)
    refine lv_goto (tgt := 22) hx hb dX12_was_18 (by decide) ?_
    exact b22 q5 σ4 _ _ _ (lv_sub hl [] rfl) hw hf
def f_X12_unlikeOn_b60  (r11 : Int32 → Int32 → Int32 → Int32 → Int32 → MSt → Option (Int32 × MSt)) (x1 : Int32) (x2 : Int32) (x3 : Int32) (x4 : Int32) (x5 : Int32) (σ : MSt) : Option (Int32 × MSt) :=
  k_nm (x5 + (1 : Int32)) fun u1 =>
  r11 x1 x2 x3 x4 u1 σ
def f_X12_unlikeOn_b57  (r11 : Int32 → Int32 → Int32 → Int32 → Int32 → MSt → Option (Int32 × MSt)) (x1 : Int32) (x2 : Int32) (x3 : Int32) (x5 : Int32) (y0 : Int32) (y1 : Int32) (σ : MSt) : Option (Int32 × MSt) :=
  k_nm (y0 + y1) fun u1 =>
  f_X12_unlikeOn_b60 r11 x1 x2 x3 u1 x5 σ
def f_X12_unlikeOn_b11_s  (r11 : Int32 → Int32 → Int32 → Int32 → Int32 → MSt → Option (Int32 × MSt)) (x1 : Int32) (x2 : Int32) (x3 : Int32) (x4 : Int32) (x5 : Int32) (σ : MSt) : Option (Int32 × MSt) :=
  if (9 : Int32) < x5 then
  (k_nm (mI σ 0 48 (-1 : Int32)) fun σ1 =>
  some ((k_abs x4), σ1))
  else
  (k_nm (mI σ 0 49 x5) fun σ2 =>
  if ((x2 >>> (x5 &&& 31)) &&& (1 : Int32)) = (1 : Int32) then
  (k_ck (k_inb x1 24) <|
  k_bd (f_X12_willHold (2 : Int32) (σ2.1 7 (x1).toNatClampNeg) x3 (-1 : Int32) σ2) fun q4 σ3 =>
  if q4 = 0 then
  (f_X12_unlikeOn_b57 r11 x1 x2 x3 x5 x4 (-1 : Int32) σ3)
  else
  (f_X12_unlikeOn_b57 r11 x1 x2 x3 x5 x4 (1 : Int32) σ3))
  else
  (f_X12_unlikeOn_b60 r11 x1 x2 x3 x4 x5 σ2))
def f_X12_unlikeOn_b11  : Nat → Int32 → Int32 → Int32 → Int32 → Int32 → MSt → Option (Int32 × MSt)
  | 0 => fun _ _ _ _ _ _ => none
  | n + 1 => f_X12_unlikeOn_b11_s (f_X12_unlikeOn_b11 n)
def f_X12_unlikeOn  (p1 : Int32) (p2 : Int32) (p3 : Int32) (σ : MSt) : Option (Int32 × MSt) :=
  k_nm (mI σ 0 48 p1) fun σ5 =>
  f_X12_unlikeOn_b11 FU p1 p2 p3 (0 : Int32) (0 : Int32) σ5
def rmX12_unlikeOn : Room := { frames := 6, cells := 0, slots := 0, locals := 148 }
set_option maxHeartbeats 4000000 in
set_option maxRecDepth 100000 in
theorem c_X12_unlikeOn (l : Launch) (G : va_G) (Y : CY) (w : MSt → va_W) (ad : Nat → Nat)  (LM : LayM ad w Y) (p1 : Int32) (p2 : Int32) (p3 : Int32) (σ : MSt) (r : Int32) (σ' : MSt) (hf : f_X12_unlikeOn p1 p2 p3 σ = some (r, σ')) : k_Mi l yX12_unlikeOn wsX12_unlikeOn rmX12_unlikeOn G Y w [.ref (ad 0), .int p1, .int p2, .int p3] σ r σ' := by
  refine k_ofi (own := RX12) (cc := cX12_unlikeOn) (maxL := 6) (some .int) (by decide) rfl rfl (Nat.le_of_ble_eq_true rfl) ?_
  intro p e s m below meth c A C ls hl hw
  have hx := C.1
  have hb := C.2.1
  have hown := C.2.2.2.2.1
  have hts := C.2.2.2.2.2.1
  have hks := C.2.2.2.2.2.2.1
  have hl : lv_has ls 6 [(0, .ref (ad 0)), (1, .int p1), (2, .int p2), (3, .int p3)] := hl
  have b11 : ∀ (n11 : Nat) (x1 : Int32) (x2 : Int32) (x3 : Int32) (x4 : Int32) (x5 : Int32) (σ : MSt) (H : Heap) (locs : List Loc) (ls : Array Slot), lv_has ls 6 [(0, .ref (ad 0)), (1, .int x1), (2, .int x2), (3, .int x3), (4, .int x4), (5, .int x5)] → k_W G w A s.heap σ H locs → f_X12_unlikeOn_b11 n11 x1 x2 x3 x4 x5 σ = some (r, σ') → W p l e rmX12_unlikeOn s m [.ref (ad 0), .int p1, .int p2, .int p3].toArray below meth c H locs 0 0 (MQ below (k_Qi G w A r σ') [.ref (ad 0), .int p1, .int p2, .int p3].toArray s 0 0 A) (F0 m 11 ls []) := by
    intro n11
    induction n11 with
    | zero =>
      intro x1 x2 x3 x4 x5 σ H locs ls hl hw hf
      have hf : (none : Option (Int32 × MSt)) = some (r, σ') := hf
      cases hf
    | succ n11 ih11 =>
      have b60 : ∀ (x1 : Int32) (x2 : Int32) (x3 : Int32) (x4 : Int32) (x5 : Int32) (σ : MSt) (H : Heap) (locs : List Loc) (ls : Array Slot), lv_has ls 6 [(0, .ref (ad 0)), (1, .int x1), (2, .int x2), (3, .int x3), (4, .int x4), (5, .int x5)] → k_W G w A s.heap σ H locs → f_X12_unlikeOn_b60 (f_X12_unlikeOn_b11 n11) x1 x2 x3 x4 x5 σ = some (r, σ') → W p l e rmX12_unlikeOn s m [.ref (ad 0), .int p1, .int p2, .int p3].toArray below meth c H locs 0 0 (MQ below (k_Qi G w A r σ') [.ref (ad 0), .int p1, .int p2, .int p3].toArray s 0 0 A) (F0 m 60 ls []) := by
        intro x1 x2 x3 x4 x5 σ H locs ls hl hw hf
        unfold f_X12_unlikeOn_b60 at hf
        obtain ⟨u1, ex⟩ : ∃ y : Int32, y = (x5 + (1 : Int32)) := ⟨_, rfl⟩
        have hf := k_nmE ex hf
        refine lv_iinc (v := u1) (lv' := [(5, .int u1), (0, .ref (ad 0)), (1, .int x1), (2, .int x2), (3, .int x3), (4, .int x4)]) hx hb dX12_unlikeOn_60 hl (k := 5) rfl (by rw [ex]; rfl) (by decide) rfl (fun ls hl => ?_)
        refine lv_goto (tgt := 11) hx hb dX12_unlikeOn_63 (by decide) ?_
        exact ih11 x1 x2 x3 x4 u1 σ _ _ _ (lv_sub hl [1, 2, 3, 4, 5, 0] rfl) hw hf
      have b57 : ∀ (x1 : Int32) (x2 : Int32) (x3 : Int32) (x5 : Int32) (y0 : Int32) (y1 : Int32) (σ : MSt) (H : Heap) (locs : List Loc) (ls : Array Slot), lv_has ls 6 [(0, .ref (ad 0)), (1, .int x1), (2, .int x2), (3, .int x3), (5, .int x5)] → k_W G w A s.heap σ H locs → f_X12_unlikeOn_b57 (f_X12_unlikeOn_b11 n11) x1 x2 x3 x5 y0 y1 σ = some (r, σ') → W p l e rmX12_unlikeOn s m [.ref (ad 0), .int p1, .int p2, .int p3].toArray below meth c H locs 0 0 (MQ below (k_Qi G w A r σ') [.ref (ad 0), .int p1, .int p2, .int p3].toArray s 0 0 A) (F0 m 57 ls [.int y1, .int y0]) := by
        intro x1 x2 x3 x5 y0 y1 σ H locs ls hl hw hf
        unfold f_X12_unlikeOn_b57 at hf
        refine lv_iadd hx hb dX12_unlikeOn_57 ?_
        refine lv_topi (fun u1 ex => ?_)
        have hf := k_nmE ex hf
        refine lv_istore (lv' := [(4, .int u1), (0, .ref (ad 0)), (1, .int x1), (2, .int x2), (3, .int x3), (5, .int x5)]) hx hb dX12_unlikeOn_58 hl (by decide) rfl (fun ls hl => ?_)
        exact b60 x1 x2 x3 u1 x5 σ _ _ _ (lv_sub hl [1, 2, 3, 4, 0, 5] rfl) hw hf
      intro x1 x2 x3 x4 x5 σ H locs ls hl hw hf
      have hf : f_X12_unlikeOn_b11_s (f_X12_unlikeOn_b11 n11) x1 x2 x3 x4 x5 σ = some (r, σ') := hf
      unfold f_X12_unlikeOn_b11_s at hf
      refine lv_iload hx hb dX12_unlikeOn_11 (lv_at hl 5 rfl) ?_
      refine lv_bipush (v := (9 : Int32)) hx hb dX12_unlikeOn_13 (by decide) ?_
      refine lv_icmp_gt (tgt := 66) hx hb dX12_unlikeOn_15 (by decide) (fun h => ?_) (fun h => ?_)
      · have hf := k_ifT h hf
        refine lv_aload_n hx hb dX12_unlikeOn_66 rfl (lv_at hl 0 rfl) ?_
        refine lv_iconst (v := (-1 : Int32)) hx hb dX12_unlikeOn_67 (by decide) ?_
        refine k_put C hw (LM_0 LM) (ci := 12) rfl k_in12 tyX12 tyX12_ok nmX12 48 (by decide) lk12_102 rfl ⟨rfl, rfl⟩ rfl dX12_unlikeOn_68 (fun σ1 eq H locs hw => ?_)
        have hf := k_nmE eq hf
        refine lv_iload hx hb dX12_unlikeOn_71 (lv_at hl 4 rfl) ?_
        refine k_mabs C hl.1 ml12_490 ms_Lib_Math_abs_name mi_Math mc_Lib_Math_abs_name (Nat.le_of_ble_eq_true rfl) (Nat.le_of_ble_eq_true rfl) dX12_unlikeOn_73 ?_
        exact k_iret C hw hf dX12_unlikeOn_76
      · have hf := k_ifF h hf
        refine lv_aload_n hx hb dX12_unlikeOn_18 rfl (lv_at hl 0 rfl) ?_
        refine lv_iload hx hb dX12_unlikeOn_19 (lv_at hl 5 rfl) ?_
        refine k_put C hw (LM_0 LM) (ci := 12) rfl k_in12 tyX12 tyX12_ok nmX12 49 (by decide) lk12_337 rfl ⟨rfl, rfl⟩ rfl dX12_unlikeOn_21 (fun σ2 eq H locs hw => ?_)
        have hf := k_nmE eq hf
        refine lv_iload_n hx hb dX12_unlikeOn_24 rfl (lv_at hl 2 rfl) ?_
        refine lv_iload hx hb dX12_unlikeOn_25 (lv_at hl 5 rfl) ?_
        refine lv_ishr hx hb dX12_unlikeOn_27 ?_
        refine lv_iconst (v := (1 : Int32)) hx hb dX12_unlikeOn_28 (by decide) ?_
        refine lv_iand hx hb dX12_unlikeOn_29 ?_
        refine lv_iconst (v := (1 : Int32)) hx hb dX12_unlikeOn_30 (by decide) ?_
        refine lv_icmp_ne (tgt := 60) hx hb dX12_unlikeOn_31 (by decide) (fun h => ?_) (fun h => ?_)
        · have hf := k_ifF h hf
          exact b60 x1 x2 x3 x4 x5 σ2 _ _ _ (lv_sub hl [0, 1, 2, 3, 4, 5] rfl) hw hf
        · have hf := k_ifT h hf
          refine lv_iload hx hb dX12_unlikeOn_34 (lv_at hl 4 rfl) ?_
          refine lv_aload_n hx hb dX12_unlikeOn_36 rfl (lv_at hl 0 rfl) ?_
          refine lv_iconst (v := (2 : Int32)) hx hb dX12_unlikeOn_37 (by decide) ?_
          refine lv_aload_n hx hb dX12_unlikeOn_38 rfl (lv_at hl 0 rfl) ?_
          refine k_get C hw (LM_0 LM) (ci := 12) rfl k_in12 8 (by decide) lk12_28 (v := .ref (ad 7)) rfl dX12_unlikeOn_39 ?_
          refine lv_iload_n hx hb dX12_unlikeOn_42 rfl (lv_at hl 1 rfl) ?_
          obtain ⟨hi, hf⟩ := k_ckE hf
          refine k_iald C hw (LM_7 LM) hi dX12_unlikeOn_43 ?_
          refine lv_iload_n hx hb dX12_unlikeOn_44 rfl (lv_at hl 3 rfl) ?_
          refine lv_iconst (v := (-1 : Int32)) hx hb dX12_unlikeOn_45 (by decide) ?_
          obtain ⟨q4, σ3, hq, hf⟩ := k_bdE hf
          refine k_callVi C hw (c_X12_willHold l G Y w ad LM (2 : Int32) (σ2.1 7 (x1).toNatClampNeg) x3 (-1 : Int32) σ2 q4 σ3 hq) (cwV 4 hts gX12_unlikeOn_X12_willHold rfl rfl rfl (by decide +kernel) ⟨Nat.le_of_ble_eq_true rfl, Nat.le_of_ble_eq_true rfl⟩) (k_recv C hw (LM_0 LM) rfl) rfl hl.1 rfl (Nat.le_of_ble_eq_true rfl) dX12_unlikeOn_46 (fun H locs hw => ?_)
          refine lv_if_eq (tgt := 56) hx hb dX12_unlikeOn_49 (by decide) (fun h => ?_) (fun h => ?_)
          · have hf := k_ifT h hf
            refine lv_iconst (v := (-1 : Int32)) hx hb dX12_unlikeOn_56 (by decide) ?_
            exact b57 x1 x2 x3 x5 x4 (-1 : Int32) σ3 _ _ _ (lv_sub hl [0, 1, 2, 3, 5] rfl) hw hf
          · have hf := k_ifF h hf
            refine lv_iconst (v := (1 : Int32)) hx hb dX12_unlikeOn_52 (by decide) ?_
            refine lv_goto (tgt := 57) hx hb dX12_unlikeOn_53 (by decide) ?_
            exact b57 x1 x2 x3 x5 x4 (1 : Int32) σ3 _ _ _ (lv_sub hl [0, 1, 2, 3, 5] rfl) hw hf
  unfold f_X12_unlikeOn at hf
  refine lv_iconst (v := (0 : Int32)) hx hb dX12_unlikeOn_0 (by decide) ?_
  refine lv_istore (lv' := [(4, .int (0 : Int32)), (0, .ref (ad 0)), (1, .int p1), (2, .int p2), (3, .int p3)]) hx hb dX12_unlikeOn_1 hl (by decide) rfl (fun ls hl => ?_)
  refine lv_aload_n hx hb dX12_unlikeOn_3 rfl (lv_at hl 1 rfl) ?_
  refine lv_iload_n hx hb dX12_unlikeOn_4 rfl (lv_at hl 2 rfl) ?_
  refine k_put C hw (LM_0 LM) (ci := 12) rfl k_in12 tyX12 tyX12_ok nmX12 48 (by decide) lk12_102 rfl ⟨rfl, rfl⟩ rfl dX12_unlikeOn_5 (fun σ5 eq H locs hw => ?_)
  have hf := k_nmE eq hf
  refine lv_iconst (v := (0 : Int32)) hx hb dX12_unlikeOn_8 (by decide) ?_
  refine lv_istore (lv' := [(5, .int (0 : Int32)), (4, .int (0 : Int32)), (0, .ref (ad 0)), (1, .int p1), (2, .int p2), (3, .int p3)]) hx hb dX12_unlikeOn_9 hl (by decide) rfl (fun ls hl => ?_)
  exact b11 FU p1 p2 p3 (0 : Int32) (0 : Int32) σ5 _ _ _ (lv_sub hl [2, 3, 4, 5, 1, 0] rfl) hw hf
def f_X12_tells_b90  (r49 : Int32 → Int32 → Int32 → Int32 → Int32 → MSt → Option (Int32 × MSt)) (x1 : Int32) (x2 : Int32) (x3 : Int32) (x4 : Int32) (x5 : Int32) (σ : MSt) : Option (Int32 × MSt) :=
  k_nm (x5 + (1 : Int32)) fun u1 =>
  r49 x1 x2 x3 x4 u1 σ
def f_X12_tells_b49_s  (r49 : Int32 → Int32 → Int32 → Int32 → Int32 → MSt → Option (Int32 × MSt)) (x1 : Int32) (x2 : Int32) (x3 : Int32) (x4 : Int32) (x5 : Int32) (σ : MSt) : Option (Int32 × MSt) :=
  k_ck (k_inb x1 24) <|
  if ((σ.1 8 (x1).toNatClampNeg) + (20 : Int32)) ≤ x5 then
  (some (x3, σ))
  else
  (k_bd (f_X12_unlikeOn x1 x2 x5 σ) fun q2 σ1 =>
  if q2 < x4 then
  (f_X12_tells_b90 r49 x1 x2 x5 q2 x5 σ1)
  else
  (f_X12_tells_b90 r49 x1 x2 x3 x4 x5 σ1))
def f_X12_tells_b49  : Nat → Int32 → Int32 → Int32 → Int32 → Int32 → MSt → Option (Int32 × MSt)
  | 0 => fun _ _ _ _ _ _ => none
  | n + 1 => f_X12_tells_b49_s (f_X12_tells_b49 n)
def f_X12_tells  (p1 : Int32) (σ : MSt) : Option (Int32 × MSt) :=
  k_nm (mI σ 0 0 (0 : Int32)) fun σ3 =>
  k_bd (f_X12_isDeed p1 σ3) fun q5 σ4 =>
  if q5 = 0 then
  (some ((-1 : Int32), σ4))
  else
  (k_bd (f_X12_wasOf p1 σ4) fun q7 σ6 =>
  if q7 = 0 then
  (some ((-2 : Int32), σ6))
  else
  (k_ck (k_inb p1 24) <|
  k_nm (σ6.1 8 (p1).toNatClampNeg) fun u8 =>
  k_bd (f_X12_unlikeOn p1 q7 u8 σ6) fun q10 σ9 =>
  k_nm (u8 + (1 : Int32)) fun u11 =>
  f_X12_tells_b49 FU p1 q7 u8 q10 u11 σ9))
def rmX12_tells : Room := { frames := 8, cells := 0, slots := 0, locals := 192 }
set_option maxHeartbeats 4000000 in
set_option maxRecDepth 100000 in
theorem c_X12_tells (l : Launch) (G : va_G) (Y : CY) (w : MSt → va_W) (ad : Nat → Nat)  (LM : LayM ad w Y) (p1 : Int32) (σ : MSt) (r : Int32) (σ' : MSt) (hf : f_X12_tells p1 σ = some (r, σ')) : k_Mi l yX12_tells wsX12_tells rmX12_tells G Y w [.ref (ad 0), .int p1] σ r σ' := by
  refine k_ofi (own := RX12) (cc := cX12_tells) (maxL := 7) (some .int) (by decide) rfl rfl (Nat.le_of_ble_eq_true rfl) ?_
  intro p e s m below meth c A C ls hl hw
  have hx := C.1
  have hb := C.2.1
  have hown := C.2.2.2.2.1
  have hts := C.2.2.2.2.2.1
  have hks := C.2.2.2.2.2.2.1
  have hl : lv_has ls 7 [(0, .ref (ad 0)), (1, .int p1)] := hl
  have b49 : ∀ (n49 : Nat) (x1 : Int32) (x2 : Int32) (x3 : Int32) (x4 : Int32) (x5 : Int32) (σ : MSt) (H : Heap) (locs : List Loc) (ls : Array Slot), lv_has ls 7 [(0, .ref (ad 0)), (1, .int x1), (2, .int x2), (3, .int x3), (4, .int x4), (5, .int x5)] → k_W G w A s.heap σ H locs → f_X12_tells_b49 n49 x1 x2 x3 x4 x5 σ = some (r, σ') → W p l e rmX12_tells s m [.ref (ad 0), .int p1].toArray below meth c H locs 0 0 (MQ below (k_Qi G w A r σ') [.ref (ad 0), .int p1].toArray s 0 0 A) (F0 m 49 ls []) := by
    intro n49
    induction n49 with
    | zero =>
      intro x1 x2 x3 x4 x5 σ H locs ls hl hw hf
      have hf : (none : Option (Int32 × MSt)) = some (r, σ') := hf
      cases hf
    | succ n49 ih49 =>
      have b90 : ∀ (x1 : Int32) (x2 : Int32) (x3 : Int32) (x4 : Int32) (x5 : Int32) (σ : MSt) (H : Heap) (locs : List Loc) (ls : Array Slot), lv_has ls 7 [(0, .ref (ad 0)), (1, .int x1), (2, .int x2), (3, .int x3), (4, .int x4), (5, .int x5)] → k_W G w A s.heap σ H locs → f_X12_tells_b90 (f_X12_tells_b49 n49) x1 x2 x3 x4 x5 σ = some (r, σ') → W p l e rmX12_tells s m [.ref (ad 0), .int p1].toArray below meth c H locs 0 0 (MQ below (k_Qi G w A r σ') [.ref (ad 0), .int p1].toArray s 0 0 A) (F0 m 90 ls []) := by
        intro x1 x2 x3 x4 x5 σ H locs ls hl hw hf
        unfold f_X12_tells_b90 at hf
        obtain ⟨u1, ex⟩ : ∃ y : Int32, y = (x5 + (1 : Int32)) := ⟨_, rfl⟩
        have hf := k_nmE ex hf
        refine lv_iinc (v := u1) (lv' := [(5, .int u1), (0, .ref (ad 0)), (1, .int x1), (2, .int x2), (3, .int x3), (4, .int x4)]) hx hb dX12_tells_90 hl (k := 5) rfl (by rw [ex]; rfl) (by decide) rfl (fun ls hl => ?_)
        refine lv_goto (tgt := 49) hx hb dX12_tells_93 (by decide) ?_
        exact ih49 x1 x2 x3 x4 u1 σ _ _ _ (lv_sub hl [1, 2, 3, 4, 5, 0] rfl) hw hf
      intro x1 x2 x3 x4 x5 σ H locs ls hl hw hf
      have hf : f_X12_tells_b49_s (f_X12_tells_b49 n49) x1 x2 x3 x4 x5 σ = some (r, σ') := hf
      unfold f_X12_tells_b49_s at hf
      refine lv_iload hx hb dX12_tells_49 (lv_at hl 5 rfl) ?_
      refine lv_aload_n hx hb dX12_tells_51 rfl (lv_at hl 0 rfl) ?_
      refine k_get C hw (LM_0 LM) (ci := 12) rfl k_in12 9 (by decide) lk12_31 (v := .ref (ad 8)) rfl dX12_tells_52 ?_
      refine lv_iload_n hx hb dX12_tells_55 rfl (lv_at hl 1 rfl) ?_
      obtain ⟨hi, hf⟩ := k_ckE hf
      refine k_iald C hw (LM_8 LM) hi dX12_tells_56 ?_
      refine lv_bipush (v := (20 : Int32)) hx hb dX12_tells_57 (by decide) ?_
      refine lv_iadd hx hb dX12_tells_59 ?_
      refine lv_icmp_ge (tgt := 96) hx hb dX12_tells_60 (by decide) (fun h => ?_) (fun h => ?_)
      · have hf := k_ifT h hf
        refine lv_iload_n hx hb dX12_tells_96 rfl (lv_at hl 3 rfl) ?_
        exact k_iret C hw hf dX12_tells_97
      · have hf := k_ifF h hf
        refine lv_aload_n hx hb dX12_tells_63 rfl (lv_at hl 0 rfl) ?_
        refine lv_iload_n hx hb dX12_tells_64 rfl (lv_at hl 1 rfl) ?_
        refine lv_iload_n hx hb dX12_tells_65 rfl (lv_at hl 2 rfl) ?_
        refine lv_iload hx hb dX12_tells_66 (lv_at hl 5 rfl) ?_
        obtain ⟨q2, σ1, hq, hf⟩ := k_bdE hf
        refine k_callVi C hw (c_X12_unlikeOn l G Y w ad LM x1 x2 x5 σ q2 σ1 hq) (cwV 3 hts gX12_tells_X12_unlikeOn rfl rfl rfl (by decide +kernel) ⟨Nat.le_of_ble_eq_true rfl, Nat.le_of_ble_eq_true rfl⟩) (k_recv C hw (LM_0 LM) rfl) rfl hl.1 rfl (Nat.le_of_ble_eq_true rfl) dX12_tells_68 (fun H locs hw => ?_)
        refine lv_istore (lv' := [(6, .int q2), (0, .ref (ad 0)), (1, .int x1), (2, .int x2), (3, .int x3), (4, .int x4), (5, .int x5)]) hx hb dX12_tells_71 hl (by decide) rfl (fun ls hl => ?_)
        refine lv_iload hx hb dX12_tells_73 (lv_at hl 0 rfl) ?_
        refine lv_iload hx hb dX12_tells_75 (lv_at hl 5 rfl) ?_
        refine lv_icmp_lt (tgt := 83) hx hb dX12_tells_77 (by decide) (fun h => ?_) (fun h => ?_)
        · have hf := k_ifT h hf
          refine lv_iload hx hb dX12_tells_83 (lv_at hl 6 rfl) ?_
          refine lv_istore_n (lv' := [(3, .int x5), (6, .int q2), (0, .ref (ad 0)), (1, .int x1), (2, .int x2), (4, .int x4), (5, .int x5)]) hx hb dX12_tells_85 rfl hl (by decide) rfl (fun ls hl => ?_)
          refine lv_iload hx hb dX12_tells_86 (lv_at hl 1 rfl) ?_
          refine lv_istore (lv' := [(4, .int q2), (3, .int x5), (6, .int q2), (0, .ref (ad 0)), (1, .int x1), (2, .int x2), (5, .int x5)]) hx hb dX12_tells_88 hl (by decide) rfl (fun ls hl => ?_)
          exact b90 x1 x2 x5 q2 x5 σ1 _ _ _ (lv_sub hl [3, 4, 5, 1, 0, 6] rfl) hw hf
        · have hf := k_ifF h hf
          refine lv_goto (tgt := 90) hx hb dX12_tells_80 (by decide) ?_
          exact b90 x1 x2 x3 x4 x5 σ1 _ _ _ (lv_sub hl [1, 2, 3, 4, 5, 6] rfl) hw hf
  unfold f_X12_tells at hf
  refine lv_aload_n hx hb dX12_tells_0 rfl (lv_at hl 0 rfl) ?_
  refine lv_iconst (v := (0 : Int32)) hx hb dX12_tells_1 (by decide) ?_
  refine k_put C hw (LM_0 LM) (ci := 12) rfl k_in12 tyX12 tyX12_ok nmX12 0 (by decide) lk12_145 rfl ⟨rfl, rfl⟩ rfl dX12_tells_2 (fun σ3 eq H locs hw => ?_)
  have hf := k_nmE eq hf
  refine lv_aload_n hx hb dX12_tells_5 rfl (lv_at hl 0 rfl) ?_
  refine lv_iload_n hx hb dX12_tells_6 rfl (lv_at hl 1 rfl) ?_
  obtain ⟨q5, σ4, hq, hf⟩ := k_bdE hf
  refine k_callVi C hw (c_X12_isDeed l G Y w ad LM p1 σ3 q5 σ4 hq) (cwV 1 hts gX12_tells_X12_isDeed rfl rfl rfl (by decide +kernel) ⟨Nat.le_of_ble_eq_true rfl, Nat.le_of_ble_eq_true rfl⟩) (k_recv C hw (LM_0 LM) rfl) rfl hl.1 rfl (Nat.le_of_ble_eq_true rfl) dX12_tells_7 (fun H locs hw => ?_)
  refine lv_if_ne (tgt := 15) hx hb dX12_tells_10 (by decide) (fun h => ?_) (fun h => ?_)
  · have hf := k_ifF h hf
    refine lv_aload_n hx hb dX12_tells_15 rfl (lv_at hl 0 rfl) ?_
    refine lv_iload_n hx hb dX12_tells_16 rfl (lv_at hl 1 rfl) ?_
    obtain ⟨q7, σ6, hq, hf⟩ := k_bdE hf
    refine k_callVi C hw (c_X12_wasOf l G Y w ad LM p1 σ4 q7 σ6 hq) (cwV 1 hts gX12_tells_X12_wasOf rfl rfl rfl (by decide +kernel) ⟨Nat.le_of_ble_eq_true rfl, Nat.le_of_ble_eq_true rfl⟩) (k_recv C hw (LM_0 LM) rfl) rfl hl.1 rfl (Nat.le_of_ble_eq_true rfl) dX12_tells_17 (fun H locs hw => ?_)
    refine lv_istore_n (lv' := [(2, .int q7), (0, .ref (ad 0)), (1, .int p1)]) hx hb dX12_tells_20 rfl hl (by decide) rfl (fun ls hl => ?_)
    refine lv_iload_n hx hb dX12_tells_21 rfl (lv_at hl 0 rfl) ?_
    refine lv_if_ne (tgt := 28) hx hb dX12_tells_22 (by decide) (fun h => ?_) (fun h => ?_)
    · have hf := k_ifF h hf
      refine lv_aload_n hx hb dX12_tells_28 rfl (lv_at hl 1 rfl) ?_
      refine k_get C hw (LM_0 LM) (ci := 12) rfl k_in12 9 (by decide) lk12_31 (v := .ref (ad 8)) rfl dX12_tells_29 ?_
      refine lv_iload_n hx hb dX12_tells_32 rfl (lv_at hl 2 rfl) ?_
      obtain ⟨hi, hf⟩ := k_ckE hf
      refine k_iald C hw (LM_8 LM) hi dX12_tells_33 ?_
      refine lv_topi (fun u8 ex => ?_)
      have hf := k_nmE ex hf
      refine lv_istore_n (lv' := [(3, .int u8), (2, .int q7), (0, .ref (ad 0)), (1, .int p1)]) hx hb dX12_tells_34 rfl hl (by decide) rfl (fun ls hl => ?_)
      refine lv_aload_n hx hb dX12_tells_35 rfl (lv_at hl 2 rfl) ?_
      refine lv_iload_n hx hb dX12_tells_36 rfl (lv_at hl 3 rfl) ?_
      refine lv_iload_n hx hb dX12_tells_37 rfl (lv_at hl 1 rfl) ?_
      refine lv_iload_n hx hb dX12_tells_38 rfl (lv_at hl 0 rfl) ?_
      obtain ⟨q10, σ9, hq, hf⟩ := k_bdE hf
      refine k_callVi C hw (c_X12_unlikeOn l G Y w ad LM p1 q7 u8 σ6 q10 σ9 hq) (cwV 3 hts gX12_tells_X12_unlikeOn rfl rfl rfl (by decide +kernel) ⟨Nat.le_of_ble_eq_true rfl, Nat.le_of_ble_eq_true rfl⟩) (k_recv C hw (LM_0 LM) rfl) rfl hl.1 rfl (Nat.le_of_ble_eq_true rfl) dX12_tells_39 (fun H locs hw => ?_)
      refine lv_istore (lv' := [(4, .int q10), (3, .int u8), (2, .int q7), (0, .ref (ad 0)), (1, .int p1)]) hx hb dX12_tells_42 hl (by decide) rfl (fun ls hl => ?_)
      refine lv_iload_n hx hb dX12_tells_44 rfl (lv_at hl 1 rfl) ?_
      refine lv_iconst (v := (1 : Int32)) hx hb dX12_tells_45 (by decide) ?_
      refine lv_iadd hx hb dX12_tells_46 ?_
      refine lv_topi (fun u11 ex => ?_)
      have hf := k_nmE ex hf
      refine lv_istore (lv' := [(5, .int u11), (4, .int q10), (3, .int u8), (2, .int q7), (0, .ref (ad 0)), (1, .int p1)]) hx hb dX12_tells_47 hl (by decide) rfl (fun ls hl => ?_)
      exact b49 FU p1 q7 u8 q10 u11 σ9 _ _ _ (lv_sub hl [4, 5, 3, 2, 1, 0] rfl) hw hf
    · have hf := k_ifT h hf
      refine lv_bipush (v := (-2 : Int32)) hx hb dX12_tells_25 (by decide) ?_
      exact k_iret C hw hf dX12_tells_27
  · have hf := k_ifT h hf
    refine lv_iconst (v := (-1 : Int32)) hx hb dX12_tells_13 (by decide) ?_
    exact k_iret C hw hf dX12_tells_14
def f_X12_chance_b131  (r41 : Int32 → Int32 → Int32 → Int32 → Int32 → MSt → Option (Int32 × MSt)) (x2 : Int32) (x3 : Int32) (x4 : Int32) (x6 : Int32) (y0 : Int32) (y1 : Int32) (σ : MSt) : Option (Int32 × MSt) :=
  k_nm (y0 + y1) fun u1 =>
  k_nm (x6 + (1 : Int32)) fun u2 =>
  r41 x2 x3 x4 u1 u2 σ
def f_X12_chance_b65_s  (r41 : Int32 → Int32 → Int32 → Int32 → Int32 → MSt → Option (Int32 × MSt)) (r65 : Int32 → Int32 → Int32 → Int32 → Int32 → MSt → Option (Int32 × MSt)) (x2 : Int32) (x3 : Int32) (x5 : Int32) (x6 : Int32) (x7 : Int32) (σ : MSt) : Option (Int32 × MSt) :=
  if x2 ≤ x7 then
  (k_nm (mI σ 0 50 (-1 : Int32)) fun σ1 =>
  k_ck (k_inb (1 : Int32) 24) <|
  k_nm (σ1.1 25 ((1 : Int32)).toNatClampNeg) fun u2 =>
  k_ck (k_inb (1 : Int32) 24) <|
  k_ck (k_inb (0 : Int32) 24) <|
  if x3 < ((σ1.1 23 ((1 : Int32)).toNatClampNeg) - (σ1.1 23 ((0 : Int32)).toNatClampNeg)) then
  (f_X12_chance_b131 r41 x2 x3 u2 x6 x5 (0 : Int32) σ1)
  else
  (f_X12_chance_b131 r41 x2 x3 u2 x6 x5 (1 : Int32) σ1))
  else
  (k_bd (f_X12_draw (1 : Int32) (10 : Int32) σ) fun q4 σ3 =>
  k_nm (mI σ3 0 50 q4) fun σ5 =>
  k_bv (f_X12_passes (1 : Int32) (1 : Int32) σ5) fun σ6 =>
  k_nm (x7 + (1 : Int32)) fun u7 =>
  r65 x2 x3 x5 x6 u7 σ6)
def f_X12_chance_b65  (r41 : Int32 → Int32 → Int32 → Int32 → Int32 → MSt → Option (Int32 × MSt)) : Nat → Int32 → Int32 → Int32 → Int32 → Int32 → MSt → Option (Int32 × MSt)
  | 0 => fun _ _ _ _ _ _ => none
  | n + 1 => f_X12_chance_b65_s r41 (f_X12_chance_b65 r41 n)
def f_X12_chance_b41_s  (r41 : Int32 → Int32 → Int32 → Int32 → Int32 → MSt → Option (Int32 × MSt)) (x2 : Int32) (x3 : Int32) (x4 : Int32) (x5 : Int32) (x6 : Int32) (σ : MSt) : Option (Int32 × MSt) :=
  if (10 : Int32) ≤ x6 then
  (some (x5, σ))
  else
  (k_bv (f_X12_takes (1 : Int32) (0 : Int32) σ) fun σ1 =>
  k_ck (k_inb (1 : Int32) 24) <|
  k_nm (mI σ1 25 ((1 : Int32)).toNatClampNeg x4) fun σ2 =>
  f_X12_chance_b65 r41 FU x2 x3 x5 x6 (0 : Int32) σ2)
def f_X12_chance_b41  : Nat → Int32 → Int32 → Int32 → Int32 → Int32 → MSt → Option (Int32 × MSt)
  | 0 => fun _ _ _ _ _ _ => none
  | n + 1 => f_X12_chance_b41_s (f_X12_chance_b41 n)
def f_X12_chance_b30   (σ : MSt) : Option (Int32 × MSt) :=
  some ((-1 : Int32), σ)
def f_X12_chance  (p1 : Int32) (p2 : Int32) (p3 : Int32) (σ : MSt) : Option (Int32 × MSt) :=
  k_nm (mI σ 0 0 (0 : Int32)) fun σ1 =>
  if p1 < 0 then
  (f_X12_chance_b30 σ1)
  else
  (if p2 < (1 : Int32) then
  (f_X12_chance_b30 σ1)
  else
  (if (60 : Int32) < p2 then
  (f_X12_chance_b30 σ1)
  else
  (if p3 < 0 then
  (f_X12_chance_b30 σ1)
  else
  (if p3 ≤ (60 : Int32) then
  (f_X12_chance_b41 FU p2 p3 p1 (0 : Int32) (0 : Int32) σ1)
  else
  (f_X12_chance_b30 σ1)))))
def rmX12_chance : Room := { frames := 7, cells := 0, slots := 0, locals := 172 }
set_option maxHeartbeats 4000000 in
set_option maxRecDepth 100000 in
theorem c_X12_chance (l : Launch) (G : va_G) (Y : CY) (w : MSt → va_W) (ad : Nat → Nat)  (LM : LayM ad w Y) (p1 : Int32) (p2 : Int32) (p3 : Int32) (σ : MSt) (r : Int32) (σ' : MSt) (hf : f_X12_chance p1 p2 p3 σ = some (r, σ')) : k_Mi l yX12_chance wsX12_chance rmX12_chance G Y w [.ref (ad 0), .int p1, .int p2, .int p3] σ r σ' := by
  refine k_ofi (own := RX12) (cc := cX12_chance) (maxL := 8) (some .int) (by decide) rfl rfl (Nat.le_of_ble_eq_true rfl) ?_
  intro p e s m below meth c A C ls hl hw
  have hx := C.1
  have hb := C.2.1
  have hown := C.2.2.2.2.1
  have hts := C.2.2.2.2.2.1
  have hks := C.2.2.2.2.2.2.1
  have hl : lv_has ls 8 [(0, .ref (ad 0)), (1, .int p1), (2, .int p2), (3, .int p3)] := hl
  have b41 : ∀ (n41 : Nat) (x2 : Int32) (x3 : Int32) (x4 : Int32) (x5 : Int32) (x6 : Int32) (σ : MSt) (H : Heap) (locs : List Loc) (ls : Array Slot), lv_has ls 8 [(0, .ref (ad 0)), (2, .int x2), (3, .int x3), (4, .int x4), (5, .int x5), (6, .int x6)] → k_W G w A s.heap σ H locs → f_X12_chance_b41 n41 x2 x3 x4 x5 x6 σ = some (r, σ') → W p l e rmX12_chance s m [.ref (ad 0), .int p1, .int p2, .int p3].toArray below meth c H locs 0 0 (MQ below (k_Qi G w A r σ') [.ref (ad 0), .int p1, .int p2, .int p3].toArray s 0 0 A) (F0 m 41 ls []) := by
    intro n41
    induction n41 with
    | zero =>
      intro x2 x3 x4 x5 x6 σ H locs ls hl hw hf
      have hf : (none : Option (Int32 × MSt)) = some (r, σ') := hf
      cases hf
    | succ n41 ih41 =>
      have b131 : ∀ (x2 : Int32) (x3 : Int32) (x4 : Int32) (x6 : Int32) (y0 : Int32) (y1 : Int32) (σ : MSt) (H : Heap) (locs : List Loc) (ls : Array Slot), lv_has ls 8 [(0, .ref (ad 0)), (2, .int x2), (3, .int x3), (4, .int x4), (6, .int x6)] → k_W G w A s.heap σ H locs → f_X12_chance_b131 (f_X12_chance_b41 n41) x2 x3 x4 x6 y0 y1 σ = some (r, σ') → W p l e rmX12_chance s m [.ref (ad 0), .int p1, .int p2, .int p3].toArray below meth c H locs 0 0 (MQ below (k_Qi G w A r σ') [.ref (ad 0), .int p1, .int p2, .int p3].toArray s 0 0 A) (F0 m 131 ls [.int y1, .int y0]) := by
        intro x2 x3 x4 x6 y0 y1 σ H locs ls hl hw hf
        unfold f_X12_chance_b131 at hf
        refine lv_iadd hx hb dX12_chance_131 ?_
        refine lv_topi (fun u1 ex => ?_)
        have hf := k_nmE ex hf
        refine lv_istore (lv' := [(5, .int u1), (0, .ref (ad 0)), (2, .int x2), (3, .int x3), (4, .int x4), (6, .int x6)]) hx hb dX12_chance_132 hl (by decide) rfl (fun ls hl => ?_)
        obtain ⟨u2, ex⟩ : ∃ y : Int32, y = (x6 + (1 : Int32)) := ⟨_, rfl⟩
        have hf := k_nmE ex hf
        refine lv_iinc (v := u2) (lv' := [(6, .int u2), (5, .int u1), (0, .ref (ad 0)), (2, .int x2), (3, .int x3), (4, .int x4)]) hx hb dX12_chance_134 hl (k := 5) rfl (by rw [ex]; rfl) (by decide) rfl (fun ls hl => ?_)
        refine lv_goto (tgt := 41) hx hb dX12_chance_137 (by decide) ?_
        exact ih41 x2 x3 x4 u1 u2 σ _ _ _ (lv_sub hl [2, 3, 4, 5, 1, 0] rfl) hw hf
      have b65 : ∀ (n65 : Nat) (x2 : Int32) (x3 : Int32) (x5 : Int32) (x6 : Int32) (x7 : Int32) (σ : MSt) (H : Heap) (locs : List Loc) (ls : Array Slot), lv_has ls 8 [(0, .ref (ad 0)), (2, .int x2), (3, .int x3), (5, .int x5), (6, .int x6), (7, .int x7)] → k_W G w A s.heap σ H locs → f_X12_chance_b65 (f_X12_chance_b41 n41) n65 x2 x3 x5 x6 x7 σ = some (r, σ') → W p l e rmX12_chance s m [.ref (ad 0), .int p1, .int p2, .int p3].toArray below meth c H locs 0 0 (MQ below (k_Qi G w A r σ') [.ref (ad 0), .int p1, .int p2, .int p3].toArray s 0 0 A) (F0 m 65 ls []) := by
        intro n65
        induction n65 with
        | zero =>
          intro x2 x3 x5 x6 x7 σ H locs ls hl hw hf
          have hf : (none : Option (Int32 × MSt)) = some (r, σ') := hf
          cases hf
        | succ n65 ih65 =>
          intro x2 x3 x5 x6 x7 σ H locs ls hl hw hf
          have hf : f_X12_chance_b65_s (f_X12_chance_b41 n41) (f_X12_chance_b65 (f_X12_chance_b41 n41) n65) x2 x3 x5 x6 x7 σ = some (r, σ') := hf
          unfold f_X12_chance_b65_s at hf
          refine lv_iload hx hb dX12_chance_65 (lv_at hl 5 rfl) ?_
          refine lv_iload_n hx hb dX12_chance_67 rfl (lv_at hl 1 rfl) ?_
          refine lv_icmp_ge (tgt := 94) hx hb dX12_chance_68 (by decide) (fun h => ?_) (fun h => ?_)
          · have hf := k_ifT h hf
            refine lv_aload_n hx hb dX12_chance_94 rfl (lv_at hl 0 rfl) ?_
            refine lv_iconst (v := (-1 : Int32)) hx hb dX12_chance_95 (by decide) ?_
            refine k_put C hw (LM_0 LM) (ci := 12) rfl k_in12 tyX12 tyX12_ok nmX12 50 (by decide) lk12_105 rfl ⟨rfl, rfl⟩ rfl dX12_chance_96 (fun σ1 eq H locs hw => ?_)
            have hf := k_nmE eq hf
            refine lv_aload_n hx hb dX12_chance_99 rfl (lv_at hl 0 rfl) ?_
            refine k_get C hw (LM_0 LM) (ci := 12) rfl k_in12 40 (by decide) lk12_87 (v := .ref (ad 25)) rfl dX12_chance_100 ?_
            refine lv_iconst (v := (1 : Int32)) hx hb dX12_chance_103 (by decide) ?_
            obtain ⟨hi, hf⟩ := k_ckE hf
            refine k_iald C hw (LM_25 LM) hi dX12_chance_104 ?_
            refine lv_topi (fun u2 ex => ?_)
            have hf := k_nmE ex hf
            refine lv_istore (lv' := [(4, .int u2), (0, .ref (ad 0)), (2, .int x2), (3, .int x3), (5, .int x5), (6, .int x6), (7, .int x7)]) hx hb dX12_chance_105 hl (by decide) rfl (fun ls hl => ?_)
            refine lv_iload hx hb dX12_chance_107 (lv_at hl 4 rfl) ?_
            refine lv_aload_n hx hb dX12_chance_109 rfl (lv_at hl 1 rfl) ?_
            refine k_get C hw (LM_0 LM) (ci := 12) rfl k_in12 38 (by decide) lk12_81 (v := .ref (ad 23)) rfl dX12_chance_110 ?_
            refine lv_iconst (v := (1 : Int32)) hx hb dX12_chance_113 (by decide) ?_
            obtain ⟨hi, hf⟩ := k_ckE hf
            refine k_iald C hw (LM_23 LM) hi dX12_chance_114 ?_
            refine lv_aload_n hx hb dX12_chance_115 rfl (lv_at hl 1 rfl) ?_
            refine k_get C hw (LM_0 LM) (ci := 12) rfl k_in12 38 (by decide) lk12_81 (v := .ref (ad 23)) rfl dX12_chance_116 ?_
            refine lv_iconst (v := (0 : Int32)) hx hb dX12_chance_119 (by decide) ?_
            obtain ⟨hi, hf⟩ := k_ckE hf
            refine k_iald C hw (LM_23 LM) hi dX12_chance_120 ?_
            refine lv_isub hx hb dX12_chance_121 ?_
            refine lv_iload_n hx hb dX12_chance_122 rfl (lv_at hl 3 rfl) ?_
            refine lv_icmp_gt (tgt := 130) hx hb dX12_chance_123 (by decide) (fun h => ?_) (fun h => ?_)
            · have hf := k_ifT h hf
              refine lv_iconst (v := (0 : Int32)) hx hb dX12_chance_130 (by decide) ?_
              exact b131 x2 x3 u2 x6 x5 (0 : Int32) σ1 _ _ _ (lv_sub hl [1, 2, 3, 0, 5] rfl) hw hf
            · have hf := k_ifF h hf
              refine lv_iconst (v := (1 : Int32)) hx hb dX12_chance_126 (by decide) ?_
              refine lv_goto (tgt := 131) hx hb dX12_chance_127 (by decide) ?_
              exact b131 x2 x3 u2 x6 x5 (1 : Int32) σ1 _ _ _ (lv_sub hl [1, 2, 3, 0, 5] rfl) hw hf
          · have hf := k_ifF h hf
            refine lv_aload_n hx hb dX12_chance_71 rfl (lv_at hl 0 rfl) ?_
            refine lv_aload_n hx hb dX12_chance_72 rfl (lv_at hl 0 rfl) ?_
            refine lv_iconst (v := (1 : Int32)) hx hb dX12_chance_73 (by decide) ?_
            refine lv_bipush (v := (10 : Int32)) hx hb dX12_chance_74 (by decide) ?_
            obtain ⟨q4, σ3, hq, hf⟩ := k_bdE hf
            refine k_callVi C hw (c_X12_draw l G Y w ad LM (1 : Int32) (10 : Int32) σ q4 σ3 hq) (cwV 2 hts gX12_chance_X12_draw rfl rfl rfl (by decide +kernel) ⟨Nat.le_of_ble_eq_true rfl, Nat.le_of_ble_eq_true rfl⟩) (k_recv C hw (LM_0 LM) rfl) rfl hl.1 rfl (Nat.le_of_ble_eq_true rfl) dX12_chance_76 (fun H locs hw => ?_)
            refine k_put C hw (LM_0 LM) (ci := 12) rfl k_in12 tyX12 tyX12_ok nmX12 50 (by decide) lk12_105 rfl ⟨rfl, rfl⟩ rfl dX12_chance_79 (fun σ5 eq H locs hw => ?_)
            have hf := k_nmE eq hf
            refine lv_aload_n hx hb dX12_chance_82 rfl (lv_at hl 0 rfl) ?_
            refine lv_iconst (v := (1 : Int32)) hx hb dX12_chance_83 (by decide) ?_
            refine lv_iconst (v := (1 : Int32)) hx hb dX12_chance_84 (by decide) ?_
            obtain ⟨σ6, hq, hf⟩ := k_bvE hf
            refine k_callVv C hw (c_X12_passes l G Y w ad LM (1 : Int32) (1 : Int32) σ5 σ6 hq) (cwV 2 hts gX12_chance_X12_passes rfl rfl rfl (by decide +kernel) ⟨Nat.le_of_ble_eq_true rfl, Nat.le_of_ble_eq_true rfl⟩) (k_recv C hw (LM_0 LM) rfl) rfl hl.1 rfl (Nat.le_of_ble_eq_true rfl) dX12_chance_85 (fun H locs hw => ?_)
            obtain ⟨u7, ex⟩ : ∃ y : Int32, y = (x7 + (1 : Int32)) := ⟨_, rfl⟩
            have hf := k_nmE ex hf
            refine lv_iinc (v := u7) (lv' := [(7, .int u7), (0, .ref (ad 0)), (2, .int x2), (3, .int x3), (5, .int x5), (6, .int x6)]) hx hb dX12_chance_88 hl (k := 5) rfl (by rw [ex]; rfl) (by decide) rfl (fun ls hl => ?_)
            refine lv_goto (tgt := 65) hx hb dX12_chance_91 (by decide) ?_
            exact ih65 x2 x3 x5 x6 u7 σ6 _ _ _ (lv_sub hl [1, 2, 3, 4, 5, 0] rfl) hw hf
      intro x2 x3 x4 x5 x6 σ H locs ls hl hw hf
      have hf : f_X12_chance_b41_s (f_X12_chance_b41 n41) x2 x3 x4 x5 x6 σ = some (r, σ') := hf
      unfold f_X12_chance_b41_s at hf
      refine lv_iload hx hb dX12_chance_41 (lv_at hl 5 rfl) ?_
      refine lv_bipush (v := (10 : Int32)) hx hb dX12_chance_43 (by decide) ?_
      refine lv_icmp_ge (tgt := 140) hx hb dX12_chance_45 (by decide) (fun h => ?_) (fun h => ?_)
      · have hf := k_ifT h hf
        refine lv_iload hx hb dX12_chance_140 (lv_at hl 4 rfl) ?_
        exact k_iret C hw hf dX12_chance_142
      · have hf := k_ifF h hf
        refine lv_aload_n hx hb dX12_chance_48 rfl (lv_at hl 0 rfl) ?_
        refine lv_iconst (v := (1 : Int32)) hx hb dX12_chance_49 (by decide) ?_
        refine lv_iconst (v := (0 : Int32)) hx hb dX12_chance_50 (by decide) ?_
        obtain ⟨σ1, hq, hf⟩ := k_bvE hf
        refine k_callVv C hw (c_X12_takes l G Y w ad LM (1 : Int32) (0 : Int32) σ σ1 hq) (cwV 2 hts gX12_chance_X12_takes rfl rfl rfl (by decide +kernel) ⟨Nat.le_of_ble_eq_true rfl, Nat.le_of_ble_eq_true rfl⟩) (k_recv C hw (LM_0 LM) rfl) rfl hl.1 rfl (Nat.le_of_ble_eq_true rfl) dX12_chance_51 (fun H locs hw => ?_)
        refine lv_aload_n hx hb dX12_chance_54 rfl (lv_at hl 0 rfl) ?_
        refine k_get C hw (LM_0 LM) (ci := 12) rfl k_in12 40 (by decide) lk12_87 (v := .ref (ad 25)) rfl dX12_chance_55 ?_
        refine lv_iconst (v := (1 : Int32)) hx hb dX12_chance_58 (by decide) ?_
        refine lv_iload hx hb dX12_chance_59 (lv_at hl 3 rfl) ?_
        obtain ⟨hi, hf⟩ := k_ckE hf
        refine k_iast C hw (LM_25 LM) hi dX12_chance_61 (fun σ2 eq H locs hw => ?_)
        have hf := k_nmE eq hf
        refine lv_iconst (v := (0 : Int32)) hx hb dX12_chance_62 (by decide) ?_
        refine lv_istore (lv' := [(7, .int (0 : Int32)), (0, .ref (ad 0)), (2, .int x2), (3, .int x3), (4, .int x4), (5, .int x5), (6, .int x6)]) hx hb dX12_chance_63 hl (by decide) rfl (fun ls hl => ?_)
        exact b65 FU x2 x3 x5 x6 (0 : Int32) σ2 _ _ _ (lv_sub hl [1, 2, 3, 5, 6, 0] rfl) hw hf
  have b30 : ∀ (σ : MSt) (H : Heap) (locs : List Loc) (ls : Array Slot), lv_has ls 8 [] → k_W G w A s.heap σ H locs → f_X12_chance_b30 σ = some (r, σ') → W p l e rmX12_chance s m [.ref (ad 0), .int p1, .int p2, .int p3].toArray below meth c H locs 0 0 (MQ below (k_Qi G w A r σ') [.ref (ad 0), .int p1, .int p2, .int p3].toArray s 0 0 A) (F0 m 30 ls []) := by
    intro σ H locs ls hl hw hf
    unfold f_X12_chance_b30 at hf
    refine lv_iconst (v := (-1 : Int32)) hx hb dX12_chance_30 (by decide) ?_
    exact k_iret C hw hf dX12_chance_31
  unfold f_X12_chance at hf
  refine lv_aload_n hx hb dX12_chance_0 rfl (lv_at hl 0 rfl) ?_
  refine lv_iconst (v := (0 : Int32)) hx hb dX12_chance_1 (by decide) ?_
  refine k_put C hw (LM_0 LM) (ci := 12) rfl k_in12 tyX12 tyX12_ok nmX12 0 (by decide) lk12_145 rfl ⟨rfl, rfl⟩ rfl dX12_chance_2 (fun σ1 eq H locs hw => ?_)
  have hf := k_nmE eq hf
  refine lv_iload_n hx hb dX12_chance_5 rfl (lv_at hl 1 rfl) ?_
  refine lv_if_lt (tgt := 30) hx hb dX12_chance_6 (by decide) (fun h => ?_) (fun h => ?_)
  · have hf := k_ifT h hf
    exact b30 σ1 _ _ _ (lv_sub hl [] rfl) hw hf
  · have hf := k_ifF h hf
    refine lv_iload_n hx hb dX12_chance_9 rfl (lv_at hl 2 rfl) ?_
    refine lv_iconst (v := (1 : Int32)) hx hb dX12_chance_10 (by decide) ?_
    refine lv_icmp_lt (tgt := 30) hx hb dX12_chance_11 (by decide) (fun h => ?_) (fun h => ?_)
    · have hf := k_ifT h hf
      exact b30 σ1 _ _ _ (lv_sub hl [] rfl) hw hf
    · have hf := k_ifF h hf
      refine lv_iload_n hx hb dX12_chance_14 rfl (lv_at hl 2 rfl) ?_
      refine lv_bipush (v := (60 : Int32)) hx hb dX12_chance_15 (by decide) ?_
      refine lv_icmp_gt (tgt := 30) hx hb dX12_chance_17 (by decide) (fun h => ?_) (fun h => ?_)
      · have hf := k_ifT h hf
        exact b30 σ1 _ _ _ (lv_sub hl [] rfl) hw hf
      · have hf := k_ifF h hf
        refine lv_iload_n hx hb dX12_chance_20 rfl (lv_at hl 3 rfl) ?_
        refine lv_if_lt (tgt := 30) hx hb dX12_chance_21 (by decide) (fun h => ?_) (fun h => ?_)
        · have hf := k_ifT h hf
          exact b30 σ1 _ _ _ (lv_sub hl [] rfl) hw hf
        · have hf := k_ifF h hf
          refine lv_iload_n hx hb dX12_chance_24 rfl (lv_at hl 3 rfl) ?_
          refine lv_bipush (v := (60 : Int32)) hx hb dX12_chance_25 (by decide) ?_
          refine lv_icmp_le (tgt := 32) hx hb dX12_chance_27 (by decide) (fun h => ?_) (fun h => ?_)
          · have hf := k_ifT h hf
            refine lv_iload_n hx hb dX12_chance_32 rfl (lv_at hl 1 rfl) ?_
            refine lv_istore (lv' := [(4, .int p1), (0, .ref (ad 0)), (1, .int p1), (2, .int p2), (3, .int p3)]) hx hb dX12_chance_33 hl (by decide) rfl (fun ls hl => ?_)
            refine lv_iconst (v := (0 : Int32)) hx hb dX12_chance_35 (by decide) ?_
            refine lv_istore (lv' := [(5, .int (0 : Int32)), (4, .int p1), (0, .ref (ad 0)), (1, .int p1), (2, .int p2), (3, .int p3)]) hx hb dX12_chance_36 hl (by decide) rfl (fun ls hl => ?_)
            refine lv_iconst (v := (0 : Int32)) hx hb dX12_chance_38 (by decide) ?_
            refine lv_istore (lv' := [(6, .int (0 : Int32)), (5, .int (0 : Int32)), (4, .int p1), (0, .ref (ad 0)), (1, .int p1), (2, .int p2), (3, .int p3)]) hx hb dX12_chance_39 hl (by decide) rfl (fun ls hl => ?_)
            exact b41 FU p2 p3 p1 (0 : Int32) (0 : Int32) σ1 _ _ _ (lv_sub hl [3, 5, 6, 2, 1, 0] rfl) hw hf
          · have hf := k_ifF h hf
            exact b30 σ1 _ _ _ (lv_sub hl [] rfl) hw hf
def f_X12_tried_b95_s  (r95 : Int32 → Int32 → MSt → Option (Int32 × MSt)) (x3 : Int32) (x5 : Int32) (σ : MSt) : Option (Int32 × MSt) :=
  if x3 ≤ x5 then
  (k_nm (mI σ 0 46 (0 : Int32)) fun σ1 =>
  k_nm (mI σ1 0 47 (-1 : Int32)) fun σ2 =>
  k_ck (k_inb (1 : Int32) 24) <|
  k_ck (k_inb (0 : Int32) 24) <|
  some (((σ2.1 23 ((1 : Int32)).toNatClampNeg) - (σ2.1 23 ((0 : Int32)).toNatClampNeg)), σ2))
  else
  (k_bv (f_X12_passes (1 : Int32) (0 : Int32) σ) fun σ3 =>
  k_nm (x5 + (1 : Int32)) fun u4 =>
  r95 x3 u4 σ3)
def f_X12_tried_b95  : Nat → Int32 → Int32 → MSt → Option (Int32 × MSt)
  | 0 => fun _ _ _ => none
  | n + 1 => f_X12_tried_b95_s (f_X12_tried_b95 n)
def f_X12_tried_b92  (x3 : Int32) (σ : MSt) : Option (Int32 × MSt) :=
  f_X12_tried_b95 FU x3 (0 : Int32) σ
def f_X12_tried_b91  (x3 : Int32) (y1 : Int32) (y2 : Int32) (σ : MSt) : Option (Int32 × MSt) :=
  k_ck (k_inb y1 24) <|
  k_nm (mI σ 21 (y1).toNatClampNeg y2) fun σ1 =>
  f_X12_tried_b92 x3 σ1
def f_X12_tried_b53   (σ : MSt) : Option (Int32 × MSt) :=
  some ((-1 : Int32), σ)
def f_X12_tried_b36  (x1 : Int32) (x2 : Int32) (x3 : Int32) (y0 : Int32) (σ : MSt) : Option (Int32 × MSt) :=
  if y0 = 0 then
  (f_X12_tried_b53 σ)
  else
  (if x3 < 0 then
  (f_X12_tried_b53 σ)
  else
  (if x3 ≤ (60 : Int32) then
  (k_nm (mI σ 0 46 x1) fun σ1 =>
  k_nm (mI σ1 0 47 x2) fun σ2 =>
  k_bv (f_X12_takes (1 : Int32) (0 : Int32) σ2) fun σ3 =>
  if x1 < (4 : Int32) then
  (f_X12_tried_b92 x3 σ3)
  else
  (if x1 = (4 : Int32) then
  (f_X12_tried_b91 x3 (1 : Int32) (1 : Int32) σ3)
  else
  (f_X12_tried_b91 x3 (1 : Int32) (0 : Int32) σ3)))
  else
  (f_X12_tried_b53 σ)))
def f_X12_tried_b35  (x1 : Int32) (x2 : Int32) (x3 : Int32) (σ : MSt) : Option (Int32 × MSt) :=
  f_X12_tried_b36 x1 x2 x3 (0 : Int32) σ
def f_X12_tried  (p1 : Int32) (p2 : Int32) (p3 : Int32) (σ : MSt) : Option (Int32 × MSt) :=
  k_nm (mI σ 0 0 (0 : Int32)) fun σ1 =>
  if p1 = (2 : Int32) then
  (k_bd (f_X12_isDeed p2 σ1) fun q3 σ2 =>
  f_X12_tried_b36 p1 p2 p3 q3 σ2)
  else
  (if p1 < 0 then
  (f_X12_tried_b35 p1 p2 p3 σ1)
  else
  (if (5 : Int32) < p1 then
  (f_X12_tried_b35 p1 p2 p3 σ1)
  else
  (if p2 = 0 then
  (f_X12_tried_b36 p1 p2 p3 (1 : Int32) σ1)
  else
  (f_X12_tried_b35 p1 p2 p3 σ1))))
def rmX12_tried : Room := { frames := 7, cells := 0, slots := 0, locals := 172 }
set_option maxHeartbeats 4000000 in
set_option maxRecDepth 100000 in
theorem c_X12_tried (l : Launch) (G : va_G) (Y : CY) (w : MSt → va_W) (ad : Nat → Nat)  (LM : LayM ad w Y) (p1 : Int32) (p2 : Int32) (p3 : Int32) (σ : MSt) (r : Int32) (σ' : MSt) (hf : f_X12_tried p1 p2 p3 σ = some (r, σ')) : k_Mi l yX12_tried wsX12_tried rmX12_tried G Y w [.ref (ad 0), .int p1, .int p2, .int p3] σ r σ' := by
  refine k_ofi (own := RX12) (cc := cX12_tried) (maxL := 6) (some .int) (by decide) rfl rfl (Nat.le_of_ble_eq_true rfl) ?_
  intro p e s m below meth c A C ls hl hw
  have hx := C.1
  have hb := C.2.1
  have hown := C.2.2.2.2.1
  have hts := C.2.2.2.2.2.1
  have hks := C.2.2.2.2.2.2.1
  have hl : lv_has ls 6 [(0, .ref (ad 0)), (1, .int p1), (2, .int p2), (3, .int p3)] := hl
  have b95 : ∀ (n95 : Nat) (x3 : Int32) (x5 : Int32) (σ : MSt) (H : Heap) (locs : List Loc) (ls : Array Slot), lv_has ls 6 [(0, .ref (ad 0)), (3, .int x3), (5, .int x5)] → k_W G w A s.heap σ H locs → f_X12_tried_b95 n95 x3 x5 σ = some (r, σ') → W p l e rmX12_tried s m [.ref (ad 0), .int p1, .int p2, .int p3].toArray below meth c H locs 0 0 (MQ below (k_Qi G w A r σ') [.ref (ad 0), .int p1, .int p2, .int p3].toArray s 0 0 A) (F0 m 95 ls []) := by
    intro n95
    induction n95 with
    | zero =>
      intro x3 x5 σ H locs ls hl hw hf
      have hf : (none : Option (Int32 × MSt)) = some (r, σ') := hf
      cases hf
    | succ n95 ih95 =>
      intro x3 x5 σ H locs ls hl hw hf
      have hf : f_X12_tried_b95_s (f_X12_tried_b95 n95) x3 x5 σ = some (r, σ') := hf
      unfold f_X12_tried_b95_s at hf
      refine lv_iload hx hb dX12_tried_95 (lv_at hl 2 rfl) ?_
      refine lv_iload_n hx hb dX12_tried_97 rfl (lv_at hl 1 rfl) ?_
      refine lv_icmp_ge (tgt := 113) hx hb dX12_tried_98 (by decide) (fun h => ?_) (fun h => ?_)
      · have hf := k_ifT h hf
        refine lv_aload_n hx hb dX12_tried_113 rfl (lv_at hl 0 rfl) ?_
        refine lv_iconst (v := (0 : Int32)) hx hb dX12_tried_114 (by decide) ?_
        refine k_put C hw (LM_0 LM) (ci := 12) rfl k_in12 tyX12 tyX12_ok nmX12 46 (by decide) lk12_334 rfl ⟨rfl, rfl⟩ rfl dX12_tried_115 (fun σ1 eq H locs hw => ?_)
        have hf := k_nmE eq hf
        refine lv_aload_n hx hb dX12_tried_118 rfl (lv_at hl 0 rfl) ?_
        refine lv_iconst (v := (-1 : Int32)) hx hb dX12_tried_119 (by decide) ?_
        refine k_put C hw (LM_0 LM) (ci := 12) rfl k_in12 tyX12 tyX12_ok nmX12 47 (by decide) lk12_99 rfl ⟨rfl, rfl⟩ rfl dX12_tried_120 (fun σ2 eq H locs hw => ?_)
        have hf := k_nmE eq hf
        refine lv_aload_n hx hb dX12_tried_123 rfl (lv_at hl 0 rfl) ?_
        refine k_get C hw (LM_0 LM) (ci := 12) rfl k_in12 38 (by decide) lk12_81 (v := .ref (ad 23)) rfl dX12_tried_124 ?_
        refine lv_iconst (v := (1 : Int32)) hx hb dX12_tried_127 (by decide) ?_
        obtain ⟨hi, hf⟩ := k_ckE hf
        refine k_iald C hw (LM_23 LM) hi dX12_tried_128 ?_
        refine lv_aload_n hx hb dX12_tried_129 rfl (lv_at hl 0 rfl) ?_
        refine k_get C hw (LM_0 LM) (ci := 12) rfl k_in12 38 (by decide) lk12_81 (v := .ref (ad 23)) rfl dX12_tried_130 ?_
        refine lv_iconst (v := (0 : Int32)) hx hb dX12_tried_133 (by decide) ?_
        obtain ⟨hi, hf⟩ := k_ckE hf
        refine k_iald C hw (LM_23 LM) hi dX12_tried_134 ?_
        refine lv_isub hx hb dX12_tried_135 ?_
        exact k_iret C hw hf dX12_tried_136
      · have hf := k_ifF h hf
        refine lv_aload_n hx hb dX12_tried_101 rfl (lv_at hl 0 rfl) ?_
        refine lv_iconst (v := (1 : Int32)) hx hb dX12_tried_102 (by decide) ?_
        refine lv_iconst (v := (0 : Int32)) hx hb dX12_tried_103 (by decide) ?_
        obtain ⟨σ3, hq, hf⟩ := k_bvE hf
        refine k_callVv C hw (c_X12_passes l G Y w ad LM (1 : Int32) (0 : Int32) σ σ3 hq) (cwV 2 hts gX12_tried_X12_passes rfl rfl rfl (by decide +kernel) ⟨Nat.le_of_ble_eq_true rfl, Nat.le_of_ble_eq_true rfl⟩) (k_recv C hw (LM_0 LM) rfl) rfl hl.1 rfl (Nat.le_of_ble_eq_true rfl) dX12_tried_104 (fun H locs hw => ?_)
        obtain ⟨u4, ex⟩ : ∃ y : Int32, y = (x5 + (1 : Int32)) := ⟨_, rfl⟩
        have hf := k_nmE ex hf
        refine lv_iinc (v := u4) (lv' := [(5, .int u4), (0, .ref (ad 0)), (3, .int x3)]) hx hb dX12_tried_107 hl (k := 2) rfl (by rw [ex]; rfl) (by decide) rfl (fun ls hl => ?_)
        refine lv_goto (tgt := 95) hx hb dX12_tried_110 (by decide) ?_
        exact ih95 x3 u4 σ3 _ _ _ (lv_sub hl [1, 2, 0] rfl) hw hf
  have b92 : ∀ (x3 : Int32) (σ : MSt) (H : Heap) (locs : List Loc) (ls : Array Slot), lv_has ls 6 [(0, .ref (ad 0)), (3, .int x3)] → k_W G w A s.heap σ H locs → f_X12_tried_b92 x3 σ = some (r, σ') → W p l e rmX12_tried s m [.ref (ad 0), .int p1, .int p2, .int p3].toArray below meth c H locs 0 0 (MQ below (k_Qi G w A r σ') [.ref (ad 0), .int p1, .int p2, .int p3].toArray s 0 0 A) (F0 m 92 ls []) := by
    intro x3 σ H locs ls hl hw hf
    unfold f_X12_tried_b92 at hf
    refine lv_iconst (v := (0 : Int32)) hx hb dX12_tried_92 (by decide) ?_
    refine lv_istore (lv' := [(5, .int (0 : Int32)), (0, .ref (ad 0)), (3, .int x3)]) hx hb dX12_tried_93 hl (by decide) rfl (fun ls hl => ?_)
    exact b95 FU x3 (0 : Int32) σ _ _ _ (lv_sub hl [1, 2, 0] rfl) hw hf
  have b91 : ∀ (x3 : Int32) (y1 : Int32) (y2 : Int32) (σ : MSt) (H : Heap) (locs : List Loc) (ls : Array Slot), lv_has ls 6 [(0, .ref (ad 0)), (3, .int x3)] → k_W G w A s.heap σ H locs → f_X12_tried_b91 x3 y1 y2 σ = some (r, σ') → W p l e rmX12_tried s m [.ref (ad 0), .int p1, .int p2, .int p3].toArray below meth c H locs 0 0 (MQ below (k_Qi G w A r σ') [.ref (ad 0), .int p1, .int p2, .int p3].toArray s 0 0 A) (F0 m 91 ls [.int y2, .int y1, .ref (ad 21)]) := by
    intro x3 y1 y2 σ H locs ls hl hw hf
    unfold f_X12_tried_b91 at hf
    obtain ⟨hi, hf⟩ := k_ckE hf
    refine k_iast C hw (LM_21 LM) hi dX12_tried_91 (fun σ1 eq H locs hw => ?_)
    have hf := k_nmE eq hf
    exact b92 x3 σ1 _ _ _ (lv_sub hl [0, 1] rfl) hw hf
  have b53 : ∀ (σ : MSt) (H : Heap) (locs : List Loc) (ls : Array Slot), lv_has ls 6 [] → k_W G w A s.heap σ H locs → f_X12_tried_b53 σ = some (r, σ') → W p l e rmX12_tried s m [.ref (ad 0), .int p1, .int p2, .int p3].toArray below meth c H locs 0 0 (MQ below (k_Qi G w A r σ') [.ref (ad 0), .int p1, .int p2, .int p3].toArray s 0 0 A) (F0 m 53 ls []) := by
    intro σ H locs ls hl hw hf
    unfold f_X12_tried_b53 at hf
    refine lv_iconst (v := (-1 : Int32)) hx hb dX12_tried_53 (by decide) ?_
    exact k_iret C hw hf dX12_tried_54
  have b36 : ∀ (x1 : Int32) (x2 : Int32) (x3 : Int32) (y0 : Int32) (σ : MSt) (H : Heap) (locs : List Loc) (ls : Array Slot), lv_has ls 6 [(0, .ref (ad 0)), (1, .int x1), (2, .int x2), (3, .int x3)] → k_W G w A s.heap σ H locs → f_X12_tried_b36 x1 x2 x3 y0 σ = some (r, σ') → W p l e rmX12_tried s m [.ref (ad 0), .int p1, .int p2, .int p3].toArray below meth c H locs 0 0 (MQ below (k_Qi G w A r σ') [.ref (ad 0), .int p1, .int p2, .int p3].toArray s 0 0 A) (F0 m 36 ls [.int y0]) := by
    intro x1 x2 x3 y0 σ H locs ls hl hw hf
    unfold f_X12_tried_b36 at hf
    refine lv_istore (lv' := [(4, .int y0), (0, .ref (ad 0)), (1, .int x1), (2, .int x2), (3, .int x3)]) hx hb dX12_tried_36 hl (by decide) rfl (fun ls hl => ?_)
    refine lv_iload hx hb dX12_tried_38 (lv_at hl 0 rfl) ?_
    refine lv_if_eq (tgt := 53) hx hb dX12_tried_40 (by decide) (fun h => ?_) (fun h => ?_)
    · have hf := k_ifT h hf
      exact b53 σ _ _ _ (lv_sub hl [] rfl) hw hf
    · have hf := k_ifF h hf
      refine lv_iload_n hx hb dX12_tried_43 rfl (lv_at hl 4 rfl) ?_
      refine lv_if_lt (tgt := 53) hx hb dX12_tried_44 (by decide) (fun h => ?_) (fun h => ?_)
      · have hf := k_ifT h hf
        exact b53 σ _ _ _ (lv_sub hl [] rfl) hw hf
      · have hf := k_ifF h hf
        refine lv_iload_n hx hb dX12_tried_47 rfl (lv_at hl 4 rfl) ?_
        refine lv_bipush (v := (60 : Int32)) hx hb dX12_tried_48 (by decide) ?_
        refine lv_icmp_le (tgt := 55) hx hb dX12_tried_50 (by decide) (fun h => ?_) (fun h => ?_)
        · have hf := k_ifT h hf
          refine lv_aload_n hx hb dX12_tried_55 rfl (lv_at hl 1 rfl) ?_
          refine lv_iload_n hx hb dX12_tried_56 rfl (lv_at hl 2 rfl) ?_
          refine k_put C hw (LM_0 LM) (ci := 12) rfl k_in12 tyX12 tyX12_ok nmX12 46 (by decide) lk12_334 rfl ⟨rfl, rfl⟩ rfl dX12_tried_57 (fun σ1 eq H locs hw => ?_)
          have hf := k_nmE eq hf
          refine lv_aload_n hx hb dX12_tried_60 rfl (lv_at hl 1 rfl) ?_
          refine lv_iload_n hx hb dX12_tried_61 rfl (lv_at hl 3 rfl) ?_
          refine k_put C hw (LM_0 LM) (ci := 12) rfl k_in12 tyX12 tyX12_ok nmX12 47 (by decide) lk12_99 rfl ⟨rfl, rfl⟩ rfl dX12_tried_62 (fun σ2 eq H locs hw => ?_)
          have hf := k_nmE eq hf
          refine lv_aload_n hx hb dX12_tried_65 rfl (lv_at hl 1 rfl) ?_
          refine lv_iconst (v := (1 : Int32)) hx hb dX12_tried_66 (by decide) ?_
          refine lv_iconst (v := (0 : Int32)) hx hb dX12_tried_67 (by decide) ?_
          obtain ⟨σ3, hq, hf⟩ := k_bvE hf
          refine k_callVv C hw (c_X12_takes l G Y w ad LM (1 : Int32) (0 : Int32) σ2 σ3 hq) (cwV 2 hts gX12_tried_X12_takes rfl rfl rfl (by decide +kernel) ⟨Nat.le_of_ble_eq_true rfl, Nat.le_of_ble_eq_true rfl⟩) (k_recv C hw (LM_0 LM) rfl) rfl hl.1 rfl (Nat.le_of_ble_eq_true rfl) dX12_tried_68 (fun H locs hw => ?_)
          refine lv_iload_n hx hb dX12_tried_71 rfl (lv_at hl 2 rfl) ?_
          refine lv_iconst (v := (4 : Int32)) hx hb dX12_tried_72 (by decide) ?_
          refine lv_icmp_lt (tgt := 92) hx hb dX12_tried_73 (by decide) (fun h => ?_) (fun h => ?_)
          · have hf := k_ifT h hf
            exact b92 x3 σ3 _ _ _ (lv_sub hl [1, 4] rfl) hw hf
          · have hf := k_ifF h hf
            refine lv_aload_n hx hb dX12_tried_76 rfl (lv_at hl 1 rfl) ?_
            refine k_get C hw (LM_0 LM) (ci := 12) rfl k_in12 36 (by decide) lk12_75 (v := .ref (ad 21)) rfl dX12_tried_77 ?_
            refine lv_iconst (v := (1 : Int32)) hx hb dX12_tried_80 (by decide) ?_
            refine lv_iload_n hx hb dX12_tried_81 rfl (lv_at hl 2 rfl) ?_
            refine lv_iconst (v := (4 : Int32)) hx hb dX12_tried_82 (by decide) ?_
            refine lv_icmp_ne (tgt := 90) hx hb dX12_tried_83 (by decide) (fun h => ?_) (fun h => ?_)
            · have hf := k_ifF h hf
              refine lv_iconst (v := (0 : Int32)) hx hb dX12_tried_90 (by decide) ?_
              exact b91 x3 (1 : Int32) (0 : Int32) σ3 _ _ _ (lv_sub hl [1, 4] rfl) hw hf
            · have hf := k_ifT h hf
              refine lv_iconst (v := (1 : Int32)) hx hb dX12_tried_86 (by decide) ?_
              refine lv_goto (tgt := 91) hx hb dX12_tried_87 (by decide) ?_
              exact b91 x3 (1 : Int32) (1 : Int32) σ3 _ _ _ (lv_sub hl [1, 4] rfl) hw hf
        · have hf := k_ifF h hf
          exact b53 σ _ _ _ (lv_sub hl [] rfl) hw hf
  have b35 : ∀ (x1 : Int32) (x2 : Int32) (x3 : Int32) (σ : MSt) (H : Heap) (locs : List Loc) (ls : Array Slot), lv_has ls 6 [(0, .ref (ad 0)), (1, .int x1), (2, .int x2), (3, .int x3)] → k_W G w A s.heap σ H locs → f_X12_tried_b35 x1 x2 x3 σ = some (r, σ') → W p l e rmX12_tried s m [.ref (ad 0), .int p1, .int p2, .int p3].toArray below meth c H locs 0 0 (MQ below (k_Qi G w A r σ') [.ref (ad 0), .int p1, .int p2, .int p3].toArray s 0 0 A) (F0 m 35 ls []) := by
    intro x1 x2 x3 σ H locs ls hl hw hf
    unfold f_X12_tried_b35 at hf
    refine lv_iconst (v := (0 : Int32)) hx hb dX12_tried_35 (by decide) ?_
    exact b36 x1 x2 x3 (0 : Int32) σ _ _ _ (lv_sub hl [0, 1, 2, 3] rfl) hw hf
  unfold f_X12_tried at hf
  refine lv_aload_n hx hb dX12_tried_0 rfl (lv_at hl 0 rfl) ?_
  refine lv_iconst (v := (0 : Int32)) hx hb dX12_tried_1 (by decide) ?_
  refine k_put C hw (LM_0 LM) (ci := 12) rfl k_in12 tyX12 tyX12_ok nmX12 0 (by decide) lk12_145 rfl ⟨rfl, rfl⟩ rfl dX12_tried_2 (fun σ1 eq H locs hw => ?_)
  have hf := k_nmE eq hf
  refine lv_iload_n hx hb dX12_tried_5 rfl (lv_at hl 1 rfl) ?_
  refine lv_iconst (v := (2 : Int32)) hx hb dX12_tried_6 (by decide) ?_
  refine lv_icmp_ne (tgt := 18) hx hb dX12_tried_7 (by decide) (fun h => ?_) (fun h => ?_)
  · have hf := k_ifF h hf
    refine lv_iload_n hx hb dX12_tried_18 rfl (lv_at hl 1 rfl) ?_
    refine lv_if_lt (tgt := 35) hx hb dX12_tried_19 (by decide) (fun h => ?_) (fun h => ?_)
    · have hf := k_ifT h hf
      exact b35 p1 p2 p3 σ1 _ _ _ (lv_sub hl [0, 1, 2, 3] rfl) hw hf
    · have hf := k_ifF h hf
      refine lv_iload_n hx hb dX12_tried_22 rfl (lv_at hl 1 rfl) ?_
      refine lv_iconst (v := (5 : Int32)) hx hb dX12_tried_23 (by decide) ?_
      refine lv_icmp_gt (tgt := 35) hx hb dX12_tried_24 (by decide) (fun h => ?_) (fun h => ?_)
      · have hf := k_ifT h hf
        exact b35 p1 p2 p3 σ1 _ _ _ (lv_sub hl [0, 1, 2, 3] rfl) hw hf
      · have hf := k_ifF h hf
        refine lv_iload_n hx hb dX12_tried_27 rfl (lv_at hl 2 rfl) ?_
        refine lv_if_ne (tgt := 35) hx hb dX12_tried_28 (by decide) (fun h => ?_) (fun h => ?_)
        · have hf := k_ifF h hf
          exact b35 p1 p2 p3 σ1 _ _ _ (lv_sub hl [0, 1, 2, 3] rfl) hw hf
        · have hf := k_ifT h hf
          refine lv_iconst (v := (1 : Int32)) hx hb dX12_tried_31 (by decide) ?_
          refine lv_goto (tgt := 36) hx hb dX12_tried_32 (by decide) ?_
          exact b36 p1 p2 p3 (1 : Int32) σ1 _ _ _ (lv_sub hl [0, 1, 2, 3] rfl) hw hf
  · have hf := k_ifT h hf
    refine lv_aload_n hx hb dX12_tried_10 rfl (lv_at hl 0 rfl) ?_
    refine lv_iload_n hx hb dX12_tried_11 rfl (lv_at hl 2 rfl) ?_
    obtain ⟨q3, σ2, hq, hf⟩ := k_bdE hf
    refine k_callVi C hw (c_X12_isDeed l G Y w ad LM p2 σ1 q3 σ2 hq) (cwV 1 hts gX12_tried_X12_isDeed rfl rfl rfl (by decide +kernel) ⟨Nat.le_of_ble_eq_true rfl, Nat.le_of_ble_eq_true rfl⟩) (k_recv C hw (LM_0 LM) rfl) rfl hl.1 rfl (Nat.le_of_ble_eq_true rfl) dX12_tried_12 (fun H locs hw => ?_)
    refine lv_goto (tgt := 36) hx hb dX12_tried_15 (by decide) ?_
    exact b36 p1 p2 p3 q3 σ2 _ _ _ (lv_sub hl [0, 1, 2, 3] rfl) hw hf
def f_X12_undo   (σ : MSt) : Option (Int32 × MSt) :=
  k_nm (mI σ 0 0 (0 : Int32)) fun σ1 =>
  if (σ1.1 0 45) = 0 then
  (some ((-1 : Int32), σ1))
  else
  (k_nm (mI σ1 0 45 ((σ1.1 0 45) - (1 : Int32))) fun σ2 =>
  k_bv (f_X12_takes (0 : Int32) ((4 : Int32) + (σ2.1 0 45)) σ2) fun σ3 =>
  some ((σ3.1 0 45), σ3))
def rmX12_undo : Room := { frames := 1, cells := 0, slots := 0, locals := 23 }
set_option maxHeartbeats 4000000 in
set_option maxRecDepth 100000 in
theorem c_X12_undo (l : Launch) (G : va_G) (Y : CY) (w : MSt → va_W) (ad : Nat → Nat)  (LM : LayM ad w Y)  (σ : MSt) (r : Int32) (σ' : MSt) (hf : f_X12_undo σ = some (r, σ')) : k_Mi l yX12_undo wsX12_undo rmX12_undo G Y w [.ref (ad 0)] σ r σ' := by
  refine k_ofi (own := RX12) (cc := cX12_undo) (maxL := 1) (some .int) (by decide) rfl rfl (Nat.le_of_ble_eq_true rfl) ?_
  intro p e s m below meth c A C ls hl hw
  have hx := C.1
  have hb := C.2.1
  have hown := C.2.2.2.2.1
  have hts := C.2.2.2.2.2.1
  have hks := C.2.2.2.2.2.2.1
  have hl : lv_has ls 1 [(0, .ref (ad 0))] := hl
  unfold f_X12_undo at hf
  refine lv_aload_n hx hb dX12_undo_0 rfl (lv_at hl 0 rfl) ?_
  refine lv_iconst (v := (0 : Int32)) hx hb dX12_undo_1 (by decide) ?_
  refine k_put C hw (LM_0 LM) (ci := 12) rfl k_in12 tyX12 tyX12_ok nmX12 0 (by decide) lk12_145 rfl ⟨rfl, rfl⟩ rfl dX12_undo_2 (fun σ1 eq H locs hw => ?_)
  have hf := k_nmE eq hf
  refine lv_aload_n hx hb dX12_undo_5 rfl (lv_at hl 0 rfl) ?_
  refine k_get C hw (LM_0 LM) (ci := 12) rfl k_in12 45 (by decide) lk12_308 (v := .int (σ1.1 0 45)) rfl dX12_undo_6 ?_
  refine lv_if_ne (tgt := 14) hx hb dX12_undo_9 (by decide) (fun h => ?_) (fun h => ?_)
  · have hf := k_ifF h hf
    refine lv_aload_n hx hb dX12_undo_14 rfl (lv_at hl 0 rfl) ?_
    refine lv_dup hx hb dX12_undo_15 rfl ?_
    refine k_get C hw (LM_0 LM) (ci := 12) rfl k_in12 45 (by decide) lk12_308 (v := .int (σ1.1 0 45)) rfl dX12_undo_16 ?_
    refine lv_iconst (v := (1 : Int32)) hx hb dX12_undo_19 (by decide) ?_
    refine lv_isub hx hb dX12_undo_20 ?_
    refine k_put C hw (LM_0 LM) (ci := 12) rfl k_in12 tyX12 tyX12_ok nmX12 45 (by decide) lk12_308 rfl ⟨rfl, rfl⟩ rfl dX12_undo_21 (fun σ2 eq H locs hw => ?_)
    have hf := k_nmE eq hf
    refine lv_aload_n hx hb dX12_undo_24 rfl (lv_at hl 0 rfl) ?_
    refine lv_iconst (v := (0 : Int32)) hx hb dX12_undo_25 (by decide) ?_
    refine lv_iconst (v := (4 : Int32)) hx hb dX12_undo_26 (by decide) ?_
    refine lv_aload_n hx hb dX12_undo_27 rfl (lv_at hl 0 rfl) ?_
    refine k_get C hw (LM_0 LM) (ci := 12) rfl k_in12 45 (by decide) lk12_308 (v := .int (σ2.1 0 45)) rfl dX12_undo_28 ?_
    refine lv_iadd hx hb dX12_undo_31 ?_
    obtain ⟨σ3, hq, hf⟩ := k_bvE hf
    refine k_callVv C hw (c_X12_takes l G Y w ad LM (0 : Int32) ((4 : Int32) + (σ2.1 0 45)) σ2 σ3 hq) (cwV 2 hts gX12_undo_X12_takes rfl rfl rfl (by decide +kernel) ⟨Nat.le_of_ble_eq_true rfl, Nat.le_of_ble_eq_true rfl⟩) (k_recv C hw (LM_0 LM) rfl) rfl hl.1 rfl (Nat.le_of_ble_eq_true rfl) dX12_undo_32 (fun H locs hw => ?_)
    refine lv_aload_n hx hb dX12_undo_35 rfl (lv_at hl 0 rfl) ?_
    refine k_get C hw (LM_0 LM) (ci := 12) rfl k_in12 45 (by decide) lk12_308 (v := .int (σ3.1 0 45)) rfl dX12_undo_36 ?_
    exact k_iret C hw hf dX12_undo_39
  · have hf := k_ifT h hf
    refine lv_iconst (v := (-1 : Int32)) hx hb dX12_undo_12 (by decide) ?_
    exact k_iret C hw hf dX12_undo_13
def f_X12_keep   (σ : MSt) : Option (Int32 × MSt) :=
  k_nm (mI σ 0 0 (0 : Int32)) fun σ1 =>
  k_bv (f_X12_takes (3 : Int32) (0 : Int32) σ1) fun σ2 =>
  k_nm (mI σ2 0 44 (1 : Int32)) fun σ3 =>
  k_ck (k_inb (0 : Int32) 24) <|
  some ((σ3.1 17 ((0 : Int32)).toNatClampNeg), σ3)
def rmX12_keep : Room := { frames := 1, cells := 0, slots := 0, locals := 23 }
set_option maxHeartbeats 4000000 in
set_option maxRecDepth 100000 in
theorem c_X12_keep (l : Launch) (G : va_G) (Y : CY) (w : MSt → va_W) (ad : Nat → Nat)  (LM : LayM ad w Y)  (σ : MSt) (r : Int32) (σ' : MSt) (hf : f_X12_keep σ = some (r, σ')) : k_Mi l yX12_keep wsX12_keep rmX12_keep G Y w [.ref (ad 0)] σ r σ' := by
  refine k_ofi (own := RX12) (cc := cX12_keep) (maxL := 1) (some .int) (by decide) rfl rfl (Nat.le_of_ble_eq_true rfl) ?_
  intro p e s m below meth c A C ls hl hw
  have hx := C.1
  have hb := C.2.1
  have hown := C.2.2.2.2.1
  have hts := C.2.2.2.2.2.1
  have hks := C.2.2.2.2.2.2.1
  have hl : lv_has ls 1 [(0, .ref (ad 0))] := hl
  unfold f_X12_keep at hf
  refine lv_aload_n hx hb dX12_keep_0 rfl (lv_at hl 0 rfl) ?_
  refine lv_iconst (v := (0 : Int32)) hx hb dX12_keep_1 (by decide) ?_
  refine k_put C hw (LM_0 LM) (ci := 12) rfl k_in12 tyX12 tyX12_ok nmX12 0 (by decide) lk12_145 rfl ⟨rfl, rfl⟩ rfl dX12_keep_2 (fun σ1 eq H locs hw => ?_)
  have hf := k_nmE eq hf
  refine lv_aload_n hx hb dX12_keep_5 rfl (lv_at hl 0 rfl) ?_
  refine lv_iconst (v := (3 : Int32)) hx hb dX12_keep_6 (by decide) ?_
  refine lv_iconst (v := (0 : Int32)) hx hb dX12_keep_7 (by decide) ?_
  obtain ⟨σ2, hq, hf⟩ := k_bvE hf
  refine k_callVv C hw (c_X12_takes l G Y w ad LM (3 : Int32) (0 : Int32) σ1 σ2 hq) (cwV 2 hts gX12_keep_X12_takes rfl rfl rfl (by decide +kernel) ⟨Nat.le_of_ble_eq_true rfl, Nat.le_of_ble_eq_true rfl⟩) (k_recv C hw (LM_0 LM) rfl) rfl hl.1 rfl (Nat.le_of_ble_eq_true rfl) dX12_keep_8 (fun H locs hw => ?_)
  refine lv_aload_n hx hb dX12_keep_11 rfl (lv_at hl 0 rfl) ?_
  refine lv_iconst (v := (1 : Int32)) hx hb dX12_keep_12 (by decide) ?_
  refine k_put C hw (LM_0 LM) (ci := 12) rfl k_in12 tyX12 tyX12_ok nmX12 44 (by decide) lk12_304 rfl ⟨rfl, rfl⟩ rfl dX12_keep_13 (fun σ3 eq H locs hw => ?_)
  have hf := k_nmE eq hf
  refine lv_aload_n hx hb dX12_keep_16 rfl (lv_at hl 0 rfl) ?_
  refine k_get C hw (LM_0 LM) (ci := 12) rfl k_in12 32 (by decide) lk12_63 (v := .ref (ad 17)) rfl dX12_keep_17 ?_
  refine lv_iconst (v := (0 : Int32)) hx hb dX12_keep_20 (by decide) ?_
  obtain ⟨hi, hf⟩ := k_ckE hf
  refine k_iald C hw (LM_17 LM) hi dX12_keep_21 ?_
  exact k_iret C hw hf dX12_keep_22
def f_X12_back   (σ : MSt) : Option (Int32 × MSt) :=
  k_nm (mI σ 0 0 (0 : Int32)) fun σ1 =>
  if (σ1.1 0 44) = 0 then
  (some ((-1 : Int32), σ1))
  else
  (k_bv (f_X12_takes (0 : Int32) (3 : Int32) σ1) fun σ2 =>
  k_nm (mI σ2 0 45 (0 : Int32)) fun σ3 =>
  k_ck (k_inb (0 : Int32) 24) <|
  some ((σ3.1 17 ((0 : Int32)).toNatClampNeg), σ3))
def rmX12_back : Room := { frames := 1, cells := 0, slots := 0, locals := 23 }
set_option maxHeartbeats 4000000 in
set_option maxRecDepth 100000 in
theorem c_X12_back (l : Launch) (G : va_G) (Y : CY) (w : MSt → va_W) (ad : Nat → Nat)  (LM : LayM ad w Y)  (σ : MSt) (r : Int32) (σ' : MSt) (hf : f_X12_back σ = some (r, σ')) : k_Mi l yX12_back wsX12_back rmX12_back G Y w [.ref (ad 0)] σ r σ' := by
  refine k_ofi (own := RX12) (cc := cX12_back) (maxL := 1) (some .int) (by decide) rfl rfl (Nat.le_of_ble_eq_true rfl) ?_
  intro p e s m below meth c A C ls hl hw
  have hx := C.1
  have hb := C.2.1
  have hown := C.2.2.2.2.1
  have hts := C.2.2.2.2.2.1
  have hks := C.2.2.2.2.2.2.1
  have hl : lv_has ls 1 [(0, .ref (ad 0))] := hl
  unfold f_X12_back at hf
  refine lv_aload_n hx hb dX12_back_0 rfl (lv_at hl 0 rfl) ?_
  refine lv_iconst (v := (0 : Int32)) hx hb dX12_back_1 (by decide) ?_
  refine k_put C hw (LM_0 LM) (ci := 12) rfl k_in12 tyX12 tyX12_ok nmX12 0 (by decide) lk12_145 rfl ⟨rfl, rfl⟩ rfl dX12_back_2 (fun σ1 eq H locs hw => ?_)
  have hf := k_nmE eq hf
  refine lv_aload_n hx hb dX12_back_5 rfl (lv_at hl 0 rfl) ?_
  refine k_get C hw (LM_0 LM) (ci := 12) rfl k_in12 44 (by decide) lk12_304 (v := .int (σ1.1 0 44)) rfl dX12_back_6 ?_
  refine lv_if_ne (tgt := 14) hx hb dX12_back_9 (by decide) (fun h => ?_) (fun h => ?_)
  · have hf := k_ifF h hf
    refine lv_aload_n hx hb dX12_back_14 rfl (lv_at hl 0 rfl) ?_
    refine lv_iconst (v := (0 : Int32)) hx hb dX12_back_15 (by decide) ?_
    refine lv_iconst (v := (3 : Int32)) hx hb dX12_back_16 (by decide) ?_
    obtain ⟨σ2, hq, hf⟩ := k_bvE hf
    refine k_callVv C hw (c_X12_takes l G Y w ad LM (0 : Int32) (3 : Int32) σ1 σ2 hq) (cwV 2 hts gX12_back_X12_takes rfl rfl rfl (by decide +kernel) ⟨Nat.le_of_ble_eq_true rfl, Nat.le_of_ble_eq_true rfl⟩) (k_recv C hw (LM_0 LM) rfl) rfl hl.1 rfl (Nat.le_of_ble_eq_true rfl) dX12_back_17 (fun H locs hw => ?_)
    refine lv_aload_n hx hb dX12_back_20 rfl (lv_at hl 0 rfl) ?_
    refine lv_iconst (v := (0 : Int32)) hx hb dX12_back_21 (by decide) ?_
    refine k_put C hw (LM_0 LM) (ci := 12) rfl k_in12 tyX12 tyX12_ok nmX12 45 (by decide) lk12_308 rfl ⟨rfl, rfl⟩ rfl dX12_back_22 (fun σ3 eq H locs hw => ?_)
    have hf := k_nmE eq hf
    refine lv_aload_n hx hb dX12_back_25 rfl (lv_at hl 0 rfl) ?_
    refine k_get C hw (LM_0 LM) (ci := 12) rfl k_in12 32 (by decide) lk12_63 (v := .ref (ad 17)) rfl dX12_back_26 ?_
    refine lv_iconst (v := (0 : Int32)) hx hb dX12_back_29 (by decide) ?_
    obtain ⟨hi, hf⟩ := k_ckE hf
    refine k_iald C hw (LM_17 LM) hi dX12_back_30 ?_
    exact k_iret C hw hf dX12_back_31
  · have hf := k_ifT h hf
    refine lv_iconst (v := (-1 : Int32)) hx hb dX12_back_12 (by decide) ?_
    exact k_iret C hw hf dX12_back_13
def f_X12_count_b148  (y0 : Int32) (σ : MSt) : Option (Int32 × MSt) :=
  some (y0, σ)
def f_X12_count  (p1 : Int32) (σ : MSt) : Option (Int32 × MSt) :=
  k_nm (mI σ 0 0 (0 : Int32)) fun σ1 =>
  if p1 = (0 : Int32) then
  (k_ck (k_inb (0 : Int32) 18) <|
  some ((σ1.1 2 ((0 : Int32)).toNatClampNeg), σ1))
  else if p1 = (1 : Int32) then
  (k_ck (k_inb (1 : Int32) 18) <|
  some ((σ1.1 2 ((1 : Int32)).toNatClampNeg), σ1))
  else if p1 = (2 : Int32) then
  (k_ck (k_inb (2 : Int32) 18) <|
  some ((σ1.1 2 ((2 : Int32)).toNatClampNeg), σ1))
  else if p1 = (3 : Int32) then
  (k_ck (k_inb (3 : Int32) 18) <|
  some ((σ1.1 2 ((3 : Int32)).toNatClampNeg), σ1))
  else if p1 = (4 : Int32) then
  (k_ck (k_inb (8 : Int32) 18) <|
  some ((σ1.1 2 ((8 : Int32)).toNatClampNeg), σ1))
  else if p1 = (5 : Int32) then
  (k_ck (k_inb (0 : Int32) 24) <|
  some ((σ1.1 17 ((0 : Int32)).toNatClampNeg), σ1))
  else if p1 = (6 : Int32) then
  (k_ck (k_inb (0 : Int32) 24) <|
  if (σ1.1 19 ((0 : Int32)).toNatClampNeg) = (-1 : Int32) then
  (k_ck (k_inb (0 : Int32) 24) <|
  f_X12_count_b148 (σ1.1 18 ((0 : Int32)).toNatClampNeg) σ1)
  else
  (f_X12_count_b148 (-2 : Int32) σ1))
  else if p1 = (7 : Int32) then
  (k_ck (k_inb (0 : Int32) 24) <|
  some ((σ1.1 19 ((0 : Int32)).toNatClampNeg), σ1))
  else if p1 = (8 : Int32) then
  (k_ck (k_inb (0 : Int32) 24) <|
  some ((σ1.1 20 ((0 : Int32)).toNatClampNeg), σ1))
  else if p1 = (9 : Int32) then
  (k_ck (k_inb (0 : Int32) 24) <|
  some ((σ1.1 22 ((0 : Int32)).toNatClampNeg), σ1))
  else if p1 = (10 : Int32) then
  (k_ck (k_inb (0 : Int32) 24) <|
  some ((σ1.1 23 ((0 : Int32)).toNatClampNeg), σ1))
  else if p1 = (11 : Int32) then
  (k_ck (k_inb (0 : Int32) 24) <|
  some ((σ1.1 24 ((0 : Int32)).toNatClampNeg), σ1))
  else if p1 = (12 : Int32) then
  (k_ck (k_inb (0 : Int32) 24) <|
  some ((σ1.1 21 ((0 : Int32)).toNatClampNeg), σ1))
  else if p1 = (13 : Int32) then
  (some ((σ1.1 0 59), σ1))
  else if p1 = (14 : Int32) then
  (k_bd (f_X12_knownMany σ1) fun q3 σ2 =>
  some (q3, σ2))
  else if p1 = (15 : Int32) then
  (some ((σ1.1 0 45), σ1))
  else 
  (some ((-1 : Int32), σ1))
def rmX12_count : Room := { frames := 1, cells := 0, slots := 0, locals := 20 }
set_option maxHeartbeats 4000000 in
set_option maxRecDepth 100000 in
theorem c_X12_count (l : Launch) (G : va_G) (Y : CY) (w : MSt → va_W) (ad : Nat → Nat)  (LM : LayM ad w Y) (p1 : Int32) (σ : MSt) (r : Int32) (σ' : MSt) (hf : f_X12_count p1 σ = some (r, σ')) : k_Mi l yX12_count wsX12_count rmX12_count G Y w [.ref (ad 0), .int p1] σ r σ' := by
  refine k_ofi (own := RX12) (cc := cX12_count) (maxL := 2) (some .int) (by decide) rfl rfl (Nat.le_of_ble_eq_true rfl) ?_
  intro p e s m below meth c A C ls hl hw
  have hx := C.1
  have hb := C.2.1
  have hown := C.2.2.2.2.1
  have hts := C.2.2.2.2.2.1
  have hks := C.2.2.2.2.2.2.1
  have hl : lv_has ls 2 [(0, .ref (ad 0)), (1, .int p1)] := hl
  have b148 : ∀ (y0 : Int32) (σ : MSt) (H : Heap) (locs : List Loc) (ls : Array Slot), lv_has ls 2 [] → k_W G w A s.heap σ H locs → f_X12_count_b148 y0 σ = some (r, σ') → W p l e rmX12_count s m [.ref (ad 0), .int p1].toArray below meth c H locs 0 0 (MQ below (k_Qi G w A r σ') [.ref (ad 0), .int p1].toArray s 0 0 A) (F0 m 148 ls [.int y0]) := by
    intro y0 σ H locs ls hl hw hf
    unfold f_X12_count_b148 at hf
    exact k_iret C hw hf dX12_count_148
  unfold f_X12_count at hf
  refine lv_aload_n hx hb dX12_count_0 rfl (lv_at hl 0 rfl) ?_
  refine lv_iconst (v := (0 : Int32)) hx hb dX12_count_1 (by decide) ?_
  refine k_put C hw (LM_0 LM) (ci := 12) rfl k_in12 tyX12 tyX12_ok nmX12 0 (by decide) lk12_145 rfl ⟨rfl, rfl⟩ rfl dX12_count_2 (fun σ1 eq H locs hw => ?_)
  have hf := k_nmE eq hf
  refine lv_iload_n hx hb dX12_count_5 rfl (lv_at hl 1 rfl) ?_
  by_cases h0 : p1 = (0 : Int32)
  · have hf := k_ifT h0 hf
    refine lv_tableIn (tgt := 84) hx hb dX12_count_6 (by rw [h0]; decide) (by rw [h0]; decide) (by rw [h0]; rfl) (by decide) ?_
    refine lv_aload_n hx hb dX12_count_84 rfl (lv_at hl 0 rfl) ?_
    refine k_get C hw (LM_0 LM) (ci := 12) rfl k_in12 3 (by decide) lk12_13 (v := .ref (ad 2)) rfl dX12_count_85 ?_
    refine lv_iconst (v := (0 : Int32)) hx hb dX12_count_88 (by decide) ?_
    obtain ⟨hi, hf⟩ := k_ckE hf
    refine k_iald C hw (LM_2 LM) hi dX12_count_89 ?_
    exact k_iret C hw hf dX12_count_90
  have hf := k_ifF h0 hf
  by_cases h1 : p1 = (1 : Int32)
  · have hf := k_ifT h1 hf
    refine lv_tableIn (tgt := 91) hx hb dX12_count_6 (by rw [h1]; decide) (by rw [h1]; decide) (by rw [h1]; rfl) (by decide) ?_
    refine lv_aload_n hx hb dX12_count_91 rfl (lv_at hl 0 rfl) ?_
    refine k_get C hw (LM_0 LM) (ci := 12) rfl k_in12 3 (by decide) lk12_13 (v := .ref (ad 2)) rfl dX12_count_92 ?_
    refine lv_iconst (v := (1 : Int32)) hx hb dX12_count_95 (by decide) ?_
    obtain ⟨hi, hf⟩ := k_ckE hf
    refine k_iald C hw (LM_2 LM) hi dX12_count_96 ?_
    exact k_iret C hw hf dX12_count_97
  have hf := k_ifF h1 hf
  by_cases h2 : p1 = (2 : Int32)
  · have hf := k_ifT h2 hf
    refine lv_tableIn (tgt := 98) hx hb dX12_count_6 (by rw [h2]; decide) (by rw [h2]; decide) (by rw [h2]; rfl) (by decide) ?_
    refine lv_aload_n hx hb dX12_count_98 rfl (lv_at hl 0 rfl) ?_
    refine k_get C hw (LM_0 LM) (ci := 12) rfl k_in12 3 (by decide) lk12_13 (v := .ref (ad 2)) rfl dX12_count_99 ?_
    refine lv_iconst (v := (2 : Int32)) hx hb dX12_count_102 (by decide) ?_
    obtain ⟨hi, hf⟩ := k_ckE hf
    refine k_iald C hw (LM_2 LM) hi dX12_count_103 ?_
    exact k_iret C hw hf dX12_count_104
  have hf := k_ifF h2 hf
  by_cases h3 : p1 = (3 : Int32)
  · have hf := k_ifT h3 hf
    refine lv_tableIn (tgt := 105) hx hb dX12_count_6 (by rw [h3]; decide) (by rw [h3]; decide) (by rw [h3]; rfl) (by decide) ?_
    refine lv_aload_n hx hb dX12_count_105 rfl (lv_at hl 0 rfl) ?_
    refine k_get C hw (LM_0 LM) (ci := 12) rfl k_in12 3 (by decide) lk12_13 (v := .ref (ad 2)) rfl dX12_count_106 ?_
    refine lv_iconst (v := (3 : Int32)) hx hb dX12_count_109 (by decide) ?_
    obtain ⟨hi, hf⟩ := k_ckE hf
    refine k_iald C hw (LM_2 LM) hi dX12_count_110 ?_
    exact k_iret C hw hf dX12_count_111
  have hf := k_ifF h3 hf
  by_cases h4 : p1 = (4 : Int32)
  · have hf := k_ifT h4 hf
    refine lv_tableIn (tgt := 112) hx hb dX12_count_6 (by rw [h4]; decide) (by rw [h4]; decide) (by rw [h4]; rfl) (by decide) ?_
    refine lv_aload_n hx hb dX12_count_112 rfl (lv_at hl 0 rfl) ?_
    refine k_get C hw (LM_0 LM) (ci := 12) rfl k_in12 3 (by decide) lk12_13 (v := .ref (ad 2)) rfl dX12_count_113 ?_
    refine lv_bipush (v := (8 : Int32)) hx hb dX12_count_116 (by decide) ?_
    obtain ⟨hi, hf⟩ := k_ckE hf
    refine k_iald C hw (LM_2 LM) hi dX12_count_118 ?_
    exact k_iret C hw hf dX12_count_119
  have hf := k_ifF h4 hf
  by_cases h5 : p1 = (5 : Int32)
  · have hf := k_ifT h5 hf
    refine lv_tableIn (tgt := 120) hx hb dX12_count_6 (by rw [h5]; decide) (by rw [h5]; decide) (by rw [h5]; rfl) (by decide) ?_
    refine lv_aload_n hx hb dX12_count_120 rfl (lv_at hl 0 rfl) ?_
    refine k_get C hw (LM_0 LM) (ci := 12) rfl k_in12 32 (by decide) lk12_63 (v := .ref (ad 17)) rfl dX12_count_121 ?_
    refine lv_iconst (v := (0 : Int32)) hx hb dX12_count_124 (by decide) ?_
    obtain ⟨hi, hf⟩ := k_ckE hf
    refine k_iald C hw (LM_17 LM) hi dX12_count_125 ?_
    exact k_iret C hw hf dX12_count_126
  have hf := k_ifF h5 hf
  by_cases h6 : p1 = (6 : Int32)
  · have hf := k_ifT h6 hf
    refine lv_tableIn (tgt := 127) hx hb dX12_count_6 (by rw [h6]; decide) (by rw [h6]; decide) (by rw [h6]; rfl) (by decide) ?_
    refine lv_aload_n hx hb dX12_count_127 rfl (lv_at hl 0 rfl) ?_
    refine k_get C hw (LM_0 LM) (ci := 12) rfl k_in12 34 (by decide) lk12_69 (v := .ref (ad 19)) rfl dX12_count_128 ?_
    refine lv_iconst (v := (0 : Int32)) hx hb dX12_count_131 (by decide) ?_
    obtain ⟨hi, hf⟩ := k_ckE hf
    refine k_iald C hw (LM_19 LM) hi dX12_count_132 ?_
    refine lv_iconst (v := (-1 : Int32)) hx hb dX12_count_133 (by decide) ?_
    refine lv_icmp_eq (tgt := 142) hx hb dX12_count_134 (by decide) (fun h => ?_) (fun h => ?_)
    · have hf := k_ifT h hf
      refine lv_aload_n hx hb dX12_count_142 rfl (lv_at hl 0 rfl) ?_
      refine k_get C hw (LM_0 LM) (ci := 12) rfl k_in12 33 (by decide) lk12_66 (v := .ref (ad 18)) rfl dX12_count_143 ?_
      refine lv_iconst (v := (0 : Int32)) hx hb dX12_count_146 (by decide) ?_
      obtain ⟨hi, hf⟩ := k_ckE hf
      refine k_iald C hw (LM_18 LM) hi dX12_count_147 ?_
      exact b148 (σ1.1 18 ((0 : Int32)).toNatClampNeg) σ1 _ _ _ (lv_sub hl [] rfl) hw hf
    · have hf := k_ifF h hf
      refine lv_bipush (v := (-2 : Int32)) hx hb dX12_count_137 (by decide) ?_
      refine lv_goto (tgt := 148) hx hb dX12_count_139 (by decide) ?_
      exact b148 (-2 : Int32) σ1 _ _ _ (lv_sub hl [] rfl) hw hf
  have hf := k_ifF h6 hf
  by_cases h7 : p1 = (7 : Int32)
  · have hf := k_ifT h7 hf
    refine lv_tableIn (tgt := 149) hx hb dX12_count_6 (by rw [h7]; decide) (by rw [h7]; decide) (by rw [h7]; rfl) (by decide) ?_
    refine lv_aload_n hx hb dX12_count_149 rfl (lv_at hl 0 rfl) ?_
    refine k_get C hw (LM_0 LM) (ci := 12) rfl k_in12 34 (by decide) lk12_69 (v := .ref (ad 19)) rfl dX12_count_150 ?_
    refine lv_iconst (v := (0 : Int32)) hx hb dX12_count_153 (by decide) ?_
    obtain ⟨hi, hf⟩ := k_ckE hf
    refine k_iald C hw (LM_19 LM) hi dX12_count_154 ?_
    exact k_iret C hw hf dX12_count_155
  have hf := k_ifF h7 hf
  by_cases h8 : p1 = (8 : Int32)
  · have hf := k_ifT h8 hf
    refine lv_tableIn (tgt := 156) hx hb dX12_count_6 (by rw [h8]; decide) (by rw [h8]; decide) (by rw [h8]; rfl) (by decide) ?_
    refine lv_aload_n hx hb dX12_count_156 rfl (lv_at hl 0 rfl) ?_
    refine k_get C hw (LM_0 LM) (ci := 12) rfl k_in12 35 (by decide) lk12_72 (v := .ref (ad 20)) rfl dX12_count_157 ?_
    refine lv_iconst (v := (0 : Int32)) hx hb dX12_count_160 (by decide) ?_
    obtain ⟨hi, hf⟩ := k_ckE hf
    refine k_iald C hw (LM_20 LM) hi dX12_count_161 ?_
    exact k_iret C hw hf dX12_count_162
  have hf := k_ifF h8 hf
  by_cases h9 : p1 = (9 : Int32)
  · have hf := k_ifT h9 hf
    refine lv_tableIn (tgt := 163) hx hb dX12_count_6 (by rw [h9]; decide) (by rw [h9]; decide) (by rw [h9]; rfl) (by decide) ?_
    refine lv_aload_n hx hb dX12_count_163 rfl (lv_at hl 0 rfl) ?_
    refine k_get C hw (LM_0 LM) (ci := 12) rfl k_in12 37 (by decide) lk12_78 (v := .ref (ad 22)) rfl dX12_count_164 ?_
    refine lv_iconst (v := (0 : Int32)) hx hb dX12_count_167 (by decide) ?_
    obtain ⟨hi, hf⟩ := k_ckE hf
    refine k_iald C hw (LM_22 LM) hi dX12_count_168 ?_
    exact k_iret C hw hf dX12_count_169
  have hf := k_ifF h9 hf
  by_cases h10 : p1 = (10 : Int32)
  · have hf := k_ifT h10 hf
    refine lv_tableIn (tgt := 170) hx hb dX12_count_6 (by rw [h10]; decide) (by rw [h10]; decide) (by rw [h10]; rfl) (by decide) ?_
    refine lv_aload_n hx hb dX12_count_170 rfl (lv_at hl 0 rfl) ?_
    refine k_get C hw (LM_0 LM) (ci := 12) rfl k_in12 38 (by decide) lk12_81 (v := .ref (ad 23)) rfl dX12_count_171 ?_
    refine lv_iconst (v := (0 : Int32)) hx hb dX12_count_174 (by decide) ?_
    obtain ⟨hi, hf⟩ := k_ckE hf
    refine k_iald C hw (LM_23 LM) hi dX12_count_175 ?_
    exact k_iret C hw hf dX12_count_176
  have hf := k_ifF h10 hf
  by_cases h11 : p1 = (11 : Int32)
  · have hf := k_ifT h11 hf
    refine lv_tableIn (tgt := 177) hx hb dX12_count_6 (by rw [h11]; decide) (by rw [h11]; decide) (by rw [h11]; rfl) (by decide) ?_
    refine lv_aload_n hx hb dX12_count_177 rfl (lv_at hl 0 rfl) ?_
    refine k_get C hw (LM_0 LM) (ci := 12) rfl k_in12 39 (by decide) lk12_84 (v := .ref (ad 24)) rfl dX12_count_178 ?_
    refine lv_iconst (v := (0 : Int32)) hx hb dX12_count_181 (by decide) ?_
    obtain ⟨hi, hf⟩ := k_ckE hf
    refine k_iald C hw (LM_24 LM) hi dX12_count_182 ?_
    exact k_iret C hw hf dX12_count_183
  have hf := k_ifF h11 hf
  by_cases h12 : p1 = (12 : Int32)
  · have hf := k_ifT h12 hf
    refine lv_tableIn (tgt := 184) hx hb dX12_count_6 (by rw [h12]; decide) (by rw [h12]; decide) (by rw [h12]; rfl) (by decide) ?_
    refine lv_aload_n hx hb dX12_count_184 rfl (lv_at hl 0 rfl) ?_
    refine k_get C hw (LM_0 LM) (ci := 12) rfl k_in12 36 (by decide) lk12_75 (v := .ref (ad 21)) rfl dX12_count_185 ?_
    refine lv_iconst (v := (0 : Int32)) hx hb dX12_count_188 (by decide) ?_
    obtain ⟨hi, hf⟩ := k_ckE hf
    refine k_iald C hw (LM_21 LM) hi dX12_count_189 ?_
    exact k_iret C hw hf dX12_count_190
  have hf := k_ifF h12 hf
  by_cases h13 : p1 = (13 : Int32)
  · have hf := k_ifT h13 hf
    refine lv_tableIn (tgt := 191) hx hb dX12_count_6 (by rw [h13]; decide) (by rw [h13]; decide) (by rw [h13]; rfl) (by decide) ?_
    refine lv_aload_n hx hb dX12_count_191 rfl (lv_at hl 0 rfl) ?_
    refine k_get C hw (LM_0 LM) (ci := 12) rfl k_in12 59 (by decide) lk12_301 (v := .int (σ1.1 0 59)) rfl dX12_count_192 ?_
    exact k_iret C hw hf dX12_count_195
  have hf := k_ifF h13 hf
  by_cases h14 : p1 = (14 : Int32)
  · have hf := k_ifT h14 hf
    refine lv_tableIn (tgt := 196) hx hb dX12_count_6 (by rw [h14]; decide) (by rw [h14]; decide) (by rw [h14]; rfl) (by decide) ?_
    refine lv_aload_n hx hb dX12_count_196 rfl (lv_at hl 0 rfl) ?_
    obtain ⟨q3, σ2, hq, hf⟩ := k_bdE hf
    refine k_callVi C hw (c_X12_knownMany l G Y w ad LM σ1 q3 σ2 hq) (cwV 0 hts gX12_count_X12_knownMany rfl rfl rfl (by decide +kernel) ⟨Nat.le_of_ble_eq_true rfl, Nat.le_of_ble_eq_true rfl⟩) (k_recv C hw (LM_0 LM) rfl) rfl hl.1 rfl (Nat.le_of_ble_eq_true rfl) dX12_count_197 (fun H locs hw => ?_)
    exact k_iret C hw hf dX12_count_200
  have hf := k_ifF h14 hf
  by_cases h15 : p1 = (15 : Int32)
  · have hf := k_ifT h15 hf
    refine lv_tableIn (tgt := 201) hx hb dX12_count_6 (by rw [h15]; decide) (by rw [h15]; decide) (by rw [h15]; rfl) (by decide) ?_
    refine lv_aload_n hx hb dX12_count_201 rfl (lv_at hl 0 rfl) ?_
    refine k_get C hw (LM_0 LM) (ci := 12) rfl k_in12 45 (by decide) lk12_308 (v := .int (σ1.1 0 45)) rfl dX12_count_202 ?_
    exact k_iret C hw hf dX12_count_205
  have hf := k_ifF h15 hf
  refine lv_tableOut (tgt := 206) hx hb dX12_count_6 (k_tout (fun k q1 q2 q3 => ?_)) (by decide) ?_
  · have q4 : p1 = Int32.ofInt k := by rw [← q3, Int32.ofInt_toInt]
    have q5 : k = 0 ∨ k = 1 ∨ k = 2 ∨ k = 3 ∨ k = 4 ∨ k = 5 ∨ k = 6 ∨ k = 7 ∨ k = 8 ∨ k = 9 ∨ k = 10 ∨ k = 11 ∨ k = 12 ∨ k = 13 ∨ k = 14 ∨ k = 15 := by omega
    rcases q5 with rfl | rfl | rfl | rfl | rfl | rfl | rfl | rfl | rfl | rfl | rfl | rfl | rfl | rfl | rfl | rfl
    · exact h0 q4
    · exact h1 q4
    · exact h2 q4
    · exact h3 q4
    · exact h4 q4
    · exact h5 q4
    · exact h6 q4
    · exact h7 q4
    · exact h8 q4
    · exact h9 q4
    · exact h10 q4
    · exact h11 q4
    · exact h12 q4
    · exact h13 q4
    · exact h14 q4
    · exact h15 q4
  refine lv_iconst (v := (-1 : Int32)) hx hb dX12_count_206 (by decide) ?_
  exact k_iret C hw hf dX12_count_207
