def f_X12_name_b53  (r7 : Int32 → MSt → Option MSt) (x1 : Int32) (y1 : Int32) (y2 : Int32) (σ : MSt) : Option MSt :=
  k_nm (mI σ 0 22 (y1 ||| y2)) fun σ1 =>
  k_nm (x1 + (1 : Int32)) fun u2 =>
  r7 u2 σ1
def f_X12_name_b7_s  (r7 : Int32 → MSt → Option MSt) (x1 : Int32) (σ : MSt) : Option MSt :=
  if (6 : Int32) ≤ x1 then
  (some σ)
  else
  (if (σ.1 0 19) ≤ ((σ.1 0 20) + x1) then
  (f_X12_name_b53 r7 x1 ((σ.1 0 22) <<< ((5 : Int32) &&& 31)) (0 : Int32) σ)
  else
  (k_ck (k_inb ((σ.1 0 20) + x1) 700) <|
  f_X12_name_b53 r7 x1 ((σ.1 0 22) <<< ((5 : Int32) &&& 31)) (((σ.1 1 (((σ.1 0 20) + x1)).toNatClampNeg) - (97 : Int32)) + (1 : Int32)) σ))
def f_X12_name_b7  : Nat → Int32 → MSt → Option MSt
  | 0 => fun _ _ => none
  | n + 1 => f_X12_name_b7_s (f_X12_name_b7 n)
def f_X12_name   (σ : MSt) : Option MSt :=
  k_nm (mI σ 0 22 (0 : Int32)) fun σ1 =>
  f_X12_name_b7 FU (0 : Int32) σ1
def rmX12_name : Room := { frames := 0, cells := 0, slots := 0, locals := 0 }
set_option maxHeartbeats 4000000 in
set_option maxRecDepth 100000 in
theorem c_X12_name (l : Launch) (G : va_G) (Y : CY) (w : MSt → va_W) (ad : Nat → Nat)  (LM : LayM ad w Y)  (σ : MSt) (σ' : MSt) (hf : f_X12_name σ = some σ') : k_Mv l yX12_name wsX12_name rmX12_name G Y w [.ref (ad 0)] σ σ' := by
  refine k_ofv (own := RX12) (cc := cX12_name) (maxL := 2) none (by decide) rfl rfl (Nat.le_of_ble_eq_true rfl) ?_
  intro p e s m below meth c A C ls hl hw
  have hx := C.1
  have hb := C.2.1
  have hown := C.2.2.2.2.1
  have hts := C.2.2.2.2.2.1
  have hks := C.2.2.2.2.2.2.1
  have hl : lv_has ls 2 [(0, .ref (ad 0))] := hl
  have b7 : ∀ (n7 : Nat) (x1 : Int32) (σ : MSt) (H : Heap) (locs : List Loc) (ls : Array Slot), lv_has ls 2 [(0, .ref (ad 0)), (1, .int x1)] → k_W G w A s.heap σ H locs → f_X12_name_b7 n7 x1 σ = some σ' → W p l e rmX12_name s m [.ref (ad 0)].toArray below meth c H locs 0 0 (MQ below (k_Qv G w A σ') [.ref (ad 0)].toArray s 0 0 A) (F0 m 7 ls []) := by
    intro n7
    induction n7 with
    | zero =>
      intro x1 σ H locs ls hl hw hf
      have hf : (none : Option MSt) = some σ' := hf
      cases hf
    | succ n7 ih7 =>
      have b53 : ∀ (x1 : Int32) (y1 : Int32) (y2 : Int32) (σ : MSt) (H : Heap) (locs : List Loc) (ls : Array Slot), lv_has ls 2 [(0, .ref (ad 0)), (1, .int x1)] → k_W G w A s.heap σ H locs → f_X12_name_b53 (f_X12_name_b7 n7) x1 y1 y2 σ = some σ' → W p l e rmX12_name s m [.ref (ad 0)].toArray below meth c H locs 0 0 (MQ below (k_Qv G w A σ') [.ref (ad 0)].toArray s 0 0 A) (F0 m 53 ls [.int y2, .int y1, .ref (ad 0)]) := by
        intro x1 y1 y2 σ H locs ls hl hw hf
        unfold f_X12_name_b53 at hf
        refine lv_ior hx hb dX12_name_53 ?_
        refine k_put C hw (LM_0 LM) (ci := 12) rfl k_in12 tyX12 tyX12_ok nmX12 22 (by decide) lk12_174 rfl ⟨rfl, rfl⟩ rfl dX12_name_54 (fun σ1 eq H locs hw => ?_)
        have hf := k_nmE eq hf
        obtain ⟨u2, ex⟩ : ∃ y : Int32, y = (x1 + (1 : Int32)) := ⟨_, rfl⟩
        have hf := k_nmE ex hf
        refine lv_iinc (v := u2) (lv' := [(1, .int u2), (0, .ref (ad 0))]) hx hb dX12_name_57 hl (k := 1) rfl (by rw [ex]; rfl) (by decide) rfl (fun ls hl => ?_)
        refine lv_goto (tgt := 7) hx hb dX12_name_60 (by decide) ?_
        exact ih7 u2 σ1 _ _ _ (lv_sub hl [1, 0] rfl) hw hf
      intro x1 σ H locs ls hl hw hf
      have hf : f_X12_name_b7_s (f_X12_name_b7 n7) x1 σ = some σ' := hf
      unfold f_X12_name_b7_s at hf
      refine lv_iload_n hx hb dX12_name_7 rfl (lv_at hl 1 rfl) ?_
      refine lv_bipush (v := (6 : Int32)) hx hb dX12_name_8 (by decide) ?_
      refine lv_icmp_ge (tgt := 63) hx hb dX12_name_10 (by decide) (fun h => ?_) (fun h => ?_)
      · have hf := k_ifT h hf
        exact k_vret C hw hf dX12_name_63
      · have hf := k_ifF h hf
        refine lv_aload_n hx hb dX12_name_13 rfl (lv_at hl 0 rfl) ?_
        refine lv_aload_n hx hb dX12_name_14 rfl (lv_at hl 0 rfl) ?_
        refine k_get C hw (LM_0 LM) (ci := 12) rfl k_in12 22 (by decide) lk12_174 (v := .int (σ.1 0 22)) rfl dX12_name_15 ?_
        refine lv_iconst (v := (5 : Int32)) hx hb dX12_name_18 (by decide) ?_
        refine lv_ishl hx hb dX12_name_19 ?_
        refine lv_aload_n hx hb dX12_name_20 rfl (lv_at hl 0 rfl) ?_
        refine k_get C hw (LM_0 LM) (ci := 12) rfl k_in12 20 (by decide) lk12_161 (v := .int (σ.1 0 20)) rfl dX12_name_21 ?_
        refine lv_iload_n hx hb dX12_name_24 rfl (lv_at hl 1 rfl) ?_
        refine lv_iadd hx hb dX12_name_25 ?_
        refine lv_aload_n hx hb dX12_name_26 rfl (lv_at hl 0 rfl) ?_
        refine k_get C hw (LM_0 LM) (ci := 12) rfl k_in12 19 (by decide) lk12_151 (v := .int (σ.1 0 19)) rfl dX12_name_27 ?_
        refine lv_icmp_ge (tgt := 52) hx hb dX12_name_30 (by decide) (fun h => ?_) (fun h => ?_)
        · have hf := k_ifT h hf
          refine lv_iconst (v := (0 : Int32)) hx hb dX12_name_52 (by decide) ?_
          exact b53 x1 ((σ.1 0 22) <<< ((5 : Int32) &&& 31)) (0 : Int32) σ _ _ _ (lv_sub hl [0, 1] rfl) hw hf
        · have hf := k_ifF h hf
          refine lv_aload_n hx hb dX12_name_33 rfl (lv_at hl 0 rfl) ?_
          refine k_get C hw (LM_0 LM) (ci := 12) rfl k_in12 1 (by decide) lk12_7 (v := .ref (ad 1)) rfl dX12_name_34 ?_
          refine lv_aload_n hx hb dX12_name_37 rfl (lv_at hl 0 rfl) ?_
          refine k_get C hw (LM_0 LM) (ci := 12) rfl k_in12 20 (by decide) lk12_161 (v := .int (σ.1 0 20)) rfl dX12_name_38 ?_
          refine lv_iload_n hx hb dX12_name_41 rfl (lv_at hl 1 rfl) ?_
          refine lv_iadd hx hb dX12_name_42 ?_
          obtain ⟨hi, hf⟩ := k_ckE hf
          refine k_iald C hw (LM_1 LM) hi dX12_name_43 ?_
          refine lv_bipush (v := (97 : Int32)) hx hb dX12_name_44 (by decide) ?_
          refine lv_isub hx hb dX12_name_46 ?_
          refine lv_iconst (v := (1 : Int32)) hx hb dX12_name_47 (by decide) ?_
          refine lv_iadd hx hb dX12_name_48 ?_
          refine lv_goto (tgt := 53) hx hb dX12_name_49 (by decide) ?_
          exact b53 x1 ((σ.1 0 22) <<< ((5 : Int32) &&& 31)) (((σ.1 1 (((σ.1 0 20) + x1)).toNatClampNeg) - (97 : Int32)) + (1 : Int32)) σ _ _ _ (lv_sub hl [0, 1] rfl) hw hf
  unfold f_X12_name at hf
  refine lv_aload_n hx hb dX12_name_0 rfl (lv_at hl 0 rfl) ?_
  refine lv_iconst (v := (0 : Int32)) hx hb dX12_name_1 (by decide) ?_
  refine k_put C hw (LM_0 LM) (ci := 12) rfl k_in12 tyX12 tyX12_ok nmX12 22 (by decide) lk12_174 rfl ⟨rfl, rfl⟩ rfl dX12_name_2 (fun σ1 eq H locs hw => ?_)
  have hf := k_nmE eq hf
  refine lv_iconst (v := (0 : Int32)) hx hb dX12_name_5 (by decide) ?_
  refine lv_istore_n (lv' := [(1, .int (0 : Int32)), (0, .ref (ad 0))]) hx hb dX12_name_6 rfl hl (by decide) rfl (fun ls hl => ?_)
  exact b7 FU (0 : Int32) σ1 _ _ _ (lv_sub hl [1, 0] rfl) hw hf
def f_X12_sign_b170   (σ : MSt) : Option MSt :=
  some σ
def f_X12_sign_b150   (σ : MSt) : Option MSt :=
  if (σ.1 0 22) < (256 : Int32) then
  (f_X12_sign_b170 σ)
  else
  (k_nm (mI σ 0 19 ((σ.1 0 19) + (1 : Int32))) fun σ1 =>
  f_X12_sign_b170 σ1)
def f_X12_sign_b128  (x1 : Int32) (σ : MSt) : Option MSt :=
  if x1 = (62 : Int32) then
  (k_bd (f_X12_here σ) fun q2 σ1 =>
  if q2 = (61 : Int32) then
  (k_nm (mI σ1 0 22 (258 : Int32)) fun σ3 =>
  f_X12_sign_b150 σ3)
  else
  (f_X12_sign_b150 σ1))
  else
  (f_X12_sign_b150 σ)
def f_X12_sign_b106  (x1 : Int32) (σ : MSt) : Option MSt :=
  if x1 = (60 : Int32) then
  (k_bd (f_X12_here σ) fun q2 σ1 =>
  if q2 = (62 : Int32) then
  (k_nm (mI σ1 0 22 (257 : Int32)) fun σ3 =>
  f_X12_sign_b128 x1 σ3)
  else
  (f_X12_sign_b128 x1 σ1))
  else
  (f_X12_sign_b128 x1 σ)
def f_X12_sign_b76  (x1 : Int32) (y1 : Int32) (σ : MSt) : Option MSt :=
  k_nm (mI σ 0 21 y1) fun σ1 =>
  k_nm (mI σ1 0 22 x1) fun σ2 =>
  if x1 = (60 : Int32) then
  (k_bd (f_X12_here σ2) fun q4 σ3 =>
  if q4 = (61 : Int32) then
  (k_nm (mI σ3 0 22 (256 : Int32)) fun σ5 =>
  f_X12_sign_b106 x1 σ5)
  else
  (f_X12_sign_b106 x1 σ3))
  else
  (f_X12_sign_b106 x1 σ2)
def f_X12_sign_b71  (x1 : Int32) (σ : MSt) : Option MSt :=
  f_X12_sign_b76 x1 (3 : Int32) σ
def f_X12_sign  (p1 : Int32) (σ : MSt) : Option MSt :=
  k_nm (mI σ 0 19 ((σ.1 0 19) + (1 : Int32))) fun σ1 =>
  if p1 = (59 : Int32) then
  (f_X12_sign_b71 p1 σ1)
  else
  (if p1 = (40 : Int32) then
  (f_X12_sign_b71 p1 σ1)
  else
  (if p1 = (41 : Int32) then
  (f_X12_sign_b71 p1 σ1)
  else
  (if p1 = (43 : Int32) then
  (f_X12_sign_b71 p1 σ1)
  else
  (if p1 = (45 : Int32) then
  (f_X12_sign_b71 p1 σ1)
  else
  (if p1 = (42 : Int32) then
  (f_X12_sign_b71 p1 σ1)
  else
  (if p1 = (47 : Int32) then
  (f_X12_sign_b71 p1 σ1)
  else
  (if p1 = (60 : Int32) then
  (f_X12_sign_b71 p1 σ1)
  else
  (if p1 = (61 : Int32) then
  (f_X12_sign_b71 p1 σ1)
  else
  (if p1 = (62 : Int32) then
  (f_X12_sign_b71 p1 σ1)
  else
  (f_X12_sign_b76 p1 (5 : Int32) σ1))))))))))
def rmX12_sign : Room := { frames := 1, cells := 0, slots := 0, locals := 20 }
set_option maxHeartbeats 4000000 in
set_option maxRecDepth 100000 in
theorem c_X12_sign (l : Launch) (G : va_G) (Y : CY) (w : MSt → va_W) (ad : Nat → Nat)  (LM : LayM ad w Y) (p1 : Int32) (σ : MSt) (σ' : MSt) (hf : f_X12_sign p1 σ = some σ') : k_Mv l yX12_sign wsX12_sign rmX12_sign G Y w [.ref (ad 0), .int p1] σ σ' := by
  refine k_ofv (own := RX12) (cc := cX12_sign) (maxL := 2) none (by decide) rfl rfl (Nat.le_of_ble_eq_true rfl) ?_
  intro p e s m below meth c A C ls hl hw
  have hx := C.1
  have hb := C.2.1
  have hown := C.2.2.2.2.1
  have hts := C.2.2.2.2.2.1
  have hks := C.2.2.2.2.2.2.1
  have hl : lv_has ls 2 [(0, .ref (ad 0)), (1, .int p1)] := hl
  have b170 : ∀ (σ : MSt) (H : Heap) (locs : List Loc) (ls : Array Slot), lv_has ls 2 [] → k_W G w A s.heap σ H locs → f_X12_sign_b170 σ = some σ' → W p l e rmX12_sign s m [.ref (ad 0), .int p1].toArray below meth c H locs 0 0 (MQ below (k_Qv G w A σ') [.ref (ad 0), .int p1].toArray s 0 0 A) (F0 m 170 ls []) := by
    intro σ H locs ls hl hw hf
    unfold f_X12_sign_b170 at hf
    exact k_vret C hw hf dX12_sign_170
  have b150 : ∀ (σ : MSt) (H : Heap) (locs : List Loc) (ls : Array Slot), lv_has ls 2 [(0, .ref (ad 0))] → k_W G w A s.heap σ H locs → f_X12_sign_b150 σ = some σ' → W p l e rmX12_sign s m [.ref (ad 0), .int p1].toArray below meth c H locs 0 0 (MQ below (k_Qv G w A σ') [.ref (ad 0), .int p1].toArray s 0 0 A) (F0 m 150 ls []) := by
    intro σ H locs ls hl hw hf
    unfold f_X12_sign_b150 at hf
    refine lv_aload_n hx hb dX12_sign_150 rfl (lv_at hl 0 rfl) ?_
    refine k_get C hw (LM_0 LM) (ci := 12) rfl k_in12 22 (by decide) lk12_174 (v := .int (σ.1 0 22)) rfl dX12_sign_151 ?_
    refine lv_sipush (v := (256 : Int32)) hx hb dX12_sign_154 (by decide) ?_
    refine lv_icmp_lt (tgt := 170) hx hb dX12_sign_157 (by decide) (fun h => ?_) (fun h => ?_)
    · have hf := k_ifT h hf
      exact b170 σ _ _ _ (lv_sub hl [] rfl) hw hf
    · have hf := k_ifF h hf
      refine lv_aload_n hx hb dX12_sign_160 rfl (lv_at hl 0 rfl) ?_
      refine lv_dup hx hb dX12_sign_161 rfl ?_
      refine k_get C hw (LM_0 LM) (ci := 12) rfl k_in12 19 (by decide) lk12_151 (v := .int (σ.1 0 19)) rfl dX12_sign_162 ?_
      refine lv_iconst (v := (1 : Int32)) hx hb dX12_sign_165 (by decide) ?_
      refine lv_iadd hx hb dX12_sign_166 ?_
      refine k_put C hw (LM_0 LM) (ci := 12) rfl k_in12 tyX12 tyX12_ok nmX12 19 (by decide) lk12_151 rfl ⟨rfl, rfl⟩ rfl dX12_sign_167 (fun σ1 eq H locs hw => ?_)
      have hf := k_nmE eq hf
      exact b170 σ1 _ _ _ (lv_sub hl [] rfl) hw hf
  have b128 : ∀ (x1 : Int32) (σ : MSt) (H : Heap) (locs : List Loc) (ls : Array Slot), lv_has ls 2 [(0, .ref (ad 0)), (1, .int x1)] → k_W G w A s.heap σ H locs → f_X12_sign_b128 x1 σ = some σ' → W p l e rmX12_sign s m [.ref (ad 0), .int p1].toArray below meth c H locs 0 0 (MQ below (k_Qv G w A σ') [.ref (ad 0), .int p1].toArray s 0 0 A) (F0 m 128 ls []) := by
    intro x1 σ H locs ls hl hw hf
    unfold f_X12_sign_b128 at hf
    refine lv_iload_n hx hb dX12_sign_128 rfl (lv_at hl 1 rfl) ?_
    refine lv_bipush (v := (62 : Int32)) hx hb dX12_sign_129 (by decide) ?_
    refine lv_icmp_ne (tgt := 150) hx hb dX12_sign_131 (by decide) (fun h => ?_) (fun h => ?_)
    · have hf := k_ifF h hf
      exact b150 σ _ _ _ (lv_sub hl [0] rfl) hw hf
    · have hf := k_ifT h hf
      refine lv_aload_n hx hb dX12_sign_134 rfl (lv_at hl 0 rfl) ?_
      obtain ⟨q2, σ1, hq, hf⟩ := k_bdE hf
      refine k_callVi C hw (c_X12_here l G Y w ad LM σ q2 σ1 hq) (cwV 0 hts gX12_sign_X12_here rfl rfl rfl (by decide +kernel) ⟨Nat.le_of_ble_eq_true rfl, Nat.le_of_ble_eq_true rfl⟩) (k_recv C hw (LM_0 LM) rfl) rfl hl.1 rfl (Nat.le_of_ble_eq_true rfl) dX12_sign_135 (fun H locs hw => ?_)
      refine lv_bipush (v := (61 : Int32)) hx hb dX12_sign_138 (by decide) ?_
      refine lv_icmp_ne (tgt := 150) hx hb dX12_sign_140 (by decide) (fun h => ?_) (fun h => ?_)
      · have hf := k_ifF h hf
        exact b150 σ1 _ _ _ (lv_sub hl [0] rfl) hw hf
      · have hf := k_ifT h hf
        refine lv_aload_n hx hb dX12_sign_143 rfl (lv_at hl 0 rfl) ?_
        refine lv_sipush (v := (258 : Int32)) hx hb dX12_sign_144 (by decide) ?_
        refine k_put C hw (LM_0 LM) (ci := 12) rfl k_in12 tyX12 tyX12_ok nmX12 22 (by decide) lk12_174 rfl ⟨rfl, rfl⟩ rfl dX12_sign_147 (fun σ3 eq H locs hw => ?_)
        have hf := k_nmE eq hf
        exact b150 σ3 _ _ _ (lv_sub hl [0] rfl) hw hf
  have b106 : ∀ (x1 : Int32) (σ : MSt) (H : Heap) (locs : List Loc) (ls : Array Slot), lv_has ls 2 [(0, .ref (ad 0)), (1, .int x1)] → k_W G w A s.heap σ H locs → f_X12_sign_b106 x1 σ = some σ' → W p l e rmX12_sign s m [.ref (ad 0), .int p1].toArray below meth c H locs 0 0 (MQ below (k_Qv G w A σ') [.ref (ad 0), .int p1].toArray s 0 0 A) (F0 m 106 ls []) := by
    intro x1 σ H locs ls hl hw hf
    unfold f_X12_sign_b106 at hf
    refine lv_iload_n hx hb dX12_sign_106 rfl (lv_at hl 1 rfl) ?_
    refine lv_bipush (v := (60 : Int32)) hx hb dX12_sign_107 (by decide) ?_
    refine lv_icmp_ne (tgt := 128) hx hb dX12_sign_109 (by decide) (fun h => ?_) (fun h => ?_)
    · have hf := k_ifF h hf
      exact b128 x1 σ _ _ _ (lv_sub hl [0, 1] rfl) hw hf
    · have hf := k_ifT h hf
      refine lv_aload_n hx hb dX12_sign_112 rfl (lv_at hl 0 rfl) ?_
      obtain ⟨q2, σ1, hq, hf⟩ := k_bdE hf
      refine k_callVi C hw (c_X12_here l G Y w ad LM σ q2 σ1 hq) (cwV 0 hts gX12_sign_X12_here rfl rfl rfl (by decide +kernel) ⟨Nat.le_of_ble_eq_true rfl, Nat.le_of_ble_eq_true rfl⟩) (k_recv C hw (LM_0 LM) rfl) rfl hl.1 rfl (Nat.le_of_ble_eq_true rfl) dX12_sign_113 (fun H locs hw => ?_)
      refine lv_bipush (v := (62 : Int32)) hx hb dX12_sign_116 (by decide) ?_
      refine lv_icmp_ne (tgt := 128) hx hb dX12_sign_118 (by decide) (fun h => ?_) (fun h => ?_)
      · have hf := k_ifF h hf
        exact b128 x1 σ1 _ _ _ (lv_sub hl [0, 1] rfl) hw hf
      · have hf := k_ifT h hf
        refine lv_aload_n hx hb dX12_sign_121 rfl (lv_at hl 0 rfl) ?_
        refine lv_sipush (v := (257 : Int32)) hx hb dX12_sign_122 (by decide) ?_
        refine k_put C hw (LM_0 LM) (ci := 12) rfl k_in12 tyX12 tyX12_ok nmX12 22 (by decide) lk12_174 rfl ⟨rfl, rfl⟩ rfl dX12_sign_125 (fun σ3 eq H locs hw => ?_)
        have hf := k_nmE eq hf
        exact b128 x1 σ3 _ _ _ (lv_sub hl [0, 1] rfl) hw hf
  have b76 : ∀ (x1 : Int32) (y1 : Int32) (σ : MSt) (H : Heap) (locs : List Loc) (ls : Array Slot), lv_has ls 2 [(0, .ref (ad 0)), (1, .int x1)] → k_W G w A s.heap σ H locs → f_X12_sign_b76 x1 y1 σ = some σ' → W p l e rmX12_sign s m [.ref (ad 0), .int p1].toArray below meth c H locs 0 0 (MQ below (k_Qv G w A σ') [.ref (ad 0), .int p1].toArray s 0 0 A) (F0 m 76 ls [.int y1, .ref (ad 0)]) := by
    intro x1 y1 σ H locs ls hl hw hf
    unfold f_X12_sign_b76 at hf
    refine k_put C hw (LM_0 LM) (ci := 12) rfl k_in12 tyX12 tyX12_ok nmX12 21 (by decide) lk12_164 rfl ⟨rfl, rfl⟩ rfl dX12_sign_76 (fun σ1 eq H locs hw => ?_)
    have hf := k_nmE eq hf
    refine lv_aload_n hx hb dX12_sign_79 rfl (lv_at hl 0 rfl) ?_
    refine lv_iload_n hx hb dX12_sign_80 rfl (lv_at hl 1 rfl) ?_
    refine k_put C hw (LM_0 LM) (ci := 12) rfl k_in12 tyX12 tyX12_ok nmX12 22 (by decide) lk12_174 rfl ⟨rfl, rfl⟩ rfl dX12_sign_81 (fun σ2 eq H locs hw => ?_)
    have hf := k_nmE eq hf
    refine lv_iload_n hx hb dX12_sign_84 rfl (lv_at hl 1 rfl) ?_
    refine lv_bipush (v := (60 : Int32)) hx hb dX12_sign_85 (by decide) ?_
    refine lv_icmp_ne (tgt := 106) hx hb dX12_sign_87 (by decide) (fun h => ?_) (fun h => ?_)
    · have hf := k_ifF h hf
      exact b106 x1 σ2 _ _ _ (lv_sub hl [0, 1] rfl) hw hf
    · have hf := k_ifT h hf
      refine lv_aload_n hx hb dX12_sign_90 rfl (lv_at hl 0 rfl) ?_
      obtain ⟨q4, σ3, hq, hf⟩ := k_bdE hf
      refine k_callVi C hw (c_X12_here l G Y w ad LM σ2 q4 σ3 hq) (cwV 0 hts gX12_sign_X12_here rfl rfl rfl (by decide +kernel) ⟨Nat.le_of_ble_eq_true rfl, Nat.le_of_ble_eq_true rfl⟩) (k_recv C hw (LM_0 LM) rfl) rfl hl.1 rfl (Nat.le_of_ble_eq_true rfl) dX12_sign_91 (fun H locs hw => ?_)
      refine lv_bipush (v := (61 : Int32)) hx hb dX12_sign_94 (by decide) ?_
      refine lv_icmp_ne (tgt := 106) hx hb dX12_sign_96 (by decide) (fun h => ?_) (fun h => ?_)
      · have hf := k_ifF h hf
        exact b106 x1 σ3 _ _ _ (lv_sub hl [0, 1] rfl) hw hf
      · have hf := k_ifT h hf
        refine lv_aload_n hx hb dX12_sign_99 rfl (lv_at hl 0 rfl) ?_
        refine lv_sipush (v := (256 : Int32)) hx hb dX12_sign_100 (by decide) ?_
        refine k_put C hw (LM_0 LM) (ci := 12) rfl k_in12 tyX12 tyX12_ok nmX12 22 (by decide) lk12_174 rfl ⟨rfl, rfl⟩ rfl dX12_sign_103 (fun σ5 eq H locs hw => ?_)
        have hf := k_nmE eq hf
        exact b106 x1 σ5 _ _ _ (lv_sub hl [0, 1] rfl) hw hf
  have b71 : ∀ (x1 : Int32) (σ : MSt) (H : Heap) (locs : List Loc) (ls : Array Slot), lv_has ls 2 [(0, .ref (ad 0)), (1, .int x1)] → k_W G w A s.heap σ H locs → f_X12_sign_b71 x1 σ = some σ' → W p l e rmX12_sign s m [.ref (ad 0), .int p1].toArray below meth c H locs 0 0 (MQ below (k_Qv G w A σ') [.ref (ad 0), .int p1].toArray s 0 0 A) (F0 m 71 ls [.ref (ad 0)]) := by
    intro x1 σ H locs ls hl hw hf
    unfold f_X12_sign_b71 at hf
    refine lv_iconst (v := (3 : Int32)) hx hb dX12_sign_71 (by decide) ?_
    refine lv_goto (tgt := 76) hx hb dX12_sign_72 (by decide) ?_
    exact b76 x1 (3 : Int32) σ _ _ _ (lv_sub hl [0, 1] rfl) hw hf
  unfold f_X12_sign at hf
  refine lv_aload_n hx hb dX12_sign_0 rfl (lv_at hl 0 rfl) ?_
  refine lv_dup hx hb dX12_sign_1 rfl ?_
  refine k_get C hw (LM_0 LM) (ci := 12) rfl k_in12 19 (by decide) lk12_151 (v := .int (σ.1 0 19)) rfl dX12_sign_2 ?_
  refine lv_iconst (v := (1 : Int32)) hx hb dX12_sign_5 (by decide) ?_
  refine lv_iadd hx hb dX12_sign_6 ?_
  refine k_put C hw (LM_0 LM) (ci := 12) rfl k_in12 tyX12 tyX12_ok nmX12 19 (by decide) lk12_151 rfl ⟨rfl, rfl⟩ rfl dX12_sign_7 (fun σ1 eq H locs hw => ?_)
  have hf := k_nmE eq hf
  refine lv_aload_n hx hb dX12_sign_10 rfl (lv_at hl 0 rfl) ?_
  refine lv_iload_n hx hb dX12_sign_11 rfl (lv_at hl 1 rfl) ?_
  refine lv_bipush (v := (59 : Int32)) hx hb dX12_sign_12 (by decide) ?_
  refine lv_icmp_eq (tgt := 71) hx hb dX12_sign_14 (by decide) (fun h => ?_) (fun h => ?_)
  · have hf := k_ifT h hf
    exact b71 p1 σ1 _ _ _ (lv_sub hl [0, 1] rfl) hw hf
  · have hf := k_ifF h hf
    refine lv_iload_n hx hb dX12_sign_17 rfl (lv_at hl 1 rfl) ?_
    refine lv_bipush (v := (40 : Int32)) hx hb dX12_sign_18 (by decide) ?_
    refine lv_icmp_eq (tgt := 71) hx hb dX12_sign_20 (by decide) (fun h => ?_) (fun h => ?_)
    · have hf := k_ifT h hf
      exact b71 p1 σ1 _ _ _ (lv_sub hl [0, 1] rfl) hw hf
    · have hf := k_ifF h hf
      refine lv_iload_n hx hb dX12_sign_23 rfl (lv_at hl 1 rfl) ?_
      refine lv_bipush (v := (41 : Int32)) hx hb dX12_sign_24 (by decide) ?_
      refine lv_icmp_eq (tgt := 71) hx hb dX12_sign_26 (by decide) (fun h => ?_) (fun h => ?_)
      · have hf := k_ifT h hf
        exact b71 p1 σ1 _ _ _ (lv_sub hl [0, 1] rfl) hw hf
      · have hf := k_ifF h hf
        refine lv_iload_n hx hb dX12_sign_29 rfl (lv_at hl 1 rfl) ?_
        refine lv_bipush (v := (43 : Int32)) hx hb dX12_sign_30 (by decide) ?_
        refine lv_icmp_eq (tgt := 71) hx hb dX12_sign_32 (by decide) (fun h => ?_) (fun h => ?_)
        · have hf := k_ifT h hf
          exact b71 p1 σ1 _ _ _ (lv_sub hl [0, 1] rfl) hw hf
        · have hf := k_ifF h hf
          refine lv_iload_n hx hb dX12_sign_35 rfl (lv_at hl 1 rfl) ?_
          refine lv_bipush (v := (45 : Int32)) hx hb dX12_sign_36 (by decide) ?_
          refine lv_icmp_eq (tgt := 71) hx hb dX12_sign_38 (by decide) (fun h => ?_) (fun h => ?_)
          · have hf := k_ifT h hf
            exact b71 p1 σ1 _ _ _ (lv_sub hl [0, 1] rfl) hw hf
          · have hf := k_ifF h hf
            refine lv_iload_n hx hb dX12_sign_41 rfl (lv_at hl 1 rfl) ?_
            refine lv_bipush (v := (42 : Int32)) hx hb dX12_sign_42 (by decide) ?_
            refine lv_icmp_eq (tgt := 71) hx hb dX12_sign_44 (by decide) (fun h => ?_) (fun h => ?_)
            · have hf := k_ifT h hf
              exact b71 p1 σ1 _ _ _ (lv_sub hl [0, 1] rfl) hw hf
            · have hf := k_ifF h hf
              refine lv_iload_n hx hb dX12_sign_47 rfl (lv_at hl 1 rfl) ?_
              refine lv_bipush (v := (47 : Int32)) hx hb dX12_sign_48 (by decide) ?_
              refine lv_icmp_eq (tgt := 71) hx hb dX12_sign_50 (by decide) (fun h => ?_) (fun h => ?_)
              · have hf := k_ifT h hf
                exact b71 p1 σ1 _ _ _ (lv_sub hl [0, 1] rfl) hw hf
              · have hf := k_ifF h hf
                refine lv_iload_n hx hb dX12_sign_53 rfl (lv_at hl 1 rfl) ?_
                refine lv_bipush (v := (60 : Int32)) hx hb dX12_sign_54 (by decide) ?_
                refine lv_icmp_eq (tgt := 71) hx hb dX12_sign_56 (by decide) (fun h => ?_) (fun h => ?_)
                · have hf := k_ifT h hf
                  exact b71 p1 σ1 _ _ _ (lv_sub hl [0, 1] rfl) hw hf
                · have hf := k_ifF h hf
                  refine lv_iload_n hx hb dX12_sign_59 rfl (lv_at hl 1 rfl) ?_
                  refine lv_bipush (v := (61 : Int32)) hx hb dX12_sign_60 (by decide) ?_
                  refine lv_icmp_eq (tgt := 71) hx hb dX12_sign_62 (by decide) (fun h => ?_) (fun h => ?_)
                  · have hf := k_ifT h hf
                    exact b71 p1 σ1 _ _ _ (lv_sub hl [0, 1] rfl) hw hf
                  · have hf := k_ifF h hf
                    refine lv_iload_n hx hb dX12_sign_65 rfl (lv_at hl 1 rfl) ?_
                    refine lv_bipush (v := (62 : Int32)) hx hb dX12_sign_66 (by decide) ?_
                    refine lv_icmp_ne (tgt := 75) hx hb dX12_sign_68 (by decide) (fun h => ?_) (fun h => ?_)
                    · have hf := k_ifF h hf
                      refine lv_iconst (v := (5 : Int32)) hx hb dX12_sign_75 (by decide) ?_
                      exact b76 p1 (5 : Int32) σ1 _ _ _ (lv_sub hl [0, 1] rfl) hw hf
                    · have hf := k_ifT h hf
                      exact b71 p1 σ1 _ _ _ (lv_sub hl [0, 1] rfl) hw hf
def f_X12_token_b225   (σ : MSt) : Option MSt :=
  some σ
def f_X12_token_b204  (r162 : MSt → Option MSt) (y1 : Int32) (σ : MSt) : Option MSt :=
  k_nm (mI σ 0 22 y1) fun σ1 =>
  k_nm (mI σ1 0 19 ((σ1.1 0 19) + (1 : Int32))) fun σ2 =>
  r162 σ2
def f_X12_token_b162_s  (r162 : MSt → Option MSt)  (σ : MSt) : Option MSt :=
  k_bd (f_X12_here σ) fun q2 σ1 =>
  k_bd (f_X12_isDigit q2 σ1) fun q4 σ3 =>
  if q4 = 0 then
  (f_X12_token_b225 σ3)
  else
  (if (σ3.1 0 22) ≤ (99999 : Int32) then
  (k_bd (f_X12_here σ3) fun q6 σ5 =>
  f_X12_token_b204 r162 ((((10 : Int32) * (σ3.1 0 22)) + q6) - (48 : Int32)) σ5)
  else
  (f_X12_token_b204 r162 (σ3.1 0 22) σ3))
def f_X12_token_b162  : Nat → MSt → Option MSt
  | 0 => fun _ => none
  | n + 1 => f_X12_token_b162_s (f_X12_token_b162 n)
def f_X12_token_b127  (y1 : Int32) (σ : MSt) : Option MSt :=
  k_nm (mI σ 0 21 y1) fun σ1 =>
  if (σ1.1 0 21) = (1 : Int32) then
  (k_bv (f_X12_name σ1) fun σ2 =>
  f_X12_token_b225 σ2)
  else
  (f_X12_token_b225 σ1)
def f_X12_token_b64_s  (r64 : MSt → Option MSt)  (σ : MSt) : Option MSt :=
  k_bd (f_X12_here σ) fun q2 σ1 =>
  k_bd (f_X12_isSmall q2 σ1) fun q4 σ3 =>
  if q4 = 0 then
  (k_bd (f_X12_word σ3) fun q6 σ5 =>
  k_nm (mI σ5 0 22 q6) fun σ7 =>
  if (σ7.1 0 22) = (-1 : Int32) then
  (if ((σ7.1 0 19) - (σ7.1 0 20)) ≤ (6 : Int32) then
  (f_X12_token_b127 (1 : Int32) σ7)
  else
  (f_X12_token_b127 (5 : Int32) σ7))
  else
  (f_X12_token_b127 (0 : Int32) σ7))
  else
  (k_nm (mI σ3 0 19 ((σ3.1 0 19) + (1 : Int32))) fun σ8 =>
  r64 σ8)
def f_X12_token_b64  : Nat → MSt → Option MSt
  | 0 => fun _ => none
  | n + 1 => f_X12_token_b64_s (f_X12_token_b64 n)
def f_X12_token_b18  (r0 : MSt → Option MSt)  (σ : MSt) : Option MSt :=
  k_nm (mI σ 0 19 ((σ.1 0 19) + (1 : Int32))) fun σ1 =>
  r0 σ1
def f_X12_token_b0_s  (r0 : MSt → Option MSt)  (σ : MSt) : Option MSt :=
  k_bd (f_X12_here σ) fun q2 σ1 =>
  if q2 = (10 : Int32) then
  (f_X12_token_b18 r0 σ1)
  else
  (k_bd (f_X12_here σ1) fun q4 σ3 =>
  if q4 = (32 : Int32) then
  (f_X12_token_b18 r0 σ3)
  else
  (k_nm (mI σ3 0 20 (σ3.1 0 19)) fun σ5 =>
  k_bd (f_X12_here σ5) fun q7 σ6 =>
  if q7 = (-1 : Int32) then
  (k_nm (mI σ6 0 21 (4 : Int32)) fun σ15 =>
  f_X12_token_b225 σ15)
  else
  (k_bd (f_X12_isSmall q7 σ6) fun q9 σ8 =>
  if q9 = 0 then
  (k_bd (f_X12_isDigit q7 σ8) fun q11 σ10 =>
  if q11 = 0 then
  (k_bv (f_X12_sign q7 σ10) fun σ12 =>
  f_X12_token_b225 σ12)
  else
  (k_nm (mI σ10 0 21 (2 : Int32)) fun σ13 =>
  k_nm (mI σ13 0 22 (0 : Int32)) fun σ14 =>
  f_X12_token_b162 FU σ14))
  else
  (f_X12_token_b64 FU σ8))))
def f_X12_token_b0  : Nat → MSt → Option MSt
  | 0 => fun _ => none
  | n + 1 => f_X12_token_b0_s (f_X12_token_b0 n)
def f_X12_token   (σ : MSt) : Option MSt :=
  f_X12_token_b0 FU σ
def rmX12_token : Room := { frames := 5, cells := 0, slots := 0, locals := 108 }
set_option maxHeartbeats 4000000 in
set_option maxRecDepth 100000 in
theorem c_X12_token (l : Launch) (G : va_G) (Y : CY) (w : MSt → va_W) (ad : Nat → Nat)  (LM : LayM ad w Y)  (σ : MSt) (σ' : MSt) (hf : f_X12_token σ = some σ') : k_Mv l yX12_token wsX12_token rmX12_token G Y w [.ref (ad 0)] σ σ' := by
  refine k_ofv (own := RX12) (cc := cX12_token) (maxL := 2) none (by decide) rfl rfl (Nat.le_of_ble_eq_true rfl) ?_
  intro p e s m below meth c A C ls hl hw
  have hx := C.1
  have hb := C.2.1
  have hown := C.2.2.2.2.1
  have hts := C.2.2.2.2.2.1
  have hks := C.2.2.2.2.2.2.1
  have hl : lv_has ls 2 [(0, .ref (ad 0))] := hl
  have b225 : ∀ (σ : MSt) (H : Heap) (locs : List Loc) (ls : Array Slot), lv_has ls 2 [] → k_W G w A s.heap σ H locs → f_X12_token_b225 σ = some σ' → W p l e rmX12_token s m [.ref (ad 0)].toArray below meth c H locs 0 0 (MQ below (k_Qv G w A σ') [.ref (ad 0)].toArray s 0 0 A) (F0 m 225 ls []) := by
    intro σ H locs ls hl hw hf
    unfold f_X12_token_b225 at hf
    exact k_vret C hw hf dX12_token_225
  have b162 : ∀ (n162 : Nat) (σ : MSt) (H : Heap) (locs : List Loc) (ls : Array Slot), lv_has ls 2 [(0, .ref (ad 0))] → k_W G w A s.heap σ H locs → f_X12_token_b162 n162 σ = some σ' → W p l e rmX12_token s m [.ref (ad 0)].toArray below meth c H locs 0 0 (MQ below (k_Qv G w A σ') [.ref (ad 0)].toArray s 0 0 A) (F0 m 162 ls []) := by
    intro n162
    induction n162 with
    | zero =>
      intro σ H locs ls hl hw hf
      have hf : (none : Option MSt) = some σ' := hf
      cases hf
    | succ n162 ih162 =>
      have b204 : ∀ (y1 : Int32) (σ : MSt) (H : Heap) (locs : List Loc) (ls : Array Slot), lv_has ls 2 [(0, .ref (ad 0))] → k_W G w A s.heap σ H locs → f_X12_token_b204 (f_X12_token_b162 n162) y1 σ = some σ' → W p l e rmX12_token s m [.ref (ad 0)].toArray below meth c H locs 0 0 (MQ below (k_Qv G w A σ') [.ref (ad 0)].toArray s 0 0 A) (F0 m 204 ls [.int y1, .ref (ad 0)]) := by
        intro y1 σ H locs ls hl hw hf
        unfold f_X12_token_b204 at hf
        refine k_put C hw (LM_0 LM) (ci := 12) rfl k_in12 tyX12 tyX12_ok nmX12 22 (by decide) lk12_174 rfl ⟨rfl, rfl⟩ rfl dX12_token_204 (fun σ1 eq H locs hw => ?_)
        have hf := k_nmE eq hf
        refine lv_aload_n hx hb dX12_token_207 rfl (lv_at hl 0 rfl) ?_
        refine lv_dup hx hb dX12_token_208 rfl ?_
        refine k_get C hw (LM_0 LM) (ci := 12) rfl k_in12 19 (by decide) lk12_151 (v := .int (σ1.1 0 19)) rfl dX12_token_209 ?_
        refine lv_iconst (v := (1 : Int32)) hx hb dX12_token_212 (by decide) ?_
        refine lv_iadd hx hb dX12_token_213 ?_
        refine k_put C hw (LM_0 LM) (ci := 12) rfl k_in12 tyX12 tyX12_ok nmX12 19 (by decide) lk12_151 rfl ⟨rfl, rfl⟩ rfl dX12_token_214 (fun σ2 eq H locs hw => ?_)
        have hf := k_nmE eq hf
        refine lv_goto (tgt := 162) hx hb dX12_token_217 (by decide) ?_
        exact ih162 σ2 _ _ _ (lv_sub hl [0] rfl) hw hf
      intro σ H locs ls hl hw hf
      have hf : f_X12_token_b162_s (f_X12_token_b162 n162) σ = some σ' := hf
      unfold f_X12_token_b162_s at hf
      refine lv_aload_n hx hb dX12_token_162 rfl (lv_at hl 0 rfl) ?_
      obtain ⟨q2, σ1, hq, hf⟩ := k_bdE hf
      refine k_callVi C hw (c_X12_here l G Y w ad LM σ q2 σ1 hq) (cwV 0 hts gX12_token_X12_here rfl rfl rfl (by decide +kernel) ⟨Nat.le_of_ble_eq_true rfl, Nat.le_of_ble_eq_true rfl⟩) (k_recv C hw (LM_0 LM) rfl) rfl hl.1 rfl (Nat.le_of_ble_eq_true rfl) dX12_token_163 (fun H locs hw => ?_)
      obtain ⟨q4, σ3, hq, hf⟩ := k_bdE hf
      refine k_callSi C hw (c_X12_isDigit l G Y w ad LM q2 σ1 q4 σ3 hq) (va_cwS 1 hts gX12_token_X12_isDigit rfl rfl rfl (by decide +kernel) ⟨Nat.le_of_ble_eq_true rfl, Nat.le_of_ble_eq_true rfl⟩) rfl hl.1 rfl (Nat.le_of_ble_eq_true rfl) dX12_token_166 (fun H locs hw => ?_)
      refine lv_if_eq (tgt := 225) hx hb dX12_token_169 (by decide) (fun h => ?_) (fun h => ?_)
      · have hf := k_ifT h hf
        exact b225 σ3 _ _ _ (lv_sub hl [] rfl) hw hf
      · have hf := k_ifF h hf
        refine lv_aload_n hx hb dX12_token_172 rfl (lv_at hl 0 rfl) ?_
        refine lv_aload_n hx hb dX12_token_173 rfl (lv_at hl 0 rfl) ?_
        refine k_get C hw (LM_0 LM) (ci := 12) rfl k_in12 22 (by decide) lk12_174 (v := .int (σ3.1 0 22)) rfl dX12_token_174 ?_
        refine lv_ldc (v := (99999 : Int32)) hx hb hown (hks.ts _ ck12_183) dX12_token_177 ?_
        refine lv_icmp_le (tgt := 189) hx hb dX12_token_179 (by decide) (fun h => ?_) (fun h => ?_)
        · have hf := k_ifT h hf
          refine lv_bipush (v := (10 : Int32)) hx hb dX12_token_189 (by decide) ?_
          refine lv_aload_n hx hb dX12_token_191 rfl (lv_at hl 0 rfl) ?_
          refine k_get C hw (LM_0 LM) (ci := 12) rfl k_in12 22 (by decide) lk12_174 (v := .int (σ3.1 0 22)) rfl dX12_token_192 ?_
          refine lv_imul hx hb dX12_token_195 ?_
          refine lv_aload_n hx hb dX12_token_196 rfl (lv_at hl 0 rfl) ?_
          obtain ⟨q6, σ5, hq, hf⟩ := k_bdE hf
          refine k_callVi C hw (c_X12_here l G Y w ad LM σ3 q6 σ5 hq) (cwV 0 hts gX12_token_X12_here rfl rfl rfl (by decide +kernel) ⟨Nat.le_of_ble_eq_true rfl, Nat.le_of_ble_eq_true rfl⟩) (k_recv C hw (LM_0 LM) rfl) rfl hl.1 rfl (Nat.le_of_ble_eq_true rfl) dX12_token_197 (fun H locs hw => ?_)
          refine lv_iadd hx hb dX12_token_200 ?_
          refine lv_bipush (v := (48 : Int32)) hx hb dX12_token_201 (by decide) ?_
          refine lv_isub hx hb dX12_token_203 ?_
          exact b204 ((((10 : Int32) * (σ3.1 0 22)) + q6) - (48 : Int32)) σ5 _ _ _ (lv_sub hl [0] rfl) hw hf
        · have hf := k_ifF h hf
          refine lv_aload_n hx hb dX12_token_182 rfl (lv_at hl 0 rfl) ?_
          refine k_get C hw (LM_0 LM) (ci := 12) rfl k_in12 22 (by decide) lk12_174 (v := .int (σ3.1 0 22)) rfl dX12_token_183 ?_
          refine lv_goto (tgt := 204) hx hb dX12_token_186 (by decide) ?_
          exact b204 (σ3.1 0 22) σ3 _ _ _ (lv_sub hl [0] rfl) hw hf
  have b127 : ∀ (y1 : Int32) (σ : MSt) (H : Heap) (locs : List Loc) (ls : Array Slot), lv_has ls 2 [(0, .ref (ad 0))] → k_W G w A s.heap σ H locs → f_X12_token_b127 y1 σ = some σ' → W p l e rmX12_token s m [.ref (ad 0)].toArray below meth c H locs 0 0 (MQ below (k_Qv G w A σ') [.ref (ad 0)].toArray s 0 0 A) (F0 m 127 ls [.int y1, .ref (ad 0)]) := by
    intro y1 σ H locs ls hl hw hf
    unfold f_X12_token_b127 at hf
    refine k_put C hw (LM_0 LM) (ci := 12) rfl k_in12 tyX12 tyX12_ok nmX12 21 (by decide) lk12_164 rfl ⟨rfl, rfl⟩ rfl dX12_token_127 (fun σ1 eq H locs hw => ?_)
    have hf := k_nmE eq hf
    refine lv_aload_n hx hb dX12_token_130 rfl (lv_at hl 0 rfl) ?_
    refine k_get C hw (LM_0 LM) (ci := 12) rfl k_in12 21 (by decide) lk12_164 (v := .int (σ1.1 0 21)) rfl dX12_token_131 ?_
    refine lv_iconst (v := (1 : Int32)) hx hb dX12_token_134 (by decide) ?_
    refine lv_icmp_ne (tgt := 225) hx hb dX12_token_135 (by decide) (fun h => ?_) (fun h => ?_)
    · have hf := k_ifF h hf
      exact b225 σ1 _ _ _ (lv_sub hl [] rfl) hw hf
    · have hf := k_ifT h hf
      refine lv_aload_n hx hb dX12_token_138 rfl (lv_at hl 0 rfl) ?_
      obtain ⟨σ2, hq, hf⟩ := k_bvE hf
      refine k_callVv C hw (c_X12_name l G Y w ad LM σ1 σ2 hq) (cwV 0 hts gX12_token_X12_name rfl rfl rfl (by decide +kernel) ⟨Nat.le_of_ble_eq_true rfl, Nat.le_of_ble_eq_true rfl⟩) (k_recv C hw (LM_0 LM) rfl) rfl hl.1 rfl (Nat.le_of_ble_eq_true rfl) dX12_token_139 (fun H locs hw => ?_)
      refine lv_goto (tgt := 225) hx hb dX12_token_142 (by decide) ?_
      exact b225 σ2 _ _ _ (lv_sub hl [] rfl) hw hf
  have b64 : ∀ (n64 : Nat) (σ : MSt) (H : Heap) (locs : List Loc) (ls : Array Slot), lv_has ls 2 [(0, .ref (ad 0))] → k_W G w A s.heap σ H locs → f_X12_token_b64 n64 σ = some σ' → W p l e rmX12_token s m [.ref (ad 0)].toArray below meth c H locs 0 0 (MQ below (k_Qv G w A σ') [.ref (ad 0)].toArray s 0 0 A) (F0 m 64 ls []) := by
    intro n64
    induction n64 with
    | zero =>
      intro σ H locs ls hl hw hf
      have hf : (none : Option MSt) = some σ' := hf
      cases hf
    | succ n64 ih64 =>
      intro σ H locs ls hl hw hf
      have hf : f_X12_token_b64_s (f_X12_token_b64 n64) σ = some σ' := hf
      unfold f_X12_token_b64_s at hf
      refine lv_aload_n hx hb dX12_token_64 rfl (lv_at hl 0 rfl) ?_
      obtain ⟨q2, σ1, hq, hf⟩ := k_bdE hf
      refine k_callVi C hw (c_X12_here l G Y w ad LM σ q2 σ1 hq) (cwV 0 hts gX12_token_X12_here rfl rfl rfl (by decide +kernel) ⟨Nat.le_of_ble_eq_true rfl, Nat.le_of_ble_eq_true rfl⟩) (k_recv C hw (LM_0 LM) rfl) rfl hl.1 rfl (Nat.le_of_ble_eq_true rfl) dX12_token_65 (fun H locs hw => ?_)
      obtain ⟨q4, σ3, hq, hf⟩ := k_bdE hf
      refine k_callSi C hw (c_X12_isSmall l G Y w ad LM q2 σ1 q4 σ3 hq) (va_cwS 1 hts gX12_token_X12_isSmall rfl rfl rfl (by decide +kernel) ⟨Nat.le_of_ble_eq_true rfl, Nat.le_of_ble_eq_true rfl⟩) rfl hl.1 rfl (Nat.le_of_ble_eq_true rfl) dX12_token_68 (fun H locs hw => ?_)
      refine lv_if_eq (tgt := 87) hx hb dX12_token_71 (by decide) (fun h => ?_) (fun h => ?_)
      · have hf := k_ifT h hf
        refine lv_aload_n hx hb dX12_token_87 rfl (lv_at hl 0 rfl) ?_
        refine lv_aload_n hx hb dX12_token_88 rfl (lv_at hl 0 rfl) ?_
        obtain ⟨q6, σ5, hq, hf⟩ := k_bdE hf
        refine k_callVi C hw (c_X12_word l G Y w ad LM σ3 q6 σ5 hq) (cwV 0 hts gX12_token_X12_word rfl rfl rfl (by decide +kernel) ⟨Nat.le_of_ble_eq_true rfl, Nat.le_of_ble_eq_true rfl⟩) (k_recv C hw (LM_0 LM) rfl) rfl hl.1 rfl (Nat.le_of_ble_eq_true rfl) dX12_token_89 (fun H locs hw => ?_)
        refine k_put C hw (LM_0 LM) (ci := 12) rfl k_in12 tyX12 tyX12_ok nmX12 22 (by decide) lk12_174 rfl ⟨rfl, rfl⟩ rfl dX12_token_92 (fun σ7 eq H locs hw => ?_)
        have hf := k_nmE eq hf
        refine lv_aload_n hx hb dX12_token_95 rfl (lv_at hl 0 rfl) ?_
        refine lv_aload_n hx hb dX12_token_96 rfl (lv_at hl 0 rfl) ?_
        refine k_get C hw (LM_0 LM) (ci := 12) rfl k_in12 22 (by decide) lk12_174 (v := .int (σ7.1 0 22)) rfl dX12_token_97 ?_
        refine lv_iconst (v := (-1 : Int32)) hx hb dX12_token_100 (by decide) ?_
        refine lv_icmp_eq (tgt := 108) hx hb dX12_token_101 (by decide) (fun h => ?_) (fun h => ?_)
        · have hf := k_ifT h hf
          refine lv_aload_n hx hb dX12_token_108 rfl (lv_at hl 0 rfl) ?_
          refine k_get C hw (LM_0 LM) (ci := 12) rfl k_in12 19 (by decide) lk12_151 (v := .int (σ7.1 0 19)) rfl dX12_token_109 ?_
          refine lv_aload_n hx hb dX12_token_112 rfl (lv_at hl 0 rfl) ?_
          refine k_get C hw (LM_0 LM) (ci := 12) rfl k_in12 20 (by decide) lk12_161 (v := .int (σ7.1 0 20)) rfl dX12_token_113 ?_
          refine lv_isub hx hb dX12_token_116 ?_
          refine lv_bipush (v := (6 : Int32)) hx hb dX12_token_117 (by decide) ?_
          refine lv_icmp_le (tgt := 126) hx hb dX12_token_119 (by decide) (fun h => ?_) (fun h => ?_)
          · have hf := k_ifT h hf
            refine lv_iconst (v := (1 : Int32)) hx hb dX12_token_126 (by decide) ?_
            exact b127 (1 : Int32) σ7 _ _ _ (lv_sub hl [0] rfl) hw hf
          · have hf := k_ifF h hf
            refine lv_iconst (v := (5 : Int32)) hx hb dX12_token_122 (by decide) ?_
            refine lv_goto (tgt := 127) hx hb dX12_token_123 (by decide) ?_
            exact b127 (5 : Int32) σ7 _ _ _ (lv_sub hl [0] rfl) hw hf
        · have hf := k_ifF h hf
          refine lv_iconst (v := (0 : Int32)) hx hb dX12_token_104 (by decide) ?_
          refine lv_goto (tgt := 127) hx hb dX12_token_105 (by decide) ?_
          exact b127 (0 : Int32) σ7 _ _ _ (lv_sub hl [0] rfl) hw hf
      · have hf := k_ifF h hf
        refine lv_aload_n hx hb dX12_token_74 rfl (lv_at hl 0 rfl) ?_
        refine lv_dup hx hb dX12_token_75 rfl ?_
        refine k_get C hw (LM_0 LM) (ci := 12) rfl k_in12 19 (by decide) lk12_151 (v := .int (σ3.1 0 19)) rfl dX12_token_76 ?_
        refine lv_iconst (v := (1 : Int32)) hx hb dX12_token_79 (by decide) ?_
        refine lv_iadd hx hb dX12_token_80 ?_
        refine k_put C hw (LM_0 LM) (ci := 12) rfl k_in12 tyX12 tyX12_ok nmX12 19 (by decide) lk12_151 rfl ⟨rfl, rfl⟩ rfl dX12_token_81 (fun σ8 eq H locs hw => ?_)
        have hf := k_nmE eq hf
        refine lv_goto (tgt := 64) hx hb dX12_token_84 (by decide) ?_
        exact ih64 σ8 _ _ _ (lv_sub hl [0] rfl) hw hf
  have b0 : ∀ (n0 : Nat) (σ : MSt) (H : Heap) (locs : List Loc) (ls : Array Slot), lv_has ls 2 [(0, .ref (ad 0))] → k_W G w A s.heap σ H locs → f_X12_token_b0 n0 σ = some σ' → W p l e rmX12_token s m [.ref (ad 0)].toArray below meth c H locs 0 0 (MQ below (k_Qv G w A σ') [.ref (ad 0)].toArray s 0 0 A) (F0 m 0 ls []) := by
    intro n0
    induction n0 with
    | zero =>
      intro σ H locs ls hl hw hf
      have hf : (none : Option MSt) = some σ' := hf
      cases hf
    | succ n0 ih0 =>
      have b18 : ∀ (σ : MSt) (H : Heap) (locs : List Loc) (ls : Array Slot), lv_has ls 2 [(0, .ref (ad 0))] → k_W G w A s.heap σ H locs → f_X12_token_b18 (f_X12_token_b0 n0) σ = some σ' → W p l e rmX12_token s m [.ref (ad 0)].toArray below meth c H locs 0 0 (MQ below (k_Qv G w A σ') [.ref (ad 0)].toArray s 0 0 A) (F0 m 18 ls []) := by
        intro σ H locs ls hl hw hf
        unfold f_X12_token_b18 at hf
        refine lv_aload_n hx hb dX12_token_18 rfl (lv_at hl 0 rfl) ?_
        refine lv_dup hx hb dX12_token_19 rfl ?_
        refine k_get C hw (LM_0 LM) (ci := 12) rfl k_in12 19 (by decide) lk12_151 (v := .int (σ.1 0 19)) rfl dX12_token_20 ?_
        refine lv_iconst (v := (1 : Int32)) hx hb dX12_token_23 (by decide) ?_
        refine lv_iadd hx hb dX12_token_24 ?_
        refine k_put C hw (LM_0 LM) (ci := 12) rfl k_in12 tyX12 tyX12_ok nmX12 19 (by decide) lk12_151 rfl ⟨rfl, rfl⟩ rfl dX12_token_25 (fun σ1 eq H locs hw => ?_)
        have hf := k_nmE eq hf
        refine lv_goto (tgt := 0) hx hb dX12_token_28 (by decide) ?_
        exact ih0 σ1 _ _ _ (lv_sub hl [0] rfl) hw hf
      intro σ H locs ls hl hw hf
      have hf : f_X12_token_b0_s (f_X12_token_b0 n0) σ = some σ' := hf
      unfold f_X12_token_b0_s at hf
      refine lv_aload_n hx hb dX12_token_0 rfl (lv_at hl 0 rfl) ?_
      obtain ⟨q2, σ1, hq, hf⟩ := k_bdE hf
      refine k_callVi C hw (c_X12_here l G Y w ad LM σ q2 σ1 hq) (cwV 0 hts gX12_token_X12_here rfl rfl rfl (by decide +kernel) ⟨Nat.le_of_ble_eq_true rfl, Nat.le_of_ble_eq_true rfl⟩) (k_recv C hw (LM_0 LM) rfl) rfl hl.1 rfl (Nat.le_of_ble_eq_true rfl) dX12_token_1 (fun H locs hw => ?_)
      refine lv_bipush (v := (10 : Int32)) hx hb dX12_token_4 (by decide) ?_
      refine lv_icmp_eq (tgt := 18) hx hb dX12_token_6 (by decide) (fun h => ?_) (fun h => ?_)
      · have hf := k_ifT h hf
        exact b18 σ1 _ _ _ (lv_sub hl [0] rfl) hw hf
      · have hf := k_ifF h hf
        refine lv_aload_n hx hb dX12_token_9 rfl (lv_at hl 0 rfl) ?_
        obtain ⟨q4, σ3, hq, hf⟩ := k_bdE hf
        refine k_callVi C hw (c_X12_here l G Y w ad LM σ1 q4 σ3 hq) (cwV 0 hts gX12_token_X12_here rfl rfl rfl (by decide +kernel) ⟨Nat.le_of_ble_eq_true rfl, Nat.le_of_ble_eq_true rfl⟩) (k_recv C hw (LM_0 LM) rfl) rfl hl.1 rfl (Nat.le_of_ble_eq_true rfl) dX12_token_10 (fun H locs hw => ?_)
        refine lv_bipush (v := (32 : Int32)) hx hb dX12_token_13 (by decide) ?_
        refine lv_icmp_ne (tgt := 31) hx hb dX12_token_15 (by decide) (fun h => ?_) (fun h => ?_)
        · have hf := k_ifF h hf
          refine lv_aload_n hx hb dX12_token_31 rfl (lv_at hl 0 rfl) ?_
          refine lv_aload_n hx hb dX12_token_32 rfl (lv_at hl 0 rfl) ?_
          refine k_get C hw (LM_0 LM) (ci := 12) rfl k_in12 19 (by decide) lk12_151 (v := .int (σ3.1 0 19)) rfl dX12_token_33 ?_
          refine k_put C hw (LM_0 LM) (ci := 12) rfl k_in12 tyX12 tyX12_ok nmX12 20 (by decide) lk12_161 rfl ⟨rfl, rfl⟩ rfl dX12_token_36 (fun σ5 eq H locs hw => ?_)
          have hf := k_nmE eq hf
          refine lv_aload_n hx hb dX12_token_39 rfl (lv_at hl 0 rfl) ?_
          obtain ⟨q7, σ6, hq, hf⟩ := k_bdE hf
          refine k_callVi C hw (c_X12_here l G Y w ad LM σ5 q7 σ6 hq) (cwV 0 hts gX12_token_X12_here rfl rfl rfl (by decide +kernel) ⟨Nat.le_of_ble_eq_true rfl, Nat.le_of_ble_eq_true rfl⟩) (k_recv C hw (LM_0 LM) rfl) rfl hl.1 rfl (Nat.le_of_ble_eq_true rfl) dX12_token_40 (fun H locs hw => ?_)
          refine lv_istore_n (lv' := [(1, .int q7), (0, .ref (ad 0))]) hx hb dX12_token_43 rfl hl (by decide) rfl (fun ls hl => ?_)
          refine lv_iload_n hx hb dX12_token_44 rfl (lv_at hl 0 rfl) ?_
          refine lv_iconst (v := (-1 : Int32)) hx hb dX12_token_45 (by decide) ?_
          refine lv_icmp_ne (tgt := 57) hx hb dX12_token_46 (by decide) (fun h => ?_) (fun h => ?_)
          · have hf := k_ifF h hf
            refine lv_iload_n hx hb dX12_token_57 rfl (lv_at hl 0 rfl) ?_
            obtain ⟨q9, σ8, hq, hf⟩ := k_bdE hf
            refine k_callSi C hw (c_X12_isSmall l G Y w ad LM q7 σ6 q9 σ8 hq) (va_cwS 1 hts gX12_token_X12_isSmall rfl rfl rfl (by decide +kernel) ⟨Nat.le_of_ble_eq_true rfl, Nat.le_of_ble_eq_true rfl⟩) rfl hl.1 rfl (Nat.le_of_ble_eq_true rfl) dX12_token_58 (fun H locs hw => ?_)
            refine lv_if_eq (tgt := 145) hx hb dX12_token_61 (by decide) (fun h => ?_) (fun h => ?_)
            · have hf := k_ifT h hf
              refine lv_iload_n hx hb dX12_token_145 rfl (lv_at hl 0 rfl) ?_
              obtain ⟨q11, σ10, hq, hf⟩ := k_bdE hf
              refine k_callSi C hw (c_X12_isDigit l G Y w ad LM q7 σ8 q11 σ10 hq) (va_cwS 1 hts gX12_token_X12_isDigit rfl rfl rfl (by decide +kernel) ⟨Nat.le_of_ble_eq_true rfl, Nat.le_of_ble_eq_true rfl⟩) rfl hl.1 rfl (Nat.le_of_ble_eq_true rfl) dX12_token_146 (fun H locs hw => ?_)
              refine lv_if_eq (tgt := 220) hx hb dX12_token_149 (by decide) (fun h => ?_) (fun h => ?_)
              · have hf := k_ifT h hf
                refine lv_aload_n hx hb dX12_token_220 rfl (lv_at hl 1 rfl) ?_
                refine lv_iload_n hx hb dX12_token_221 rfl (lv_at hl 0 rfl) ?_
                obtain ⟨σ12, hq, hf⟩ := k_bvE hf
                refine k_callVv C hw (c_X12_sign l G Y w ad LM q7 σ10 σ12 hq) (cwV 1 hts gX12_token_X12_sign rfl rfl rfl (by decide +kernel) ⟨Nat.le_of_ble_eq_true rfl, Nat.le_of_ble_eq_true rfl⟩) (k_recv C hw (LM_0 LM) rfl) rfl hl.1 rfl (Nat.le_of_ble_eq_true rfl) dX12_token_222 (fun H locs hw => ?_)
                exact b225 σ12 _ _ _ (lv_sub hl [] rfl) hw hf
              · have hf := k_ifF h hf
                refine lv_aload_n hx hb dX12_token_152 rfl (lv_at hl 1 rfl) ?_
                refine lv_iconst (v := (2 : Int32)) hx hb dX12_token_153 (by decide) ?_
                refine k_put C hw (LM_0 LM) (ci := 12) rfl k_in12 tyX12 tyX12_ok nmX12 21 (by decide) lk12_164 rfl ⟨rfl, rfl⟩ rfl dX12_token_154 (fun σ13 eq H locs hw => ?_)
                have hf := k_nmE eq hf
                refine lv_aload_n hx hb dX12_token_157 rfl (lv_at hl 1 rfl) ?_
                refine lv_iconst (v := (0 : Int32)) hx hb dX12_token_158 (by decide) ?_
                refine k_put C hw (LM_0 LM) (ci := 12) rfl k_in12 tyX12 tyX12_ok nmX12 22 (by decide) lk12_174 rfl ⟨rfl, rfl⟩ rfl dX12_token_159 (fun σ14 eq H locs hw => ?_)
                have hf := k_nmE eq hf
                exact b162 FU σ14 _ _ _ (lv_sub hl [1] rfl) hw hf
            · have hf := k_ifF h hf
              exact b64 FU σ8 _ _ _ (lv_sub hl [1] rfl) hw hf
          · have hf := k_ifT h hf
            refine lv_aload_n hx hb dX12_token_49 rfl (lv_at hl 1 rfl) ?_
            refine lv_iconst (v := (4 : Int32)) hx hb dX12_token_50 (by decide) ?_
            refine k_put C hw (LM_0 LM) (ci := 12) rfl k_in12 tyX12 tyX12_ok nmX12 21 (by decide) lk12_164 rfl ⟨rfl, rfl⟩ rfl dX12_token_51 (fun σ15 eq H locs hw => ?_)
            have hf := k_nmE eq hf
            refine lv_goto (tgt := 225) hx hb dX12_token_54 (by decide) ?_
            exact b225 σ15 _ _ _ (lv_sub hl [] rfl) hw hf
        · have hf := k_ifT h hf
          exact b18 σ3 _ _ _ (lv_sub hl [0] rfl) hw hf
  unfold f_X12_token at hf
  exact b0 FU σ _ _ _ (lv_sub hl [0] rfl) hw hf
def f_X12_wrong  (p1 : Int32) (σ : MSt) : Option MSt :=
  if (σ.1 0 23) = 0 then
  (k_nm (mI σ 0 23 p1) fun σ1 =>
  k_nm (mI σ1 0 24 (σ1.1 0 20)) fun σ2 =>
  some σ2)
  else
  (some σ)
def rmX12_wrong : Room := { frames := 0, cells := 0, slots := 0, locals := 0 }
set_option maxHeartbeats 4000000 in
set_option maxRecDepth 100000 in
theorem c_X12_wrong (l : Launch) (G : va_G) (Y : CY) (w : MSt → va_W) (ad : Nat → Nat)  (LM : LayM ad w Y) (p1 : Int32) (σ : MSt) (σ' : MSt) (hf : f_X12_wrong p1 σ = some σ') : k_Mv l yX12_wrong wsX12_wrong rmX12_wrong G Y w [.ref (ad 0), .int p1] σ σ' := by
  refine k_ofv (own := RX12) (cc := cX12_wrong) (maxL := 2) none (by decide) rfl rfl (Nat.le_of_ble_eq_true rfl) ?_
  intro p e s m below meth c A C ls hl hw
  have hx := C.1
  have hb := C.2.1
  have hown := C.2.2.2.2.1
  have hts := C.2.2.2.2.2.1
  have hks := C.2.2.2.2.2.2.1
  have hl : lv_has ls 2 [(0, .ref (ad 0)), (1, .int p1)] := hl
  unfold f_X12_wrong at hf
  refine lv_aload_n hx hb dX12_wrong_0 rfl (lv_at hl 0 rfl) ?_
  refine k_get C hw (LM_0 LM) (ci := 12) rfl k_in12 23 (by decide) lk12_199 (v := .int (σ.1 0 23)) rfl dX12_wrong_1 ?_
  refine lv_if_eq (tgt := 8) hx hb dX12_wrong_4 (by decide) (fun h => ?_) (fun h => ?_)
  · have hf := k_ifT h hf
    refine lv_aload_n hx hb dX12_wrong_8 rfl (lv_at hl 0 rfl) ?_
    refine lv_iload_n hx hb dX12_wrong_9 rfl (lv_at hl 1 rfl) ?_
    refine k_put C hw (LM_0 LM) (ci := 12) rfl k_in12 tyX12 tyX12_ok nmX12 23 (by decide) lk12_199 rfl ⟨rfl, rfl⟩ rfl dX12_wrong_10 (fun σ1 eq H locs hw => ?_)
    have hf := k_nmE eq hf
    refine lv_aload_n hx hb dX12_wrong_13 rfl (lv_at hl 0 rfl) ?_
    refine lv_aload_n hx hb dX12_wrong_14 rfl (lv_at hl 0 rfl) ?_
    refine k_get C hw (LM_0 LM) (ci := 12) rfl k_in12 20 (by decide) lk12_161 (v := .int (σ1.1 0 20)) rfl dX12_wrong_15 ?_
    refine k_put C hw (LM_0 LM) (ci := 12) rfl k_in12 tyX12 tyX12_ok nmX12 24 (by decide) lk12_202 rfl ⟨rfl, rfl⟩ rfl dX12_wrong_18 (fun σ2 eq H locs hw => ?_)
    have hf := k_nmE eq hf
    exact k_vret C hw hf dX12_wrong_21
  · have hf := k_ifF h hf
    exact k_vret C hw hf dX12_wrong_7
def f_X12_isWord_b27  (y0 : Int32) (σ : MSt) : Option (Int32 × MSt) :=
  k_ck (k_bo y0) <|
  some (y0, σ)
def f_X12_isWord_b26   (σ : MSt) : Option (Int32 × MSt) :=
  f_X12_isWord_b27 (0 : Int32) σ
def f_X12_isWord  (p1 : Int32) (σ : MSt) : Option (Int32 × MSt) :=
  if (σ.1 0 23) = 0 then
  (if (σ.1 0 21) = 0 then
  (if (σ.1 0 22) = p1 then
  (f_X12_isWord_b27 (1 : Int32) σ)
  else
  (f_X12_isWord_b26 σ))
  else
  (f_X12_isWord_b26 σ))
  else
  (f_X12_isWord_b26 σ)
def rmX12_isWord : Room := { frames := 0, cells := 0, slots := 0, locals := 0 }
set_option maxHeartbeats 4000000 in
set_option maxRecDepth 100000 in
theorem c_X12_isWord (l : Launch) (G : va_G) (Y : CY) (w : MSt → va_W) (ad : Nat → Nat)  (LM : LayM ad w Y) (p1 : Int32) (σ : MSt) (r : Int32) (σ' : MSt) (hf : f_X12_isWord p1 σ = some (r, σ')) : k_Mi l yX12_isWord wsX12_isWord rmX12_isWord G Y w [.ref (ad 0), .int p1] σ r σ' := by
  refine k_ofi (own := RX12) (cc := cX12_isWord) (maxL := 2) (some .boolean) (by decide) rfl rfl (Nat.le_of_ble_eq_true rfl) ?_
  intro p e s m below meth c A C ls hl hw
  have hx := C.1
  have hb := C.2.1
  have hown := C.2.2.2.2.1
  have hts := C.2.2.2.2.2.1
  have hks := C.2.2.2.2.2.2.1
  have hl : lv_has ls 2 [(0, .ref (ad 0)), (1, .int p1)] := hl
  have b27 : ∀ (y0 : Int32) (σ : MSt) (H : Heap) (locs : List Loc) (ls : Array Slot), lv_has ls 2 [] → k_W G w A s.heap σ H locs → f_X12_isWord_b27 y0 σ = some (r, σ') → W p l e rmX12_isWord s m [.ref (ad 0), .int p1].toArray below meth c H locs 0 0 (MQ below (k_Qi G w A r σ') [.ref (ad 0), .int p1].toArray s 0 0 A) (F0 m 27 ls [.int y0]) := by
    intro y0 σ H locs ls hl hw hf
    unfold f_X12_isWord_b27 at hf
    obtain ⟨hz, hf⟩ := k_ckE hf
    exact k_zret C hw (k_boE hz).1 hf dX12_isWord_27
  have b26 : ∀ (σ : MSt) (H : Heap) (locs : List Loc) (ls : Array Slot), lv_has ls 2 [] → k_W G w A s.heap σ H locs → f_X12_isWord_b26 σ = some (r, σ') → W p l e rmX12_isWord s m [.ref (ad 0), .int p1].toArray below meth c H locs 0 0 (MQ below (k_Qi G w A r σ') [.ref (ad 0), .int p1].toArray s 0 0 A) (F0 m 26 ls []) := by
    intro σ H locs ls hl hw hf
    unfold f_X12_isWord_b26 at hf
    refine lv_iconst (v := (0 : Int32)) hx hb dX12_isWord_26 (by decide) ?_
    exact b27 (0 : Int32) σ _ _ _ (lv_sub hl [] rfl) hw hf
  unfold f_X12_isWord at hf
  refine lv_aload_n hx hb dX12_isWord_0 rfl (lv_at hl 0 rfl) ?_
  refine k_get C hw (LM_0 LM) (ci := 12) rfl k_in12 23 (by decide) lk12_199 (v := .int (σ.1 0 23)) rfl dX12_isWord_1 ?_
  refine lv_if_ne (tgt := 26) hx hb dX12_isWord_4 (by decide) (fun h => ?_) (fun h => ?_)
  · have hf := k_ifF h hf
    exact b26 σ _ _ _ (lv_sub hl [] rfl) hw hf
  · have hf := k_ifT h hf
    refine lv_aload_n hx hb dX12_isWord_7 rfl (lv_at hl 0 rfl) ?_
    refine k_get C hw (LM_0 LM) (ci := 12) rfl k_in12 21 (by decide) lk12_164 (v := .int (σ.1 0 21)) rfl dX12_isWord_8 ?_
    refine lv_if_ne (tgt := 26) hx hb dX12_isWord_11 (by decide) (fun h => ?_) (fun h => ?_)
    · have hf := k_ifF h hf
      exact b26 σ _ _ _ (lv_sub hl [] rfl) hw hf
    · have hf := k_ifT h hf
      refine lv_aload_n hx hb dX12_isWord_14 rfl (lv_at hl 0 rfl) ?_
      refine k_get C hw (LM_0 LM) (ci := 12) rfl k_in12 22 (by decide) lk12_174 (v := .int (σ.1 0 22)) rfl dX12_isWord_15 ?_
      refine lv_iload_n hx hb dX12_isWord_18 rfl (lv_at hl 1 rfl) ?_
      refine lv_icmp_ne (tgt := 26) hx hb dX12_isWord_19 (by decide) (fun h => ?_) (fun h => ?_)
      · have hf := k_ifF h hf
        exact b26 σ _ _ _ (lv_sub hl [] rfl) hw hf
      · have hf := k_ifT h hf
        refine lv_iconst (v := (1 : Int32)) hx hb dX12_isWord_22 (by decide) ?_
        refine lv_goto (tgt := 27) hx hb dX12_isWord_23 (by decide) ?_
        exact b27 (1 : Int32) σ _ _ _ (lv_sub hl [] rfl) hw hf
def f_X12_isSign_b28  (y0 : Int32) (σ : MSt) : Option (Int32 × MSt) :=
  k_ck (k_bo y0) <|
  some (y0, σ)
def f_X12_isSign_b27   (σ : MSt) : Option (Int32 × MSt) :=
  f_X12_isSign_b28 (0 : Int32) σ
def f_X12_isSign  (p1 : Int32) (σ : MSt) : Option (Int32 × MSt) :=
  if (σ.1 0 23) = 0 then
  (if (σ.1 0 21) = (3 : Int32) then
  (if (σ.1 0 22) = p1 then
  (f_X12_isSign_b28 (1 : Int32) σ)
  else
  (f_X12_isSign_b27 σ))
  else
  (f_X12_isSign_b27 σ))
  else
  (f_X12_isSign_b27 σ)
def rmX12_isSign : Room := { frames := 0, cells := 0, slots := 0, locals := 0 }
set_option maxHeartbeats 4000000 in
set_option maxRecDepth 100000 in
theorem c_X12_isSign (l : Launch) (G : va_G) (Y : CY) (w : MSt → va_W) (ad : Nat → Nat)  (LM : LayM ad w Y) (p1 : Int32) (σ : MSt) (r : Int32) (σ' : MSt) (hf : f_X12_isSign p1 σ = some (r, σ')) : k_Mi l yX12_isSign wsX12_isSign rmX12_isSign G Y w [.ref (ad 0), .int p1] σ r σ' := by
  refine k_ofi (own := RX12) (cc := cX12_isSign) (maxL := 2) (some .boolean) (by decide) rfl rfl (Nat.le_of_ble_eq_true rfl) ?_
  intro p e s m below meth c A C ls hl hw
  have hx := C.1
  have hb := C.2.1
  have hown := C.2.2.2.2.1
  have hts := C.2.2.2.2.2.1
  have hks := C.2.2.2.2.2.2.1
  have hl : lv_has ls 2 [(0, .ref (ad 0)), (1, .int p1)] := hl
  have b28 : ∀ (y0 : Int32) (σ : MSt) (H : Heap) (locs : List Loc) (ls : Array Slot), lv_has ls 2 [] → k_W G w A s.heap σ H locs → f_X12_isSign_b28 y0 σ = some (r, σ') → W p l e rmX12_isSign s m [.ref (ad 0), .int p1].toArray below meth c H locs 0 0 (MQ below (k_Qi G w A r σ') [.ref (ad 0), .int p1].toArray s 0 0 A) (F0 m 28 ls [.int y0]) := by
    intro y0 σ H locs ls hl hw hf
    unfold f_X12_isSign_b28 at hf
    obtain ⟨hz, hf⟩ := k_ckE hf
    exact k_zret C hw (k_boE hz).1 hf dX12_isSign_28
  have b27 : ∀ (σ : MSt) (H : Heap) (locs : List Loc) (ls : Array Slot), lv_has ls 2 [] → k_W G w A s.heap σ H locs → f_X12_isSign_b27 σ = some (r, σ') → W p l e rmX12_isSign s m [.ref (ad 0), .int p1].toArray below meth c H locs 0 0 (MQ below (k_Qi G w A r σ') [.ref (ad 0), .int p1].toArray s 0 0 A) (F0 m 27 ls []) := by
    intro σ H locs ls hl hw hf
    unfold f_X12_isSign_b27 at hf
    refine lv_iconst (v := (0 : Int32)) hx hb dX12_isSign_27 (by decide) ?_
    exact b28 (0 : Int32) σ _ _ _ (lv_sub hl [] rfl) hw hf
  unfold f_X12_isSign at hf
  refine lv_aload_n hx hb dX12_isSign_0 rfl (lv_at hl 0 rfl) ?_
  refine k_get C hw (LM_0 LM) (ci := 12) rfl k_in12 23 (by decide) lk12_199 (v := .int (σ.1 0 23)) rfl dX12_isSign_1 ?_
  refine lv_if_ne (tgt := 27) hx hb dX12_isSign_4 (by decide) (fun h => ?_) (fun h => ?_)
  · have hf := k_ifF h hf
    exact b27 σ _ _ _ (lv_sub hl [] rfl) hw hf
  · have hf := k_ifT h hf
    refine lv_aload_n hx hb dX12_isSign_7 rfl (lv_at hl 0 rfl) ?_
    refine k_get C hw (LM_0 LM) (ci := 12) rfl k_in12 21 (by decide) lk12_164 (v := .int (σ.1 0 21)) rfl dX12_isSign_8 ?_
    refine lv_iconst (v := (3 : Int32)) hx hb dX12_isSign_11 (by decide) ?_
    refine lv_icmp_ne (tgt := 27) hx hb dX12_isSign_12 (by decide) (fun h => ?_) (fun h => ?_)
    · have hf := k_ifF h hf
      exact b27 σ _ _ _ (lv_sub hl [] rfl) hw hf
    · have hf := k_ifT h hf
      refine lv_aload_n hx hb dX12_isSign_15 rfl (lv_at hl 0 rfl) ?_
      refine k_get C hw (LM_0 LM) (ci := 12) rfl k_in12 22 (by decide) lk12_174 (v := .int (σ.1 0 22)) rfl dX12_isSign_16 ?_
      refine lv_iload_n hx hb dX12_isSign_19 rfl (lv_at hl 1 rfl) ?_
      refine lv_icmp_ne (tgt := 27) hx hb dX12_isSign_20 (by decide) (fun h => ?_) (fun h => ?_)
      · have hf := k_ifF h hf
        exact b27 σ _ _ _ (lv_sub hl [] rfl) hw hf
      · have hf := k_ifT h hf
        refine lv_iconst (v := (1 : Int32)) hx hb dX12_isSign_23 (by decide) ?_
        refine lv_goto (tgt := 28) hx hb dX12_isSign_24 (by decide) ?_
        exact b28 (1 : Int32) σ _ _ _ (lv_sub hl [] rfl) hw hf
def f_X12_goOn_b11   (σ : MSt) : Option MSt :=
  some σ
def f_X12_goOn   (σ : MSt) : Option MSt :=
  if (σ.1 0 23) = 0 then
  (k_bv (f_X12_token σ) fun σ1 =>
  f_X12_goOn_b11 σ1)
  else
  (f_X12_goOn_b11 σ)
def rmX12_goOn : Room := { frames := 6, cells := 0, slots := 0, locals := 129 }
set_option maxHeartbeats 4000000 in
set_option maxRecDepth 100000 in
theorem c_X12_goOn (l : Launch) (G : va_G) (Y : CY) (w : MSt → va_W) (ad : Nat → Nat)  (LM : LayM ad w Y)  (σ : MSt) (σ' : MSt) (hf : f_X12_goOn σ = some σ') : k_Mv l yX12_goOn wsX12_goOn rmX12_goOn G Y w [.ref (ad 0)] σ σ' := by
  refine k_ofv (own := RX12) (cc := cX12_goOn) (maxL := 1) none (by decide) rfl rfl (Nat.le_of_ble_eq_true rfl) ?_
  intro p e s m below meth c A C ls hl hw
  have hx := C.1
  have hb := C.2.1
  have hown := C.2.2.2.2.1
  have hts := C.2.2.2.2.2.1
  have hks := C.2.2.2.2.2.2.1
  have hl : lv_has ls 1 [(0, .ref (ad 0))] := hl
  have b11 : ∀ (σ : MSt) (H : Heap) (locs : List Loc) (ls : Array Slot), lv_has ls 1 [] → k_W G w A s.heap σ H locs → f_X12_goOn_b11 σ = some σ' → W p l e rmX12_goOn s m [.ref (ad 0)].toArray below meth c H locs 0 0 (MQ below (k_Qv G w A σ') [.ref (ad 0)].toArray s 0 0 A) (F0 m 11 ls []) := by
    intro σ H locs ls hl hw hf
    unfold f_X12_goOn_b11 at hf
    exact k_vret C hw hf dX12_goOn_11
  unfold f_X12_goOn at hf
  refine lv_aload_n hx hb dX12_goOn_0 rfl (lv_at hl 0 rfl) ?_
  refine k_get C hw (LM_0 LM) (ci := 12) rfl k_in12 23 (by decide) lk12_199 (v := .int (σ.1 0 23)) rfl dX12_goOn_1 ?_
  refine lv_if_ne (tgt := 11) hx hb dX12_goOn_4 (by decide) (fun h => ?_) (fun h => ?_)
  · have hf := k_ifF h hf
    exact b11 σ _ _ _ (lv_sub hl [] rfl) hw hf
  · have hf := k_ifT h hf
    refine lv_aload_n hx hb dX12_goOn_7 rfl (lv_at hl 0 rfl) ?_
    obtain ⟨σ1, hq, hf⟩ := k_bvE hf
    refine k_callVv C hw (c_X12_token l G Y w ad LM σ σ1 hq) (cwV 0 hts gX12_goOn_X12_token rfl rfl rfl (by decide +kernel) ⟨Nat.le_of_ble_eq_true rfl, Nat.le_of_ble_eq_true rfl⟩) (k_recv C hw (LM_0 LM) rfl) rfl hl.1 rfl (Nat.le_of_ble_eq_true rfl) dX12_goOn_8 (fun H locs hw => ?_)
    exact b11 σ1 _ _ _ (lv_sub hl [] rfl) hw hf
def f_X12_numeral_b46  (x1 : Int32) (σ : MSt) : Option (Int32 × MSt) :=
  if (σ.1 0 23) = 0 then
  (k_nm (σ.1 0 22) fun u1 =>
  k_bv (f_X12_token σ) fun σ2 =>
  some (u1, σ2))
  else
  (some (x1, σ))
def f_X12_numeral_b41  (x1 : Int32) (σ : MSt) : Option (Int32 × MSt) :=
  k_bv (f_X12_wrong (2 : Int32) σ) fun σ1 =>
  f_X12_numeral_b46 x1 σ1
def f_X12_numeral  (p1 : Int32) (p2 : Int32) (σ : MSt) : Option (Int32 × MSt) :=
  if (σ.1 0 23) = 0 then
  (if (σ.1 0 21) = (2 : Int32) then
  (if (σ.1 0 22) < p1 then
  (f_X12_numeral_b41 p1 σ)
  else
  (if (σ.1 0 22) ≤ p2 then
  (f_X12_numeral_b46 p1 σ)
  else
  (f_X12_numeral_b41 p1 σ)))
  else
  (k_bv (f_X12_wrong (1 : Int32) σ) fun σ2 =>
  f_X12_numeral_b46 p1 σ2))
  else
  (some (p1, σ))
def rmX12_numeral : Room := { frames := 6, cells := 0, slots := 0, locals := 129 }
set_option maxHeartbeats 4000000 in
set_option maxRecDepth 100000 in
theorem c_X12_numeral (l : Launch) (G : va_G) (Y : CY) (w : MSt → va_W) (ad : Nat → Nat)  (LM : LayM ad w Y) (p1 : Int32) (p2 : Int32) (σ : MSt) (r : Int32) (σ' : MSt) (hf : f_X12_numeral p1 p2 σ = some (r, σ')) : k_Mi l yX12_numeral wsX12_numeral rmX12_numeral G Y w [.ref (ad 0), .int p1, .int p2] σ r σ' := by
  refine k_ofi (own := RX12) (cc := cX12_numeral) (maxL := 4) (some .int) (by decide) rfl rfl (Nat.le_of_ble_eq_true rfl) ?_
  intro p e s m below meth c A C ls hl hw
  have hx := C.1
  have hb := C.2.1
  have hown := C.2.2.2.2.1
  have hts := C.2.2.2.2.2.1
  have hks := C.2.2.2.2.2.2.1
  have hl : lv_has ls 4 [(0, .ref (ad 0)), (1, .int p1), (2, .int p2)] := hl
  have b46 : ∀ (x1 : Int32) (σ : MSt) (H : Heap) (locs : List Loc) (ls : Array Slot), lv_has ls 4 [(0, .ref (ad 0)), (1, .int x1)] → k_W G w A s.heap σ H locs → f_X12_numeral_b46 x1 σ = some (r, σ') → W p l e rmX12_numeral s m [.ref (ad 0), .int p1, .int p2].toArray below meth c H locs 0 0 (MQ below (k_Qi G w A r σ') [.ref (ad 0), .int p1, .int p2].toArray s 0 0 A) (F0 m 46 ls []) := by
    intro x1 σ H locs ls hl hw hf
    unfold f_X12_numeral_b46 at hf
    refine lv_aload_n hx hb dX12_numeral_46 rfl (lv_at hl 0 rfl) ?_
    refine k_get C hw (LM_0 LM) (ci := 12) rfl k_in12 23 (by decide) lk12_199 (v := .int (σ.1 0 23)) rfl dX12_numeral_47 ?_
    refine lv_if_eq (tgt := 55) hx hb dX12_numeral_50 (by decide) (fun h => ?_) (fun h => ?_)
    · have hf := k_ifT h hf
      refine lv_aload_n hx hb dX12_numeral_55 rfl (lv_at hl 0 rfl) ?_
      refine k_get C hw (LM_0 LM) (ci := 12) rfl k_in12 22 (by decide) lk12_174 (v := .int (σ.1 0 22)) rfl dX12_numeral_56 ?_
      refine lv_topi (fun u1 ex => ?_)
      have hf := k_nmE ex hf
      refine lv_istore_n (lv' := [(3, .int u1), (0, .ref (ad 0)), (1, .int x1)]) hx hb dX12_numeral_59 rfl hl (by decide) rfl (fun ls hl => ?_)
      refine lv_aload_n hx hb dX12_numeral_60 rfl (lv_at hl 1 rfl) ?_
      obtain ⟨σ2, hq, hf⟩ := k_bvE hf
      refine k_callVv C hw (c_X12_token l G Y w ad LM σ σ2 hq) (cwV 0 hts gX12_numeral_X12_token rfl rfl rfl (by decide +kernel) ⟨Nat.le_of_ble_eq_true rfl, Nat.le_of_ble_eq_true rfl⟩) (k_recv C hw (LM_0 LM) rfl) rfl hl.1 rfl (Nat.le_of_ble_eq_true rfl) dX12_numeral_61 (fun H locs hw => ?_)
      refine lv_iload_n hx hb dX12_numeral_64 rfl (lv_at hl 0 rfl) ?_
      exact k_iret C hw hf dX12_numeral_65
    · have hf := k_ifF h hf
      refine lv_iload_n hx hb dX12_numeral_53 rfl (lv_at hl 1 rfl) ?_
      exact k_iret C hw hf dX12_numeral_54
  have b41 : ∀ (x1 : Int32) (σ : MSt) (H : Heap) (locs : List Loc) (ls : Array Slot), lv_has ls 4 [(0, .ref (ad 0)), (1, .int x1)] → k_W G w A s.heap σ H locs → f_X12_numeral_b41 x1 σ = some (r, σ') → W p l e rmX12_numeral s m [.ref (ad 0), .int p1, .int p2].toArray below meth c H locs 0 0 (MQ below (k_Qi G w A r σ') [.ref (ad 0), .int p1, .int p2].toArray s 0 0 A) (F0 m 41 ls []) := by
    intro x1 σ H locs ls hl hw hf
    unfold f_X12_numeral_b41 at hf
    refine lv_aload_n hx hb dX12_numeral_41 rfl (lv_at hl 0 rfl) ?_
    refine lv_iconst (v := (2 : Int32)) hx hb dX12_numeral_42 (by decide) ?_
    obtain ⟨σ1, hq, hf⟩ := k_bvE hf
    refine k_callVv C hw (c_X12_wrong l G Y w ad LM (2 : Int32) σ σ1 hq) (cwV 1 hts gX12_numeral_X12_wrong rfl rfl rfl (by decide +kernel) ⟨Nat.le_of_ble_eq_true rfl, Nat.le_of_ble_eq_true rfl⟩) (k_recv C hw (LM_0 LM) rfl) rfl hl.1 rfl (Nat.le_of_ble_eq_true rfl) dX12_numeral_43 (fun H locs hw => ?_)
    exact b46 x1 σ1 _ _ _ (lv_sub hl [0, 1] rfl) hw hf
  unfold f_X12_numeral at hf
  refine lv_aload_n hx hb dX12_numeral_0 rfl (lv_at hl 0 rfl) ?_
  refine k_get C hw (LM_0 LM) (ci := 12) rfl k_in12 23 (by decide) lk12_199 (v := .int (σ.1 0 23)) rfl dX12_numeral_1 ?_
  refine lv_if_eq (tgt := 9) hx hb dX12_numeral_4 (by decide) (fun h => ?_) (fun h => ?_)
  · have hf := k_ifT h hf
    refine lv_aload_n hx hb dX12_numeral_9 rfl (lv_at hl 0 rfl) ?_
    refine k_get C hw (LM_0 LM) (ci := 12) rfl k_in12 21 (by decide) lk12_164 (v := .int (σ.1 0 21)) rfl dX12_numeral_10 ?_
    refine lv_iconst (v := (2 : Int32)) hx hb dX12_numeral_13 (by decide) ?_
    refine lv_icmp_eq (tgt := 25) hx hb dX12_numeral_14 (by decide) (fun h => ?_) (fun h => ?_)
    · have hf := k_ifT h hf
      refine lv_aload_n hx hb dX12_numeral_25 rfl (lv_at hl 0 rfl) ?_
      refine k_get C hw (LM_0 LM) (ci := 12) rfl k_in12 22 (by decide) lk12_174 (v := .int (σ.1 0 22)) rfl dX12_numeral_26 ?_
      refine lv_iload_n hx hb dX12_numeral_29 rfl (lv_at hl 1 rfl) ?_
      refine lv_icmp_lt (tgt := 41) hx hb dX12_numeral_30 (by decide) (fun h => ?_) (fun h => ?_)
      · have hf := k_ifT h hf
        exact b41 p1 σ _ _ _ (lv_sub hl [0, 1] rfl) hw hf
      · have hf := k_ifF h hf
        refine lv_aload_n hx hb dX12_numeral_33 rfl (lv_at hl 0 rfl) ?_
        refine k_get C hw (LM_0 LM) (ci := 12) rfl k_in12 22 (by decide) lk12_174 (v := .int (σ.1 0 22)) rfl dX12_numeral_34 ?_
        refine lv_iload_n hx hb dX12_numeral_37 rfl (lv_at hl 2 rfl) ?_
        refine lv_icmp_le (tgt := 46) hx hb dX12_numeral_38 (by decide) (fun h => ?_) (fun h => ?_)
        · have hf := k_ifT h hf
          exact b46 p1 σ _ _ _ (lv_sub hl [0, 1] rfl) hw hf
        · have hf := k_ifF h hf
          exact b41 p1 σ _ _ _ (lv_sub hl [0, 1] rfl) hw hf
    · have hf := k_ifF h hf
      refine lv_aload_n hx hb dX12_numeral_17 rfl (lv_at hl 0 rfl) ?_
      refine lv_iconst (v := (1 : Int32)) hx hb dX12_numeral_18 (by decide) ?_
      obtain ⟨σ2, hq, hf⟩ := k_bvE hf
      refine k_callVv C hw (c_X12_wrong l G Y w ad LM (1 : Int32) σ σ2 hq) (cwV 1 hts gX12_numeral_X12_wrong rfl rfl rfl (by decide +kernel) ⟨Nat.le_of_ble_eq_true rfl, Nat.le_of_ble_eq_true rfl⟩) (k_recv C hw (LM_0 LM) rfl) rfl hl.1 rfl (Nat.le_of_ble_eq_true rfl) dX12_numeral_19 (fun H locs hw => ?_)
      refine lv_goto (tgt := 46) hx hb dX12_numeral_22 (by decide) ?_
      exact b46 p1 σ2 _ _ _ (lv_sub hl [0, 1] rfl) hw hf
  · have hf := k_ifF h hf
    refine lv_iload_n hx hb dX12_numeral_7 rfl (lv_at hl 1 rfl) ?_
    exact k_iret C hw hf dX12_numeral_8
def f_X12_found_b3_s (a1 : Nat) (n1 : Nat) (r3 : Int32 → Int32 → Int32 → Int32 → MSt → Option (Int32 × MSt)) (x1 : Int32) (x2 : Int32) (x3 : Int32) (x4 : Int32) (σ : MSt) : Option (Int32 × MSt) :=
  if x2 ≤ x4 then
  (some ((-1 : Int32), σ))
  else
  (k_ck (k_inb (x1 + x4) n1) <|
  if (σ.1 a1 ((x1 + x4)).toNatClampNeg) = x3 then
  (some (x4, σ))
  else
  (k_nm (x4 + (1 : Int32)) fun u1 =>
  r3 x1 x2 x3 u1 σ))
def f_X12_found_b3 (a1 : Nat) (n1 : Nat) : Nat → Int32 → Int32 → Int32 → Int32 → MSt → Option (Int32 × MSt)
  | 0 => fun _ _ _ _ _ => none
  | n + 1 => f_X12_found_b3_s a1 n1 (f_X12_found_b3 a1 n1 n)
def f_X12_found (a1 : Nat) (n1 : Nat) (p2 : Int32) (p3 : Int32) (p4 : Int32) (σ : MSt) : Option (Int32 × MSt) :=
  f_X12_found_b3 a1 n1 FU p2 p3 p4 (0 : Int32) σ
def rmX12_found : Room := { frames := 0, cells := 0, slots := 0, locals := 0 }
set_option maxHeartbeats 4000000 in
set_option maxRecDepth 100000 in
theorem c_X12_found (l : Launch) (G : va_G) (Y : CY) (w : MSt → va_W) (ad : Nat → Nat) (a1 : Nat) (n1 : Nat) (LM : LayM ad w Y) (H1 : HA ad w a1 Y.2.1 n1) (p2 : Int32) (p3 : Int32) (p4 : Int32) (σ : MSt) (r : Int32) (σ' : MSt) (hf : f_X12_found a1 n1 p2 p3 p4 σ = some (r, σ')) : k_Mi l yX12_found wsX12_found rmX12_found G Y w [.ref (ad a1), .int p2, .int p3, .int p4] σ r σ' := by
  refine k_ofi (own := RX12) (cc := cX12_found) (maxL := 5) (some .int) (by decide) rfl rfl (Nat.le_of_ble_eq_true rfl) ?_
  intro p e s m below meth c A C ls hl hw
  have hx := C.1
  have hb := C.2.1
  have hown := C.2.2.2.2.1
  have hts := C.2.2.2.2.2.1
  have hks := C.2.2.2.2.2.2.1
  have hl : lv_has ls 5 [(0, .ref (ad a1)), (1, .int p2), (2, .int p3), (3, .int p4)] := hl
  have b3 : ∀ (n3 : Nat) (x1 : Int32) (x2 : Int32) (x3 : Int32) (x4 : Int32) (σ : MSt) (H : Heap) (locs : List Loc) (ls : Array Slot), lv_has ls 5 [(0, .ref (ad a1)), (1, .int x1), (2, .int x2), (3, .int x3), (4, .int x4)] → k_W G w A s.heap σ H locs → f_X12_found_b3 a1 n1 n3 x1 x2 x3 x4 σ = some (r, σ') → W p l e rmX12_found s m [.ref (ad a1), .int p2, .int p3, .int p4].toArray below meth c H locs 0 0 (MQ below (k_Qi G w A r σ') [.ref (ad a1), .int p2, .int p3, .int p4].toArray s 0 0 A) (F0 m 3 ls []) := by
    intro n3
    induction n3 with
    | zero =>
      intro x1 x2 x3 x4 σ H locs ls hl hw hf
      have hf : (none : Option (Int32 × MSt)) = some (r, σ') := hf
      cases hf
    | succ n3 ih3 =>
      intro x1 x2 x3 x4 σ H locs ls hl hw hf
      have hf : f_X12_found_b3_s a1 n1 (f_X12_found_b3 a1 n1 n3) x1 x2 x3 x4 σ = some (r, σ') := hf
      unfold f_X12_found_b3_s at hf
      refine lv_iload hx hb dX12_found_3 (lv_at hl 4 rfl) ?_
      refine lv_iload_n hx hb dX12_found_5 rfl (lv_at hl 2 rfl) ?_
      refine lv_icmp_ge (tgt := 28) hx hb dX12_found_6 (by decide) (fun h => ?_) (fun h => ?_)
      · have hf := k_ifT h hf
        refine lv_iconst (v := (-1 : Int32)) hx hb dX12_found_28 (by decide) ?_
        exact k_iret C hw hf dX12_found_29
      · have hf := k_ifF h hf
        refine lv_aload_n hx hb dX12_found_9 rfl (lv_at hl 0 rfl) ?_
        refine lv_iload_n hx hb dX12_found_10 rfl (lv_at hl 1 rfl) ?_
        refine lv_iload hx hb dX12_found_11 (lv_at hl 4 rfl) ?_
        refine lv_iadd hx hb dX12_found_13 ?_
        obtain ⟨hi, hf⟩ := k_ckE hf
        refine k_iald C hw H1 hi dX12_found_14 ?_
        refine lv_iload_n hx hb dX12_found_15 rfl (lv_at hl 3 rfl) ?_
        refine lv_icmp_ne (tgt := 22) hx hb dX12_found_16 (by decide) (fun h => ?_) (fun h => ?_)
        · have hf := k_ifF h hf
          obtain ⟨u1, ex⟩ : ∃ y : Int32, y = (x4 + (1 : Int32)) := ⟨_, rfl⟩
          have hf := k_nmE ex hf
          refine lv_iinc (v := u1) (lv' := [(4, .int u1), (0, .ref (ad a1)), (1, .int x1), (2, .int x2), (3, .int x3)]) hx hb dX12_found_22 hl (k := 4) rfl (by rw [ex]; rfl) (by decide) rfl (fun ls hl => ?_)
          refine lv_goto (tgt := 3) hx hb dX12_found_25 (by decide) ?_
          exact ih3 x1 x2 x3 u1 σ _ _ _ (lv_sub hl [1, 2, 3, 4, 0] rfl) hw hf
        · have hf := k_ifT h hf
          refine lv_iload hx hb dX12_found_19 (lv_at hl 4 rfl) ?_
          exact k_iret C hw hf dX12_found_21
  unfold f_X12_found at hf
  refine lv_iconst (v := (0 : Int32)) hx hb dX12_found_0 (by decide) ?_
  refine lv_istore (lv' := [(4, .int (0 : Int32)), (0, .ref (ad a1)), (1, .int p2), (2, .int p3), (3, .int p4)]) hx hb dX12_found_1 hl (by decide) rfl (fun ls hl => ?_)
  exact b3 FU p2 p3 p4 (0 : Int32) σ _ _ _ (lv_sub hl [1, 2, 3, 4, 0] rfl) hw hf
def f_X12_fresh_b44 (a1 : Nat) (n1 : Nat)  (σ : MSt) : Option (Int32 × MSt) :=
  if (σ.1 0 23) = 0 then
  (k_nm (σ.1 0 22) fun u1 =>
  k_bv (f_X12_token σ) fun σ2 =>
  some (u1, σ2))
  else
  (some ((0 : Int32), σ))
def f_X12_fresh (a1 : Nat) (n1 : Nat) (p2 : Int32) (p3 : Int32) (σ : MSt) : Option (Int32 × MSt) :=
  if (σ.1 0 23) = 0 then
  (if (σ.1 0 21) = (1 : Int32) then
  (k_bd (f_X12_found a1 n1 p2 p3 (σ.1 0 22) σ) fun q4 σ3 =>
  if q4 = (-1 : Int32) then
  (f_X12_fresh_b44 a1 n1 σ3)
  else
  (k_bv (f_X12_wrong (3 : Int32) σ3) fun σ5 =>
  f_X12_fresh_b44 a1 n1 σ5))
  else
  (k_bv (f_X12_wrong (1 : Int32) σ) fun σ6 =>
  f_X12_fresh_b44 a1 n1 σ6))
  else
  (some ((0 : Int32), σ))
def rmX12_fresh : Room := { frames := 6, cells := 0, slots := 0, locals := 129 }
set_option maxHeartbeats 4000000 in
set_option maxRecDepth 100000 in
theorem c_X12_fresh (l : Launch) (G : va_G) (Y : CY) (w : MSt → va_W) (ad : Nat → Nat) (a1 : Nat) (n1 : Nat) (LM : LayM ad w Y) (H1 : HA ad w a1 Y.2.1 n1) (p2 : Int32) (p3 : Int32) (σ : MSt) (r : Int32) (σ' : MSt) (hf : f_X12_fresh a1 n1 p2 p3 σ = some (r, σ')) : k_Mi l yX12_fresh wsX12_fresh rmX12_fresh G Y w [.ref (ad 0), .ref (ad a1), .int p2, .int p3] σ r σ' := by
  refine k_ofi (own := RX12) (cc := cX12_fresh) (maxL := 5) (some .int) (by decide) rfl rfl (Nat.le_of_ble_eq_true rfl) ?_
  intro p e s m below meth c A C ls hl hw
  have hx := C.1
  have hb := C.2.1
  have hown := C.2.2.2.2.1
  have hts := C.2.2.2.2.2.1
  have hks := C.2.2.2.2.2.2.1
  have hl : lv_has ls 5 [(0, .ref (ad 0)), (1, .ref (ad a1)), (2, .int p2), (3, .int p3)] := hl
  have b44 : ∀ (σ : MSt) (H : Heap) (locs : List Loc) (ls : Array Slot), lv_has ls 5 [(0, .ref (ad 0))] → k_W G w A s.heap σ H locs → f_X12_fresh_b44 a1 n1 σ = some (r, σ') → W p l e rmX12_fresh s m [.ref (ad 0), .ref (ad a1), .int p2, .int p3].toArray below meth c H locs 0 0 (MQ below (k_Qi G w A r σ') [.ref (ad 0), .ref (ad a1), .int p2, .int p3].toArray s 0 0 A) (F0 m 44 ls []) := by
    intro σ H locs ls hl hw hf
    unfold f_X12_fresh_b44 at hf
    refine lv_aload_n hx hb dX12_fresh_44 rfl (lv_at hl 0 rfl) ?_
    refine k_get C hw (LM_0 LM) (ci := 12) rfl k_in12 23 (by decide) lk12_199 (v := .int (σ.1 0 23)) rfl dX12_fresh_45 ?_
    refine lv_if_eq (tgt := 53) hx hb dX12_fresh_48 (by decide) (fun h => ?_) (fun h => ?_)
    · have hf := k_ifT h hf
      refine lv_aload_n hx hb dX12_fresh_53 rfl (lv_at hl 0 rfl) ?_
      refine k_get C hw (LM_0 LM) (ci := 12) rfl k_in12 22 (by decide) lk12_174 (v := .int (σ.1 0 22)) rfl dX12_fresh_54 ?_
      refine lv_topi (fun u1 ex => ?_)
      have hf := k_nmE ex hf
      refine lv_istore (lv' := [(4, .int u1), (0, .ref (ad 0))]) hx hb dX12_fresh_57 hl (by decide) rfl (fun ls hl => ?_)
      refine lv_aload_n hx hb dX12_fresh_59 rfl (lv_at hl 1 rfl) ?_
      obtain ⟨σ2, hq, hf⟩ := k_bvE hf
      refine k_callVv C hw (c_X12_token l G Y w ad LM σ σ2 hq) (cwV 0 hts gX12_fresh_X12_token rfl rfl rfl (by decide +kernel) ⟨Nat.le_of_ble_eq_true rfl, Nat.le_of_ble_eq_true rfl⟩) (k_recv C hw (LM_0 LM) rfl) rfl hl.1 rfl (Nat.le_of_ble_eq_true rfl) dX12_fresh_60 (fun H locs hw => ?_)
      refine lv_iload hx hb dX12_fresh_63 (lv_at hl 0 rfl) ?_
      exact k_iret C hw hf dX12_fresh_65
    · have hf := k_ifF h hf
      refine lv_iconst (v := (0 : Int32)) hx hb dX12_fresh_51 (by decide) ?_
      exact k_iret C hw hf dX12_fresh_52
  unfold f_X12_fresh at hf
  refine lv_aload_n hx hb dX12_fresh_0 rfl (lv_at hl 0 rfl) ?_
  refine k_get C hw (LM_0 LM) (ci := 12) rfl k_in12 23 (by decide) lk12_199 (v := .int (σ.1 0 23)) rfl dX12_fresh_1 ?_
  refine lv_if_eq (tgt := 9) hx hb dX12_fresh_4 (by decide) (fun h => ?_) (fun h => ?_)
  · have hf := k_ifT h hf
    refine lv_aload_n hx hb dX12_fresh_9 rfl (lv_at hl 0 rfl) ?_
    refine k_get C hw (LM_0 LM) (ci := 12) rfl k_in12 21 (by decide) lk12_164 (v := .int (σ.1 0 21)) rfl dX12_fresh_10 ?_
    refine lv_iconst (v := (1 : Int32)) hx hb dX12_fresh_13 (by decide) ?_
    refine lv_icmp_eq (tgt := 25) hx hb dX12_fresh_14 (by decide) (fun h => ?_) (fun h => ?_)
    · have hf := k_ifT h hf
      refine lv_aload_n hx hb dX12_fresh_25 rfl (lv_at hl 1 rfl) ?_
      refine lv_iload_n hx hb dX12_fresh_26 rfl (lv_at hl 2 rfl) ?_
      refine lv_iload_n hx hb dX12_fresh_27 rfl (lv_at hl 3 rfl) ?_
      refine lv_aload_n hx hb dX12_fresh_28 rfl (lv_at hl 0 rfl) ?_
      refine k_get C hw (LM_0 LM) (ci := 12) rfl k_in12 22 (by decide) lk12_174 (v := .int (σ.1 0 22)) rfl dX12_fresh_29 ?_
      obtain ⟨q4, σ3, hq, hf⟩ := k_bdE hf
      refine k_callSi C hw (c_X12_found l G Y w ad a1 n1 LM H1 p2 p3 (σ.1 0 22) σ q4 σ3 hq) (va_cwS 4 hts gX12_fresh_X12_found rfl rfl rfl (by decide +kernel) ⟨Nat.le_of_ble_eq_true rfl, Nat.le_of_ble_eq_true rfl⟩) rfl hl.1 rfl (Nat.le_of_ble_eq_true rfl) dX12_fresh_32 (fun H locs hw => ?_)
      refine lv_iconst (v := (-1 : Int32)) hx hb dX12_fresh_35 (by decide) ?_
      refine lv_icmp_eq (tgt := 44) hx hb dX12_fresh_36 (by decide) (fun h => ?_) (fun h => ?_)
      · have hf := k_ifT h hf
        exact b44 σ3 _ _ _ (lv_sub hl [0] rfl) hw hf
      · have hf := k_ifF h hf
        refine lv_aload_n hx hb dX12_fresh_39 rfl (lv_at hl 0 rfl) ?_
        refine lv_iconst (v := (3 : Int32)) hx hb dX12_fresh_40 (by decide) ?_
        obtain ⟨σ5, hq, hf⟩ := k_bvE hf
        refine k_callVv C hw (c_X12_wrong l G Y w ad LM (3 : Int32) σ3 σ5 hq) (cwV 1 hts gX12_fresh_X12_wrong rfl rfl rfl (by decide +kernel) ⟨Nat.le_of_ble_eq_true rfl, Nat.le_of_ble_eq_true rfl⟩) (k_recv C hw (LM_0 LM) rfl) rfl hl.1 rfl (Nat.le_of_ble_eq_true rfl) dX12_fresh_41 (fun H locs hw => ?_)
        exact b44 σ5 _ _ _ (lv_sub hl [0] rfl) hw hf
    · have hf := k_ifF h hf
      refine lv_aload_n hx hb dX12_fresh_17 rfl (lv_at hl 0 rfl) ?_
      refine lv_iconst (v := (1 : Int32)) hx hb dX12_fresh_18 (by decide) ?_
      obtain ⟨σ6, hq, hf⟩ := k_bvE hf
      refine k_callVv C hw (c_X12_wrong l G Y w ad LM (1 : Int32) σ σ6 hq) (cwV 1 hts gX12_fresh_X12_wrong rfl rfl rfl (by decide +kernel) ⟨Nat.le_of_ble_eq_true rfl, Nat.le_of_ble_eq_true rfl⟩) (k_recv C hw (LM_0 LM) rfl) rfl hl.1 rfl (Nat.le_of_ble_eq_true rfl) dX12_fresh_19 (fun H locs hw => ?_)
      refine lv_goto (tgt := 44) hx hb dX12_fresh_22 (by decide) ?_
      exact b44 σ6 _ _ _ (lv_sub hl [0] rfl) hw hf
  · have hf := k_ifF h hf
    refine lv_iconst (v := (0 : Int32)) hx hb dX12_fresh_7 (by decide) ?_
    exact k_iret C hw hf dX12_fresh_8
def f_X12_fresher  (p1 : Int32) (σ : MSt) : Option (Int32 × MSt) :=
  k_ck (k_inb ((9 : Int32) + p1) 18) <|
  some ((σ.1 2 (((9 : Int32) + p1)).toNatClampNeg), σ)
def rmX12_fresher : Room := { frames := 0, cells := 0, slots := 0, locals := 0 }
set_option maxHeartbeats 4000000 in
set_option maxRecDepth 100000 in
theorem c_X12_fresher (l : Launch) (G : va_G) (Y : CY) (w : MSt → va_W) (ad : Nat → Nat)  (LM : LayM ad w Y) (p1 : Int32) (σ : MSt) (r : Int32) (σ' : MSt) (hf : f_X12_fresher p1 σ = some (r, σ')) : k_Mi l yX12_fresher wsX12_fresher rmX12_fresher G Y w [.ref (ad 0), .int p1] σ r σ' := by
  refine k_ofi (own := RX12) (cc := cX12_fresher) (maxL := 2) (some .int) (by decide) rfl rfl (Nat.le_of_ble_eq_true rfl) ?_
  intro p e s m below meth c A C ls hl hw
  have hx := C.1
  have hb := C.2.1
  have hown := C.2.2.2.2.1
  have hts := C.2.2.2.2.2.1
  have hks := C.2.2.2.2.2.2.1
  have hl : lv_has ls 2 [(0, .ref (ad 0)), (1, .int p1)] := hl
  unfold f_X12_fresher at hf
  refine lv_aload_n hx hb dX12_fresher_0 rfl (lv_at hl 0 rfl) ?_
  refine k_get C hw (LM_0 LM) (ci := 12) rfl k_in12 3 (by decide) lk12_13 (v := .ref (ad 2)) rfl dX12_fresher_1 ?_
  refine lv_bipush (v := (9 : Int32)) hx hb dX12_fresher_4 (by decide) ?_
  refine lv_iload_n hx hb dX12_fresher_6 rfl (lv_at hl 1 rfl) ?_
  refine lv_iadd hx hb dX12_fresher_7 ?_
  obtain ⟨hi, hf⟩ := k_ckE hf
  refine k_iald C hw (LM_2 LM) hi dX12_fresher_8 ?_
  exact k_iret C hw hf dX12_fresher_9
def f_X12_reads  (p1 : Int32) (p2 : Int32) (σ : MSt) : Option MSt :=
  k_ck (k_inb ((9 : Int32) + p1) 18) <|
  k_nm (mI σ 2 (((9 : Int32) + p1)).toNatClampNeg p2) fun σ1 =>
  some σ1
def rmX12_reads : Room := { frames := 0, cells := 0, slots := 0, locals := 0 }
set_option maxHeartbeats 4000000 in
set_option maxRecDepth 100000 in
theorem c_X12_reads (l : Launch) (G : va_G) (Y : CY) (w : MSt → va_W) (ad : Nat → Nat)  (LM : LayM ad w Y) (p1 : Int32) (p2 : Int32) (σ : MSt) (σ' : MSt) (hf : f_X12_reads p1 p2 σ = some σ') : k_Mv l yX12_reads wsX12_reads rmX12_reads G Y w [.ref (ad 0), .int p1, .int p2] σ σ' := by
  refine k_ofv (own := RX12) (cc := cX12_reads) (maxL := 3) none (by decide) rfl rfl (Nat.le_of_ble_eq_true rfl) ?_
  intro p e s m below meth c A C ls hl hw
  have hx := C.1
  have hb := C.2.1
  have hown := C.2.2.2.2.1
  have hts := C.2.2.2.2.2.1
  have hks := C.2.2.2.2.2.2.1
  have hl : lv_has ls 3 [(0, .ref (ad 0)), (1, .int p1), (2, .int p2)] := hl
  unfold f_X12_reads at hf
  refine lv_aload_n hx hb dX12_reads_0 rfl (lv_at hl 0 rfl) ?_
  refine k_get C hw (LM_0 LM) (ci := 12) rfl k_in12 3 (by decide) lk12_13 (v := .ref (ad 2)) rfl dX12_reads_1 ?_
  refine lv_bipush (v := (9 : Int32)) hx hb dX12_reads_4 (by decide) ?_
  refine lv_iload_n hx hb dX12_reads_6 rfl (lv_at hl 1 rfl) ?_
  refine lv_iadd hx hb dX12_reads_7 ?_
  refine lv_iload_n hx hb dX12_reads_8 rfl (lv_at hl 2 rfl) ?_
  obtain ⟨hi, hf⟩ := k_ckE hf
  refine k_iast C hw (LM_2 LM) hi dX12_reads_9 (fun σ1 eq H locs hw => ?_)
  have hf := k_nmE eq hf
  exact k_vret C hw hf dX12_reads_10
def f_X12_bayAtHand_b81  (y0 : Int32) (σ : MSt) : Option (Int32 × MSt) :=
  some (y0, σ)
def f_X12_bayAtHand_b52   (σ : MSt) : Option (Int32 × MSt) :=
  if (σ.1 0 23) = 0 then
  (k_bd (f_X12_fresher (0 : Int32) σ) fun q2 σ1 =>
  k_bd (f_X12_found 3 16 (8 : Int32) q2 (σ1.1 0 22) σ1) fun q4 σ3 =>
  f_X12_bayAtHand_b81 q4 σ3)
  else
  (f_X12_bayAtHand_b81 (0 : Int32) σ)
def f_X12_bayAtHand   (σ : MSt) : Option (Int32 × MSt) :=
  if (σ.1 0 23) = 0 then
  (if (σ.1 0 21) = (1 : Int32) then
  (k_bd (f_X12_fresher (0 : Int32) σ) fun q6 σ5 =>
  k_bd (f_X12_found 3 16 (8 : Int32) q6 (σ5.1 0 22) σ5) fun q8 σ7 =>
  if q8 = (-1 : Int32) then
  (k_bv (f_X12_wrong (4 : Int32) σ7) fun σ9 =>
  f_X12_bayAtHand_b52 σ9)
  else
  (f_X12_bayAtHand_b52 σ7))
  else
  (k_bv (f_X12_wrong (1 : Int32) σ) fun σ10 =>
  f_X12_bayAtHand_b52 σ10))
  else
  (some ((0 : Int32), σ))
def rmX12_bayAtHand : Room := { frames := 1, cells := 0, slots := 0, locals := 24 }
set_option maxHeartbeats 4000000 in
set_option maxRecDepth 100000 in
theorem c_X12_bayAtHand (l : Launch) (G : va_G) (Y : CY) (w : MSt → va_W) (ad : Nat → Nat)  (LM : LayM ad w Y)  (σ : MSt) (r : Int32) (σ' : MSt) (hf : f_X12_bayAtHand σ = some (r, σ')) : k_Mi l yX12_bayAtHand wsX12_bayAtHand rmX12_bayAtHand G Y w [.ref (ad 0)] σ r σ' := by
  refine k_ofi (own := RX12) (cc := cX12_bayAtHand) (maxL := 1) (some .int) (by decide) rfl rfl (Nat.le_of_ble_eq_true rfl) ?_
  intro p e s m below meth c A C ls hl hw
  have hx := C.1
  have hb := C.2.1
  have hown := C.2.2.2.2.1
  have hts := C.2.2.2.2.2.1
  have hks := C.2.2.2.2.2.2.1
  have hl : lv_has ls 1 [(0, .ref (ad 0))] := hl
  have b81 : ∀ (y0 : Int32) (σ : MSt) (H : Heap) (locs : List Loc) (ls : Array Slot), lv_has ls 1 [] → k_W G w A s.heap σ H locs → f_X12_bayAtHand_b81 y0 σ = some (r, σ') → W p l e rmX12_bayAtHand s m [.ref (ad 0)].toArray below meth c H locs 0 0 (MQ below (k_Qi G w A r σ') [.ref (ad 0)].toArray s 0 0 A) (F0 m 81 ls [.int y0]) := by
    intro y0 σ H locs ls hl hw hf
    unfold f_X12_bayAtHand_b81 at hf
    exact k_iret C hw hf dX12_bayAtHand_81
  have b52 : ∀ (σ : MSt) (H : Heap) (locs : List Loc) (ls : Array Slot), lv_has ls 1 [(0, .ref (ad 0))] → k_W G w A s.heap σ H locs → f_X12_bayAtHand_b52 σ = some (r, σ') → W p l e rmX12_bayAtHand s m [.ref (ad 0)].toArray below meth c H locs 0 0 (MQ below (k_Qi G w A r σ') [.ref (ad 0)].toArray s 0 0 A) (F0 m 52 ls []) := by
    intro σ H locs ls hl hw hf
    unfold f_X12_bayAtHand_b52 at hf
    refine lv_aload_n hx hb dX12_bayAtHand_52 rfl (lv_at hl 0 rfl) ?_
    refine k_get C hw (LM_0 LM) (ci := 12) rfl k_in12 23 (by decide) lk12_199 (v := .int (σ.1 0 23)) rfl dX12_bayAtHand_53 ?_
    refine lv_if_eq (tgt := 63) hx hb dX12_bayAtHand_56 (by decide) (fun h => ?_) (fun h => ?_)
    · have hf := k_ifT h hf
      refine lv_aload_n hx hb dX12_bayAtHand_63 rfl (lv_at hl 0 rfl) ?_
      refine k_get C hw (LM_0 LM) (ci := 12) rfl k_in12 4 (by decide) lk12_16 (v := .ref (ad 3)) rfl dX12_bayAtHand_64 ?_
      refine lv_bipush (v := (8 : Int32)) hx hb dX12_bayAtHand_67 (by decide) ?_
      refine lv_aload_n hx hb dX12_bayAtHand_69 rfl (lv_at hl 0 rfl) ?_
      refine lv_iconst (v := (0 : Int32)) hx hb dX12_bayAtHand_70 (by decide) ?_
      obtain ⟨q2, σ1, hq, hf⟩ := k_bdE hf
      refine k_callVi C hw (c_X12_fresher l G Y w ad LM (0 : Int32) σ q2 σ1 hq) (cwV 1 hts gX12_bayAtHand_X12_fresher rfl rfl rfl (by decide +kernel) ⟨Nat.le_of_ble_eq_true rfl, Nat.le_of_ble_eq_true rfl⟩) (k_recv C hw (LM_0 LM) rfl) rfl hl.1 rfl (Nat.le_of_ble_eq_true rfl) dX12_bayAtHand_71 (fun H locs hw => ?_)
      refine lv_aload_n hx hb dX12_bayAtHand_74 rfl (lv_at hl 0 rfl) ?_
      refine k_get C hw (LM_0 LM) (ci := 12) rfl k_in12 22 (by decide) lk12_174 (v := .int (σ1.1 0 22)) rfl dX12_bayAtHand_75 ?_
      obtain ⟨q4, σ3, hq, hf⟩ := k_bdE hf
      refine k_callSi C hw (c_X12_found l G Y w ad 3 16 LM (LM_3 LM) (8 : Int32) q2 (σ1.1 0 22) σ1 q4 σ3 hq) (va_cwS 4 hts gX12_bayAtHand_X12_found rfl rfl rfl (by decide +kernel) ⟨Nat.le_of_ble_eq_true rfl, Nat.le_of_ble_eq_true rfl⟩) rfl hl.1 rfl (Nat.le_of_ble_eq_true rfl) dX12_bayAtHand_78 (fun H locs hw => ?_)
      exact b81 q4 σ3 _ _ _ (lv_sub hl [] rfl) hw hf
    · have hf := k_ifF h hf
      refine lv_iconst (v := (0 : Int32)) hx hb dX12_bayAtHand_59 (by decide) ?_
      refine lv_goto (tgt := 81) hx hb dX12_bayAtHand_60 (by decide) ?_
      exact b81 (0 : Int32) σ _ _ _ (lv_sub hl [] rfl) hw hf
  unfold f_X12_bayAtHand at hf
  refine lv_aload_n hx hb dX12_bayAtHand_0 rfl (lv_at hl 0 rfl) ?_
  refine k_get C hw (LM_0 LM) (ci := 12) rfl k_in12 23 (by decide) lk12_199 (v := .int (σ.1 0 23)) rfl dX12_bayAtHand_1 ?_
  refine lv_if_eq (tgt := 9) hx hb dX12_bayAtHand_4 (by decide) (fun h => ?_) (fun h => ?_)
  · have hf := k_ifT h hf
    refine lv_aload_n hx hb dX12_bayAtHand_9 rfl (lv_at hl 0 rfl) ?_
    refine k_get C hw (LM_0 LM) (ci := 12) rfl k_in12 21 (by decide) lk12_164 (v := .int (σ.1 0 21)) rfl dX12_bayAtHand_10 ?_
    refine lv_iconst (v := (1 : Int32)) hx hb dX12_bayAtHand_13 (by decide) ?_
    refine lv_icmp_eq (tgt := 25) hx hb dX12_bayAtHand_14 (by decide) (fun h => ?_) (fun h => ?_)
    · have hf := k_ifT h hf
      refine lv_aload_n hx hb dX12_bayAtHand_25 rfl (lv_at hl 0 rfl) ?_
      refine k_get C hw (LM_0 LM) (ci := 12) rfl k_in12 4 (by decide) lk12_16 (v := .ref (ad 3)) rfl dX12_bayAtHand_26 ?_
      refine lv_bipush (v := (8 : Int32)) hx hb dX12_bayAtHand_29 (by decide) ?_
      refine lv_aload_n hx hb dX12_bayAtHand_31 rfl (lv_at hl 0 rfl) ?_
      refine lv_iconst (v := (0 : Int32)) hx hb dX12_bayAtHand_32 (by decide) ?_
      obtain ⟨q6, σ5, hq, hf⟩ := k_bdE hf
      refine k_callVi C hw (c_X12_fresher l G Y w ad LM (0 : Int32) σ q6 σ5 hq) (cwV 1 hts gX12_bayAtHand_X12_fresher rfl rfl rfl (by decide +kernel) ⟨Nat.le_of_ble_eq_true rfl, Nat.le_of_ble_eq_true rfl⟩) (k_recv C hw (LM_0 LM) rfl) rfl hl.1 rfl (Nat.le_of_ble_eq_true rfl) dX12_bayAtHand_33 (fun H locs hw => ?_)
      refine lv_aload_n hx hb dX12_bayAtHand_36 rfl (lv_at hl 0 rfl) ?_
      refine k_get C hw (LM_0 LM) (ci := 12) rfl k_in12 22 (by decide) lk12_174 (v := .int (σ5.1 0 22)) rfl dX12_bayAtHand_37 ?_
      obtain ⟨q8, σ7, hq, hf⟩ := k_bdE hf
      refine k_callSi C hw (c_X12_found l G Y w ad 3 16 LM (LM_3 LM) (8 : Int32) q6 (σ5.1 0 22) σ5 q8 σ7 hq) (va_cwS 4 hts gX12_bayAtHand_X12_found rfl rfl rfl (by decide +kernel) ⟨Nat.le_of_ble_eq_true rfl, Nat.le_of_ble_eq_true rfl⟩) rfl hl.1 rfl (Nat.le_of_ble_eq_true rfl) dX12_bayAtHand_40 (fun H locs hw => ?_)
      refine lv_iconst (v := (-1 : Int32)) hx hb dX12_bayAtHand_43 (by decide) ?_
      refine lv_icmp_ne (tgt := 52) hx hb dX12_bayAtHand_44 (by decide) (fun h => ?_) (fun h => ?_)
      · have hf := k_ifF h hf
        exact b52 σ7 _ _ _ (lv_sub hl [0] rfl) hw hf
      · have hf := k_ifT h hf
        refine lv_aload_n hx hb dX12_bayAtHand_47 rfl (lv_at hl 0 rfl) ?_
        refine lv_iconst (v := (4 : Int32)) hx hb dX12_bayAtHand_48 (by decide) ?_
        obtain ⟨σ9, hq, hf⟩ := k_bvE hf
        refine k_callVv C hw (c_X12_wrong l G Y w ad LM (4 : Int32) σ7 σ9 hq) (cwV 1 hts gX12_bayAtHand_X12_wrong rfl rfl rfl (by decide +kernel) ⟨Nat.le_of_ble_eq_true rfl, Nat.le_of_ble_eq_true rfl⟩) (k_recv C hw (LM_0 LM) rfl) rfl hl.1 rfl (Nat.le_of_ble_eq_true rfl) dX12_bayAtHand_49 (fun H locs hw => ?_)
        exact b52 σ9 _ _ _ (lv_sub hl [0] rfl) hw hf
    · have hf := k_ifF h hf
      refine lv_aload_n hx hb dX12_bayAtHand_17 rfl (lv_at hl 0 rfl) ?_
      refine lv_iconst (v := (1 : Int32)) hx hb dX12_bayAtHand_18 (by decide) ?_
      obtain ⟨σ10, hq, hf⟩ := k_bvE hf
      refine k_callVv C hw (c_X12_wrong l G Y w ad LM (1 : Int32) σ σ10 hq) (cwV 1 hts gX12_bayAtHand_X12_wrong rfl rfl rfl (by decide +kernel) ⟨Nat.le_of_ble_eq_true rfl, Nat.le_of_ble_eq_true rfl⟩) (k_recv C hw (LM_0 LM) rfl) rfl hl.1 rfl (Nat.le_of_ble_eq_true rfl) dX12_bayAtHand_19 (fun H locs hw => ?_)
      refine lv_goto (tgt := 52) hx hb dX12_bayAtHand_22 (by decide) ?_
      exact b52 σ10 _ _ _ (lv_sub hl [0] rfl) hw hf
  · have hf := k_ifF h hf
    refine lv_iconst (v := (0 : Int32)) hx hb dX12_bayAtHand_7 (by decide) ?_
    exact k_iret C hw hf dX12_bayAtHand_8
def f_X12_bayAhead   (σ : MSt) : Option (Int32 × MSt) :=
  k_bd (f_X12_bayAtHand σ) fun q2 σ1 =>
  k_bv (f_X12_goOn σ1) fun σ3 =>
  some (q2, σ3)
def rmX12_bayAhead : Room := { frames := 7, cells := 0, slots := 0, locals := 149 }
set_option maxHeartbeats 4000000 in
set_option maxRecDepth 100000 in
theorem c_X12_bayAhead (l : Launch) (G : va_G) (Y : CY) (w : MSt → va_W) (ad : Nat → Nat)  (LM : LayM ad w Y)  (σ : MSt) (r : Int32) (σ' : MSt) (hf : f_X12_bayAhead σ = some (r, σ')) : k_Mi l yX12_bayAhead wsX12_bayAhead rmX12_bayAhead G Y w [.ref (ad 0)] σ r σ' := by
  refine k_ofi (own := RX12) (cc := cX12_bayAhead) (maxL := 2) (some .int) (by decide) rfl rfl (Nat.le_of_ble_eq_true rfl) ?_
  intro p e s m below meth c A C ls hl hw
  have hx := C.1
  have hb := C.2.1
  have hown := C.2.2.2.2.1
  have hts := C.2.2.2.2.2.1
  have hks := C.2.2.2.2.2.2.1
  have hl : lv_has ls 2 [(0, .ref (ad 0))] := hl
  unfold f_X12_bayAhead at hf
  refine lv_aload_n hx hb dX12_bayAhead_0 rfl (lv_at hl 0 rfl) ?_
  obtain ⟨q2, σ1, hq, hf⟩ := k_bdE hf
  refine k_callVi C hw (c_X12_bayAtHand l G Y w ad LM σ q2 σ1 hq) (cwV 0 hts gX12_bayAhead_X12_bayAtHand rfl rfl rfl (by decide +kernel) ⟨Nat.le_of_ble_eq_true rfl, Nat.le_of_ble_eq_true rfl⟩) (k_recv C hw (LM_0 LM) rfl) rfl hl.1 rfl (Nat.le_of_ble_eq_true rfl) dX12_bayAhead_1 (fun H locs hw => ?_)
  refine lv_istore_n (lv' := [(1, .int q2), (0, .ref (ad 0))]) hx hb dX12_bayAhead_4 rfl hl (by decide) rfl (fun ls hl => ?_)
  refine lv_aload_n hx hb dX12_bayAhead_5 rfl (lv_at hl 1 rfl) ?_
  obtain ⟨σ3, hq, hf⟩ := k_bvE hf
  refine k_callVv C hw (c_X12_goOn l G Y w ad LM σ1 σ3 hq) (cwV 0 hts gX12_bayAhead_X12_goOn rfl rfl rfl (by decide +kernel) ⟨Nat.le_of_ble_eq_true rfl, Nat.le_of_ble_eq_true rfl⟩) (k_recv C hw (LM_0 LM) rfl) rfl hl.1 rfl (Nat.le_of_ble_eq_true rfl) dX12_bayAhead_6 (fun H locs hw => ?_)
  refine lv_iload_n hx hb dX12_bayAhead_9 rfl (lv_at hl 0 rfl) ?_
  exact k_iret C hw hf dX12_bayAhead_10
def f_X12_isFull_b64  (y0 : Int32) (σ : MSt) : Option (Int32 × MSt) :=
  k_ck (k_bo y0) <|
  some (y0, σ)
def f_X12_isFull_b63   (σ : MSt) : Option (Int32 × MSt) :=
  f_X12_isFull_b64 (0 : Int32) σ
def f_X12_isFull_b59   (σ : MSt) : Option (Int32 × MSt) :=
  f_X12_isFull_b64 (1 : Int32) σ
def f_X12_isFull_b44  (x1 : Int32) (σ : MSt) : Option (Int32 × MSt) :=
  if x1 = (3 : Int32) then
  (k_bd (f_X12_fresher (3 : Int32) σ) fun q2 σ1 =>
  if q2 = (20 : Int32) then
  (f_X12_isFull_b59 σ1)
  else
  (f_X12_isFull_b63 σ1))
  else
  (f_X12_isFull_b63 σ)
def f_X12_isFull_b29  (x1 : Int32) (σ : MSt) : Option (Int32 × MSt) :=
  if x1 = (2 : Int32) then
  (k_bd (f_X12_fresher (2 : Int32) σ) fun q2 σ1 =>
  if q2 = (12 : Int32) then
  (f_X12_isFull_b59 σ1)
  else
  (f_X12_isFull_b44 x1 σ1))
  else
  (f_X12_isFull_b44 x1 σ)
def f_X12_isFull_b14  (x1 : Int32) (σ : MSt) : Option (Int32 × MSt) :=
  if x1 = (1 : Int32) then
  (k_bd (f_X12_fresher (1 : Int32) σ) fun q2 σ1 =>
  if q2 = (12 : Int32) then
  (f_X12_isFull_b59 σ1)
  else
  (f_X12_isFull_b29 x1 σ1))
  else
  (f_X12_isFull_b29 x1 σ)
def f_X12_isFull  (p1 : Int32) (σ : MSt) : Option (Int32 × MSt) :=
  if p1 = 0 then
  (k_bd (f_X12_fresher (0 : Int32) σ) fun q4 σ3 =>
  if q4 = (8 : Int32) then
  (f_X12_isFull_b59 σ3)
  else
  (f_X12_isFull_b14 p1 σ3))
  else
  (f_X12_isFull_b14 p1 σ)
def rmX12_isFull : Room := { frames := 1, cells := 0, slots := 0, locals := 21 }
set_option maxHeartbeats 4000000 in
set_option maxRecDepth 100000 in
theorem c_X12_isFull (l : Launch) (G : va_G) (Y : CY) (w : MSt → va_W) (ad : Nat → Nat)  (LM : LayM ad w Y) (p1 : Int32) (σ : MSt) (r : Int32) (σ' : MSt) (hf : f_X12_isFull p1 σ = some (r, σ')) : k_Mi l yX12_isFull wsX12_isFull rmX12_isFull G Y w [.ref (ad 0), .int p1] σ r σ' := by
  refine k_ofi (own := RX12) (cc := cX12_isFull) (maxL := 2) (some .boolean) (by decide) rfl rfl (Nat.le_of_ble_eq_true rfl) ?_
  intro p e s m below meth c A C ls hl hw
  have hx := C.1
  have hb := C.2.1
  have hown := C.2.2.2.2.1
  have hts := C.2.2.2.2.2.1
  have hks := C.2.2.2.2.2.2.1
  have hl : lv_has ls 2 [(0, .ref (ad 0)), (1, .int p1)] := hl
  have b64 : ∀ (y0 : Int32) (σ : MSt) (H : Heap) (locs : List Loc) (ls : Array Slot), lv_has ls 2 [] → k_W G w A s.heap σ H locs → f_X12_isFull_b64 y0 σ = some (r, σ') → W p l e rmX12_isFull s m [.ref (ad 0), .int p1].toArray below meth c H locs 0 0 (MQ below (k_Qi G w A r σ') [.ref (ad 0), .int p1].toArray s 0 0 A) (F0 m 64 ls [.int y0]) := by
    intro y0 σ H locs ls hl hw hf
    unfold f_X12_isFull_b64 at hf
    obtain ⟨hz, hf⟩ := k_ckE hf
    exact k_zret C hw (k_boE hz).1 hf dX12_isFull_64
  have b63 : ∀ (σ : MSt) (H : Heap) (locs : List Loc) (ls : Array Slot), lv_has ls 2 [] → k_W G w A s.heap σ H locs → f_X12_isFull_b63 σ = some (r, σ') → W p l e rmX12_isFull s m [.ref (ad 0), .int p1].toArray below meth c H locs 0 0 (MQ below (k_Qi G w A r σ') [.ref (ad 0), .int p1].toArray s 0 0 A) (F0 m 63 ls []) := by
    intro σ H locs ls hl hw hf
    unfold f_X12_isFull_b63 at hf
    refine lv_iconst (v := (0 : Int32)) hx hb dX12_isFull_63 (by decide) ?_
    exact b64 (0 : Int32) σ _ _ _ (lv_sub hl [] rfl) hw hf
  have b59 : ∀ (σ : MSt) (H : Heap) (locs : List Loc) (ls : Array Slot), lv_has ls 2 [] → k_W G w A s.heap σ H locs → f_X12_isFull_b59 σ = some (r, σ') → W p l e rmX12_isFull s m [.ref (ad 0), .int p1].toArray below meth c H locs 0 0 (MQ below (k_Qi G w A r σ') [.ref (ad 0), .int p1].toArray s 0 0 A) (F0 m 59 ls []) := by
    intro σ H locs ls hl hw hf
    unfold f_X12_isFull_b59 at hf
    refine lv_iconst (v := (1 : Int32)) hx hb dX12_isFull_59 (by decide) ?_
    refine lv_goto (tgt := 64) hx hb dX12_isFull_60 (by decide) ?_
    exact b64 (1 : Int32) σ _ _ _ (lv_sub hl [] rfl) hw hf
  have b44 : ∀ (x1 : Int32) (σ : MSt) (H : Heap) (locs : List Loc) (ls : Array Slot), lv_has ls 2 [(0, .ref (ad 0)), (1, .int x1)] → k_W G w A s.heap σ H locs → f_X12_isFull_b44 x1 σ = some (r, σ') → W p l e rmX12_isFull s m [.ref (ad 0), .int p1].toArray below meth c H locs 0 0 (MQ below (k_Qi G w A r σ') [.ref (ad 0), .int p1].toArray s 0 0 A) (F0 m 44 ls []) := by
    intro x1 σ H locs ls hl hw hf
    unfold f_X12_isFull_b44 at hf
    refine lv_iload_n hx hb dX12_isFull_44 rfl (lv_at hl 1 rfl) ?_
    refine lv_iconst (v := (3 : Int32)) hx hb dX12_isFull_45 (by decide) ?_
    refine lv_icmp_ne (tgt := 63) hx hb dX12_isFull_46 (by decide) (fun h => ?_) (fun h => ?_)
    · have hf := k_ifF h hf
      exact b63 σ _ _ _ (lv_sub hl [] rfl) hw hf
    · have hf := k_ifT h hf
      refine lv_aload_n hx hb dX12_isFull_49 rfl (lv_at hl 0 rfl) ?_
      refine lv_iconst (v := (3 : Int32)) hx hb dX12_isFull_50 (by decide) ?_
      obtain ⟨q2, σ1, hq, hf⟩ := k_bdE hf
      refine k_callVi C hw (c_X12_fresher l G Y w ad LM (3 : Int32) σ q2 σ1 hq) (cwV 1 hts gX12_isFull_X12_fresher rfl rfl rfl (by decide +kernel) ⟨Nat.le_of_ble_eq_true rfl, Nat.le_of_ble_eq_true rfl⟩) (k_recv C hw (LM_0 LM) rfl) rfl hl.1 rfl (Nat.le_of_ble_eq_true rfl) dX12_isFull_51 (fun H locs hw => ?_)
      refine lv_bipush (v := (20 : Int32)) hx hb dX12_isFull_54 (by decide) ?_
      refine lv_icmp_ne (tgt := 63) hx hb dX12_isFull_56 (by decide) (fun h => ?_) (fun h => ?_)
      · have hf := k_ifF h hf
        exact b63 σ1 _ _ _ (lv_sub hl [] rfl) hw hf
      · have hf := k_ifT h hf
        exact b59 σ1 _ _ _ (lv_sub hl [] rfl) hw hf
  have b29 : ∀ (x1 : Int32) (σ : MSt) (H : Heap) (locs : List Loc) (ls : Array Slot), lv_has ls 2 [(0, .ref (ad 0)), (1, .int x1)] → k_W G w A s.heap σ H locs → f_X12_isFull_b29 x1 σ = some (r, σ') → W p l e rmX12_isFull s m [.ref (ad 0), .int p1].toArray below meth c H locs 0 0 (MQ below (k_Qi G w A r σ') [.ref (ad 0), .int p1].toArray s 0 0 A) (F0 m 29 ls []) := by
    intro x1 σ H locs ls hl hw hf
    unfold f_X12_isFull_b29 at hf
    refine lv_iload_n hx hb dX12_isFull_29 rfl (lv_at hl 1 rfl) ?_
    refine lv_iconst (v := (2 : Int32)) hx hb dX12_isFull_30 (by decide) ?_
    refine lv_icmp_ne (tgt := 44) hx hb dX12_isFull_31 (by decide) (fun h => ?_) (fun h => ?_)
    · have hf := k_ifF h hf
      exact b44 x1 σ _ _ _ (lv_sub hl [0, 1] rfl) hw hf
    · have hf := k_ifT h hf
      refine lv_aload_n hx hb dX12_isFull_34 rfl (lv_at hl 0 rfl) ?_
      refine lv_iconst (v := (2 : Int32)) hx hb dX12_isFull_35 (by decide) ?_
      obtain ⟨q2, σ1, hq, hf⟩ := k_bdE hf
      refine k_callVi C hw (c_X12_fresher l G Y w ad LM (2 : Int32) σ q2 σ1 hq) (cwV 1 hts gX12_isFull_X12_fresher rfl rfl rfl (by decide +kernel) ⟨Nat.le_of_ble_eq_true rfl, Nat.le_of_ble_eq_true rfl⟩) (k_recv C hw (LM_0 LM) rfl) rfl hl.1 rfl (Nat.le_of_ble_eq_true rfl) dX12_isFull_36 (fun H locs hw => ?_)
      refine lv_bipush (v := (12 : Int32)) hx hb dX12_isFull_39 (by decide) ?_
      refine lv_icmp_eq (tgt := 59) hx hb dX12_isFull_41 (by decide) (fun h => ?_) (fun h => ?_)
      · have hf := k_ifT h hf
        exact b59 σ1 _ _ _ (lv_sub hl [] rfl) hw hf
      · have hf := k_ifF h hf
        exact b44 x1 σ1 _ _ _ (lv_sub hl [0, 1] rfl) hw hf
  have b14 : ∀ (x1 : Int32) (σ : MSt) (H : Heap) (locs : List Loc) (ls : Array Slot), lv_has ls 2 [(0, .ref (ad 0)), (1, .int x1)] → k_W G w A s.heap σ H locs → f_X12_isFull_b14 x1 σ = some (r, σ') → W p l e rmX12_isFull s m [.ref (ad 0), .int p1].toArray below meth c H locs 0 0 (MQ below (k_Qi G w A r σ') [.ref (ad 0), .int p1].toArray s 0 0 A) (F0 m 14 ls []) := by
    intro x1 σ H locs ls hl hw hf
    unfold f_X12_isFull_b14 at hf
    refine lv_iload_n hx hb dX12_isFull_14 rfl (lv_at hl 1 rfl) ?_
    refine lv_iconst (v := (1 : Int32)) hx hb dX12_isFull_15 (by decide) ?_
    refine lv_icmp_ne (tgt := 29) hx hb dX12_isFull_16 (by decide) (fun h => ?_) (fun h => ?_)
    · have hf := k_ifF h hf
      exact b29 x1 σ _ _ _ (lv_sub hl [0, 1] rfl) hw hf
    · have hf := k_ifT h hf
      refine lv_aload_n hx hb dX12_isFull_19 rfl (lv_at hl 0 rfl) ?_
      refine lv_iconst (v := (1 : Int32)) hx hb dX12_isFull_20 (by decide) ?_
      obtain ⟨q2, σ1, hq, hf⟩ := k_bdE hf
      refine k_callVi C hw (c_X12_fresher l G Y w ad LM (1 : Int32) σ q2 σ1 hq) (cwV 1 hts gX12_isFull_X12_fresher rfl rfl rfl (by decide +kernel) ⟨Nat.le_of_ble_eq_true rfl, Nat.le_of_ble_eq_true rfl⟩) (k_recv C hw (LM_0 LM) rfl) rfl hl.1 rfl (Nat.le_of_ble_eq_true rfl) dX12_isFull_21 (fun H locs hw => ?_)
      refine lv_bipush (v := (12 : Int32)) hx hb dX12_isFull_24 (by decide) ?_
      refine lv_icmp_eq (tgt := 59) hx hb dX12_isFull_26 (by decide) (fun h => ?_) (fun h => ?_)
      · have hf := k_ifT h hf
        exact b59 σ1 _ _ _ (lv_sub hl [] rfl) hw hf
      · have hf := k_ifF h hf
        exact b29 x1 σ1 _ _ _ (lv_sub hl [0, 1] rfl) hw hf
  unfold f_X12_isFull at hf
  refine lv_iload_n hx hb dX12_isFull_0 rfl (lv_at hl 1 rfl) ?_
  refine lv_if_ne (tgt := 14) hx hb dX12_isFull_1 (by decide) (fun h => ?_) (fun h => ?_)
  · have hf := k_ifF h hf
    exact b14 p1 σ _ _ _ (lv_sub hl [0, 1] rfl) hw hf
  · have hf := k_ifT h hf
    refine lv_aload_n hx hb dX12_isFull_4 rfl (lv_at hl 0 rfl) ?_
    refine lv_iconst (v := (0 : Int32)) hx hb dX12_isFull_5 (by decide) ?_
    obtain ⟨q4, σ3, hq, hf⟩ := k_bdE hf
    refine k_callVi C hw (c_X12_fresher l G Y w ad LM (0 : Int32) σ q4 σ3 hq) (cwV 1 hts gX12_isFull_X12_fresher rfl rfl rfl (by decide +kernel) ⟨Nat.le_of_ble_eq_true rfl, Nat.le_of_ble_eq_true rfl⟩) (k_recv C hw (LM_0 LM) rfl) rfl hl.1 rfl (Nat.le_of_ble_eq_true rfl) dX12_isFull_6 (fun H locs hw => ?_)
    refine lv_bipush (v := (8 : Int32)) hx hb dX12_isFull_9 (by decide) ?_
    refine lv_icmp_eq (tgt := 59) hx hb dX12_isFull_11 (by decide) (fun h => ?_) (fun h => ?_)
    · have hf := k_ifT h hf
      exact b59 σ3 _ _ _ (lv_sub hl [] rfl) hw hf
    · have hf := k_ifF h hf
      exact b14 p1 σ3 _ _ _ (lv_sub hl [0, 1] rfl) hw hf
def f_X12_laneLine_b99  (x1 : Int32) (x2 : Int32) (x3 : Int32) (σ : MSt) : Option MSt :=
  k_bv (f_X12_goOn σ) fun σ1 =>
  k_ck (k_inb x1 24) <|
  k_nm (mI σ1 4 (x1).toNatClampNeg x2) fun σ2 =>
  k_ck (k_inb x1 24) <|
  k_nm (mI σ2 5 (x1).toNatClampNeg x3) fun σ3 =>
  k_bd (f_X12_numeral (1 : Int32) (9 : Int32) σ3) fun q5 σ4 =>
  k_ck (k_inb x1 24) <|
  k_nm (mI σ4 6 (x1).toNatClampNeg q5) fun σ6 =>
  k_bd (f_X12_fresher (1 : Int32) σ6) fun q8 σ7 =>
  k_bv (f_X12_reads (1 : Int32) (q8 + (1 : Int32)) σ7) fun σ9 =>
  some σ9
def f_X12_laneLine_b82  (x1 : Int32) (x2 : Int32) (x3 : Int32) (σ : MSt) : Option MSt :=
  if (σ.1 0 23) = 0 then
  (if x2 = x3 then
  (k_bv (f_X12_wrong (5 : Int32) σ) fun σ1 =>
  f_X12_laneLine_b99 x1 x2 x3 σ1)
  else
  (f_X12_laneLine_b99 x1 x2 x3 σ))
  else
  (f_X12_laneLine_b99 x1 x2 x3 σ)
def f_X12_laneLine_b76  (r14 : Int32 → Int32 → Int32 → Int32 → MSt → Option MSt) (x1 : Int32) (x2 : Int32) (x3 : Int32) (x4 : Int32) (σ : MSt) : Option MSt :=
  k_nm (x4 + (1 : Int32)) fun u1 =>
  r14 x1 x2 x3 u1 σ
def f_X12_laneLine_b71  (r14 : Int32 → Int32 → Int32 → Int32 → MSt → Option MSt) (x1 : Int32) (x2 : Int32) (x3 : Int32) (x4 : Int32) (σ : MSt) : Option MSt :=
  k_bv (f_X12_wrong (3 : Int32) σ) fun σ1 =>
  f_X12_laneLine_b76 r14 x1 x2 x3 x4 σ1
def f_X12_laneLine_b49  (r14 : Int32 → Int32 → Int32 → Int32 → MSt → Option MSt) (x1 : Int32) (x2 : Int32) (x3 : Int32) (x4 : Int32) (σ : MSt) : Option MSt :=
  k_ck (k_inb x4 24) <|
  if (σ.1 4 (x4).toNatClampNeg) = x3 then
  (k_ck (k_inb x4 24) <|
  if (σ.1 5 (x4).toNatClampNeg) = x2 then
  (f_X12_laneLine_b71 r14 x1 x2 x3 x4 σ)
  else
  (f_X12_laneLine_b76 r14 x1 x2 x3 x4 σ))
  else
  (f_X12_laneLine_b76 r14 x1 x2 x3 x4 σ)
def f_X12_laneLine_b14_s  (r14 : Int32 → Int32 → Int32 → Int32 → MSt → Option MSt) (x1 : Int32) (x2 : Int32) (x3 : Int32) (x4 : Int32) (σ : MSt) : Option MSt :=
  if x1 ≤ x4 then
  (f_X12_laneLine_b82 x1 x2 x3 σ)
  else
  (if (σ.1 0 23) = 0 then
  (k_ck (k_inb x4 24) <|
  if (σ.1 4 (x4).toNatClampNeg) = x2 then
  (k_ck (k_inb x4 24) <|
  if (σ.1 5 (x4).toNatClampNeg) = x3 then
  (f_X12_laneLine_b71 r14 x1 x2 x3 x4 σ)
  else
  (f_X12_laneLine_b49 r14 x1 x2 x3 x4 σ))
  else
  (f_X12_laneLine_b49 r14 x1 x2 x3 x4 σ))
  else
  (f_X12_laneLine_b82 x1 x2 x3 σ))
def f_X12_laneLine_b14  : Nat → Int32 → Int32 → Int32 → Int32 → MSt → Option MSt
  | 0 => fun _ _ _ _ _ => none
  | n + 1 => f_X12_laneLine_b14_s (f_X12_laneLine_b14 n)
def f_X12_laneLine  (p1 : Int32) (σ : MSt) : Option MSt :=
  k_bd (f_X12_bayAhead σ) fun q2 σ1 =>
  k_bd (f_X12_bayAtHand σ1) fun q4 σ3 =>
  f_X12_laneLine_b14 FU p1 q2 q4 (12 : Int32) σ3
def rmX12_laneLine : Room := { frames := 8, cells := 0, slots := 0, locals := 170 }
set_option maxHeartbeats 4000000 in
set_option maxRecDepth 100000 in
theorem c_X12_laneLine (l : Launch) (G : va_G) (Y : CY) (w : MSt → va_W) (ad : Nat → Nat)  (LM : LayM ad w Y) (p1 : Int32) (σ : MSt) (σ' : MSt) (hf : f_X12_laneLine p1 σ = some σ') : k_Mv l yX12_laneLine wsX12_laneLine rmX12_laneLine G Y w [.ref (ad 0), .int p1] σ σ' := by
  refine k_ofv (own := RX12) (cc := cX12_laneLine) (maxL := 5) none (by decide) rfl rfl (Nat.le_of_ble_eq_true rfl) ?_
  intro p e s m below meth c A C ls hl hw
  have hx := C.1
  have hb := C.2.1
  have hown := C.2.2.2.2.1
  have hts := C.2.2.2.2.2.1
  have hks := C.2.2.2.2.2.2.1
  have hl : lv_has ls 5 [(0, .ref (ad 0)), (1, .int p1)] := hl
  have b99 : ∀ (x1 : Int32) (x2 : Int32) (x3 : Int32) (σ : MSt) (H : Heap) (locs : List Loc) (ls : Array Slot), lv_has ls 5 [(0, .ref (ad 0)), (1, .int x1), (2, .int x2), (3, .int x3)] → k_W G w A s.heap σ H locs → f_X12_laneLine_b99 x1 x2 x3 σ = some σ' → W p l e rmX12_laneLine s m [.ref (ad 0), .int p1].toArray below meth c H locs 0 0 (MQ below (k_Qv G w A σ') [.ref (ad 0), .int p1].toArray s 0 0 A) (F0 m 99 ls []) := by
    intro x1 x2 x3 σ H locs ls hl hw hf
    unfold f_X12_laneLine_b99 at hf
    refine lv_aload_n hx hb dX12_laneLine_99 rfl (lv_at hl 0 rfl) ?_
    obtain ⟨σ1, hq, hf⟩ := k_bvE hf
    refine k_callVv C hw (c_X12_goOn l G Y w ad LM σ σ1 hq) (cwV 0 hts gX12_laneLine_X12_goOn rfl rfl rfl (by decide +kernel) ⟨Nat.le_of_ble_eq_true rfl, Nat.le_of_ble_eq_true rfl⟩) (k_recv C hw (LM_0 LM) rfl) rfl hl.1 rfl (Nat.le_of_ble_eq_true rfl) dX12_laneLine_100 (fun H locs hw => ?_)
    refine lv_aload_n hx hb dX12_laneLine_103 rfl (lv_at hl 0 rfl) ?_
    refine k_get C hw (LM_0 LM) (ci := 12) rfl k_in12 5 (by decide) lk12_19 (v := .ref (ad 4)) rfl dX12_laneLine_104 ?_
    refine lv_iload_n hx hb dX12_laneLine_107 rfl (lv_at hl 1 rfl) ?_
    refine lv_iload_n hx hb dX12_laneLine_108 rfl (lv_at hl 2 rfl) ?_
    obtain ⟨hi, hf⟩ := k_ckE hf
    refine k_iast C hw (LM_4 LM) hi dX12_laneLine_109 (fun σ2 eq H locs hw => ?_)
    have hf := k_nmE eq hf
    refine lv_aload_n hx hb dX12_laneLine_110 rfl (lv_at hl 0 rfl) ?_
    refine k_get C hw (LM_0 LM) (ci := 12) rfl k_in12 6 (by decide) lk12_22 (v := .ref (ad 5)) rfl dX12_laneLine_111 ?_
    refine lv_iload_n hx hb dX12_laneLine_114 rfl (lv_at hl 1 rfl) ?_
    refine lv_iload_n hx hb dX12_laneLine_115 rfl (lv_at hl 3 rfl) ?_
    obtain ⟨hi, hf⟩ := k_ckE hf
    refine k_iast C hw (LM_5 LM) hi dX12_laneLine_116 (fun σ3 eq H locs hw => ?_)
    have hf := k_nmE eq hf
    refine lv_aload_n hx hb dX12_laneLine_117 rfl (lv_at hl 0 rfl) ?_
    refine k_get C hw (LM_0 LM) (ci := 12) rfl k_in12 7 (by decide) lk12_25 (v := .ref (ad 6)) rfl dX12_laneLine_118 ?_
    refine lv_iload_n hx hb dX12_laneLine_121 rfl (lv_at hl 1 rfl) ?_
    refine lv_aload_n hx hb dX12_laneLine_122 rfl (lv_at hl 0 rfl) ?_
    refine lv_iconst (v := (1 : Int32)) hx hb dX12_laneLine_123 (by decide) ?_
    refine lv_bipush (v := (9 : Int32)) hx hb dX12_laneLine_124 (by decide) ?_
    obtain ⟨q5, σ4, hq, hf⟩ := k_bdE hf
    refine k_callVi C hw (c_X12_numeral l G Y w ad LM (1 : Int32) (9 : Int32) σ3 q5 σ4 hq) (cwV 2 hts gX12_laneLine_X12_numeral rfl rfl rfl (by decide +kernel) ⟨Nat.le_of_ble_eq_true rfl, Nat.le_of_ble_eq_true rfl⟩) (k_recv C hw (LM_0 LM) rfl) rfl hl.1 rfl (Nat.le_of_ble_eq_true rfl) dX12_laneLine_126 (fun H locs hw => ?_)
    obtain ⟨hi, hf⟩ := k_ckE hf
    refine k_iast C hw (LM_6 LM) hi dX12_laneLine_129 (fun σ6 eq H locs hw => ?_)
    have hf := k_nmE eq hf
    refine lv_aload_n hx hb dX12_laneLine_130 rfl (lv_at hl 0 rfl) ?_
    refine lv_iconst (v := (1 : Int32)) hx hb dX12_laneLine_131 (by decide) ?_
    refine lv_aload_n hx hb dX12_laneLine_132 rfl (lv_at hl 0 rfl) ?_
    refine lv_iconst (v := (1 : Int32)) hx hb dX12_laneLine_133 (by decide) ?_
    obtain ⟨q8, σ7, hq, hf⟩ := k_bdE hf
    refine k_callVi C hw (c_X12_fresher l G Y w ad LM (1 : Int32) σ6 q8 σ7 hq) (cwV 1 hts gX12_laneLine_X12_fresher rfl rfl rfl (by decide +kernel) ⟨Nat.le_of_ble_eq_true rfl, Nat.le_of_ble_eq_true rfl⟩) (k_recv C hw (LM_0 LM) rfl) rfl hl.1 rfl (Nat.le_of_ble_eq_true rfl) dX12_laneLine_134 (fun H locs hw => ?_)
    refine lv_iconst (v := (1 : Int32)) hx hb dX12_laneLine_137 (by decide) ?_
    refine lv_iadd hx hb dX12_laneLine_138 ?_
    obtain ⟨σ9, hq, hf⟩ := k_bvE hf
    refine k_callVv C hw (c_X12_reads l G Y w ad LM (1 : Int32) (q8 + (1 : Int32)) σ7 σ9 hq) (cwV 2 hts gX12_laneLine_X12_reads rfl rfl rfl (by decide +kernel) ⟨Nat.le_of_ble_eq_true rfl, Nat.le_of_ble_eq_true rfl⟩) (k_recv C hw (LM_0 LM) rfl) rfl hl.1 rfl (Nat.le_of_ble_eq_true rfl) dX12_laneLine_139 (fun H locs hw => ?_)
    exact k_vret C hw hf dX12_laneLine_142
  have b82 : ∀ (x1 : Int32) (x2 : Int32) (x3 : Int32) (σ : MSt) (H : Heap) (locs : List Loc) (ls : Array Slot), lv_has ls 5 [(0, .ref (ad 0)), (1, .int x1), (2, .int x2), (3, .int x3)] → k_W G w A s.heap σ H locs → f_X12_laneLine_b82 x1 x2 x3 σ = some σ' → W p l e rmX12_laneLine s m [.ref (ad 0), .int p1].toArray below meth c H locs 0 0 (MQ below (k_Qv G w A σ') [.ref (ad 0), .int p1].toArray s 0 0 A) (F0 m 82 ls []) := by
    intro x1 x2 x3 σ H locs ls hl hw hf
    unfold f_X12_laneLine_b82 at hf
    refine lv_aload_n hx hb dX12_laneLine_82 rfl (lv_at hl 0 rfl) ?_
    refine k_get C hw (LM_0 LM) (ci := 12) rfl k_in12 23 (by decide) lk12_199 (v := .int (σ.1 0 23)) rfl dX12_laneLine_83 ?_
    refine lv_if_ne (tgt := 99) hx hb dX12_laneLine_86 (by decide) (fun h => ?_) (fun h => ?_)
    · have hf := k_ifF h hf
      exact b99 x1 x2 x3 σ _ _ _ (lv_sub hl [0, 1, 2, 3] rfl) hw hf
    · have hf := k_ifT h hf
      refine lv_iload_n hx hb dX12_laneLine_89 rfl (lv_at hl 2 rfl) ?_
      refine lv_iload_n hx hb dX12_laneLine_90 rfl (lv_at hl 3 rfl) ?_
      refine lv_icmp_ne (tgt := 99) hx hb dX12_laneLine_91 (by decide) (fun h => ?_) (fun h => ?_)
      · have hf := k_ifF h hf
        exact b99 x1 x2 x3 σ _ _ _ (lv_sub hl [0, 1, 2, 3] rfl) hw hf
      · have hf := k_ifT h hf
        refine lv_aload_n hx hb dX12_laneLine_94 rfl (lv_at hl 0 rfl) ?_
        refine lv_iconst (v := (5 : Int32)) hx hb dX12_laneLine_95 (by decide) ?_
        obtain ⟨σ1, hq, hf⟩ := k_bvE hf
        refine k_callVv C hw (c_X12_wrong l G Y w ad LM (5 : Int32) σ σ1 hq) (cwV 1 hts gX12_laneLine_X12_wrong rfl rfl rfl (by decide +kernel) ⟨Nat.le_of_ble_eq_true rfl, Nat.le_of_ble_eq_true rfl⟩) (k_recv C hw (LM_0 LM) rfl) rfl hl.1 rfl (Nat.le_of_ble_eq_true rfl) dX12_laneLine_96 (fun H locs hw => ?_)
        exact b99 x1 x2 x3 σ1 _ _ _ (lv_sub hl [0, 1, 2, 3] rfl) hw hf
  have b14 : ∀ (n14 : Nat) (x1 : Int32) (x2 : Int32) (x3 : Int32) (x4 : Int32) (σ : MSt) (H : Heap) (locs : List Loc) (ls : Array Slot), lv_has ls 5 [(0, .ref (ad 0)), (1, .int x1), (2, .int x2), (3, .int x3), (4, .int x4)] → k_W G w A s.heap σ H locs → f_X12_laneLine_b14 n14 x1 x2 x3 x4 σ = some σ' → W p l e rmX12_laneLine s m [.ref (ad 0), .int p1].toArray below meth c H locs 0 0 (MQ below (k_Qv G w A σ') [.ref (ad 0), .int p1].toArray s 0 0 A) (F0 m 14 ls []) := by
    intro n14
    induction n14 with
    | zero =>
      intro x1 x2 x3 x4 σ H locs ls hl hw hf
      have hf : (none : Option MSt) = some σ' := hf
      cases hf
    | succ n14 ih14 =>
      have b76 : ∀ (x1 : Int32) (x2 : Int32) (x3 : Int32) (x4 : Int32) (σ : MSt) (H : Heap) (locs : List Loc) (ls : Array Slot), lv_has ls 5 [(0, .ref (ad 0)), (1, .int x1), (2, .int x2), (3, .int x3), (4, .int x4)] → k_W G w A s.heap σ H locs → f_X12_laneLine_b76 (f_X12_laneLine_b14 n14) x1 x2 x3 x4 σ = some σ' → W p l e rmX12_laneLine s m [.ref (ad 0), .int p1].toArray below meth c H locs 0 0 (MQ below (k_Qv G w A σ') [.ref (ad 0), .int p1].toArray s 0 0 A) (F0 m 76 ls []) := by
        intro x1 x2 x3 x4 σ H locs ls hl hw hf
        unfold f_X12_laneLine_b76 at hf
        obtain ⟨u1, ex⟩ : ∃ y : Int32, y = (x4 + (1 : Int32)) := ⟨_, rfl⟩
        have hf := k_nmE ex hf
        refine lv_iinc (v := u1) (lv' := [(4, .int u1), (0, .ref (ad 0)), (1, .int x1), (2, .int x2), (3, .int x3)]) hx hb dX12_laneLine_76 hl (k := 4) rfl (by rw [ex]; rfl) (by decide) rfl (fun ls hl => ?_)
        refine lv_goto (tgt := 14) hx hb dX12_laneLine_79 (by decide) ?_
        exact ih14 x1 x2 x3 u1 σ _ _ _ (lv_sub hl [1, 2, 3, 4, 0] rfl) hw hf
      have b71 : ∀ (x1 : Int32) (x2 : Int32) (x3 : Int32) (x4 : Int32) (σ : MSt) (H : Heap) (locs : List Loc) (ls : Array Slot), lv_has ls 5 [(0, .ref (ad 0)), (1, .int x1), (2, .int x2), (3, .int x3), (4, .int x4)] → k_W G w A s.heap σ H locs → f_X12_laneLine_b71 (f_X12_laneLine_b14 n14) x1 x2 x3 x4 σ = some σ' → W p l e rmX12_laneLine s m [.ref (ad 0), .int p1].toArray below meth c H locs 0 0 (MQ below (k_Qv G w A σ') [.ref (ad 0), .int p1].toArray s 0 0 A) (F0 m 71 ls []) := by
        intro x1 x2 x3 x4 σ H locs ls hl hw hf
        unfold f_X12_laneLine_b71 at hf
        refine lv_aload_n hx hb dX12_laneLine_71 rfl (lv_at hl 0 rfl) ?_
        refine lv_iconst (v := (3 : Int32)) hx hb dX12_laneLine_72 (by decide) ?_
        obtain ⟨σ1, hq, hf⟩ := k_bvE hf
        refine k_callVv C hw (c_X12_wrong l G Y w ad LM (3 : Int32) σ σ1 hq) (cwV 1 hts gX12_laneLine_X12_wrong rfl rfl rfl (by decide +kernel) ⟨Nat.le_of_ble_eq_true rfl, Nat.le_of_ble_eq_true rfl⟩) (k_recv C hw (LM_0 LM) rfl) rfl hl.1 rfl (Nat.le_of_ble_eq_true rfl) dX12_laneLine_73 (fun H locs hw => ?_)
        exact b76 x1 x2 x3 x4 σ1 _ _ _ (lv_sub hl [0, 1, 2, 3, 4] rfl) hw hf
      have b49 : ∀ (x1 : Int32) (x2 : Int32) (x3 : Int32) (x4 : Int32) (σ : MSt) (H : Heap) (locs : List Loc) (ls : Array Slot), lv_has ls 5 [(0, .ref (ad 0)), (1, .int x1), (2, .int x2), (3, .int x3), (4, .int x4)] → k_W G w A s.heap σ H locs → f_X12_laneLine_b49 (f_X12_laneLine_b14 n14) x1 x2 x3 x4 σ = some σ' → W p l e rmX12_laneLine s m [.ref (ad 0), .int p1].toArray below meth c H locs 0 0 (MQ below (k_Qv G w A σ') [.ref (ad 0), .int p1].toArray s 0 0 A) (F0 m 49 ls []) := by
        intro x1 x2 x3 x4 σ H locs ls hl hw hf
        unfold f_X12_laneLine_b49 at hf
        refine lv_aload_n hx hb dX12_laneLine_49 rfl (lv_at hl 0 rfl) ?_
        refine k_get C hw (LM_0 LM) (ci := 12) rfl k_in12 5 (by decide) lk12_19 (v := .ref (ad 4)) rfl dX12_laneLine_50 ?_
        refine lv_iload hx hb dX12_laneLine_53 (lv_at hl 4 rfl) ?_
        obtain ⟨hi, hf⟩ := k_ckE hf
        refine k_iald C hw (LM_4 LM) hi dX12_laneLine_55 ?_
        refine lv_iload_n hx hb dX12_laneLine_56 rfl (lv_at hl 3 rfl) ?_
        refine lv_icmp_ne (tgt := 76) hx hb dX12_laneLine_57 (by decide) (fun h => ?_) (fun h => ?_)
        · have hf := k_ifF h hf
          exact b76 x1 x2 x3 x4 σ _ _ _ (lv_sub hl [0, 1, 2, 3, 4] rfl) hw hf
        · have hf := k_ifT h hf
          refine lv_aload_n hx hb dX12_laneLine_60 rfl (lv_at hl 0 rfl) ?_
          refine k_get C hw (LM_0 LM) (ci := 12) rfl k_in12 6 (by decide) lk12_22 (v := .ref (ad 5)) rfl dX12_laneLine_61 ?_
          refine lv_iload hx hb dX12_laneLine_64 (lv_at hl 4 rfl) ?_
          obtain ⟨hi, hf⟩ := k_ckE hf
          refine k_iald C hw (LM_5 LM) hi dX12_laneLine_66 ?_
          refine lv_iload_n hx hb dX12_laneLine_67 rfl (lv_at hl 2 rfl) ?_
          refine lv_icmp_ne (tgt := 76) hx hb dX12_laneLine_68 (by decide) (fun h => ?_) (fun h => ?_)
          · have hf := k_ifF h hf
            exact b76 x1 x2 x3 x4 σ _ _ _ (lv_sub hl [0, 1, 2, 3, 4] rfl) hw hf
          · have hf := k_ifT h hf
            exact b71 x1 x2 x3 x4 σ _ _ _ (lv_sub hl [0, 1, 2, 3, 4] rfl) hw hf
      intro x1 x2 x3 x4 σ H locs ls hl hw hf
      have hf : f_X12_laneLine_b14_s (f_X12_laneLine_b14 n14) x1 x2 x3 x4 σ = some σ' := hf
      unfold f_X12_laneLine_b14_s at hf
      refine lv_iload hx hb dX12_laneLine_14 (lv_at hl 4 rfl) ?_
      refine lv_iload_n hx hb dX12_laneLine_16 rfl (lv_at hl 1 rfl) ?_
      refine lv_icmp_ge (tgt := 82) hx hb dX12_laneLine_17 (by decide) (fun h => ?_) (fun h => ?_)
      · have hf := k_ifT h hf
        exact b82 x1 x2 x3 σ _ _ _ (lv_sub hl [0, 1, 2, 3] rfl) hw hf
      · have hf := k_ifF h hf
        refine lv_aload_n hx hb dX12_laneLine_20 rfl (lv_at hl 0 rfl) ?_
        refine k_get C hw (LM_0 LM) (ci := 12) rfl k_in12 23 (by decide) lk12_199 (v := .int (σ.1 0 23)) rfl dX12_laneLine_21 ?_
        refine lv_if_ne (tgt := 82) hx hb dX12_laneLine_24 (by decide) (fun h => ?_) (fun h => ?_)
        · have hf := k_ifF h hf
          exact b82 x1 x2 x3 σ _ _ _ (lv_sub hl [0, 1, 2, 3] rfl) hw hf
        · have hf := k_ifT h hf
          refine lv_aload_n hx hb dX12_laneLine_27 rfl (lv_at hl 0 rfl) ?_
          refine k_get C hw (LM_0 LM) (ci := 12) rfl k_in12 5 (by decide) lk12_19 (v := .ref (ad 4)) rfl dX12_laneLine_28 ?_
          refine lv_iload hx hb dX12_laneLine_31 (lv_at hl 4 rfl) ?_
          obtain ⟨hi, hf⟩ := k_ckE hf
          refine k_iald C hw (LM_4 LM) hi dX12_laneLine_33 ?_
          refine lv_iload_n hx hb dX12_laneLine_34 rfl (lv_at hl 2 rfl) ?_
          refine lv_icmp_ne (tgt := 49) hx hb dX12_laneLine_35 (by decide) (fun h => ?_) (fun h => ?_)
          · have hf := k_ifF h hf
            exact b49 x1 x2 x3 x4 σ _ _ _ (lv_sub hl [0, 1, 2, 3, 4] rfl) hw hf
          · have hf := k_ifT h hf
            refine lv_aload_n hx hb dX12_laneLine_38 rfl (lv_at hl 0 rfl) ?_
            refine k_get C hw (LM_0 LM) (ci := 12) rfl k_in12 6 (by decide) lk12_22 (v := .ref (ad 5)) rfl dX12_laneLine_39 ?_
            refine lv_iload hx hb dX12_laneLine_42 (lv_at hl 4 rfl) ?_
            obtain ⟨hi, hf⟩ := k_ckE hf
            refine k_iald C hw (LM_5 LM) hi dX12_laneLine_44 ?_
            refine lv_iload_n hx hb dX12_laneLine_45 rfl (lv_at hl 3 rfl) ?_
            refine lv_icmp_eq (tgt := 71) hx hb dX12_laneLine_46 (by decide) (fun h => ?_) (fun h => ?_)
            · have hf := k_ifT h hf
              exact b71 x1 x2 x3 x4 σ _ _ _ (lv_sub hl [0, 1, 2, 3, 4] rfl) hw hf
            · have hf := k_ifF h hf
              exact b49 x1 x2 x3 x4 σ _ _ _ (lv_sub hl [0, 1, 2, 3, 4] rfl) hw hf
  unfold f_X12_laneLine at hf
  refine lv_aload_n hx hb dX12_laneLine_0 rfl (lv_at hl 0 rfl) ?_
  obtain ⟨q2, σ1, hq, hf⟩ := k_bdE hf
  refine k_callVi C hw (c_X12_bayAhead l G Y w ad LM σ q2 σ1 hq) (cwV 0 hts gX12_laneLine_X12_bayAhead rfl rfl rfl (by decide +kernel) ⟨Nat.le_of_ble_eq_true rfl, Nat.le_of_ble_eq_true rfl⟩) (k_recv C hw (LM_0 LM) rfl) rfl hl.1 rfl (Nat.le_of_ble_eq_true rfl) dX12_laneLine_1 (fun H locs hw => ?_)
  refine lv_istore_n (lv' := [(2, .int q2), (0, .ref (ad 0)), (1, .int p1)]) hx hb dX12_laneLine_4 rfl hl (by decide) rfl (fun ls hl => ?_)
  refine lv_aload_n hx hb dX12_laneLine_5 rfl (lv_at hl 1 rfl) ?_
  obtain ⟨q4, σ3, hq, hf⟩ := k_bdE hf
  refine k_callVi C hw (c_X12_bayAtHand l G Y w ad LM σ1 q4 σ3 hq) (cwV 0 hts gX12_laneLine_X12_bayAtHand rfl rfl rfl (by decide +kernel) ⟨Nat.le_of_ble_eq_true rfl, Nat.le_of_ble_eq_true rfl⟩) (k_recv C hw (LM_0 LM) rfl) rfl hl.1 rfl (Nat.le_of_ble_eq_true rfl) dX12_laneLine_6 (fun H locs hw => ?_)
  refine lv_istore_n (lv' := [(3, .int q4), (2, .int q2), (0, .ref (ad 0)), (1, .int p1)]) hx hb dX12_laneLine_9 rfl hl (by decide) rfl (fun ls hl => ?_)
  refine lv_bipush (v := (12 : Int32)) hx hb dX12_laneLine_10 (by decide) ?_
  refine lv_istore (lv' := [(4, .int (12 : Int32)), (3, .int q4), (2, .int q2), (0, .ref (ad 0)), (1, .int p1)]) hx hb dX12_laneLine_12 hl (by decide) rfl (fun ls hl => ?_)
  exact b14 FU p1 q2 q4 (12 : Int32) σ3 _ _ _ (lv_sub hl [3, 4, 2, 1, 0] rfl) hw hf
def f_X12_knot_b35   (σ : MSt) : Option MSt :=
  some σ
def f_X12_knot   (σ : MSt) : Option MSt :=
  if (σ.1 0 23) = 0 then
  (if (σ.1 0 28) = (64 : Int32) then
  (k_bv (f_X12_wrong (2 : Int32) σ) fun σ2 =>
  f_X12_knot_b35 σ2)
  else
  (k_nm (mI σ 0 28 ((σ.1 0 28) + (1 : Int32))) fun σ1 =>
  f_X12_knot_b35 σ1))
  else
  (some σ)
def rmX12_knot : Room := { frames := 1, cells := 0, slots := 0, locals := 21 }
set_option maxHeartbeats 4000000 in
set_option maxRecDepth 100000 in
theorem c_X12_knot (l : Launch) (G : va_G) (Y : CY) (w : MSt → va_W) (ad : Nat → Nat)  (LM : LayM ad w Y)  (σ : MSt) (σ' : MSt) (hf : f_X12_knot σ = some σ') : k_Mv l yX12_knot wsX12_knot rmX12_knot G Y w [.ref (ad 0)] σ σ' := by
  refine k_ofv (own := RX12) (cc := cX12_knot) (maxL := 1) none (by decide) rfl rfl (Nat.le_of_ble_eq_true rfl) ?_
  intro p e s m below meth c A C ls hl hw
  have hx := C.1
  have hb := C.2.1
  have hown := C.2.2.2.2.1
  have hts := C.2.2.2.2.2.1
  have hks := C.2.2.2.2.2.2.1
  have hl : lv_has ls 1 [(0, .ref (ad 0))] := hl
  have b35 : ∀ (σ : MSt) (H : Heap) (locs : List Loc) (ls : Array Slot), lv_has ls 1 [] → k_W G w A s.heap σ H locs → f_X12_knot_b35 σ = some σ' → W p l e rmX12_knot s m [.ref (ad 0)].toArray below meth c H locs 0 0 (MQ below (k_Qv G w A σ') [.ref (ad 0)].toArray s 0 0 A) (F0 m 35 ls []) := by
    intro σ H locs ls hl hw hf
    unfold f_X12_knot_b35 at hf
    exact k_vret C hw hf dX12_knot_35
  unfold f_X12_knot at hf
  refine lv_aload_n hx hb dX12_knot_0 rfl (lv_at hl 0 rfl) ?_
  refine k_get C hw (LM_0 LM) (ci := 12) rfl k_in12 23 (by decide) lk12_199 (v := .int (σ.1 0 23)) rfl dX12_knot_1 ?_
  refine lv_if_eq (tgt := 8) hx hb dX12_knot_4 (by decide) (fun h => ?_) (fun h => ?_)
  · have hf := k_ifT h hf
    refine lv_aload_n hx hb dX12_knot_8 rfl (lv_at hl 0 rfl) ?_
    refine k_get C hw (LM_0 LM) (ci := 12) rfl k_in12 28 (by decide) lk12_261 (v := .int (σ.1 0 28)) rfl dX12_knot_9 ?_
    refine lv_bipush (v := (64 : Int32)) hx hb dX12_knot_12 (by decide) ?_
    refine lv_icmp_ne (tgt := 25) hx hb dX12_knot_14 (by decide) (fun h => ?_) (fun h => ?_)
    · have hf := k_ifF h hf
      refine lv_aload_n hx hb dX12_knot_25 rfl (lv_at hl 0 rfl) ?_
      refine lv_dup hx hb dX12_knot_26 rfl ?_
      refine k_get C hw (LM_0 LM) (ci := 12) rfl k_in12 28 (by decide) lk12_261 (v := .int (σ.1 0 28)) rfl dX12_knot_27 ?_
      refine lv_iconst (v := (1 : Int32)) hx hb dX12_knot_30 (by decide) ?_
      refine lv_iadd hx hb dX12_knot_31 ?_
      refine k_put C hw (LM_0 LM) (ci := 12) rfl k_in12 tyX12 tyX12_ok nmX12 28 (by decide) lk12_261 rfl ⟨rfl, rfl⟩ rfl dX12_knot_32 (fun σ1 eq H locs hw => ?_)
      have hf := k_nmE eq hf
      exact b35 σ1 _ _ _ (lv_sub hl [] rfl) hw hf
    · have hf := k_ifT h hf
      refine lv_aload_n hx hb dX12_knot_17 rfl (lv_at hl 0 rfl) ?_
      refine lv_iconst (v := (2 : Int32)) hx hb dX12_knot_18 (by decide) ?_
      obtain ⟨σ2, hq, hf⟩ := k_bvE hf
      refine k_callVv C hw (c_X12_wrong l G Y w ad LM (2 : Int32) σ σ2 hq) (cwV 1 hts gX12_knot_X12_wrong rfl rfl rfl (by decide +kernel) ⟨Nat.le_of_ble_eq_true rfl, Nat.le_of_ble_eq_true rfl⟩) (k_recv C hw (LM_0 LM) rfl) rfl hl.1 rfl (Nat.le_of_ble_eq_true rfl) dX12_knot_19 (fun H locs hw => ?_)
      refine lv_goto (tgt := 35) hx hb dX12_knot_22 (by decide) ?_
      exact b35 σ2 _ _ _ (lv_sub hl [] rfl) hw hf
  · have hf := k_ifF h hf
    exact k_vret C hw hf dX12_knot_7
def f_X12_puts  (p1 : Int32) (p2 : Int32) (σ : MSt) : Option MSt :=
  if (σ.1 0 23) = 0 then
  (k_bd (f_X12_fresher (8 : Int32) σ) fun q2 σ1 =>
  k_ck (k_inb ((64 : Int32) + q2) 128) <|
  k_nm (mI σ1 13 (((64 : Int32) + q2)).toNatClampNeg p1) fun σ3 =>
  k_bd (f_X12_fresher (8 : Int32) σ3) fun q5 σ4 =>
  k_ck (k_inb ((64 : Int32) + q5) 128) <|
  k_nm (mI σ4 14 (((64 : Int32) + q5)).toNatClampNeg p2) fun σ6 =>
  k_bd (f_X12_fresher (8 : Int32) σ6) fun q8 σ7 =>
  k_bv (f_X12_reads (8 : Int32) (q8 + (1 : Int32)) σ7) fun σ9 =>
  some σ9)
  else
  (some σ)
def rmX12_puts : Room := { frames := 1, cells := 0, slots := 0, locals := 22 }
set_option maxHeartbeats 4000000 in
set_option maxRecDepth 100000 in
theorem c_X12_puts (l : Launch) (G : va_G) (Y : CY) (w : MSt → va_W) (ad : Nat → Nat)  (LM : LayM ad w Y) (p1 : Int32) (p2 : Int32) (σ : MSt) (σ' : MSt) (hf : f_X12_puts p1 p2 σ = some σ') : k_Mv l yX12_puts wsX12_puts rmX12_puts G Y w [.ref (ad 0), .int p1, .int p2] σ σ' := by
  refine k_ofv (own := RX12) (cc := cX12_puts) (maxL := 3) none (by decide) rfl rfl (Nat.le_of_ble_eq_true rfl) ?_
  intro p e s m below meth c A C ls hl hw
  have hx := C.1
  have hb := C.2.1
  have hown := C.2.2.2.2.1
  have hts := C.2.2.2.2.2.1
  have hks := C.2.2.2.2.2.2.1
  have hl : lv_has ls 3 [(0, .ref (ad 0)), (1, .int p1), (2, .int p2)] := hl
  unfold f_X12_puts at hf
  refine lv_aload_n hx hb dX12_puts_0 rfl (lv_at hl 0 rfl) ?_
  refine k_get C hw (LM_0 LM) (ci := 12) rfl k_in12 23 (by decide) lk12_199 (v := .int (σ.1 0 23)) rfl dX12_puts_1 ?_
  refine lv_if_eq (tgt := 8) hx hb dX12_puts_4 (by decide) (fun h => ?_) (fun h => ?_)
  · have hf := k_ifT h hf
    refine lv_aload_n hx hb dX12_puts_8 rfl (lv_at hl 0 rfl) ?_
    refine k_get C hw (LM_0 LM) (ci := 12) rfl k_in12 14 (by decide) lk12_46 (v := .ref (ad 13)) rfl dX12_puts_9 ?_
    refine lv_bipush (v := (64 : Int32)) hx hb dX12_puts_12 (by decide) ?_
    refine lv_aload_n hx hb dX12_puts_14 rfl (lv_at hl 0 rfl) ?_
    refine lv_bipush (v := (8 : Int32)) hx hb dX12_puts_15 (by decide) ?_
    obtain ⟨q2, σ1, hq, hf⟩ := k_bdE hf
    refine k_callVi C hw (c_X12_fresher l G Y w ad LM (8 : Int32) σ q2 σ1 hq) (cwV 1 hts gX12_puts_X12_fresher rfl rfl rfl (by decide +kernel) ⟨Nat.le_of_ble_eq_true rfl, Nat.le_of_ble_eq_true rfl⟩) (k_recv C hw (LM_0 LM) rfl) rfl hl.1 rfl (Nat.le_of_ble_eq_true rfl) dX12_puts_17 (fun H locs hw => ?_)
    refine lv_iadd hx hb dX12_puts_20 ?_
    refine lv_iload_n hx hb dX12_puts_21 rfl (lv_at hl 1 rfl) ?_
    obtain ⟨hi, hf⟩ := k_ckE hf
    refine k_iast C hw (LM_13 LM) hi dX12_puts_22 (fun σ3 eq H locs hw => ?_)
    have hf := k_nmE eq hf
    refine lv_aload_n hx hb dX12_puts_23 rfl (lv_at hl 0 rfl) ?_
    refine k_get C hw (LM_0 LM) (ci := 12) rfl k_in12 15 (by decide) lk12_49 (v := .ref (ad 14)) rfl dX12_puts_24 ?_
    refine lv_bipush (v := (64 : Int32)) hx hb dX12_puts_27 (by decide) ?_
    refine lv_aload_n hx hb dX12_puts_29 rfl (lv_at hl 0 rfl) ?_
    refine lv_bipush (v := (8 : Int32)) hx hb dX12_puts_30 (by decide) ?_
    obtain ⟨q5, σ4, hq, hf⟩ := k_bdE hf
    refine k_callVi C hw (c_X12_fresher l G Y w ad LM (8 : Int32) σ3 q5 σ4 hq) (cwV 1 hts gX12_puts_X12_fresher rfl rfl rfl (by decide +kernel) ⟨Nat.le_of_ble_eq_true rfl, Nat.le_of_ble_eq_true rfl⟩) (k_recv C hw (LM_0 LM) rfl) rfl hl.1 rfl (Nat.le_of_ble_eq_true rfl) dX12_puts_32 (fun H locs hw => ?_)
    refine lv_iadd hx hb dX12_puts_35 ?_
    refine lv_iload_n hx hb dX12_puts_36 rfl (lv_at hl 2 rfl) ?_
    obtain ⟨hi, hf⟩ := k_ckE hf
    refine k_iast C hw (LM_14 LM) hi dX12_puts_37 (fun σ6 eq H locs hw => ?_)
    have hf := k_nmE eq hf
    refine lv_aload_n hx hb dX12_puts_38 rfl (lv_at hl 0 rfl) ?_
    refine lv_bipush (v := (8 : Int32)) hx hb dX12_puts_39 (by decide) ?_
    refine lv_aload_n hx hb dX12_puts_41 rfl (lv_at hl 0 rfl) ?_
    refine lv_bipush (v := (8 : Int32)) hx hb dX12_puts_42 (by decide) ?_
    obtain ⟨q8, σ7, hq, hf⟩ := k_bdE hf
    refine k_callVi C hw (c_X12_fresher l G Y w ad LM (8 : Int32) σ6 q8 σ7 hq) (cwV 1 hts gX12_puts_X12_fresher rfl rfl rfl (by decide +kernel) ⟨Nat.le_of_ble_eq_true rfl, Nat.le_of_ble_eq_true rfl⟩) (k_recv C hw (LM_0 LM) rfl) rfl hl.1 rfl (Nat.le_of_ble_eq_true rfl) dX12_puts_44 (fun H locs hw => ?_)
    refine lv_iconst (v := (1 : Int32)) hx hb dX12_puts_47 (by decide) ?_
    refine lv_iadd hx hb dX12_puts_48 ?_
    obtain ⟨σ9, hq, hf⟩ := k_bvE hf
    refine k_callVv C hw (c_X12_reads l G Y w ad LM (8 : Int32) (q8 + (1 : Int32)) σ7 σ9 hq) (cwV 2 hts gX12_puts_X12_reads rfl rfl rfl (by decide +kernel) ⟨Nat.le_of_ble_eq_true rfl, Nat.le_of_ble_eq_true rfl⟩) (k_recv C hw (LM_0 LM) rfl) rfl hl.1 rfl (Nat.le_of_ble_eq_true rfl) dX12_puts_49 (fun H locs hw => ?_)
    exact k_vret C hw hf dX12_puts_52
  · have hf := k_ifF h hf
    exact k_vret C hw hf dX12_puts_7
def rmR (d : Nat) : Room := { frames := 40 + d, cells := 0, slots := 0, locals := 400 + 40 * d }
def f_X12_primary_b194 (Rf : Nat → MSt → Option MSt) (y1 : Int32) (y2 : Int32) (σ : MSt) : Option MSt :=
  k_bv (f_X12_puts y1 y2 σ) fun σ1 =>
  k_bv (f_X12_goOn σ1) fun σ2 =>
  some σ2
def f_X12_primary_b176 (Rf : Nat → MSt → Option MSt) (x1 : Int32) (y1 : Int32) (σ : MSt) : Option MSt :=
  if x1 = 0 then
  (f_X12_primary_b194 Rf y1 ((σ.1 0 22) - (15 : Int32)) σ)
  else
  (f_X12_primary_b194 Rf y1 (σ.1 0 22) σ)
def f_X12_primary_b162 (Rf : Nat → MSt → Option MSt) (x1 : Int32) (σ : MSt) : Option MSt :=
  k_bv (f_X12_knot σ) fun σ1 =>
  if x1 = 0 then
  (f_X12_primary_b176 Rf x1 (1 : Int32) σ1)
  else
  (f_X12_primary_b176 Rf x1 (0 : Int32) σ1)
def f_X12_primary_b157 (Rf : Nat → MSt → Option MSt) (x1 : Int32) (σ : MSt) : Option MSt :=
  k_bv (f_X12_wrong (1 : Int32) σ) fun σ1 =>
  f_X12_primary_b162 Rf x1 σ1
def f_X12_primary_b137 (Rf : Nat → MSt → Option MSt) (x1 : Int32) (σ : MSt) : Option MSt :=
  if x1 = 0 then
  (if (σ.1 0 21) = 0 then
  (if (15 : Int32) ≤ (σ.1 0 22) then
  (f_X12_primary_b162 Rf x1 σ)
  else
  (f_X12_primary_b157 Rf x1 σ))
  else
  (f_X12_primary_b157 Rf x1 σ))
  else
  (f_X12_primary_b162 Rf x1 σ)
def f_X12_primary_b114 (Rf : Nat → MSt → Option MSt) (y0 : Int32) (σ : MSt) : Option MSt :=
  if y0 = 0 then
  (f_X12_primary_b137 Rf y0 σ)
  else
  (if (σ.1 0 22) ≤ (9999 : Int32) then
  (f_X12_primary_b137 Rf y0 σ)
  else
  (k_bv (f_X12_wrong (2 : Int32) σ) fun σ1 =>
  f_X12_primary_b162 Rf y0 σ1))
def f_X12_primary_b78 (Rf : Nat → MSt → Option MSt)  (σ : MSt) : Option MSt :=
  if (σ.1 0 23) = 0 then
  (k_nm (mI σ 0 27 ((σ.1 0 27) - (1 : Int32))) fun σ1 =>
  k_bv (f_X12_token σ1) fun σ2 =>
  some σ2)
  else
  (some σ)
def f_X12_primary_b31 (Rf : Nat → MSt → Option MSt)  (σ : MSt) : Option MSt :=
  if (σ.1 0 23) = 0 then
  (k_nm (mI σ 0 27 ((σ.1 0 27) + (1 : Int32))) fun σ1 =>
  k_bv (f_X12_token σ1) fun σ2 =>
  k_bv (Rf 0 σ2) fun σ3 =>
  if (σ3.1 0 23) = 0 then
  (k_bd (f_X12_isSign (41 : Int32) σ3) fun q5 σ4 =>
  if q5 = 0 then
  (k_bv (f_X12_wrong (1 : Int32) σ4) fun σ6 =>
  f_X12_primary_b78 Rf σ6)
  else
  (f_X12_primary_b78 Rf σ4))
  else
  (f_X12_primary_b78 Rf σ3))
  else
  (some σ)
def f_X12_primary_r (Rf : Nat → MSt → Option MSt)  (σ : MSt) : Option MSt :=
  if (σ.1 0 23) = 0 then
  (k_bd (f_X12_isSign (40 : Int32) σ) fun q8 σ7 =>
  if q8 = 0 then
  (if (σ7.1 0 21) = (2 : Int32) then
  (f_X12_primary_b114 Rf (1 : Int32) σ7)
  else
  (f_X12_primary_b114 Rf (0 : Int32) σ7))
  else
  (if (σ7.1 0 27) = (8 : Int32) then
  (k_bv (f_X12_wrong (2 : Int32) σ7) fun σ9 =>
  f_X12_primary_b31 Rf σ9)
  else
  (f_X12_primary_b31 Rf σ7)))
  else
  (some σ)
set_option maxHeartbeats 4000000 in
set_option maxRecDepth 100000 in
theorem c_X12_primary_r (l : Launch) (d : Nat) (G : va_G) (Y : CY) (w : MSt → va_W) (ad : Nat → Nat) (Rf : Nat → MSt → Option MSt) (LM : LayM ad w Y) (ih0_ : ∀ (σ σ' : MSt), Rf 0 σ = some σ' → k_Mv l yX12_expression wsX12_expression (rmR d) G Y w [.ref (ad 0)] σ σ') (ih1_ : ∀ (σ σ' : MSt), Rf 1 σ = some σ' → k_Mv l yX12_conjunction wsX12_conjunction (rmR d) G Y w [.ref (ad 0)] σ σ') (ih2_ : ∀ (σ σ' : MSt), Rf 2 σ = some σ' → k_Mv l yX12_negation wsX12_negation (rmR d) G Y w [.ref (ad 0)] σ σ') (ih3_ : ∀ (σ σ' : MSt), Rf 3 σ = some σ' → k_Mv l yX12_sum wsX12_sum (rmR d) G Y w [.ref (ad 0)] σ σ') (ih4_ : ∀ (σ σ' : MSt), Rf 4 σ = some σ' → k_Mv l yX12_product wsX12_product (rmR d) G Y w [.ref (ad 0)] σ σ') (ih5_ : ∀ (σ σ' : MSt), Rf 5 σ = some σ' → k_Mv l yX12_primary wsX12_primary (rmR d) G Y w [.ref (ad 0)] σ σ')  (σ : MSt) (σ' : MSt) (hf : f_X12_primary_r Rf σ = some σ') : k_Mv l yX12_primary wsX12_primary (rmR (d + 1)) G Y w [.ref (ad 0)] σ σ' := by
  refine k_ofv (own := RX12) (cc := cX12_primary) (maxL := 2) none (by decide) rfl rfl (Nat.le_of_ble_eq_true rfl) ?_
  intro p e s m below meth c A C ls hl hw
  have hx := C.1
  have hb := C.2.1
  have hown := C.2.2.2.2.1
  have hts := C.2.2.2.2.2.1
  have hks := C.2.2.2.2.2.2.1
  have hl : lv_has ls 2 [(0, .ref (ad 0))] := hl
  have b194 : ∀ (y1 : Int32) (y2 : Int32) (σ : MSt) (H : Heap) (locs : List Loc) (ls : Array Slot), lv_has ls 2 [(0, .ref (ad 0))] → k_W G w A s.heap σ H locs → f_X12_primary_b194 Rf y1 y2 σ = some σ' → W p l e (rmR (d + 1)) s m [.ref (ad 0)].toArray below meth c H locs 0 0 (MQ below (k_Qv G w A σ') [.ref (ad 0)].toArray s 0 0 A) (F0 m 194 ls [.int y2, .int y1, .ref (ad 0)]) := by
    intro y1 y2 σ H locs ls hl hw hf
    unfold f_X12_primary_b194 at hf
    obtain ⟨σ1, hq, hf⟩ := k_bvE hf
    refine k_callVv C hw (c_X12_puts l G Y w ad LM y1 y2 σ σ1 hq) (cwV 2 hts gX12_primary_X12_puts rfl rfl rfl (by decide +kernel) ⟨by simp only [rmR, rmX12_puts]; omega, by simp only [rmR, rmX12_puts]; omega⟩) (k_recv C hw (LM_0 LM) rfl) rfl hl.1 rfl (Nat.le_of_ble_eq_true rfl) dX12_primary_194 (fun H locs hw => ?_)
    refine lv_aload_n hx hb dX12_primary_197 rfl (lv_at hl 0 rfl) ?_
    obtain ⟨σ2, hq, hf⟩ := k_bvE hf
    refine k_callVv C hw (c_X12_goOn l G Y w ad LM σ1 σ2 hq) (cwV 0 hts gX12_primary_X12_goOn rfl rfl rfl (by decide +kernel) ⟨by simp only [rmR, rmX12_goOn]; omega, by simp only [rmR, rmX12_goOn]; omega⟩) (k_recv C hw (LM_0 LM) rfl) rfl hl.1 rfl (Nat.le_of_ble_eq_true rfl) dX12_primary_198 (fun H locs hw => ?_)
    exact k_vret C hw hf dX12_primary_201
  have b176 : ∀ (x1 : Int32) (y1 : Int32) (σ : MSt) (H : Heap) (locs : List Loc) (ls : Array Slot), lv_has ls 2 [(0, .ref (ad 0)), (1, .int x1)] → k_W G w A s.heap σ H locs → f_X12_primary_b176 Rf x1 y1 σ = some σ' → W p l e (rmR (d + 1)) s m [.ref (ad 0)].toArray below meth c H locs 0 0 (MQ below (k_Qv G w A σ') [.ref (ad 0)].toArray s 0 0 A) (F0 m 176 ls [.int y1, .ref (ad 0)]) := by
    intro x1 y1 σ H locs ls hl hw hf
    unfold f_X12_primary_b176 at hf
    refine lv_iload_n hx hb dX12_primary_176 rfl (lv_at hl 1 rfl) ?_
    refine lv_if_eq (tgt := 187) hx hb dX12_primary_177 (by decide) (fun h => ?_) (fun h => ?_)
    · have hf := k_ifT h hf
      refine lv_aload_n hx hb dX12_primary_187 rfl (lv_at hl 0 rfl) ?_
      refine k_get C hw (LM_0 LM) (ci := 12) rfl k_in12 22 (by decide) lk12_174 (v := .int (σ.1 0 22)) rfl dX12_primary_188 ?_
      refine lv_bipush (v := (15 : Int32)) hx hb dX12_primary_191 (by decide) ?_
      refine lv_isub hx hb dX12_primary_193 ?_
      exact b194 y1 ((σ.1 0 22) - (15 : Int32)) σ _ _ _ (lv_sub hl [0] rfl) hw hf
    · have hf := k_ifF h hf
      refine lv_aload_n hx hb dX12_primary_180 rfl (lv_at hl 0 rfl) ?_
      refine k_get C hw (LM_0 LM) (ci := 12) rfl k_in12 22 (by decide) lk12_174 (v := .int (σ.1 0 22)) rfl dX12_primary_181 ?_
      refine lv_goto (tgt := 194) hx hb dX12_primary_184 (by decide) ?_
      exact b194 y1 (σ.1 0 22) σ _ _ _ (lv_sub hl [0] rfl) hw hf
  have b162 : ∀ (x1 : Int32) (σ : MSt) (H : Heap) (locs : List Loc) (ls : Array Slot), lv_has ls 2 [(0, .ref (ad 0)), (1, .int x1)] → k_W G w A s.heap σ H locs → f_X12_primary_b162 Rf x1 σ = some σ' → W p l e (rmR (d + 1)) s m [.ref (ad 0)].toArray below meth c H locs 0 0 (MQ below (k_Qv G w A σ') [.ref (ad 0)].toArray s 0 0 A) (F0 m 162 ls []) := by
    intro x1 σ H locs ls hl hw hf
    unfold f_X12_primary_b162 at hf
    refine lv_aload_n hx hb dX12_primary_162 rfl (lv_at hl 0 rfl) ?_
    obtain ⟨σ1, hq, hf⟩ := k_bvE hf
    refine k_callVv C hw (c_X12_knot l G Y w ad LM σ σ1 hq) (cwV 0 hts gX12_primary_X12_knot rfl rfl rfl (by decide +kernel) ⟨by simp only [rmR, rmX12_knot]; omega, by simp only [rmR, rmX12_knot]; omega⟩) (k_recv C hw (LM_0 LM) rfl) rfl hl.1 rfl (Nat.le_of_ble_eq_true rfl) dX12_primary_163 (fun H locs hw => ?_)
    refine lv_aload_n hx hb dX12_primary_166 rfl (lv_at hl 0 rfl) ?_
    refine lv_iload_n hx hb dX12_primary_167 rfl (lv_at hl 1 rfl) ?_
    refine lv_if_eq (tgt := 175) hx hb dX12_primary_168 (by decide) (fun h => ?_) (fun h => ?_)
    · have hf := k_ifT h hf
      refine lv_iconst (v := (1 : Int32)) hx hb dX12_primary_175 (by decide) ?_
      exact b176 x1 (1 : Int32) σ1 _ _ _ (lv_sub hl [0, 1] rfl) hw hf
    · have hf := k_ifF h hf
      refine lv_iconst (v := (0 : Int32)) hx hb dX12_primary_171 (by decide) ?_
      refine lv_goto (tgt := 176) hx hb dX12_primary_172 (by decide) ?_
      exact b176 x1 (0 : Int32) σ1 _ _ _ (lv_sub hl [0, 1] rfl) hw hf
  have b157 : ∀ (x1 : Int32) (σ : MSt) (H : Heap) (locs : List Loc) (ls : Array Slot), lv_has ls 2 [(0, .ref (ad 0)), (1, .int x1)] → k_W G w A s.heap σ H locs → f_X12_primary_b157 Rf x1 σ = some σ' → W p l e (rmR (d + 1)) s m [.ref (ad 0)].toArray below meth c H locs 0 0 (MQ below (k_Qv G w A σ') [.ref (ad 0)].toArray s 0 0 A) (F0 m 157 ls []) := by
    intro x1 σ H locs ls hl hw hf
    unfold f_X12_primary_b157 at hf
    refine lv_aload_n hx hb dX12_primary_157 rfl (lv_at hl 0 rfl) ?_
    refine lv_iconst (v := (1 : Int32)) hx hb dX12_primary_158 (by decide) ?_
    obtain ⟨σ1, hq, hf⟩ := k_bvE hf
    refine k_callVv C hw (c_X12_wrong l G Y w ad LM (1 : Int32) σ σ1 hq) (cwV 1 hts gX12_primary_X12_wrong rfl rfl rfl (by decide +kernel) ⟨by simp only [rmR, rmX12_wrong]; omega, by simp only [rmR, rmX12_wrong]; omega⟩) (k_recv C hw (LM_0 LM) rfl) rfl hl.1 rfl (Nat.le_of_ble_eq_true rfl) dX12_primary_159 (fun H locs hw => ?_)
    exact b162 x1 σ1 _ _ _ (lv_sub hl [0, 1] rfl) hw hf
  have b137 : ∀ (x1 : Int32) (σ : MSt) (H : Heap) (locs : List Loc) (ls : Array Slot), lv_has ls 2 [(0, .ref (ad 0)), (1, .int x1)] → k_W G w A s.heap σ H locs → f_X12_primary_b137 Rf x1 σ = some σ' → W p l e (rmR (d + 1)) s m [.ref (ad 0)].toArray below meth c H locs 0 0 (MQ below (k_Qv G w A σ') [.ref (ad 0)].toArray s 0 0 A) (F0 m 137 ls []) := by
    intro x1 σ H locs ls hl hw hf
    unfold f_X12_primary_b137 at hf
    refine lv_iload_n hx hb dX12_primary_137 rfl (lv_at hl 1 rfl) ?_
    refine lv_if_ne (tgt := 162) hx hb dX12_primary_138 (by decide) (fun h => ?_) (fun h => ?_)
    · have hf := k_ifF h hf
      exact b162 x1 σ _ _ _ (lv_sub hl [0, 1] rfl) hw hf
    · have hf := k_ifT h hf
      refine lv_aload_n hx hb dX12_primary_141 rfl (lv_at hl 0 rfl) ?_
      refine k_get C hw (LM_0 LM) (ci := 12) rfl k_in12 21 (by decide) lk12_164 (v := .int (σ.1 0 21)) rfl dX12_primary_142 ?_
      refine lv_if_ne (tgt := 157) hx hb dX12_primary_145 (by decide) (fun h => ?_) (fun h => ?_)
      · have hf := k_ifF h hf
        exact b157 x1 σ _ _ _ (lv_sub hl [0, 1] rfl) hw hf
      · have hf := k_ifT h hf
        refine lv_aload_n hx hb dX12_primary_148 rfl (lv_at hl 0 rfl) ?_
        refine k_get C hw (LM_0 LM) (ci := 12) rfl k_in12 22 (by decide) lk12_174 (v := .int (σ.1 0 22)) rfl dX12_primary_149 ?_
        refine lv_bipush (v := (15 : Int32)) hx hb dX12_primary_152 (by decide) ?_
        refine lv_icmp_ge (tgt := 162) hx hb dX12_primary_154 (by decide) (fun h => ?_) (fun h => ?_)
        · have hf := k_ifT h hf
          exact b162 x1 σ _ _ _ (lv_sub hl [0, 1] rfl) hw hf
        · have hf := k_ifF h hf
          exact b157 x1 σ _ _ _ (lv_sub hl [0, 1] rfl) hw hf
  have b114 : ∀ (y0 : Int32) (σ : MSt) (H : Heap) (locs : List Loc) (ls : Array Slot), lv_has ls 2 [(0, .ref (ad 0))] → k_W G w A s.heap σ H locs → f_X12_primary_b114 Rf y0 σ = some σ' → W p l e (rmR (d + 1)) s m [.ref (ad 0)].toArray below meth c H locs 0 0 (MQ below (k_Qv G w A σ') [.ref (ad 0)].toArray s 0 0 A) (F0 m 114 ls [.int y0]) := by
    intro y0 σ H locs ls hl hw hf
    unfold f_X12_primary_b114 at hf
    refine lv_istore_n (lv' := [(1, .int y0), (0, .ref (ad 0))]) hx hb dX12_primary_114 rfl hl (by decide) rfl (fun ls hl => ?_)
    refine lv_iload_n hx hb dX12_primary_115 rfl (lv_at hl 0 rfl) ?_
    refine lv_if_eq (tgt := 137) hx hb dX12_primary_116 (by decide) (fun h => ?_) (fun h => ?_)
    · have hf := k_ifT h hf
      exact b137 y0 σ _ _ _ (lv_sub hl [1, 0] rfl) hw hf
    · have hf := k_ifF h hf
      refine lv_aload_n hx hb dX12_primary_119 rfl (lv_at hl 1 rfl) ?_
      refine k_get C hw (LM_0 LM) (ci := 12) rfl k_in12 22 (by decide) lk12_174 (v := .int (σ.1 0 22)) rfl dX12_primary_120 ?_
      refine lv_sipush (v := (9999 : Int32)) hx hb dX12_primary_123 (by decide) ?_
      refine lv_icmp_le (tgt := 137) hx hb dX12_primary_126 (by decide) (fun h => ?_) (fun h => ?_)
      · have hf := k_ifT h hf
        exact b137 y0 σ _ _ _ (lv_sub hl [1, 0] rfl) hw hf
      · have hf := k_ifF h hf
        refine lv_aload_n hx hb dX12_primary_129 rfl (lv_at hl 1 rfl) ?_
        refine lv_iconst (v := (2 : Int32)) hx hb dX12_primary_130 (by decide) ?_
        obtain ⟨σ1, hq, hf⟩ := k_bvE hf
        refine k_callVv C hw (c_X12_wrong l G Y w ad LM (2 : Int32) σ σ1 hq) (cwV 1 hts gX12_primary_X12_wrong rfl rfl rfl (by decide +kernel) ⟨by simp only [rmR, rmX12_wrong]; omega, by simp only [rmR, rmX12_wrong]; omega⟩) (k_recv C hw (LM_0 LM) rfl) rfl hl.1 rfl (Nat.le_of_ble_eq_true rfl) dX12_primary_131 (fun H locs hw => ?_)
        refine lv_goto (tgt := 162) hx hb dX12_primary_134 (by decide) ?_
        exact b162 y0 σ1 _ _ _ (lv_sub hl [1, 0] rfl) hw hf
  have b78 : ∀ (σ : MSt) (H : Heap) (locs : List Loc) (ls : Array Slot), lv_has ls 2 [(0, .ref (ad 0))] → k_W G w A s.heap σ H locs → f_X12_primary_b78 Rf σ = some σ' → W p l e (rmR (d + 1)) s m [.ref (ad 0)].toArray below meth c H locs 0 0 (MQ below (k_Qv G w A σ') [.ref (ad 0)].toArray s 0 0 A) (F0 m 78 ls []) := by
    intro σ H locs ls hl hw hf
    unfold f_X12_primary_b78 at hf
    refine lv_aload_n hx hb dX12_primary_78 rfl (lv_at hl 0 rfl) ?_
    refine k_get C hw (LM_0 LM) (ci := 12) rfl k_in12 23 (by decide) lk12_199 (v := .int (σ.1 0 23)) rfl dX12_primary_79 ?_
    refine lv_if_eq (tgt := 86) hx hb dX12_primary_82 (by decide) (fun h => ?_) (fun h => ?_)
    · have hf := k_ifT h hf
      refine lv_aload_n hx hb dX12_primary_86 rfl (lv_at hl 0 rfl) ?_
      refine lv_dup hx hb dX12_primary_87 rfl ?_
      refine k_get C hw (LM_0 LM) (ci := 12) rfl k_in12 27 (by decide) lk12_288 (v := .int (σ.1 0 27)) rfl dX12_primary_88 ?_
      refine lv_iconst (v := (1 : Int32)) hx hb dX12_primary_91 (by decide) ?_
      refine lv_isub hx hb dX12_primary_92 ?_
      refine k_put C hw (LM_0 LM) (ci := 12) rfl k_in12 tyX12 tyX12_ok nmX12 27 (by decide) lk12_288 rfl ⟨rfl, rfl⟩ rfl dX12_primary_93 (fun σ1 eq H locs hw => ?_)
      have hf := k_nmE eq hf
      refine lv_aload_n hx hb dX12_primary_96 rfl (lv_at hl 0 rfl) ?_
      obtain ⟨σ2, hq, hf⟩ := k_bvE hf
      refine k_callVv C hw (c_X12_token l G Y w ad LM σ1 σ2 hq) (cwV 0 hts gX12_primary_X12_token rfl rfl rfl (by decide +kernel) ⟨by simp only [rmR, rmX12_token]; omega, by simp only [rmR, rmX12_token]; omega⟩) (k_recv C hw (LM_0 LM) rfl) rfl hl.1 rfl (Nat.le_of_ble_eq_true rfl) dX12_primary_97 (fun H locs hw => ?_)
      exact k_vret C hw hf dX12_primary_100
    · have hf := k_ifF h hf
      exact k_vret C hw hf dX12_primary_85
  have b31 : ∀ (σ : MSt) (H : Heap) (locs : List Loc) (ls : Array Slot), lv_has ls 2 [(0, .ref (ad 0))] → k_W G w A s.heap σ H locs → f_X12_primary_b31 Rf σ = some σ' → W p l e (rmR (d + 1)) s m [.ref (ad 0)].toArray below meth c H locs 0 0 (MQ below (k_Qv G w A σ') [.ref (ad 0)].toArray s 0 0 A) (F0 m 31 ls []) := by
    intro σ H locs ls hl hw hf
    unfold f_X12_primary_b31 at hf
    refine lv_aload_n hx hb dX12_primary_31 rfl (lv_at hl 0 rfl) ?_
    refine k_get C hw (LM_0 LM) (ci := 12) rfl k_in12 23 (by decide) lk12_199 (v := .int (σ.1 0 23)) rfl dX12_primary_32 ?_
    refine lv_if_eq (tgt := 39) hx hb dX12_primary_35 (by decide) (fun h => ?_) (fun h => ?_)
    · have hf := k_ifT h hf
      refine lv_aload_n hx hb dX12_primary_39 rfl (lv_at hl 0 rfl) ?_
      refine lv_dup hx hb dX12_primary_40 rfl ?_
      refine k_get C hw (LM_0 LM) (ci := 12) rfl k_in12 27 (by decide) lk12_288 (v := .int (σ.1 0 27)) rfl dX12_primary_41 ?_
      refine lv_iconst (v := (1 : Int32)) hx hb dX12_primary_44 (by decide) ?_
      refine lv_iadd hx hb dX12_primary_45 ?_
      refine k_put C hw (LM_0 LM) (ci := 12) rfl k_in12 tyX12 tyX12_ok nmX12 27 (by decide) lk12_288 rfl ⟨rfl, rfl⟩ rfl dX12_primary_46 (fun σ1 eq H locs hw => ?_)
      have hf := k_nmE eq hf
      refine lv_aload_n hx hb dX12_primary_49 rfl (lv_at hl 0 rfl) ?_
      obtain ⟨σ2, hq, hf⟩ := k_bvE hf
      refine k_callVv C hw (c_X12_token l G Y w ad LM σ1 σ2 hq) (cwV 0 hts gX12_primary_X12_token rfl rfl rfl (by decide +kernel) ⟨by simp only [rmR, rmX12_token]; omega, by simp only [rmR, rmX12_token]; omega⟩) (k_recv C hw (LM_0 LM) rfl) rfl hl.1 rfl (Nat.le_of_ble_eq_true rfl) dX12_primary_50 (fun H locs hw => ?_)
      refine lv_aload_n hx hb dX12_primary_53 rfl (lv_at hl 0 rfl) ?_
      obtain ⟨σ3, hq, hf⟩ := k_bvE hf
      refine k_callVv C hw (ih0_ σ2 σ3 hq) (cwV 0 hts gX12_primary_X12_expression rfl rfl rfl (by decide +kernel) ⟨by simp only [rmR]; omega, by simp only [rmR]; omega⟩) (k_recv C hw (LM_0 LM) rfl) rfl hl.1 rfl (Nat.le_of_ble_eq_true rfl) dX12_primary_54 (fun H locs hw => ?_)
      refine lv_aload_n hx hb dX12_primary_57 rfl (lv_at hl 0 rfl) ?_
      refine k_get C hw (LM_0 LM) (ci := 12) rfl k_in12 23 (by decide) lk12_199 (v := .int (σ3.1 0 23)) rfl dX12_primary_58 ?_
      refine lv_if_ne (tgt := 78) hx hb dX12_primary_61 (by decide) (fun h => ?_) (fun h => ?_)
      · have hf := k_ifF h hf
        exact b78 σ3 _ _ _ (lv_sub hl [0] rfl) hw hf
      · have hf := k_ifT h hf
        refine lv_aload_n hx hb dX12_primary_64 rfl (lv_at hl 0 rfl) ?_
        refine lv_bipush (v := (41 : Int32)) hx hb dX12_primary_65 (by decide) ?_
        obtain ⟨q5, σ4, hq, hf⟩ := k_bdE hf
        refine k_callVi C hw (c_X12_isSign l G Y w ad LM (41 : Int32) σ3 q5 σ4 hq) (cwV 1 hts gX12_primary_X12_isSign rfl rfl rfl (by decide +kernel) ⟨by simp only [rmR, rmX12_isSign]; omega, by simp only [rmR, rmX12_isSign]; omega⟩) (k_recv C hw (LM_0 LM) rfl) rfl hl.1 rfl (Nat.le_of_ble_eq_true rfl) dX12_primary_67 (fun H locs hw => ?_)
        refine lv_if_ne (tgt := 78) hx hb dX12_primary_70 (by decide) (fun h => ?_) (fun h => ?_)
        · have hf := k_ifF h hf
          exact b78 σ4 _ _ _ (lv_sub hl [0] rfl) hw hf
        · have hf := k_ifT h hf
          refine lv_aload_n hx hb dX12_primary_73 rfl (lv_at hl 0 rfl) ?_
          refine lv_iconst (v := (1 : Int32)) hx hb dX12_primary_74 (by decide) ?_
          obtain ⟨σ6, hq, hf⟩ := k_bvE hf
          refine k_callVv C hw (c_X12_wrong l G Y w ad LM (1 : Int32) σ4 σ6 hq) (cwV 1 hts gX12_primary_X12_wrong rfl rfl rfl (by decide +kernel) ⟨by simp only [rmR, rmX12_wrong]; omega, by simp only [rmR, rmX12_wrong]; omega⟩) (k_recv C hw (LM_0 LM) rfl) rfl hl.1 rfl (Nat.le_of_ble_eq_true rfl) dX12_primary_75 (fun H locs hw => ?_)
          exact b78 σ6 _ _ _ (lv_sub hl [0] rfl) hw hf
    · have hf := k_ifF h hf
      exact k_vret C hw hf dX12_primary_38
  unfold f_X12_primary_r at hf
  refine lv_aload_n hx hb dX12_primary_0 rfl (lv_at hl 0 rfl) ?_
  refine k_get C hw (LM_0 LM) (ci := 12) rfl k_in12 23 (by decide) lk12_199 (v := .int (σ.1 0 23)) rfl dX12_primary_1 ?_
  refine lv_if_eq (tgt := 8) hx hb dX12_primary_4 (by decide) (fun h => ?_) (fun h => ?_)
  · have hf := k_ifT h hf
    refine lv_aload_n hx hb dX12_primary_8 rfl (lv_at hl 0 rfl) ?_
    refine lv_bipush (v := (40 : Int32)) hx hb dX12_primary_9 (by decide) ?_
    obtain ⟨q8, σ7, hq, hf⟩ := k_bdE hf
    refine k_callVi C hw (c_X12_isSign l G Y w ad LM (40 : Int32) σ q8 σ7 hq) (cwV 1 hts gX12_primary_X12_isSign rfl rfl rfl (by decide +kernel) ⟨by simp only [rmR, rmX12_isSign]; omega, by simp only [rmR, rmX12_isSign]; omega⟩) (k_recv C hw (LM_0 LM) rfl) rfl hl.1 rfl (Nat.le_of_ble_eq_true rfl) dX12_primary_11 (fun H locs hw => ?_)
    refine lv_if_eq (tgt := 101) hx hb dX12_primary_14 (by decide) (fun h => ?_) (fun h => ?_)
    · have hf := k_ifT h hf
      refine lv_aload_n hx hb dX12_primary_101 rfl (lv_at hl 0 rfl) ?_
      refine k_get C hw (LM_0 LM) (ci := 12) rfl k_in12 21 (by decide) lk12_164 (v := .int (σ7.1 0 21)) rfl dX12_primary_102 ?_
      refine lv_iconst (v := (2 : Int32)) hx hb dX12_primary_105 (by decide) ?_
      refine lv_icmp_ne (tgt := 113) hx hb dX12_primary_106 (by decide) (fun h => ?_) (fun h => ?_)
      · have hf := k_ifF h hf
        refine lv_iconst (v := (0 : Int32)) hx hb dX12_primary_113 (by decide) ?_
        exact b114 (0 : Int32) σ7 _ _ _ (lv_sub hl [0] rfl) hw hf
      · have hf := k_ifT h hf
        refine lv_iconst (v := (1 : Int32)) hx hb dX12_primary_109 (by decide) ?_
        refine lv_goto (tgt := 114) hx hb dX12_primary_110 (by decide) ?_
        exact b114 (1 : Int32) σ7 _ _ _ (lv_sub hl [0] rfl) hw hf
    · have hf := k_ifF h hf
      refine lv_aload_n hx hb dX12_primary_17 rfl (lv_at hl 0 rfl) ?_
      refine k_get C hw (LM_0 LM) (ci := 12) rfl k_in12 27 (by decide) lk12_288 (v := .int (σ7.1 0 27)) rfl dX12_primary_18 ?_
      refine lv_bipush (v := (8 : Int32)) hx hb dX12_primary_21 (by decide) ?_
      refine lv_icmp_ne (tgt := 31) hx hb dX12_primary_23 (by decide) (fun h => ?_) (fun h => ?_)
      · have hf := k_ifF h hf
        exact b31 σ7 _ _ _ (lv_sub hl [0] rfl) hw hf
      · have hf := k_ifT h hf
        refine lv_aload_n hx hb dX12_primary_26 rfl (lv_at hl 0 rfl) ?_
        refine lv_iconst (v := (2 : Int32)) hx hb dX12_primary_27 (by decide) ?_
        obtain ⟨σ9, hq, hf⟩ := k_bvE hf
        refine k_callVv C hw (c_X12_wrong l G Y w ad LM (2 : Int32) σ7 σ9 hq) (cwV 1 hts gX12_primary_X12_wrong rfl rfl rfl (by decide +kernel) ⟨by simp only [rmR, rmX12_wrong]; omega, by simp only [rmR, rmX12_wrong]; omega⟩) (k_recv C hw (LM_0 LM) rfl) rfl hl.1 rfl (Nat.le_of_ble_eq_true rfl) dX12_primary_28 (fun H locs hw => ?_)
        exact b31 σ9 _ _ _ (lv_sub hl [0] rfl) hw hf
  · have hf := k_ifF h hf
    exact k_vret C hw hf dX12_primary_7
def f_X12_product_b22 (Rf : Nat → MSt → Option MSt) (r4 : MSt → Option MSt)  (σ : MSt) : Option MSt :=
  k_nm (σ.1 0 22) fun u1 =>
  k_bv (f_X12_knot σ) fun σ2 =>
  k_bv (f_X12_goOn σ2) fun σ3 =>
  k_bv (Rf 5 σ3) fun σ4 =>
  k_bv (f_X12_puts (2 : Int32) u1 σ4) fun σ5 =>
  r4 σ5
def f_X12_product_b4_s (Rf : Nat → MSt → Option MSt) (r4 : MSt → Option MSt)  (σ : MSt) : Option MSt :=
  k_bd (f_X12_isSign (42 : Int32) σ) fun q2 σ1 =>
  if q2 = 0 then
  (k_bd (f_X12_isSign (47 : Int32) σ1) fun q4 σ3 =>
  if q4 = 0 then
  (some σ3)
  else
  (f_X12_product_b22 Rf r4 σ3))
  else
  (f_X12_product_b22 Rf r4 σ1)
def f_X12_product_b4 (Rf : Nat → MSt → Option MSt) : Nat → MSt → Option MSt
  | 0 => fun _ => none
  | n + 1 => f_X12_product_b4_s Rf (f_X12_product_b4 Rf n)
def f_X12_product_r (Rf : Nat → MSt → Option MSt)  (σ : MSt) : Option MSt :=
  k_bv (Rf 5 σ) fun σ5 =>
  f_X12_product_b4 Rf FU σ5
set_option maxHeartbeats 4000000 in
set_option maxRecDepth 100000 in
theorem c_X12_product_r (l : Launch) (d : Nat) (G : va_G) (Y : CY) (w : MSt → va_W) (ad : Nat → Nat) (Rf : Nat → MSt → Option MSt) (LM : LayM ad w Y) (ih0_ : ∀ (σ σ' : MSt), Rf 0 σ = some σ' → k_Mv l yX12_expression wsX12_expression (rmR d) G Y w [.ref (ad 0)] σ σ') (ih1_ : ∀ (σ σ' : MSt), Rf 1 σ = some σ' → k_Mv l yX12_conjunction wsX12_conjunction (rmR d) G Y w [.ref (ad 0)] σ σ') (ih2_ : ∀ (σ σ' : MSt), Rf 2 σ = some σ' → k_Mv l yX12_negation wsX12_negation (rmR d) G Y w [.ref (ad 0)] σ σ') (ih3_ : ∀ (σ σ' : MSt), Rf 3 σ = some σ' → k_Mv l yX12_sum wsX12_sum (rmR d) G Y w [.ref (ad 0)] σ σ') (ih4_ : ∀ (σ σ' : MSt), Rf 4 σ = some σ' → k_Mv l yX12_product wsX12_product (rmR d) G Y w [.ref (ad 0)] σ σ') (ih5_ : ∀ (σ σ' : MSt), Rf 5 σ = some σ' → k_Mv l yX12_primary wsX12_primary (rmR d) G Y w [.ref (ad 0)] σ σ')  (σ : MSt) (σ' : MSt) (hf : f_X12_product_r Rf σ = some σ') : k_Mv l yX12_product wsX12_product (rmR (d + 1)) G Y w [.ref (ad 0)] σ σ' := by
  refine k_ofv (own := RX12) (cc := cX12_product) (maxL := 2) none (by decide) rfl rfl (Nat.le_of_ble_eq_true rfl) ?_
  intro p e s m below meth c A C ls hl hw
  have hx := C.1
  have hb := C.2.1
  have hown := C.2.2.2.2.1
  have hts := C.2.2.2.2.2.1
  have hks := C.2.2.2.2.2.2.1
  have hl : lv_has ls 2 [(0, .ref (ad 0))] := hl
  have b4 : ∀ (n4 : Nat) (σ : MSt) (H : Heap) (locs : List Loc) (ls : Array Slot), lv_has ls 2 [(0, .ref (ad 0))] → k_W G w A s.heap σ H locs → f_X12_product_b4 Rf n4 σ = some σ' → W p l e (rmR (d + 1)) s m [.ref (ad 0)].toArray below meth c H locs 0 0 (MQ below (k_Qv G w A σ') [.ref (ad 0)].toArray s 0 0 A) (F0 m 4 ls []) := by
    intro n4
    induction n4 with
    | zero =>
      intro σ H locs ls hl hw hf
      have hf : (none : Option MSt) = some σ' := hf
      cases hf
    | succ n4 ih4 =>
      have b22 : ∀ (σ : MSt) (H : Heap) (locs : List Loc) (ls : Array Slot), lv_has ls 2 [(0, .ref (ad 0))] → k_W G w A s.heap σ H locs → f_X12_product_b22 Rf (f_X12_product_b4 Rf n4) σ = some σ' → W p l e (rmR (d + 1)) s m [.ref (ad 0)].toArray below meth c H locs 0 0 (MQ below (k_Qv G w A σ') [.ref (ad 0)].toArray s 0 0 A) (F0 m 22 ls []) := by
        intro σ H locs ls hl hw hf
        unfold f_X12_product_b22 at hf
        refine lv_aload_n hx hb dX12_product_22 rfl (lv_at hl 0 rfl) ?_
        refine k_get C hw (LM_0 LM) (ci := 12) rfl k_in12 22 (by decide) lk12_174 (v := .int (σ.1 0 22)) rfl dX12_product_23 ?_
        refine lv_topi (fun u1 ex => ?_)
        have hf := k_nmE ex hf
        refine lv_istore_n (lv' := [(1, .int u1), (0, .ref (ad 0))]) hx hb dX12_product_26 rfl hl (by decide) rfl (fun ls hl => ?_)
        refine lv_aload_n hx hb dX12_product_27 rfl (lv_at hl 1 rfl) ?_
        obtain ⟨σ2, hq, hf⟩ := k_bvE hf
        refine k_callVv C hw (c_X12_knot l G Y w ad LM σ σ2 hq) (cwV 0 hts gX12_product_X12_knot rfl rfl rfl (by decide +kernel) ⟨by simp only [rmR, rmX12_knot]; omega, by simp only [rmR, rmX12_knot]; omega⟩) (k_recv C hw (LM_0 LM) rfl) rfl hl.1 rfl (Nat.le_of_ble_eq_true rfl) dX12_product_28 (fun H locs hw => ?_)
        refine lv_aload_n hx hb dX12_product_31 rfl (lv_at hl 1 rfl) ?_
        obtain ⟨σ3, hq, hf⟩ := k_bvE hf
        refine k_callVv C hw (c_X12_goOn l G Y w ad LM σ2 σ3 hq) (cwV 0 hts gX12_product_X12_goOn rfl rfl rfl (by decide +kernel) ⟨by simp only [rmR, rmX12_goOn]; omega, by simp only [rmR, rmX12_goOn]; omega⟩) (k_recv C hw (LM_0 LM) rfl) rfl hl.1 rfl (Nat.le_of_ble_eq_true rfl) dX12_product_32 (fun H locs hw => ?_)
        refine lv_aload_n hx hb dX12_product_35 rfl (lv_at hl 1 rfl) ?_
        obtain ⟨σ4, hq, hf⟩ := k_bvE hf
        refine k_callVv C hw (ih5_ σ3 σ4 hq) (cwV 0 hts gX12_product_X12_primary rfl rfl rfl (by decide +kernel) ⟨by simp only [rmR]; omega, by simp only [rmR]; omega⟩) (k_recv C hw (LM_0 LM) rfl) rfl hl.1 rfl (Nat.le_of_ble_eq_true rfl) dX12_product_36 (fun H locs hw => ?_)
        refine lv_aload_n hx hb dX12_product_39 rfl (lv_at hl 1 rfl) ?_
        refine lv_iconst (v := (2 : Int32)) hx hb dX12_product_40 (by decide) ?_
        refine lv_iload_n hx hb dX12_product_41 rfl (lv_at hl 0 rfl) ?_
        obtain ⟨σ5, hq, hf⟩ := k_bvE hf
        refine k_callVv C hw (c_X12_puts l G Y w ad LM (2 : Int32) u1 σ4 σ5 hq) (cwV 2 hts gX12_product_X12_puts rfl rfl rfl (by decide +kernel) ⟨by simp only [rmR, rmX12_puts]; omega, by simp only [rmR, rmX12_puts]; omega⟩) (k_recv C hw (LM_0 LM) rfl) rfl hl.1 rfl (Nat.le_of_ble_eq_true rfl) dX12_product_42 (fun H locs hw => ?_)
        refine lv_goto (tgt := 4) hx hb dX12_product_45 (by decide) ?_
        exact ih4 σ5 _ _ _ (lv_sub hl [1] rfl) hw hf
      intro σ H locs ls hl hw hf
      have hf : f_X12_product_b4_s Rf (f_X12_product_b4 Rf n4) σ = some σ' := hf
      unfold f_X12_product_b4_s at hf
      refine lv_aload_n hx hb dX12_product_4 rfl (lv_at hl 0 rfl) ?_
      refine lv_bipush (v := (42 : Int32)) hx hb dX12_product_5 (by decide) ?_
      obtain ⟨q2, σ1, hq, hf⟩ := k_bdE hf
      refine k_callVi C hw (c_X12_isSign l G Y w ad LM (42 : Int32) σ q2 σ1 hq) (cwV 1 hts gX12_product_X12_isSign rfl rfl rfl (by decide +kernel) ⟨by simp only [rmR, rmX12_isSign]; omega, by simp only [rmR, rmX12_isSign]; omega⟩) (k_recv C hw (LM_0 LM) rfl) rfl hl.1 rfl (Nat.le_of_ble_eq_true rfl) dX12_product_7 (fun H locs hw => ?_)
      refine lv_if_ne (tgt := 22) hx hb dX12_product_10 (by decide) (fun h => ?_) (fun h => ?_)
      · have hf := k_ifF h hf
        exact b22 σ1 _ _ _ (lv_sub hl [0] rfl) hw hf
      · have hf := k_ifT h hf
        refine lv_aload_n hx hb dX12_product_13 rfl (lv_at hl 0 rfl) ?_
        refine lv_bipush (v := (47 : Int32)) hx hb dX12_product_14 (by decide) ?_
        obtain ⟨q4, σ3, hq, hf⟩ := k_bdE hf
        refine k_callVi C hw (c_X12_isSign l G Y w ad LM (47 : Int32) σ1 q4 σ3 hq) (cwV 1 hts gX12_product_X12_isSign rfl rfl rfl (by decide +kernel) ⟨by simp only [rmR, rmX12_isSign]; omega, by simp only [rmR, rmX12_isSign]; omega⟩) (k_recv C hw (LM_0 LM) rfl) rfl hl.1 rfl (Nat.le_of_ble_eq_true rfl) dX12_product_16 (fun H locs hw => ?_)
        refine lv_if_eq (tgt := 48) hx hb dX12_product_19 (by decide) (fun h => ?_) (fun h => ?_)
        · have hf := k_ifT h hf
          exact k_vret C hw hf dX12_product_48
        · have hf := k_ifF h hf
          exact b22 σ3 _ _ _ (lv_sub hl [0] rfl) hw hf
  unfold f_X12_product_r at hf
  refine lv_aload_n hx hb dX12_product_0 rfl (lv_at hl 0 rfl) ?_
  obtain ⟨σ5, hq, hf⟩ := k_bvE hf
  refine k_callVv C hw (ih5_ σ σ5 hq) (cwV 0 hts gX12_product_X12_primary rfl rfl rfl (by decide +kernel) ⟨by simp only [rmR]; omega, by simp only [rmR]; omega⟩) (k_recv C hw (LM_0 LM) rfl) rfl hl.1 rfl (Nat.le_of_ble_eq_true rfl) dX12_product_1 (fun H locs hw => ?_)
  exact b4 FU σ5 _ _ _ (lv_sub hl [0] rfl) hw hf
def f_X12_sum_b22 (Rf : Nat → MSt → Option MSt) (r4 : MSt → Option MSt)  (σ : MSt) : Option MSt :=
  k_nm (σ.1 0 22) fun u1 =>
  k_bv (f_X12_knot σ) fun σ2 =>
  k_bv (f_X12_goOn σ2) fun σ3 =>
  k_bv (Rf 4 σ3) fun σ4 =>
  k_bv (f_X12_puts (2 : Int32) u1 σ4) fun σ5 =>
  r4 σ5
def f_X12_sum_b4_s (Rf : Nat → MSt → Option MSt) (r4 : MSt → Option MSt)  (σ : MSt) : Option MSt :=
  k_bd (f_X12_isSign (43 : Int32) σ) fun q2 σ1 =>
  if q2 = 0 then
  (k_bd (f_X12_isSign (45 : Int32) σ1) fun q4 σ3 =>
  if q4 = 0 then
  (some σ3)
  else
  (f_X12_sum_b22 Rf r4 σ3))
  else
  (f_X12_sum_b22 Rf r4 σ1)
def f_X12_sum_b4 (Rf : Nat → MSt → Option MSt) : Nat → MSt → Option MSt
  | 0 => fun _ => none
  | n + 1 => f_X12_sum_b4_s Rf (f_X12_sum_b4 Rf n)
def f_X12_sum_r (Rf : Nat → MSt → Option MSt)  (σ : MSt) : Option MSt :=
  k_bv (Rf 4 σ) fun σ5 =>
  f_X12_sum_b4 Rf FU σ5
set_option maxHeartbeats 4000000 in
set_option maxRecDepth 100000 in
theorem c_X12_sum_r (l : Launch) (d : Nat) (G : va_G) (Y : CY) (w : MSt → va_W) (ad : Nat → Nat) (Rf : Nat → MSt → Option MSt) (LM : LayM ad w Y) (ih0_ : ∀ (σ σ' : MSt), Rf 0 σ = some σ' → k_Mv l yX12_expression wsX12_expression (rmR d) G Y w [.ref (ad 0)] σ σ') (ih1_ : ∀ (σ σ' : MSt), Rf 1 σ = some σ' → k_Mv l yX12_conjunction wsX12_conjunction (rmR d) G Y w [.ref (ad 0)] σ σ') (ih2_ : ∀ (σ σ' : MSt), Rf 2 σ = some σ' → k_Mv l yX12_negation wsX12_negation (rmR d) G Y w [.ref (ad 0)] σ σ') (ih3_ : ∀ (σ σ' : MSt), Rf 3 σ = some σ' → k_Mv l yX12_sum wsX12_sum (rmR d) G Y w [.ref (ad 0)] σ σ') (ih4_ : ∀ (σ σ' : MSt), Rf 4 σ = some σ' → k_Mv l yX12_product wsX12_product (rmR d) G Y w [.ref (ad 0)] σ σ') (ih5_ : ∀ (σ σ' : MSt), Rf 5 σ = some σ' → k_Mv l yX12_primary wsX12_primary (rmR d) G Y w [.ref (ad 0)] σ σ')  (σ : MSt) (σ' : MSt) (hf : f_X12_sum_r Rf σ = some σ') : k_Mv l yX12_sum wsX12_sum (rmR (d + 1)) G Y w [.ref (ad 0)] σ σ' := by
  refine k_ofv (own := RX12) (cc := cX12_sum) (maxL := 2) none (by decide) rfl rfl (Nat.le_of_ble_eq_true rfl) ?_
  intro p e s m below meth c A C ls hl hw
  have hx := C.1
  have hb := C.2.1
  have hown := C.2.2.2.2.1
  have hts := C.2.2.2.2.2.1
  have hks := C.2.2.2.2.2.2.1
  have hl : lv_has ls 2 [(0, .ref (ad 0))] := hl
  have b4 : ∀ (n4 : Nat) (σ : MSt) (H : Heap) (locs : List Loc) (ls : Array Slot), lv_has ls 2 [(0, .ref (ad 0))] → k_W G w A s.heap σ H locs → f_X12_sum_b4 Rf n4 σ = some σ' → W p l e (rmR (d + 1)) s m [.ref (ad 0)].toArray below meth c H locs 0 0 (MQ below (k_Qv G w A σ') [.ref (ad 0)].toArray s 0 0 A) (F0 m 4 ls []) := by
    intro n4
    induction n4 with
    | zero =>
      intro σ H locs ls hl hw hf
      have hf : (none : Option MSt) = some σ' := hf
      cases hf
    | succ n4 ih4 =>
      have b22 : ∀ (σ : MSt) (H : Heap) (locs : List Loc) (ls : Array Slot), lv_has ls 2 [(0, .ref (ad 0))] → k_W G w A s.heap σ H locs → f_X12_sum_b22 Rf (f_X12_sum_b4 Rf n4) σ = some σ' → W p l e (rmR (d + 1)) s m [.ref (ad 0)].toArray below meth c H locs 0 0 (MQ below (k_Qv G w A σ') [.ref (ad 0)].toArray s 0 0 A) (F0 m 22 ls []) := by
        intro σ H locs ls hl hw hf
        unfold f_X12_sum_b22 at hf
        refine lv_aload_n hx hb dX12_sum_22 rfl (lv_at hl 0 rfl) ?_
        refine k_get C hw (LM_0 LM) (ci := 12) rfl k_in12 22 (by decide) lk12_174 (v := .int (σ.1 0 22)) rfl dX12_sum_23 ?_
        refine lv_topi (fun u1 ex => ?_)
        have hf := k_nmE ex hf
        refine lv_istore_n (lv' := [(1, .int u1), (0, .ref (ad 0))]) hx hb dX12_sum_26 rfl hl (by decide) rfl (fun ls hl => ?_)
        refine lv_aload_n hx hb dX12_sum_27 rfl (lv_at hl 1 rfl) ?_
        obtain ⟨σ2, hq, hf⟩ := k_bvE hf
        refine k_callVv C hw (c_X12_knot l G Y w ad LM σ σ2 hq) (cwV 0 hts gX12_sum_X12_knot rfl rfl rfl (by decide +kernel) ⟨by simp only [rmR, rmX12_knot]; omega, by simp only [rmR, rmX12_knot]; omega⟩) (k_recv C hw (LM_0 LM) rfl) rfl hl.1 rfl (Nat.le_of_ble_eq_true rfl) dX12_sum_28 (fun H locs hw => ?_)
        refine lv_aload_n hx hb dX12_sum_31 rfl (lv_at hl 1 rfl) ?_
        obtain ⟨σ3, hq, hf⟩ := k_bvE hf
        refine k_callVv C hw (c_X12_goOn l G Y w ad LM σ2 σ3 hq) (cwV 0 hts gX12_sum_X12_goOn rfl rfl rfl (by decide +kernel) ⟨by simp only [rmR, rmX12_goOn]; omega, by simp only [rmR, rmX12_goOn]; omega⟩) (k_recv C hw (LM_0 LM) rfl) rfl hl.1 rfl (Nat.le_of_ble_eq_true rfl) dX12_sum_32 (fun H locs hw => ?_)
        refine lv_aload_n hx hb dX12_sum_35 rfl (lv_at hl 1 rfl) ?_
        obtain ⟨σ4, hq, hf⟩ := k_bvE hf
        refine k_callVv C hw (ih4_ σ3 σ4 hq) (cwV 0 hts gX12_sum_X12_product rfl rfl rfl (by decide +kernel) ⟨by simp only [rmR]; omega, by simp only [rmR]; omega⟩) (k_recv C hw (LM_0 LM) rfl) rfl hl.1 rfl (Nat.le_of_ble_eq_true rfl) dX12_sum_36 (fun H locs hw => ?_)
        refine lv_aload_n hx hb dX12_sum_39 rfl (lv_at hl 1 rfl) ?_
        refine lv_iconst (v := (2 : Int32)) hx hb dX12_sum_40 (by decide) ?_
        refine lv_iload_n hx hb dX12_sum_41 rfl (lv_at hl 0 rfl) ?_
        obtain ⟨σ5, hq, hf⟩ := k_bvE hf
        refine k_callVv C hw (c_X12_puts l G Y w ad LM (2 : Int32) u1 σ4 σ5 hq) (cwV 2 hts gX12_sum_X12_puts rfl rfl rfl (by decide +kernel) ⟨by simp only [rmR, rmX12_puts]; omega, by simp only [rmR, rmX12_puts]; omega⟩) (k_recv C hw (LM_0 LM) rfl) rfl hl.1 rfl (Nat.le_of_ble_eq_true rfl) dX12_sum_42 (fun H locs hw => ?_)
        refine lv_goto (tgt := 4) hx hb dX12_sum_45 (by decide) ?_
        exact ih4 σ5 _ _ _ (lv_sub hl [1] rfl) hw hf
      intro σ H locs ls hl hw hf
      have hf : f_X12_sum_b4_s Rf (f_X12_sum_b4 Rf n4) σ = some σ' := hf
      unfold f_X12_sum_b4_s at hf
      refine lv_aload_n hx hb dX12_sum_4 rfl (lv_at hl 0 rfl) ?_
      refine lv_bipush (v := (43 : Int32)) hx hb dX12_sum_5 (by decide) ?_
      obtain ⟨q2, σ1, hq, hf⟩ := k_bdE hf
      refine k_callVi C hw (c_X12_isSign l G Y w ad LM (43 : Int32) σ q2 σ1 hq) (cwV 1 hts gX12_sum_X12_isSign rfl rfl rfl (by decide +kernel) ⟨by simp only [rmR, rmX12_isSign]; omega, by simp only [rmR, rmX12_isSign]; omega⟩) (k_recv C hw (LM_0 LM) rfl) rfl hl.1 rfl (Nat.le_of_ble_eq_true rfl) dX12_sum_7 (fun H locs hw => ?_)
      refine lv_if_ne (tgt := 22) hx hb dX12_sum_10 (by decide) (fun h => ?_) (fun h => ?_)
      · have hf := k_ifF h hf
        exact b22 σ1 _ _ _ (lv_sub hl [0] rfl) hw hf
      · have hf := k_ifT h hf
        refine lv_aload_n hx hb dX12_sum_13 rfl (lv_at hl 0 rfl) ?_
        refine lv_bipush (v := (45 : Int32)) hx hb dX12_sum_14 (by decide) ?_
        obtain ⟨q4, σ3, hq, hf⟩ := k_bdE hf
        refine k_callVi C hw (c_X12_isSign l G Y w ad LM (45 : Int32) σ1 q4 σ3 hq) (cwV 1 hts gX12_sum_X12_isSign rfl rfl rfl (by decide +kernel) ⟨by simp only [rmR, rmX12_isSign]; omega, by simp only [rmR, rmX12_isSign]; omega⟩) (k_recv C hw (LM_0 LM) rfl) rfl hl.1 rfl (Nat.le_of_ble_eq_true rfl) dX12_sum_16 (fun H locs hw => ?_)
        refine lv_if_eq (tgt := 48) hx hb dX12_sum_19 (by decide) (fun h => ?_) (fun h => ?_)
        · have hf := k_ifT h hf
          exact k_vret C hw hf dX12_sum_48
        · have hf := k_ifF h hf
          exact b22 σ3 _ _ _ (lv_sub hl [0] rfl) hw hf
  unfold f_X12_sum_r at hf
  refine lv_aload_n hx hb dX12_sum_0 rfl (lv_at hl 0 rfl) ?_
  obtain ⟨σ5, hq, hf⟩ := k_bvE hf
  refine k_callVv C hw (ih4_ σ σ5 hq) (cwV 0 hts gX12_sum_X12_product rfl rfl rfl (by decide +kernel) ⟨by simp only [rmR]; omega, by simp only [rmR]; omega⟩) (k_recv C hw (LM_0 LM) rfl) rfl hl.1 rfl (Nat.le_of_ble_eq_true rfl) dX12_sum_1 (fun H locs hw => ?_)
  exact b4 FU σ5 _ _ _ (lv_sub hl [0] rfl) hw hf
def f_X12_negation_b87 (Rf : Nat → MSt → Option MSt)  (σ : MSt) : Option MSt :=
  k_nm (σ.1 0 22) fun u1 =>
  k_bv (f_X12_knot σ) fun σ2 =>
  k_bv (f_X12_goOn σ2) fun σ3 =>
  k_bv (Rf 3 σ3) fun σ4 =>
  k_bv (f_X12_puts (2 : Int32) u1 σ4) fun σ5 =>
  some σ5
def f_X12_negation_b86 (Rf : Nat → MSt → Option MSt)  (σ : MSt) : Option MSt :=
  some σ
def f_X12_negation_r (Rf : Nat → MSt → Option MSt)  (σ : MSt) : Option MSt :=
  k_bd (f_X12_isWord (14 : Int32) σ) fun q2 σ1 =>
  if q2 = 0 then
  (k_bv (Rf 3 σ1) fun σ3 =>
  if (σ3.1 0 23) = 0 then
  (if (σ3.1 0 21) = (3 : Int32) then
  (if (σ3.1 0 22) = (60 : Int32) then
  (f_X12_negation_b87 Rf σ3)
  else
  (if (σ3.1 0 22) = (62 : Int32) then
  (f_X12_negation_b87 Rf σ3)
  else
  (if (σ3.1 0 22) = (61 : Int32) then
  (f_X12_negation_b87 Rf σ3)
  else
  (if (256 : Int32) ≤ (σ3.1 0 22) then
  (f_X12_negation_b87 Rf σ3)
  else
  (f_X12_negation_b86 Rf σ3)))))
  else
  (f_X12_negation_b86 Rf σ3))
  else
  (f_X12_negation_b86 Rf σ3))
  else
  (k_bv (f_X12_knot σ1) fun σ4 =>
  k_bv (f_X12_goOn σ4) fun σ5 =>
  k_bv (Rf 2 σ5) fun σ6 =>
  k_bv (f_X12_puts (2 : Int32) (260 : Int32) σ6) fun σ7 =>
  some σ7)
set_option maxHeartbeats 4000000 in
set_option maxRecDepth 100000 in
theorem c_X12_negation_r (l : Launch) (d : Nat) (G : va_G) (Y : CY) (w : MSt → va_W) (ad : Nat → Nat) (Rf : Nat → MSt → Option MSt) (LM : LayM ad w Y) (ih0_ : ∀ (σ σ' : MSt), Rf 0 σ = some σ' → k_Mv l yX12_expression wsX12_expression (rmR d) G Y w [.ref (ad 0)] σ σ') (ih1_ : ∀ (σ σ' : MSt), Rf 1 σ = some σ' → k_Mv l yX12_conjunction wsX12_conjunction (rmR d) G Y w [.ref (ad 0)] σ σ') (ih2_ : ∀ (σ σ' : MSt), Rf 2 σ = some σ' → k_Mv l yX12_negation wsX12_negation (rmR d) G Y w [.ref (ad 0)] σ σ') (ih3_ : ∀ (σ σ' : MSt), Rf 3 σ = some σ' → k_Mv l yX12_sum wsX12_sum (rmR d) G Y w [.ref (ad 0)] σ σ') (ih4_ : ∀ (σ σ' : MSt), Rf 4 σ = some σ' → k_Mv l yX12_product wsX12_product (rmR d) G Y w [.ref (ad 0)] σ σ') (ih5_ : ∀ (σ σ' : MSt), Rf 5 σ = some σ' → k_Mv l yX12_primary wsX12_primary (rmR d) G Y w [.ref (ad 0)] σ σ')  (σ : MSt) (σ' : MSt) (hf : f_X12_negation_r Rf σ = some σ') : k_Mv l yX12_negation wsX12_negation (rmR (d + 1)) G Y w [.ref (ad 0)] σ σ' := by
  refine k_ofv (own := RX12) (cc := cX12_negation) (maxL := 2) none (by decide) rfl rfl (Nat.le_of_ble_eq_true rfl) ?_
  intro p e s m below meth c A C ls hl hw
  have hx := C.1
  have hb := C.2.1
  have hown := C.2.2.2.2.1
  have hts := C.2.2.2.2.2.1
  have hks := C.2.2.2.2.2.2.1
  have hl : lv_has ls 2 [(0, .ref (ad 0))] := hl
  have b87 : ∀ (σ : MSt) (H : Heap) (locs : List Loc) (ls : Array Slot), lv_has ls 2 [(0, .ref (ad 0))] → k_W G w A s.heap σ H locs → f_X12_negation_b87 Rf σ = some σ' → W p l e (rmR (d + 1)) s m [.ref (ad 0)].toArray below meth c H locs 0 0 (MQ below (k_Qv G w A σ') [.ref (ad 0)].toArray s 0 0 A) (F0 m 87 ls []) := by
    intro σ H locs ls hl hw hf
    unfold f_X12_negation_b87 at hf
    refine lv_aload_n hx hb dX12_negation_87 rfl (lv_at hl 0 rfl) ?_
    refine k_get C hw (LM_0 LM) (ci := 12) rfl k_in12 22 (by decide) lk12_174 (v := .int (σ.1 0 22)) rfl dX12_negation_88 ?_
    refine lv_topi (fun u1 ex => ?_)
    have hf := k_nmE ex hf
    refine lv_istore_n (lv' := [(1, .int u1), (0, .ref (ad 0))]) hx hb dX12_negation_91 rfl hl (by decide) rfl (fun ls hl => ?_)
    refine lv_aload_n hx hb dX12_negation_92 rfl (lv_at hl 1 rfl) ?_
    obtain ⟨σ2, hq, hf⟩ := k_bvE hf
    refine k_callVv C hw (c_X12_knot l G Y w ad LM σ σ2 hq) (cwV 0 hts gX12_negation_X12_knot rfl rfl rfl (by decide +kernel) ⟨by simp only [rmR, rmX12_knot]; omega, by simp only [rmR, rmX12_knot]; omega⟩) (k_recv C hw (LM_0 LM) rfl) rfl hl.1 rfl (Nat.le_of_ble_eq_true rfl) dX12_negation_93 (fun H locs hw => ?_)
    refine lv_aload_n hx hb dX12_negation_96 rfl (lv_at hl 1 rfl) ?_
    obtain ⟨σ3, hq, hf⟩ := k_bvE hf
    refine k_callVv C hw (c_X12_goOn l G Y w ad LM σ2 σ3 hq) (cwV 0 hts gX12_negation_X12_goOn rfl rfl rfl (by decide +kernel) ⟨by simp only [rmR, rmX12_goOn]; omega, by simp only [rmR, rmX12_goOn]; omega⟩) (k_recv C hw (LM_0 LM) rfl) rfl hl.1 rfl (Nat.le_of_ble_eq_true rfl) dX12_negation_97 (fun H locs hw => ?_)
    refine lv_aload_n hx hb dX12_negation_100 rfl (lv_at hl 1 rfl) ?_
    obtain ⟨σ4, hq, hf⟩ := k_bvE hf
    refine k_callVv C hw (ih3_ σ3 σ4 hq) (cwV 0 hts gX12_negation_X12_sum rfl rfl rfl (by decide +kernel) ⟨by simp only [rmR]; omega, by simp only [rmR]; omega⟩) (k_recv C hw (LM_0 LM) rfl) rfl hl.1 rfl (Nat.le_of_ble_eq_true rfl) dX12_negation_101 (fun H locs hw => ?_)
    refine lv_aload_n hx hb dX12_negation_104 rfl (lv_at hl 1 rfl) ?_
    refine lv_iconst (v := (2 : Int32)) hx hb dX12_negation_105 (by decide) ?_
    refine lv_iload_n hx hb dX12_negation_106 rfl (lv_at hl 0 rfl) ?_
    obtain ⟨σ5, hq, hf⟩ := k_bvE hf
    refine k_callVv C hw (c_X12_puts l G Y w ad LM (2 : Int32) u1 σ4 σ5 hq) (cwV 2 hts gX12_negation_X12_puts rfl rfl rfl (by decide +kernel) ⟨by simp only [rmR, rmX12_puts]; omega, by simp only [rmR, rmX12_puts]; omega⟩) (k_recv C hw (LM_0 LM) rfl) rfl hl.1 rfl (Nat.le_of_ble_eq_true rfl) dX12_negation_107 (fun H locs hw => ?_)
    exact k_vret C hw hf dX12_negation_110
  have b86 : ∀ (σ : MSt) (H : Heap) (locs : List Loc) (ls : Array Slot), lv_has ls 2 [] → k_W G w A s.heap σ H locs → f_X12_negation_b86 Rf σ = some σ' → W p l e (rmR (d + 1)) s m [.ref (ad 0)].toArray below meth c H locs 0 0 (MQ below (k_Qv G w A σ') [.ref (ad 0)].toArray s 0 0 A) (F0 m 86 ls []) := by
    intro σ H locs ls hl hw hf
    unfold f_X12_negation_b86 at hf
    exact k_vret C hw hf dX12_negation_86
  unfold f_X12_negation_r at hf
  refine lv_aload_n hx hb dX12_negation_0 rfl (lv_at hl 0 rfl) ?_
  refine lv_bipush (v := (14 : Int32)) hx hb dX12_negation_1 (by decide) ?_
  obtain ⟨q2, σ1, hq, hf⟩ := k_bdE hf
  refine k_callVi C hw (c_X12_isWord l G Y w ad LM (14 : Int32) σ q2 σ1 hq) (cwV 1 hts gX12_negation_X12_isWord rfl rfl rfl (by decide +kernel) ⟨by simp only [rmR, rmX12_isWord]; omega, by simp only [rmR, rmX12_isWord]; omega⟩) (k_recv C hw (LM_0 LM) rfl) rfl hl.1 rfl (Nat.le_of_ble_eq_true rfl) dX12_negation_3 (fun H locs hw => ?_)
  refine lv_if_eq (tgt := 30) hx hb dX12_negation_6 (by decide) (fun h => ?_) (fun h => ?_)
  · have hf := k_ifT h hf
    refine lv_aload_n hx hb dX12_negation_30 rfl (lv_at hl 0 rfl) ?_
    obtain ⟨σ3, hq, hf⟩ := k_bvE hf
    refine k_callVv C hw (ih3_ σ1 σ3 hq) (cwV 0 hts gX12_negation_X12_sum rfl rfl rfl (by decide +kernel) ⟨by simp only [rmR]; omega, by simp only [rmR]; omega⟩) (k_recv C hw (LM_0 LM) rfl) rfl hl.1 rfl (Nat.le_of_ble_eq_true rfl) dX12_negation_31 (fun H locs hw => ?_)
    refine lv_aload_n hx hb dX12_negation_34 rfl (lv_at hl 0 rfl) ?_
    refine k_get C hw (LM_0 LM) (ci := 12) rfl k_in12 23 (by decide) lk12_199 (v := .int (σ3.1 0 23)) rfl dX12_negation_35 ?_
    refine lv_if_ne (tgt := 86) hx hb dX12_negation_38 (by decide) (fun h => ?_) (fun h => ?_)
    · have hf := k_ifF h hf
      exact b86 σ3 _ _ _ (lv_sub hl [] rfl) hw hf
    · have hf := k_ifT h hf
      refine lv_aload_n hx hb dX12_negation_41 rfl (lv_at hl 0 rfl) ?_
      refine k_get C hw (LM_0 LM) (ci := 12) rfl k_in12 21 (by decide) lk12_164 (v := .int (σ3.1 0 21)) rfl dX12_negation_42 ?_
      refine lv_iconst (v := (3 : Int32)) hx hb dX12_negation_45 (by decide) ?_
      refine lv_icmp_ne (tgt := 86) hx hb dX12_negation_46 (by decide) (fun h => ?_) (fun h => ?_)
      · have hf := k_ifF h hf
        exact b86 σ3 _ _ _ (lv_sub hl [] rfl) hw hf
      · have hf := k_ifT h hf
        refine lv_aload_n hx hb dX12_negation_49 rfl (lv_at hl 0 rfl) ?_
        refine k_get C hw (LM_0 LM) (ci := 12) rfl k_in12 22 (by decide) lk12_174 (v := .int (σ3.1 0 22)) rfl dX12_negation_50 ?_
        refine lv_bipush (v := (60 : Int32)) hx hb dX12_negation_53 (by decide) ?_
        refine lv_icmp_eq (tgt := 87) hx hb dX12_negation_55 (by decide) (fun h => ?_) (fun h => ?_)
        · have hf := k_ifT h hf
          exact b87 σ3 _ _ _ (lv_sub hl [0] rfl) hw hf
        · have hf := k_ifF h hf
          refine lv_aload_n hx hb dX12_negation_58 rfl (lv_at hl 0 rfl) ?_
          refine k_get C hw (LM_0 LM) (ci := 12) rfl k_in12 22 (by decide) lk12_174 (v := .int (σ3.1 0 22)) rfl dX12_negation_59 ?_
          refine lv_bipush (v := (62 : Int32)) hx hb dX12_negation_62 (by decide) ?_
          refine lv_icmp_eq (tgt := 87) hx hb dX12_negation_64 (by decide) (fun h => ?_) (fun h => ?_)
          · have hf := k_ifT h hf
            exact b87 σ3 _ _ _ (lv_sub hl [0] rfl) hw hf
          · have hf := k_ifF h hf
            refine lv_aload_n hx hb dX12_negation_67 rfl (lv_at hl 0 rfl) ?_
            refine k_get C hw (LM_0 LM) (ci := 12) rfl k_in12 22 (by decide) lk12_174 (v := .int (σ3.1 0 22)) rfl dX12_negation_68 ?_
            refine lv_bipush (v := (61 : Int32)) hx hb dX12_negation_71 (by decide) ?_
            refine lv_icmp_eq (tgt := 87) hx hb dX12_negation_73 (by decide) (fun h => ?_) (fun h => ?_)
            · have hf := k_ifT h hf
              exact b87 σ3 _ _ _ (lv_sub hl [0] rfl) hw hf
            · have hf := k_ifF h hf
              refine lv_aload_n hx hb dX12_negation_76 rfl (lv_at hl 0 rfl) ?_
              refine k_get C hw (LM_0 LM) (ci := 12) rfl k_in12 22 (by decide) lk12_174 (v := .int (σ3.1 0 22)) rfl dX12_negation_77 ?_
              refine lv_sipush (v := (256 : Int32)) hx hb dX12_negation_80 (by decide) ?_
              refine lv_icmp_ge (tgt := 87) hx hb dX12_negation_83 (by decide) (fun h => ?_) (fun h => ?_)
              · have hf := k_ifT h hf
                exact b87 σ3 _ _ _ (lv_sub hl [0] rfl) hw hf
              · have hf := k_ifF h hf
                exact b86 σ3 _ _ _ (lv_sub hl [] rfl) hw hf
  · have hf := k_ifF h hf
    refine lv_aload_n hx hb dX12_negation_9 rfl (lv_at hl 0 rfl) ?_
    obtain ⟨σ4, hq, hf⟩ := k_bvE hf
    refine k_callVv C hw (c_X12_knot l G Y w ad LM σ1 σ4 hq) (cwV 0 hts gX12_negation_X12_knot rfl rfl rfl (by decide +kernel) ⟨by simp only [rmR, rmX12_knot]; omega, by simp only [rmR, rmX12_knot]; omega⟩) (k_recv C hw (LM_0 LM) rfl) rfl hl.1 rfl (Nat.le_of_ble_eq_true rfl) dX12_negation_10 (fun H locs hw => ?_)
    refine lv_aload_n hx hb dX12_negation_13 rfl (lv_at hl 0 rfl) ?_
    obtain ⟨σ5, hq, hf⟩ := k_bvE hf
    refine k_callVv C hw (c_X12_goOn l G Y w ad LM σ4 σ5 hq) (cwV 0 hts gX12_negation_X12_goOn rfl rfl rfl (by decide +kernel) ⟨by simp only [rmR, rmX12_goOn]; omega, by simp only [rmR, rmX12_goOn]; omega⟩) (k_recv C hw (LM_0 LM) rfl) rfl hl.1 rfl (Nat.le_of_ble_eq_true rfl) dX12_negation_14 (fun H locs hw => ?_)
    refine lv_aload_n hx hb dX12_negation_17 rfl (lv_at hl 0 rfl) ?_
    obtain ⟨σ6, hq, hf⟩ := k_bvE hf
    refine k_callVv C hw (ih2_ σ5 σ6 hq) (cwV 0 hts gX12_negation_X12_negation rfl rfl rfl (by decide +kernel) ⟨by simp only [rmR]; omega, by simp only [rmR]; omega⟩) (k_recv C hw (LM_0 LM) rfl) rfl hl.1 rfl (Nat.le_of_ble_eq_true rfl) dX12_negation_18 (fun H locs hw => ?_)
    refine lv_aload_n hx hb dX12_negation_21 rfl (lv_at hl 0 rfl) ?_
    refine lv_iconst (v := (2 : Int32)) hx hb dX12_negation_22 (by decide) ?_
    refine lv_sipush (v := (260 : Int32)) hx hb dX12_negation_23 (by decide) ?_
    obtain ⟨σ7, hq, hf⟩ := k_bvE hf
    refine k_callVv C hw (c_X12_puts l G Y w ad LM (2 : Int32) (260 : Int32) σ6 σ7 hq) (cwV 2 hts gX12_negation_X12_puts rfl rfl rfl (by decide +kernel) ⟨by simp only [rmR, rmX12_puts]; omega, by simp only [rmR, rmX12_puts]; omega⟩) (k_recv C hw (LM_0 LM) rfl) rfl hl.1 rfl (Nat.le_of_ble_eq_true rfl) dX12_negation_26 (fun H locs hw => ?_)
    exact k_vret C hw hf dX12_negation_29
def f_X12_conjunction_b4_s (Rf : Nat → MSt → Option MSt) (r4 : MSt → Option MSt)  (σ : MSt) : Option MSt :=
  k_bd (f_X12_isWord (13 : Int32) σ) fun q2 σ1 =>
  if q2 = 0 then
  (some σ1)
  else
  (k_bv (f_X12_knot σ1) fun σ3 =>
  k_bv (f_X12_goOn σ3) fun σ4 =>
  k_bv (Rf 2 σ4) fun σ5 =>
  k_bv (f_X12_puts (2 : Int32) (261 : Int32) σ5) fun σ6 =>
  r4 σ6)
def f_X12_conjunction_b4 (Rf : Nat → MSt → Option MSt) : Nat → MSt → Option MSt
  | 0 => fun _ => none
  | n + 1 => f_X12_conjunction_b4_s Rf (f_X12_conjunction_b4 Rf n)
def f_X12_conjunction_r (Rf : Nat → MSt → Option MSt)  (σ : MSt) : Option MSt :=
  k_bv (Rf 2 σ) fun σ7 =>
  f_X12_conjunction_b4 Rf FU σ7
set_option maxHeartbeats 4000000 in
set_option maxRecDepth 100000 in
theorem c_X12_conjunction_r (l : Launch) (d : Nat) (G : va_G) (Y : CY) (w : MSt → va_W) (ad : Nat → Nat) (Rf : Nat → MSt → Option MSt) (LM : LayM ad w Y) (ih0_ : ∀ (σ σ' : MSt), Rf 0 σ = some σ' → k_Mv l yX12_expression wsX12_expression (rmR d) G Y w [.ref (ad 0)] σ σ') (ih1_ : ∀ (σ σ' : MSt), Rf 1 σ = some σ' → k_Mv l yX12_conjunction wsX12_conjunction (rmR d) G Y w [.ref (ad 0)] σ σ') (ih2_ : ∀ (σ σ' : MSt), Rf 2 σ = some σ' → k_Mv l yX12_negation wsX12_negation (rmR d) G Y w [.ref (ad 0)] σ σ') (ih3_ : ∀ (σ σ' : MSt), Rf 3 σ = some σ' → k_Mv l yX12_sum wsX12_sum (rmR d) G Y w [.ref (ad 0)] σ σ') (ih4_ : ∀ (σ σ' : MSt), Rf 4 σ = some σ' → k_Mv l yX12_product wsX12_product (rmR d) G Y w [.ref (ad 0)] σ σ') (ih5_ : ∀ (σ σ' : MSt), Rf 5 σ = some σ' → k_Mv l yX12_primary wsX12_primary (rmR d) G Y w [.ref (ad 0)] σ σ')  (σ : MSt) (σ' : MSt) (hf : f_X12_conjunction_r Rf σ = some σ') : k_Mv l yX12_conjunction wsX12_conjunction (rmR (d + 1)) G Y w [.ref (ad 0)] σ σ' := by
  refine k_ofv (own := RX12) (cc := cX12_conjunction) (maxL := 1) none (by decide) rfl rfl (Nat.le_of_ble_eq_true rfl) ?_
  intro p e s m below meth c A C ls hl hw
  have hx := C.1
  have hb := C.2.1
  have hown := C.2.2.2.2.1
  have hts := C.2.2.2.2.2.1
  have hks := C.2.2.2.2.2.2.1
  have hl : lv_has ls 1 [(0, .ref (ad 0))] := hl
  have b4 : ∀ (n4 : Nat) (σ : MSt) (H : Heap) (locs : List Loc) (ls : Array Slot), lv_has ls 1 [(0, .ref (ad 0))] → k_W G w A s.heap σ H locs → f_X12_conjunction_b4 Rf n4 σ = some σ' → W p l e (rmR (d + 1)) s m [.ref (ad 0)].toArray below meth c H locs 0 0 (MQ below (k_Qv G w A σ') [.ref (ad 0)].toArray s 0 0 A) (F0 m 4 ls []) := by
    intro n4
    induction n4 with
    | zero =>
      intro σ H locs ls hl hw hf
      have hf : (none : Option MSt) = some σ' := hf
      cases hf
    | succ n4 ih4 =>
      intro σ H locs ls hl hw hf
      have hf : f_X12_conjunction_b4_s Rf (f_X12_conjunction_b4 Rf n4) σ = some σ' := hf
      unfold f_X12_conjunction_b4_s at hf
      refine lv_aload_n hx hb dX12_conjunction_4 rfl (lv_at hl 0 rfl) ?_
      refine lv_bipush (v := (13 : Int32)) hx hb dX12_conjunction_5 (by decide) ?_
      obtain ⟨q2, σ1, hq, hf⟩ := k_bdE hf
      refine k_callVi C hw (c_X12_isWord l G Y w ad LM (13 : Int32) σ q2 σ1 hq) (cwV 1 hts gX12_conjunction_X12_isWord rfl rfl rfl (by decide +kernel) ⟨by simp only [rmR, rmX12_isWord]; omega, by simp only [rmR, rmX12_isWord]; omega⟩) (k_recv C hw (LM_0 LM) rfl) rfl hl.1 rfl (Nat.le_of_ble_eq_true rfl) dX12_conjunction_7 (fun H locs hw => ?_)
      refine lv_if_eq (tgt := 36) hx hb dX12_conjunction_10 (by decide) (fun h => ?_) (fun h => ?_)
      · have hf := k_ifT h hf
        exact k_vret C hw hf dX12_conjunction_36
      · have hf := k_ifF h hf
        refine lv_aload_n hx hb dX12_conjunction_13 rfl (lv_at hl 0 rfl) ?_
        obtain ⟨σ3, hq, hf⟩ := k_bvE hf
        refine k_callVv C hw (c_X12_knot l G Y w ad LM σ1 σ3 hq) (cwV 0 hts gX12_conjunction_X12_knot rfl rfl rfl (by decide +kernel) ⟨by simp only [rmR, rmX12_knot]; omega, by simp only [rmR, rmX12_knot]; omega⟩) (k_recv C hw (LM_0 LM) rfl) rfl hl.1 rfl (Nat.le_of_ble_eq_true rfl) dX12_conjunction_14 (fun H locs hw => ?_)
        refine lv_aload_n hx hb dX12_conjunction_17 rfl (lv_at hl 0 rfl) ?_
        obtain ⟨σ4, hq, hf⟩ := k_bvE hf
        refine k_callVv C hw (c_X12_goOn l G Y w ad LM σ3 σ4 hq) (cwV 0 hts gX12_conjunction_X12_goOn rfl rfl rfl (by decide +kernel) ⟨by simp only [rmR, rmX12_goOn]; omega, by simp only [rmR, rmX12_goOn]; omega⟩) (k_recv C hw (LM_0 LM) rfl) rfl hl.1 rfl (Nat.le_of_ble_eq_true rfl) dX12_conjunction_18 (fun H locs hw => ?_)
        refine lv_aload_n hx hb dX12_conjunction_21 rfl (lv_at hl 0 rfl) ?_
        obtain ⟨σ5, hq, hf⟩ := k_bvE hf
        refine k_callVv C hw (ih2_ σ4 σ5 hq) (cwV 0 hts gX12_conjunction_X12_negation rfl rfl rfl (by decide +kernel) ⟨by simp only [rmR]; omega, by simp only [rmR]; omega⟩) (k_recv C hw (LM_0 LM) rfl) rfl hl.1 rfl (Nat.le_of_ble_eq_true rfl) dX12_conjunction_22 (fun H locs hw => ?_)
        refine lv_aload_n hx hb dX12_conjunction_25 rfl (lv_at hl 0 rfl) ?_
        refine lv_iconst (v := (2 : Int32)) hx hb dX12_conjunction_26 (by decide) ?_
        refine lv_sipush (v := (261 : Int32)) hx hb dX12_conjunction_27 (by decide) ?_
        obtain ⟨σ6, hq, hf⟩ := k_bvE hf
        refine k_callVv C hw (c_X12_puts l G Y w ad LM (2 : Int32) (261 : Int32) σ5 σ6 hq) (cwV 2 hts gX12_conjunction_X12_puts rfl rfl rfl (by decide +kernel) ⟨by simp only [rmR, rmX12_puts]; omega, by simp only [rmR, rmX12_puts]; omega⟩) (k_recv C hw (LM_0 LM) rfl) rfl hl.1 rfl (Nat.le_of_ble_eq_true rfl) dX12_conjunction_30 (fun H locs hw => ?_)
        refine lv_goto (tgt := 4) hx hb dX12_conjunction_33 (by decide) ?_
        exact ih4 σ6 _ _ _ (lv_sub hl [0] rfl) hw hf
  unfold f_X12_conjunction_r at hf
  refine lv_aload_n hx hb dX12_conjunction_0 rfl (lv_at hl 0 rfl) ?_
  obtain ⟨σ7, hq, hf⟩ := k_bvE hf
  refine k_callVv C hw (ih2_ σ σ7 hq) (cwV 0 hts gX12_conjunction_X12_negation rfl rfl rfl (by decide +kernel) ⟨by simp only [rmR]; omega, by simp only [rmR]; omega⟩) (k_recv C hw (LM_0 LM) rfl) rfl hl.1 rfl (Nat.le_of_ble_eq_true rfl) dX12_conjunction_1 (fun H locs hw => ?_)
  exact b4 FU σ7 _ _ _ (lv_sub hl [0] rfl) hw hf
def f_X12_expression_b4_s (Rf : Nat → MSt → Option MSt) (r4 : MSt → Option MSt)  (σ : MSt) : Option MSt :=
  k_bd (f_X12_isWord (12 : Int32) σ) fun q2 σ1 =>
  if q2 = 0 then
  (some σ1)
  else
  (k_bv (f_X12_knot σ1) fun σ3 =>
  k_bv (f_X12_goOn σ3) fun σ4 =>
  k_bv (Rf 1 σ4) fun σ5 =>
  k_bv (f_X12_puts (2 : Int32) (262 : Int32) σ5) fun σ6 =>
  r4 σ6)
def f_X12_expression_b4 (Rf : Nat → MSt → Option MSt) : Nat → MSt → Option MSt
  | 0 => fun _ => none
  | n + 1 => f_X12_expression_b4_s Rf (f_X12_expression_b4 Rf n)
def f_X12_expression_r (Rf : Nat → MSt → Option MSt)  (σ : MSt) : Option MSt :=
  k_bv (Rf 1 σ) fun σ7 =>
  f_X12_expression_b4 Rf FU σ7
set_option maxHeartbeats 4000000 in
set_option maxRecDepth 100000 in
theorem c_X12_expression_r (l : Launch) (d : Nat) (G : va_G) (Y : CY) (w : MSt → va_W) (ad : Nat → Nat) (Rf : Nat → MSt → Option MSt) (LM : LayM ad w Y) (ih0_ : ∀ (σ σ' : MSt), Rf 0 σ = some σ' → k_Mv l yX12_expression wsX12_expression (rmR d) G Y w [.ref (ad 0)] σ σ') (ih1_ : ∀ (σ σ' : MSt), Rf 1 σ = some σ' → k_Mv l yX12_conjunction wsX12_conjunction (rmR d) G Y w [.ref (ad 0)] σ σ') (ih2_ : ∀ (σ σ' : MSt), Rf 2 σ = some σ' → k_Mv l yX12_negation wsX12_negation (rmR d) G Y w [.ref (ad 0)] σ σ') (ih3_ : ∀ (σ σ' : MSt), Rf 3 σ = some σ' → k_Mv l yX12_sum wsX12_sum (rmR d) G Y w [.ref (ad 0)] σ σ') (ih4_ : ∀ (σ σ' : MSt), Rf 4 σ = some σ' → k_Mv l yX12_product wsX12_product (rmR d) G Y w [.ref (ad 0)] σ σ') (ih5_ : ∀ (σ σ' : MSt), Rf 5 σ = some σ' → k_Mv l yX12_primary wsX12_primary (rmR d) G Y w [.ref (ad 0)] σ σ')  (σ : MSt) (σ' : MSt) (hf : f_X12_expression_r Rf σ = some σ') : k_Mv l yX12_expression wsX12_expression (rmR (d + 1)) G Y w [.ref (ad 0)] σ σ' := by
  refine k_ofv (own := RX12) (cc := cX12_expression) (maxL := 1) none (by decide) rfl rfl (Nat.le_of_ble_eq_true rfl) ?_
  intro p e s m below meth c A C ls hl hw
  have hx := C.1
  have hb := C.2.1
  have hown := C.2.2.2.2.1
  have hts := C.2.2.2.2.2.1
  have hks := C.2.2.2.2.2.2.1
  have hl : lv_has ls 1 [(0, .ref (ad 0))] := hl
  have b4 : ∀ (n4 : Nat) (σ : MSt) (H : Heap) (locs : List Loc) (ls : Array Slot), lv_has ls 1 [(0, .ref (ad 0))] → k_W G w A s.heap σ H locs → f_X12_expression_b4 Rf n4 σ = some σ' → W p l e (rmR (d + 1)) s m [.ref (ad 0)].toArray below meth c H locs 0 0 (MQ below (k_Qv G w A σ') [.ref (ad 0)].toArray s 0 0 A) (F0 m 4 ls []) := by
    intro n4
    induction n4 with
    | zero =>
      intro σ H locs ls hl hw hf
      have hf : (none : Option MSt) = some σ' := hf
      cases hf
    | succ n4 ih4 =>
      intro σ H locs ls hl hw hf
      have hf : f_X12_expression_b4_s Rf (f_X12_expression_b4 Rf n4) σ = some σ' := hf
      unfold f_X12_expression_b4_s at hf
      refine lv_aload_n hx hb dX12_expression_4 rfl (lv_at hl 0 rfl) ?_
      refine lv_bipush (v := (12 : Int32)) hx hb dX12_expression_5 (by decide) ?_
      obtain ⟨q2, σ1, hq, hf⟩ := k_bdE hf
      refine k_callVi C hw (c_X12_isWord l G Y w ad LM (12 : Int32) σ q2 σ1 hq) (cwV 1 hts gX12_expression_X12_isWord rfl rfl rfl (by decide +kernel) ⟨by simp only [rmR, rmX12_isWord]; omega, by simp only [rmR, rmX12_isWord]; omega⟩) (k_recv C hw (LM_0 LM) rfl) rfl hl.1 rfl (Nat.le_of_ble_eq_true rfl) dX12_expression_7 (fun H locs hw => ?_)
      refine lv_if_eq (tgt := 36) hx hb dX12_expression_10 (by decide) (fun h => ?_) (fun h => ?_)
      · have hf := k_ifT h hf
        exact k_vret C hw hf dX12_expression_36
      · have hf := k_ifF h hf
        refine lv_aload_n hx hb dX12_expression_13 rfl (lv_at hl 0 rfl) ?_
        obtain ⟨σ3, hq, hf⟩ := k_bvE hf
        refine k_callVv C hw (c_X12_knot l G Y w ad LM σ1 σ3 hq) (cwV 0 hts gX12_expression_X12_knot rfl rfl rfl (by decide +kernel) ⟨by simp only [rmR, rmX12_knot]; omega, by simp only [rmR, rmX12_knot]; omega⟩) (k_recv C hw (LM_0 LM) rfl) rfl hl.1 rfl (Nat.le_of_ble_eq_true rfl) dX12_expression_14 (fun H locs hw => ?_)
        refine lv_aload_n hx hb dX12_expression_17 rfl (lv_at hl 0 rfl) ?_
        obtain ⟨σ4, hq, hf⟩ := k_bvE hf
        refine k_callVv C hw (c_X12_goOn l G Y w ad LM σ3 σ4 hq) (cwV 0 hts gX12_expression_X12_goOn rfl rfl rfl (by decide +kernel) ⟨by simp only [rmR, rmX12_goOn]; omega, by simp only [rmR, rmX12_goOn]; omega⟩) (k_recv C hw (LM_0 LM) rfl) rfl hl.1 rfl (Nat.le_of_ble_eq_true rfl) dX12_expression_18 (fun H locs hw => ?_)
        refine lv_aload_n hx hb dX12_expression_21 rfl (lv_at hl 0 rfl) ?_
        obtain ⟨σ5, hq, hf⟩ := k_bvE hf
        refine k_callVv C hw (ih1_ σ4 σ5 hq) (cwV 0 hts gX12_expression_X12_conjunction rfl rfl rfl (by decide +kernel) ⟨by simp only [rmR]; omega, by simp only [rmR]; omega⟩) (k_recv C hw (LM_0 LM) rfl) rfl hl.1 rfl (Nat.le_of_ble_eq_true rfl) dX12_expression_22 (fun H locs hw => ?_)
        refine lv_aload_n hx hb dX12_expression_25 rfl (lv_at hl 0 rfl) ?_
        refine lv_iconst (v := (2 : Int32)) hx hb dX12_expression_26 (by decide) ?_
        refine lv_sipush (v := (262 : Int32)) hx hb dX12_expression_27 (by decide) ?_
        obtain ⟨σ6, hq, hf⟩ := k_bvE hf
        refine k_callVv C hw (c_X12_puts l G Y w ad LM (2 : Int32) (262 : Int32) σ5 σ6 hq) (cwV 2 hts gX12_expression_X12_puts rfl rfl rfl (by decide +kernel) ⟨by simp only [rmR, rmX12_puts]; omega, by simp only [rmR, rmX12_puts]; omega⟩) (k_recv C hw (LM_0 LM) rfl) rfl hl.1 rfl (Nat.le_of_ble_eq_true rfl) dX12_expression_30 (fun H locs hw => ?_)
        refine lv_goto (tgt := 4) hx hb dX12_expression_33 (by decide) ?_
        exact ih4 σ6 _ _ _ (lv_sub hl [0] rfl) hw hf
  unfold f_X12_expression_r at hf
  refine lv_aload_n hx hb dX12_expression_0 rfl (lv_at hl 0 rfl) ?_
  obtain ⟨σ7, hq, hf⟩ := k_bvE hf
  refine k_callVv C hw (ih1_ σ σ7 hq) (cwV 0 hts gX12_expression_X12_conjunction rfl rfl rfl (by decide +kernel) ⟨by simp only [rmR]; omega, by simp only [rmR]; omega⟩) (k_recv C hw (LM_0 LM) rfl) rfl hl.1 rfl (Nat.le_of_ble_eq_true rfl) dX12_expression_1 (fun H locs hw => ?_)
  exact b4 FU σ7 _ _ _ (lv_sub hl [0] rfl) hw hf
def f_rec : Nat → Nat → MSt → Option MSt
  | 0 => fun _ _ => none
  | d + 1 => fun k σ => match k with
    | 0 => f_X12_expression_r (f_rec d) σ
    | 1 => f_X12_conjunction_r (f_rec d) σ
    | 2 => f_X12_negation_r (f_rec d) σ
    | 3 => f_X12_sum_r (f_rec d) σ
    | 4 => f_X12_product_r (f_rec d) σ
    | _ => f_X12_primary_r (f_rec d) σ
theorem c_rec (l : Launch) (G : va_G) (Y : CY) (w : MSt → va_W) (ad : Nat → Nat) (LM : LayM ad w Y) (d : Nat) : (∀ (σ σ' : MSt), f_rec d 0 σ = some σ' → k_Mv l yX12_expression wsX12_expression (rmR d) G Y w [.ref (ad 0)] σ σ') ∧ (∀ (σ σ' : MSt), f_rec d 1 σ = some σ' → k_Mv l yX12_conjunction wsX12_conjunction (rmR d) G Y w [.ref (ad 0)] σ σ') ∧ (∀ (σ σ' : MSt), f_rec d 2 σ = some σ' → k_Mv l yX12_negation wsX12_negation (rmR d) G Y w [.ref (ad 0)] σ σ') ∧ (∀ (σ σ' : MSt), f_rec d 3 σ = some σ' → k_Mv l yX12_sum wsX12_sum (rmR d) G Y w [.ref (ad 0)] σ σ') ∧ (∀ (σ σ' : MSt), f_rec d 4 σ = some σ' → k_Mv l yX12_product wsX12_product (rmR d) G Y w [.ref (ad 0)] σ σ') ∧ (∀ (σ σ' : MSt), f_rec d 5 σ = some σ' → k_Mv l yX12_primary wsX12_primary (rmR d) G Y w [.ref (ad 0)] σ σ') := by
  induction d with
  | zero => exact ⟨(fun _ _ h => by cases h), (fun _ _ h => by cases h), (fun _ _ h => by cases h), (fun _ _ h => by cases h), (fun _ _ h => by cases h), (fun _ _ h => by cases h)⟩
  | succ d ih =>
    obtain ⟨i0, i1, i2, i3, i4, i5⟩ := ih
    exact ⟨fun σ σ' h => c_X12_expression_r l d G Y w ad (f_rec d) LM i0 i1 i2 i3 i4 i5 σ σ' h, fun σ σ' h => c_X12_conjunction_r l d G Y w ad (f_rec d) LM i0 i1 i2 i3 i4 i5 σ σ' h, fun σ σ' h => c_X12_negation_r l d G Y w ad (f_rec d) LM i0 i1 i2 i3 i4 i5 σ σ' h, fun σ σ' h => c_X12_sum_r l d G Y w ad (f_rec d) LM i0 i1 i2 i3 i4 i5 σ σ' h, fun σ σ' h => c_X12_product_r l d G Y w ad (f_rec d) LM i0 i1 i2 i3 i4 i5 σ σ' h, fun σ σ' h => c_X12_primary_r l d G Y w ad (f_rec d) LM i0 i1 i2 i3 i4 i5 σ σ' h⟩
def f_X12_expression (σ : MSt) : Option MSt := f_rec 150 0 σ
abbrev rmX12_expression : Room := rmR 150
theorem c_X12_expression (l : Launch) (G : va_G) (Y : CY) (w : MSt → va_W) (ad : Nat → Nat) (LM : LayM ad w Y) (σ σ' : MSt) (hf : f_X12_expression σ = some σ') : k_Mv l yX12_expression wsX12_expression rmX12_expression G Y w [.ref (ad 0)] σ σ' := (c_rec l G Y w ad LM 150).1 σ σ' hf
def f_X12_conjunction (σ : MSt) : Option MSt := f_rec 150 1 σ
abbrev rmX12_conjunction : Room := rmR 150
theorem c_X12_conjunction (l : Launch) (G : va_G) (Y : CY) (w : MSt → va_W) (ad : Nat → Nat) (LM : LayM ad w Y) (σ σ' : MSt) (hf : f_X12_conjunction σ = some σ') : k_Mv l yX12_conjunction wsX12_conjunction rmX12_conjunction G Y w [.ref (ad 0)] σ σ' := (c_rec l G Y w ad LM 150).2.1 σ σ' hf
def f_X12_negation (σ : MSt) : Option MSt := f_rec 150 2 σ
abbrev rmX12_negation : Room := rmR 150
theorem c_X12_negation (l : Launch) (G : va_G) (Y : CY) (w : MSt → va_W) (ad : Nat → Nat) (LM : LayM ad w Y) (σ σ' : MSt) (hf : f_X12_negation σ = some σ') : k_Mv l yX12_negation wsX12_negation rmX12_negation G Y w [.ref (ad 0)] σ σ' := (c_rec l G Y w ad LM 150).2.2.1 σ σ' hf
def f_X12_sum (σ : MSt) : Option MSt := f_rec 150 3 σ
abbrev rmX12_sum : Room := rmR 150
theorem c_X12_sum (l : Launch) (G : va_G) (Y : CY) (w : MSt → va_W) (ad : Nat → Nat) (LM : LayM ad w Y) (σ σ' : MSt) (hf : f_X12_sum σ = some σ') : k_Mv l yX12_sum wsX12_sum rmX12_sum G Y w [.ref (ad 0)] σ σ' := (c_rec l G Y w ad LM 150).2.2.2.1 σ σ' hf
def f_X12_product (σ : MSt) : Option MSt := f_rec 150 4 σ
abbrev rmX12_product : Room := rmR 150
theorem c_X12_product (l : Launch) (G : va_G) (Y : CY) (w : MSt → va_W) (ad : Nat → Nat) (LM : LayM ad w Y) (σ σ' : MSt) (hf : f_X12_product σ = some σ') : k_Mv l yX12_product wsX12_product rmX12_product G Y w [.ref (ad 0)] σ σ' := (c_rec l G Y w ad LM 150).2.2.2.2.1 σ σ' hf
def f_X12_primary (σ : MSt) : Option MSt := f_rec 150 5 σ
abbrev rmX12_primary : Room := rmR 150
theorem c_X12_primary (l : Launch) (G : va_G) (Y : CY) (w : MSt → va_W) (ad : Nat → Nat) (LM : LayM ad w Y) (σ σ' : MSt) (hf : f_X12_primary σ = some σ') : k_Mv l yX12_primary wsX12_primary rmX12_primary G Y w [.ref (ad 0)] σ σ' := (c_rec l G Y w ad LM 150).2.2.2.2.2 σ σ' hf
