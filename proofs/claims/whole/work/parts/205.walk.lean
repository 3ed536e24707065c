def f_X11_kindness_b13_s  (r13 : Int32 → Int32 → Int32 → MSt → Option (Int32 × MSt)) (x1 : Int32) (x2 : Int32) (x3 : Int32) (σ : MSt) : Option (Int32 × MSt) :=
  if (9 : Int32) < x3 then
  (some ((-2 : Int32), σ))
  else
  (k_bd (f_X3_seesWithKindness x1 x2 x3 σ) fun q2 σ1 =>
  if q2 = 0 then
  (k_nm (x3 + (1 : Int32)) fun u3 =>
  r13 x1 x2 u3 σ1)
  else
  (some (x3, σ1)))
def f_X11_kindness_b13  : Nat → Int32 → Int32 → Int32 → MSt → Option (Int32 × MSt)
  | 0 => fun _ _ _ _ => none
  | n + 1 => f_X11_kindness_b13_s (f_X11_kindness_b13 n)
def f_X11_kindness  (p1 : Int32) (p2 : Int32) (σ : MSt) : Option (Int32 × MSt) :=
  k_bd (f_X11_canForesee p1 p2 σ) fun q5 σ4 =>
  if q5 = 0 then
  (some ((-1 : Int32), σ4))
  else
  (f_X11_kindness_b13 FU p1 p2 (0 : Int32) σ4)
def rmX11_kindness : Room := { frames := 4, cells := 0, slots := 0, locals := 97 }
set_option maxHeartbeats 4000000 in
set_option maxRecDepth 100000 in
theorem c_X11_kindness (l : Launch) (G : va_G) (Y : CY) (w : MSt → va_W) (ad : Nat → Nat)  (LC : LayC ad w Y) (p1 : Int32) (p2 : Int32) (σ : MSt) (r : Int32) (σ' : MSt) (hf : f_X11_kindness p1 p2 σ = some (r, σ')) : k_Mi l yX11_kindness wsX11_kindness rmX11_kindness G Y w [.ref (ad 0), .int p1, .int p2] σ r σ' := by
  refine k_ofi (own := RX11) (cc := cX11_kindness) (maxL := 4) (some .int) (by decide) rfl rfl (Nat.le_of_ble_eq_true rfl) ?_
  intro p e s m below meth c A C ls hl hw
  have hx := C.1
  have hb := C.2.1
  have hown := C.2.2.2.2.1
  have hts := C.2.2.2.2.2.1
  have hks := C.2.2.2.2.2.2.1
  have hl : lv_has ls 4 [(0, .ref (ad 0)), (1, .int p1), (2, .int p2)] := hl
  have b13 : ∀ (n13 : Nat) (x1 : Int32) (x2 : Int32) (x3 : Int32) (σ : MSt) (H : Heap) (locs : List Loc) (ls : Array Slot), lv_has ls 4 [(0, .ref (ad 0)), (1, .int x1), (2, .int x2), (3, .int x3)] → k_W G w A s.heap σ H locs → f_X11_kindness_b13 n13 x1 x2 x3 σ = some (r, σ') → W p l e rmX11_kindness s m [.ref (ad 0), .int p1, .int p2].toArray below meth c H locs 0 0 (MQ below (k_Qi G w A r σ') [.ref (ad 0), .int p1, .int p2].toArray s 0 0 A) (F0 m 13 ls []) := by
    intro n13
    induction n13 with
    | zero =>
      intro x1 x2 x3 σ H locs ls hl hw hf
      have hf : (none : Option (Int32 × MSt)) = some (r, σ') := hf
      cases hf
    | succ n13 ih13 =>
      intro x1 x2 x3 σ H locs ls hl hw hf
      have hf : f_X11_kindness_b13_s (f_X11_kindness_b13 n13) x1 x2 x3 σ = some (r, σ') := hf
      unfold f_X11_kindness_b13_s at hf
      refine lv_iload_n hx hb dX11_kindness_13 rfl (lv_at hl 3 rfl) ?_
      refine lv_bipush (v := (9 : Int32)) hx hb dX11_kindness_14 (by decide) ?_
      refine lv_icmp_gt (tgt := 40) hx hb dX11_kindness_16 (by decide) (fun h => ?_) (fun h => ?_)
      · have hf := k_ifT h hf
        refine lv_bipush (v := (-2 : Int32)) hx hb dX11_kindness_40 (by decide) ?_
        exact k_iret C hw hf dX11_kindness_42
      · have hf := k_ifF h hf
        refine lv_aload_n hx hb dX11_kindness_19 rfl (lv_at hl 0 rfl) ?_
        refine k_get C hw (LC_0 LC) (ci := 11) rfl k_in11 7 (by decide) lk11_59 (v := .ref (ad 67)) rfl dX11_kindness_20 ?_
        refine lv_iload_n hx hb dX11_kindness_23 rfl (lv_at hl 1 rfl) ?_
        refine lv_iload_n hx hb dX11_kindness_24 rfl (lv_at hl 2 rfl) ?_
        refine lv_iload_n hx hb dX11_kindness_25 rfl (lv_at hl 3 rfl) ?_
        obtain ⟨q2, σ1, hq, hf⟩ := k_bdE hf
        refine k_callVi C hw (c_X3_seesWithKindness l G Y w ad LC x1 x2 x3 σ q2 σ1 hq) (cwV 3 hts gX11_kindness_X3_seesWithKindness rfl rfl rfl (by decide +kernel) ⟨Nat.le_of_ble_eq_true rfl, Nat.le_of_ble_eq_true rfl⟩) (k_recv C hw (LC_67 LC) rfl) rfl hl.1 rfl (Nat.le_of_ble_eq_true rfl) dX11_kindness_26 (fun H locs hw => ?_)
        refine lv_if_eq (tgt := 34) hx hb dX11_kindness_29 (by decide) (fun h => ?_) (fun h => ?_)
        · have hf := k_ifT h hf
          obtain ⟨u3, ex⟩ : ∃ y : Int32, y = (x3 + (1 : Int32)) := ⟨_, rfl⟩
          have hf := k_nmE ex hf
          refine lv_iinc (v := u3) (lv' := [(3, .int u3), (0, .ref (ad 0)), (1, .int x1), (2, .int x2)]) hx hb dX11_kindness_34 hl (k := 3) rfl (by rw [ex]; rfl) (by decide) rfl (fun ls hl => ?_)
          refine lv_goto (tgt := 13) hx hb dX11_kindness_37 (by decide) ?_
          exact ih13 x1 x2 u3 σ1 _ _ _ (lv_sub hl [1, 2, 3, 0] rfl) hw hf
        · have hf := k_ifF h hf
          refine lv_iload_n hx hb dX11_kindness_32 rfl (lv_at hl 3 rfl) ?_
          exact k_iret C hw hf dX11_kindness_33
  unfold f_X11_kindness at hf
  refine lv_aload_n hx hb dX11_kindness_0 rfl (lv_at hl 0 rfl) ?_
  refine lv_iload_n hx hb dX11_kindness_1 rfl (lv_at hl 1 rfl) ?_
  refine lv_iload_n hx hb dX11_kindness_2 rfl (lv_at hl 2 rfl) ?_
  obtain ⟨q5, σ4, hq, hf⟩ := k_bdE hf
  refine k_callVi C hw (c_X11_canForesee l G Y w ad LC p1 p2 σ q5 σ4 hq) (cwV 2 hts gX11_kindness_X11_canForesee rfl rfl rfl (by decide +kernel) ⟨Nat.le_of_ble_eq_true rfl, Nat.le_of_ble_eq_true rfl⟩) (k_recv C hw (LC_0 LC) rfl) rfl hl.1 rfl (Nat.le_of_ble_eq_true rfl) dX11_kindness_3 (fun H locs hw => ?_)
  refine lv_if_ne (tgt := 11) hx hb dX11_kindness_6 (by decide) (fun h => ?_) (fun h => ?_)
  · have hf := k_ifF h hf
    refine lv_iconst (v := (0 : Int32)) hx hb dX11_kindness_11 (by decide) ?_
    refine lv_istore_n (lv' := [(3, .int (0 : Int32)), (0, .ref (ad 0)), (1, .int p1), (2, .int p2)]) hx hb dX11_kindness_12 rfl hl (by decide) rfl (fun ls hl => ?_)
    exact b13 FU p1 p2 (0 : Int32) σ4 _ _ _ (lv_sub hl [1, 2, 3, 0] rfl) hw hf
  · have hf := k_ifT h hf
    refine lv_iconst (v := (-1 : Int32)) hx hb dX11_kindness_9 (by decide) ?_
    exact k_iret C hw hf dX11_kindness_10
def f_X11_isShare_b26  (y0 : Int32) (σ : MSt) : Option (Int32 × MSt) :=
  k_ck (k_bo y0) <|
  some (y0, σ)
def f_X11_isShare_b25   (σ : MSt) : Option (Int32 × MSt) :=
  f_X11_isShare_b26 (0 : Int32) σ
def f_X11_isShare  (p1 : Int32) (σ : MSt) : Option (Int32 × MSt) :=
  if p1 < (1 : Int32) then
  (f_X11_isShare_b25 σ)
  else
  (if (60 : Int32) < p1 then
  (f_X11_isShare_b25 σ)
  else
  (if (σ.1 10 7) ≤ 0 then
  (f_X11_isShare_b25 σ)
  else
  (f_X11_isShare_b26 (1 : Int32) σ)))
def rmX11_isShare : Room := { frames := 0, cells := 0, slots := 0, locals := 0 }
set_option maxHeartbeats 4000000 in
set_option maxRecDepth 100000 in
theorem c_X11_isShare (l : Launch) (G : va_G) (Y : CY) (w : MSt → va_W) (ad : Nat → Nat)  (LC : LayC ad w Y) (p1 : Int32) (σ : MSt) (r : Int32) (σ' : MSt) (hf : f_X11_isShare p1 σ = some (r, σ')) : k_Mi l yX11_isShare wsX11_isShare rmX11_isShare G Y w [.ref (ad 0), .int p1] σ r σ' := by
  refine k_ofi (own := RX11) (cc := cX11_isShare) (maxL := 2) (some .boolean) (by decide) rfl rfl (Nat.le_of_ble_eq_true rfl) ?_
  intro p e s m below meth c A C ls hl hw
  have hx := C.1
  have hb := C.2.1
  have hown := C.2.2.2.2.1
  have hts := C.2.2.2.2.2.1
  have hks := C.2.2.2.2.2.2.1
  have hl : lv_has ls 2 [(0, .ref (ad 0)), (1, .int p1)] := hl
  have b26 : ∀ (y0 : Int32) (σ : MSt) (H : Heap) (locs : List Loc) (ls : Array Slot), lv_has ls 2 [] → k_W G w A s.heap σ H locs → f_X11_isShare_b26 y0 σ = some (r, σ') → W p l e rmX11_isShare s m [.ref (ad 0), .int p1].toArray below meth c H locs 0 0 (MQ below (k_Qi G w A r σ') [.ref (ad 0), .int p1].toArray s 0 0 A) (F0 m 26 ls [.int y0]) := by
    intro y0 σ H locs ls hl hw hf
    unfold f_X11_isShare_b26 at hf
    obtain ⟨hz, hf⟩ := k_ckE hf
    exact k_zret C hw (k_boE hz).1 hf dX11_isShare_26
  have b25 : ∀ (σ : MSt) (H : Heap) (locs : List Loc) (ls : Array Slot), lv_has ls 2 [] → k_W G w A s.heap σ H locs → f_X11_isShare_b25 σ = some (r, σ') → W p l e rmX11_isShare s m [.ref (ad 0), .int p1].toArray below meth c H locs 0 0 (MQ below (k_Qi G w A r σ') [.ref (ad 0), .int p1].toArray s 0 0 A) (F0 m 25 ls []) := by
    intro σ H locs ls hl hw hf
    unfold f_X11_isShare_b25 at hf
    refine lv_iconst (v := (0 : Int32)) hx hb dX11_isShare_25 (by decide) ?_
    exact b26 (0 : Int32) σ _ _ _ (lv_sub hl [] rfl) hw hf
  unfold f_X11_isShare at hf
  refine lv_iload_n hx hb dX11_isShare_0 rfl (lv_at hl 1 rfl) ?_
  refine lv_iconst (v := (1 : Int32)) hx hb dX11_isShare_1 (by decide) ?_
  refine lv_icmp_lt (tgt := 25) hx hb dX11_isShare_2 (by decide) (fun h => ?_) (fun h => ?_)
  · have hf := k_ifT h hf
    exact b25 σ _ _ _ (lv_sub hl [] rfl) hw hf
  · have hf := k_ifF h hf
    refine lv_iload_n hx hb dX11_isShare_5 rfl (lv_at hl 1 rfl) ?_
    refine lv_bipush (v := (60 : Int32)) hx hb dX11_isShare_6 (by decide) ?_
    refine lv_icmp_gt (tgt := 25) hx hb dX11_isShare_8 (by decide) (fun h => ?_) (fun h => ?_)
    · have hf := k_ifT h hf
      exact b25 σ _ _ _ (lv_sub hl [] rfl) hw hf
    · have hf := k_ifF h hf
      refine lv_aload_n hx hb dX11_isShare_11 rfl (lv_at hl 0 rfl) ?_
      refine k_get C hw (LC_0 LC) (ci := 11) rfl k_in11 2 (by decide) lk11_28 (v := .ref (ad 10)) rfl dX11_isShare_12 ?_
      refine k_getN C hw (LC_10 LC) (ci := 0) rfl k_in0 7 (by decide) ln11_274 (v := .int (σ.1 10 7)) rfl dX11_isShare_15 ?_
      refine lv_if_le (tgt := 25) hx hb dX11_isShare_18 (by decide) (fun h => ?_) (fun h => ?_)
      · have hf := k_ifT h hf
        exact b25 σ _ _ _ (lv_sub hl [] rfl) hw hf
      · have hf := k_ifF h hf
        refine lv_iconst (v := (1 : Int32)) hx hb dX11_isShare_21 (by decide) ?_
        refine lv_goto (tgt := 26) hx hb dX11_isShare_22 (by decide) ?_
        exact b26 (1 : Int32) σ _ _ _ (lv_sub hl [] rfl) hw hf
def f_X11_winter_b99  (y0 : Int32) (σ : MSt) : Option (Int32 × MSt) :=
  some (y0, σ)
def f_X11_winter_b82  (x2 : Int32) (x3 : Int32) (σ : MSt) : Option (Int32 × MSt) :=
  if x2 = 0 then
  (f_X11_winter_b99 x3 σ)
  else
  (k_ck (k_inb x3 8) <|
  f_X11_winter_b99 (σ.1 68 (x3).toNatClampNeg) σ)
def f_X11_winter_b76  (r32 : Int32 → Int32 → Int32 → MSt → Option (Int32 × MSt)) (x2 : Int32) (x3 : Int32) (x4 : Int32) (σ : MSt) : Option (Int32 × MSt) :=
  k_nm (x4 + (1 : Int32)) fun u1 =>
  r32 x2 x3 u1 σ
def f_X11_winter_b32_s  (r32 : Int32 → Int32 → Int32 → MSt → Option (Int32 × MSt)) (x2 : Int32) (x3 : Int32) (x4 : Int32) (σ : MSt) : Option (Int32 × MSt) :=
  if (σ.1 10 7) ≤ x4 then
  (f_X11_winter_b82 x2 x3 σ)
  else
  (if (8 : Int32) ≤ x4 then
  (f_X11_winter_b82 x2 x3 σ)
  else
  (k_ck (k_inb x4 8) <|
  k_ck (k_inb x3 8) <|
  if (σ.1 68 (x4).toNatClampNeg) ≤ (σ.1 68 (x3).toNatClampNeg) then
  (f_X11_winter_b76 r32 x2 x3 x4 σ)
  else
  (f_X11_winter_b76 r32 x2 x4 x4 σ)))
def f_X11_winter_b32  : Nat → Int32 → Int32 → Int32 → MSt → Option (Int32 × MSt)
  | 0 => fun _ _ _ _ => none
  | n + 1 => f_X11_winter_b32_s (f_X11_winter_b32 n)
def f_X11_winter_b17   (σ : MSt) : Option (Int32 × MSt) :=
  some ((-1 : Int32), σ)
def f_X11_winter  (p1 : Int32) (p2 : Int32) (σ : MSt) : Option (Int32 × MSt) :=
  k_bd (f_X11_isShare p1 σ) fun q2 σ1 =>
  if q2 = 0 then
  (f_X11_winter_b17 σ1)
  else
  (if p2 < 0 then
  (f_X11_winter_b17 σ1)
  else
  (if p2 ≤ (1 : Int32) then
  (k_bv (f_X3_countNights p1 σ1) fun σ3 =>
  f_X11_winter_b32 FU p2 (0 : Int32) (1 : Int32) σ3)
  else
  (f_X11_winter_b17 σ1)))
def rmX11_winter : Room := { frames := 5, cells := 0, slots := 0, locals := 119 }
set_option maxHeartbeats 4000000 in
set_option maxRecDepth 100000 in
theorem c_X11_winter (l : Launch) (G : va_G) (Y : CY) (w : MSt → va_W) (ad : Nat → Nat)  (LC : LayC ad w Y) (p1 : Int32) (p2 : Int32) (σ : MSt) (r : Int32) (σ' : MSt) (hf : f_X11_winter p1 p2 σ = some (r, σ')) : k_Mi l yX11_winter wsX11_winter rmX11_winter G Y w [.ref (ad 0), .int p1, .int p2] σ r σ' := by
  refine k_ofi (own := RX11) (cc := cX11_winter) (maxL := 5) (some .int) (by decide) rfl rfl (Nat.le_of_ble_eq_true rfl) ?_
  intro p e s m below meth c A C ls hl hw
  have hx := C.1
  have hb := C.2.1
  have hown := C.2.2.2.2.1
  have hts := C.2.2.2.2.2.1
  have hks := C.2.2.2.2.2.2.1
  have hl : lv_has ls 5 [(0, .ref (ad 0)), (1, .int p1), (2, .int p2)] := hl
  have b99 : ∀ (y0 : Int32) (σ : MSt) (H : Heap) (locs : List Loc) (ls : Array Slot), lv_has ls 5 [] → k_W G w A s.heap σ H locs → f_X11_winter_b99 y0 σ = some (r, σ') → W p l e rmX11_winter s m [.ref (ad 0), .int p1, .int p2].toArray below meth c H locs 0 0 (MQ below (k_Qi G w A r σ') [.ref (ad 0), .int p1, .int p2].toArray s 0 0 A) (F0 m 99 ls [.int y0]) := by
    intro y0 σ H locs ls hl hw hf
    unfold f_X11_winter_b99 at hf
    exact k_iret C hw hf dX11_winter_99
  have b82 : ∀ (x2 : Int32) (x3 : Int32) (σ : MSt) (H : Heap) (locs : List Loc) (ls : Array Slot), lv_has ls 5 [(0, .ref (ad 0)), (2, .int x2), (3, .int x3)] → k_W G w A s.heap σ H locs → f_X11_winter_b82 x2 x3 σ = some (r, σ') → W p l e rmX11_winter s m [.ref (ad 0), .int p1, .int p2].toArray below meth c H locs 0 0 (MQ below (k_Qi G w A r σ') [.ref (ad 0), .int p1, .int p2].toArray s 0 0 A) (F0 m 82 ls []) := by
    intro x2 x3 σ H locs ls hl hw hf
    unfold f_X11_winter_b82 at hf
    refine lv_iload_n hx hb dX11_winter_82 rfl (lv_at hl 1 rfl) ?_
    refine lv_if_ne (tgt := 90) hx hb dX11_winter_83 (by decide) (fun h => ?_) (fun h => ?_)
    · have hf := k_ifF h hf
      refine lv_aload_n hx hb dX11_winter_90 rfl (lv_at hl 0 rfl) ?_
      refine k_get C hw (LC_0 LC) (ci := 11) rfl k_in11 7 (by decide) lk11_59 (v := .ref (ad 67)) rfl dX11_winter_91 ?_
      refine k_getN C hw (LC_67 LC) (ci := 3) rfl k_in3 3 (by decide) ln11_287 (v := .ref (ad 68)) rfl dX11_winter_94 ?_
      refine lv_iload_n hx hb dX11_winter_97 rfl (lv_at hl 2 rfl) ?_
      obtain ⟨hi, hf⟩ := k_ckE hf
      refine k_iald C hw (LC_68 LC) hi dX11_winter_98 ?_
      exact b99 (σ.1 68 (x3).toNatClampNeg) σ _ _ _ (lv_sub hl [] rfl) hw hf
    · have hf := k_ifT h hf
      refine lv_iload_n hx hb dX11_winter_86 rfl (lv_at hl 2 rfl) ?_
      refine lv_goto (tgt := 99) hx hb dX11_winter_87 (by decide) ?_
      exact b99 x3 σ _ _ _ (lv_sub hl [] rfl) hw hf
  have b32 : ∀ (n32 : Nat) (x2 : Int32) (x3 : Int32) (x4 : Int32) (σ : MSt) (H : Heap) (locs : List Loc) (ls : Array Slot), lv_has ls 5 [(0, .ref (ad 0)), (2, .int x2), (3, .int x3), (4, .int x4)] → k_W G w A s.heap σ H locs → f_X11_winter_b32 n32 x2 x3 x4 σ = some (r, σ') → W p l e rmX11_winter s m [.ref (ad 0), .int p1, .int p2].toArray below meth c H locs 0 0 (MQ below (k_Qi G w A r σ') [.ref (ad 0), .int p1, .int p2].toArray s 0 0 A) (F0 m 32 ls []) := by
    intro n32
    induction n32 with
    | zero =>
      intro x2 x3 x4 σ H locs ls hl hw hf
      have hf : (none : Option (Int32 × MSt)) = some (r, σ') := hf
      cases hf
    | succ n32 ih32 =>
      have b76 : ∀ (x2 : Int32) (x3 : Int32) (x4 : Int32) (σ : MSt) (H : Heap) (locs : List Loc) (ls : Array Slot), lv_has ls 5 [(0, .ref (ad 0)), (2, .int x2), (3, .int x3), (4, .int x4)] → k_W G w A s.heap σ H locs → f_X11_winter_b76 (f_X11_winter_b32 n32) x2 x3 x4 σ = some (r, σ') → W p l e rmX11_winter s m [.ref (ad 0), .int p1, .int p2].toArray below meth c H locs 0 0 (MQ below (k_Qi G w A r σ') [.ref (ad 0), .int p1, .int p2].toArray s 0 0 A) (F0 m 76 ls []) := by
        intro x2 x3 x4 σ H locs ls hl hw hf
        unfold f_X11_winter_b76 at hf
        obtain ⟨u1, ex⟩ : ∃ y : Int32, y = (x4 + (1 : Int32)) := ⟨_, rfl⟩
        have hf := k_nmE ex hf
        refine lv_iinc (v := u1) (lv' := [(4, .int u1), (0, .ref (ad 0)), (2, .int x2), (3, .int x3)]) hx hb dX11_winter_76 hl (k := 3) rfl (by rw [ex]; rfl) (by decide) rfl (fun ls hl => ?_)
        refine lv_goto (tgt := 32) hx hb dX11_winter_79 (by decide) ?_
        exact ih32 x2 x3 u1 σ _ _ _ (lv_sub hl [1, 2, 3, 0] rfl) hw hf
      intro x2 x3 x4 σ H locs ls hl hw hf
      have hf : f_X11_winter_b32_s (f_X11_winter_b32 n32) x2 x3 x4 σ = some (r, σ') := hf
      unfold f_X11_winter_b32_s at hf
      refine lv_iload hx hb dX11_winter_32 (lv_at hl 3 rfl) ?_
      refine lv_aload_n hx hb dX11_winter_34 rfl (lv_at hl 0 rfl) ?_
      refine k_get C hw (LC_0 LC) (ci := 11) rfl k_in11 2 (by decide) lk11_28 (v := .ref (ad 10)) rfl dX11_winter_35 ?_
      refine k_getN C hw (LC_10 LC) (ci := 0) rfl k_in0 7 (by decide) ln11_274 (v := .int (σ.1 10 7)) rfl dX11_winter_38 ?_
      refine lv_icmp_ge (tgt := 82) hx hb dX11_winter_41 (by decide) (fun h => ?_) (fun h => ?_)
      · have hf := k_ifT h hf
        exact b82 x2 x3 σ _ _ _ (lv_sub hl [0, 1, 2] rfl) hw hf
      · have hf := k_ifF h hf
        refine lv_iload hx hb dX11_winter_44 (lv_at hl 3 rfl) ?_
        refine lv_bipush (v := (8 : Int32)) hx hb dX11_winter_46 (by decide) ?_
        refine lv_icmp_ge (tgt := 82) hx hb dX11_winter_48 (by decide) (fun h => ?_) (fun h => ?_)
        · have hf := k_ifT h hf
          exact b82 x2 x3 σ _ _ _ (lv_sub hl [0, 1, 2] rfl) hw hf
        · have hf := k_ifF h hf
          refine lv_aload_n hx hb dX11_winter_51 rfl (lv_at hl 0 rfl) ?_
          refine k_get C hw (LC_0 LC) (ci := 11) rfl k_in11 7 (by decide) lk11_59 (v := .ref (ad 67)) rfl dX11_winter_52 ?_
          refine k_getN C hw (LC_67 LC) (ci := 3) rfl k_in3 3 (by decide) ln11_287 (v := .ref (ad 68)) rfl dX11_winter_55 ?_
          refine lv_iload hx hb dX11_winter_58 (lv_at hl 3 rfl) ?_
          obtain ⟨hi, hf⟩ := k_ckE hf
          refine k_iald C hw (LC_68 LC) hi dX11_winter_60 ?_
          refine lv_aload_n hx hb dX11_winter_61 rfl (lv_at hl 0 rfl) ?_
          refine k_get C hw (LC_0 LC) (ci := 11) rfl k_in11 7 (by decide) lk11_59 (v := .ref (ad 67)) rfl dX11_winter_62 ?_
          refine k_getN C hw (LC_67 LC) (ci := 3) rfl k_in3 3 (by decide) ln11_287 (v := .ref (ad 68)) rfl dX11_winter_65 ?_
          refine lv_iload_n hx hb dX11_winter_68 rfl (lv_at hl 2 rfl) ?_
          obtain ⟨hi, hf⟩ := k_ckE hf
          refine k_iald C hw (LC_68 LC) hi dX11_winter_69 ?_
          refine lv_icmp_le (tgt := 76) hx hb dX11_winter_70 (by decide) (fun h => ?_) (fun h => ?_)
          · have hf := k_ifT h hf
            exact b76 x2 x3 x4 σ _ _ _ (lv_sub hl [0, 1, 2, 3] rfl) hw hf
          · have hf := k_ifF h hf
            refine lv_iload hx hb dX11_winter_73 (lv_at hl 3 rfl) ?_
            refine lv_istore_n (lv' := [(3, .int x4), (0, .ref (ad 0)), (2, .int x2), (4, .int x4)]) hx hb dX11_winter_75 rfl hl (by decide) rfl (fun ls hl => ?_)
            exact b76 x2 x4 x4 σ _ _ _ (lv_sub hl [1, 2, 0, 3] rfl) hw hf
  have b17 : ∀ (σ : MSt) (H : Heap) (locs : List Loc) (ls : Array Slot), lv_has ls 5 [] → k_W G w A s.heap σ H locs → f_X11_winter_b17 σ = some (r, σ') → W p l e rmX11_winter s m [.ref (ad 0), .int p1, .int p2].toArray below meth c H locs 0 0 (MQ below (k_Qi G w A r σ') [.ref (ad 0), .int p1, .int p2].toArray s 0 0 A) (F0 m 17 ls []) := by
    intro σ H locs ls hl hw hf
    unfold f_X11_winter_b17 at hf
    refine lv_iconst (v := (-1 : Int32)) hx hb dX11_winter_17 (by decide) ?_
    exact k_iret C hw hf dX11_winter_18
  unfold f_X11_winter at hf
  refine lv_aload_n hx hb dX11_winter_0 rfl (lv_at hl 0 rfl) ?_
  refine lv_iload_n hx hb dX11_winter_1 rfl (lv_at hl 1 rfl) ?_
  obtain ⟨q2, σ1, hq, hf⟩ := k_bdE hf
  refine k_callVi C hw (c_X11_isShare l G Y w ad LC p1 σ q2 σ1 hq) (cwV 1 hts gX11_winter_X11_isShare rfl rfl rfl (by decide +kernel) ⟨Nat.le_of_ble_eq_true rfl, Nat.le_of_ble_eq_true rfl⟩) (k_recv C hw (LC_0 LC) rfl) rfl hl.1 rfl (Nat.le_of_ble_eq_true rfl) dX11_winter_2 (fun H locs hw => ?_)
  refine lv_if_eq (tgt := 17) hx hb dX11_winter_5 (by decide) (fun h => ?_) (fun h => ?_)
  · have hf := k_ifT h hf
    exact b17 σ1 _ _ _ (lv_sub hl [] rfl) hw hf
  · have hf := k_ifF h hf
    refine lv_iload_n hx hb dX11_winter_8 rfl (lv_at hl 2 rfl) ?_
    refine lv_if_lt (tgt := 17) hx hb dX11_winter_9 (by decide) (fun h => ?_) (fun h => ?_)
    · have hf := k_ifT h hf
      exact b17 σ1 _ _ _ (lv_sub hl [] rfl) hw hf
    · have hf := k_ifF h hf
      refine lv_iload_n hx hb dX11_winter_12 rfl (lv_at hl 2 rfl) ?_
      refine lv_iconst (v := (1 : Int32)) hx hb dX11_winter_13 (by decide) ?_
      refine lv_icmp_le (tgt := 19) hx hb dX11_winter_14 (by decide) (fun h => ?_) (fun h => ?_)
      · have hf := k_ifT h hf
        refine lv_aload_n hx hb dX11_winter_19 rfl (lv_at hl 0 rfl) ?_
        refine k_get C hw (LC_0 LC) (ci := 11) rfl k_in11 7 (by decide) lk11_59 (v := .ref (ad 67)) rfl dX11_winter_20 ?_
        refine lv_iload_n hx hb dX11_winter_23 rfl (lv_at hl 1 rfl) ?_
        obtain ⟨σ3, hq, hf⟩ := k_bvE hf
        refine k_callVv C hw (c_X3_countNights l G Y w ad LC p1 σ1 σ3 hq) (cwV 1 hts gX11_winter_X3_countNights rfl rfl rfl (by decide +kernel) ⟨Nat.le_of_ble_eq_true rfl, Nat.le_of_ble_eq_true rfl⟩) (k_recv C hw (LC_67 LC) rfl) rfl hl.1 rfl (Nat.le_of_ble_eq_true rfl) dX11_winter_24 (fun H locs hw => ?_)
        refine lv_iconst (v := (0 : Int32)) hx hb dX11_winter_27 (by decide) ?_
        refine lv_istore_n (lv' := [(3, .int (0 : Int32)), (0, .ref (ad 0)), (1, .int p1), (2, .int p2)]) hx hb dX11_winter_28 rfl hl (by decide) rfl (fun ls hl => ?_)
        refine lv_iconst (v := (1 : Int32)) hx hb dX11_winter_29 (by decide) ?_
        refine lv_istore (lv' := [(4, .int (1 : Int32)), (3, .int (0 : Int32)), (0, .ref (ad 0)), (1, .int p1), (2, .int p2)]) hx hb dX11_winter_30 hl (by decide) rfl (fun ls hl => ?_)
        exact b32 FU p2 (0 : Int32) (1 : Int32) σ3 _ _ _ (lv_sub hl [2, 4, 1, 0] rfl) hw hf
      · have hf := k_ifF h hf
        exact b17 σ1 _ _ _ (lv_sub hl [] rfl) hw hf
def f_X11_commonPart_b21  (r2 : Int32 → Int32 → Int32 → MSt → Option (Int32 × MSt)) (x0 : Int32) (x1 : Int32) (x2 : Int32) (σ : MSt) : Option (Int32 × MSt) :=
  k_nm (x2 + (-1 : Int32)) fun u1 =>
  r2 x0 x1 u1 σ
def f_X11_commonPart_b2_s  (r2 : Int32 → Int32 → Int32 → MSt → Option (Int32 × MSt)) (x0 : Int32) (x1 : Int32) (x2 : Int32) (σ : MSt) : Option (Int32 × MSt) :=
  if x2 ≤ (1 : Int32) then
  (some ((1 : Int32), σ))
  else
  (k_ck (k_nz x2) <|
  if (k_rem x0 x2) = 0 then
  (k_ck (k_nz x2) <|
  if (k_rem x1 x2) = 0 then
  (some (x2, σ))
  else
  (f_X11_commonPart_b21 r2 x0 x1 x2 σ))
  else
  (f_X11_commonPart_b21 r2 x0 x1 x2 σ))
def f_X11_commonPart_b2  : Nat → Int32 → Int32 → Int32 → MSt → Option (Int32 × MSt)
  | 0 => fun _ _ _ _ => none
  | n + 1 => f_X11_commonPart_b2_s (f_X11_commonPart_b2 n)
def f_X11_commonPart  (p1 : Int32) (p2 : Int32) (σ : MSt) : Option (Int32 × MSt) :=
  f_X11_commonPart_b2 FU p1 p2 p2 σ
def rmX11_commonPart : Room := { frames := 0, cells := 0, slots := 0, locals := 0 }
set_option maxHeartbeats 4000000 in
set_option maxRecDepth 100000 in
theorem c_X11_commonPart (l : Launch) (G : va_G) (Y : CY) (w : MSt → va_W) (ad : Nat → Nat)  (LC : LayC ad w Y) (p1 : Int32) (p2 : Int32) (σ : MSt) (r : Int32) (σ' : MSt) (hf : f_X11_commonPart p1 p2 σ = some (r, σ')) : k_Mi l yX11_commonPart wsX11_commonPart rmX11_commonPart G Y w [.int p1, .int p2] σ r σ' := by
  refine k_ofi (own := RX11) (cc := cX11_commonPart) (maxL := 3) (some .int) (by decide) rfl rfl (Nat.le_of_ble_eq_true rfl) ?_
  intro p e s m below meth c A C ls hl hw
  have hx := C.1
  have hb := C.2.1
  have hown := C.2.2.2.2.1
  have hts := C.2.2.2.2.2.1
  have hks := C.2.2.2.2.2.2.1
  have hl : lv_has ls 3 [(0, .int p1), (1, .int p2)] := hl
  have b2 : ∀ (n2 : Nat) (x0 : Int32) (x1 : Int32) (x2 : Int32) (σ : MSt) (H : Heap) (locs : List Loc) (ls : Array Slot), lv_has ls 3 [(0, .int x0), (1, .int x1), (2, .int x2)] → k_W G w A s.heap σ H locs → f_X11_commonPart_b2 n2 x0 x1 x2 σ = some (r, σ') → W p l e rmX11_commonPart s m [.int p1, .int p2].toArray below meth c H locs 0 0 (MQ below (k_Qi G w A r σ') [.int p1, .int p2].toArray s 0 0 A) (F0 m 2 ls []) := by
    intro n2
    induction n2 with
    | zero =>
      intro x0 x1 x2 σ H locs ls hl hw hf
      have hf : (none : Option (Int32 × MSt)) = some (r, σ') := hf
      cases hf
    | succ n2 ih2 =>
      have b21 : ∀ (x0 : Int32) (x1 : Int32) (x2 : Int32) (σ : MSt) (H : Heap) (locs : List Loc) (ls : Array Slot), lv_has ls 3 [(0, .int x0), (1, .int x1), (2, .int x2)] → k_W G w A s.heap σ H locs → f_X11_commonPart_b21 (f_X11_commonPart_b2 n2) x0 x1 x2 σ = some (r, σ') → W p l e rmX11_commonPart s m [.int p1, .int p2].toArray below meth c H locs 0 0 (MQ below (k_Qi G w A r σ') [.int p1, .int p2].toArray s 0 0 A) (F0 m 21 ls []) := by
        intro x0 x1 x2 σ H locs ls hl hw hf
        unfold f_X11_commonPart_b21 at hf
        obtain ⟨u1, ex⟩ : ∃ y : Int32, y = (x2 + (-1 : Int32)) := ⟨_, rfl⟩
        have hf := k_nmE ex hf
        refine lv_iinc (v := u1) (lv' := [(2, .int u1), (0, .int x0), (1, .int x1)]) hx hb dX11_commonPart_21 hl (k := 2) rfl (by rw [ex]; rfl) (by decide) rfl (fun ls hl => ?_)
        refine lv_goto (tgt := 2) hx hb dX11_commonPart_24 (by decide) ?_
        exact ih2 x0 x1 u1 σ _ _ _ (lv_sub hl [1, 2, 0] rfl) hw hf
      intro x0 x1 x2 σ H locs ls hl hw hf
      have hf : f_X11_commonPart_b2_s (f_X11_commonPart_b2 n2) x0 x1 x2 σ = some (r, σ') := hf
      unfold f_X11_commonPart_b2_s at hf
      refine lv_iload_n hx hb dX11_commonPart_2 rfl (lv_at hl 2 rfl) ?_
      refine lv_iconst (v := (1 : Int32)) hx hb dX11_commonPart_3 (by decide) ?_
      refine lv_icmp_le (tgt := 27) hx hb dX11_commonPart_4 (by decide) (fun h => ?_) (fun h => ?_)
      · have hf := k_ifT h hf
        refine lv_iconst (v := (1 : Int32)) hx hb dX11_commonPart_27 (by decide) ?_
        exact k_iret C hw hf dX11_commonPart_28
      · have hf := k_ifF h hf
        refine lv_iload_n hx hb dX11_commonPart_7 rfl (lv_at hl 0 rfl) ?_
        refine lv_iload_n hx hb dX11_commonPart_8 rfl (lv_at hl 2 rfl) ?_
        obtain ⟨hz, hf⟩ := k_ckE hf
        refine k_irem C dX11_commonPart_9 (k_nzE hz) ?_
        refine lv_if_ne (tgt := 21) hx hb dX11_commonPart_10 (by decide) (fun h => ?_) (fun h => ?_)
        · have hf := k_ifF h hf
          exact b21 x0 x1 x2 σ _ _ _ (lv_sub hl [0, 1, 2] rfl) hw hf
        · have hf := k_ifT h hf
          refine lv_iload_n hx hb dX11_commonPart_13 rfl (lv_at hl 1 rfl) ?_
          refine lv_iload_n hx hb dX11_commonPart_14 rfl (lv_at hl 2 rfl) ?_
          obtain ⟨hz, hf⟩ := k_ckE hf
          refine k_irem C dX11_commonPart_15 (k_nzE hz) ?_
          refine lv_if_ne (tgt := 21) hx hb dX11_commonPart_16 (by decide) (fun h => ?_) (fun h => ?_)
          · have hf := k_ifF h hf
            exact b21 x0 x1 x2 σ _ _ _ (lv_sub hl [0, 1, 2] rfl) hw hf
          · have hf := k_ifT h hf
            refine lv_iload_n hx hb dX11_commonPart_19 rfl (lv_at hl 2 rfl) ?_
            exact k_iret C hw hf dX11_commonPart_20
  unfold f_X11_commonPart at hf
  refine lv_iload_n hx hb dX11_commonPart_0 rfl (lv_at hl 1 rfl) ?_
  refine lv_istore_n (lv' := [(2, .int p2), (0, .int p1), (1, .int p2)]) hx hb dX11_commonPart_1 rfl hl (by decide) rfl (fun ls hl => ?_)
  exact b2 FU p1 p2 p2 σ _ _ _ (lv_sub hl [1, 2, 0] rfl) hw hf
def f_X11_copies_b67_s  (r67 : Int32 → Int64 → Int64 → Int32 → MSt → Option (Int64 × MSt)) (x1 : Int32) (x4 : Int64) (x6 : Int64) (x8 : Int32) (σ : MSt) : Option (Int64 × MSt) :=
  if x1 ≤ x8 then
  (some (x6, σ))
  else
  (k_nm (x6 * x4) fun u1 =>
  k_nm (x8 + (1 : Int32)) fun u2 =>
  r67 x1 x4 u1 u2 σ)
def f_X11_copies_b67  : Nat → Int32 → Int64 → Int64 → Int32 → MSt → Option (Int64 × MSt)
  | 0 => fun _ _ _ _ _ => none
  | n + 1 => f_X11_copies_b67_s (f_X11_copies_b67 n)
def f_X11_copies_b59  (x1 : Int32) (y0 : Int64) (σ : MSt) : Option (Int64 × MSt) :=
  f_X11_copies_b67 FU x1 y0 (1 : Int64) (0 : Int32) σ
def f_X11_copies_b20   (σ : MSt) : Option (Int64 × MSt) :=
  some ((-1 : Int64), σ)
def f_X11_copies  (p1 : Int32) (p2 : Int32) (σ : MSt) : Option (Int64 × MSt) :=
  if p1 < (1 : Int32) then
  (f_X11_copies_b20 σ)
  else
  (if (8 : Int32) < p1 then
  (f_X11_copies_b20 σ)
  else
  (if p2 < 0 then
  (f_X11_copies_b20 σ)
  else
  (if p2 ≤ (1 : Int32) then
  (k_bd (f_X11_commonPart (σ.1 10 13) (100 : Int32) σ) fun q2 σ1 =>
  if p2 = 0 then
  (k_ck (k_nz q2) <|
  f_X11_copies_b59 p1 ((((σ1.1 10 13) / q2)).toInt64) σ1)
  else
  (k_ck (k_nz q2) <|
  f_X11_copies_b59 p1 ((((100 : Int32) / q2)).toInt64) σ1))
  else
  (f_X11_copies_b20 σ))))
def rmX11_copies : Room := { frames := 1, cells := 0, slots := 0, locals := 22 }
set_option maxHeartbeats 4000000 in
set_option maxRecDepth 100000 in
theorem c_X11_copies (l : Launch) (G : va_G) (Y : CY) (w : MSt → va_W) (ad : Nat → Nat)  (LC : LayC ad w Y) (p1 : Int32) (p2 : Int32) (σ : MSt) (r : Int64) (σ' : MSt) (hf : f_X11_copies p1 p2 σ = some (r, σ')) : k_Ml l yX11_copies wsX11_copies rmX11_copies G Y w [.ref (ad 0), .int p1, .int p2] σ r σ' := by
  refine k_ofl (own := RX11) (cc := cX11_copies) (maxL := 9) (some .long) (by decide) rfl rfl (Nat.le_of_ble_eq_true rfl) ?_
  intro p e s m below meth c A C ls hl hw
  have hx := C.1
  have hb := C.2.1
  have hown := C.2.2.2.2.1
  have hts := C.2.2.2.2.2.1
  have hks := C.2.2.2.2.2.2.1
  have hl : lv_has ls 9 [(0, .ref (ad 0)), (1, .int p1), (2, .int p2)] := hl
  have b67 : ∀ (n67 : Nat) (x1 : Int32) (x4 : Int64) (x6 : Int64) (x8 : Int32) (σ : MSt) (H : Heap) (locs : List Loc) (ls : Array Slot), lv_has ls 9 [(1, .int x1), (4, .long x4), (6, .long x6), (8, .int x8)] → k_W G w A s.heap σ H locs → f_X11_copies_b67 n67 x1 x4 x6 x8 σ = some (r, σ') → W p l e rmX11_copies s m [.ref (ad 0), .int p1, .int p2].toArray below meth c H locs 0 0 (MQ below (k_Ql G w A r σ') [.ref (ad 0), .int p1, .int p2].toArray s 0 0 A) (F0 m 67 ls []) := by
    intro n67
    induction n67 with
    | zero =>
      intro x1 x4 x6 x8 σ H locs ls hl hw hf
      have hf : (none : Option (Int64 × MSt)) = some (r, σ') := hf
      cases hf
    | succ n67 ih67 =>
      intro x1 x4 x6 x8 σ H locs ls hl hw hf
      have hf : f_X11_copies_b67_s (f_X11_copies_b67 n67) x1 x4 x6 x8 σ = some (r, σ') := hf
      unfold f_X11_copies_b67_s at hf
      refine lv_iload hx hb dX11_copies_67 (lv_at hl 3 rfl) ?_
      refine lv_iload_n hx hb dX11_copies_69 rfl (lv_at hl 0 rfl) ?_
      refine lv_icmp_ge (tgt := 86) hx hb dX11_copies_70 (by decide) (fun h => ?_) (fun h => ?_)
      · have hf := k_ifT h hf
        refine lv_lload hx hb dX11_copies_86 (lv_at hl 2 rfl) ?_
        exact k_lret C hw hf dX11_copies_88
      · have hf := k_ifF h hf
        refine lv_lload hx hb dX11_copies_73 (lv_at hl 2 rfl) ?_
        refine lv_lload hx hb dX11_copies_75 (lv_at hl 1 rfl) ?_
        refine lv_lmul hx hb dX11_copies_77 ?_
        refine lv_topl (fun u1 ex => ?_)
        have hf := k_nmE ex hf
        refine lv_lstore (lv' := [(6, .long u1), (1, .int x1), (4, .long x4), (8, .int x8)]) hx hb dX11_copies_78 hl (by decide) rfl (fun ls hl => ?_)
        obtain ⟨u2, ex⟩ : ∃ y : Int32, y = (x8 + (1 : Int32)) := ⟨_, rfl⟩
        have hf := k_nmE ex hf
        refine lv_iinc (v := u2) (lv' := [(8, .int u2), (6, .long u1), (1, .int x1), (4, .long x4)]) hx hb dX11_copies_80 hl (k := 3) rfl (by rw [ex]; rfl) (by decide) rfl (fun ls hl => ?_)
        refine lv_goto (tgt := 67) hx hb dX11_copies_83 (by decide) ?_
        exact ih67 x1 x4 u1 u2 σ _ _ _ (lv_sub hl [2, 3, 1, 0] rfl) hw hf
  have b59 : ∀ (x1 : Int32) (y0 : Int64) (σ : MSt) (H : Heap) (locs : List Loc) (ls : Array Slot), lv_has ls 9 [(1, .int x1)] → k_W G w A s.heap σ H locs → f_X11_copies_b59 x1 y0 σ = some (r, σ') → W p l e rmX11_copies s m [.ref (ad 0), .int p1, .int p2].toArray below meth c H locs 0 0 (MQ below (k_Ql G w A r σ') [.ref (ad 0), .int p1, .int p2].toArray s 0 0 A) (F0 m 59 ls [.long y0]) := by
    intro x1 y0 σ H locs ls hl hw hf
    unfold f_X11_copies_b59 at hf
    refine lv_lstore (lv' := [(4, .long y0), (1, .int x1)]) hx hb dX11_copies_59 hl (by decide) rfl (fun ls hl => ?_)
    refine lv_lconst (v := (1 : Int64)) hx hb dX11_copies_61 (by decide) ?_
    refine lv_lstore (lv' := [(6, .long (1 : Int64)), (4, .long y0), (1, .int x1)]) hx hb dX11_copies_62 hl (by decide) rfl (fun ls hl => ?_)
    refine lv_iconst (v := (0 : Int32)) hx hb dX11_copies_64 (by decide) ?_
    refine lv_istore (lv' := [(8, .int (0 : Int32)), (6, .long (1 : Int64)), (4, .long y0), (1, .int x1)]) hx hb dX11_copies_65 hl (by decide) rfl (fun ls hl => ?_)
    exact b67 FU x1 y0 (1 : Int64) (0 : Int32) σ _ _ _ (lv_sub hl [3, 2, 1, 0] rfl) hw hf
  have b20 : ∀ (σ : MSt) (H : Heap) (locs : List Loc) (ls : Array Slot), lv_has ls 9 [] → k_W G w A s.heap σ H locs → f_X11_copies_b20 σ = some (r, σ') → W p l e rmX11_copies s m [.ref (ad 0), .int p1, .int p2].toArray below meth c H locs 0 0 (MQ below (k_Ql G w A r σ') [.ref (ad 0), .int p1, .int p2].toArray s 0 0 A) (F0 m 20 ls []) := by
    intro σ H locs ls hl hw hf
    unfold f_X11_copies_b20 at hf
    refine lv_ldc2 (v := (-1 : Int64)) hx hb hown (hks.ts _ ck11_290) dX11_copies_20 ?_
    exact k_lret C hw hf dX11_copies_23
  unfold f_X11_copies at hf
  refine lv_iload_n hx hb dX11_copies_0 rfl (lv_at hl 1 rfl) ?_
  refine lv_iconst (v := (1 : Int32)) hx hb dX11_copies_1 (by decide) ?_
  refine lv_icmp_lt (tgt := 20) hx hb dX11_copies_2 (by decide) (fun h => ?_) (fun h => ?_)
  · have hf := k_ifT h hf
    exact b20 σ _ _ _ (lv_sub hl [] rfl) hw hf
  · have hf := k_ifF h hf
    refine lv_iload_n hx hb dX11_copies_5 rfl (lv_at hl 1 rfl) ?_
    refine lv_bipush (v := (8 : Int32)) hx hb dX11_copies_6 (by decide) ?_
    refine lv_icmp_gt (tgt := 20) hx hb dX11_copies_8 (by decide) (fun h => ?_) (fun h => ?_)
    · have hf := k_ifT h hf
      exact b20 σ _ _ _ (lv_sub hl [] rfl) hw hf
    · have hf := k_ifF h hf
      refine lv_iload_n hx hb dX11_copies_11 rfl (lv_at hl 2 rfl) ?_
      refine lv_if_lt (tgt := 20) hx hb dX11_copies_12 (by decide) (fun h => ?_) (fun h => ?_)
      · have hf := k_ifT h hf
        exact b20 σ _ _ _ (lv_sub hl [] rfl) hw hf
      · have hf := k_ifF h hf
        refine lv_iload_n hx hb dX11_copies_15 rfl (lv_at hl 2 rfl) ?_
        refine lv_iconst (v := (1 : Int32)) hx hb dX11_copies_16 (by decide) ?_
        refine lv_icmp_le (tgt := 24) hx hb dX11_copies_17 (by decide) (fun h => ?_) (fun h => ?_)
        · have hf := k_ifT h hf
          refine lv_aload_n hx hb dX11_copies_24 rfl (lv_at hl 0 rfl) ?_
          refine k_get C hw (LC_0 LC) (ci := 11) rfl k_in11 2 (by decide) lk11_28 (v := .ref (ad 10)) rfl dX11_copies_25 ?_
          refine k_getN C hw (LC_10 LC) (ci := 0) rfl k_in0 13 (by decide) ln11_292 (v := .int (σ.1 10 13)) rfl dX11_copies_28 ?_
          refine lv_bipush (v := (100 : Int32)) hx hb dX11_copies_31 (by decide) ?_
          obtain ⟨q2, σ1, hq, hf⟩ := k_bdE hf
          refine k_callSi C hw (c_X11_commonPart l G Y w ad LC (σ.1 10 13) (100 : Int32) σ q2 σ1 hq) (va_cwS 2 hts gX11_copies_X11_commonPart rfl rfl rfl (by decide +kernel) ⟨Nat.le_of_ble_eq_true rfl, Nat.le_of_ble_eq_true rfl⟩) rfl hl.1 rfl (Nat.le_of_ble_eq_true rfl) dX11_copies_33 (fun H locs hw => ?_)
          refine lv_istore_n (lv' := [(3, .int q2), (0, .ref (ad 0)), (1, .int p1), (2, .int p2)]) hx hb dX11_copies_36 rfl hl (by decide) rfl (fun ls hl => ?_)
          refine lv_iload_n hx hb dX11_copies_37 rfl (lv_at hl 3 rfl) ?_
          refine lv_if_ne (tgt := 54) hx hb dX11_copies_38 (by decide) (fun h => ?_) (fun h => ?_)
          · have hf := k_ifF h hf
            refine lv_bipush (v := (100 : Int32)) hx hb dX11_copies_54 (by decide) ?_
            refine lv_iload_n hx hb dX11_copies_56 rfl (lv_at hl 0 rfl) ?_
            obtain ⟨hz, hf⟩ := k_ckE hf
            refine lv_idiv hx hb dX11_copies_57 (k_nzE hz) ?_
            refine lv_i2l (v := ((((100 : Int32) / q2)).toInt64)) hx hb dX11_copies_58 rfl ?_
            exact b59 p1 ((((100 : Int32) / q2)).toInt64) σ1 _ _ _ (lv_sub hl [2] rfl) hw hf
          · have hf := k_ifT h hf
            refine lv_aload_n hx hb dX11_copies_41 rfl (lv_at hl 1 rfl) ?_
            refine k_get C hw (LC_0 LC) (ci := 11) rfl k_in11 2 (by decide) lk11_28 (v := .ref (ad 10)) rfl dX11_copies_42 ?_
            refine k_getN C hw (LC_10 LC) (ci := 0) rfl k_in0 13 (by decide) ln11_292 (v := .int (σ1.1 10 13)) rfl dX11_copies_45 ?_
            refine lv_iload_n hx hb dX11_copies_48 rfl (lv_at hl 0 rfl) ?_
            obtain ⟨hz, hf⟩ := k_ckE hf
            refine lv_idiv hx hb dX11_copies_49 (k_nzE hz) ?_
            refine lv_i2l (v := ((((σ1.1 10 13) / q2)).toInt64)) hx hb dX11_copies_50 rfl ?_
            refine lv_goto (tgt := 59) hx hb dX11_copies_51 (by decide) ?_
            exact b59 p1 ((((σ1.1 10 13) / q2)).toInt64) σ1 _ _ _ (lv_sub hl [2] rfl) hw hf
        · have hf := k_ifF h hf
          exact b20 σ _ _ _ (lv_sub hl [] rfl) hw hf
def f_X11_bidOf  (p1 : Int32) (σ : MSt) : Option (Int32 × MSt) :=
  k_ck (k_inb p1 8) <|
  k_nm (σ.1 75 (p1).toNatClampNeg) fun u1 =>
  if u1 = (-1 : Int32) then
  (some ((0 : Int32), σ))
  else
  (k_bd (f_X3_moodOf p1 (σ.1 50 3) σ) fun q3 σ2 =>
  some ((k_max (0 : Int32) (q3 - ((10 : Int32) * u1))), σ2))
def rmX11_bidOf : Room := { frames := 4, cells := 0, slots := 0, locals := 96 }
set_option maxHeartbeats 4000000 in
set_option maxRecDepth 100000 in
theorem c_X11_bidOf (l : Launch) (G : va_G) (Y : CY) (w : MSt → va_W) (ad : Nat → Nat)  (LC : LayC ad w Y) (p1 : Int32) (σ : MSt) (r : Int32) (σ' : MSt) (hf : f_X11_bidOf p1 σ = some (r, σ')) : k_Mi l yX11_bidOf wsX11_bidOf rmX11_bidOf G Y w [.ref (ad 0), .int p1] σ r σ' := by
  refine k_ofi (own := RX11) (cc := cX11_bidOf) (maxL := 3) (some .int) (by decide) rfl rfl (Nat.le_of_ble_eq_true rfl) ?_
  intro p e s m below meth c A C ls hl hw
  have hx := C.1
  have hb := C.2.1
  have hown := C.2.2.2.2.1
  have hts := C.2.2.2.2.2.1
  have hks := C.2.2.2.2.2.2.1
  have hl : lv_has ls 3 [(0, .ref (ad 0)), (1, .int p1)] := hl
  unfold f_X11_bidOf at hf
  refine lv_aload_n hx hb dX11_bidOf_0 rfl (lv_at hl 0 rfl) ?_
  refine k_get C hw (LC_0 LC) (ci := 11) rfl k_in11 9 (by decide) lk11_75 (v := .ref (ad 73)) rfl dX11_bidOf_1 ?_
  refine k_getN C hw (LC_73 LC) (ci := 10) rfl k_in10 4 (by decide) ln11_271 (v := .ref (ad 75)) rfl dX11_bidOf_4 ?_
  refine lv_iload_n hx hb dX11_bidOf_7 rfl (lv_at hl 1 rfl) ?_
  obtain ⟨hi, hf⟩ := k_ckE hf
  refine k_iald C hw (LC_75 LC) hi dX11_bidOf_8 ?_
  refine lv_topi (fun u1 ex => ?_)
  have hf := k_nmE ex hf
  refine lv_istore_n (lv' := [(2, .int u1), (0, .ref (ad 0)), (1, .int p1)]) hx hb dX11_bidOf_9 rfl hl (by decide) rfl (fun ls hl => ?_)
  refine lv_iload_n hx hb dX11_bidOf_10 rfl (lv_at hl 0 rfl) ?_
  refine lv_iconst (v := (-1 : Int32)) hx hb dX11_bidOf_11 (by decide) ?_
  refine lv_icmp_ne (tgt := 17) hx hb dX11_bidOf_12 (by decide) (fun h => ?_) (fun h => ?_)
  · have hf := k_ifF h hf
    refine lv_iconst (v := (0 : Int32)) hx hb dX11_bidOf_17 (by decide) ?_
    refine lv_aload_n hx hb dX11_bidOf_18 rfl (lv_at hl 1 rfl) ?_
    refine k_get C hw (LC_0 LC) (ci := 11) rfl k_in11 7 (by decide) lk11_59 (v := .ref (ad 67)) rfl dX11_bidOf_19 ?_
    refine lv_iload_n hx hb dX11_bidOf_22 rfl (lv_at hl 2 rfl) ?_
    refine lv_aload_n hx hb dX11_bidOf_23 rfl (lv_at hl 1 rfl) ?_
    refine k_get C hw (LC_0 LC) (ci := 11) rfl k_in11 4 (by decide) lk11_38 (v := .ref (ad 50)) rfl dX11_bidOf_24 ?_
    refine k_getN C hw (LC_50 LC) (ci := 5) rfl k_in5 3 (by decide) ln11_204 (v := .int (σ.1 50 3)) rfl dX11_bidOf_27 ?_
    obtain ⟨q3, σ2, hq, hf⟩ := k_bdE hf
    refine k_callVi C hw (c_X3_moodOf l G Y w ad LC p1 (σ.1 50 3) σ q3 σ2 hq) (cwV 2 hts gX11_bidOf_X3_moodOf rfl rfl rfl (by decide +kernel) ⟨Nat.le_of_ble_eq_true rfl, Nat.le_of_ble_eq_true rfl⟩) (k_recv C hw (LC_67 LC) rfl) rfl hl.1 rfl (Nat.le_of_ble_eq_true rfl) dX11_bidOf_30 (fun H locs hw => ?_)
    refine lv_bipush (v := (10 : Int32)) hx hb dX11_bidOf_33 (by decide) ?_
    refine lv_iload_n hx hb dX11_bidOf_35 rfl (lv_at hl 0 rfl) ?_
    refine lv_imul hx hb dX11_bidOf_36 ?_
    refine lv_isub hx hb dX11_bidOf_37 ?_
    refine k_mmax C hl.1 ml11_375 ms_Lib_Math_max_name mi_Math mc_Lib_Math_max_name (Nat.le_of_ble_eq_true rfl) (Nat.le_of_ble_eq_true rfl) dX11_bidOf_38 ?_
    exact k_iret C hw hf dX11_bidOf_41
  · have hf := k_ifT h hf
    refine lv_iconst (v := (0 : Int32)) hx hb dX11_bidOf_15 (by decide) ?_
    exact k_iret C hw hf dX11_bidOf_16
def f_X11_bids_b89  (y0 : Int32) (σ : MSt) : Option (Int32 × MSt) :=
  some (y0, σ)
def f_X11_bids_b80  (x1 : Int32) (x2 : Int32) (x3 : Int32) (σ : MSt) : Option (Int32 × MSt) :=
  if x1 = 0 then
  (f_X11_bids_b89 x2 σ)
  else
  (f_X11_bids_b89 x3 σ)
def f_X11_bids_b74  (r35 : Int32 → Int32 → Int32 → Int32 → MSt → Option (Int32 × MSt)) (x1 : Int32) (x2 : Int32) (x3 : Int32) (x4 : Int32) (σ : MSt) : Option (Int32 × MSt) :=
  k_nm (x4 + (1 : Int32)) fun u1 =>
  r35 x1 x2 x3 u1 σ
def f_X11_bids_b35_s  (r35 : Int32 → Int32 → Int32 → Int32 → MSt → Option (Int32 × MSt)) (x1 : Int32) (x2 : Int32) (x3 : Int32) (x4 : Int32) (σ : MSt) : Option (Int32 × MSt) :=
  if (σ.1 10 7) ≤ x4 then
  (f_X11_bids_b80 x1 x2 x3 σ)
  else
  (if (8 : Int32) ≤ x4 then
  (f_X11_bids_b80 x1 x2 x3 σ)
  else
  (k_bd (f_X11_bidOf x4 σ) fun q2 σ1 =>
  if q2 ≤ x3 then
  (f_X11_bids_b74 r35 x1 x2 x3 x4 σ1)
  else
  (f_X11_bids_b74 r35 x1 x4 q2 x4 σ1)))
def f_X11_bids_b35  : Nat → Int32 → Int32 → Int32 → Int32 → MSt → Option (Int32 × MSt)
  | 0 => fun _ _ _ _ _ => none
  | n + 1 => f_X11_bids_b35_s (f_X11_bids_b35 n)
def f_X11_bids_b19   (σ : MSt) : Option (Int32 × MSt) :=
  some ((-1 : Int32), σ)
def f_X11_bids  (p1 : Int32) (σ : MSt) : Option (Int32 × MSt) :=
  if (σ.1 10 7) = 0 then
  (f_X11_bids_b19 σ)
  else
  (if p1 < 0 then
  (f_X11_bids_b19 σ)
  else
  (if p1 ≤ (1 : Int32) then
  (k_bv (f_X10_countLanes σ) fun σ1 =>
  f_X11_bids_b35 FU p1 (0 : Int32) (-1 : Int32) (0 : Int32) σ1)
  else
  (f_X11_bids_b19 σ)))
def rmX11_bids : Room := { frames := 5, cells := 0, slots := 0, locals := 118 }
set_option maxHeartbeats 4000000 in
set_option maxRecDepth 100000 in
theorem c_X11_bids (l : Launch) (G : va_G) (Y : CY) (w : MSt → va_W) (ad : Nat → Nat)  (LC : LayC ad w Y) (p1 : Int32) (σ : MSt) (r : Int32) (σ' : MSt) (hf : f_X11_bids p1 σ = some (r, σ')) : k_Mi l yX11_bids wsX11_bids rmX11_bids G Y w [.ref (ad 0), .int p1] σ r σ' := by
  refine k_ofi (own := RX11) (cc := cX11_bids) (maxL := 6) (some .int) (by decide) rfl rfl (Nat.le_of_ble_eq_true rfl) ?_
  intro p e s m below meth c A C ls hl hw
  have hx := C.1
  have hb := C.2.1
  have hown := C.2.2.2.2.1
  have hts := C.2.2.2.2.2.1
  have hks := C.2.2.2.2.2.2.1
  have hl : lv_has ls 6 [(0, .ref (ad 0)), (1, .int p1)] := hl
  have b89 : ∀ (y0 : Int32) (σ : MSt) (H : Heap) (locs : List Loc) (ls : Array Slot), lv_has ls 6 [] → k_W G w A s.heap σ H locs → f_X11_bids_b89 y0 σ = some (r, σ') → W p l e rmX11_bids s m [.ref (ad 0), .int p1].toArray below meth c H locs 0 0 (MQ below (k_Qi G w A r σ') [.ref (ad 0), .int p1].toArray s 0 0 A) (F0 m 89 ls [.int y0]) := by
    intro y0 σ H locs ls hl hw hf
    unfold f_X11_bids_b89 at hf
    exact k_iret C hw hf dX11_bids_89
  have b80 : ∀ (x1 : Int32) (x2 : Int32) (x3 : Int32) (σ : MSt) (H : Heap) (locs : List Loc) (ls : Array Slot), lv_has ls 6 [(1, .int x1), (2, .int x2), (3, .int x3)] → k_W G w A s.heap σ H locs → f_X11_bids_b80 x1 x2 x3 σ = some (r, σ') → W p l e rmX11_bids s m [.ref (ad 0), .int p1].toArray below meth c H locs 0 0 (MQ below (k_Qi G w A r σ') [.ref (ad 0), .int p1].toArray s 0 0 A) (F0 m 80 ls []) := by
    intro x1 x2 x3 σ H locs ls hl hw hf
    unfold f_X11_bids_b80 at hf
    refine lv_iload_n hx hb dX11_bids_80 rfl (lv_at hl 0 rfl) ?_
    refine lv_if_ne (tgt := 88) hx hb dX11_bids_81 (by decide) (fun h => ?_) (fun h => ?_)
    · have hf := k_ifF h hf
      refine lv_iload_n hx hb dX11_bids_88 rfl (lv_at hl 2 rfl) ?_
      exact b89 x3 σ _ _ _ (lv_sub hl [] rfl) hw hf
    · have hf := k_ifT h hf
      refine lv_iload_n hx hb dX11_bids_84 rfl (lv_at hl 1 rfl) ?_
      refine lv_goto (tgt := 89) hx hb dX11_bids_85 (by decide) ?_
      exact b89 x2 σ _ _ _ (lv_sub hl [] rfl) hw hf
  have b35 : ∀ (n35 : Nat) (x1 : Int32) (x2 : Int32) (x3 : Int32) (x4 : Int32) (σ : MSt) (H : Heap) (locs : List Loc) (ls : Array Slot), lv_has ls 6 [(0, .ref (ad 0)), (1, .int x1), (2, .int x2), (3, .int x3), (4, .int x4)] → k_W G w A s.heap σ H locs → f_X11_bids_b35 n35 x1 x2 x3 x4 σ = some (r, σ') → W p l e rmX11_bids s m [.ref (ad 0), .int p1].toArray below meth c H locs 0 0 (MQ below (k_Qi G w A r σ') [.ref (ad 0), .int p1].toArray s 0 0 A) (F0 m 35 ls []) := by
    intro n35
    induction n35 with
    | zero =>
      intro x1 x2 x3 x4 σ H locs ls hl hw hf
      have hf : (none : Option (Int32 × MSt)) = some (r, σ') := hf
      cases hf
    | succ n35 ih35 =>
      have b74 : ∀ (x1 : Int32) (x2 : Int32) (x3 : Int32) (x4 : Int32) (σ : MSt) (H : Heap) (locs : List Loc) (ls : Array Slot), lv_has ls 6 [(0, .ref (ad 0)), (1, .int x1), (2, .int x2), (3, .int x3), (4, .int x4)] → k_W G w A s.heap σ H locs → f_X11_bids_b74 (f_X11_bids_b35 n35) x1 x2 x3 x4 σ = some (r, σ') → W p l e rmX11_bids s m [.ref (ad 0), .int p1].toArray below meth c H locs 0 0 (MQ below (k_Qi G w A r σ') [.ref (ad 0), .int p1].toArray s 0 0 A) (F0 m 74 ls []) := by
        intro x1 x2 x3 x4 σ H locs ls hl hw hf
        unfold f_X11_bids_b74 at hf
        obtain ⟨u1, ex⟩ : ∃ y : Int32, y = (x4 + (1 : Int32)) := ⟨_, rfl⟩
        have hf := k_nmE ex hf
        refine lv_iinc (v := u1) (lv' := [(4, .int u1), (0, .ref (ad 0)), (1, .int x1), (2, .int x2), (3, .int x3)]) hx hb dX11_bids_74 hl (k := 4) rfl (by rw [ex]; rfl) (by decide) rfl (fun ls hl => ?_)
        refine lv_goto (tgt := 35) hx hb dX11_bids_77 (by decide) ?_
        exact ih35 x1 x2 x3 u1 σ _ _ _ (lv_sub hl [1, 2, 3, 4, 0] rfl) hw hf
      intro x1 x2 x3 x4 σ H locs ls hl hw hf
      have hf : f_X11_bids_b35_s (f_X11_bids_b35 n35) x1 x2 x3 x4 σ = some (r, σ') := hf
      unfold f_X11_bids_b35_s at hf
      refine lv_iload hx hb dX11_bids_35 (lv_at hl 4 rfl) ?_
      refine lv_aload_n hx hb dX11_bids_37 rfl (lv_at hl 0 rfl) ?_
      refine k_get C hw (LC_0 LC) (ci := 11) rfl k_in11 2 (by decide) lk11_28 (v := .ref (ad 10)) rfl dX11_bids_38 ?_
      refine k_getN C hw (LC_10 LC) (ci := 0) rfl k_in0 7 (by decide) ln11_274 (v := .int (σ.1 10 7)) rfl dX11_bids_41 ?_
      refine lv_icmp_ge (tgt := 80) hx hb dX11_bids_44 (by decide) (fun h => ?_) (fun h => ?_)
      · have hf := k_ifT h hf
        exact b80 x1 x2 x3 σ _ _ _ (lv_sub hl [1, 2, 3] rfl) hw hf
      · have hf := k_ifF h hf
        refine lv_iload hx hb dX11_bids_47 (lv_at hl 4 rfl) ?_
        refine lv_bipush (v := (8 : Int32)) hx hb dX11_bids_49 (by decide) ?_
        refine lv_icmp_ge (tgt := 80) hx hb dX11_bids_51 (by decide) (fun h => ?_) (fun h => ?_)
        · have hf := k_ifT h hf
          exact b80 x1 x2 x3 σ _ _ _ (lv_sub hl [1, 2, 3] rfl) hw hf
        · have hf := k_ifF h hf
          refine lv_aload_n hx hb dX11_bids_54 rfl (lv_at hl 0 rfl) ?_
          refine lv_iload hx hb dX11_bids_55 (lv_at hl 4 rfl) ?_
          obtain ⟨q2, σ1, hq, hf⟩ := k_bdE hf
          refine k_callVi C hw (c_X11_bidOf l G Y w ad LC x4 σ q2 σ1 hq) (cwV 1 hts gX11_bids_X11_bidOf rfl rfl rfl (by decide +kernel) ⟨Nat.le_of_ble_eq_true rfl, Nat.le_of_ble_eq_true rfl⟩) (k_recv C hw (LC_0 LC) rfl) rfl hl.1 rfl (Nat.le_of_ble_eq_true rfl) dX11_bids_57 (fun H locs hw => ?_)
          refine lv_istore (lv' := [(5, .int q2), (0, .ref (ad 0)), (1, .int x1), (2, .int x2), (3, .int x3), (4, .int x4)]) hx hb dX11_bids_60 hl (by decide) rfl (fun ls hl => ?_)
          refine lv_iload hx hb dX11_bids_62 (lv_at hl 0 rfl) ?_
          refine lv_iload_n hx hb dX11_bids_64 rfl (lv_at hl 4 rfl) ?_
          refine lv_icmp_le (tgt := 74) hx hb dX11_bids_65 (by decide) (fun h => ?_) (fun h => ?_)
          · have hf := k_ifT h hf
            exact b74 x1 x2 x3 x4 σ1 _ _ _ (lv_sub hl [1, 2, 3, 4, 5] rfl) hw hf
          · have hf := k_ifF h hf
            refine lv_iload hx hb dX11_bids_68 (lv_at hl 5 rfl) ?_
            refine lv_istore_n (lv' := [(2, .int x4), (5, .int q2), (0, .ref (ad 0)), (1, .int x1), (3, .int x3), (4, .int x4)]) hx hb dX11_bids_70 rfl hl (by decide) rfl (fun ls hl => ?_)
            refine lv_iload hx hb dX11_bids_71 (lv_at hl 1 rfl) ?_
            refine lv_istore_n (lv' := [(3, .int q2), (2, .int x4), (5, .int q2), (0, .ref (ad 0)), (1, .int x1), (4, .int x4)]) hx hb dX11_bids_73 rfl hl (by decide) rfl (fun ls hl => ?_)
            exact b74 x1 x4 q2 x4 σ1 _ _ _ (lv_sub hl [3, 4, 1, 0, 5] rfl) hw hf
  have b19 : ∀ (σ : MSt) (H : Heap) (locs : List Loc) (ls : Array Slot), lv_has ls 6 [] → k_W G w A s.heap σ H locs → f_X11_bids_b19 σ = some (r, σ') → W p l e rmX11_bids s m [.ref (ad 0), .int p1].toArray below meth c H locs 0 0 (MQ below (k_Qi G w A r σ') [.ref (ad 0), .int p1].toArray s 0 0 A) (F0 m 19 ls []) := by
    intro σ H locs ls hl hw hf
    unfold f_X11_bids_b19 at hf
    refine lv_iconst (v := (-1 : Int32)) hx hb dX11_bids_19 (by decide) ?_
    exact k_iret C hw hf dX11_bids_20
  unfold f_X11_bids at hf
  refine lv_aload_n hx hb dX11_bids_0 rfl (lv_at hl 0 rfl) ?_
  refine k_get C hw (LC_0 LC) (ci := 11) rfl k_in11 2 (by decide) lk11_28 (v := .ref (ad 10)) rfl dX11_bids_1 ?_
  refine k_getN C hw (LC_10 LC) (ci := 0) rfl k_in0 7 (by decide) ln11_274 (v := .int (σ.1 10 7)) rfl dX11_bids_4 ?_
  refine lv_if_eq (tgt := 19) hx hb dX11_bids_7 (by decide) (fun h => ?_) (fun h => ?_)
  · have hf := k_ifT h hf
    exact b19 σ _ _ _ (lv_sub hl [] rfl) hw hf
  · have hf := k_ifF h hf
    refine lv_iload_n hx hb dX11_bids_10 rfl (lv_at hl 1 rfl) ?_
    refine lv_if_lt (tgt := 19) hx hb dX11_bids_11 (by decide) (fun h => ?_) (fun h => ?_)
    · have hf := k_ifT h hf
      exact b19 σ _ _ _ (lv_sub hl [] rfl) hw hf
    · have hf := k_ifF h hf
      refine lv_iload_n hx hb dX11_bids_14 rfl (lv_at hl 1 rfl) ?_
      refine lv_iconst (v := (1 : Int32)) hx hb dX11_bids_15 (by decide) ?_
      refine lv_icmp_le (tgt := 21) hx hb dX11_bids_16 (by decide) (fun h => ?_) (fun h => ?_)
      · have hf := k_ifT h hf
        refine lv_aload_n hx hb dX11_bids_21 rfl (lv_at hl 0 rfl) ?_
        refine k_get C hw (LC_0 LC) (ci := 11) rfl k_in11 9 (by decide) lk11_75 (v := .ref (ad 73)) rfl dX11_bids_22 ?_
        obtain ⟨σ1, hq, hf⟩ := k_bvE hf
        refine k_callVv C hw (c_X10_countLanes l G Y w ad LC σ σ1 hq) (cwV 0 hts gX11_bids_X10_countLanes rfl rfl rfl (by decide +kernel) ⟨Nat.le_of_ble_eq_true rfl, Nat.le_of_ble_eq_true rfl⟩) (k_recv C hw (LC_73 LC) rfl) rfl hl.1 rfl (Nat.le_of_ble_eq_true rfl) dX11_bids_25 (fun H locs hw => ?_)
        refine lv_iconst (v := (0 : Int32)) hx hb dX11_bids_28 (by decide) ?_
        refine lv_istore_n (lv' := [(2, .int (0 : Int32)), (0, .ref (ad 0)), (1, .int p1)]) hx hb dX11_bids_29 rfl hl (by decide) rfl (fun ls hl => ?_)
        refine lv_iconst (v := (-1 : Int32)) hx hb dX11_bids_30 (by decide) ?_
        refine lv_istore_n (lv' := [(3, .int (-1 : Int32)), (2, .int (0 : Int32)), (0, .ref (ad 0)), (1, .int p1)]) hx hb dX11_bids_31 rfl hl (by decide) rfl (fun ls hl => ?_)
        refine lv_iconst (v := (0 : Int32)) hx hb dX11_bids_32 (by decide) ?_
        refine lv_istore (lv' := [(4, .int (0 : Int32)), (3, .int (-1 : Int32)), (2, .int (0 : Int32)), (0, .ref (ad 0)), (1, .int p1)]) hx hb dX11_bids_33 hl (by decide) rfl (fun ls hl => ?_)
        exact b35 FU p1 (0 : Int32) (-1 : Int32) (0 : Int32) σ1 _ _ _ (lv_sub hl [3, 4, 2, 1, 0] rfl) hw hf
      · have hf := k_ifF h hf
        exact b19 σ _ _ _ (lv_sub hl [] rfl) hw hf
def f_X11_rests  (p1 : Int32) (σ : MSt) : Option (Int32 × MSt) :=
  k_bd (f_X11_isShare p1 σ) fun q2 σ1 =>
  if q2 = 0 then
  (some ((-1 : Int32), σ1))
  else
  (k_bv (f_X3_countNights p1 σ1) fun σ3 =>
  k_bd (f_X3_findRests σ3) fun q5 σ4 =>
  some (q5, σ4))
def rmX11_rests : Room := { frames := 5, cells := 0, slots := 0, locals := 119 }
set_option maxHeartbeats 4000000 in
set_option maxRecDepth 100000 in
theorem c_X11_rests (l : Launch) (G : va_G) (Y : CY) (w : MSt → va_W) (ad : Nat → Nat)  (LC : LayC ad w Y) (p1 : Int32) (σ : MSt) (r : Int32) (σ' : MSt) (hf : f_X11_rests p1 σ = some (r, σ')) : k_Mi l yX11_rests wsX11_rests rmX11_rests G Y w [.ref (ad 0), .int p1] σ r σ' := by
  refine k_ofi (own := RX11) (cc := cX11_rests) (maxL := 2) (some .int) (by decide) rfl rfl (Nat.le_of_ble_eq_true rfl) ?_
  intro p e s m below meth c A C ls hl hw
  have hx := C.1
  have hb := C.2.1
  have hown := C.2.2.2.2.1
  have hts := C.2.2.2.2.2.1
  have hks := C.2.2.2.2.2.2.1
  have hl : lv_has ls 2 [(0, .ref (ad 0)), (1, .int p1)] := hl
  unfold f_X11_rests at hf
  refine lv_aload_n hx hb dX11_rests_0 rfl (lv_at hl 0 rfl) ?_
  refine lv_iload_n hx hb dX11_rests_1 rfl (lv_at hl 1 rfl) ?_
  obtain ⟨q2, σ1, hq, hf⟩ := k_bdE hf
  refine k_callVi C hw (c_X11_isShare l G Y w ad LC p1 σ q2 σ1 hq) (cwV 1 hts gX11_rests_X11_isShare rfl rfl rfl (by decide +kernel) ⟨Nat.le_of_ble_eq_true rfl, Nat.le_of_ble_eq_true rfl⟩) (k_recv C hw (LC_0 LC) rfl) rfl hl.1 rfl (Nat.le_of_ble_eq_true rfl) dX11_rests_2 (fun H locs hw => ?_)
  refine lv_if_ne (tgt := 10) hx hb dX11_rests_5 (by decide) (fun h => ?_) (fun h => ?_)
  · have hf := k_ifF h hf
    refine lv_aload_n hx hb dX11_rests_10 rfl (lv_at hl 0 rfl) ?_
    refine k_get C hw (LC_0 LC) (ci := 11) rfl k_in11 7 (by decide) lk11_59 (v := .ref (ad 67)) rfl dX11_rests_11 ?_
    refine lv_iload_n hx hb dX11_rests_14 rfl (lv_at hl 1 rfl) ?_
    obtain ⟨σ3, hq, hf⟩ := k_bvE hf
    refine k_callVv C hw (c_X3_countNights l G Y w ad LC p1 σ1 σ3 hq) (cwV 1 hts gX11_rests_X3_countNights rfl rfl rfl (by decide +kernel) ⟨Nat.le_of_ble_eq_true rfl, Nat.le_of_ble_eq_true rfl⟩) (k_recv C hw (LC_67 LC) rfl) rfl hl.1 rfl (Nat.le_of_ble_eq_true rfl) dX11_rests_15 (fun H locs hw => ?_)
    refine lv_aload_n hx hb dX11_rests_18 rfl (lv_at hl 0 rfl) ?_
    refine k_get C hw (LC_0 LC) (ci := 11) rfl k_in11 7 (by decide) lk11_59 (v := .ref (ad 67)) rfl dX11_rests_19 ?_
    obtain ⟨q5, σ4, hq, hf⟩ := k_bdE hf
    refine k_callVi C hw (c_X3_findRests l G Y w ad LC σ3 q5 σ4 hq) (cwV 0 hts gX11_rests_X3_findRests rfl rfl rfl (by decide +kernel) ⟨Nat.le_of_ble_eq_true rfl, Nat.le_of_ble_eq_true rfl⟩) (k_recv C hw (LC_67 LC) rfl) rfl hl.1 rfl (Nat.le_of_ble_eq_true rfl) dX11_rests_22 (fun H locs hw => ?_)
    exact k_iret C hw hf dX11_rests_25
  · have hf := k_ifT h hf
    refine lv_iconst (v := (-1 : Int32)) hx hb dX11_rests_8 (by decide) ?_
    exact k_iret C hw hf dX11_rests_9
def f_X11_rest_b47  (y0 : Int32) (σ : MSt) : Option (Int32 × MSt) :=
  some (y0, σ)
def f_X11_rest_b12   (σ : MSt) : Option (Int32 × MSt) :=
  some ((-1 : Int32), σ)
def f_X11_rest  (p1 : Int32) (p2 : Int32) (σ : MSt) : Option (Int32 × MSt) :=
  k_bd (f_X11_isShare p1 σ) fun q2 σ1 =>
  if q2 = 0 then
  (f_X11_rest_b12 σ1)
  else
  (if 0 ≤ p2 then
  (k_bv (f_X3_countNights p1 σ1) fun σ3 =>
  k_bd (f_X3_findRests σ3) fun q5 σ4 =>
  if q5 ≤ p2 then
  (f_X11_rest_b47 (-2 : Int32) σ4)
  else
  (k_ck (k_inb p2 64) <|
  f_X11_rest_b47 (σ4.1 69 (p2).toNatClampNeg) σ4))
  else
  (f_X11_rest_b12 σ1))
def rmX11_rest : Room := { frames := 5, cells := 0, slots := 0, locals := 119 }
set_option maxHeartbeats 4000000 in
set_option maxRecDepth 100000 in
theorem c_X11_rest (l : Launch) (G : va_G) (Y : CY) (w : MSt → va_W) (ad : Nat → Nat)  (LC : LayC ad w Y) (p1 : Int32) (p2 : Int32) (σ : MSt) (r : Int32) (σ' : MSt) (hf : f_X11_rest p1 p2 σ = some (r, σ')) : k_Mi l yX11_rest wsX11_rest rmX11_rest G Y w [.ref (ad 0), .int p1, .int p2] σ r σ' := by
  refine k_ofi (own := RX11) (cc := cX11_rest) (maxL := 3) (some .int) (by decide) rfl rfl (Nat.le_of_ble_eq_true rfl) ?_
  intro p e s m below meth c A C ls hl hw
  have hx := C.1
  have hb := C.2.1
  have hown := C.2.2.2.2.1
  have hts := C.2.2.2.2.2.1
  have hks := C.2.2.2.2.2.2.1
  have hl : lv_has ls 3 [(0, .ref (ad 0)), (1, .int p1), (2, .int p2)] := hl
  have b47 : ∀ (y0 : Int32) (σ : MSt) (H : Heap) (locs : List Loc) (ls : Array Slot), lv_has ls 3 [] → k_W G w A s.heap σ H locs → f_X11_rest_b47 y0 σ = some (r, σ') → W p l e rmX11_rest s m [.ref (ad 0), .int p1, .int p2].toArray below meth c H locs 0 0 (MQ below (k_Qi G w A r σ') [.ref (ad 0), .int p1, .int p2].toArray s 0 0 A) (F0 m 47 ls [.int y0]) := by
    intro y0 σ H locs ls hl hw hf
    unfold f_X11_rest_b47 at hf
    exact k_iret C hw hf dX11_rest_47
  have b12 : ∀ (σ : MSt) (H : Heap) (locs : List Loc) (ls : Array Slot), lv_has ls 3 [] → k_W G w A s.heap σ H locs → f_X11_rest_b12 σ = some (r, σ') → W p l e rmX11_rest s m [.ref (ad 0), .int p1, .int p2].toArray below meth c H locs 0 0 (MQ below (k_Qi G w A r σ') [.ref (ad 0), .int p1, .int p2].toArray s 0 0 A) (F0 m 12 ls []) := by
    intro σ H locs ls hl hw hf
    unfold f_X11_rest_b12 at hf
    refine lv_iconst (v := (-1 : Int32)) hx hb dX11_rest_12 (by decide) ?_
    exact k_iret C hw hf dX11_rest_13
  unfold f_X11_rest at hf
  refine lv_aload_n hx hb dX11_rest_0 rfl (lv_at hl 0 rfl) ?_
  refine lv_iload_n hx hb dX11_rest_1 rfl (lv_at hl 1 rfl) ?_
  obtain ⟨q2, σ1, hq, hf⟩ := k_bdE hf
  refine k_callVi C hw (c_X11_isShare l G Y w ad LC p1 σ q2 σ1 hq) (cwV 1 hts gX11_rest_X11_isShare rfl rfl rfl (by decide +kernel) ⟨Nat.le_of_ble_eq_true rfl, Nat.le_of_ble_eq_true rfl⟩) (k_recv C hw (LC_0 LC) rfl) rfl hl.1 rfl (Nat.le_of_ble_eq_true rfl) dX11_rest_2 (fun H locs hw => ?_)
  refine lv_if_eq (tgt := 12) hx hb dX11_rest_5 (by decide) (fun h => ?_) (fun h => ?_)
  · have hf := k_ifT h hf
    exact b12 σ1 _ _ _ (lv_sub hl [] rfl) hw hf
  · have hf := k_ifF h hf
    refine lv_iload_n hx hb dX11_rest_8 rfl (lv_at hl 2 rfl) ?_
    refine lv_if_ge (tgt := 14) hx hb dX11_rest_9 (by decide) (fun h => ?_) (fun h => ?_)
    · have hf := k_ifT h hf
      refine lv_aload_n hx hb dX11_rest_14 rfl (lv_at hl 0 rfl) ?_
      refine k_get C hw (LC_0 LC) (ci := 11) rfl k_in11 7 (by decide) lk11_59 (v := .ref (ad 67)) rfl dX11_rest_15 ?_
      refine lv_iload_n hx hb dX11_rest_18 rfl (lv_at hl 1 rfl) ?_
      obtain ⟨σ3, hq, hf⟩ := k_bvE hf
      refine k_callVv C hw (c_X3_countNights l G Y w ad LC p1 σ1 σ3 hq) (cwV 1 hts gX11_rest_X3_countNights rfl rfl rfl (by decide +kernel) ⟨Nat.le_of_ble_eq_true rfl, Nat.le_of_ble_eq_true rfl⟩) (k_recv C hw (LC_67 LC) rfl) rfl hl.1 rfl (Nat.le_of_ble_eq_true rfl) dX11_rest_19 (fun H locs hw => ?_)
      refine lv_iload_n hx hb dX11_rest_22 rfl (lv_at hl 2 rfl) ?_
      refine lv_aload_n hx hb dX11_rest_23 rfl (lv_at hl 0 rfl) ?_
      refine k_get C hw (LC_0 LC) (ci := 11) rfl k_in11 7 (by decide) lk11_59 (v := .ref (ad 67)) rfl dX11_rest_24 ?_
      obtain ⟨q5, σ4, hq, hf⟩ := k_bdE hf
      refine k_callVi C hw (c_X3_findRests l G Y w ad LC σ3 q5 σ4 hq) (cwV 0 hts gX11_rest_X3_findRests rfl rfl rfl (by decide +kernel) ⟨Nat.le_of_ble_eq_true rfl, Nat.le_of_ble_eq_true rfl⟩) (k_recv C hw (LC_67 LC) rfl) rfl hl.1 rfl (Nat.le_of_ble_eq_true rfl) dX11_rest_27 (fun H locs hw => ?_)
      refine lv_icmp_ge (tgt := 45) hx hb dX11_rest_30 (by decide) (fun h => ?_) (fun h => ?_)
      · have hf := k_ifT h hf
        refine lv_bipush (v := (-2 : Int32)) hx hb dX11_rest_45 (by decide) ?_
        exact b47 (-2 : Int32) σ4 _ _ _ (lv_sub hl [] rfl) hw hf
      · have hf := k_ifF h hf
        refine lv_aload_n hx hb dX11_rest_33 rfl (lv_at hl 0 rfl) ?_
        refine k_get C hw (LC_0 LC) (ci := 11) rfl k_in11 7 (by decide) lk11_59 (v := .ref (ad 67)) rfl dX11_rest_34 ?_
        refine k_getN C hw (LC_67 LC) (ci := 3) rfl k_in3 4 (by decide) ln11_307 (v := .ref (ad 69)) rfl dX11_rest_37 ?_
        refine lv_iload_n hx hb dX11_rest_40 rfl (lv_at hl 2 rfl) ?_
        obtain ⟨hi, hf⟩ := k_ckE hf
        refine k_iald C hw (LC_69 LC) hi dX11_rest_41 ?_
        refine lv_goto (tgt := 47) hx hb dX11_rest_42 (by decide) ?_
        exact b47 (σ4.1 69 (p2).toNatClampNeg) σ4 _ _ _ (lv_sub hl [] rfl) hw hf
    · have hf := k_ifF h hf
      exact b12 σ1 _ _ _ (lv_sub hl [] rfl) hw hf
def f_X11_note_b33   (σ : MSt) : Option (Int32 × MSt) :=
  some ((-1 : Int32), σ)
def f_X11_note  (p1 : Int32) (p2 : Int32) (p3 : Int32) (σ : MSt) : Option (Int32 × MSt) :=
  k_bd (f_X0_hasBay 10 p1 σ) fun q2 σ1 =>
  if q2 = 0 then
  (f_X11_note_b33 σ1)
  else
  (if p2 < 0 then
  (f_X11_note_b33 σ1)
  else
  (if (99 : Int32) < p2 then
  (f_X11_note_b33 σ1)
  else
  (if (σ1.1 78 7) < (24 : Int32) then
  (k_bd (f_X6_addSight p1 p2 p3 σ1) fun q4 σ3 =>
  some (q4, σ3))
  else
  (f_X11_note_b33 σ1))))
def rmX11_note : Room := { frames := 1, cells := 0, slots := 0, locals := 23 }
set_option maxHeartbeats 4000000 in
set_option maxRecDepth 100000 in
theorem c_X11_note (l : Launch) (G : va_G) (Y : CY) (w : MSt → va_W) (ad : Nat → Nat)  (LC : LayC ad w Y) (p1 : Int32) (p2 : Int32) (p3 : Int32) (σ : MSt) (r : Int32) (σ' : MSt) (hf : f_X11_note p1 p2 p3 σ = some (r, σ')) : k_Mi l yX11_note wsX11_note rmX11_note G Y w [.ref (ad 0), .int p1, .int p2, .int p3] σ r σ' := by
  refine k_ofi (own := RX11) (cc := cX11_note) (maxL := 4) (some .int) (by decide) rfl rfl (Nat.le_of_ble_eq_true rfl) ?_
  intro p e s m below meth c A C ls hl hw
  have hx := C.1
  have hb := C.2.1
  have hown := C.2.2.2.2.1
  have hts := C.2.2.2.2.2.1
  have hks := C.2.2.2.2.2.2.1
  have hl : lv_has ls 4 [(0, .ref (ad 0)), (1, .int p1), (2, .int p2), (3, .int p3)] := hl
  have b33 : ∀ (σ : MSt) (H : Heap) (locs : List Loc) (ls : Array Slot), lv_has ls 4 [] → k_W G w A s.heap σ H locs → f_X11_note_b33 σ = some (r, σ') → W p l e rmX11_note s m [.ref (ad 0), .int p1, .int p2, .int p3].toArray below meth c H locs 0 0 (MQ below (k_Qi G w A r σ') [.ref (ad 0), .int p1, .int p2, .int p3].toArray s 0 0 A) (F0 m 33 ls []) := by
    intro σ H locs ls hl hw hf
    unfold f_X11_note_b33 at hf
    refine lv_iconst (v := (-1 : Int32)) hx hb dX11_note_33 (by decide) ?_
    exact k_iret C hw hf dX11_note_34
  unfold f_X11_note at hf
  refine lv_aload_n hx hb dX11_note_0 rfl (lv_at hl 0 rfl) ?_
  refine k_get C hw (LC_0 LC) (ci := 11) rfl k_in11 2 (by decide) lk11_28 (v := .ref (ad 10)) rfl dX11_note_1 ?_
  refine lv_iload_n hx hb dX11_note_4 rfl (lv_at hl 1 rfl) ?_
  obtain ⟨q2, σ1, hq, hf⟩ := k_bdE hf
  refine k_callVi C hw (c_X0_hasBay l G Y w ad 10 (LCL_10 LC) p1 σ q2 σ1 hq) (cwV 1 hts gX11_note_X0_hasBay rfl rfl rfl (by decide +kernel) ⟨Nat.le_of_ble_eq_true rfl, Nat.le_of_ble_eq_true rfl⟩) (k_recv C hw (LC_10 LC) rfl) rfl hl.1 rfl (Nat.le_of_ble_eq_true rfl) dX11_note_5 (fun H locs hw => ?_)
  refine lv_if_eq (tgt := 33) hx hb dX11_note_8 (by decide) (fun h => ?_) (fun h => ?_)
  · have hf := k_ifT h hf
    exact b33 σ1 _ _ _ (lv_sub hl [] rfl) hw hf
  · have hf := k_ifF h hf
    refine lv_iload_n hx hb dX11_note_11 rfl (lv_at hl 2 rfl) ?_
    refine lv_if_lt (tgt := 33) hx hb dX11_note_12 (by decide) (fun h => ?_) (fun h => ?_)
    · have hf := k_ifT h hf
      exact b33 σ1 _ _ _ (lv_sub hl [] rfl) hw hf
    · have hf := k_ifF h hf
      refine lv_iload_n hx hb dX11_note_15 rfl (lv_at hl 2 rfl) ?_
      refine lv_bipush (v := (99 : Int32)) hx hb dX11_note_16 (by decide) ?_
      refine lv_icmp_gt (tgt := 33) hx hb dX11_note_18 (by decide) (fun h => ?_) (fun h => ?_)
      · have hf := k_ifT h hf
        exact b33 σ1 _ _ _ (lv_sub hl [] rfl) hw hf
      · have hf := k_ifF h hf
        refine lv_aload_n hx hb dX11_note_21 rfl (lv_at hl 0 rfl) ?_
        refine k_get C hw (LC_0 LC) (ci := 11) rfl k_in11 10 (by decide) lk11_84 (v := .ref (ad 78)) rfl dX11_note_22 ?_
        refine k_getN C hw (LC_78 LC) (ci := 6) rfl k_in6 7 (by decide) ln11_310 (v := .int (σ1.1 78 7)) rfl dX11_note_25 ?_
        refine lv_bipush (v := (24 : Int32)) hx hb dX11_note_28 (by decide) ?_
        refine lv_icmp_lt (tgt := 35) hx hb dX11_note_30 (by decide) (fun h => ?_) (fun h => ?_)
        · have hf := k_ifT h hf
          refine lv_aload_n hx hb dX11_note_35 rfl (lv_at hl 0 rfl) ?_
          refine k_get C hw (LC_0 LC) (ci := 11) rfl k_in11 10 (by decide) lk11_84 (v := .ref (ad 78)) rfl dX11_note_36 ?_
          refine lv_iload_n hx hb dX11_note_39 rfl (lv_at hl 1 rfl) ?_
          refine lv_iload_n hx hb dX11_note_40 rfl (lv_at hl 2 rfl) ?_
          refine lv_iload_n hx hb dX11_note_41 rfl (lv_at hl 3 rfl) ?_
          obtain ⟨q4, σ3, hq, hf⟩ := k_bdE hf
          refine k_callVi C hw (c_X6_addSight l G Y w ad LC p1 p2 p3 σ1 q4 σ3 hq) (cwV 3 hts gX11_note_X6_addSight rfl rfl rfl (by decide +kernel) ⟨Nat.le_of_ble_eq_true rfl, Nat.le_of_ble_eq_true rfl⟩) (k_recv C hw (LC_78 LC) rfl) rfl hl.1 rfl (Nat.le_of_ble_eq_true rfl) dX11_note_42 (fun H locs hw => ?_)
          exact k_iret C hw hf dX11_note_45
        · have hf := k_ifF h hf
          exact b33 σ1 _ _ _ (lv_sub hl [] rfl) hw hf
def f_X11_out_b27   (σ : MSt) : Option (Int32 × MSt) :=
  some ((-1 : Int32), σ)
def f_X11_out  (p1 : Int32) (σ : MSt) : Option (Int32 × MSt) :=
  if p1 < 0 then
  (f_X11_out_b27 σ)
  else
  (if (σ.1 78 7) ≤ p1 then
  (f_X11_out_b27 σ)
  else
  (if (σ.1 78 7) < (24 : Int32) then
  (k_bd (f_X6_addStrike p1 σ) fun q2 σ1 =>
  some (q2, σ1))
  else
  (f_X11_out_b27 σ)))
def rmX11_out : Room := { frames := 2, cells := 0, slots := 0, locals := 45 }
set_option maxHeartbeats 4000000 in
set_option maxRecDepth 100000 in
theorem c_X11_out (l : Launch) (G : va_G) (Y : CY) (w : MSt → va_W) (ad : Nat → Nat)  (LC : LayC ad w Y) (p1 : Int32) (σ : MSt) (r : Int32) (σ' : MSt) (hf : f_X11_out p1 σ = some (r, σ')) : k_Mi l yX11_out wsX11_out rmX11_out G Y w [.ref (ad 0), .int p1] σ r σ' := by
  refine k_ofi (own := RX11) (cc := cX11_out) (maxL := 2) (some .int) (by decide) rfl rfl (Nat.le_of_ble_eq_true rfl) ?_
  intro p e s m below meth c A C ls hl hw
  have hx := C.1
  have hb := C.2.1
  have hown := C.2.2.2.2.1
  have hts := C.2.2.2.2.2.1
  have hks := C.2.2.2.2.2.2.1
  have hl : lv_has ls 2 [(0, .ref (ad 0)), (1, .int p1)] := hl
  have b27 : ∀ (σ : MSt) (H : Heap) (locs : List Loc) (ls : Array Slot), lv_has ls 2 [] → k_W G w A s.heap σ H locs → f_X11_out_b27 σ = some (r, σ') → W p l e rmX11_out s m [.ref (ad 0), .int p1].toArray below meth c H locs 0 0 (MQ below (k_Qi G w A r σ') [.ref (ad 0), .int p1].toArray s 0 0 A) (F0 m 27 ls []) := by
    intro σ H locs ls hl hw hf
    unfold f_X11_out_b27 at hf
    refine lv_iconst (v := (-1 : Int32)) hx hb dX11_out_27 (by decide) ?_
    exact k_iret C hw hf dX11_out_28
  unfold f_X11_out at hf
  refine lv_iload_n hx hb dX11_out_0 rfl (lv_at hl 1 rfl) ?_
  refine lv_if_lt (tgt := 27) hx hb dX11_out_1 (by decide) (fun h => ?_) (fun h => ?_)
  · have hf := k_ifT h hf
    exact b27 σ _ _ _ (lv_sub hl [] rfl) hw hf
  · have hf := k_ifF h hf
    refine lv_iload_n hx hb dX11_out_4 rfl (lv_at hl 1 rfl) ?_
    refine lv_aload_n hx hb dX11_out_5 rfl (lv_at hl 0 rfl) ?_
    refine k_get C hw (LC_0 LC) (ci := 11) rfl k_in11 10 (by decide) lk11_84 (v := .ref (ad 78)) rfl dX11_out_6 ?_
    refine k_getN C hw (LC_78 LC) (ci := 6) rfl k_in6 7 (by decide) ln11_310 (v := .int (σ.1 78 7)) rfl dX11_out_9 ?_
    refine lv_icmp_ge (tgt := 27) hx hb dX11_out_12 (by decide) (fun h => ?_) (fun h => ?_)
    · have hf := k_ifT h hf
      exact b27 σ _ _ _ (lv_sub hl [] rfl) hw hf
    · have hf := k_ifF h hf
      refine lv_aload_n hx hb dX11_out_15 rfl (lv_at hl 0 rfl) ?_
      refine k_get C hw (LC_0 LC) (ci := 11) rfl k_in11 10 (by decide) lk11_84 (v := .ref (ad 78)) rfl dX11_out_16 ?_
      refine k_getN C hw (LC_78 LC) (ci := 6) rfl k_in6 7 (by decide) ln11_310 (v := .int (σ.1 78 7)) rfl dX11_out_19 ?_
      refine lv_bipush (v := (24 : Int32)) hx hb dX11_out_22 (by decide) ?_
      refine lv_icmp_lt (tgt := 29) hx hb dX11_out_24 (by decide) (fun h => ?_) (fun h => ?_)
      · have hf := k_ifT h hf
        refine lv_aload_n hx hb dX11_out_29 rfl (lv_at hl 0 rfl) ?_
        refine k_get C hw (LC_0 LC) (ci := 11) rfl k_in11 10 (by decide) lk11_84 (v := .ref (ad 78)) rfl dX11_out_30 ?_
        refine lv_iload_n hx hb dX11_out_33 rfl (lv_at hl 1 rfl) ?_
        obtain ⟨q2, σ1, hq, hf⟩ := k_bdE hf
        refine k_callVi C hw (c_X6_addStrike l G Y w ad LC p1 σ q2 σ1 hq) (cwV 1 hts gX11_out_X6_addStrike rfl rfl rfl (by decide +kernel) ⟨Nat.le_of_ble_eq_true rfl, Nat.le_of_ble_eq_true rfl⟩) (k_recv C hw (LC_78 LC) rfl) rfl hl.1 rfl (Nat.le_of_ble_eq_true rfl) dX11_out_34 (fun H locs hw => ?_)
        exact k_iret C hw hf dX11_out_37
      · have hf := k_ifF h hf
        exact b27 σ _ _ _ (lv_sub hl [] rfl) hw hf
def f_X11_known_b16   (σ : MSt) : Option (Int32 × MSt) :=
  some ((0 : Int32), σ)
def f_X11_known  (p1 : Int32) (σ : MSt) : Option (Int32 × MSt) :=
  if p1 < (-1 : Int32) then
  (f_X11_known_b16 σ)
  else
  (if p1 ≤ (σ.1 78 7) then
  (k_nm (mI σ 78 8 p1) fun σ1 =>
  some ((1 : Int32), σ1))
  else
  (f_X11_known_b16 σ))
def rmX11_known : Room := { frames := 0, cells := 0, slots := 0, locals := 0 }
set_option maxHeartbeats 4000000 in
set_option maxRecDepth 100000 in
theorem c_X11_known (l : Launch) (G : va_G) (Y : CY) (w : MSt → va_W) (ad : Nat → Nat)  (LC : LayC ad w Y) (p1 : Int32) (σ : MSt) (r : Int32) (σ' : MSt) (hf : f_X11_known p1 σ = some (r, σ')) : k_Mi l yX11_known wsX11_known rmX11_known G Y w [.ref (ad 0), .int p1] σ r σ' := by
  refine k_ofi (own := RX11) (cc := cX11_known) (maxL := 2) (some .boolean) (by decide) rfl rfl (Nat.le_of_ble_eq_true rfl) ?_
  intro p e s m below meth c A C ls hl hw
  have hx := C.1
  have hb := C.2.1
  have hown := C.2.2.2.2.1
  have hts := C.2.2.2.2.2.1
  have hks := C.2.2.2.2.2.2.1
  have hl : lv_has ls 2 [(0, .ref (ad 0)), (1, .int p1)] := hl
  have b16 : ∀ (σ : MSt) (H : Heap) (locs : List Loc) (ls : Array Slot), lv_has ls 2 [] → k_W G w A s.heap σ H locs → f_X11_known_b16 σ = some (r, σ') → W p l e rmX11_known s m [.ref (ad 0), .int p1].toArray below meth c H locs 0 0 (MQ below (k_Qi G w A r σ') [.ref (ad 0), .int p1].toArray s 0 0 A) (F0 m 16 ls []) := by
    intro σ H locs ls hl hw hf
    unfold f_X11_known_b16 at hf
    refine lv_iconst (v := (0 : Int32)) hx hb dX11_known_16 (by decide) ?_
    exact k_zret C hw rfl hf dX11_known_17
  unfold f_X11_known at hf
  refine lv_iload_n hx hb dX11_known_0 rfl (lv_at hl 1 rfl) ?_
  refine lv_iconst (v := (-1 : Int32)) hx hb dX11_known_1 (by decide) ?_
  refine lv_icmp_lt (tgt := 16) hx hb dX11_known_2 (by decide) (fun h => ?_) (fun h => ?_)
  · have hf := k_ifT h hf
    exact b16 σ _ _ _ (lv_sub hl [] rfl) hw hf
  · have hf := k_ifF h hf
    refine lv_iload_n hx hb dX11_known_5 rfl (lv_at hl 1 rfl) ?_
    refine lv_aload_n hx hb dX11_known_6 rfl (lv_at hl 0 rfl) ?_
    refine k_get C hw (LC_0 LC) (ci := 11) rfl k_in11 10 (by decide) lk11_84 (v := .ref (ad 78)) rfl dX11_known_7 ?_
    refine k_getN C hw (LC_78 LC) (ci := 6) rfl k_in6 7 (by decide) ln11_310 (v := .int (σ.1 78 7)) rfl dX11_known_10 ?_
    refine lv_icmp_le (tgt := 18) hx hb dX11_known_13 (by decide) (fun h => ?_) (fun h => ?_)
    · have hf := k_ifT h hf
      refine lv_aload_n hx hb dX11_known_18 rfl (lv_at hl 0 rfl) ?_
      refine k_get C hw (LC_0 LC) (ci := 11) rfl k_in11 10 (by decide) lk11_84 (v := .ref (ad 78)) rfl dX11_known_19 ?_
      refine lv_iload_n hx hb dX11_known_22 rfl (lv_at hl 1 rfl) ?_
      refine k_putN C hw (LC_78 LC) (ci := 6) rfl k_in6 tyX6 tyX6_ok nmX6 8 (by decide) ln11_318 rfl ⟨rfl, rfl⟩ rfl dX11_known_23 (fun σ1 eq H locs hw => ?_)
      have hf := k_nmE eq hf
      refine lv_iconst (v := (1 : Int32)) hx hb dX11_known_26 (by decide) ?_
      exact k_zret C hw rfl hf dX11_known_27
    · have hf := k_ifF h hf
      exact b16 σ _ _ _ (lv_sub hl [] rfl) hw hf
def f_X11_was_b23  (y0 : Int32) (σ : MSt) : Option (Int32 × MSt) :=
  some (y0, σ)
def f_X11_was  (p1 : Int32) (σ : MSt) : Option (Int32 × MSt) :=
  k_bd (f_X0_hasDeed 10 p1 σ) fun q2 σ1 =>
  if q2 = 0 then
  (f_X11_was_b23 (-1 : Int32) σ1)
  else
  (k_bd (f_X6_joysOf p1 σ1) fun q4 σ3 =>
  f_X11_was_b23 q4 σ3)
def rmX11_was : Room := { frames := 6, cells := 0, slots := 0, locals := 146 }
set_option maxHeartbeats 4000000 in
set_option maxRecDepth 100000 in
theorem c_X11_was (l : Launch) (G : va_G) (Y : CY) (w : MSt → va_W) (ad : Nat → Nat)  (LC : LayC ad w Y) (p1 : Int32) (σ : MSt) (r : Int32) (σ' : MSt) (hf : f_X11_was p1 σ = some (r, σ')) : k_Mi l yX11_was wsX11_was rmX11_was G Y w [.ref (ad 0), .int p1] σ r σ' := by
  refine k_ofi (own := RX11) (cc := cX11_was) (maxL := 2) (some .int) (by decide) rfl rfl (Nat.le_of_ble_eq_true rfl) ?_
  intro p e s m below meth c A C ls hl hw
  have hx := C.1
  have hb := C.2.1
  have hown := C.2.2.2.2.1
  have hts := C.2.2.2.2.2.1
  have hks := C.2.2.2.2.2.2.1
  have hl : lv_has ls 2 [(0, .ref (ad 0)), (1, .int p1)] := hl
  have b23 : ∀ (y0 : Int32) (σ : MSt) (H : Heap) (locs : List Loc) (ls : Array Slot), lv_has ls 2 [] → k_W G w A s.heap σ H locs → f_X11_was_b23 y0 σ = some (r, σ') → W p l e rmX11_was s m [.ref (ad 0), .int p1].toArray below meth c H locs 0 0 (MQ below (k_Qi G w A r σ') [.ref (ad 0), .int p1].toArray s 0 0 A) (F0 m 23 ls [.int y0]) := by
    intro y0 σ H locs ls hl hw hf
    unfold f_X11_was_b23 at hf
    exact k_iret C hw hf dX11_was_23
  unfold f_X11_was at hf
  refine lv_aload_n hx hb dX11_was_0 rfl (lv_at hl 0 rfl) ?_
  refine k_get C hw (LC_0 LC) (ci := 11) rfl k_in11 2 (by decide) lk11_28 (v := .ref (ad 10)) rfl dX11_was_1 ?_
  refine lv_iload_n hx hb dX11_was_4 rfl (lv_at hl 1 rfl) ?_
  obtain ⟨q2, σ1, hq, hf⟩ := k_bdE hf
  refine k_callVi C hw (c_X0_hasDeed l G Y w ad 10 (LCL_10 LC) p1 σ q2 σ1 hq) (cwV 1 hts gX11_was_X0_hasDeed rfl rfl rfl (by decide +kernel) ⟨Nat.le_of_ble_eq_true rfl, Nat.le_of_ble_eq_true rfl⟩) (k_recv C hw (LC_10 LC) rfl) rfl hl.1 rfl (Nat.le_of_ble_eq_true rfl) dX11_was_5 (fun H locs hw => ?_)
  refine lv_if_eq (tgt := 22) hx hb dX11_was_8 (by decide) (fun h => ?_) (fun h => ?_)
  · have hf := k_ifT h hf
    refine lv_iconst (v := (-1 : Int32)) hx hb dX11_was_22 (by decide) ?_
    exact b23 (-1 : Int32) σ1 _ _ _ (lv_sub hl [] rfl) hw hf
  · have hf := k_ifF h hf
    refine lv_aload_n hx hb dX11_was_11 rfl (lv_at hl 0 rfl) ?_
    refine k_get C hw (LC_0 LC) (ci := 11) rfl k_in11 10 (by decide) lk11_84 (v := .ref (ad 78)) rfl dX11_was_12 ?_
    refine lv_iload_n hx hb dX11_was_15 rfl (lv_at hl 1 rfl) ?_
    obtain ⟨q4, σ3, hq, hf⟩ := k_bdE hf
    refine k_callVi C hw (c_X6_joysOf l G Y w ad LC p1 σ1 q4 σ3 hq) (cwV 1 hts gX11_was_X6_joysOf rfl rfl rfl (by decide +kernel) ⟨Nat.le_of_ble_eq_true rfl, Nat.le_of_ble_eq_true rfl⟩) (k_recv C hw (LC_78 LC) rfl) rfl hl.1 rfl (Nat.le_of_ble_eq_true rfl) dX11_was_16 (fun H locs hw => ?_)
    refine lv_goto (tgt := 23) hx hb dX11_was_19 (by decide) ?_
    exact b23 q4 σ3 _ _ _ (lv_sub hl [] rfl) hw hf
def f_X11_tells_b40  (y0 : Int32) (σ : MSt) : Option (Int32 × MSt) :=
  some (y0, σ)
def f_X11_tells  (p1 : Int32) (σ : MSt) : Option (Int32 × MSt) :=
  k_bd (f_X0_hasDeed 10 p1 σ) fun q2 σ1 =>
  if q2 = 0 then
  (some ((-1 : Int32), σ1))
  else
  (k_bd (f_X6_joysOf p1 σ1) fun q4 σ3 =>
  if q4 = 0 then
  (f_X11_tells_b40 (-2 : Int32) σ3)
  else
  (k_bd (f_X6_tellingDate p1 q4 σ3) fun q6 σ5 =>
  f_X11_tells_b40 q6 σ5))
def rmX11_tells : Room := { frames := 6, cells := 0, slots := 0, locals := 151 }
set_option maxHeartbeats 4000000 in
set_option maxRecDepth 100000 in
theorem c_X11_tells (l : Launch) (G : va_G) (Y : CY) (w : MSt → va_W) (ad : Nat → Nat)  (LC : LayC ad w Y) (p1 : Int32) (σ : MSt) (r : Int32) (σ' : MSt) (hf : f_X11_tells p1 σ = some (r, σ')) : k_Mi l yX11_tells wsX11_tells rmX11_tells G Y w [.ref (ad 0), .int p1] σ r σ' := by
  refine k_ofi (own := RX11) (cc := cX11_tells) (maxL := 3) (some .int) (by decide) rfl rfl (Nat.le_of_ble_eq_true rfl) ?_
  intro p e s m below meth c A C ls hl hw
  have hx := C.1
  have hb := C.2.1
  have hown := C.2.2.2.2.1
  have hts := C.2.2.2.2.2.1
  have hks := C.2.2.2.2.2.2.1
  have hl : lv_has ls 3 [(0, .ref (ad 0)), (1, .int p1)] := hl
  have b40 : ∀ (y0 : Int32) (σ : MSt) (H : Heap) (locs : List Loc) (ls : Array Slot), lv_has ls 3 [] → k_W G w A s.heap σ H locs → f_X11_tells_b40 y0 σ = some (r, σ') → W p l e rmX11_tells s m [.ref (ad 0), .int p1].toArray below meth c H locs 0 0 (MQ below (k_Qi G w A r σ') [.ref (ad 0), .int p1].toArray s 0 0 A) (F0 m 40 ls [.int y0]) := by
    intro y0 σ H locs ls hl hw hf
    unfold f_X11_tells_b40 at hf
    exact k_iret C hw hf dX11_tells_40
  unfold f_X11_tells at hf
  refine lv_aload_n hx hb dX11_tells_0 rfl (lv_at hl 0 rfl) ?_
  refine k_get C hw (LC_0 LC) (ci := 11) rfl k_in11 2 (by decide) lk11_28 (v := .ref (ad 10)) rfl dX11_tells_1 ?_
  refine lv_iload_n hx hb dX11_tells_4 rfl (lv_at hl 1 rfl) ?_
  obtain ⟨q2, σ1, hq, hf⟩ := k_bdE hf
  refine k_callVi C hw (c_X0_hasDeed l G Y w ad 10 (LCL_10 LC) p1 σ q2 σ1 hq) (cwV 1 hts gX11_tells_X0_hasDeed rfl rfl rfl (by decide +kernel) ⟨Nat.le_of_ble_eq_true rfl, Nat.le_of_ble_eq_true rfl⟩) (k_recv C hw (LC_10 LC) rfl) rfl hl.1 rfl (Nat.le_of_ble_eq_true rfl) dX11_tells_5 (fun H locs hw => ?_)
  refine lv_if_ne (tgt := 13) hx hb dX11_tells_8 (by decide) (fun h => ?_) (fun h => ?_)
  · have hf := k_ifF h hf
    refine lv_aload_n hx hb dX11_tells_13 rfl (lv_at hl 0 rfl) ?_
    refine k_get C hw (LC_0 LC) (ci := 11) rfl k_in11 10 (by decide) lk11_84 (v := .ref (ad 78)) rfl dX11_tells_14 ?_
    refine lv_iload_n hx hb dX11_tells_17 rfl (lv_at hl 1 rfl) ?_
    obtain ⟨q4, σ3, hq, hf⟩ := k_bdE hf
    refine k_callVi C hw (c_X6_joysOf l G Y w ad LC p1 σ1 q4 σ3 hq) (cwV 1 hts gX11_tells_X6_joysOf rfl rfl rfl (by decide +kernel) ⟨Nat.le_of_ble_eq_true rfl, Nat.le_of_ble_eq_true rfl⟩) (k_recv C hw (LC_78 LC) rfl) rfl hl.1 rfl (Nat.le_of_ble_eq_true rfl) dX11_tells_18 (fun H locs hw => ?_)
    refine lv_istore_n (lv' := [(2, .int q4), (0, .ref (ad 0)), (1, .int p1)]) hx hb dX11_tells_21 rfl hl (by decide) rfl (fun ls hl => ?_)
    refine lv_iload_n hx hb dX11_tells_22 rfl (lv_at hl 0 rfl) ?_
    refine lv_if_ne (tgt := 31) hx hb dX11_tells_23 (by decide) (fun h => ?_) (fun h => ?_)
    · have hf := k_ifF h hf
      refine lv_aload_n hx hb dX11_tells_31 rfl (lv_at hl 1 rfl) ?_
      refine k_get C hw (LC_0 LC) (ci := 11) rfl k_in11 10 (by decide) lk11_84 (v := .ref (ad 78)) rfl dX11_tells_32 ?_
      refine lv_iload_n hx hb dX11_tells_35 rfl (lv_at hl 2 rfl) ?_
      refine lv_iload_n hx hb dX11_tells_36 rfl (lv_at hl 0 rfl) ?_
      obtain ⟨q6, σ5, hq, hf⟩ := k_bdE hf
      refine k_callVi C hw (c_X6_tellingDate l G Y w ad LC p1 q4 σ3 q6 σ5 hq) (cwV 2 hts gX11_tells_X6_tellingDate rfl rfl rfl (by decide +kernel) ⟨Nat.le_of_ble_eq_true rfl, Nat.le_of_ble_eq_true rfl⟩) (k_recv C hw (LC_78 LC) rfl) rfl hl.1 rfl (Nat.le_of_ble_eq_true rfl) dX11_tells_37 (fun H locs hw => ?_)
      exact b40 q6 σ5 _ _ _ (lv_sub hl [] rfl) hw hf
    · have hf := k_ifT h hf
      refine lv_bipush (v := (-2 : Int32)) hx hb dX11_tells_26 (by decide) ?_
      refine lv_goto (tgt := 40) hx hb dX11_tells_28 (by decide) ?_
      exact b40 (-2 : Int32) σ3 _ _ _ (lv_sub hl [] rfl) hw hf
  · have hf := k_ifT h hf
    refine lv_iconst (v := (-1 : Int32)) hx hb dX11_tells_11 (by decide) ?_
    exact k_iret C hw hf dX11_tells_12
def f_X11_chance_b68  (r37 : Int32 → Int32 → Int32 → Int64 → Int32 → MSt → Option (Int32 × MSt)) (x2 : Int32) (x3 : Int32) (x4 : Int32) (x7 : Int32) (σ : MSt) : Option (Int32 × MSt) :=
  k_nm (σ.2 58 8) fun u1 =>
  k_nm (x7 + (1 : Int32)) fun u2 =>
  r37 x2 x3 x4 u1 u2 σ
def f_X11_chance_b37_s  (r37 : Int32 → Int32 → Int32 → Int64 → Int32 → MSt → Option (Int32 × MSt)) (x2 : Int32) (x3 : Int32) (x4 : Int32) (x5 : Int64) (x7 : Int32) (σ : MSt) : Option (Int32 × MSt) :=
  if (10 : Int32) ≤ x7 then
  (some (x4, σ))
  else
  (k_bv (f_X1_byChance x5 σ) fun σ1 =>
  k_bd (f_X1_adriftOf x2 σ1) fun q3 σ2 =>
  if x3 < q3 then
  (f_X11_chance_b68 r37 x2 x3 x4 x7 σ2)
  else
  (k_nm (x4 + (1 : Int32)) fun u4 =>
  f_X11_chance_b68 r37 x2 x3 u4 x7 σ2))
def f_X11_chance_b37  : Nat → Int32 → Int32 → Int32 → Int64 → Int32 → MSt → Option (Int32 × MSt)
  | 0 => fun _ _ _ _ _ _ => none
  | n + 1 => f_X11_chance_b37_s (f_X11_chance_b37 n)
def f_X11_chance_b25   (σ : MSt) : Option (Int32 × MSt) :=
  some ((-1 : Int32), σ)
def f_X11_chance  (p1 : Int32) (p2 : Int32) (p3 : Int32) (σ : MSt) : Option (Int32 × MSt) :=
  if p1 < 0 then
  (f_X11_chance_b25 σ)
  else
  (if p2 < (1 : Int32) then
  (f_X11_chance_b25 σ)
  else
  (if (60 : Int32) < p2 then
  (f_X11_chance_b25 σ)
  else
  (if p3 < 0 then
  (f_X11_chance_b25 σ)
  else
  (if p3 ≤ (60 : Int32) then
  (k_nm ((p1).toInt64) fun u1 =>
  f_X11_chance_b37 FU p2 p3 (0 : Int32) u1 (0 : Int32) σ)
  else
  (f_X11_chance_b25 σ)))))
def rmX11_chance : Room := { frames := 6, cells := 0, slots := 0, locals := 141 }
set_option maxHeartbeats 4000000 in
set_option maxRecDepth 100000 in
theorem c_X11_chance (l : Launch) (G : va_G) (Y : CY) (w : MSt → va_W) (ad : Nat → Nat)  (LC : LayC ad w Y) (p1 : Int32) (p2 : Int32) (p3 : Int32) (σ : MSt) (r : Int32) (σ' : MSt) (hf : f_X11_chance p1 p2 p3 σ = some (r, σ')) : k_Mi l yX11_chance wsX11_chance rmX11_chance G Y w [.ref (ad 0), .int p1, .int p2, .int p3] σ r σ' := by
  refine k_ofi (own := RX11) (cc := cX11_chance) (maxL := 8) (some .int) (by decide) rfl rfl (Nat.le_of_ble_eq_true rfl) ?_
  intro p e s m below meth c A C ls hl hw
  have hx := C.1
  have hb := C.2.1
  have hown := C.2.2.2.2.1
  have hts := C.2.2.2.2.2.1
  have hks := C.2.2.2.2.2.2.1
  have hl : lv_has ls 8 [(0, .ref (ad 0)), (1, .int p1), (2, .int p2), (3, .int p3)] := hl
  have b37 : ∀ (n37 : Nat) (x2 : Int32) (x3 : Int32) (x4 : Int32) (x5 : Int64) (x7 : Int32) (σ : MSt) (H : Heap) (locs : List Loc) (ls : Array Slot), lv_has ls 8 [(0, .ref (ad 0)), (2, .int x2), (3, .int x3), (4, .int x4), (5, .long x5), (7, .int x7)] → k_W G w A s.heap σ H locs → f_X11_chance_b37 n37 x2 x3 x4 x5 x7 σ = some (r, σ') → W p l e rmX11_chance s m [.ref (ad 0), .int p1, .int p2, .int p3].toArray below meth c H locs 0 0 (MQ below (k_Qi G w A r σ') [.ref (ad 0), .int p1, .int p2, .int p3].toArray s 0 0 A) (F0 m 37 ls []) := by
    intro n37
    induction n37 with
    | zero =>
      intro x2 x3 x4 x5 x7 σ H locs ls hl hw hf
      have hf : (none : Option (Int32 × MSt)) = some (r, σ') := hf
      cases hf
    | succ n37 ih37 =>
      have b68 : ∀ (x2 : Int32) (x3 : Int32) (x4 : Int32) (x7 : Int32) (σ : MSt) (H : Heap) (locs : List Loc) (ls : Array Slot), lv_has ls 8 [(0, .ref (ad 0)), (2, .int x2), (3, .int x3), (4, .int x4), (7, .int x7)] → k_W G w A s.heap σ H locs → f_X11_chance_b68 (f_X11_chance_b37 n37) x2 x3 x4 x7 σ = some (r, σ') → W p l e rmX11_chance s m [.ref (ad 0), .int p1, .int p2, .int p3].toArray below meth c H locs 0 0 (MQ below (k_Qi G w A r σ') [.ref (ad 0), .int p1, .int p2, .int p3].toArray s 0 0 A) (F0 m 68 ls []) := by
        intro x2 x3 x4 x7 σ H locs ls hl hw hf
        unfold f_X11_chance_b68 at hf
        refine lv_aload_n hx hb dX11_chance_68 rfl (lv_at hl 0 rfl) ?_
        refine k_get C hw (LC_0 LC) (ci := 11) rfl k_in11 8 (by decide) lk11_66 (v := .ref (ad 71)) rfl dX11_chance_69 ?_
        refine k_getN C hw (LC_71 LC) (ci := 1) rfl k_in1 2 (by decide) ln11_334 (v := .ref (ad 58)) rfl dX11_chance_72 ?_
        refine k_getN C hw (LC_58 LC) (ci := 5) rfl k_in5 8 (by decide) ln11_337 (v := .long (σ.2 58 8)) rfl dX11_chance_75 ?_
        refine lv_topl (fun u1 ex => ?_)
        have hf := k_nmE ex hf
        refine lv_lstore (lv' := [(5, .long u1), (0, .ref (ad 0)), (2, .int x2), (3, .int x3), (4, .int x4), (7, .int x7)]) hx hb dX11_chance_78 hl (by decide) rfl (fun ls hl => ?_)
        obtain ⟨u2, ex⟩ : ∃ y : Int32, y = (x7 + (1 : Int32)) := ⟨_, rfl⟩
        have hf := k_nmE ex hf
        refine lv_iinc (v := u2) (lv' := [(7, .int u2), (5, .long u1), (0, .ref (ad 0)), (2, .int x2), (3, .int x3), (4, .int x4)]) hx hb dX11_chance_80 hl (k := 5) rfl (by rw [ex]; rfl) (by decide) rfl (fun ls hl => ?_)
        refine lv_goto (tgt := 37) hx hb dX11_chance_83 (by decide) ?_
        exact ih37 x2 x3 x4 u1 u2 σ _ _ _ (lv_sub hl [2, 3, 4, 5, 1, 0] rfl) hw hf
      intro x2 x3 x4 x5 x7 σ H locs ls hl hw hf
      have hf : f_X11_chance_b37_s (f_X11_chance_b37 n37) x2 x3 x4 x5 x7 σ = some (r, σ') := hf
      unfold f_X11_chance_b37_s at hf
      refine lv_iload hx hb dX11_chance_37 (lv_at hl 5 rfl) ?_
      refine lv_bipush (v := (10 : Int32)) hx hb dX11_chance_39 (by decide) ?_
      refine lv_icmp_ge (tgt := 86) hx hb dX11_chance_41 (by decide) (fun h => ?_) (fun h => ?_)
      · have hf := k_ifT h hf
        refine lv_iload hx hb dX11_chance_86 (lv_at hl 3 rfl) ?_
        exact k_iret C hw hf dX11_chance_88
      · have hf := k_ifF h hf
        refine lv_aload_n hx hb dX11_chance_44 rfl (lv_at hl 0 rfl) ?_
        refine k_get C hw (LC_0 LC) (ci := 11) rfl k_in11 8 (by decide) lk11_66 (v := .ref (ad 71)) rfl dX11_chance_45 ?_
        refine lv_lload hx hb dX11_chance_48 (lv_at hl 4 rfl) ?_
        obtain ⟨σ1, hq, hf⟩ := k_bvE hf
        refine k_callVv C hw (c_X1_byChance l G Y w ad LC x5 σ σ1 hq) (cwV 1 hts gX11_chance_X1_byChance rfl rfl rfl (by decide +kernel) ⟨Nat.le_of_ble_eq_true rfl, Nat.le_of_ble_eq_true rfl⟩) (k_recv C hw (LC_71 LC) rfl) rfl hl.1 rfl (Nat.le_of_ble_eq_true rfl) dX11_chance_50 (fun H locs hw => ?_)
        refine lv_aload_n hx hb dX11_chance_53 rfl (lv_at hl 0 rfl) ?_
        refine k_get C hw (LC_0 LC) (ci := 11) rfl k_in11 8 (by decide) lk11_66 (v := .ref (ad 71)) rfl dX11_chance_54 ?_
        refine lv_iload_n hx hb dX11_chance_57 rfl (lv_at hl 1 rfl) ?_
        obtain ⟨q3, σ2, hq, hf⟩ := k_bdE hf
        refine k_callVi C hw (c_X1_adriftOf l G Y w ad LC x2 σ1 q3 σ2 hq) (cwV 1 hts gX11_chance_X1_adriftOf rfl rfl rfl (by decide +kernel) ⟨Nat.le_of_ble_eq_true rfl, Nat.le_of_ble_eq_true rfl⟩) (k_recv C hw (LC_71 LC) rfl) rfl hl.1 rfl (Nat.le_of_ble_eq_true rfl) dX11_chance_58 (fun H locs hw => ?_)
        refine lv_iload_n hx hb dX11_chance_61 rfl (lv_at hl 2 rfl) ?_
        refine lv_icmp_gt (tgt := 68) hx hb dX11_chance_62 (by decide) (fun h => ?_) (fun h => ?_)
        · have hf := k_ifT h hf
          exact b68 x2 x3 x4 x7 σ2 _ _ _ (lv_sub hl [0, 1, 2, 3, 5] rfl) hw hf
        · have hf := k_ifF h hf
          obtain ⟨u4, ex⟩ : ∃ y : Int32, y = (x4 + (1 : Int32)) := ⟨_, rfl⟩
          have hf := k_nmE ex hf
          refine lv_iinc (v := u4) (lv' := [(4, .int u4), (0, .ref (ad 0)), (2, .int x2), (3, .int x3), (5, .long x5), (7, .int x7)]) hx hb dX11_chance_65 hl (k := 3) rfl (by rw [ex]; rfl) (by decide) rfl (fun ls hl => ?_)
          exact b68 x2 x3 u4 x7 σ2 _ _ _ (lv_sub hl [1, 2, 3, 0, 5] rfl) hw hf
  have b25 : ∀ (σ : MSt) (H : Heap) (locs : List Loc) (ls : Array Slot), lv_has ls 8 [] → k_W G w A s.heap σ H locs → f_X11_chance_b25 σ = some (r, σ') → W p l e rmX11_chance s m [.ref (ad 0), .int p1, .int p2, .int p3].toArray below meth c H locs 0 0 (MQ below (k_Qi G w A r σ') [.ref (ad 0), .int p1, .int p2, .int p3].toArray s 0 0 A) (F0 m 25 ls []) := by
    intro σ H locs ls hl hw hf
    unfold f_X11_chance_b25 at hf
    refine lv_iconst (v := (-1 : Int32)) hx hb dX11_chance_25 (by decide) ?_
    exact k_iret C hw hf dX11_chance_26
  unfold f_X11_chance at hf
  refine lv_iload_n hx hb dX11_chance_0 rfl (lv_at hl 1 rfl) ?_
  refine lv_if_lt (tgt := 25) hx hb dX11_chance_1 (by decide) (fun h => ?_) (fun h => ?_)
  · have hf := k_ifT h hf
    exact b25 σ _ _ _ (lv_sub hl [] rfl) hw hf
  · have hf := k_ifF h hf
    refine lv_iload_n hx hb dX11_chance_4 rfl (lv_at hl 2 rfl) ?_
    refine lv_iconst (v := (1 : Int32)) hx hb dX11_chance_5 (by decide) ?_
    refine lv_icmp_lt (tgt := 25) hx hb dX11_chance_6 (by decide) (fun h => ?_) (fun h => ?_)
    · have hf := k_ifT h hf
      exact b25 σ _ _ _ (lv_sub hl [] rfl) hw hf
    · have hf := k_ifF h hf
      refine lv_iload_n hx hb dX11_chance_9 rfl (lv_at hl 2 rfl) ?_
      refine lv_bipush (v := (60 : Int32)) hx hb dX11_chance_10 (by decide) ?_
      refine lv_icmp_gt (tgt := 25) hx hb dX11_chance_12 (by decide) (fun h => ?_) (fun h => ?_)
      · have hf := k_ifT h hf
        exact b25 σ _ _ _ (lv_sub hl [] rfl) hw hf
      · have hf := k_ifF h hf
        refine lv_iload_n hx hb dX11_chance_15 rfl (lv_at hl 3 rfl) ?_
        refine lv_if_lt (tgt := 25) hx hb dX11_chance_16 (by decide) (fun h => ?_) (fun h => ?_)
        · have hf := k_ifT h hf
          exact b25 σ _ _ _ (lv_sub hl [] rfl) hw hf
        · have hf := k_ifF h hf
          refine lv_iload_n hx hb dX11_chance_19 rfl (lv_at hl 3 rfl) ?_
          refine lv_bipush (v := (60 : Int32)) hx hb dX11_chance_20 (by decide) ?_
          refine lv_icmp_le (tgt := 27) hx hb dX11_chance_22 (by decide) (fun h => ?_) (fun h => ?_)
          · have hf := k_ifT h hf
            refine lv_iconst (v := (0 : Int32)) hx hb dX11_chance_27 (by decide) ?_
            refine lv_istore (lv' := [(4, .int (0 : Int32)), (0, .ref (ad 0)), (1, .int p1), (2, .int p2), (3, .int p3)]) hx hb dX11_chance_28 hl (by decide) rfl (fun ls hl => ?_)
            refine lv_iload_n hx hb dX11_chance_30 rfl (lv_at hl 2 rfl) ?_
            refine lv_i2l (v := ((p1).toInt64)) hx hb dX11_chance_31 rfl ?_
            refine lv_topl (fun u1 ex => ?_)
            have hf := k_nmE ex hf
            refine lv_lstore (lv' := [(5, .long u1), (4, .int (0 : Int32)), (0, .ref (ad 0)), (1, .int p1), (2, .int p2), (3, .int p3)]) hx hb dX11_chance_32 hl (by decide) rfl (fun ls hl => ?_)
            refine lv_iconst (v := (0 : Int32)) hx hb dX11_chance_34 (by decide) ?_
            refine lv_istore (lv' := [(7, .int (0 : Int32)), (5, .long u1), (4, .int (0 : Int32)), (0, .ref (ad 0)), (1, .int p1), (2, .int p2), (3, .int p3)]) hx hb dX11_chance_35 hl (by decide) rfl (fun ls hl => ?_)
            exact b37 FU p2 p3 (0 : Int32) u1 (0 : Int32) σ _ _ _ (lv_sub hl [3, 5, 6, 2, 1, 0] rfl) hw hf
          · have hf := k_ifF h hf
            exact b25 σ _ _ _ (lv_sub hl [] rfl) hw hf
def f_X11_tried_b51   (σ : MSt) : Option (Int32 × MSt) :=
  some ((-1 : Int32), σ)
def f_X11_tried_b25  (x1 : Int32) (x2 : Int32) (x3 : Int32) (y0 : Int32) (σ : MSt) : Option (Int32 × MSt) :=
  if x1 < 0 then
  (f_X11_tried_b51 σ)
  else
  (if (5 : Int32) < x1 then
  (f_X11_tried_b51 σ)
  else
  (if y0 = 0 then
  (f_X11_tried_b51 σ)
  else
  (if x3 < 0 then
  (f_X11_tried_b51 σ)
  else
  (if x3 ≤ (60 : Int32) then
  (k_bv (f_X1_asItGoes σ) fun σ1 =>
  k_bv (f_X1_otherwise x1 x2 σ1) fun σ2 =>
  k_bd (f_X1_adriftOf x3 σ2) fun q4 σ3 =>
  some (q4, σ3))
  else
  (f_X11_tried_b51 σ)))))
def f_X11_tried  (p1 : Int32) (p2 : Int32) (p3 : Int32) (σ : MSt) : Option (Int32 × MSt) :=
  if p1 = (2 : Int32) then
  (k_bd (f_X0_hasDeed 10 p2 σ) fun q6 σ5 =>
  f_X11_tried_b25 p1 p2 p3 q6 σ5)
  else
  (if p2 = 0 then
  (f_X11_tried_b25 p1 p2 p3 (1 : Int32) σ)
  else
  (f_X11_tried_b25 p1 p2 p3 (0 : Int32) σ))
def rmX11_tried : Room := { frames := 6, cells := 0, slots := 0, locals := 141 }
set_option maxHeartbeats 4000000 in
set_option maxRecDepth 100000 in
theorem c_X11_tried (l : Launch) (G : va_G) (Y : CY) (w : MSt → va_W) (ad : Nat → Nat)  (LC : LayC ad w Y) (p1 : Int32) (p2 : Int32) (p3 : Int32) (σ : MSt) (r : Int32) (σ' : MSt) (hf : f_X11_tried p1 p2 p3 σ = some (r, σ')) : k_Mi l yX11_tried wsX11_tried rmX11_tried G Y w [.ref (ad 0), .int p1, .int p2, .int p3] σ r σ' := by
  refine k_ofi (own := RX11) (cc := cX11_tried) (maxL := 5) (some .int) (by decide) rfl rfl (Nat.le_of_ble_eq_true rfl) ?_
  intro p e s m below meth c A C ls hl hw
  have hx := C.1
  have hb := C.2.1
  have hown := C.2.2.2.2.1
  have hts := C.2.2.2.2.2.1
  have hks := C.2.2.2.2.2.2.1
  have hl : lv_has ls 5 [(0, .ref (ad 0)), (1, .int p1), (2, .int p2), (3, .int p3)] := hl
  have b51 : ∀ (σ : MSt) (H : Heap) (locs : List Loc) (ls : Array Slot), lv_has ls 5 [] → k_W G w A s.heap σ H locs → f_X11_tried_b51 σ = some (r, σ') → W p l e rmX11_tried s m [.ref (ad 0), .int p1, .int p2, .int p3].toArray below meth c H locs 0 0 (MQ below (k_Qi G w A r σ') [.ref (ad 0), .int p1, .int p2, .int p3].toArray s 0 0 A) (F0 m 51 ls []) := by
    intro σ H locs ls hl hw hf
    unfold f_X11_tried_b51 at hf
    refine lv_iconst (v := (-1 : Int32)) hx hb dX11_tried_51 (by decide) ?_
    exact k_iret C hw hf dX11_tried_52
  have b25 : ∀ (x1 : Int32) (x2 : Int32) (x3 : Int32) (y0 : Int32) (σ : MSt) (H : Heap) (locs : List Loc) (ls : Array Slot), lv_has ls 5 [(0, .ref (ad 0)), (1, .int x1), (2, .int x2), (3, .int x3)] → k_W G w A s.heap σ H locs → f_X11_tried_b25 x1 x2 x3 y0 σ = some (r, σ') → W p l e rmX11_tried s m [.ref (ad 0), .int p1, .int p2, .int p3].toArray below meth c H locs 0 0 (MQ below (k_Qi G w A r σ') [.ref (ad 0), .int p1, .int p2, .int p3].toArray s 0 0 A) (F0 m 25 ls [.int y0]) := by
    intro x1 x2 x3 y0 σ H locs ls hl hw hf
    unfold f_X11_tried_b25 at hf
    refine lv_istore (lv' := [(4, .int y0), (0, .ref (ad 0)), (1, .int x1), (2, .int x2), (3, .int x3)]) hx hb dX11_tried_25 hl (by decide) rfl (fun ls hl => ?_)
    refine lv_iload_n hx hb dX11_tried_27 rfl (lv_at hl 2 rfl) ?_
    refine lv_if_lt (tgt := 51) hx hb dX11_tried_28 (by decide) (fun h => ?_) (fun h => ?_)
    · have hf := k_ifT h hf
      exact b51 σ _ _ _ (lv_sub hl [] rfl) hw hf
    · have hf := k_ifF h hf
      refine lv_iload_n hx hb dX11_tried_31 rfl (lv_at hl 2 rfl) ?_
      refine lv_iconst (v := (5 : Int32)) hx hb dX11_tried_32 (by decide) ?_
      refine lv_icmp_gt (tgt := 51) hx hb dX11_tried_33 (by decide) (fun h => ?_) (fun h => ?_)
      · have hf := k_ifT h hf
        exact b51 σ _ _ _ (lv_sub hl [] rfl) hw hf
      · have hf := k_ifF h hf
        refine lv_iload hx hb dX11_tried_36 (lv_at hl 0 rfl) ?_
        refine lv_if_eq (tgt := 51) hx hb dX11_tried_38 (by decide) (fun h => ?_) (fun h => ?_)
        · have hf := k_ifT h hf
          exact b51 σ _ _ _ (lv_sub hl [] rfl) hw hf
        · have hf := k_ifF h hf
          refine lv_iload_n hx hb dX11_tried_41 rfl (lv_at hl 4 rfl) ?_
          refine lv_if_lt (tgt := 51) hx hb dX11_tried_42 (by decide) (fun h => ?_) (fun h => ?_)
          · have hf := k_ifT h hf
            exact b51 σ _ _ _ (lv_sub hl [] rfl) hw hf
          · have hf := k_ifF h hf
            refine lv_iload_n hx hb dX11_tried_45 rfl (lv_at hl 4 rfl) ?_
            refine lv_bipush (v := (60 : Int32)) hx hb dX11_tried_46 (by decide) ?_
            refine lv_icmp_le (tgt := 53) hx hb dX11_tried_48 (by decide) (fun h => ?_) (fun h => ?_)
            · have hf := k_ifT h hf
              refine lv_aload_n hx hb dX11_tried_53 rfl (lv_at hl 1 rfl) ?_
              refine k_get C hw (LC_0 LC) (ci := 11) rfl k_in11 8 (by decide) lk11_66 (v := .ref (ad 71)) rfl dX11_tried_54 ?_
              obtain ⟨σ1, hq, hf⟩ := k_bvE hf
              refine k_callVv C hw (c_X1_asItGoes l G Y w ad LC σ σ1 hq) (cwV 0 hts gX11_tried_X1_asItGoes rfl rfl rfl (by decide +kernel) ⟨Nat.le_of_ble_eq_true rfl, Nat.le_of_ble_eq_true rfl⟩) (k_recv C hw (LC_71 LC) rfl) rfl hl.1 rfl (Nat.le_of_ble_eq_true rfl) dX11_tried_57 (fun H locs hw => ?_)
              refine lv_aload_n hx hb dX11_tried_60 rfl (lv_at hl 1 rfl) ?_
              refine k_get C hw (LC_0 LC) (ci := 11) rfl k_in11 8 (by decide) lk11_66 (v := .ref (ad 71)) rfl dX11_tried_61 ?_
              refine lv_iload_n hx hb dX11_tried_64 rfl (lv_at hl 2 rfl) ?_
              refine lv_iload_n hx hb dX11_tried_65 rfl (lv_at hl 3 rfl) ?_
              obtain ⟨σ2, hq, hf⟩ := k_bvE hf
              refine k_callVv C hw (c_X1_otherwise l G Y w ad LC x1 x2 σ1 σ2 hq) (cwV 2 hts gX11_tried_X1_otherwise rfl rfl rfl (by decide +kernel) ⟨Nat.le_of_ble_eq_true rfl, Nat.le_of_ble_eq_true rfl⟩) (k_recv C hw (LC_71 LC) rfl) rfl hl.1 rfl (Nat.le_of_ble_eq_true rfl) dX11_tried_66 (fun H locs hw => ?_)
              refine lv_aload_n hx hb dX11_tried_69 rfl (lv_at hl 1 rfl) ?_
              refine k_get C hw (LC_0 LC) (ci := 11) rfl k_in11 8 (by decide) lk11_66 (v := .ref (ad 71)) rfl dX11_tried_70 ?_
              refine lv_iload_n hx hb dX11_tried_73 rfl (lv_at hl 4 rfl) ?_
              obtain ⟨q4, σ3, hq, hf⟩ := k_bdE hf
              refine k_callVi C hw (c_X1_adriftOf l G Y w ad LC x3 σ2 q4 σ3 hq) (cwV 1 hts gX11_tried_X1_adriftOf rfl rfl rfl (by decide +kernel) ⟨Nat.le_of_ble_eq_true rfl, Nat.le_of_ble_eq_true rfl⟩) (k_recv C hw (LC_71 LC) rfl) rfl hl.1 rfl (Nat.le_of_ble_eq_true rfl) dX11_tried_74 (fun H locs hw => ?_)
              exact k_iret C hw hf dX11_tried_77
            · have hf := k_ifF h hf
              exact b51 σ _ _ _ (lv_sub hl [] rfl) hw hf
  unfold f_X11_tried at hf
  refine lv_iload_n hx hb dX11_tried_0 rfl (lv_at hl 1 rfl) ?_
  refine lv_iconst (v := (2 : Int32)) hx hb dX11_tried_1 (by decide) ?_
  refine lv_icmp_ne (tgt := 16) hx hb dX11_tried_2 (by decide) (fun h => ?_) (fun h => ?_)
  · have hf := k_ifF h hf
    refine lv_iload_n hx hb dX11_tried_16 rfl (lv_at hl 2 rfl) ?_
    refine lv_if_ne (tgt := 24) hx hb dX11_tried_17 (by decide) (fun h => ?_) (fun h => ?_)
    · have hf := k_ifF h hf
      refine lv_iconst (v := (0 : Int32)) hx hb dX11_tried_24 (by decide) ?_
      exact b25 p1 p2 p3 (0 : Int32) σ _ _ _ (lv_sub hl [0, 1, 2, 3] rfl) hw hf
    · have hf := k_ifT h hf
      refine lv_iconst (v := (1 : Int32)) hx hb dX11_tried_20 (by decide) ?_
      refine lv_goto (tgt := 25) hx hb dX11_tried_21 (by decide) ?_
      exact b25 p1 p2 p3 (1 : Int32) σ _ _ _ (lv_sub hl [0, 1, 2, 3] rfl) hw hf
  · have hf := k_ifT h hf
    refine lv_aload_n hx hb dX11_tried_5 rfl (lv_at hl 0 rfl) ?_
    refine k_get C hw (LC_0 LC) (ci := 11) rfl k_in11 2 (by decide) lk11_28 (v := .ref (ad 10)) rfl dX11_tried_6 ?_
    refine lv_iload_n hx hb dX11_tried_9 rfl (lv_at hl 2 rfl) ?_
    obtain ⟨q6, σ5, hq, hf⟩ := k_bdE hf
    refine k_callVi C hw (c_X0_hasDeed l G Y w ad 10 (LCL_10 LC) p2 σ q6 σ5 hq) (cwV 1 hts gX11_tried_X0_hasDeed rfl rfl rfl (by decide +kernel) ⟨Nat.le_of_ble_eq_true rfl, Nat.le_of_ble_eq_true rfl⟩) (k_recv C hw (LC_10 LC) rfl) rfl hl.1 rfl (Nat.le_of_ble_eq_true rfl) dX11_tried_10 (fun H locs hw => ?_)
    refine lv_goto (tgt := 25) hx hb dX11_tried_13 (by decide) ?_
    exact b25 p1 p2 p3 q6 σ5 _ _ _ (lv_sub hl [0, 1, 2, 3] rfl) hw hf
def f_X11_undo   (σ : MSt) : Option (Int32 × MSt) :=
  k_bd (f_X2_takeBack σ) fun q2 σ1 =>
  some (q2, σ1)
def rmX11_undo : Room := { frames := 2, cells := 0, slots := 0, locals := 42 }
set_option maxHeartbeats 4000000 in
set_option maxRecDepth 100000 in
theorem c_X11_undo (l : Launch) (G : va_G) (Y : CY) (w : MSt → va_W) (ad : Nat → Nat)  (LC : LayC ad w Y)  (σ : MSt) (r : Int32) (σ' : MSt) (hf : f_X11_undo σ = some (r, σ')) : k_Mi l yX11_undo wsX11_undo rmX11_undo G Y w [.ref (ad 0)] σ r σ' := by
  refine k_ofi (own := RX11) (cc := cX11_undo) (maxL := 1) (some .int) (by decide) rfl rfl (Nat.le_of_ble_eq_true rfl) ?_
  intro p e s m below meth c A C ls hl hw
  have hx := C.1
  have hb := C.2.1
  have hown := C.2.2.2.2.1
  have hts := C.2.2.2.2.2.1
  have hks := C.2.2.2.2.2.2.1
  have hl : lv_has ls 1 [(0, .ref (ad 0))] := hl
  unfold f_X11_undo at hf
  refine lv_aload_n hx hb dX11_undo_0 rfl (lv_at hl 0 rfl) ?_
  refine k_get C hw (LC_0 LC) (ci := 11) rfl k_in11 6 (by decide) lk11_50 (v := .ref (ad 62)) rfl dX11_undo_1 ?_
  obtain ⟨q2, σ1, hq, hf⟩ := k_bdE hf
  refine k_callVi C hw (c_X2_takeBack l G Y w ad LC σ q2 σ1 hq) (cwV 0 hts gX11_undo_X2_takeBack rfl rfl rfl (by decide +kernel) ⟨Nat.le_of_ble_eq_true rfl, Nat.le_of_ble_eq_true rfl⟩) (k_recv C hw (LC_62 LC) rfl) rfl hl.1 rfl (Nat.le_of_ble_eq_true rfl) dX11_undo_4 (fun H locs hw => ?_)
  exact k_iret C hw hf dX11_undo_7
def f_X11_keep   (σ : MSt) : Option (Int32 × MSt) :=
  k_bv (f_X5_take 54 50 σ) fun σ1 =>
  k_nm (mI σ1 0 11 (1 : Int32)) fun σ2 =>
  some ((σ2.1 50 3), σ2)
def rmX11_keep : Room := { frames := 1, cells := 0, slots := 0, locals := 22 }
set_option maxHeartbeats 4000000 in
set_option maxRecDepth 100000 in
theorem c_X11_keep (l : Launch) (G : va_G) (Y : CY) (w : MSt → va_W) (ad : Nat → Nat)  (LC : LayC ad w Y)  (σ : MSt) (r : Int32) (σ' : MSt) (hf : f_X11_keep σ = some (r, σ')) : k_Mi l yX11_keep wsX11_keep rmX11_keep G Y w [.ref (ad 0)] σ r σ' := by
  refine k_ofi (own := RX11) (cc := cX11_keep) (maxL := 1) (some .int) (by decide) rfl rfl (Nat.le_of_ble_eq_true rfl) ?_
  intro p e s m below meth c A C ls hl hw
  have hx := C.1
  have hb := C.2.1
  have hown := C.2.2.2.2.1
  have hts := C.2.2.2.2.2.1
  have hks := C.2.2.2.2.2.2.1
  have hl : lv_has ls 1 [(0, .ref (ad 0))] := hl
  unfold f_X11_keep at hf
  refine lv_aload_n hx hb dX11_keep_0 rfl (lv_at hl 0 rfl) ?_
  refine k_get C hw (LC_0 LC) (ci := 11) rfl k_in11 5 (by decide) lk11_42 (v := .ref (ad 54)) rfl dX11_keep_1 ?_
  refine lv_aload_n hx hb dX11_keep_4 rfl (lv_at hl 0 rfl) ?_
  refine k_get C hw (LC_0 LC) (ci := 11) rfl k_in11 4 (by decide) lk11_38 (v := .ref (ad 50)) rfl dX11_keep_5 ?_
  obtain ⟨σ1, hq, hf⟩ := k_bvE hf
  refine k_callVv C hw (c_X5_take l G Y w ad 54 50 (LCL_54 LC) (LCL_50 LC) σ σ1 hq) (cwV 1 hts gX11_keep_X5_take rfl rfl rfl (by decide +kernel) ⟨Nat.le_of_ble_eq_true rfl, Nat.le_of_ble_eq_true rfl⟩) (k_recv C hw (LC_54 LC) rfl) rfl hl.1 rfl (Nat.le_of_ble_eq_true rfl) dX11_keep_8 (fun H locs hw => ?_)
  refine lv_aload_n hx hb dX11_keep_11 rfl (lv_at hl 0 rfl) ?_
  refine lv_iconst (v := (1 : Int32)) hx hb dX11_keep_12 (by decide) ?_
  refine k_put C hw (LC_0 LC) (ci := 11) rfl k_in11 tyX11 tyX11_ok nmX11 11 (by decide) lk11_92 rfl ⟨rfl, rfl⟩ rfl dX11_keep_13 (fun σ2 eq H locs hw => ?_)
  have hf := k_nmE eq hf
  refine lv_aload_n hx hb dX11_keep_16 rfl (lv_at hl 0 rfl) ?_
  refine k_get C hw (LC_0 LC) (ci := 11) rfl k_in11 4 (by decide) lk11_38 (v := .ref (ad 50)) rfl dX11_keep_17 ?_
  refine k_getN C hw (LC_50 LC) (ci := 5) rfl k_in5 3 (by decide) ln11_204 (v := .int (σ2.1 50 3)) rfl dX11_keep_20 ?_
  exact k_iret C hw hf dX11_keep_23
def f_X11_back   (σ : MSt) : Option (Int32 × MSt) :=
  if (σ.1 0 11) = 0 then
  (some ((-1 : Int32), σ))
  else
  (k_bv (f_X5_take 50 54 σ) fun σ1 =>
  k_bv (f_X2_clear σ1) fun σ2 =>
  some ((σ2.1 50 3), σ2))
def rmX11_back : Room := { frames := 1, cells := 0, slots := 0, locals := 22 }
set_option maxHeartbeats 4000000 in
set_option maxRecDepth 100000 in
theorem c_X11_back (l : Launch) (G : va_G) (Y : CY) (w : MSt → va_W) (ad : Nat → Nat)  (LC : LayC ad w Y)  (σ : MSt) (r : Int32) (σ' : MSt) (hf : f_X11_back σ = some (r, σ')) : k_Mi l yX11_back wsX11_back rmX11_back G Y w [.ref (ad 0)] σ r σ' := by
  refine k_ofi (own := RX11) (cc := cX11_back) (maxL := 1) (some .int) (by decide) rfl rfl (Nat.le_of_ble_eq_true rfl) ?_
  intro p e s m below meth c A C ls hl hw
  have hx := C.1
  have hb := C.2.1
  have hown := C.2.2.2.2.1
  have hts := C.2.2.2.2.2.1
  have hks := C.2.2.2.2.2.2.1
  have hl : lv_has ls 1 [(0, .ref (ad 0))] := hl
  unfold f_X11_back at hf
  refine lv_aload_n hx hb dX11_back_0 rfl (lv_at hl 0 rfl) ?_
  refine k_get C hw (LC_0 LC) (ci := 11) rfl k_in11 11 (by decide) lk11_92 (v := .int (σ.1 0 11)) rfl dX11_back_1 ?_
  refine lv_if_ne (tgt := 9) hx hb dX11_back_4 (by decide) (fun h => ?_) (fun h => ?_)
  · have hf := k_ifF h hf
    refine lv_aload_n hx hb dX11_back_9 rfl (lv_at hl 0 rfl) ?_
    refine k_get C hw (LC_0 LC) (ci := 11) rfl k_in11 4 (by decide) lk11_38 (v := .ref (ad 50)) rfl dX11_back_10 ?_
    refine lv_aload_n hx hb dX11_back_13 rfl (lv_at hl 0 rfl) ?_
    refine k_get C hw (LC_0 LC) (ci := 11) rfl k_in11 5 (by decide) lk11_42 (v := .ref (ad 54)) rfl dX11_back_14 ?_
    obtain ⟨σ1, hq, hf⟩ := k_bvE hf
    refine k_callVv C hw (c_X5_take l G Y w ad 50 54 (LCL_50 LC) (LCL_54 LC) σ σ1 hq) (cwV 1 hts gX11_back_X5_take rfl rfl rfl (by decide +kernel) ⟨Nat.le_of_ble_eq_true rfl, Nat.le_of_ble_eq_true rfl⟩) (k_recv C hw (LC_50 LC) rfl) rfl hl.1 rfl (Nat.le_of_ble_eq_true rfl) dX11_back_17 (fun H locs hw => ?_)
    refine lv_aload_n hx hb dX11_back_20 rfl (lv_at hl 0 rfl) ?_
    refine k_get C hw (LC_0 LC) (ci := 11) rfl k_in11 6 (by decide) lk11_50 (v := .ref (ad 62)) rfl dX11_back_21 ?_
    obtain ⟨σ2, hq, hf⟩ := k_bvE hf
    refine k_callVv C hw (c_X2_clear l G Y w ad LC σ1 σ2 hq) (cwV 0 hts gX11_back_X2_clear rfl rfl rfl (by decide +kernel) ⟨Nat.le_of_ble_eq_true rfl, Nat.le_of_ble_eq_true rfl⟩) (k_recv C hw (LC_62 LC) rfl) rfl hl.1 rfl (Nat.le_of_ble_eq_true rfl) dX11_back_24 (fun H locs hw => ?_)
    refine lv_aload_n hx hb dX11_back_27 rfl (lv_at hl 0 rfl) ?_
    refine k_get C hw (LC_0 LC) (ci := 11) rfl k_in11 4 (by decide) lk11_38 (v := .ref (ad 50)) rfl dX11_back_28 ?_
    refine k_getN C hw (LC_50 LC) (ci := 5) rfl k_in5 3 (by decide) ln11_204 (v := .int (σ2.1 50 3)) rfl dX11_back_31 ?_
    exact k_iret C hw hf dX11_back_34
  · have hf := k_ifT h hf
    refine lv_iconst (v := (-1 : Int32)) hx hb dX11_back_7 (by decide) ?_
    exact k_iret C hw hf dX11_back_8
def f_X11_countOfLog_b135  (y0 : Int32) (σ : MSt) : Option (Int32 × MSt) :=
  some (y0, σ)
def f_X11_countOfLog_b79  (y0 : Int32) (σ : MSt) : Option (Int32 × MSt) :=
  some (y0, σ)
def f_X11_countOfLog  (p1 : Int32) (σ : MSt) : Option (Int32 × MSt) :=
  if p1 = (5 : Int32) then
  (some ((σ.1 50 3), σ))
  else if p1 = (6 : Int32) then
  (if (σ.1 50 5) = (-1 : Int32) then
  (f_X11_countOfLog_b79 (σ.1 50 4) σ)
  else
  (f_X11_countOfLog_b79 (-2 : Int32) σ))
  else if p1 = (7 : Int32) then
  (some ((σ.1 50 5), σ))
  else if p1 = (8 : Int32) then
  (some ((σ.1 50 6), σ))
  else if p1 = (9 : Int32) then
  (some ((σ.1 50 9), σ))
  else if p1 = (10 : Int32) then
  (some ((σ.1 50 10), σ))
  else if p1 = (11 : Int32) then
  (some ((σ.1 50 11), σ))
  else if p1 = (12 : Int32) then
  (if (σ.1 50 7) = 0 then
  (f_X11_countOfLog_b135 (0 : Int32) σ)
  else
  (f_X11_countOfLog_b135 (1 : Int32) σ))
  else 
  (some ((-1 : Int32), σ))
def rmX11_countOfLog : Room := { frames := 0, cells := 0, slots := 0, locals := 0 }
set_option maxHeartbeats 4000000 in
set_option maxRecDepth 100000 in
theorem c_X11_countOfLog (l : Launch) (G : va_G) (Y : CY) (w : MSt → va_W) (ad : Nat → Nat)  (LC : LayC ad w Y) (p1 : Int32) (σ : MSt) (r : Int32) (σ' : MSt) (hf : f_X11_countOfLog p1 σ = some (r, σ')) : k_Mi l yX11_countOfLog wsX11_countOfLog rmX11_countOfLog G Y w [.ref (ad 0), .int p1] σ r σ' := by
  refine k_ofi (own := RX11) (cc := cX11_countOfLog) (maxL := 2) (some .int) (by decide) rfl rfl (Nat.le_of_ble_eq_true rfl) ?_
  intro p e s m below meth c A C ls hl hw
  have hx := C.1
  have hb := C.2.1
  have hown := C.2.2.2.2.1
  have hts := C.2.2.2.2.2.1
  have hks := C.2.2.2.2.2.2.1
  have hl : lv_has ls 2 [(0, .ref (ad 0)), (1, .int p1)] := hl
  have b135 : ∀ (y0 : Int32) (σ : MSt) (H : Heap) (locs : List Loc) (ls : Array Slot), lv_has ls 2 [] → k_W G w A s.heap σ H locs → f_X11_countOfLog_b135 y0 σ = some (r, σ') → W p l e rmX11_countOfLog s m [.ref (ad 0), .int p1].toArray below meth c H locs 0 0 (MQ below (k_Qi G w A r σ') [.ref (ad 0), .int p1].toArray s 0 0 A) (F0 m 135 ls [.int y0]) := by
    intro y0 σ H locs ls hl hw hf
    unfold f_X11_countOfLog_b135 at hf
    exact k_iret C hw hf dX11_countOfLog_135
  have b79 : ∀ (y0 : Int32) (σ : MSt) (H : Heap) (locs : List Loc) (ls : Array Slot), lv_has ls 2 [] → k_W G w A s.heap σ H locs → f_X11_countOfLog_b79 y0 σ = some (r, σ') → W p l e rmX11_countOfLog s m [.ref (ad 0), .int p1].toArray below meth c H locs 0 0 (MQ below (k_Qi G w A r σ') [.ref (ad 0), .int p1].toArray s 0 0 A) (F0 m 79 ls [.int y0]) := by
    intro y0 σ H locs ls hl hw hf
    unfold f_X11_countOfLog_b79 at hf
    exact k_iret C hw hf dX11_countOfLog_79
  unfold f_X11_countOfLog at hf
  refine lv_iload_n hx hb dX11_countOfLog_0 rfl (lv_at hl 1 rfl) ?_
  by_cases h5 : p1 = (5 : Int32)
  · have hf := k_ifT h5 hf
    refine lv_tableIn (tgt := 48) hx hb dX11_countOfLog_1 (by rw [h5]; decide) (by rw [h5]; decide) (by rw [h5]; rfl) (by decide) ?_
    refine lv_aload_n hx hb dX11_countOfLog_48 rfl (lv_at hl 0 rfl) ?_
    refine k_get C hw (LC_0 LC) (ci := 11) rfl k_in11 4 (by decide) lk11_38 (v := .ref (ad 50)) rfl dX11_countOfLog_49 ?_
    refine k_getN C hw (LC_50 LC) (ci := 5) rfl k_in5 3 (by decide) ln11_204 (v := .int (σ.1 50 3)) rfl dX11_countOfLog_52 ?_
    exact k_iret C hw hf dX11_countOfLog_55
  have hf := k_ifF h5 hf
  by_cases h6 : p1 = (6 : Int32)
  · have hf := k_ifT h6 hf
    refine lv_tableIn (tgt := 56) hx hb dX11_countOfLog_1 (by rw [h6]; decide) (by rw [h6]; decide) (by rw [h6]; rfl) (by decide) ?_
    refine lv_aload_n hx hb dX11_countOfLog_56 rfl (lv_at hl 0 rfl) ?_
    refine k_get C hw (LC_0 LC) (ci := 11) rfl k_in11 4 (by decide) lk11_38 (v := .ref (ad 50)) rfl dX11_countOfLog_57 ?_
    refine k_getN C hw (LC_50 LC) (ci := 5) rfl k_in5 5 (by decide) ln11_228 (v := .int (σ.1 50 5)) rfl dX11_countOfLog_60 ?_
    refine lv_iconst (v := (-1 : Int32)) hx hb dX11_countOfLog_63 (by decide) ?_
    refine lv_icmp_eq (tgt := 72) hx hb dX11_countOfLog_64 (by decide) (fun h => ?_) (fun h => ?_)
    · have hf := k_ifT h hf
      refine lv_aload_n hx hb dX11_countOfLog_72 rfl (lv_at hl 0 rfl) ?_
      refine k_get C hw (LC_0 LC) (ci := 11) rfl k_in11 4 (by decide) lk11_38 (v := .ref (ad 50)) rfl dX11_countOfLog_73 ?_
      refine k_getN C hw (LC_50 LC) (ci := 5) rfl k_in5 4 (by decide) ln11_155 (v := .int (σ.1 50 4)) rfl dX11_countOfLog_76 ?_
      exact b79 (σ.1 50 4) σ _ _ _ (lv_sub hl [] rfl) hw hf
    · have hf := k_ifF h hf
      refine lv_bipush (v := (-2 : Int32)) hx hb dX11_countOfLog_67 (by decide) ?_
      refine lv_goto (tgt := 79) hx hb dX11_countOfLog_69 (by decide) ?_
      exact b79 (-2 : Int32) σ _ _ _ (lv_sub hl [] rfl) hw hf
  have hf := k_ifF h6 hf
  by_cases h7 : p1 = (7 : Int32)
  · have hf := k_ifT h7 hf
    refine lv_tableIn (tgt := 80) hx hb dX11_countOfLog_1 (by rw [h7]; decide) (by rw [h7]; decide) (by rw [h7]; rfl) (by decide) ?_
    refine lv_aload_n hx hb dX11_countOfLog_80 rfl (lv_at hl 0 rfl) ?_
    refine k_get C hw (LC_0 LC) (ci := 11) rfl k_in11 4 (by decide) lk11_38 (v := .ref (ad 50)) rfl dX11_countOfLog_81 ?_
    refine k_getN C hw (LC_50 LC) (ci := 5) rfl k_in5 5 (by decide) ln11_228 (v := .int (σ.1 50 5)) rfl dX11_countOfLog_84 ?_
    exact k_iret C hw hf dX11_countOfLog_87
  have hf := k_ifF h7 hf
  by_cases h8 : p1 = (8 : Int32)
  · have hf := k_ifT h8 hf
    refine lv_tableIn (tgt := 88) hx hb dX11_countOfLog_1 (by rw [h8]; decide) (by rw [h8]; decide) (by rw [h8]; rfl) (by decide) ?_
    refine lv_aload_n hx hb dX11_countOfLog_88 rfl (lv_at hl 0 rfl) ?_
    refine k_get C hw (LC_0 LC) (ci := 11) rfl k_in11 4 (by decide) lk11_38 (v := .ref (ad 50)) rfl dX11_countOfLog_89 ?_
    refine k_getN C hw (LC_50 LC) (ci := 5) rfl k_in5 6 (by decide) ln11_238 (v := .int (σ.1 50 6)) rfl dX11_countOfLog_92 ?_
    exact k_iret C hw hf dX11_countOfLog_95
  have hf := k_ifF h8 hf
  by_cases h9 : p1 = (9 : Int32)
  · have hf := k_ifT h9 hf
    refine lv_tableIn (tgt := 96) hx hb dX11_countOfLog_1 (by rw [h9]; decide) (by rw [h9]; decide) (by rw [h9]; rfl) (by decide) ?_
    refine lv_aload_n hx hb dX11_countOfLog_96 rfl (lv_at hl 0 rfl) ?_
    refine k_get C hw (LC_0 LC) (ci := 11) rfl k_in11 4 (by decide) lk11_38 (v := .ref (ad 50)) rfl dX11_countOfLog_97 ?_
    refine k_getN C hw (LC_50 LC) (ci := 5) rfl k_in5 9 (by decide) ln11_366 (v := .int (σ.1 50 9)) rfl dX11_countOfLog_100 ?_
    exact k_iret C hw hf dX11_countOfLog_103
  have hf := k_ifF h9 hf
  by_cases h10 : p1 = (10 : Int32)
  · have hf := k_ifT h10 hf
    refine lv_tableIn (tgt := 104) hx hb dX11_countOfLog_1 (by rw [h10]; decide) (by rw [h10]; decide) (by rw [h10]; rfl) (by decide) ?_
    refine lv_aload_n hx hb dX11_countOfLog_104 rfl (lv_at hl 0 rfl) ?_
    refine k_get C hw (LC_0 LC) (ci := 11) rfl k_in11 4 (by decide) lk11_38 (v := .ref (ad 50)) rfl dX11_countOfLog_105 ?_
    refine k_getN C hw (LC_50 LC) (ci := 5) rfl k_in5 10 (by decide) ln11_369 (v := .int (σ.1 50 10)) rfl dX11_countOfLog_108 ?_
    exact k_iret C hw hf dX11_countOfLog_111
  have hf := k_ifF h10 hf
  by_cases h11 : p1 = (11 : Int32)
  · have hf := k_ifT h11 hf
    refine lv_tableIn (tgt := 112) hx hb dX11_countOfLog_1 (by rw [h11]; decide) (by rw [h11]; decide) (by rw [h11]; rfl) (by decide) ?_
    refine lv_aload_n hx hb dX11_countOfLog_112 rfl (lv_at hl 0 rfl) ?_
    refine k_get C hw (LC_0 LC) (ci := 11) rfl k_in11 4 (by decide) lk11_38 (v := .ref (ad 50)) rfl dX11_countOfLog_113 ?_
    refine k_getN C hw (LC_50 LC) (ci := 5) rfl k_in5 11 (by decide) ln11_372 (v := .int (σ.1 50 11)) rfl dX11_countOfLog_116 ?_
    exact k_iret C hw hf dX11_countOfLog_119
  have hf := k_ifF h11 hf
  by_cases h12 : p1 = (12 : Int32)
  · have hf := k_ifT h12 hf
    refine lv_tableIn (tgt := 120) hx hb dX11_countOfLog_1 (by rw [h12]; decide) (by rw [h12]; decide) (by rw [h12]; rfl) (by decide) ?_
    refine lv_aload_n hx hb dX11_countOfLog_120 rfl (lv_at hl 0 rfl) ?_
    refine k_get C hw (LC_0 LC) (ci := 11) rfl k_in11 4 (by decide) lk11_38 (v := .ref (ad 50)) rfl dX11_countOfLog_121 ?_
    refine k_getN C hw (LC_50 LC) (ci := 5) rfl k_in5 7 (by decide) ln11_247 (v := .int (σ.1 50 7)) rfl dX11_countOfLog_124 ?_
    refine lv_if_eq (tgt := 134) hx hb dX11_countOfLog_127 (by decide) (fun h => ?_) (fun h => ?_)
    · have hf := k_ifT h hf
      refine lv_iconst (v := (0 : Int32)) hx hb dX11_countOfLog_134 (by decide) ?_
      exact b135 (0 : Int32) σ _ _ _ (lv_sub hl [] rfl) hw hf
    · have hf := k_ifF h hf
      refine lv_iconst (v := (1 : Int32)) hx hb dX11_countOfLog_130 (by decide) ?_
      refine lv_goto (tgt := 135) hx hb dX11_countOfLog_131 (by decide) ?_
      exact b135 (1 : Int32) σ _ _ _ (lv_sub hl [] rfl) hw hf
  have hf := k_ifF h12 hf
  refine lv_tableOut (tgt := 136) hx hb dX11_countOfLog_1 (k_tout (fun k q1 q2 q3 => ?_)) (by decide) ?_
  · have q4 : p1 = Int32.ofInt k := by rw [← q3, Int32.ofInt_toInt]
    have q5 : k = 5 ∨ k = 6 ∨ k = 7 ∨ k = 8 ∨ k = 9 ∨ k = 10 ∨ k = 11 ∨ k = 12 := by omega
    rcases q5 with rfl | rfl | rfl | rfl | rfl | rfl | rfl | rfl
    · exact h5 q4
    · exact h6 q4
    · exact h7 q4
    · exact h8 q4
    · exact h9 q4
    · exact h10 q4
    · exact h11 q4
    · exact h12 q4
  refine lv_iconst (v := (-1 : Int32)) hx hb dX11_countOfLog_136 (by decide) ?_
  exact k_iret C hw hf dX11_countOfLog_137
def f_X11_count_b147  (x1 : Int32) (σ : MSt) : Option (Int32 × MSt) :=
  k_bd (f_X11_countOfLog x1 σ) fun q2 σ1 =>
  some (q2, σ1)
def f_X11_count  (p1 : Int32) (σ : MSt) : Option (Int32 × MSt) :=
  if p1 = (0 : Int32) then
  (some ((σ.1 10 7), σ))
  else if p1 = (1 : Int32) then
  (some ((σ.1 10 8), σ))
  else if p1 = (2 : Int32) then
  (some ((σ.1 10 9), σ))
  else if p1 = (3 : Int32) then
  (some ((σ.1 10 10), σ))
  else if p1 = (4 : Int32) then
  (some ((σ.1 17 5), σ))
  else if p1 = (5 : Int32) then
  (f_X11_count_b147 p1 σ)
  else if p1 = (6 : Int32) then
  (f_X11_count_b147 p1 σ)
  else if p1 = (7 : Int32) then
  (f_X11_count_b147 p1 σ)
  else if p1 = (8 : Int32) then
  (f_X11_count_b147 p1 σ)
  else if p1 = (9 : Int32) then
  (f_X11_count_b147 p1 σ)
  else if p1 = (10 : Int32) then
  (f_X11_count_b147 p1 σ)
  else if p1 = (11 : Int32) then
  (f_X11_count_b147 p1 σ)
  else if p1 = (12 : Int32) then
  (f_X11_count_b147 p1 σ)
  else if p1 = (13 : Int32) then
  (some ((σ.1 78 7), σ))
  else if p1 = (14 : Int32) then
  (k_bd (f_X6_knownBy σ) fun q4 σ3 =>
  some (q4, σ3))
  else if p1 = (15 : Int32) then
  (some ((σ.1 62 5), σ))
  else 
  (f_X11_count_b147 p1 σ)
def rmX11_count : Room := { frames := 2, cells := 0, slots := 0, locals := 43 }
set_option maxHeartbeats 4000000 in
set_option maxRecDepth 100000 in
theorem c_X11_count (l : Launch) (G : va_G) (Y : CY) (w : MSt → va_W) (ad : Nat → Nat)  (LC : LayC ad w Y) (p1 : Int32) (σ : MSt) (r : Int32) (σ' : MSt) (hf : f_X11_count p1 σ = some (r, σ')) : k_Mi l yX11_count wsX11_count rmX11_count G Y w [.ref (ad 0), .int p1] σ r σ' := by
  refine k_ofi (own := RX11) (cc := cX11_count) (maxL := 2) (some .int) (by decide) rfl rfl (Nat.le_of_ble_eq_true rfl) ?_
  intro p e s m below meth c A C ls hl hw
  have hx := C.1
  have hb := C.2.1
  have hown := C.2.2.2.2.1
  have hts := C.2.2.2.2.2.1
  have hks := C.2.2.2.2.2.2.1
  have hl : lv_has ls 2 [(0, .ref (ad 0)), (1, .int p1)] := hl
  have b147 : ∀ (x1 : Int32) (σ : MSt) (H : Heap) (locs : List Loc) (ls : Array Slot), lv_has ls 2 [(0, .ref (ad 0)), (1, .int x1)] → k_W G w A s.heap σ H locs → f_X11_count_b147 x1 σ = some (r, σ') → W p l e rmX11_count s m [.ref (ad 0), .int p1].toArray below meth c H locs 0 0 (MQ below (k_Qi G w A r σ') [.ref (ad 0), .int p1].toArray s 0 0 A) (F0 m 147 ls []) := by
    intro x1 σ H locs ls hl hw hf
    unfold f_X11_count_b147 at hf
    refine lv_aload_n hx hb dX11_count_147 rfl (lv_at hl 0 rfl) ?_
    refine lv_iload_n hx hb dX11_count_148 rfl (lv_at hl 1 rfl) ?_
    obtain ⟨q2, σ1, hq, hf⟩ := k_bdE hf
    refine k_callVi C hw (c_X11_countOfLog l G Y w ad LC x1 σ q2 σ1 hq) (cwV 1 hts gX11_count_X11_countOfLog rfl rfl rfl (by decide +kernel) ⟨Nat.le_of_ble_eq_true rfl, Nat.le_of_ble_eq_true rfl⟩) (k_recv C hw (LC_0 LC) rfl) rfl hl.1 rfl (Nat.le_of_ble_eq_true rfl) dX11_count_149 (fun H locs hw => ?_)
    exact k_iret C hw hf dX11_count_152
  unfold f_X11_count at hf
  refine lv_iload_n hx hb dX11_count_0 rfl (lv_at hl 1 rfl) ?_
  by_cases h0 : p1 = (0 : Int32)
  · have hf := k_ifT h0 hf
    refine lv_tableIn (tgt := 80) hx hb dX11_count_1 (by rw [h0]; decide) (by rw [h0]; decide) (by rw [h0]; rfl) (by decide) ?_
    refine lv_aload_n hx hb dX11_count_80 rfl (lv_at hl 0 rfl) ?_
    refine k_get C hw (LC_0 LC) (ci := 11) rfl k_in11 2 (by decide) lk11_28 (v := .ref (ad 10)) rfl dX11_count_81 ?_
    refine k_getN C hw (LC_10 LC) (ci := 0) rfl k_in0 7 (by decide) ln11_274 (v := .int (σ.1 10 7)) rfl dX11_count_84 ?_
    exact k_iret C hw hf dX11_count_87
  have hf := k_ifF h0 hf
  by_cases h1 : p1 = (1 : Int32)
  · have hf := k_ifT h1 hf
    refine lv_tableIn (tgt := 88) hx hb dX11_count_1 (by rw [h1]; decide) (by rw [h1]; decide) (by rw [h1]; rfl) (by decide) ?_
    refine lv_aload_n hx hb dX11_count_88 rfl (lv_at hl 0 rfl) ?_
    refine k_get C hw (LC_0 LC) (ci := 11) rfl k_in11 2 (by decide) lk11_28 (v := .ref (ad 10)) rfl dX11_count_89 ?_
    refine k_getN C hw (LC_10 LC) (ci := 0) rfl k_in0 8 (by decide) ln11_350 (v := .int (σ.1 10 8)) rfl dX11_count_92 ?_
    exact k_iret C hw hf dX11_count_95
  have hf := k_ifF h1 hf
  by_cases h2 : p1 = (2 : Int32)
  · have hf := k_ifT h2 hf
    refine lv_tableIn (tgt := 96) hx hb dX11_count_1 (by rw [h2]; decide) (by rw [h2]; decide) (by rw [h2]; rfl) (by decide) ?_
    refine lv_aload_n hx hb dX11_count_96 rfl (lv_at hl 0 rfl) ?_
    refine k_get C hw (LC_0 LC) (ci := 11) rfl k_in11 2 (by decide) lk11_28 (v := .ref (ad 10)) rfl dX11_count_97 ?_
    refine k_getN C hw (LC_10 LC) (ci := 0) rfl k_in0 9 (by decide) ln11_352 (v := .int (σ.1 10 9)) rfl dX11_count_100 ?_
    exact k_iret C hw hf dX11_count_103
  have hf := k_ifF h2 hf
  by_cases h3 : p1 = (3 : Int32)
  · have hf := k_ifT h3 hf
    refine lv_tableIn (tgt := 104) hx hb dX11_count_1 (by rw [h3]; decide) (by rw [h3]; decide) (by rw [h3]; rfl) (by decide) ?_
    refine lv_aload_n hx hb dX11_count_104 rfl (lv_at hl 0 rfl) ?_
    refine k_get C hw (LC_0 LC) (ci := 11) rfl k_in11 2 (by decide) lk11_28 (v := .ref (ad 10)) rfl dX11_count_105 ?_
    refine k_getN C hw (LC_10 LC) (ci := 0) rfl k_in0 10 (by decide) ln11_355 (v := .int (σ.1 10 10)) rfl dX11_count_108 ?_
    exact k_iret C hw hf dX11_count_111
  have hf := k_ifF h3 hf
  by_cases h4 : p1 = (4 : Int32)
  · have hf := k_ifT h4 hf
    refine lv_tableIn (tgt := 112) hx hb dX11_count_1 (by rw [h4]; decide) (by rw [h4]; decide) (by rw [h4]; rfl) (by decide) ?_
    refine lv_aload_n hx hb dX11_count_112 rfl (lv_at hl 0 rfl) ?_
    refine k_get C hw (LC_0 LC) (ci := 11) rfl k_in11 2 (by decide) lk11_28 (v := .ref (ad 10)) rfl dX11_count_113 ?_
    refine k_getN C hw (LC_10 LC) (ci := 0) rfl k_in0 6 (by decide) ln11_214 (v := .ref (ad 17)) rfl dX11_count_116 ?_
    refine k_getN C hw (LC_17 LC) (ci := 4) rfl k_in4 5 (by decide) ln11_358 (v := .int (σ.1 17 5)) rfl dX11_count_119 ?_
    exact k_iret C hw hf dX11_count_122
  have hf := k_ifF h4 hf
  by_cases h5 : p1 = (5 : Int32)
  · have hf := k_ifT h5 hf
    refine lv_tableIn (tgt := 147) hx hb dX11_count_1 (by rw [h5]; decide) (by rw [h5]; decide) (by rw [h5]; rfl) (by decide) ?_
    exact b147 p1 σ _ _ _ (lv_sub hl [0, 1] rfl) hw hf
  have hf := k_ifF h5 hf
  by_cases h6 : p1 = (6 : Int32)
  · have hf := k_ifT h6 hf
    refine lv_tableIn (tgt := 147) hx hb dX11_count_1 (by rw [h6]; decide) (by rw [h6]; decide) (by rw [h6]; rfl) (by decide) ?_
    exact b147 p1 σ _ _ _ (lv_sub hl [0, 1] rfl) hw hf
  have hf := k_ifF h6 hf
  by_cases h7 : p1 = (7 : Int32)
  · have hf := k_ifT h7 hf
    refine lv_tableIn (tgt := 147) hx hb dX11_count_1 (by rw [h7]; decide) (by rw [h7]; decide) (by rw [h7]; rfl) (by decide) ?_
    exact b147 p1 σ _ _ _ (lv_sub hl [0, 1] rfl) hw hf
  have hf := k_ifF h7 hf
  by_cases h8 : p1 = (8 : Int32)
  · have hf := k_ifT h8 hf
    refine lv_tableIn (tgt := 147) hx hb dX11_count_1 (by rw [h8]; decide) (by rw [h8]; decide) (by rw [h8]; rfl) (by decide) ?_
    exact b147 p1 σ _ _ _ (lv_sub hl [0, 1] rfl) hw hf
  have hf := k_ifF h8 hf
  by_cases h9 : p1 = (9 : Int32)
  · have hf := k_ifT h9 hf
    refine lv_tableIn (tgt := 147) hx hb dX11_count_1 (by rw [h9]; decide) (by rw [h9]; decide) (by rw [h9]; rfl) (by decide) ?_
    exact b147 p1 σ _ _ _ (lv_sub hl [0, 1] rfl) hw hf
  have hf := k_ifF h9 hf
  by_cases h10 : p1 = (10 : Int32)
  · have hf := k_ifT h10 hf
    refine lv_tableIn (tgt := 147) hx hb dX11_count_1 (by rw [h10]; decide) (by rw [h10]; decide) (by rw [h10]; rfl) (by decide) ?_
    exact b147 p1 σ _ _ _ (lv_sub hl [0, 1] rfl) hw hf
  have hf := k_ifF h10 hf
  by_cases h11 : p1 = (11 : Int32)
  · have hf := k_ifT h11 hf
    refine lv_tableIn (tgt := 147) hx hb dX11_count_1 (by rw [h11]; decide) (by rw [h11]; decide) (by rw [h11]; rfl) (by decide) ?_
    exact b147 p1 σ _ _ _ (lv_sub hl [0, 1] rfl) hw hf
  have hf := k_ifF h11 hf
  by_cases h12 : p1 = (12 : Int32)
  · have hf := k_ifT h12 hf
    refine lv_tableIn (tgt := 147) hx hb dX11_count_1 (by rw [h12]; decide) (by rw [h12]; decide) (by rw [h12]; rfl) (by decide) ?_
    exact b147 p1 σ _ _ _ (lv_sub hl [0, 1] rfl) hw hf
  have hf := k_ifF h12 hf
  by_cases h13 : p1 = (13 : Int32)
  · have hf := k_ifT h13 hf
    refine lv_tableIn (tgt := 123) hx hb dX11_count_1 (by rw [h13]; decide) (by rw [h13]; decide) (by rw [h13]; rfl) (by decide) ?_
    refine lv_aload_n hx hb dX11_count_123 rfl (lv_at hl 0 rfl) ?_
    refine k_get C hw (LC_0 LC) (ci := 11) rfl k_in11 10 (by decide) lk11_84 (v := .ref (ad 78)) rfl dX11_count_124 ?_
    refine k_getN C hw (LC_78 LC) (ci := 6) rfl k_in6 7 (by decide) ln11_310 (v := .int (σ.1 78 7)) rfl dX11_count_127 ?_
    exact k_iret C hw hf dX11_count_130
  have hf := k_ifF h13 hf
  by_cases h14 : p1 = (14 : Int32)
  · have hf := k_ifT h14 hf
    refine lv_tableIn (tgt := 131) hx hb dX11_count_1 (by rw [h14]; decide) (by rw [h14]; decide) (by rw [h14]; rfl) (by decide) ?_
    refine lv_aload_n hx hb dX11_count_131 rfl (lv_at hl 0 rfl) ?_
    refine k_get C hw (LC_0 LC) (ci := 11) rfl k_in11 10 (by decide) lk11_84 (v := .ref (ad 78)) rfl dX11_count_132 ?_
    obtain ⟨q4, σ3, hq, hf⟩ := k_bdE hf
    refine k_callVi C hw (c_X6_knownBy l G Y w ad LC σ q4 σ3 hq) (cwV 0 hts gX11_count_X6_knownBy rfl rfl rfl (by decide +kernel) ⟨Nat.le_of_ble_eq_true rfl, Nat.le_of_ble_eq_true rfl⟩) (k_recv C hw (LC_78 LC) rfl) rfl hl.1 rfl (Nat.le_of_ble_eq_true rfl) dX11_count_135 (fun H locs hw => ?_)
    exact k_iret C hw hf dX11_count_138
  have hf := k_ifF h14 hf
  by_cases h15 : p1 = (15 : Int32)
  · have hf := k_ifT h15 hf
    refine lv_tableIn (tgt := 139) hx hb dX11_count_1 (by rw [h15]; decide) (by rw [h15]; decide) (by rw [h15]; rfl) (by decide) ?_
    refine lv_aload_n hx hb dX11_count_139 rfl (lv_at hl 0 rfl) ?_
    refine k_get C hw (LC_0 LC) (ci := 11) rfl k_in11 6 (by decide) lk11_50 (v := .ref (ad 62)) rfl dX11_count_140 ?_
    refine k_getN C hw (LC_62 LC) (ci := 2) rfl k_in2 5 (by decide) ln11_362 (v := .int (σ.1 62 5)) rfl dX11_count_143 ?_
    exact k_iret C hw hf dX11_count_146
  have hf := k_ifF h15 hf
  refine lv_tableOut (tgt := 147) hx hb dX11_count_1 (k_tout (fun k q1 q2 q3 => ?_)) (by decide) ?_
  · have q4 : p1 = Int32.ofInt k := by rw [← q3, Int32.ofInt_toInt]
    have q5 : k = 0 ∨ k = 1 ∨ k = 2 ∨ k = 3 ∨ k = 4 ∨ k = 5 ∨ k = 6 ∨ k = 7 ∨ k = 8 ∨ k = 9 ∨ k = 10 ∨ k = 11 ∨ k = 12 ∨ k = 13 ∨ k = 14 ∨ k = 15 := by omega
    rcases q5 with rfl | rfl | rfl | rfl | rfl | rfl | rfl | rfl | rfl | rfl | rfl | rfl | rfl | rfl | rfl | rfl
    · exact h0 q4
    · exact h1 q4
    · exact h2 q4
    · exact h3 q4
    · exact h4 q4
    · exact h5 q4
    · exact h6 q4
    · exact h7 q4
    · exact h8 q4
    · exact h9 q4
    · exact h10 q4
    · exact h11 q4
    · exact h12 q4
    · exact h13 q4
    · exact h14 q4
    · exact h15 q4
  exact b147 p1 σ _ _ _ (lv_sub hl [0, 1] rfl) hw hf
def f_X12_starts_b89_s  (r89 : Int32 → Int32 → MSt → Option MSt) (x1 : Int32) (x2 : Int32) (σ : MSt) : Option MSt :=
  if (8 : Int32) ≤ x2 then
  (some σ)
  else
  (k_ck (k_inb (((8 : Int32) * x1) + x2) 192) <|
  k_nm (mI σ 26 ((((8 : Int32) * x1) + x2)).toNatClampNeg (0 : Int32)) fun σ1 =>
  k_ck (k_inb (((8 : Int32) * x1) + x2) 192) <|
  k_nm (mI σ1 27 ((((8 : Int32) * x1) + x2)).toNatClampNeg (0 : Int32)) fun σ2 =>
  k_ck (k_inb (((8 : Int32) * x1) + x2) 192) <|
  k_nm (mI σ2 28 ((((8 : Int32) * x1) + x2)).toNatClampNeg (-1 : Int32)) fun σ3 =>
  k_nm (x2 + (1 : Int32)) fun u4 =>
  r89 x1 u4 σ3)
def f_X12_starts_b89  : Nat → Int32 → Int32 → MSt → Option MSt
  | 0 => fun _ _ _ => none
  | n + 1 => f_X12_starts_b89_s (f_X12_starts_b89 n)
def f_X12_starts_b31  (x1 : Int32) (y1 : Int32) (y2 : Int32) (σ : MSt) : Option MSt :=
  k_ck (k_inb y1 24) <|
  k_nm (mI σ 18 (y1).toNatClampNeg y2) fun σ1 =>
  k_ck (k_inb x1 24) <|
  k_nm (mI σ1 19 (x1).toNatClampNeg (-1 : Int32)) fun σ2 =>
  k_ck (k_inb x1 24) <|
  k_nm (mI σ2 20 (x1).toNatClampNeg (-1 : Int32)) fun σ3 =>
  k_ck (k_inb x1 24) <|
  k_nm (mI σ3 21 (x1).toNatClampNeg (0 : Int32)) fun σ4 =>
  k_ck (k_inb x1 24) <|
  k_nm (mI σ4 22 (x1).toNatClampNeg (0 : Int32)) fun σ5 =>
  k_ck (k_inb x1 24) <|
  k_nm (mI σ5 23 (x1).toNatClampNeg (0 : Int32)) fun σ6 =>
  k_ck (k_inb x1 24) <|
  k_nm (mI σ6 24 (x1).toNatClampNeg (0 : Int32)) fun σ7 =>
  k_ck (k_inb (7 : Int32) 18) <|
  k_ck (k_inb x1 24) <|
  k_nm (mI σ7 25 (x1).toNatClampNeg (σ7.1 2 ((7 : Int32)).toNatClampNeg)) fun σ8 =>
  f_X12_starts_b89 FU x1 (0 : Int32) σ8
def f_X12_starts  (p1 : Int32) (σ : MSt) : Option MSt :=
  k_ck (k_inb p1 24) <|
  k_nm (mI σ 17 (p1).toNatClampNeg (0 : Int32)) fun σ9 =>
  k_ck (k_inb (0 : Int32) 18) <|
  if (σ9.1 2 ((0 : Int32)).toNatClampNeg) = 0 then
  (f_X12_starts_b31 p1 p1 (-1 : Int32) σ9)
  else
  (k_ck (k_inb (4 : Int32) 18) <|
  f_X12_starts_b31 p1 p1 (σ9.1 2 ((4 : Int32)).toNatClampNeg) σ9)
def rmX12_starts : Room := { frames := 0, cells := 0, slots := 0, locals := 0 }
set_option maxHeartbeats 4000000 in
set_option maxRecDepth 100000 in
theorem c_X12_starts (l : Launch) (G : va_G) (Y : CY) (w : MSt → va_W) (ad : Nat → Nat)  (LM : LayM ad w Y) (p1 : Int32) (σ : MSt) (σ' : MSt) (hf : f_X12_starts p1 σ = some σ') : k_Mv l yX12_starts wsX12_starts rmX12_starts G Y w [.ref (ad 0), .int p1] σ σ' := by
  refine k_ofv (own := RX12) (cc := cX12_starts) (maxL := 3) none (by decide) rfl rfl (Nat.le_of_ble_eq_true rfl) ?_
  intro p e s m below meth c A C ls hl hw
  have hx := C.1
  have hb := C.2.1
  have hown := C.2.2.2.2.1
  have hts := C.2.2.2.2.2.1
  have hks := C.2.2.2.2.2.2.1
  have hl : lv_has ls 3 [(0, .ref (ad 0)), (1, .int p1)] := hl
  have b89 : ∀ (n89 : Nat) (x1 : Int32) (x2 : Int32) (σ : MSt) (H : Heap) (locs : List Loc) (ls : Array Slot), lv_has ls 3 [(0, .ref (ad 0)), (1, .int x1), (2, .int x2)] → k_W G w A s.heap σ H locs → f_X12_starts_b89 n89 x1 x2 σ = some σ' → W p l e rmX12_starts s m [.ref (ad 0), .int p1].toArray below meth c H locs 0 0 (MQ below (k_Qv G w A σ') [.ref (ad 0), .int p1].toArray s 0 0 A) (F0 m 89 ls []) := by
    intro n89
    induction n89 with
    | zero =>
      intro x1 x2 σ H locs ls hl hw hf
      have hf : (none : Option MSt) = some σ' := hf
      cases hf
    | succ n89 ih89 =>
      intro x1 x2 σ H locs ls hl hw hf
      have hf : f_X12_starts_b89_s (f_X12_starts_b89 n89) x1 x2 σ = some σ' := hf
      unfold f_X12_starts_b89_s at hf
      refine lv_iload_n hx hb dX12_starts_89 rfl (lv_at hl 2 rfl) ?_
      refine lv_bipush (v := (8 : Int32)) hx hb dX12_starts_90 (by decide) ?_
      refine lv_icmp_ge (tgt := 137) hx hb dX12_starts_92 (by decide) (fun h => ?_) (fun h => ?_)
      · have hf := k_ifT h hf
        exact k_vret C hw hf dX12_starts_137
      · have hf := k_ifF h hf
        refine lv_aload_n hx hb dX12_starts_95 rfl (lv_at hl 0 rfl) ?_
        refine k_get C hw (LM_0 LM) (ci := 12) rfl k_in12 41 (by decide) lk12_90 (v := .ref (ad 26)) rfl dX12_starts_96 ?_
        refine lv_bipush (v := (8 : Int32)) hx hb dX12_starts_99 (by decide) ?_
        refine lv_iload_n hx hb dX12_starts_101 rfl (lv_at hl 1 rfl) ?_
        refine lv_imul hx hb dX12_starts_102 ?_
        refine lv_iload_n hx hb dX12_starts_103 rfl (lv_at hl 2 rfl) ?_
        refine lv_iadd hx hb dX12_starts_104 ?_
        refine lv_iconst (v := (0 : Int32)) hx hb dX12_starts_105 (by decide) ?_
        obtain ⟨hi, hf⟩ := k_ckE hf
        refine k_iast C hw (LM_26 LM) hi dX12_starts_106 (fun σ1 eq H locs hw => ?_)
        have hf := k_nmE eq hf
        refine lv_aload_n hx hb dX12_starts_107 rfl (lv_at hl 0 rfl) ?_
        refine k_get C hw (LM_0 LM) (ci := 12) rfl k_in12 42 (by decide) lk12_93 (v := .ref (ad 27)) rfl dX12_starts_108 ?_
        refine lv_bipush (v := (8 : Int32)) hx hb dX12_starts_111 (by decide) ?_
        refine lv_iload_n hx hb dX12_starts_113 rfl (lv_at hl 1 rfl) ?_
        refine lv_imul hx hb dX12_starts_114 ?_
        refine lv_iload_n hx hb dX12_starts_115 rfl (lv_at hl 2 rfl) ?_
        refine lv_iadd hx hb dX12_starts_116 ?_
        refine lv_iconst (v := (0 : Int32)) hx hb dX12_starts_117 (by decide) ?_
        obtain ⟨hi, hf⟩ := k_ckE hf
        refine k_iast C hw (LM_27 LM) hi dX12_starts_118 (fun σ2 eq H locs hw => ?_)
        have hf := k_nmE eq hf
        refine lv_aload_n hx hb dX12_starts_119 rfl (lv_at hl 0 rfl) ?_
        refine k_get C hw (LM_0 LM) (ci := 12) rfl k_in12 43 (by decide) lk12_96 (v := .ref (ad 28)) rfl dX12_starts_120 ?_
        refine lv_bipush (v := (8 : Int32)) hx hb dX12_starts_123 (by decide) ?_
        refine lv_iload_n hx hb dX12_starts_125 rfl (lv_at hl 1 rfl) ?_
        refine lv_imul hx hb dX12_starts_126 ?_
        refine lv_iload_n hx hb dX12_starts_127 rfl (lv_at hl 2 rfl) ?_
        refine lv_iadd hx hb dX12_starts_128 ?_
        refine lv_iconst (v := (-1 : Int32)) hx hb dX12_starts_129 (by decide) ?_
        obtain ⟨hi, hf⟩ := k_ckE hf
        refine k_iast C hw (LM_28 LM) hi dX12_starts_130 (fun σ3 eq H locs hw => ?_)
        have hf := k_nmE eq hf
        obtain ⟨u4, ex⟩ : ∃ y : Int32, y = (x2 + (1 : Int32)) := ⟨_, rfl⟩
        have hf := k_nmE ex hf
        refine lv_iinc (v := u4) (lv' := [(2, .int u4), (0, .ref (ad 0)), (1, .int x1)]) hx hb dX12_starts_131 hl (k := 2) rfl (by rw [ex]; rfl) (by decide) rfl (fun ls hl => ?_)
        refine lv_goto (tgt := 89) hx hb dX12_starts_134 (by decide) ?_
        exact ih89 x1 u4 σ3 _ _ _ (lv_sub hl [1, 2, 0] rfl) hw hf
  have b31 : ∀ (x1 : Int32) (y1 : Int32) (y2 : Int32) (σ : MSt) (H : Heap) (locs : List Loc) (ls : Array Slot), lv_has ls 3 [(0, .ref (ad 0)), (1, .int x1)] → k_W G w A s.heap σ H locs → f_X12_starts_b31 x1 y1 y2 σ = some σ' → W p l e rmX12_starts s m [.ref (ad 0), .int p1].toArray below meth c H locs 0 0 (MQ below (k_Qv G w A σ') [.ref (ad 0), .int p1].toArray s 0 0 A) (F0 m 31 ls [.int y2, .int y1, .ref (ad 18)]) := by
    intro x1 y1 y2 σ H locs ls hl hw hf
    unfold f_X12_starts_b31 at hf
    obtain ⟨hi, hf⟩ := k_ckE hf
    refine k_iast C hw (LM_18 LM) hi dX12_starts_31 (fun σ1 eq H locs hw => ?_)
    have hf := k_nmE eq hf
    refine lv_aload_n hx hb dX12_starts_32 rfl (lv_at hl 0 rfl) ?_
    refine k_get C hw (LM_0 LM) (ci := 12) rfl k_in12 34 (by decide) lk12_69 (v := .ref (ad 19)) rfl dX12_starts_33 ?_
    refine lv_iload_n hx hb dX12_starts_36 rfl (lv_at hl 1 rfl) ?_
    refine lv_iconst (v := (-1 : Int32)) hx hb dX12_starts_37 (by decide) ?_
    obtain ⟨hi, hf⟩ := k_ckE hf
    refine k_iast C hw (LM_19 LM) hi dX12_starts_38 (fun σ2 eq H locs hw => ?_)
    have hf := k_nmE eq hf
    refine lv_aload_n hx hb dX12_starts_39 rfl (lv_at hl 0 rfl) ?_
    refine k_get C hw (LM_0 LM) (ci := 12) rfl k_in12 35 (by decide) lk12_72 (v := .ref (ad 20)) rfl dX12_starts_40 ?_
    refine lv_iload_n hx hb dX12_starts_43 rfl (lv_at hl 1 rfl) ?_
    refine lv_iconst (v := (-1 : Int32)) hx hb dX12_starts_44 (by decide) ?_
    obtain ⟨hi, hf⟩ := k_ckE hf
    refine k_iast C hw (LM_20 LM) hi dX12_starts_45 (fun σ3 eq H locs hw => ?_)
    have hf := k_nmE eq hf
    refine lv_aload_n hx hb dX12_starts_46 rfl (lv_at hl 0 rfl) ?_
    refine k_get C hw (LM_0 LM) (ci := 12) rfl k_in12 36 (by decide) lk12_75 (v := .ref (ad 21)) rfl dX12_starts_47 ?_
    refine lv_iload_n hx hb dX12_starts_50 rfl (lv_at hl 1 rfl) ?_
    refine lv_iconst (v := (0 : Int32)) hx hb dX12_starts_51 (by decide) ?_
    obtain ⟨hi, hf⟩ := k_ckE hf
    refine k_iast C hw (LM_21 LM) hi dX12_starts_52 (fun σ4 eq H locs hw => ?_)
    have hf := k_nmE eq hf
    refine lv_aload_n hx hb dX12_starts_53 rfl (lv_at hl 0 rfl) ?_
    refine k_get C hw (LM_0 LM) (ci := 12) rfl k_in12 37 (by decide) lk12_78 (v := .ref (ad 22)) rfl dX12_starts_54 ?_
    refine lv_iload_n hx hb dX12_starts_57 rfl (lv_at hl 1 rfl) ?_
    refine lv_iconst (v := (0 : Int32)) hx hb dX12_starts_58 (by decide) ?_
    obtain ⟨hi, hf⟩ := k_ckE hf
    refine k_iast C hw (LM_22 LM) hi dX12_starts_59 (fun σ5 eq H locs hw => ?_)
    have hf := k_nmE eq hf
    refine lv_aload_n hx hb dX12_starts_60 rfl (lv_at hl 0 rfl) ?_
    refine k_get C hw (LM_0 LM) (ci := 12) rfl k_in12 38 (by decide) lk12_81 (v := .ref (ad 23)) rfl dX12_starts_61 ?_
    refine lv_iload_n hx hb dX12_starts_64 rfl (lv_at hl 1 rfl) ?_
    refine lv_iconst (v := (0 : Int32)) hx hb dX12_starts_65 (by decide) ?_
    obtain ⟨hi, hf⟩ := k_ckE hf
    refine k_iast C hw (LM_23 LM) hi dX12_starts_66 (fun σ6 eq H locs hw => ?_)
    have hf := k_nmE eq hf
    refine lv_aload_n hx hb dX12_starts_67 rfl (lv_at hl 0 rfl) ?_
    refine k_get C hw (LM_0 LM) (ci := 12) rfl k_in12 39 (by decide) lk12_84 (v := .ref (ad 24)) rfl dX12_starts_68 ?_
    refine lv_iload_n hx hb dX12_starts_71 rfl (lv_at hl 1 rfl) ?_
    refine lv_iconst (v := (0 : Int32)) hx hb dX12_starts_72 (by decide) ?_
    obtain ⟨hi, hf⟩ := k_ckE hf
    refine k_iast C hw (LM_24 LM) hi dX12_starts_73 (fun σ7 eq H locs hw => ?_)
    have hf := k_nmE eq hf
    refine lv_aload_n hx hb dX12_starts_74 rfl (lv_at hl 0 rfl) ?_
    refine k_get C hw (LM_0 LM) (ci := 12) rfl k_in12 40 (by decide) lk12_87 (v := .ref (ad 25)) rfl dX12_starts_75 ?_
    refine lv_iload_n hx hb dX12_starts_78 rfl (lv_at hl 1 rfl) ?_
    refine lv_aload_n hx hb dX12_starts_79 rfl (lv_at hl 0 rfl) ?_
    refine k_get C hw (LM_0 LM) (ci := 12) rfl k_in12 3 (by decide) lk12_13 (v := .ref (ad 2)) rfl dX12_starts_80 ?_
    refine lv_bipush (v := (7 : Int32)) hx hb dX12_starts_83 (by decide) ?_
    obtain ⟨hi, hf⟩ := k_ckE hf
    refine k_iald C hw (LM_2 LM) hi dX12_starts_85 ?_
    obtain ⟨hi, hf⟩ := k_ckE hf
    refine k_iast C hw (LM_25 LM) hi dX12_starts_86 (fun σ8 eq H locs hw => ?_)
    have hf := k_nmE eq hf
    refine lv_iconst (v := (0 : Int32)) hx hb dX12_starts_87 (by decide) ?_
    refine lv_istore_n (lv' := [(2, .int (0 : Int32)), (0, .ref (ad 0)), (1, .int x1)]) hx hb dX12_starts_88 rfl hl (by decide) rfl (fun ls hl => ?_)
    exact b89 FU x1 (0 : Int32) σ8 _ _ _ (lv_sub hl [1, 2, 0] rfl) hw hf
  unfold f_X12_starts at hf
  refine lv_aload_n hx hb dX12_starts_0 rfl (lv_at hl 0 rfl) ?_
  refine k_get C hw (LM_0 LM) (ci := 12) rfl k_in12 32 (by decide) lk12_63 (v := .ref (ad 17)) rfl dX12_starts_1 ?_
  refine lv_iload_n hx hb dX12_starts_4 rfl (lv_at hl 1 rfl) ?_
  refine lv_iconst (v := (0 : Int32)) hx hb dX12_starts_5 (by decide) ?_
  obtain ⟨hi, hf⟩ := k_ckE hf
  refine k_iast C hw (LM_17 LM) hi dX12_starts_6 (fun σ9 eq H locs hw => ?_)
  have hf := k_nmE eq hf
  refine lv_aload_n hx hb dX12_starts_7 rfl (lv_at hl 0 rfl) ?_
  refine k_get C hw (LM_0 LM) (ci := 12) rfl k_in12 33 (by decide) lk12_66 (v := .ref (ad 18)) rfl dX12_starts_8 ?_
  refine lv_iload_n hx hb dX12_starts_11 rfl (lv_at hl 1 rfl) ?_
  refine lv_aload_n hx hb dX12_starts_12 rfl (lv_at hl 0 rfl) ?_
  refine k_get C hw (LM_0 LM) (ci := 12) rfl k_in12 3 (by decide) lk12_13 (v := .ref (ad 2)) rfl dX12_starts_13 ?_
  refine lv_iconst (v := (0 : Int32)) hx hb dX12_starts_16 (by decide) ?_
  obtain ⟨hi, hf⟩ := k_ckE hf
  refine k_iald C hw (LM_2 LM) hi dX12_starts_17 ?_
  refine lv_if_ne (tgt := 25) hx hb dX12_starts_18 (by decide) (fun h => ?_) (fun h => ?_)
  · have hf := k_ifF h hf
    refine lv_aload_n hx hb dX12_starts_25 rfl (lv_at hl 0 rfl) ?_
    refine k_get C hw (LM_0 LM) (ci := 12) rfl k_in12 3 (by decide) lk12_13 (v := .ref (ad 2)) rfl dX12_starts_26 ?_
    refine lv_iconst (v := (4 : Int32)) hx hb dX12_starts_29 (by decide) ?_
    obtain ⟨hi, hf⟩ := k_ckE hf
    refine k_iald C hw (LM_2 LM) hi dX12_starts_30 ?_
    exact b31 p1 p1 (σ9.1 2 ((4 : Int32)).toNatClampNeg) σ9 _ _ _ (lv_sub hl [0, 1] rfl) hw hf
  · have hf := k_ifT h hf
    refine lv_iconst (v := (-1 : Int32)) hx hb dX12_starts_21 (by decide) ?_
    refine lv_goto (tgt := 31) hx hb dX12_starts_22 (by decide) ?_
    exact b31 p1 p1 (-1 : Int32) σ9 _ _ _ (lv_sub hl [0, 1] rfl) hw hf
def f_X12_begins   (σ : MSt) : Option MSt :=
  k_bv (f_X12_starts (0 : Int32) σ) fun σ1 =>
  some σ1
def rmX12_begins : Room := { frames := 1, cells := 0, slots := 0, locals := 22 }
set_option maxHeartbeats 4000000 in
set_option maxRecDepth 100000 in
theorem c_X12_begins (l : Launch) (G : va_G) (Y : CY) (w : MSt → va_W) (ad : Nat → Nat)  (LM : LayM ad w Y)  (σ : MSt) (σ' : MSt) (hf : f_X12_begins σ = some σ') : k_Mv l yX12_begins wsX12_begins rmX12_begins G Y w [.ref (ad 0)] σ σ' := by
  refine k_ofv (own := RX12) (cc := cX12_begins) (maxL := 1) none (by decide) rfl rfl (Nat.le_of_ble_eq_true rfl) ?_
  intro p e s m below meth c A C ls hl hw
  have hx := C.1
  have hb := C.2.1
  have hown := C.2.2.2.2.1
  have hts := C.2.2.2.2.2.1
  have hks := C.2.2.2.2.2.2.1
  have hl : lv_has ls 1 [(0, .ref (ad 0))] := hl
  unfold f_X12_begins at hf
  refine lv_aload_n hx hb dX12_begins_0 rfl (lv_at hl 0 rfl) ?_
  refine lv_iconst (v := (0 : Int32)) hx hb dX12_begins_1 (by decide) ?_
  obtain ⟨σ1, hq, hf⟩ := k_bvE hf
  refine k_callVv C hw (c_X12_starts l G Y w ad LM (0 : Int32) σ σ1 hq) (cwV 1 hts gX12_begins_X12_starts rfl rfl rfl (by decide +kernel) ⟨Nat.le_of_ble_eq_true rfl, Nat.le_of_ble_eq_true rfl⟩) (k_recv C hw (LM_0 LM) rfl) rfl hl.1 rfl (Nat.le_of_ble_eq_true rfl) dX12_begins_2 (fun H locs hw => ?_)
  exact k_vret C hw hf dX12_begins_5
def f_X12_thrown   (σ : MSt) : Option (Int32 × MSt) :=
  some ((σ.1 0 0), σ)
def rmX12_thrown : Room := { frames := 0, cells := 0, slots := 0, locals := 0 }
set_option maxHeartbeats 4000000 in
set_option maxRecDepth 100000 in
theorem c_X12_thrown (l : Launch) (G : va_G) (Y : CY) (w : MSt → va_W) (ad : Nat → Nat)  (LM : LayM ad w Y)  (σ : MSt) (r : Int32) (σ' : MSt) (hf : f_X12_thrown σ = some (r, σ')) : k_Mi l yX12_thrown wsX12_thrown rmX12_thrown G Y w [.ref (ad 0)] σ r σ' := by
  refine k_ofi (own := RX12) (cc := cX12_thrown) (maxL := 1) (some .int) (by decide) rfl rfl (Nat.le_of_ble_eq_true rfl) ?_
  intro p e s m below meth c A C ls hl hw
  have hx := C.1
  have hb := C.2.1
  have hown := C.2.2.2.2.1
  have hts := C.2.2.2.2.2.1
  have hks := C.2.2.2.2.2.2.1
  have hl : lv_has ls 1 [(0, .ref (ad 0))] := hl
  unfold f_X12_thrown at hf
  refine lv_aload_n hx hb dX12_thrown_0 rfl (lv_at hl 0 rfl) ?_
  refine k_get C hw (LM_0 LM) (ci := 12) rfl k_in12 0 (by decide) lk12_145 (v := .int (σ.1 0 0)) rfl dX12_thrown_1 ?_
  exact k_iret C hw hf dX12_thrown_4
def f_X12_feed_b73  (r20 : Int32 → Int32 → Int32 → Int32 → Int32 → Int32 → MSt → Option (Int32 × MSt)) (x1 : Int32) (x2 : Int32) (x3 : Int32) (x4 : Int32) (x5 : Int32) (x6 : Int32) (y0 : Int32) (σ : MSt) : Option (Int32 × MSt) :=
  k_ck (k_inb ((σ.1 0 2) + x6) 700) <|
  k_nm (mI σ 1 (((σ.1 0 2) + x6)).toNatClampNeg ((y0 >>> (((24 : Int32) - ((8 : Int32) * (k_rem x6 (4 : Int32)))) &&& 31)) &&& (255 : Int32))) fun σ1 =>
  k_nm (x6 + (1 : Int32)) fun u2 =>
  r20 x1 x2 x3 x4 x5 u2 σ1
def f_X12_feed_b20_s  (r20 : Int32 → Int32 → Int32 → Int32 → Int32 → Int32 → MSt → Option (Int32 × MSt)) (x1 : Int32) (x2 : Int32) (x3 : Int32) (x4 : Int32) (x5 : Int32) (x6 : Int32) (σ : MSt) : Option (Int32 × MSt) :=
  if (20 : Int32) ≤ x6 then
  (k_nm (mI σ 0 2 ((σ.1 0 2) + (20 : Int32))) fun σ1 =>
  some ((σ1.1 0 2), σ1))
  else
  (if (4 : Int32) ≤ x6 then
  (if (8 : Int32) ≤ x6 then
  (if (12 : Int32) ≤ x6 then
  (if (16 : Int32) ≤ x6 then
  (f_X12_feed_b73 r20 x1 x2 x3 x4 x5 x6 x5 σ)
  else
  (f_X12_feed_b73 r20 x1 x2 x3 x4 x5 x6 x4 σ))
  else
  (f_X12_feed_b73 r20 x1 x2 x3 x4 x5 x6 x3 σ))
  else
  (f_X12_feed_b73 r20 x1 x2 x3 x4 x5 x6 x2 σ))
  else
  (f_X12_feed_b73 r20 x1 x2 x3 x4 x5 x6 x1 σ))
def f_X12_feed_b20  : Nat → Int32 → Int32 → Int32 → Int32 → Int32 → Int32 → MSt → Option (Int32 × MSt)
  | 0 => fun _ _ _ _ _ _ _ => none
  | n + 1 => f_X12_feed_b20_s (f_X12_feed_b20 n)
def f_X12_feed  (p1 : Int32) (p2 : Int32) (p3 : Int32) (p4 : Int32) (p5 : Int32) (σ : MSt) : Option (Int32 × MSt) :=
  k_nm (mI σ 0 0 (0 : Int32)) fun σ2 =>
  if (σ2.1 0 2) ≤ (680 : Int32) then
  (f_X12_feed_b20 FU p1 p2 p3 p4 p5 (0 : Int32) σ2)
  else
  (some ((-1 : Int32), σ2))
def rmX12_feed : Room := { frames := 0, cells := 0, slots := 0, locals := 0 }
set_option maxHeartbeats 4000000 in
set_option maxRecDepth 100000 in
theorem c_X12_feed (l : Launch) (G : va_G) (Y : CY) (w : MSt → va_W) (ad : Nat → Nat)  (LM : LayM ad w Y) (p1 : Int32) (p2 : Int32) (p3 : Int32) (p4 : Int32) (p5 : Int32) (σ : MSt) (r : Int32) (σ' : MSt) (hf : f_X12_feed p1 p2 p3 p4 p5 σ = some (r, σ')) : k_Mi l yX12_feed wsX12_feed rmX12_feed G Y w [.ref (ad 0), .int p1, .int p2, .int p3, .int p4, .int p5] σ r σ' := by
  refine k_ofi (own := RX12) (cc := cX12_feed) (maxL := 8) (some .int) (by decide) rfl rfl (Nat.le_of_ble_eq_true rfl) ?_
  intro p e s m below meth c A C ls hl hw
  have hx := C.1
  have hb := C.2.1
  have hown := C.2.2.2.2.1
  have hts := C.2.2.2.2.2.1
  have hks := C.2.2.2.2.2.2.1
  have hl : lv_has ls 8 [(0, .ref (ad 0)), (1, .int p1), (2, .int p2), (3, .int p3), (4, .int p4), (5, .int p5)] := hl
  have b20 : ∀ (n20 : Nat) (x1 : Int32) (x2 : Int32) (x3 : Int32) (x4 : Int32) (x5 : Int32) (x6 : Int32) (σ : MSt) (H : Heap) (locs : List Loc) (ls : Array Slot), lv_has ls 8 [(0, .ref (ad 0)), (1, .int x1), (2, .int x2), (3, .int x3), (4, .int x4), (5, .int x5), (6, .int x6)] → k_W G w A s.heap σ H locs → f_X12_feed_b20 n20 x1 x2 x3 x4 x5 x6 σ = some (r, σ') → W p l e rmX12_feed s m [.ref (ad 0), .int p1, .int p2, .int p3, .int p4, .int p5].toArray below meth c H locs 0 0 (MQ below (k_Qi G w A r σ') [.ref (ad 0), .int p1, .int p2, .int p3, .int p4, .int p5].toArray s 0 0 A) (F0 m 20 ls []) := by
    intro n20
    induction n20 with
    | zero =>
      intro x1 x2 x3 x4 x5 x6 σ H locs ls hl hw hf
      have hf : (none : Option (Int32 × MSt)) = some (r, σ') := hf
      cases hf
    | succ n20 ih20 =>
      have b73 : ∀ (x1 : Int32) (x2 : Int32) (x3 : Int32) (x4 : Int32) (x5 : Int32) (x6 : Int32) (y0 : Int32) (σ : MSt) (H : Heap) (locs : List Loc) (ls : Array Slot), lv_has ls 8 [(0, .ref (ad 0)), (1, .int x1), (2, .int x2), (3, .int x3), (4, .int x4), (5, .int x5), (6, .int x6)] → k_W G w A s.heap σ H locs → f_X12_feed_b73 (f_X12_feed_b20 n20) x1 x2 x3 x4 x5 x6 y0 σ = some (r, σ') → W p l e rmX12_feed s m [.ref (ad 0), .int p1, .int p2, .int p3, .int p4, .int p5].toArray below meth c H locs 0 0 (MQ below (k_Qi G w A r σ') [.ref (ad 0), .int p1, .int p2, .int p3, .int p4, .int p5].toArray s 0 0 A) (F0 m 73 ls [.int y0]) := by
        intro x1 x2 x3 x4 x5 x6 y0 σ H locs ls hl hw hf
        unfold f_X12_feed_b73 at hf
        refine lv_istore (lv' := [(7, .int y0), (0, .ref (ad 0)), (1, .int x1), (2, .int x2), (3, .int x3), (4, .int x4), (5, .int x5), (6, .int x6)]) hx hb dX12_feed_73 hl (by decide) rfl (fun ls hl => ?_)
        refine lv_aload_n hx hb dX12_feed_75 rfl (lv_at hl 1 rfl) ?_
        refine k_get C hw (LM_0 LM) (ci := 12) rfl k_in12 1 (by decide) lk12_7 (v := .ref (ad 1)) rfl dX12_feed_76 ?_
        refine lv_aload_n hx hb dX12_feed_79 rfl (lv_at hl 1 rfl) ?_
        refine k_get C hw (LM_0 LM) (ci := 12) rfl k_in12 2 (by decide) lk12_148 (v := .int (σ.1 0 2)) rfl dX12_feed_80 ?_
        refine lv_iload hx hb dX12_feed_83 (lv_at hl 7 rfl) ?_
        refine lv_iadd hx hb dX12_feed_85 ?_
        refine lv_iload hx hb dX12_feed_86 (lv_at hl 0 rfl) ?_
        refine lv_bipush (v := (24 : Int32)) hx hb dX12_feed_88 (by decide) ?_
        refine lv_bipush (v := (8 : Int32)) hx hb dX12_feed_90 (by decide) ?_
        refine lv_iload hx hb dX12_feed_92 (lv_at hl 7 rfl) ?_
        refine lv_iconst (v := (4 : Int32)) hx hb dX12_feed_94 (by decide) ?_
        refine k_irem C dX12_feed_95 (by decide) ?_
        refine lv_imul hx hb dX12_feed_96 ?_
        refine lv_isub hx hb dX12_feed_97 ?_
        refine lv_ishr hx hb dX12_feed_98 ?_
        refine lv_sipush (v := (255 : Int32)) hx hb dX12_feed_99 (by decide) ?_
        refine lv_iand hx hb dX12_feed_102 ?_
        obtain ⟨hi, hf⟩ := k_ckE hf
        refine k_iast C hw (LM_1 LM) hi dX12_feed_103 (fun σ1 eq H locs hw => ?_)
        have hf := k_nmE eq hf
        obtain ⟨u2, ex⟩ : ∃ y : Int32, y = (x6 + (1 : Int32)) := ⟨_, rfl⟩
        have hf := k_nmE ex hf
        refine lv_iinc (v := u2) (lv' := [(6, .int u2), (7, .int y0), (0, .ref (ad 0)), (1, .int x1), (2, .int x2), (3, .int x3), (4, .int x4), (5, .int x5)]) hx hb dX12_feed_104 hl (k := 7) rfl (by rw [ex]; rfl) (by decide) rfl (fun ls hl => ?_)
        refine lv_goto (tgt := 20) hx hb dX12_feed_107 (by decide) ?_
        exact ih20 x1 x2 x3 x4 x5 u2 σ1 _ _ _ (lv_sub hl [2, 3, 4, 5, 6, 7, 0] rfl) hw hf
      intro x1 x2 x3 x4 x5 x6 σ H locs ls hl hw hf
      have hf : f_X12_feed_b20_s (f_X12_feed_b20 n20) x1 x2 x3 x4 x5 x6 σ = some (r, σ') := hf
      unfold f_X12_feed_b20_s at hf
      refine lv_iload hx hb dX12_feed_20 (lv_at hl 6 rfl) ?_
      refine lv_bipush (v := (20 : Int32)) hx hb dX12_feed_22 (by decide) ?_
      refine lv_icmp_ge (tgt := 110) hx hb dX12_feed_24 (by decide) (fun h => ?_) (fun h => ?_)
      · have hf := k_ifT h hf
        refine lv_aload_n hx hb dX12_feed_110 rfl (lv_at hl 0 rfl) ?_
        refine lv_dup hx hb dX12_feed_111 rfl ?_
        refine k_get C hw (LM_0 LM) (ci := 12) rfl k_in12 2 (by decide) lk12_148 (v := .int (σ.1 0 2)) rfl dX12_feed_112 ?_
        refine lv_bipush (v := (20 : Int32)) hx hb dX12_feed_115 (by decide) ?_
        refine lv_iadd hx hb dX12_feed_117 ?_
        refine k_put C hw (LM_0 LM) (ci := 12) rfl k_in12 tyX12 tyX12_ok nmX12 2 (by decide) lk12_148 rfl ⟨rfl, rfl⟩ rfl dX12_feed_118 (fun σ1 eq H locs hw => ?_)
        have hf := k_nmE eq hf
        refine lv_aload_n hx hb dX12_feed_121 rfl (lv_at hl 0 rfl) ?_
        refine k_get C hw (LM_0 LM) (ci := 12) rfl k_in12 2 (by decide) lk12_148 (v := .int (σ1.1 0 2)) rfl dX12_feed_122 ?_
        exact k_iret C hw hf dX12_feed_125
      · have hf := k_ifF h hf
        refine lv_iload hx hb dX12_feed_27 (lv_at hl 6 rfl) ?_
        refine lv_iconst (v := (4 : Int32)) hx hb dX12_feed_29 (by decide) ?_
        refine lv_icmp_ge (tgt := 37) hx hb dX12_feed_30 (by decide) (fun h => ?_) (fun h => ?_)
        · have hf := k_ifT h hf
          refine lv_iload hx hb dX12_feed_37 (lv_at hl 6 rfl) ?_
          refine lv_bipush (v := (8 : Int32)) hx hb dX12_feed_39 (by decide) ?_
          refine lv_icmp_ge (tgt := 48) hx hb dX12_feed_41 (by decide) (fun h => ?_) (fun h => ?_)
          · have hf := k_ifT h hf
            refine lv_iload hx hb dX12_feed_48 (lv_at hl 6 rfl) ?_
            refine lv_bipush (v := (12 : Int32)) hx hb dX12_feed_50 (by decide) ?_
            refine lv_icmp_ge (tgt := 59) hx hb dX12_feed_52 (by decide) (fun h => ?_) (fun h => ?_)
            · have hf := k_ifT h hf
              refine lv_iload hx hb dX12_feed_59 (lv_at hl 6 rfl) ?_
              refine lv_bipush (v := (16 : Int32)) hx hb dX12_feed_61 (by decide) ?_
              refine lv_icmp_ge (tgt := 71) hx hb dX12_feed_63 (by decide) (fun h => ?_) (fun h => ?_)
              · have hf := k_ifT h hf
                refine lv_iload hx hb dX12_feed_71 (lv_at hl 5 rfl) ?_
                exact b73 x1 x2 x3 x4 x5 x6 x5 σ _ _ _ (lv_sub hl [0, 1, 2, 3, 4, 5, 6] rfl) hw hf
              · have hf := k_ifF h hf
                refine lv_iload hx hb dX12_feed_66 (lv_at hl 4 rfl) ?_
                refine lv_goto (tgt := 73) hx hb dX12_feed_68 (by decide) ?_
                exact b73 x1 x2 x3 x4 x5 x6 x4 σ _ _ _ (lv_sub hl [0, 1, 2, 3, 4, 5, 6] rfl) hw hf
            · have hf := k_ifF h hf
              refine lv_iload_n hx hb dX12_feed_55 rfl (lv_at hl 3 rfl) ?_
              refine lv_goto (tgt := 73) hx hb dX12_feed_56 (by decide) ?_
              exact b73 x1 x2 x3 x4 x5 x6 x3 σ _ _ _ (lv_sub hl [0, 1, 2, 3, 4, 5, 6] rfl) hw hf
          · have hf := k_ifF h hf
            refine lv_iload_n hx hb dX12_feed_44 rfl (lv_at hl 2 rfl) ?_
            refine lv_goto (tgt := 73) hx hb dX12_feed_45 (by decide) ?_
            exact b73 x1 x2 x3 x4 x5 x6 x2 σ _ _ _ (lv_sub hl [0, 1, 2, 3, 4, 5, 6] rfl) hw hf
        · have hf := k_ifF h hf
          refine lv_iload_n hx hb dX12_feed_33 rfl (lv_at hl 1 rfl) ?_
          refine lv_goto (tgt := 73) hx hb dX12_feed_34 (by decide) ?_
          exact b73 x1 x2 x3 x4 x5 x6 x1 σ _ _ _ (lv_sub hl [0, 1, 2, 3, 4, 5, 6] rfl) hw hf
  unfold f_X12_feed at hf
  refine lv_aload_n hx hb dX12_feed_0 rfl (lv_at hl 0 rfl) ?_
  refine lv_iconst (v := (0 : Int32)) hx hb dX12_feed_1 (by decide) ?_
  refine k_put C hw (LM_0 LM) (ci := 12) rfl k_in12 tyX12 tyX12_ok nmX12 0 (by decide) lk12_145 rfl ⟨rfl, rfl⟩ rfl dX12_feed_2 (fun σ2 eq H locs hw => ?_)
  have hf := k_nmE eq hf
  refine lv_aload_n hx hb dX12_feed_5 rfl (lv_at hl 0 rfl) ?_
  refine k_get C hw (LM_0 LM) (ci := 12) rfl k_in12 2 (by decide) lk12_148 (v := .int (σ2.1 0 2)) rfl dX12_feed_6 ?_
  refine lv_sipush (v := (680 : Int32)) hx hb dX12_feed_9 (by decide) ?_
  refine lv_icmp_le (tgt := 17) hx hb dX12_feed_12 (by decide) (fun h => ?_) (fun h => ?_)
  · have hf := k_ifT h hf
    refine lv_iconst (v := (0 : Int32)) hx hb dX12_feed_17 (by decide) ?_
    refine lv_istore (lv' := [(6, .int (0 : Int32)), (0, .ref (ad 0)), (1, .int p1), (2, .int p2), (3, .int p3), (4, .int p4), (5, .int p5)]) hx hb dX12_feed_18 hl (by decide) rfl (fun ls hl => ?_)
    exact b20 FU p1 p2 p3 p4 p5 (0 : Int32) σ2 _ _ _ (lv_sub hl [1, 2, 3, 4, 5, 6, 0] rfl) hw hf
  · have hf := k_ifF h hf
    refine lv_iconst (v := (-1 : Int32)) hx hb dX12_feed_15 (by decide) ?_
    exact k_iret C hw hf dX12_feed_16
def f_X12_here_b24  (y0 : Int32) (σ : MSt) : Option (Int32 × MSt) :=
  some (y0, σ)
def f_X12_here   (σ : MSt) : Option (Int32 × MSt) :=
  if (σ.1 0 18) ≤ (σ.1 0 19) then
  (f_X12_here_b24 (-1 : Int32) σ)
  else
  (k_ck (k_inb (σ.1 0 19) 700) <|
  f_X12_here_b24 (σ.1 1 ((σ.1 0 19)).toNatClampNeg) σ)
def rmX12_here : Room := { frames := 0, cells := 0, slots := 0, locals := 0 }
set_option maxHeartbeats 4000000 in
set_option maxRecDepth 100000 in
theorem c_X12_here (l : Launch) (G : va_G) (Y : CY) (w : MSt → va_W) (ad : Nat → Nat)  (LM : LayM ad w Y)  (σ : MSt) (r : Int32) (σ' : MSt) (hf : f_X12_here σ = some (r, σ')) : k_Mi l yX12_here wsX12_here rmX12_here G Y w [.ref (ad 0)] σ r σ' := by
  refine k_ofi (own := RX12) (cc := cX12_here) (maxL := 1) (some .int) (by decide) rfl rfl (Nat.le_of_ble_eq_true rfl) ?_
  intro p e s m below meth c A C ls hl hw
  have hx := C.1
  have hb := C.2.1
  have hown := C.2.2.2.2.1
  have hts := C.2.2.2.2.2.1
  have hks := C.2.2.2.2.2.2.1
  have hl : lv_has ls 1 [(0, .ref (ad 0))] := hl
  have b24 : ∀ (y0 : Int32) (σ : MSt) (H : Heap) (locs : List Loc) (ls : Array Slot), lv_has ls 1 [] → k_W G w A s.heap σ H locs → f_X12_here_b24 y0 σ = some (r, σ') → W p l e rmX12_here s m [.ref (ad 0)].toArray below meth c H locs 0 0 (MQ below (k_Qi G w A r σ') [.ref (ad 0)].toArray s 0 0 A) (F0 m 24 ls [.int y0]) := by
    intro y0 σ H locs ls hl hw hf
    unfold f_X12_here_b24 at hf
    exact k_iret C hw hf dX12_here_24
  unfold f_X12_here at hf
  refine lv_aload_n hx hb dX12_here_0 rfl (lv_at hl 0 rfl) ?_
  refine k_get C hw (LM_0 LM) (ci := 12) rfl k_in12 19 (by decide) lk12_151 (v := .int (σ.1 0 19)) rfl dX12_here_1 ?_
  refine lv_aload_n hx hb dX12_here_4 rfl (lv_at hl 0 rfl) ?_
  refine k_get C hw (LM_0 LM) (ci := 12) rfl k_in12 18 (by decide) lk12_154 (v := .int (σ.1 0 18)) rfl dX12_here_5 ?_
  refine lv_icmp_ge (tgt := 23) hx hb dX12_here_8 (by decide) (fun h => ?_) (fun h => ?_)
  · have hf := k_ifT h hf
    refine lv_iconst (v := (-1 : Int32)) hx hb dX12_here_23 (by decide) ?_
    exact b24 (-1 : Int32) σ _ _ _ (lv_sub hl [] rfl) hw hf
  · have hf := k_ifF h hf
    refine lv_aload_n hx hb dX12_here_11 rfl (lv_at hl 0 rfl) ?_
    refine k_get C hw (LM_0 LM) (ci := 12) rfl k_in12 1 (by decide) lk12_7 (v := .ref (ad 1)) rfl dX12_here_12 ?_
    refine lv_aload_n hx hb dX12_here_15 rfl (lv_at hl 0 rfl) ?_
    refine k_get C hw (LM_0 LM) (ci := 12) rfl k_in12 19 (by decide) lk12_151 (v := .int (σ.1 0 19)) rfl dX12_here_16 ?_
    obtain ⟨hi, hf⟩ := k_ckE hf
    refine k_iald C hw (LM_1 LM) hi dX12_here_19 ?_
    refine lv_goto (tgt := 24) hx hb dX12_here_20 (by decide) ?_
    exact b24 (σ.1 1 ((σ.1 0 19)).toNatClampNeg) σ _ _ _ (lv_sub hl [] rfl) hw hf
def f_X12_isSmall_b17  (y0 : Int32) (σ : MSt) : Option (Int32 × MSt) :=
  k_ck (k_bo y0) <|
  some (y0, σ)
def f_X12_isSmall_b16   (σ : MSt) : Option (Int32 × MSt) :=
  f_X12_isSmall_b17 (0 : Int32) σ
def f_X12_isSmall  (p1 : Int32) (σ : MSt) : Option (Int32 × MSt) :=
  if p1 < (97 : Int32) then
  (f_X12_isSmall_b16 σ)
  else
  (if (122 : Int32) < p1 then
  (f_X12_isSmall_b16 σ)
  else
  (f_X12_isSmall_b17 (1 : Int32) σ))
def rmX12_isSmall : Room := { frames := 0, cells := 0, slots := 0, locals := 0 }
set_option maxHeartbeats 4000000 in
set_option maxRecDepth 100000 in
theorem c_X12_isSmall (l : Launch) (G : va_G) (Y : CY) (w : MSt → va_W) (ad : Nat → Nat)  (LM : LayM ad w Y) (p1 : Int32) (σ : MSt) (r : Int32) (σ' : MSt) (hf : f_X12_isSmall p1 σ = some (r, σ')) : k_Mi l yX12_isSmall wsX12_isSmall rmX12_isSmall G Y w [.int p1] σ r σ' := by
  refine k_ofi (own := RX12) (cc := cX12_isSmall) (maxL := 1) (some .boolean) (by decide) rfl rfl (Nat.le_of_ble_eq_true rfl) ?_
  intro p e s m below meth c A C ls hl hw
  have hx := C.1
  have hb := C.2.1
  have hown := C.2.2.2.2.1
  have hts := C.2.2.2.2.2.1
  have hks := C.2.2.2.2.2.2.1
  have hl : lv_has ls 1 [(0, .int p1)] := hl
  have b17 : ∀ (y0 : Int32) (σ : MSt) (H : Heap) (locs : List Loc) (ls : Array Slot), lv_has ls 1 [] → k_W G w A s.heap σ H locs → f_X12_isSmall_b17 y0 σ = some (r, σ') → W p l e rmX12_isSmall s m [.int p1].toArray below meth c H locs 0 0 (MQ below (k_Qi G w A r σ') [.int p1].toArray s 0 0 A) (F0 m 17 ls [.int y0]) := by
    intro y0 σ H locs ls hl hw hf
    unfold f_X12_isSmall_b17 at hf
    obtain ⟨hz, hf⟩ := k_ckE hf
    exact k_zret C hw (k_boE hz).1 hf dX12_isSmall_17
  have b16 : ∀ (σ : MSt) (H : Heap) (locs : List Loc) (ls : Array Slot), lv_has ls 1 [] → k_W G w A s.heap σ H locs → f_X12_isSmall_b16 σ = some (r, σ') → W p l e rmX12_isSmall s m [.int p1].toArray below meth c H locs 0 0 (MQ below (k_Qi G w A r σ') [.int p1].toArray s 0 0 A) (F0 m 16 ls []) := by
    intro σ H locs ls hl hw hf
    unfold f_X12_isSmall_b16 at hf
    refine lv_iconst (v := (0 : Int32)) hx hb dX12_isSmall_16 (by decide) ?_
    exact b17 (0 : Int32) σ _ _ _ (lv_sub hl [] rfl) hw hf
  unfold f_X12_isSmall at hf
  refine lv_iload_n hx hb dX12_isSmall_0 rfl (lv_at hl 0 rfl) ?_
  refine lv_bipush (v := (97 : Int32)) hx hb dX12_isSmall_1 (by decide) ?_
  refine lv_icmp_lt (tgt := 16) hx hb dX12_isSmall_3 (by decide) (fun h => ?_) (fun h => ?_)
  · have hf := k_ifT h hf
    exact b16 σ _ _ _ (lv_sub hl [] rfl) hw hf
  · have hf := k_ifF h hf
    refine lv_iload_n hx hb dX12_isSmall_6 rfl (lv_at hl 0 rfl) ?_
    refine lv_bipush (v := (122 : Int32)) hx hb dX12_isSmall_7 (by decide) ?_
    refine lv_icmp_gt (tgt := 16) hx hb dX12_isSmall_9 (by decide) (fun h => ?_) (fun h => ?_)
    · have hf := k_ifT h hf
      exact b16 σ _ _ _ (lv_sub hl [] rfl) hw hf
    · have hf := k_ifF h hf
      refine lv_iconst (v := (1 : Int32)) hx hb dX12_isSmall_12 (by decide) ?_
      refine lv_goto (tgt := 17) hx hb dX12_isSmall_13 (by decide) ?_
      exact b17 (1 : Int32) σ _ _ _ (lv_sub hl [] rfl) hw hf
def f_X12_isDigit_b17  (y0 : Int32) (σ : MSt) : Option (Int32 × MSt) :=
  k_ck (k_bo y0) <|
  some (y0, σ)
def f_X12_isDigit_b16   (σ : MSt) : Option (Int32 × MSt) :=
  f_X12_isDigit_b17 (0 : Int32) σ
def f_X12_isDigit  (p1 : Int32) (σ : MSt) : Option (Int32 × MSt) :=
  if p1 < (48 : Int32) then
  (f_X12_isDigit_b16 σ)
  else
  (if (57 : Int32) < p1 then
  (f_X12_isDigit_b16 σ)
  else
  (f_X12_isDigit_b17 (1 : Int32) σ))
def rmX12_isDigit : Room := { frames := 0, cells := 0, slots := 0, locals := 0 }
set_option maxHeartbeats 4000000 in
set_option maxRecDepth 100000 in
theorem c_X12_isDigit (l : Launch) (G : va_G) (Y : CY) (w : MSt → va_W) (ad : Nat → Nat)  (LM : LayM ad w Y) (p1 : Int32) (σ : MSt) (r : Int32) (σ' : MSt) (hf : f_X12_isDigit p1 σ = some (r, σ')) : k_Mi l yX12_isDigit wsX12_isDigit rmX12_isDigit G Y w [.int p1] σ r σ' := by
  refine k_ofi (own := RX12) (cc := cX12_isDigit) (maxL := 1) (some .boolean) (by decide) rfl rfl (Nat.le_of_ble_eq_true rfl) ?_
  intro p e s m below meth c A C ls hl hw
  have hx := C.1
  have hb := C.2.1
  have hown := C.2.2.2.2.1
  have hts := C.2.2.2.2.2.1
  have hks := C.2.2.2.2.2.2.1
  have hl : lv_has ls 1 [(0, .int p1)] := hl
  have b17 : ∀ (y0 : Int32) (σ : MSt) (H : Heap) (locs : List Loc) (ls : Array Slot), lv_has ls 1 [] → k_W G w A s.heap σ H locs → f_X12_isDigit_b17 y0 σ = some (r, σ') → W p l e rmX12_isDigit s m [.int p1].toArray below meth c H locs 0 0 (MQ below (k_Qi G w A r σ') [.int p1].toArray s 0 0 A) (F0 m 17 ls [.int y0]) := by
    intro y0 σ H locs ls hl hw hf
    unfold f_X12_isDigit_b17 at hf
    obtain ⟨hz, hf⟩ := k_ckE hf
    exact k_zret C hw (k_boE hz).1 hf dX12_isDigit_17
  have b16 : ∀ (σ : MSt) (H : Heap) (locs : List Loc) (ls : Array Slot), lv_has ls 1 [] → k_W G w A s.heap σ H locs → f_X12_isDigit_b16 σ = some (r, σ') → W p l e rmX12_isDigit s m [.int p1].toArray below meth c H locs 0 0 (MQ below (k_Qi G w A r σ') [.int p1].toArray s 0 0 A) (F0 m 16 ls []) := by
    intro σ H locs ls hl hw hf
    unfold f_X12_isDigit_b16 at hf
    refine lv_iconst (v := (0 : Int32)) hx hb dX12_isDigit_16 (by decide) ?_
    exact b17 (0 : Int32) σ _ _ _ (lv_sub hl [] rfl) hw hf
  unfold f_X12_isDigit at hf
  refine lv_iload_n hx hb dX12_isDigit_0 rfl (lv_at hl 0 rfl) ?_
  refine lv_bipush (v := (48 : Int32)) hx hb dX12_isDigit_1 (by decide) ?_
  refine lv_icmp_lt (tgt := 16) hx hb dX12_isDigit_3 (by decide) (fun h => ?_) (fun h => ?_)
  · have hf := k_ifT h hf
    exact b16 σ _ _ _ (lv_sub hl [] rfl) hw hf
  · have hf := k_ifF h hf
    refine lv_iload_n hx hb dX12_isDigit_6 rfl (lv_at hl 0 rfl) ?_
    refine lv_bipush (v := (57 : Int32)) hx hb dX12_isDigit_7 (by decide) ?_
    refine lv_icmp_gt (tgt := 16) hx hb dX12_isDigit_9 (by decide) (fun h => ?_) (fun h => ?_)
    · have hf := k_ifT h hf
      exact b16 σ _ _ _ (lv_sub hl [] rfl) hw hf
    · have hf := k_ifF h hf
      refine lv_iconst (v := (1 : Int32)) hx hb dX12_isDigit_12 (by decide) ?_
      refine lv_goto (tgt := 17) hx hb dX12_isDigit_13 (by decide) ?_
      exact b17 (1 : Int32) σ _ _ _ (lv_sub hl [] rfl) hw hf
def f_X12_word_b97_s  (r4 : Int32 → Int32 → MSt → Option (Int32 × MSt)) (r97 : Int32 → Int32 → MSt → Option (Int32 × MSt)) (x1 : Int32) (x2 : Int32) (σ : MSt) : Option (Int32 × MSt) :=
  k_ck (k_inb x2 106) <|
  if (k_chr x2) = (32 : Int32) then
  (k_nm (x2 + (1 : Int32)) fun u1 =>
  k_nm (x1 + (1 : Int32)) fun u2 =>
  r4 u2 u1 σ)
  else
  (k_nm (x2 + (1 : Int32)) fun u3 =>
  r97 x1 u3 σ)
def f_X12_word_b97  (r4 : Int32 → Int32 → MSt → Option (Int32 × MSt)) : Nat → Int32 → Int32 → MSt → Option (Int32 × MSt)
  | 0 => fun _ _ _ => none
  | n + 1 => f_X12_word_b97_s r4 (f_X12_word_b97 r4 n)
def f_X12_word_b69  (r4 : Int32 → Int32 → MSt → Option (Int32 × MSt)) (x1 : Int32) (x2 : Int32) (x3 : Int32) (σ : MSt) : Option (Int32 × MSt) :=
  k_ck (k_inb (x2 + x3) 106) <|
  if (k_chr (x2 + x3)) = (32 : Int32) then
  (if ((σ.1 0 20) + x3) = (σ.1 0 19) then
  (some (x1, σ))
  else
  (f_X12_word_b97 r4 FU x1 x2 σ))
  else
  (f_X12_word_b97 r4 FU x1 x2 σ)
def f_X12_word_b15_s  (r4 : Int32 → Int32 → MSt → Option (Int32 × MSt)) (r15 : Int32 → Int32 → Int32 → MSt → Option (Int32 × MSt)) (x1 : Int32) (x2 : Int32) (x3 : Int32) (σ : MSt) : Option (Int32 × MSt) :=
  k_ck (k_inb (x2 + x3) 106) <|
  if (k_chr (x2 + x3)) = (32 : Int32) then
  (f_X12_word_b69 r4 x1 x2 x3 σ)
  else
  (if (σ.1 0 19) ≤ ((σ.1 0 20) + x3) then
  (f_X12_word_b69 r4 x1 x2 x3 σ)
  else
  (k_ck (k_inb ((σ.1 0 20) + x3) 700) <|
  k_ck (k_inb (x2 + x3) 106) <|
  if (σ.1 1 (((σ.1 0 20) + x3)).toNatClampNeg) = (k_chr (x2 + x3)) then
  (k_nm (x3 + (1 : Int32)) fun u1 =>
  r15 x1 x2 u1 σ)
  else
  (f_X12_word_b69 r4 x1 x2 x3 σ)))
def f_X12_word_b15  (r4 : Int32 → Int32 → MSt → Option (Int32 × MSt)) : Nat → Int32 → Int32 → Int32 → MSt → Option (Int32 × MSt)
  | 0 => fun _ _ _ _ => none
  | n + 1 => f_X12_word_b15_s r4 (f_X12_word_b15 r4 n)
def f_X12_word_b4_s  (r4 : Int32 → Int32 → MSt → Option (Int32 × MSt)) (x1 : Int32) (x2 : Int32) (σ : MSt) : Option (Int32 × MSt) :=
  if (106 : Int32) ≤ x2 then
  (some ((-1 : Int32), σ))
  else
  (f_X12_word_b15 r4 FU x1 x2 (0 : Int32) σ)
def f_X12_word_b4  : Nat → Int32 → Int32 → MSt → Option (Int32 × MSt)
  | 0 => fun _ _ _ => none
  | n + 1 => f_X12_word_b4_s (f_X12_word_b4 n)
def f_X12_word   (σ : MSt) : Option (Int32 × MSt) :=
  f_X12_word_b4 FU (0 : Int32) (0 : Int32) σ
def rmX12_word : Room := { frames := 4, cells := 0, slots := 0, locals := 85 }
set_option maxHeartbeats 4000000 in
set_option maxRecDepth 100000 in
theorem c_X12_word (l : Launch) (G : va_G) (Y : CY) (w : MSt → va_W) (ad : Nat → Nat)  (LM : LayM ad w Y)  (σ : MSt) (r : Int32) (σ' : MSt) (hf : f_X12_word σ = some (r, σ')) : k_Mi l yX12_word wsX12_word rmX12_word G Y w [.ref (ad 0)] σ r σ' := by
  refine k_ofi (own := RX12) (cc := cX12_word) (maxL := 4) (some .int) (by decide) rfl rfl (Nat.le_of_ble_eq_true rfl) ?_
  intro p e s m below meth c A C ls hl hw
  have hx := C.1
  have hb := C.2.1
  have hown := C.2.2.2.2.1
  have hts := C.2.2.2.2.2.1
  have hks := C.2.2.2.2.2.2.1
  have hl : lv_has ls 4 [(0, .ref (ad 0))] := hl
  have b4 : ∀ (n4 : Nat) (x1 : Int32) (x2 : Int32) (σ : MSt) (H : Heap) (locs : List Loc) (ls : Array Slot), lv_has ls 4 [(0, .ref (ad 0)), (1, .int x1), (2, .int x2)] → k_W G w A s.heap σ H locs → f_X12_word_b4 n4 x1 x2 σ = some (r, σ') → W p l e rmX12_word s m [.ref (ad 0)].toArray below meth c H locs 0 0 (MQ below (k_Qi G w A r σ') [.ref (ad 0)].toArray s 0 0 A) (F0 m 4 ls []) := by
    intro n4
    induction n4 with
    | zero =>
      intro x1 x2 σ H locs ls hl hw hf
      have hf : (none : Option (Int32 × MSt)) = some (r, σ') := hf
      cases hf
    | succ n4 ih4 =>
      have b97 : ∀ (n97 : Nat) (x1 : Int32) (x2 : Int32) (σ : MSt) (H : Heap) (locs : List Loc) (ls : Array Slot), lv_has ls 4 [(0, .ref (ad 0)), (1, .int x1), (2, .int x2)] → k_W G w A s.heap σ H locs → f_X12_word_b97 (f_X12_word_b4 n4) n97 x1 x2 σ = some (r, σ') → W p l e rmX12_word s m [.ref (ad 0)].toArray below meth c H locs 0 0 (MQ below (k_Qi G w A r σ') [.ref (ad 0)].toArray s 0 0 A) (F0 m 97 ls []) := by
        intro n97
        induction n97 with
        | zero =>
          intro x1 x2 σ H locs ls hl hw hf
          have hf : (none : Option (Int32 × MSt)) = some (r, σ') := hf
          cases hf
        | succ n97 ih97 =>
          intro x1 x2 σ H locs ls hl hw hf
          have hf : f_X12_word_b97_s (f_X12_word_b4 n4) (f_X12_word_b97 (f_X12_word_b4 n4) n97) x1 x2 σ = some (r, σ') := hf
          unfold f_X12_word_b97_s at hf
          refine va_ldcS hx hb hown C.2.2.2.2.2.2.2.2.2.2.1 dX12_word_97 ?_
          refine lv_iload_n hx hb dX12_word_99 rfl (lv_at hl 2 rfl) ?_
          obtain ⟨hi, hf⟩ := k_ckE hf
          refine k_callVi C hw (cJ_charAt l G Y w σ x2 hi) (cwV 1 hts gX12_word_J0_charAt_5068e rfl rfl rfl (by decide +kernel) ⟨Nat.le_of_ble_eq_true rfl, Nat.le_of_ble_eq_true rfl⟩) (vk_recv (i := 0) C.2.2.2.2.2.2.2.2.2.1 (by decide) hw.2.2) rfl hl.1 rfl (Nat.le_of_ble_eq_true rfl) dX12_word_100 (fun H locs hw => ?_)
          refine lv_bipush (v := (32 : Int32)) hx hb dX12_word_103 (by decide) ?_
          refine lv_icmp_eq (tgt := 114) hx hb dX12_word_105 (by decide) (fun h => ?_) (fun h => ?_)
          · have hf := k_ifT h hf
            obtain ⟨u1, ex⟩ : ∃ y : Int32, y = (x2 + (1 : Int32)) := ⟨_, rfl⟩
            have hf := k_nmE ex hf
            refine lv_iinc (v := u1) (lv' := [(2, .int u1), (0, .ref (ad 0)), (1, .int x1)]) hx hb dX12_word_114 hl (k := 2) rfl (by rw [ex]; rfl) (by decide) rfl (fun ls hl => ?_)
            obtain ⟨u2, ex⟩ : ∃ y : Int32, y = (x1 + (1 : Int32)) := ⟨_, rfl⟩
            have hf := k_nmE ex hf
            refine lv_iinc (v := u2) (lv' := [(1, .int u2), (2, .int u1), (0, .ref (ad 0))]) hx hb dX12_word_117 hl (k := 2) rfl (by rw [ex]; rfl) (by decide) rfl (fun ls hl => ?_)
            refine lv_goto (tgt := 4) hx hb dX12_word_120 (by decide) ?_
            exact ih4 u2 u1 σ _ _ _ (lv_sub hl [2, 0, 1] rfl) hw hf
          · have hf := k_ifF h hf
            obtain ⟨u3, ex⟩ : ∃ y : Int32, y = (x2 + (1 : Int32)) := ⟨_, rfl⟩
            have hf := k_nmE ex hf
            refine lv_iinc (v := u3) (lv' := [(2, .int u3), (0, .ref (ad 0)), (1, .int x1)]) hx hb dX12_word_108 hl (k := 2) rfl (by rw [ex]; rfl) (by decide) rfl (fun ls hl => ?_)
            refine lv_goto (tgt := 97) hx hb dX12_word_111 (by decide) ?_
            exact ih97 x1 u3 σ _ _ _ (lv_sub hl [1, 2, 0] rfl) hw hf
      have b69 : ∀ (x1 : Int32) (x2 : Int32) (x3 : Int32) (σ : MSt) (H : Heap) (locs : List Loc) (ls : Array Slot), lv_has ls 4 [(0, .ref (ad 0)), (1, .int x1), (2, .int x2), (3, .int x3)] → k_W G w A s.heap σ H locs → f_X12_word_b69 (f_X12_word_b4 n4) x1 x2 x3 σ = some (r, σ') → W p l e rmX12_word s m [.ref (ad 0)].toArray below meth c H locs 0 0 (MQ below (k_Qi G w A r σ') [.ref (ad 0)].toArray s 0 0 A) (F0 m 69 ls []) := by
        intro x1 x2 x3 σ H locs ls hl hw hf
        unfold f_X12_word_b69 at hf
        refine va_ldcS hx hb hown C.2.2.2.2.2.2.2.2.2.2.1 dX12_word_69 ?_
        refine lv_iload_n hx hb dX12_word_71 rfl (lv_at hl 2 rfl) ?_
        refine lv_iload_n hx hb dX12_word_72 rfl (lv_at hl 3 rfl) ?_
        refine lv_iadd hx hb dX12_word_73 ?_
        obtain ⟨hi, hf⟩ := k_ckE hf
        refine k_callVi C hw (cJ_charAt l G Y w σ (x2 + x3) hi) (cwV 1 hts gX12_word_J0_charAt_5068e rfl rfl rfl (by decide +kernel) ⟨Nat.le_of_ble_eq_true rfl, Nat.le_of_ble_eq_true rfl⟩) (vk_recv (i := 0) C.2.2.2.2.2.2.2.2.2.1 (by decide) hw.2.2) rfl hl.1 rfl (Nat.le_of_ble_eq_true rfl) dX12_word_74 (fun H locs hw => ?_)
        refine lv_bipush (v := (32 : Int32)) hx hb dX12_word_77 (by decide) ?_
        refine lv_icmp_ne (tgt := 97) hx hb dX12_word_79 (by decide) (fun h => ?_) (fun h => ?_)
        · have hf := k_ifF h hf
          exact b97 FU x1 x2 σ _ _ _ (lv_sub hl [0, 1, 2] rfl) hw hf
        · have hf := k_ifT h hf
          refine lv_aload_n hx hb dX12_word_82 rfl (lv_at hl 0 rfl) ?_
          refine k_get C hw (LM_0 LM) (ci := 12) rfl k_in12 20 (by decide) lk12_161 (v := .int (σ.1 0 20)) rfl dX12_word_83 ?_
          refine lv_iload_n hx hb dX12_word_86 rfl (lv_at hl 3 rfl) ?_
          refine lv_iadd hx hb dX12_word_87 ?_
          refine lv_aload_n hx hb dX12_word_88 rfl (lv_at hl 0 rfl) ?_
          refine k_get C hw (LM_0 LM) (ci := 12) rfl k_in12 19 (by decide) lk12_151 (v := .int (σ.1 0 19)) rfl dX12_word_89 ?_
          refine lv_icmp_ne (tgt := 97) hx hb dX12_word_92 (by decide) (fun h => ?_) (fun h => ?_)
          · have hf := k_ifF h hf
            exact b97 FU x1 x2 σ _ _ _ (lv_sub hl [0, 1, 2] rfl) hw hf
          · have hf := k_ifT h hf
            refine lv_iload_n hx hb dX12_word_95 rfl (lv_at hl 1 rfl) ?_
            exact k_iret C hw hf dX12_word_96
      have b15 : ∀ (n15 : Nat) (x1 : Int32) (x2 : Int32) (x3 : Int32) (σ : MSt) (H : Heap) (locs : List Loc) (ls : Array Slot), lv_has ls 4 [(0, .ref (ad 0)), (1, .int x1), (2, .int x2), (3, .int x3)] → k_W G w A s.heap σ H locs → f_X12_word_b15 (f_X12_word_b4 n4) n15 x1 x2 x3 σ = some (r, σ') → W p l e rmX12_word s m [.ref (ad 0)].toArray below meth c H locs 0 0 (MQ below (k_Qi G w A r σ') [.ref (ad 0)].toArray s 0 0 A) (F0 m 15 ls []) := by
        intro n15
        induction n15 with
        | zero =>
          intro x1 x2 x3 σ H locs ls hl hw hf
          have hf : (none : Option (Int32 × MSt)) = some (r, σ') := hf
          cases hf
        | succ n15 ih15 =>
          intro x1 x2 x3 σ H locs ls hl hw hf
          have hf : f_X12_word_b15_s (f_X12_word_b4 n4) (f_X12_word_b15 (f_X12_word_b4 n4) n15) x1 x2 x3 σ = some (r, σ') := hf
          unfold f_X12_word_b15_s at hf
          refine va_ldcS hx hb hown C.2.2.2.2.2.2.2.2.2.2.1 dX12_word_15 ?_
          refine lv_iload_n hx hb dX12_word_17 rfl (lv_at hl 2 rfl) ?_
          refine lv_iload_n hx hb dX12_word_18 rfl (lv_at hl 3 rfl) ?_
          refine lv_iadd hx hb dX12_word_19 ?_
          obtain ⟨hi, hf⟩ := k_ckE hf
          refine k_callVi C hw (cJ_charAt l G Y w σ (x2 + x3) hi) (cwV 1 hts gX12_word_J0_charAt_5068e rfl rfl rfl (by decide +kernel) ⟨Nat.le_of_ble_eq_true rfl, Nat.le_of_ble_eq_true rfl⟩) (vk_recv (i := 0) C.2.2.2.2.2.2.2.2.2.1 (by decide) hw.2.2) rfl hl.1 rfl (Nat.le_of_ble_eq_true rfl) dX12_word_20 (fun H locs hw => ?_)
          refine lv_bipush (v := (32 : Int32)) hx hb dX12_word_23 (by decide) ?_
          refine lv_icmp_eq (tgt := 69) hx hb dX12_word_25 (by decide) (fun h => ?_) (fun h => ?_)
          · have hf := k_ifT h hf
            exact b69 x1 x2 x3 σ _ _ _ (lv_sub hl [0, 1, 2, 3] rfl) hw hf
          · have hf := k_ifF h hf
            refine lv_aload_n hx hb dX12_word_28 rfl (lv_at hl 0 rfl) ?_
            refine k_get C hw (LM_0 LM) (ci := 12) rfl k_in12 20 (by decide) lk12_161 (v := .int (σ.1 0 20)) rfl dX12_word_29 ?_
            refine lv_iload_n hx hb dX12_word_32 rfl (lv_at hl 3 rfl) ?_
            refine lv_iadd hx hb dX12_word_33 ?_
            refine lv_aload_n hx hb dX12_word_34 rfl (lv_at hl 0 rfl) ?_
            refine k_get C hw (LM_0 LM) (ci := 12) rfl k_in12 19 (by decide) lk12_151 (v := .int (σ.1 0 19)) rfl dX12_word_35 ?_
            refine lv_icmp_ge (tgt := 69) hx hb dX12_word_38 (by decide) (fun h => ?_) (fun h => ?_)
            · have hf := k_ifT h hf
              exact b69 x1 x2 x3 σ _ _ _ (lv_sub hl [0, 1, 2, 3] rfl) hw hf
            · have hf := k_ifF h hf
              refine lv_aload_n hx hb dX12_word_41 rfl (lv_at hl 0 rfl) ?_
              refine k_get C hw (LM_0 LM) (ci := 12) rfl k_in12 1 (by decide) lk12_7 (v := .ref (ad 1)) rfl dX12_word_42 ?_
              refine lv_aload_n hx hb dX12_word_45 rfl (lv_at hl 0 rfl) ?_
              refine k_get C hw (LM_0 LM) (ci := 12) rfl k_in12 20 (by decide) lk12_161 (v := .int (σ.1 0 20)) rfl dX12_word_46 ?_
              refine lv_iload_n hx hb dX12_word_49 rfl (lv_at hl 3 rfl) ?_
              refine lv_iadd hx hb dX12_word_50 ?_
              obtain ⟨hi, hf⟩ := k_ckE hf
              refine k_iald C hw (LM_1 LM) hi dX12_word_51 ?_
              refine va_ldcS hx hb hown C.2.2.2.2.2.2.2.2.2.2.1 dX12_word_52 ?_
              refine lv_iload_n hx hb dX12_word_54 rfl (lv_at hl 2 rfl) ?_
              refine lv_iload_n hx hb dX12_word_55 rfl (lv_at hl 3 rfl) ?_
              refine lv_iadd hx hb dX12_word_56 ?_
              obtain ⟨hi, hf⟩ := k_ckE hf
              refine k_callVi C hw (cJ_charAt l G Y w σ (x2 + x3) hi) (cwV 1 hts gX12_word_J0_charAt_5068e rfl rfl rfl (by decide +kernel) ⟨Nat.le_of_ble_eq_true rfl, Nat.le_of_ble_eq_true rfl⟩) (vk_recv (i := 0) C.2.2.2.2.2.2.2.2.2.1 (by decide) hw.2.2) rfl hl.1 rfl (Nat.le_of_ble_eq_true rfl) dX12_word_57 (fun H locs hw => ?_)
              refine lv_icmp_ne (tgt := 69) hx hb dX12_word_60 (by decide) (fun h => ?_) (fun h => ?_)
              · have hf := k_ifF h hf
                exact b69 x1 x2 x3 σ _ _ _ (lv_sub hl [0, 1, 2, 3] rfl) hw hf
              · have hf := k_ifT h hf
                obtain ⟨u1, ex⟩ : ∃ y : Int32, y = (x3 + (1 : Int32)) := ⟨_, rfl⟩
                have hf := k_nmE ex hf
                refine lv_iinc (v := u1) (lv' := [(3, .int u1), (0, .ref (ad 0)), (1, .int x1), (2, .int x2)]) hx hb dX12_word_63 hl (k := 3) rfl (by rw [ex]; rfl) (by decide) rfl (fun ls hl => ?_)
                refine lv_goto (tgt := 15) hx hb dX12_word_66 (by decide) ?_
                exact ih15 x1 x2 u1 σ _ _ _ (lv_sub hl [1, 2, 3, 0] rfl) hw hf
      intro x1 x2 σ H locs ls hl hw hf
      have hf : f_X12_word_b4_s (f_X12_word_b4 n4) x1 x2 σ = some (r, σ') := hf
      unfold f_X12_word_b4_s at hf
      refine lv_iload_n hx hb dX12_word_4 rfl (lv_at hl 2 rfl) ?_
      refine va_ldcS hx hb hown C.2.2.2.2.2.2.2.2.2.2.1 dX12_word_5 ?_
      refine k_callVi C hw (cJ_length l G Y w σ) (cwV 0 hts gX12_word_J0_length_8abf5 rfl rfl rfl (by decide +kernel) ⟨Nat.le_of_ble_eq_true rfl, Nat.le_of_ble_eq_true rfl⟩) (vk_recv (i := 0) C.2.2.2.2.2.2.2.2.2.1 (by decide) hw.2.2) rfl hl.1 rfl (Nat.le_of_ble_eq_true rfl) dX12_word_7 (fun H locs hw => ?_)
      refine lv_icmp_ge (tgt := 123) hx hb dX12_word_10 (by decide) (fun h => ?_) (fun h => ?_)
      · have hf := k_ifT h hf
        refine lv_iconst (v := (-1 : Int32)) hx hb dX12_word_123 (by decide) ?_
        exact k_iret C hw hf dX12_word_124
      · have hf := k_ifF h hf
        refine lv_iconst (v := (0 : Int32)) hx hb dX12_word_13 (by decide) ?_
        refine lv_istore_n (lv' := [(3, .int (0 : Int32)), (0, .ref (ad 0)), (1, .int x1), (2, .int x2)]) hx hb dX12_word_14 rfl hl (by decide) rfl (fun ls hl => ?_)
        exact b15 FU x1 x2 (0 : Int32) σ _ _ _ (lv_sub hl [1, 2, 3, 0] rfl) hw hf
  unfold f_X12_word at hf
  refine lv_iconst (v := (0 : Int32)) hx hb dX12_word_0 (by decide) ?_
  refine lv_istore_n (lv' := [(1, .int (0 : Int32)), (0, .ref (ad 0))]) hx hb dX12_word_1 rfl hl (by decide) rfl (fun ls hl => ?_)
  refine lv_iconst (v := (0 : Int32)) hx hb dX12_word_2 (by decide) ?_
  refine lv_istore_n (lv' := [(2, .int (0 : Int32)), (1, .int (0 : Int32)), (0, .ref (ad 0))]) hx hb dX12_word_3 rfl hl (by decide) rfl (fun ls hl => ?_)
  exact b4 FU (0 : Int32) (0 : Int32) σ _ _ _ (lv_sub hl [2, 1, 0] rfl) hw hf
