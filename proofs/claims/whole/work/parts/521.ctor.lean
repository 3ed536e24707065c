def CC0_10 (Y : CY) (σ : MSt) (u : Nat → Nat) : va_W := [
  (u 10, .inr (0, FX0 u 10 σ)),
  (u 11, .inl (Y.2.1, 8, .inl (σ.1 11))),
  (u 12, .inl (Y.2.1, 64, .inl (σ.1 12))),
  (u 13, .inl (Y.2.1, 12, .inl (σ.1 13))),
  (u 14, .inl (Y.2.1, 12, .inl (σ.1 14))),
  (u 15, .inl (Y.2.1, 12, .inl (σ.1 15))),
  (u 16, .inl (Y.2.1, 20, .inl (σ.1 16))),
  (u 17, .inr (4, FX4 u 17 σ)),
  (u 18, .inl (Y.2.1, 64, .inl (σ.1 18))),
  (u 19, .inl (Y.2.1, 64, .inl (σ.1 19))),
  (u 20, .inl (Y.2.1, 3, .inl (σ.1 20))),
  (u 21, .inl (Y.2.1, 3, .inl (σ.1 21))),
  (u 22, .inl (Y.2.2.1, 64, .inr (.inl (σ.2 22))))]
def rmi0_10 : Room := { frames := 2, cells := 12, slots := 332, locals := 42 }
def f_X0_init_t (o : Nat) (σ : MSt) : Option MSt :=
  k_bv (f_X0_clear o σ) fun σ1 =>
  some σ1
set_option maxHeartbeats 4000000 in
set_option maxRecDepth 100000 in
theorem t_X0_init {p : Program} {l : Launch} {e : Env} {s : State} {m : MethodId} {args : Array Value} {below : List Frame} {meth : Method} {c : Code} {A : Nat → Prop} {G : va_G} {Y : CY} {cells slots h0 : Nat} (C : k_C p s m args meth c cX0_init RX0 none wsX0_init 1 G Y A) (w : MSt → va_W) (ad : Nat → Nat) (o : Nat) (Lo : LayX0 ad w Y o) (hcs : cells ≤ (rmi0_10 : Room).cells ∧ slots ≤ (rmi0_10 : Room).slots) (σ σ' : MSt) (hf : f_X0_init_t o σ = some σ') (CE : (Nat → Nat) → va_W) (hCE : w σ' = CE ad) (h0e : ad o = h0) (ls : Array Slot) (hl : lv_has ls 1 [(0, .ref (ad o))]) (H : Heap) (locs : List Loc) (hw : k_W G w A s.heap σ H locs) : W p l e rmi0_10 s m args below meth c H locs cells slots (MQ below (i_Q G A o h0 CE) args s cells slots A) (F0 m 63 ls []) := by
  have hx := C.1
  have hb := C.2.1
  have hown := C.2.2.2.2.1
  have hts := C.2.2.2.2.2.1
  have hks := C.2.2.2.2.2.2.1
  unfold f_X0_init_t at hf
  refine lv_aload_n hx hb dX0_init_63 rfl (lv_at hl 0 rfl) ?_
  obtain ⟨σ1, hq, hf⟩ := k_bvE hf
  refine k_callVvL C hw (c_X0_clear l G Y w ad o Lo σ σ1 hq) (cwV 0 hts gX0_init_X0_clear rfl rfl rfl (by decide +kernel) ⟨Nat.le_of_ble_eq_true rfl, Nat.le_of_ble_eq_true rfl⟩) (k_recv C hw (LX0_o Lo) rfl) rfl hl.1 rfl (Nat.le_of_ble_eq_true rfl) hcs dX0_init_64 (fun H locs hw => ?_)
  have ee := Option.some.inj hf
  subst ee
  exact i_ret (CE := CE) C ad h0e (hCE ▸ hw.1) (hCE ▸ hw.2.1) hw.2.2 dX0_init_67
set_option maxHeartbeats 4000000 in
theorem WH_10 (u : Nat → Nat) (Y : CY) : HO u (fun σ => CC0_10 Y σ u) 10 0 (FX0 u 10) := by
  refine ⟨0, fun σ => rfl, fun σ j v h => ?_, fun σ j v h => ?_, fun σ j t h7 h ht => ?_⟩
  · match j, h with
    | 0, h => exact absurd (Option.some.inj h) (by intro q; cases q)
    | 1, h => exact absurd (Option.some.inj h) (by intro q; cases q)
    | 2, h => exact absurd (Option.some.inj h) (by intro q; cases q)
    | 3, h => exact absurd (Option.some.inj h) (by intro q; cases q)
    | 4, h => exact absurd (Option.some.inj h) (by intro q; cases q)
    | 5, h => exact absurd (Option.some.inj h) (by intro q; cases q)
    | 6, h => exact absurd (Option.some.inj h) (by intro q; cases q)
    | 7, h => rfl
    | 8, h => rfl
    | 9, h => rfl
    | 10, h => rfl
    | 11, h => rfl
    | 12, h => rfl
    | 13, h => rfl
    | 14, h => rfl
    | j + 15, h => cases h
  · match j, h with
    | 0, h => exact absurd (Option.some.inj h) (by intro q; cases q)
    | 1, h => exact absurd (Option.some.inj h) (by intro q; cases q)
    | 2, h => exact absurd (Option.some.inj h) (by intro q; cases q)
    | 3, h => exact absurd (Option.some.inj h) (by intro q; cases q)
    | 4, h => exact absurd (Option.some.inj h) (by intro q; cases q)
    | 5, h => exact absurd (Option.some.inj h) (by intro q; cases q)
    | 6, h => exact absurd (Option.some.inj h) (by intro q; cases q)
    | 7, h => exact absurd (Option.some.inj h) (by intro q; cases q)
    | 8, h => exact absurd (Option.some.inj h) (by intro q; cases q)
    | 9, h => exact absurd (Option.some.inj h) (by intro q; cases q)
    | 10, h => exact absurd (Option.some.inj h) (by intro q; cases q)
    | 11, h => exact absurd (Option.some.inj h) (by intro q; cases q)
    | 12, h => exact absurd (Option.some.inj h) (by intro q; cases q)
    | 13, h => exact absurd (Option.some.inj h) (by intro q; cases q)
    | 14, h => exact absurd (Option.some.inj h) (by intro q; cases q)
    | j + 15, h => cases h
  · exact absurd h7.1 (by decide)
theorem WH_11 (u : Nat → Nat) (Y : CY) : HA u (fun σ => CC0_10 Y σ u) 11 Y.2.1 8 := ⟨1, fun σ => rfl, fun σ i v => rfl⟩
theorem WH_12 (u : Nat → Nat) (Y : CY) : HA u (fun σ => CC0_10 Y σ u) 12 Y.2.1 64 := ⟨2, fun σ => rfl, fun σ i v => rfl⟩
theorem WH_13 (u : Nat → Nat) (Y : CY) : HA u (fun σ => CC0_10 Y σ u) 13 Y.2.1 12 := ⟨3, fun σ => rfl, fun σ i v => rfl⟩
theorem WH_14 (u : Nat → Nat) (Y : CY) : HA u (fun σ => CC0_10 Y σ u) 14 Y.2.1 12 := ⟨4, fun σ => rfl, fun σ i v => rfl⟩
theorem WH_15 (u : Nat → Nat) (Y : CY) : HA u (fun σ => CC0_10 Y σ u) 15 Y.2.1 12 := ⟨5, fun σ => rfl, fun σ i v => rfl⟩
theorem WH_16 (u : Nat → Nat) (Y : CY) : HA u (fun σ => CC0_10 Y σ u) 16 Y.2.1 20 := ⟨6, fun σ => rfl, fun σ i v => rfl⟩
set_option maxHeartbeats 4000000 in
theorem WH_17 (u : Nat → Nat) (Y : CY) : HO u (fun σ => CC0_10 Y σ u) 17 4 (FX4 u 17) := by
  refine ⟨7, fun σ => rfl, fun σ j v h => ?_, fun σ j v h => ?_, fun σ j t h7 h ht => ?_⟩
  · match j, h with
    | 0, h => exact absurd (Option.some.inj h) (by intro q; cases q)
    | 1, h => exact absurd (Option.some.inj h) (by intro q; cases q)
    | 2, h => exact absurd (Option.some.inj h) (by intro q; cases q)
    | 3, h => exact absurd (Option.some.inj h) (by intro q; cases q)
    | 4, h => exact absurd (Option.some.inj h) (by intro q; cases q)
    | 5, h => rfl
    | j + 6, h => cases h
  · match j, h with
    | 0, h => exact absurd (Option.some.inj h) (by intro q; cases q)
    | 1, h => exact absurd (Option.some.inj h) (by intro q; cases q)
    | 2, h => exact absurd (Option.some.inj h) (by intro q; cases q)
    | 3, h => exact absurd (Option.some.inj h) (by intro q; cases q)
    | 4, h => exact absurd (Option.some.inj h) (by intro q; cases q)
    | 5, h => exact absurd (Option.some.inj h) (by intro q; cases q)
    | j + 6, h => cases h
  · exact absurd h7.1 (by decide)
theorem WH_18 (u : Nat → Nat) (Y : CY) : HA u (fun σ => CC0_10 Y σ u) 18 Y.2.1 64 := ⟨8, fun σ => rfl, fun σ i v => rfl⟩
theorem WH_19 (u : Nat → Nat) (Y : CY) : HA u (fun σ => CC0_10 Y σ u) 19 Y.2.1 64 := ⟨9, fun σ => rfl, fun σ i v => rfl⟩
theorem WH_20 (u : Nat → Nat) (Y : CY) : HA u (fun σ => CC0_10 Y σ u) 20 Y.2.1 3 := ⟨10, fun σ => rfl, fun σ i v => rfl⟩
theorem WH_21 (u : Nat → Nat) (Y : CY) : HA u (fun σ => CC0_10 Y σ u) 21 Y.2.1 3 := ⟨11, fun σ => rfl, fun σ i v => rfl⟩
theorem WH_22 (u : Nat → Nat) (Y : CY) : HL u (fun σ => CC0_10 Y σ u) 22 Y.2.2.1 64 := ⟨12, fun σ => rfl, fun σ i v => rfl⟩
theorem layH_10 (u : Nat → Nat) (Y : CY) : LayX0 u (fun σ => CC0_10 Y σ u) Y 10 := ⟨WH_10 u Y, WH_11 u Y, WH_12 u Y, WH_13 u Y, WH_14 u Y, WH_15 u Y, WH_16 u Y, ⟨WH_17 u Y, WH_18 u Y, WH_19 u Y, WH_20 u Y, WH_21 u Y, WH_22 u Y⟩⟩
set_option maxHeartbeats 4000000 in
set_option maxRecDepth 100000 in
theorem i_X0_init_10 (l : Launch) (G : va_G) (Y : CY) (h0 : Nat) (σ1 : MSt) (hq : f_X0_init_t 10 z0 = some σ1) : i_M l yX0_init wsX0_init rmi0_10 G Y [(h0, .inr (0, [.null, .null, .null, .null, .null, .null, .null, .int 0, .int 0, .int 0, .int 0, .int 0, .int 0, .int 0, .int 0]))] [.ref h0] 10 h0 (CC0_10 Y σ1) 12 332 := by
  refine i_of (own := RX0) (cc := cX0_init) (maxL := 1) (by decide) rfl rfl rfl (Nat.le_of_ble_eq_true rfl) ?_
  intro p e s m below meth c A C hname ls hl hP hD hS
  have hx := C.1
  have hb := C.2.1
  have hown := C.2.2.2.2.1
  have hts := C.2.2.2.2.2.1
  have hks := C.2.2.2.2.2.2.1
  have hA := C.2.2.2.2.2.2.2.2.1
  have hl : lv_has ls 1 [(0, .ref h0)] := hl
  refine lv_aload_n hx hb dX0_init_0 rfl (lv_at hl 0 rfl) ?_
  refine W.objInit hx hb hown (hts (.methodLink RX0 3 objectInit) (by decide +kernel)) (hts (.instanceMethod objectInit) (by decide +kernel)) (hts (.code objectInit ⟨#[0xb1]⟩ 1 none) (by decide +kernel)) rfl (by rw [C.2.2.2.1]; exact hl.1) rfl dX0_init_1 (Nat.le_of_ble_eq_true rfl) (Nat.le_of_ble_eq_true rfl) ?_
  refine W.eq (g2 := F0 m 4 ls []) rfl ?_
  refine lv_aload_n hx hb dX0_init_4 rfl (lv_at hl 0 rfl) ?_
  refine lv_bipush (v := (8 : Int32)) hx hb dX0_init_5 (by decide) ?_
  refine i_newa (atype := .int) (ty := .int) (n := 8) C hP hD hS 1 rfl (cA := Y.2.1) rfl (fun _ h => h) (hts (.arrayClass .int) (by decide +kernel)) (a0 := (8, .inl (fun _ => 0))) (N' := 8) (fun _ => rfl) (by decide) (by decide) (by show 8 * 4 ≤ 536870912; omega) (Nat.le_of_ble_eq_true rfl) (Nat.le_of_ble_eq_true rfl) dX0_init_7 (fun q7 H hP hD hS => ?_)
  have hP : va_P G vwCl [(h0, .inr (0, [.null, .null, .null, .null, .null, .null, .null, .int 0, .int 0, .int 0, .int 0, .int 0, .int 0, .int 0, .int 0])), (q7, .inl (Y.2.1, 8, .inl (fun _ => 0)))] H := hP
  have hD : va_D A [(h0, .inr (0, [.null, .null, .null, .null, .null, .null, .null, .int 0, .int 0, .int 0, .int 0, .int 0, .int 0, .int 0, .int 0])), (q7, .inl (Y.2.1, 8, .inl (fun _ => 0)))] := hD
  refine W.widen (k := 1) (n := 8) (by decide) (by decide) ?_
  refine va_putF (ci := 0) (v := .ref q7) hx hb hks.ts k_in0 tyX0 tyX0_ok nmX0 hown hks.1 hP hD hS 0 rfl rfl 0 (by decide) (hks.ts _ lk0_9) (fun _ h => h) rfl hname rfl (tyX0_ok 0 (by decide)) rfl rfl (Nat.le_of_ble_eq_true rfl) dX0_init_9 (fun H locs hP hD hS => ?_)
  have hP : va_P G vwCl [(h0, .inr (0, [.ref q7, .null, .null, .null, .null, .null, .null, .int 0, .int 0, .int 0, .int 0, .int 0, .int 0, .int 0, .int 0])), (q7, .inl (Y.2.1, 8, .inl (fun _ => 0)))] H := hP
  have hD : va_D A [(h0, .inr (0, [.ref q7, .null, .null, .null, .null, .null, .null, .int 0, .int 0, .int 0, .int 0, .int 0, .int 0, .int 0, .int 0])), (q7, .inl (Y.2.1, 8, .inl (fun _ => 0)))] := hD
  refine lv_aload_n hx hb dX0_init_12 rfl (lv_at hl 0 rfl) ?_
  refine lv_bipush (v := (64 : Int32)) hx hb dX0_init_13 (by decide) ?_
  refine i_newa (atype := .int) (ty := .int) (n := 64) C hP hD hS 1 rfl (cA := Y.2.1) rfl (fun _ h => h) (hts (.arrayClass .int) (by decide +kernel)) (a0 := (64, .inl (fun _ => 0))) (N' := 64) (fun _ => rfl) (by decide) (by decide) (by show 64 * 4 ≤ 536870912; omega) (Nat.le_of_ble_eq_true rfl) (Nat.le_of_ble_eq_true rfl) dX0_init_15 (fun q15 H hP hD hS => ?_)
  have hP : va_P G vwCl [(h0, .inr (0, [.ref q7, .null, .null, .null, .null, .null, .null, .int 0, .int 0, .int 0, .int 0, .int 0, .int 0, .int 0, .int 0])), (q7, .inl (Y.2.1, 8, .inl (fun _ => 0))), (q15, .inl (Y.2.1, 64, .inl (fun _ => 0)))] H := hP
  have hD : va_D A [(h0, .inr (0, [.ref q7, .null, .null, .null, .null, .null, .null, .int 0, .int 0, .int 0, .int 0, .int 0, .int 0, .int 0, .int 0])), (q7, .inl (Y.2.1, 8, .inl (fun _ => 0))), (q15, .inl (Y.2.1, 64, .inl (fun _ => 0)))] := hD
  refine W.widen (k := 2) (n := 72) (by decide) (by decide) ?_
  refine va_putF (ci := 0) (v := .ref q15) hx hb hks.ts k_in0 tyX0 tyX0_ok nmX0 hown hks.1 hP hD hS 0 rfl rfl 1 (by decide) (hks.ts _ lk0_15) (fun _ h => h) rfl hname rfl (tyX0_ok 1 (by decide)) rfl rfl (Nat.le_of_ble_eq_true rfl) dX0_init_17 (fun H locs hP hD hS => ?_)
  have hP : va_P G vwCl [(h0, .inr (0, [.ref q7, .ref q15, .null, .null, .null, .null, .null, .int 0, .int 0, .int 0, .int 0, .int 0, .int 0, .int 0, .int 0])), (q7, .inl (Y.2.1, 8, .inl (fun _ => 0))), (q15, .inl (Y.2.1, 64, .inl (fun _ => 0)))] H := hP
  have hD : va_D A [(h0, .inr (0, [.ref q7, .ref q15, .null, .null, .null, .null, .null, .int 0, .int 0, .int 0, .int 0, .int 0, .int 0, .int 0, .int 0])), (q7, .inl (Y.2.1, 8, .inl (fun _ => 0))), (q15, .inl (Y.2.1, 64, .inl (fun _ => 0)))] := hD
  refine lv_aload_n hx hb dX0_init_20 rfl (lv_at hl 0 rfl) ?_
  refine lv_bipush (v := (12 : Int32)) hx hb dX0_init_21 (by decide) ?_
  refine i_newa (atype := .int) (ty := .int) (n := 12) C hP hD hS 1 rfl (cA := Y.2.1) rfl (fun _ h => h) (hts (.arrayClass .int) (by decide +kernel)) (a0 := (12, .inl (fun _ => 0))) (N' := 12) (fun _ => rfl) (by decide) (by decide) (by show 12 * 4 ≤ 536870912; omega) (Nat.le_of_ble_eq_true rfl) (Nat.le_of_ble_eq_true rfl) dX0_init_23 (fun q23 H hP hD hS => ?_)
  have hP : va_P G vwCl [(h0, .inr (0, [.ref q7, .ref q15, .null, .null, .null, .null, .null, .int 0, .int 0, .int 0, .int 0, .int 0, .int 0, .int 0, .int 0])), (q7, .inl (Y.2.1, 8, .inl (fun _ => 0))), (q15, .inl (Y.2.1, 64, .inl (fun _ => 0))), (q23, .inl (Y.2.1, 12, .inl (fun _ => 0)))] H := hP
  have hD : va_D A [(h0, .inr (0, [.ref q7, .ref q15, .null, .null, .null, .null, .null, .int 0, .int 0, .int 0, .int 0, .int 0, .int 0, .int 0, .int 0])), (q7, .inl (Y.2.1, 8, .inl (fun _ => 0))), (q15, .inl (Y.2.1, 64, .inl (fun _ => 0))), (q23, .inl (Y.2.1, 12, .inl (fun _ => 0)))] := hD
  refine W.widen (k := 3) (n := 84) (by decide) (by decide) ?_
  refine va_putF (ci := 0) (v := .ref q23) hx hb hks.ts k_in0 tyX0 tyX0_ok nmX0 hown hks.1 hP hD hS 0 rfl rfl 2 (by decide) (hks.ts _ lk0_18) (fun _ h => h) rfl hname rfl (tyX0_ok 2 (by decide)) rfl rfl (Nat.le_of_ble_eq_true rfl) dX0_init_25 (fun H locs hP hD hS => ?_)
  have hP : va_P G vwCl [(h0, .inr (0, [.ref q7, .ref q15, .ref q23, .null, .null, .null, .null, .int 0, .int 0, .int 0, .int 0, .int 0, .int 0, .int 0, .int 0])), (q7, .inl (Y.2.1, 8, .inl (fun _ => 0))), (q15, .inl (Y.2.1, 64, .inl (fun _ => 0))), (q23, .inl (Y.2.1, 12, .inl (fun _ => 0)))] H := hP
  have hD : va_D A [(h0, .inr (0, [.ref q7, .ref q15, .ref q23, .null, .null, .null, .null, .int 0, .int 0, .int 0, .int 0, .int 0, .int 0, .int 0, .int 0])), (q7, .inl (Y.2.1, 8, .inl (fun _ => 0))), (q15, .inl (Y.2.1, 64, .inl (fun _ => 0))), (q23, .inl (Y.2.1, 12, .inl (fun _ => 0)))] := hD
  refine lv_aload_n hx hb dX0_init_28 rfl (lv_at hl 0 rfl) ?_
  refine lv_bipush (v := (12 : Int32)) hx hb dX0_init_29 (by decide) ?_
  refine i_newa (atype := .int) (ty := .int) (n := 12) C hP hD hS 1 rfl (cA := Y.2.1) rfl (fun _ h => h) (hts (.arrayClass .int) (by decide +kernel)) (a0 := (12, .inl (fun _ => 0))) (N' := 12) (fun _ => rfl) (by decide) (by decide) (by show 12 * 4 ≤ 536870912; omega) (Nat.le_of_ble_eq_true rfl) (Nat.le_of_ble_eq_true rfl) dX0_init_31 (fun q31 H hP hD hS => ?_)
  have hP : va_P G vwCl [(h0, .inr (0, [.ref q7, .ref q15, .ref q23, .null, .null, .null, .null, .int 0, .int 0, .int 0, .int 0, .int 0, .int 0, .int 0, .int 0])), (q7, .inl (Y.2.1, 8, .inl (fun _ => 0))), (q15, .inl (Y.2.1, 64, .inl (fun _ => 0))), (q23, .inl (Y.2.1, 12, .inl (fun _ => 0))), (q31, .inl (Y.2.1, 12, .inl (fun _ => 0)))] H := hP
  have hD : va_D A [(h0, .inr (0, [.ref q7, .ref q15, .ref q23, .null, .null, .null, .null, .int 0, .int 0, .int 0, .int 0, .int 0, .int 0, .int 0, .int 0])), (q7, .inl (Y.2.1, 8, .inl (fun _ => 0))), (q15, .inl (Y.2.1, 64, .inl (fun _ => 0))), (q23, .inl (Y.2.1, 12, .inl (fun _ => 0))), (q31, .inl (Y.2.1, 12, .inl (fun _ => 0)))] := hD
  refine W.widen (k := 4) (n := 96) (by decide) (by decide) ?_
  refine va_putF (ci := 0) (v := .ref q31) hx hb hks.ts k_in0 tyX0 tyX0_ok nmX0 hown hks.1 hP hD hS 0 rfl rfl 3 (by decide) (hks.ts _ lk0_21) (fun _ h => h) rfl hname rfl (tyX0_ok 3 (by decide)) rfl rfl (Nat.le_of_ble_eq_true rfl) dX0_init_33 (fun H locs hP hD hS => ?_)
  have hP : va_P G vwCl [(h0, .inr (0, [.ref q7, .ref q15, .ref q23, .ref q31, .null, .null, .null, .int 0, .int 0, .int 0, .int 0, .int 0, .int 0, .int 0, .int 0])), (q7, .inl (Y.2.1, 8, .inl (fun _ => 0))), (q15, .inl (Y.2.1, 64, .inl (fun _ => 0))), (q23, .inl (Y.2.1, 12, .inl (fun _ => 0))), (q31, .inl (Y.2.1, 12, .inl (fun _ => 0)))] H := hP
  have hD : va_D A [(h0, .inr (0, [.ref q7, .ref q15, .ref q23, .ref q31, .null, .null, .null, .int 0, .int 0, .int 0, .int 0, .int 0, .int 0, .int 0, .int 0])), (q7, .inl (Y.2.1, 8, .inl (fun _ => 0))), (q15, .inl (Y.2.1, 64, .inl (fun _ => 0))), (q23, .inl (Y.2.1, 12, .inl (fun _ => 0))), (q31, .inl (Y.2.1, 12, .inl (fun _ => 0)))] := hD
  refine lv_aload_n hx hb dX0_init_36 rfl (lv_at hl 0 rfl) ?_
  refine lv_bipush (v := (12 : Int32)) hx hb dX0_init_37 (by decide) ?_
  refine i_newa (atype := .int) (ty := .int) (n := 12) C hP hD hS 1 rfl (cA := Y.2.1) rfl (fun _ h => h) (hts (.arrayClass .int) (by decide +kernel)) (a0 := (12, .inl (fun _ => 0))) (N' := 12) (fun _ => rfl) (by decide) (by decide) (by show 12 * 4 ≤ 536870912; omega) (Nat.le_of_ble_eq_true rfl) (Nat.le_of_ble_eq_true rfl) dX0_init_39 (fun q39 H hP hD hS => ?_)
  have hP : va_P G vwCl [(h0, .inr (0, [.ref q7, .ref q15, .ref q23, .ref q31, .null, .null, .null, .int 0, .int 0, .int 0, .int 0, .int 0, .int 0, .int 0, .int 0])), (q7, .inl (Y.2.1, 8, .inl (fun _ => 0))), (q15, .inl (Y.2.1, 64, .inl (fun _ => 0))), (q23, .inl (Y.2.1, 12, .inl (fun _ => 0))), (q31, .inl (Y.2.1, 12, .inl (fun _ => 0))), (q39, .inl (Y.2.1, 12, .inl (fun _ => 0)))] H := hP
  have hD : va_D A [(h0, .inr (0, [.ref q7, .ref q15, .ref q23, .ref q31, .null, .null, .null, .int 0, .int 0, .int 0, .int 0, .int 0, .int 0, .int 0, .int 0])), (q7, .inl (Y.2.1, 8, .inl (fun _ => 0))), (q15, .inl (Y.2.1, 64, .inl (fun _ => 0))), (q23, .inl (Y.2.1, 12, .inl (fun _ => 0))), (q31, .inl (Y.2.1, 12, .inl (fun _ => 0))), (q39, .inl (Y.2.1, 12, .inl (fun _ => 0)))] := hD
  refine W.widen (k := 5) (n := 108) (by decide) (by decide) ?_
  refine va_putF (ci := 0) (v := .ref q39) hx hb hks.ts k_in0 tyX0 tyX0_ok nmX0 hown hks.1 hP hD hS 0 rfl rfl 4 (by decide) (hks.ts _ lk0_24) (fun _ h => h) rfl hname rfl (tyX0_ok 4 (by decide)) rfl rfl (Nat.le_of_ble_eq_true rfl) dX0_init_41 (fun H locs hP hD hS => ?_)
  have hP : va_P G vwCl [(h0, .inr (0, [.ref q7, .ref q15, .ref q23, .ref q31, .ref q39, .null, .null, .int 0, .int 0, .int 0, .int 0, .int 0, .int 0, .int 0, .int 0])), (q7, .inl (Y.2.1, 8, .inl (fun _ => 0))), (q15, .inl (Y.2.1, 64, .inl (fun _ => 0))), (q23, .inl (Y.2.1, 12, .inl (fun _ => 0))), (q31, .inl (Y.2.1, 12, .inl (fun _ => 0))), (q39, .inl (Y.2.1, 12, .inl (fun _ => 0)))] H := hP
  have hD : va_D A [(h0, .inr (0, [.ref q7, .ref q15, .ref q23, .ref q31, .ref q39, .null, .null, .int 0, .int 0, .int 0, .int 0, .int 0, .int 0, .int 0, .int 0])), (q7, .inl (Y.2.1, 8, .inl (fun _ => 0))), (q15, .inl (Y.2.1, 64, .inl (fun _ => 0))), (q23, .inl (Y.2.1, 12, .inl (fun _ => 0))), (q31, .inl (Y.2.1, 12, .inl (fun _ => 0))), (q39, .inl (Y.2.1, 12, .inl (fun _ => 0)))] := hD
  refine lv_aload_n hx hb dX0_init_44 rfl (lv_at hl 0 rfl) ?_
  refine lv_bipush (v := (20 : Int32)) hx hb dX0_init_45 (by decide) ?_
  refine i_newa (atype := .int) (ty := .int) (n := 20) C hP hD hS 1 rfl (cA := Y.2.1) rfl (fun _ h => h) (hts (.arrayClass .int) (by decide +kernel)) (a0 := (20, .inl (fun _ => 0))) (N' := 20) (fun _ => rfl) (by decide) (by decide) (by show 20 * 4 ≤ 536870912; omega) (Nat.le_of_ble_eq_true rfl) (Nat.le_of_ble_eq_true rfl) dX0_init_47 (fun q47 H hP hD hS => ?_)
  have hP : va_P G vwCl [(h0, .inr (0, [.ref q7, .ref q15, .ref q23, .ref q31, .ref q39, .null, .null, .int 0, .int 0, .int 0, .int 0, .int 0, .int 0, .int 0, .int 0])), (q7, .inl (Y.2.1, 8, .inl (fun _ => 0))), (q15, .inl (Y.2.1, 64, .inl (fun _ => 0))), (q23, .inl (Y.2.1, 12, .inl (fun _ => 0))), (q31, .inl (Y.2.1, 12, .inl (fun _ => 0))), (q39, .inl (Y.2.1, 12, .inl (fun _ => 0))), (q47, .inl (Y.2.1, 20, .inl (fun _ => 0)))] H := hP
  have hD : va_D A [(h0, .inr (0, [.ref q7, .ref q15, .ref q23, .ref q31, .ref q39, .null, .null, .int 0, .int 0, .int 0, .int 0, .int 0, .int 0, .int 0, .int 0])), (q7, .inl (Y.2.1, 8, .inl (fun _ => 0))), (q15, .inl (Y.2.1, 64, .inl (fun _ => 0))), (q23, .inl (Y.2.1, 12, .inl (fun _ => 0))), (q31, .inl (Y.2.1, 12, .inl (fun _ => 0))), (q39, .inl (Y.2.1, 12, .inl (fun _ => 0))), (q47, .inl (Y.2.1, 20, .inl (fun _ => 0)))] := hD
  refine W.widen (k := 6) (n := 128) (by decide) (by decide) ?_
  refine va_putF (ci := 0) (v := .ref q47) hx hb hks.ts k_in0 tyX0 tyX0_ok nmX0 hown hks.1 hP hD hS 0 rfl rfl 5 (by decide) (hks.ts _ lk0_27) (fun _ h => h) rfl hname rfl (tyX0_ok 5 (by decide)) rfl rfl (Nat.le_of_ble_eq_true rfl) dX0_init_49 (fun H locs hP hD hS => ?_)
  have hP : va_P G vwCl [(h0, .inr (0, [.ref q7, .ref q15, .ref q23, .ref q31, .ref q39, .ref q47, .null, .int 0, .int 0, .int 0, .int 0, .int 0, .int 0, .int 0, .int 0])), (q7, .inl (Y.2.1, 8, .inl (fun _ => 0))), (q15, .inl (Y.2.1, 64, .inl (fun _ => 0))), (q23, .inl (Y.2.1, 12, .inl (fun _ => 0))), (q31, .inl (Y.2.1, 12, .inl (fun _ => 0))), (q39, .inl (Y.2.1, 12, .inl (fun _ => 0))), (q47, .inl (Y.2.1, 20, .inl (fun _ => 0)))] H := hP
  have hD : va_D A [(h0, .inr (0, [.ref q7, .ref q15, .ref q23, .ref q31, .ref q39, .ref q47, .null, .int 0, .int 0, .int 0, .int 0, .int 0, .int 0, .int 0, .int 0])), (q7, .inl (Y.2.1, 8, .inl (fun _ => 0))), (q15, .inl (Y.2.1, 64, .inl (fun _ => 0))), (q23, .inl (Y.2.1, 12, .inl (fun _ => 0))), (q31, .inl (Y.2.1, 12, .inl (fun _ => 0))), (q39, .inl (Y.2.1, 12, .inl (fun _ => 0))), (q47, .inl (Y.2.1, 20, .inl (fun _ => 0)))] := hD
  refine lv_aload_n hx hb dX0_init_52 rfl (lv_at hl 0 rfl) ?_
  refine va_new (ci := 4) (fs := [.null, .null, .null, .null, .null, .int 0]) (C := RX4) (T := TX4) (N := 6) hx hb hks.ts k_in4 tyX4 tyX4_ok hown (hts (.classLink RX0 30 RX4) (by decide +kernel)) (hts (.instantiable RX4 6) (by decide +kernel)) (hts (.initialized RX4) (by decide +kernel)) hks.1 hP hD hS hA rfl (by decide +kernel) (Nat.le_of_ble_eq_true rfl) (Nat.le_of_ble_eq_true rfl) dX0_init_53 (fun q53 H hP hD hS => ?_)
  have hP : va_P G vwCl [(h0, .inr (0, [.ref q7, .ref q15, .ref q23, .ref q31, .ref q39, .ref q47, .null, .int 0, .int 0, .int 0, .int 0, .int 0, .int 0, .int 0, .int 0])), (q7, .inl (Y.2.1, 8, .inl (fun _ => 0))), (q15, .inl (Y.2.1, 64, .inl (fun _ => 0))), (q23, .inl (Y.2.1, 12, .inl (fun _ => 0))), (q31, .inl (Y.2.1, 12, .inl (fun _ => 0))), (q39, .inl (Y.2.1, 12, .inl (fun _ => 0))), (q47, .inl (Y.2.1, 20, .inl (fun _ => 0))), (q53, .inr (4, [.null, .null, .null, .null, .null, .int 0]))] H := hP
  have hD : va_D A [(h0, .inr (0, [.ref q7, .ref q15, .ref q23, .ref q31, .ref q39, .ref q47, .null, .int 0, .int 0, .int 0, .int 0, .int 0, .int 0, .int 0, .int 0])), (q7, .inl (Y.2.1, 8, .inl (fun _ => 0))), (q15, .inl (Y.2.1, 64, .inl (fun _ => 0))), (q23, .inl (Y.2.1, 12, .inl (fun _ => 0))), (q31, .inl (Y.2.1, 12, .inl (fun _ => 0))), (q39, .inl (Y.2.1, 12, .inl (fun _ => 0))), (q47, .inl (Y.2.1, 20, .inl (fun _ => 0))), (q53, .inr (4, [.null, .null, .null, .null, .null, .int 0]))] := hD
  refine W.widen (k := 7) (n := 134) (by decide) (by decide) ?_
  refine lv_dup hx hb dX0_init_56 rfl ?_
  refine i_callN (wr := [(h0, .inr (0, [.ref q7, .ref q15, .ref q23, .ref q31, .ref q39, .ref q47, .null, .int 0, .int 0, .int 0, .int 0, .int 0, .int 0, .int 0, .int 0])), (q7, .inl (Y.2.1, 8, .inl (fun _ => 0))), (q15, .inl (Y.2.1, 64, .inl (fun _ => 0))), (q23, .inl (Y.2.1, 12, .inl (fun _ => 0))), (q31, .inl (Y.2.1, 12, .inl (fun _ => 0))), (q39, .inl (Y.2.1, 12, .inl (fun _ => 0))), (q47, .inl (Y.2.1, 20, .inl (fun _ => 0)))]) C hP hD hS (i_X4_init_17 l G Y q53 ) ⟨va_cnB 0 hts gX0_init_X4_init_n32 rfl rfl rfl (hks.2 _ lm0_32) (hts (.initialized RX4) (by decide +kernel)) (by decide +kernel) ⟨Nat.le_of_ble_eq_true rfl, Nat.le_of_ble_eq_true rfl⟩, rfl, hts (.instanceMethod yX4_init) (by decide +kernel)⟩ [7] [0, 1, 2, 3, 4, 5, 6] rfl rfl rfl (by decide) (by decide) (by decide) rfl hl.1 rfl (Nat.le_of_ble_eq_true rfl) ⟨Nat.le_of_ble_eq_true rfl, Nat.le_of_ble_eq_true rfl⟩ dX0_init_57 (fun u57 hu H57 locs hP9 hD9 hS9 => ?_)
  subst hu
  have hP : va_P G vwCl [(h0, .inr (0, [.ref q7, .ref q15, .ref q23, .ref q31, .ref q39, .ref q47, .null, .int 0, .int 0, .int 0, .int 0, .int 0, .int 0, .int 0, .int 0])), (q7, .inl (Y.2.1, 8, .inl (fun _ => 0))), (q15, .inl (Y.2.1, 64, .inl (fun _ => 0))), (q23, .inl (Y.2.1, 12, .inl (fun _ => 0))), (q31, .inl (Y.2.1, 12, .inl (fun _ => 0))), (q39, .inl (Y.2.1, 12, .inl (fun _ => 0))), (q47, .inl (Y.2.1, 20, .inl (fun _ => 0))), ((u57 17), .inr (4, FX4 u57 17 z0)), ((u57 18), .inl (Y.2.1, 64, .inl (z0.1 18))), ((u57 19), .inl (Y.2.1, 64, .inl (z0.1 19))), ((u57 20), .inl (Y.2.1, 3, .inl (z0.1 20))), ((u57 21), .inl (Y.2.1, 3, .inl (z0.1 21))), ((u57 22), .inl (Y.2.2.1, 64, .inr (.inl (z0.2 22))))] H57 := hP9
  have hD : va_D A [(h0, .inr (0, [.ref q7, .ref q15, .ref q23, .ref q31, .ref q39, .ref q47, .null, .int 0, .int 0, .int 0, .int 0, .int 0, .int 0, .int 0, .int 0])), (q7, .inl (Y.2.1, 8, .inl (fun _ => 0))), (q15, .inl (Y.2.1, 64, .inl (fun _ => 0))), (q23, .inl (Y.2.1, 12, .inl (fun _ => 0))), (q31, .inl (Y.2.1, 12, .inl (fun _ => 0))), (q39, .inl (Y.2.1, 12, .inl (fun _ => 0))), (q47, .inl (Y.2.1, 20, .inl (fun _ => 0))), ((u57 17), .inr (4, FX4 u57 17 z0)), ((u57 18), .inl (Y.2.1, 64, .inl (z0.1 18))), ((u57 19), .inl (Y.2.1, 64, .inl (z0.1 19))), ((u57 20), .inl (Y.2.1, 3, .inl (z0.1 20))), ((u57 21), .inl (Y.2.1, 3, .inl (z0.1 21))), ((u57 22), .inl (Y.2.2.1, 64, .inr (.inl (z0.2 22))))] := hD9
  have hS := hS9
  refine W.widen (k := 12) (n := 332) (by decide) (by decide) ?_
  refine va_putF (ci := 0) (v := .ref (u57 17)) hx hb hks.ts k_in0 tyX0 tyX0_ok nmX0 hown hks.1 hP hD hS 0 rfl rfl 6 (by decide) (hks.ts _ lk0_33) (fun _ h => h) rfl hname rfl (tyX0_ok 6 (by decide)) rfl rfl (Nat.le_of_ble_eq_true rfl) dX0_init_60 (fun H locs hP hD hS => ?_)
  have hP : va_P G vwCl [(h0, .inr (0, [.ref q7, .ref q15, .ref q23, .ref q31, .ref q39, .ref q47, .ref (u57 17), .int 0, .int 0, .int 0, .int 0, .int 0, .int 0, .int 0, .int 0])), (q7, .inl (Y.2.1, 8, .inl (fun _ => 0))), (q15, .inl (Y.2.1, 64, .inl (fun _ => 0))), (q23, .inl (Y.2.1, 12, .inl (fun _ => 0))), (q31, .inl (Y.2.1, 12, .inl (fun _ => 0))), (q39, .inl (Y.2.1, 12, .inl (fun _ => 0))), (q47, .inl (Y.2.1, 20, .inl (fun _ => 0))), ((u57 17), .inr (4, FX4 u57 17 z0)), ((u57 18), .inl (Y.2.1, 64, .inl (z0.1 18))), ((u57 19), .inl (Y.2.1, 64, .inl (z0.1 19))), ((u57 20), .inl (Y.2.1, 3, .inl (z0.1 20))), ((u57 21), .inl (Y.2.1, 3, .inl (z0.1 21))), ((u57 22), .inl (Y.2.2.1, 64, .inr (.inl (z0.2 22))))] H := hP
  have hD : va_D A [(h0, .inr (0, [.ref q7, .ref q15, .ref q23, .ref q31, .ref q39, .ref q47, .ref (u57 17), .int 0, .int 0, .int 0, .int 0, .int 0, .int 0, .int 0, .int 0])), (q7, .inl (Y.2.1, 8, .inl (fun _ => 0))), (q15, .inl (Y.2.1, 64, .inl (fun _ => 0))), (q23, .inl (Y.2.1, 12, .inl (fun _ => 0))), (q31, .inl (Y.2.1, 12, .inl (fun _ => 0))), (q39, .inl (Y.2.1, 12, .inl (fun _ => 0))), (q47, .inl (Y.2.1, 20, .inl (fun _ => 0))), ((u57 17), .inr (4, FX4 u57 17 z0)), ((u57 18), .inl (Y.2.1, 64, .inl (z0.1 18))), ((u57 19), .inl (Y.2.1, 64, .inl (z0.1 19))), ((u57 20), .inl (Y.2.1, 3, .inl (z0.1 20))), ((u57 21), .inl (Y.2.1, 3, .inl (z0.1 21))), ((u57 22), .inl (Y.2.2.1, 64, .inr (.inl (z0.2 22))))] := hD
  exact t_X0_init C (fun σ => CC0_10 Y σ (fun k => if k = 10 then h0 else if k = 11 then q7 else if k = 12 then q15 else if k = 13 then q23 else if k = 14 then q31 else if k = 15 then q39 else if k = 16 then q47 else if k = 17 then (u57 17) else if k = 18 then (u57 18) else if k = 19 then (u57 19) else if k = 20 then (u57 20) else if k = 21 then (u57 21) else (u57 22))) (fun k => if k = 10 then h0 else if k = 11 then q7 else if k = 12 then q15 else if k = 13 then q23 else if k = 14 then q31 else if k = 15 then q39 else if k = 16 then q47 else if k = 17 then (u57 17) else if k = 18 then (u57 18) else if k = 19 then (u57 19) else if k = 20 then (u57 20) else if k = 21 then (u57 21) else (u57 22)) 10 (layH_10 (fun k => if k = 10 then h0 else if k = 11 then q7 else if k = 12 then q15 else if k = 13 then q23 else if k = 14 then q31 else if k = 15 then q39 else if k = 16 then q47 else if k = 17 then (u57 17) else if k = 18 then (u57 18) else if k = 19 then (u57 19) else if k = 20 then (u57 20) else if k = 21 then (u57 21) else (u57 22)) Y) ⟨Nat.le_of_ble_eq_true rfl, Nat.le_of_ble_eq_true rfl⟩ z0 σ1 hq (CC0_10 Y σ1) rfl rfl ls hl _ _ ⟨hP.sub [0, 1, 2, 3, 4, 5, 6, 7, 8, 9, 10, 11, 12] rfl, hD.sub [0, 1, 2, 3, 4, 5, 6, 7, 8, 9, 10, 11, 12] (by decide) rfl, hS⟩
def CC0_30 (Y : CY) (σ : MSt) (u : Nat → Nat) : va_W := [
  (u 30, .inr (0, FX0 u 30 σ)),
  (u 31, .inl (Y.2.1, 8, .inl (σ.1 31))),
  (u 32, .inl (Y.2.1, 64, .inl (σ.1 32))),
  (u 33, .inl (Y.2.1, 12, .inl (σ.1 33))),
  (u 34, .inl (Y.2.1, 12, .inl (σ.1 34))),
  (u 35, .inl (Y.2.1, 12, .inl (σ.1 35))),
  (u 36, .inl (Y.2.1, 20, .inl (σ.1 36))),
  (u 37, .inr (4, FX4 u 37 σ)),
  (u 38, .inl (Y.2.1, 64, .inl (σ.1 38))),
  (u 39, .inl (Y.2.1, 64, .inl (σ.1 39))),
  (u 40, .inl (Y.2.1, 3, .inl (σ.1 40))),
  (u 41, .inl (Y.2.1, 3, .inl (σ.1 41))),
  (u 42, .inl (Y.2.2.1, 64, .inr (.inl (σ.2 42))))]
abbrev rmi0_30 : Room := rmi0_10
set_option maxHeartbeats 4000000 in
theorem WH_30 (u : Nat → Nat) (Y : CY) : HO u (fun σ => CC0_30 Y σ u) 30 0 (FX0 u 30) := by
  refine ⟨0, fun σ => rfl, fun σ j v h => ?_, fun σ j v h => ?_, fun σ j t h7 h ht => ?_⟩
  · match j, h with
    | 0, h => exact absurd (Option.some.inj h) (by intro q; cases q)
    | 1, h => exact absurd (Option.some.inj h) (by intro q; cases q)
    | 2, h => exact absurd (Option.some.inj h) (by intro q; cases q)
    | 3, h => exact absurd (Option.some.inj h) (by intro q; cases q)
    | 4, h => exact absurd (Option.some.inj h) (by intro q; cases q)
    | 5, h => exact absurd (Option.some.inj h) (by intro q; cases q)
    | 6, h => exact absurd (Option.some.inj h) (by intro q; cases q)
    | 7, h => rfl
    | 8, h => rfl
    | 9, h => rfl
    | 10, h => rfl
    | 11, h => rfl
    | 12, h => rfl
    | 13, h => rfl
    | 14, h => rfl
    | j + 15, h => cases h
  · match j, h with
    | 0, h => exact absurd (Option.some.inj h) (by intro q; cases q)
    | 1, h => exact absurd (Option.some.inj h) (by intro q; cases q)
    | 2, h => exact absurd (Option.some.inj h) (by intro q; cases q)
    | 3, h => exact absurd (Option.some.inj h) (by intro q; cases q)
    | 4, h => exact absurd (Option.some.inj h) (by intro q; cases q)
    | 5, h => exact absurd (Option.some.inj h) (by intro q; cases q)
    | 6, h => exact absurd (Option.some.inj h) (by intro q; cases q)
    | 7, h => exact absurd (Option.some.inj h) (by intro q; cases q)
    | 8, h => exact absurd (Option.some.inj h) (by intro q; cases q)
    | 9, h => exact absurd (Option.some.inj h) (by intro q; cases q)
    | 10, h => exact absurd (Option.some.inj h) (by intro q; cases q)
    | 11, h => exact absurd (Option.some.inj h) (by intro q; cases q)
    | 12, h => exact absurd (Option.some.inj h) (by intro q; cases q)
    | 13, h => exact absurd (Option.some.inj h) (by intro q; cases q)
    | 14, h => exact absurd (Option.some.inj h) (by intro q; cases q)
    | j + 15, h => cases h
  · exact absurd h7.1 (by decide)
theorem WH_31 (u : Nat → Nat) (Y : CY) : HA u (fun σ => CC0_30 Y σ u) 31 Y.2.1 8 := ⟨1, fun σ => rfl, fun σ i v => rfl⟩
theorem WH_32 (u : Nat → Nat) (Y : CY) : HA u (fun σ => CC0_30 Y σ u) 32 Y.2.1 64 := ⟨2, fun σ => rfl, fun σ i v => rfl⟩
theorem WH_33 (u : Nat → Nat) (Y : CY) : HA u (fun σ => CC0_30 Y σ u) 33 Y.2.1 12 := ⟨3, fun σ => rfl, fun σ i v => rfl⟩
theorem WH_34 (u : Nat → Nat) (Y : CY) : HA u (fun σ => CC0_30 Y σ u) 34 Y.2.1 12 := ⟨4, fun σ => rfl, fun σ i v => rfl⟩
theorem WH_35 (u : Nat → Nat) (Y : CY) : HA u (fun σ => CC0_30 Y σ u) 35 Y.2.1 12 := ⟨5, fun σ => rfl, fun σ i v => rfl⟩
theorem WH_36 (u : Nat → Nat) (Y : CY) : HA u (fun σ => CC0_30 Y σ u) 36 Y.2.1 20 := ⟨6, fun σ => rfl, fun σ i v => rfl⟩
set_option maxHeartbeats 4000000 in
theorem WH_37 (u : Nat → Nat) (Y : CY) : HO u (fun σ => CC0_30 Y σ u) 37 4 (FX4 u 37) := by
  refine ⟨7, fun σ => rfl, fun σ j v h => ?_, fun σ j v h => ?_, fun σ j t h7 h ht => ?_⟩
  · match j, h with
    | 0, h => exact absurd (Option.some.inj h) (by intro q; cases q)
    | 1, h => exact absurd (Option.some.inj h) (by intro q; cases q)
    | 2, h => exact absurd (Option.some.inj h) (by intro q; cases q)
    | 3, h => exact absurd (Option.some.inj h) (by intro q; cases q)
    | 4, h => exact absurd (Option.some.inj h) (by intro q; cases q)
    | 5, h => rfl
    | j + 6, h => cases h
  · match j, h with
    | 0, h => exact absurd (Option.some.inj h) (by intro q; cases q)
    | 1, h => exact absurd (Option.some.inj h) (by intro q; cases q)
    | 2, h => exact absurd (Option.some.inj h) (by intro q; cases q)
    | 3, h => exact absurd (Option.some.inj h) (by intro q; cases q)
    | 4, h => exact absurd (Option.some.inj h) (by intro q; cases q)
    | 5, h => exact absurd (Option.some.inj h) (by intro q; cases q)
    | j + 6, h => cases h
  · exact absurd h7.1 (by decide)
theorem WH_38 (u : Nat → Nat) (Y : CY) : HA u (fun σ => CC0_30 Y σ u) 38 Y.2.1 64 := ⟨8, fun σ => rfl, fun σ i v => rfl⟩
theorem WH_39 (u : Nat → Nat) (Y : CY) : HA u (fun σ => CC0_30 Y σ u) 39 Y.2.1 64 := ⟨9, fun σ => rfl, fun σ i v => rfl⟩
theorem WH_40 (u : Nat → Nat) (Y : CY) : HA u (fun σ => CC0_30 Y σ u) 40 Y.2.1 3 := ⟨10, fun σ => rfl, fun σ i v => rfl⟩
theorem WH_41 (u : Nat → Nat) (Y : CY) : HA u (fun σ => CC0_30 Y σ u) 41 Y.2.1 3 := ⟨11, fun σ => rfl, fun σ i v => rfl⟩
theorem WH_42 (u : Nat → Nat) (Y : CY) : HL u (fun σ => CC0_30 Y σ u) 42 Y.2.2.1 64 := ⟨12, fun σ => rfl, fun σ i v => rfl⟩
theorem layH_30 (u : Nat → Nat) (Y : CY) : LayX0 u (fun σ => CC0_30 Y σ u) Y 30 := ⟨WH_30 u Y, WH_31 u Y, WH_32 u Y, WH_33 u Y, WH_34 u Y, WH_35 u Y, WH_36 u Y, ⟨WH_37 u Y, WH_38 u Y, WH_39 u Y, WH_40 u Y, WH_41 u Y, WH_42 u Y⟩⟩
set_option maxHeartbeats 4000000 in
set_option maxRecDepth 100000 in
theorem i_X0_init_30 (l : Launch) (G : va_G) (Y : CY) (h0 : Nat) (σ1 : MSt) (hq : f_X0_init_t 30 z0 = some σ1) : i_M l yX0_init wsX0_init rmi0_30 G Y [(h0, .inr (0, [.null, .null, .null, .null, .null, .null, .null, .int 0, .int 0, .int 0, .int 0, .int 0, .int 0, .int 0, .int 0]))] [.ref h0] 30 h0 (CC0_30 Y σ1) 12 332 := by
  refine i_of (own := RX0) (cc := cX0_init) (maxL := 1) (by decide) rfl rfl rfl (Nat.le_of_ble_eq_true rfl) ?_
  intro p e s m below meth c A C hname ls hl hP hD hS
  have hx := C.1
  have hb := C.2.1
  have hown := C.2.2.2.2.1
  have hts := C.2.2.2.2.2.1
  have hks := C.2.2.2.2.2.2.1
  have hA := C.2.2.2.2.2.2.2.2.1
  have hl : lv_has ls 1 [(0, .ref h0)] := hl
  refine lv_aload_n hx hb dX0_init_0 rfl (lv_at hl 0 rfl) ?_
  refine W.objInit hx hb hown (hts (.methodLink RX0 3 objectInit) (by decide +kernel)) (hts (.instanceMethod objectInit) (by decide +kernel)) (hts (.code objectInit ⟨#[0xb1]⟩ 1 none) (by decide +kernel)) rfl (by rw [C.2.2.2.1]; exact hl.1) rfl dX0_init_1 (Nat.le_of_ble_eq_true rfl) (Nat.le_of_ble_eq_true rfl) ?_
  refine W.eq (g2 := F0 m 4 ls []) rfl ?_
  refine lv_aload_n hx hb dX0_init_4 rfl (lv_at hl 0 rfl) ?_
  refine lv_bipush (v := (8 : Int32)) hx hb dX0_init_5 (by decide) ?_
  refine i_newa (atype := .int) (ty := .int) (n := 8) C hP hD hS 1 rfl (cA := Y.2.1) rfl (fun _ h => h) (hts (.arrayClass .int) (by decide +kernel)) (a0 := (8, .inl (fun _ => 0))) (N' := 8) (fun _ => rfl) (by decide) (by decide) (by show 8 * 4 ≤ 536870912; omega) (Nat.le_of_ble_eq_true rfl) (Nat.le_of_ble_eq_true rfl) dX0_init_7 (fun q7 H hP hD hS => ?_)
  have hP : va_P G vwCl [(h0, .inr (0, [.null, .null, .null, .null, .null, .null, .null, .int 0, .int 0, .int 0, .int 0, .int 0, .int 0, .int 0, .int 0])), (q7, .inl (Y.2.1, 8, .inl (fun _ => 0)))] H := hP
  have hD : va_D A [(h0, .inr (0, [.null, .null, .null, .null, .null, .null, .null, .int 0, .int 0, .int 0, .int 0, .int 0, .int 0, .int 0, .int 0])), (q7, .inl (Y.2.1, 8, .inl (fun _ => 0)))] := hD
  refine W.widen (k := 1) (n := 8) (by decide) (by decide) ?_
  refine va_putF (ci := 0) (v := .ref q7) hx hb hks.ts k_in0 tyX0 tyX0_ok nmX0 hown hks.1 hP hD hS 0 rfl rfl 0 (by decide) (hks.ts _ lk0_9) (fun _ h => h) rfl hname rfl (tyX0_ok 0 (by decide)) rfl rfl (Nat.le_of_ble_eq_true rfl) dX0_init_9 (fun H locs hP hD hS => ?_)
  have hP : va_P G vwCl [(h0, .inr (0, [.ref q7, .null, .null, .null, .null, .null, .null, .int 0, .int 0, .int 0, .int 0, .int 0, .int 0, .int 0, .int 0])), (q7, .inl (Y.2.1, 8, .inl (fun _ => 0)))] H := hP
  have hD : va_D A [(h0, .inr (0, [.ref q7, .null, .null, .null, .null, .null, .null, .int 0, .int 0, .int 0, .int 0, .int 0, .int 0, .int 0, .int 0])), (q7, .inl (Y.2.1, 8, .inl (fun _ => 0)))] := hD
  refine lv_aload_n hx hb dX0_init_12 rfl (lv_at hl 0 rfl) ?_
  refine lv_bipush (v := (64 : Int32)) hx hb dX0_init_13 (by decide) ?_
  refine i_newa (atype := .int) (ty := .int) (n := 64) C hP hD hS 1 rfl (cA := Y.2.1) rfl (fun _ h => h) (hts (.arrayClass .int) (by decide +kernel)) (a0 := (64, .inl (fun _ => 0))) (N' := 64) (fun _ => rfl) (by decide) (by decide) (by show 64 * 4 ≤ 536870912; omega) (Nat.le_of_ble_eq_true rfl) (Nat.le_of_ble_eq_true rfl) dX0_init_15 (fun q15 H hP hD hS => ?_)
  have hP : va_P G vwCl [(h0, .inr (0, [.ref q7, .null, .null, .null, .null, .null, .null, .int 0, .int 0, .int 0, .int 0, .int 0, .int 0, .int 0, .int 0])), (q7, .inl (Y.2.1, 8, .inl (fun _ => 0))), (q15, .inl (Y.2.1, 64, .inl (fun _ => 0)))] H := hP
  have hD : va_D A [(h0, .inr (0, [.ref q7, .null, .null, .null, .null, .null, .null, .int 0, .int 0, .int 0, .int 0, .int 0, .int 0, .int 0, .int 0])), (q7, .inl (Y.2.1, 8, .inl (fun _ => 0))), (q15, .inl (Y.2.1, 64, .inl (fun _ => 0)))] := hD
  refine W.widen (k := 2) (n := 72) (by decide) (by decide) ?_
  refine va_putF (ci := 0) (v := .ref q15) hx hb hks.ts k_in0 tyX0 tyX0_ok nmX0 hown hks.1 hP hD hS 0 rfl rfl 1 (by decide) (hks.ts _ lk0_15) (fun _ h => h) rfl hname rfl (tyX0_ok 1 (by decide)) rfl rfl (Nat.le_of_ble_eq_true rfl) dX0_init_17 (fun H locs hP hD hS => ?_)
  have hP : va_P G vwCl [(h0, .inr (0, [.ref q7, .ref q15, .null, .null, .null, .null, .null, .int 0, .int 0, .int 0, .int 0, .int 0, .int 0, .int 0, .int 0])), (q7, .inl (Y.2.1, 8, .inl (fun _ => 0))), (q15, .inl (Y.2.1, 64, .inl (fun _ => 0)))] H := hP
  have hD : va_D A [(h0, .inr (0, [.ref q7, .ref q15, .null, .null, .null, .null, .null, .int 0, .int 0, .int 0, .int 0, .int 0, .int 0, .int 0, .int 0])), (q7, .inl (Y.2.1, 8, .inl (fun _ => 0))), (q15, .inl (Y.2.1, 64, .inl (fun _ => 0)))] := hD
  refine lv_aload_n hx hb dX0_init_20 rfl (lv_at hl 0 rfl) ?_
  refine lv_bipush (v := (12 : Int32)) hx hb dX0_init_21 (by decide) ?_
  refine i_newa (atype := .int) (ty := .int) (n := 12) C hP hD hS 1 rfl (cA := Y.2.1) rfl (fun _ h => h) (hts (.arrayClass .int) (by decide +kernel)) (a0 := (12, .inl (fun _ => 0))) (N' := 12) (fun _ => rfl) (by decide) (by decide) (by show 12 * 4 ≤ 536870912; omega) (Nat.le_of_ble_eq_true rfl) (Nat.le_of_ble_eq_true rfl) dX0_init_23 (fun q23 H hP hD hS => ?_)
  have hP : va_P G vwCl [(h0, .inr (0, [.ref q7, .ref q15, .null, .null, .null, .null, .null, .int 0, .int 0, .int 0, .int 0, .int 0, .int 0, .int 0, .int 0])), (q7, .inl (Y.2.1, 8, .inl (fun _ => 0))), (q15, .inl (Y.2.1, 64, .inl (fun _ => 0))), (q23, .inl (Y.2.1, 12, .inl (fun _ => 0)))] H := hP
  have hD : va_D A [(h0, .inr (0, [.ref q7, .ref q15, .null, .null, .null, .null, .null, .int 0, .int 0, .int 0, .int 0, .int 0, .int 0, .int 0, .int 0])), (q7, .inl (Y.2.1, 8, .inl (fun _ => 0))), (q15, .inl (Y.2.1, 64, .inl (fun _ => 0))), (q23, .inl (Y.2.1, 12, .inl (fun _ => 0)))] := hD
  refine W.widen (k := 3) (n := 84) (by decide) (by decide) ?_
  refine va_putF (ci := 0) (v := .ref q23) hx hb hks.ts k_in0 tyX0 tyX0_ok nmX0 hown hks.1 hP hD hS 0 rfl rfl 2 (by decide) (hks.ts _ lk0_18) (fun _ h => h) rfl hname rfl (tyX0_ok 2 (by decide)) rfl rfl (Nat.le_of_ble_eq_true rfl) dX0_init_25 (fun H locs hP hD hS => ?_)
  have hP : va_P G vwCl [(h0, .inr (0, [.ref q7, .ref q15, .ref q23, .null, .null, .null, .null, .int 0, .int 0, .int 0, .int 0, .int 0, .int 0, .int 0, .int 0])), (q7, .inl (Y.2.1, 8, .inl (fun _ => 0))), (q15, .inl (Y.2.1, 64, .inl (fun _ => 0))), (q23, .inl (Y.2.1, 12, .inl (fun _ => 0)))] H := hP
  have hD : va_D A [(h0, .inr (0, [.ref q7, .ref q15, .ref q23, .null, .null, .null, .null, .int 0, .int 0, .int 0, .int 0, .int 0, .int 0, .int 0, .int 0])), (q7, .inl (Y.2.1, 8, .inl (fun _ => 0))), (q15, .inl (Y.2.1, 64, .inl (fun _ => 0))), (q23, .inl (Y.2.1, 12, .inl (fun _ => 0)))] := hD
  refine lv_aload_n hx hb dX0_init_28 rfl (lv_at hl 0 rfl) ?_
  refine lv_bipush (v := (12 : Int32)) hx hb dX0_init_29 (by decide) ?_
  refine i_newa (atype := .int) (ty := .int) (n := 12) C hP hD hS 1 rfl (cA := Y.2.1) rfl (fun _ h => h) (hts (.arrayClass .int) (by decide +kernel)) (a0 := (12, .inl (fun _ => 0))) (N' := 12) (fun _ => rfl) (by decide) (by decide) (by show 12 * 4 ≤ 536870912; omega) (Nat.le_of_ble_eq_true rfl) (Nat.le_of_ble_eq_true rfl) dX0_init_31 (fun q31 H hP hD hS => ?_)
  have hP : va_P G vwCl [(h0, .inr (0, [.ref q7, .ref q15, .ref q23, .null, .null, .null, .null, .int 0, .int 0, .int 0, .int 0, .int 0, .int 0, .int 0, .int 0])), (q7, .inl (Y.2.1, 8, .inl (fun _ => 0))), (q15, .inl (Y.2.1, 64, .inl (fun _ => 0))), (q23, .inl (Y.2.1, 12, .inl (fun _ => 0))), (q31, .inl (Y.2.1, 12, .inl (fun _ => 0)))] H := hP
  have hD : va_D A [(h0, .inr (0, [.ref q7, .ref q15, .ref q23, .null, .null, .null, .null, .int 0, .int 0, .int 0, .int 0, .int 0, .int 0, .int 0, .int 0])), (q7, .inl (Y.2.1, 8, .inl (fun _ => 0))), (q15, .inl (Y.2.1, 64, .inl (fun _ => 0))), (q23, .inl (Y.2.1, 12, .inl (fun _ => 0))), (q31, .inl (Y.2.1, 12, .inl (fun _ => 0)))] := hD
  refine W.widen (k := 4) (n := 96) (by decide) (by decide) ?_
  refine va_putF (ci := 0) (v := .ref q31) hx hb hks.ts k_in0 tyX0 tyX0_ok nmX0 hown hks.1 hP hD hS 0 rfl rfl 3 (by decide) (hks.ts _ lk0_21) (fun _ h => h) rfl hname rfl (tyX0_ok 3 (by decide)) rfl rfl (Nat.le_of_ble_eq_true rfl) dX0_init_33 (fun H locs hP hD hS => ?_)
  have hP : va_P G vwCl [(h0, .inr (0, [.ref q7, .ref q15, .ref q23, .ref q31, .null, .null, .null, .int 0, .int 0, .int 0, .int 0, .int 0, .int 0, .int 0, .int 0])), (q7, .inl (Y.2.1, 8, .inl (fun _ => 0))), (q15, .inl (Y.2.1, 64, .inl (fun _ => 0))), (q23, .inl (Y.2.1, 12, .inl (fun _ => 0))), (q31, .inl (Y.2.1, 12, .inl (fun _ => 0)))] H := hP
  have hD : va_D A [(h0, .inr (0, [.ref q7, .ref q15, .ref q23, .ref q31, .null, .null, .null, .int 0, .int 0, .int 0, .int 0, .int 0, .int 0, .int 0, .int 0])), (q7, .inl (Y.2.1, 8, .inl (fun _ => 0))), (q15, .inl (Y.2.1, 64, .inl (fun _ => 0))), (q23, .inl (Y.2.1, 12, .inl (fun _ => 0))), (q31, .inl (Y.2.1, 12, .inl (fun _ => 0)))] := hD
  refine lv_aload_n hx hb dX0_init_36 rfl (lv_at hl 0 rfl) ?_
  refine lv_bipush (v := (12 : Int32)) hx hb dX0_init_37 (by decide) ?_
  refine i_newa (atype := .int) (ty := .int) (n := 12) C hP hD hS 1 rfl (cA := Y.2.1) rfl (fun _ h => h) (hts (.arrayClass .int) (by decide +kernel)) (a0 := (12, .inl (fun _ => 0))) (N' := 12) (fun _ => rfl) (by decide) (by decide) (by show 12 * 4 ≤ 536870912; omega) (Nat.le_of_ble_eq_true rfl) (Nat.le_of_ble_eq_true rfl) dX0_init_39 (fun q39 H hP hD hS => ?_)
  have hP : va_P G vwCl [(h0, .inr (0, [.ref q7, .ref q15, .ref q23, .ref q31, .null, .null, .null, .int 0, .int 0, .int 0, .int 0, .int 0, .int 0, .int 0, .int 0])), (q7, .inl (Y.2.1, 8, .inl (fun _ => 0))), (q15, .inl (Y.2.1, 64, .inl (fun _ => 0))), (q23, .inl (Y.2.1, 12, .inl (fun _ => 0))), (q31, .inl (Y.2.1, 12, .inl (fun _ => 0))), (q39, .inl (Y.2.1, 12, .inl (fun _ => 0)))] H := hP
  have hD : va_D A [(h0, .inr (0, [.ref q7, .ref q15, .ref q23, .ref q31, .null, .null, .null, .int 0, .int 0, .int 0, .int 0, .int 0, .int 0, .int 0, .int 0])), (q7, .inl (Y.2.1, 8, .inl (fun _ => 0))), (q15, .inl (Y.2.1, 64, .inl (fun _ => 0))), (q23, .inl (Y.2.1, 12, .inl (fun _ => 0))), (q31, .inl (Y.2.1, 12, .inl (fun _ => 0))), (q39, .inl (Y.2.1, 12, .inl (fun _ => 0)))] := hD
  refine W.widen (k := 5) (n := 108) (by decide) (by decide) ?_
  refine va_putF (ci := 0) (v := .ref q39) hx hb hks.ts k_in0 tyX0 tyX0_ok nmX0 hown hks.1 hP hD hS 0 rfl rfl 4 (by decide) (hks.ts _ lk0_24) (fun _ h => h) rfl hname rfl (tyX0_ok 4 (by decide)) rfl rfl (Nat.le_of_ble_eq_true rfl) dX0_init_41 (fun H locs hP hD hS => ?_)
  have hP : va_P G vwCl [(h0, .inr (0, [.ref q7, .ref q15, .ref q23, .ref q31, .ref q39, .null, .null, .int 0, .int 0, .int 0, .int 0, .int 0, .int 0, .int 0, .int 0])), (q7, .inl (Y.2.1, 8, .inl (fun _ => 0))), (q15, .inl (Y.2.1, 64, .inl (fun _ => 0))), (q23, .inl (Y.2.1, 12, .inl (fun _ => 0))), (q31, .inl (Y.2.1, 12, .inl (fun _ => 0))), (q39, .inl (Y.2.1, 12, .inl (fun _ => 0)))] H := hP
  have hD : va_D A [(h0, .inr (0, [.ref q7, .ref q15, .ref q23, .ref q31, .ref q39, .null, .null, .int 0, .int 0, .int 0, .int 0, .int 0, .int 0, .int 0, .int 0])), (q7, .inl (Y.2.1, 8, .inl (fun _ => 0))), (q15, .inl (Y.2.1, 64, .inl (fun _ => 0))), (q23, .inl (Y.2.1, 12, .inl (fun _ => 0))), (q31, .inl (Y.2.1, 12, .inl (fun _ => 0))), (q39, .inl (Y.2.1, 12, .inl (fun _ => 0)))] := hD
  refine lv_aload_n hx hb dX0_init_44 rfl (lv_at hl 0 rfl) ?_
  refine lv_bipush (v := (20 : Int32)) hx hb dX0_init_45 (by decide) ?_
  refine i_newa (atype := .int) (ty := .int) (n := 20) C hP hD hS 1 rfl (cA := Y.2.1) rfl (fun _ h => h) (hts (.arrayClass .int) (by decide +kernel)) (a0 := (20, .inl (fun _ => 0))) (N' := 20) (fun _ => rfl) (by decide) (by decide) (by show 20 * 4 ≤ 536870912; omega) (Nat.le_of_ble_eq_true rfl) (Nat.le_of_ble_eq_true rfl) dX0_init_47 (fun q47 H hP hD hS => ?_)
  have hP : va_P G vwCl [(h0, .inr (0, [.ref q7, .ref q15, .ref q23, .ref q31, .ref q39, .null, .null, .int 0, .int 0, .int 0, .int 0, .int 0, .int 0, .int 0, .int 0])), (q7, .inl (Y.2.1, 8, .inl (fun _ => 0))), (q15, .inl (Y.2.1, 64, .inl (fun _ => 0))), (q23, .inl (Y.2.1, 12, .inl (fun _ => 0))), (q31, .inl (Y.2.1, 12, .inl (fun _ => 0))), (q39, .inl (Y.2.1, 12, .inl (fun _ => 0))), (q47, .inl (Y.2.1, 20, .inl (fun _ => 0)))] H := hP
  have hD : va_D A [(h0, .inr (0, [.ref q7, .ref q15, .ref q23, .ref q31, .ref q39, .null, .null, .int 0, .int 0, .int 0, .int 0, .int 0, .int 0, .int 0, .int 0])), (q7, .inl (Y.2.1, 8, .inl (fun _ => 0))), (q15, .inl (Y.2.1, 64, .inl (fun _ => 0))), (q23, .inl (Y.2.1, 12, .inl (fun _ => 0))), (q31, .inl (Y.2.1, 12, .inl (fun _ => 0))), (q39, .inl (Y.2.1, 12, .inl (fun _ => 0))), (q47, .inl (Y.2.1, 20, .inl (fun _ => 0)))] := hD
  refine W.widen (k := 6) (n := 128) (by decide) (by decide) ?_
  refine va_putF (ci := 0) (v := .ref q47) hx hb hks.ts k_in0 tyX0 tyX0_ok nmX0 hown hks.1 hP hD hS 0 rfl rfl 5 (by decide) (hks.ts _ lk0_27) (fun _ h => h) rfl hname rfl (tyX0_ok 5 (by decide)) rfl rfl (Nat.le_of_ble_eq_true rfl) dX0_init_49 (fun H locs hP hD hS => ?_)
  have hP : va_P G vwCl [(h0, .inr (0, [.ref q7, .ref q15, .ref q23, .ref q31, .ref q39, .ref q47, .null, .int 0, .int 0, .int 0, .int 0, .int 0, .int 0, .int 0, .int 0])), (q7, .inl (Y.2.1, 8, .inl (fun _ => 0))), (q15, .inl (Y.2.1, 64, .inl (fun _ => 0))), (q23, .inl (Y.2.1, 12, .inl (fun _ => 0))), (q31, .inl (Y.2.1, 12, .inl (fun _ => 0))), (q39, .inl (Y.2.1, 12, .inl (fun _ => 0))), (q47, .inl (Y.2.1, 20, .inl (fun _ => 0)))] H := hP
  have hD : va_D A [(h0, .inr (0, [.ref q7, .ref q15, .ref q23, .ref q31, .ref q39, .ref q47, .null, .int 0, .int 0, .int 0, .int 0, .int 0, .int 0, .int 0, .int 0])), (q7, .inl (Y.2.1, 8, .inl (fun _ => 0))), (q15, .inl (Y.2.1, 64, .inl (fun _ => 0))), (q23, .inl (Y.2.1, 12, .inl (fun _ => 0))), (q31, .inl (Y.2.1, 12, .inl (fun _ => 0))), (q39, .inl (Y.2.1, 12, .inl (fun _ => 0))), (q47, .inl (Y.2.1, 20, .inl (fun _ => 0)))] := hD
  refine lv_aload_n hx hb dX0_init_52 rfl (lv_at hl 0 rfl) ?_
  refine va_new (ci := 4) (fs := [.null, .null, .null, .null, .null, .int 0]) (C := RX4) (T := TX4) (N := 6) hx hb hks.ts k_in4 tyX4 tyX4_ok hown (hts (.classLink RX0 30 RX4) (by decide +kernel)) (hts (.instantiable RX4 6) (by decide +kernel)) (hts (.initialized RX4) (by decide +kernel)) hks.1 hP hD hS hA rfl (by decide +kernel) (Nat.le_of_ble_eq_true rfl) (Nat.le_of_ble_eq_true rfl) dX0_init_53 (fun q53 H hP hD hS => ?_)
  have hP : va_P G vwCl [(h0, .inr (0, [.ref q7, .ref q15, .ref q23, .ref q31, .ref q39, .ref q47, .null, .int 0, .int 0, .int 0, .int 0, .int 0, .int 0, .int 0, .int 0])), (q7, .inl (Y.2.1, 8, .inl (fun _ => 0))), (q15, .inl (Y.2.1, 64, .inl (fun _ => 0))), (q23, .inl (Y.2.1, 12, .inl (fun _ => 0))), (q31, .inl (Y.2.1, 12, .inl (fun _ => 0))), (q39, .inl (Y.2.1, 12, .inl (fun _ => 0))), (q47, .inl (Y.2.1, 20, .inl (fun _ => 0))), (q53, .inr (4, [.null, .null, .null, .null, .null, .int 0]))] H := hP
  have hD : va_D A [(h0, .inr (0, [.ref q7, .ref q15, .ref q23, .ref q31, .ref q39, .ref q47, .null, .int 0, .int 0, .int 0, .int 0, .int 0, .int 0, .int 0, .int 0])), (q7, .inl (Y.2.1, 8, .inl (fun _ => 0))), (q15, .inl (Y.2.1, 64, .inl (fun _ => 0))), (q23, .inl (Y.2.1, 12, .inl (fun _ => 0))), (q31, .inl (Y.2.1, 12, .inl (fun _ => 0))), (q39, .inl (Y.2.1, 12, .inl (fun _ => 0))), (q47, .inl (Y.2.1, 20, .inl (fun _ => 0))), (q53, .inr (4, [.null, .null, .null, .null, .null, .int 0]))] := hD
  refine W.widen (k := 7) (n := 134) (by decide) (by decide) ?_
  refine lv_dup hx hb dX0_init_56 rfl ?_
  refine i_callN (wr := [(h0, .inr (0, [.ref q7, .ref q15, .ref q23, .ref q31, .ref q39, .ref q47, .null, .int 0, .int 0, .int 0, .int 0, .int 0, .int 0, .int 0, .int 0])), (q7, .inl (Y.2.1, 8, .inl (fun _ => 0))), (q15, .inl (Y.2.1, 64, .inl (fun _ => 0))), (q23, .inl (Y.2.1, 12, .inl (fun _ => 0))), (q31, .inl (Y.2.1, 12, .inl (fun _ => 0))), (q39, .inl (Y.2.1, 12, .inl (fun _ => 0))), (q47, .inl (Y.2.1, 20, .inl (fun _ => 0)))]) C hP hD hS (i_X4_init_37 l G Y q53 ) ⟨va_cnB 0 hts gX0_init_X4_init_n32 rfl rfl rfl (hks.2 _ lm0_32) (hts (.initialized RX4) (by decide +kernel)) (by decide +kernel) ⟨Nat.le_of_ble_eq_true rfl, Nat.le_of_ble_eq_true rfl⟩, rfl, hts (.instanceMethod yX4_init) (by decide +kernel)⟩ [7] [0, 1, 2, 3, 4, 5, 6] rfl rfl rfl (by decide) (by decide) (by decide) rfl hl.1 rfl (Nat.le_of_ble_eq_true rfl) ⟨Nat.le_of_ble_eq_true rfl, Nat.le_of_ble_eq_true rfl⟩ dX0_init_57 (fun u57 hu H57 locs hP9 hD9 hS9 => ?_)
  subst hu
  have hP : va_P G vwCl [(h0, .inr (0, [.ref q7, .ref q15, .ref q23, .ref q31, .ref q39, .ref q47, .null, .int 0, .int 0, .int 0, .int 0, .int 0, .int 0, .int 0, .int 0])), (q7, .inl (Y.2.1, 8, .inl (fun _ => 0))), (q15, .inl (Y.2.1, 64, .inl (fun _ => 0))), (q23, .inl (Y.2.1, 12, .inl (fun _ => 0))), (q31, .inl (Y.2.1, 12, .inl (fun _ => 0))), (q39, .inl (Y.2.1, 12, .inl (fun _ => 0))), (q47, .inl (Y.2.1, 20, .inl (fun _ => 0))), ((u57 37), .inr (4, FX4 u57 37 z0)), ((u57 38), .inl (Y.2.1, 64, .inl (z0.1 38))), ((u57 39), .inl (Y.2.1, 64, .inl (z0.1 39))), ((u57 40), .inl (Y.2.1, 3, .inl (z0.1 40))), ((u57 41), .inl (Y.2.1, 3, .inl (z0.1 41))), ((u57 42), .inl (Y.2.2.1, 64, .inr (.inl (z0.2 42))))] H57 := hP9
  have hD : va_D A [(h0, .inr (0, [.ref q7, .ref q15, .ref q23, .ref q31, .ref q39, .ref q47, .null, .int 0, .int 0, .int 0, .int 0, .int 0, .int 0, .int 0, .int 0])), (q7, .inl (Y.2.1, 8, .inl (fun _ => 0))), (q15, .inl (Y.2.1, 64, .inl (fun _ => 0))), (q23, .inl (Y.2.1, 12, .inl (fun _ => 0))), (q31, .inl (Y.2.1, 12, .inl (fun _ => 0))), (q39, .inl (Y.2.1, 12, .inl (fun _ => 0))), (q47, .inl (Y.2.1, 20, .inl (fun _ => 0))), ((u57 37), .inr (4, FX4 u57 37 z0)), ((u57 38), .inl (Y.2.1, 64, .inl (z0.1 38))), ((u57 39), .inl (Y.2.1, 64, .inl (z0.1 39))), ((u57 40), .inl (Y.2.1, 3, .inl (z0.1 40))), ((u57 41), .inl (Y.2.1, 3, .inl (z0.1 41))), ((u57 42), .inl (Y.2.2.1, 64, .inr (.inl (z0.2 42))))] := hD9
  have hS := hS9
  refine W.widen (k := 12) (n := 332) (by decide) (by decide) ?_
  refine va_putF (ci := 0) (v := .ref (u57 37)) hx hb hks.ts k_in0 tyX0 tyX0_ok nmX0 hown hks.1 hP hD hS 0 rfl rfl 6 (by decide) (hks.ts _ lk0_33) (fun _ h => h) rfl hname rfl (tyX0_ok 6 (by decide)) rfl rfl (Nat.le_of_ble_eq_true rfl) dX0_init_60 (fun H locs hP hD hS => ?_)
  have hP : va_P G vwCl [(h0, .inr (0, [.ref q7, .ref q15, .ref q23, .ref q31, .ref q39, .ref q47, .ref (u57 37), .int 0, .int 0, .int 0, .int 0, .int 0, .int 0, .int 0, .int 0])), (q7, .inl (Y.2.1, 8, .inl (fun _ => 0))), (q15, .inl (Y.2.1, 64, .inl (fun _ => 0))), (q23, .inl (Y.2.1, 12, .inl (fun _ => 0))), (q31, .inl (Y.2.1, 12, .inl (fun _ => 0))), (q39, .inl (Y.2.1, 12, .inl (fun _ => 0))), (q47, .inl (Y.2.1, 20, .inl (fun _ => 0))), ((u57 37), .inr (4, FX4 u57 37 z0)), ((u57 38), .inl (Y.2.1, 64, .inl (z0.1 38))), ((u57 39), .inl (Y.2.1, 64, .inl (z0.1 39))), ((u57 40), .inl (Y.2.1, 3, .inl (z0.1 40))), ((u57 41), .inl (Y.2.1, 3, .inl (z0.1 41))), ((u57 42), .inl (Y.2.2.1, 64, .inr (.inl (z0.2 42))))] H := hP
  have hD : va_D A [(h0, .inr (0, [.ref q7, .ref q15, .ref q23, .ref q31, .ref q39, .ref q47, .ref (u57 37), .int 0, .int 0, .int 0, .int 0, .int 0, .int 0, .int 0, .int 0])), (q7, .inl (Y.2.1, 8, .inl (fun _ => 0))), (q15, .inl (Y.2.1, 64, .inl (fun _ => 0))), (q23, .inl (Y.2.1, 12, .inl (fun _ => 0))), (q31, .inl (Y.2.1, 12, .inl (fun _ => 0))), (q39, .inl (Y.2.1, 12, .inl (fun _ => 0))), (q47, .inl (Y.2.1, 20, .inl (fun _ => 0))), ((u57 37), .inr (4, FX4 u57 37 z0)), ((u57 38), .inl (Y.2.1, 64, .inl (z0.1 38))), ((u57 39), .inl (Y.2.1, 64, .inl (z0.1 39))), ((u57 40), .inl (Y.2.1, 3, .inl (z0.1 40))), ((u57 41), .inl (Y.2.1, 3, .inl (z0.1 41))), ((u57 42), .inl (Y.2.2.1, 64, .inr (.inl (z0.2 42))))] := hD
  exact t_X0_init C (fun σ => CC0_30 Y σ (fun k => if k = 30 then h0 else if k = 31 then q7 else if k = 32 then q15 else if k = 33 then q23 else if k = 34 then q31 else if k = 35 then q39 else if k = 36 then q47 else if k = 37 then (u57 37) else if k = 38 then (u57 38) else if k = 39 then (u57 39) else if k = 40 then (u57 40) else if k = 41 then (u57 41) else (u57 42))) (fun k => if k = 30 then h0 else if k = 31 then q7 else if k = 32 then q15 else if k = 33 then q23 else if k = 34 then q31 else if k = 35 then q39 else if k = 36 then q47 else if k = 37 then (u57 37) else if k = 38 then (u57 38) else if k = 39 then (u57 39) else if k = 40 then (u57 40) else if k = 41 then (u57 41) else (u57 42)) 30 (layH_30 (fun k => if k = 30 then h0 else if k = 31 then q7 else if k = 32 then q15 else if k = 33 then q23 else if k = 34 then q31 else if k = 35 then q39 else if k = 36 then q47 else if k = 37 then (u57 37) else if k = 38 then (u57 38) else if k = 39 then (u57 39) else if k = 40 then (u57 40) else if k = 41 then (u57 41) else (u57 42)) Y) ⟨Nat.le_of_ble_eq_true rfl, Nat.le_of_ble_eq_true rfl⟩ z0 σ1 hq (CC0_30 Y σ1) rfl rfl ls hl _ _ ⟨hP.sub [0, 1, 2, 3, 4, 5, 6, 7, 8, 9, 10, 11, 12] rfl, hD.sub [0, 1, 2, 3, 4, 5, 6, 7, 8, 9, 10, 11, 12] (by decide) rfl, hS⟩
def CC9_1 (Y : CY) (σ : MSt) (u : Nat → Nat) : va_W := [
  (u 1, .inr (9, FX9 u σ)),
  (u 2, .inl (Y.1, 700, .inl (σ.1 2))),
  (u 3, .inl (Y.2.1, 700, .inl (σ.1 3))),
  (u 4, .inl (Y.2.1, 700, .inl (σ.1 4))),
  (u 5, .inl (Y.2.1, 700, .inl (σ.1 5))),
  (u 6, .inl (Y.2.1, 22, .inl (σ.1 6)))]
def rmi9_1 : Room := { frames := 4, cells := 5, slots := 2822, locals := 85 }
def f_X9_init_b134   (σ : MSt) : Option MSt :=
  some σ
def f_X9_init_b128  (r57 : Int32 → Int32 → Int32 → Int32 → MSt → Option MSt) (x1 : Int32) (x2 : Int32) (x3 : Int32) (x4 : Int32) (σ : MSt) : Option MSt :=
  k_nm (x4 + (1 : Int32)) fun u1 =>
  r57 x1 x2 x3 u1 σ
def f_X9_init_b57_s  (r57 : Int32 → Int32 → Int32 → Int32 → MSt → Option MSt) (x1 : Int32) (x2 : Int32) (x3 : Int32) (x4 : Int32) (σ : MSt) : Option MSt :=
  if (106 : Int32) ≤ x4 then
  (f_X9_init_b134 σ)
  else
  (if (22 : Int32) ≤ x1 then
  (f_X9_init_b134 σ)
  else
  (k_ck (k_inb x4 106) <|
  k_nm (k_chr x4) fun u1 =>
  if u1 = (32 : Int32) then
  (k_ck (k_inb x1 22) <|
  k_nm (mI σ 6 (x1).toNatClampNeg (x3 <<< (((5 : Int32) * ((6 : Int32) - x2)) &&& 31))) fun σ4 =>
  k_nm (x1 + (1 : Int32)) fun u5 =>
  f_X9_init_b128 r57 u5 (0 : Int32) (0 : Int32) x4 σ4)
  else
  (k_nm ((x3 <<< ((5 : Int32) &&& 31)) ||| ((u1 - (97 : Int32)) + (1 : Int32))) fun u2 =>
  k_nm (x2 + (1 : Int32)) fun u3 =>
  f_X9_init_b128 r57 x1 u3 u2 x4 σ)))
def f_X9_init_b57  : Nat → Int32 → Int32 → Int32 → Int32 → MSt → Option MSt
  | 0 => fun _ _ _ _ _ => none
  | n + 1 => f_X9_init_b57_s (f_X9_init_b57 n)
def f_X9_init_t  (σ : MSt) : Option MSt :=
  f_X9_init_b57 FU (0 : Int32) (0 : Int32) (0 : Int32) (0 : Int32) σ
set_option maxHeartbeats 4000000 in
set_option maxRecDepth 100000 in
theorem t_X9_init {p : Program} {l : Launch} {e : Env} {s : State} {m : MethodId} {args : Array Value} {below : List Frame} {meth : Method} {c : Code} {A : Nat → Prop} {G : va_G} {Y : CY} {cells slots h0 : Nat} (C : k_C p s m args meth c cX9_init RX9 none wsX9_init 6 G Y A) (w : MSt → va_W) (ad : Nat → Nat)  (L1 : HO ad w 1 9 (FX9 ad)) (L6 : HA ad w 6 Y.2.1 22) (hcs : cells ≤ (rmi9_1 : Room).cells ∧ slots ≤ (rmi9_1 : Room).slots) (σ σ' : MSt) (hf : f_X9_init_t σ = some σ') (CE : (Nat → Nat) → va_W) (hCE : w σ' = CE ad) (h0e : ad 1 = h0) (ls : Array Slot) (hl : lv_has ls 6 [(0, .ref (ad 1))]) (H : Heap) (locs : List Loc) (hw : k_W G w A s.heap σ H locs) : W p l e rmi9_1 s m args below meth c H locs cells slots (MQ below (i_Q G A 1 h0 CE) args s cells slots A) (F0 m 48 ls []) := by
  have hx := C.1
  have hb := C.2.1
  have hown := C.2.2.2.2.1
  have hts := C.2.2.2.2.2.1
  have hks := C.2.2.2.2.2.2.1
  have b134 : ∀ (σ : MSt) (H : Heap) (locs : List Loc) (ls : Array Slot), lv_has ls 6 [] → k_W G w A s.heap σ H locs → f_X9_init_b134 σ = some σ' → W p l e rmi9_1 s m args below meth c H locs cells slots (MQ below (i_Q G A 1 h0 CE) args s cells slots A) (F0 m 134 ls []) := by
    intro σ H locs ls hl hw hf
    unfold f_X9_init_b134 at hf
    have ee := Option.some.inj hf
    subst ee
    exact i_ret (CE := CE) C ad h0e (hCE ▸ hw.1) (hCE ▸ hw.2.1) hw.2.2 dX9_init_134
  have b57 : ∀ (n57 : Nat) (x1 : Int32) (x2 : Int32) (x3 : Int32) (x4 : Int32) (σ : MSt) (H : Heap) (locs : List Loc) (ls : Array Slot), lv_has ls 6 [(0, .ref (ad 1)), (1, .int x1), (2, .int x2), (3, .int x3), (4, .int x4)] → k_W G w A s.heap σ H locs → f_X9_init_b57 n57 x1 x2 x3 x4 σ = some σ' → W p l e rmi9_1 s m args below meth c H locs cells slots (MQ below (i_Q G A 1 h0 CE) args s cells slots A) (F0 m 57 ls []) := by
    intro n57
    induction n57 with
    | zero =>
      intro x1 x2 x3 x4 σ H locs ls hl hw hf
      have hf : (none : Option MSt) = some σ' := hf
      cases hf
    | succ n57 ih57 =>
      have b128 : ∀ (x1 : Int32) (x2 : Int32) (x3 : Int32) (x4 : Int32) (σ : MSt) (H : Heap) (locs : List Loc) (ls : Array Slot), lv_has ls 6 [(0, .ref (ad 1)), (1, .int x1), (2, .int x2), (3, .int x3), (4, .int x4)] → k_W G w A s.heap σ H locs → f_X9_init_b128 (f_X9_init_b57 n57) x1 x2 x3 x4 σ = some σ' → W p l e rmi9_1 s m args below meth c H locs cells slots (MQ below (i_Q G A 1 h0 CE) args s cells slots A) (F0 m 128 ls []) := by
        intro x1 x2 x3 x4 σ H locs ls hl hw hf
        unfold f_X9_init_b128 at hf
        obtain ⟨u1, ex⟩ : ∃ y : Int32, y = (x4 + (1 : Int32)) := ⟨_, rfl⟩
        have hf := k_nmE ex hf
        refine lv_iinc (v := u1) (lv' := [(4, .int u1), (0, .ref (ad 1)), (1, .int x1), (2, .int x2), (3, .int x3)]) hx hb dX9_init_128 hl (k := 4) rfl (by rw [ex]; rfl) (by decide) rfl (fun ls hl => ?_)
        refine lv_goto (tgt := 57) hx hb dX9_init_131 (by decide) ?_
        exact ih57 x1 x2 x3 u1 σ _ _ _ (lv_sub hl [1, 2, 3, 4, 0] rfl) hw hf
      intro x1 x2 x3 x4 σ H locs ls hl hw hf
      have hf : f_X9_init_b57_s (f_X9_init_b57 n57) x1 x2 x3 x4 σ = some σ' := hf
      unfold f_X9_init_b57_s at hf
      refine lv_iload hx hb dX9_init_57 (lv_at hl 4 rfl) ?_
      refine va_ldcS hx hb hown C.2.2.2.2.2.2.2.2.2.2.2.1 dX9_init_59 ?_
      refine k_callViL C hw (cJ_length l G Y w σ) (cwV 0 hts gX9_init_J0_length_8abf5 rfl rfl rfl (by decide +kernel) ⟨Nat.le_of_ble_eq_true rfl, Nat.le_of_ble_eq_true rfl⟩) (vk_recv (i := 0) C.2.2.2.2.2.2.2.2.2.1 (by decide) hw.2.2) rfl hl.1 rfl (Nat.le_of_ble_eq_true rfl) hcs dX9_init_61 (fun H locs hw => ?_)
      refine lv_icmp_ge (tgt := 134) hx hb dX9_init_64 (by decide) (fun h => ?_) (fun h => ?_)
      · have hf := k_ifT h hf
        exact b134 σ _ _ _ (lv_sub hl [] rfl) hw hf
      · have hf := k_ifF h hf
        refine lv_iload_n hx hb dX9_init_67 rfl (lv_at hl 1 rfl) ?_
        refine lv_bipush (v := (22 : Int32)) hx hb dX9_init_68 (by decide) ?_
        refine lv_icmp_ge (tgt := 134) hx hb dX9_init_70 (by decide) (fun h => ?_) (fun h => ?_)
        · have hf := k_ifT h hf
          exact b134 σ _ _ _ (lv_sub hl [] rfl) hw hf
        · have hf := k_ifF h hf
          refine va_ldcS hx hb hown C.2.2.2.2.2.2.2.2.2.2.2.1 dX9_init_73 ?_
          refine lv_iload hx hb dX9_init_75 (lv_at hl 4 rfl) ?_
          obtain ⟨hi, hf⟩ := k_ckE hf
          refine k_callViL C hw (cJ_charAt l G Y w σ x4 hi) (cwV 1 hts gX9_init_J0_charAt_5068e rfl rfl rfl (by decide +kernel) ⟨Nat.le_of_ble_eq_true rfl, Nat.le_of_ble_eq_true rfl⟩) (vk_recv (i := 0) C.2.2.2.2.2.2.2.2.2.1 (by decide) hw.2.2) rfl hl.1 rfl (Nat.le_of_ble_eq_true rfl) hcs dX9_init_77 (fun H locs hw => ?_)
          refine lv_topi (fun u1 ex => ?_)
          have hf := k_nmE ex hf
          refine lv_istore (lv' := [(5, .int u1), (0, .ref (ad 1)), (1, .int x1), (2, .int x2), (3, .int x3), (4, .int x4)]) hx hb dX9_init_80 hl (by decide) rfl (fun ls hl => ?_)
          refine lv_iload hx hb dX9_init_82 (lv_at hl 0 rfl) ?_
          refine lv_bipush (v := (32 : Int32)) hx hb dX9_init_84 (by decide) ?_
          refine lv_icmp_ne (tgt := 113) hx hb dX9_init_86 (by decide) (fun h => ?_) (fun h => ?_)
          · have hf := k_ifF h hf
            refine lv_iload_n hx hb dX9_init_113 rfl (lv_at hl 4 rfl) ?_
            refine lv_iconst (v := (5 : Int32)) hx hb dX9_init_114 (by decide) ?_
            refine lv_ishl hx hb dX9_init_115 ?_
            refine lv_iload hx hb dX9_init_116 (lv_at hl 0 rfl) ?_
            refine lv_bipush (v := (97 : Int32)) hx hb dX9_init_118 (by decide) ?_
            refine lv_isub hx hb dX9_init_120 ?_
            refine lv_iconst (v := (1 : Int32)) hx hb dX9_init_121 (by decide) ?_
            refine lv_iadd hx hb dX9_init_122 ?_
            refine lv_ior hx hb dX9_init_123 ?_
            refine lv_topi (fun u2 ex => ?_)
            have hf := k_nmE ex hf
            refine lv_istore_n (lv' := [(3, .int u2), (5, .int u1), (0, .ref (ad 1)), (1, .int x1), (2, .int x2), (4, .int x4)]) hx hb dX9_init_124 rfl hl (by decide) rfl (fun ls hl => ?_)
            obtain ⟨u3, ex⟩ : ∃ y : Int32, y = (x2 + (1 : Int32)) := ⟨_, rfl⟩
            have hf := k_nmE ex hf
            refine lv_iinc (v := u3) (lv' := [(2, .int u3), (3, .int u2), (5, .int u1), (0, .ref (ad 1)), (1, .int x1), (4, .int x4)]) hx hb dX9_init_125 hl (k := 4) rfl (by rw [ex]; rfl) (by decide) rfl (fun ls hl => ?_)
            exact b128 x1 u3 u2 x4 σ _ _ _ (lv_sub hl [3, 4, 0, 1, 5] rfl) hw hf
          · have hf := k_ifT h hf
            refine lv_aload_n hx hb dX9_init_89 rfl (lv_at hl 1 rfl) ?_
            refine k_get C hw L1 (ci := 9) rfl k_in9 4 (by decide) lk9_25 (v := .ref (ad 6)) rfl dX9_init_90 ?_
            refine lv_iload_n hx hb dX9_init_93 rfl (lv_at hl 2 rfl) ?_
            refine lv_iload_n hx hb dX9_init_94 rfl (lv_at hl 4 rfl) ?_
            refine lv_iconst (v := (5 : Int32)) hx hb dX9_init_95 (by decide) ?_
            refine lv_bipush (v := (6 : Int32)) hx hb dX9_init_96 (by decide) ?_
            refine lv_iload_n hx hb dX9_init_98 rfl (lv_at hl 3 rfl) ?_
            refine lv_isub hx hb dX9_init_99 ?_
            refine lv_imul hx hb dX9_init_100 ?_
            refine lv_ishl hx hb dX9_init_101 ?_
            obtain ⟨hi, hf⟩ := k_ckE hf
            refine k_iast C hw L6 hi dX9_init_102 (fun σ4 eq H locs hw => ?_)
            have hf := k_nmE eq hf
            obtain ⟨u5, ex⟩ : ∃ y : Int32, y = (x1 + (1 : Int32)) := ⟨_, rfl⟩
            have hf := k_nmE ex hf
            refine lv_iinc (v := u5) (lv' := [(1, .int u5), (5, .int u1), (0, .ref (ad 1)), (2, .int x2), (3, .int x3), (4, .int x4)]) hx hb dX9_init_103 hl (k := 2) rfl (by rw [ex]; rfl) (by decide) rfl (fun ls hl => ?_)
            refine lv_iconst (v := (0 : Int32)) hx hb dX9_init_106 (by decide) ?_
            refine lv_istore_n (lv' := [(2, .int (0 : Int32)), (1, .int u5), (5, .int u1), (0, .ref (ad 1)), (3, .int x3), (4, .int x4)]) hx hb dX9_init_107 rfl hl (by decide) rfl (fun ls hl => ?_)
            refine lv_iconst (v := (0 : Int32)) hx hb dX9_init_108 (by decide) ?_
            refine lv_istore_n (lv' := [(3, .int (0 : Int32)), (2, .int (0 : Int32)), (1, .int u5), (5, .int u1), (0, .ref (ad 1)), (4, .int x4)]) hx hb dX9_init_109 rfl hl (by decide) rfl (fun ls hl => ?_)
            refine lv_goto (tgt := 128) hx hb dX9_init_110 (by decide) ?_
            exact b128 u5 (0 : Int32) (0 : Int32) x4 σ4 _ _ _ (lv_sub hl [4, 2, 1, 0, 5] rfl) hw hf
  unfold f_X9_init_t at hf
  refine lv_iconst (v := (0 : Int32)) hx hb dX9_init_48 (by decide) ?_
  refine lv_istore_n (lv' := [(1, .int (0 : Int32)), (0, .ref (ad 1))]) hx hb dX9_init_49 rfl hl (by decide) rfl (fun ls hl => ?_)
  refine lv_iconst (v := (0 : Int32)) hx hb dX9_init_50 (by decide) ?_
  refine lv_istore_n (lv' := [(2, .int (0 : Int32)), (1, .int (0 : Int32)), (0, .ref (ad 1))]) hx hb dX9_init_51 rfl hl (by decide) rfl (fun ls hl => ?_)
  refine lv_iconst (v := (0 : Int32)) hx hb dX9_init_52 (by decide) ?_
  refine lv_istore_n (lv' := [(3, .int (0 : Int32)), (2, .int (0 : Int32)), (1, .int (0 : Int32)), (0, .ref (ad 1))]) hx hb dX9_init_53 rfl hl (by decide) rfl (fun ls hl => ?_)
  refine lv_iconst (v := (0 : Int32)) hx hb dX9_init_54 (by decide) ?_
  refine lv_istore (lv' := [(4, .int (0 : Int32)), (3, .int (0 : Int32)), (2, .int (0 : Int32)), (1, .int (0 : Int32)), (0, .ref (ad 1))]) hx hb dX9_init_55 hl (by decide) rfl (fun ls hl => ?_)
  exact b57 FU (0 : Int32) (0 : Int32) (0 : Int32) (0 : Int32) σ _ _ _ (lv_sub hl [4, 3, 2, 1, 0] rfl) hw hf
set_option maxHeartbeats 4000000 in
theorem WH_1 (u : Nat → Nat) (Y : CY) : HO u (fun σ => CC9_1 Y σ u) 1 9 (FX9 u) := by
  refine ⟨0, fun σ => rfl, fun σ j v h => ?_, fun σ j v h => ?_, fun σ j t h7 h ht => ?_⟩
  · match j, h with
    | 0, h => exact absurd (Option.some.inj h) (by intro q; cases q)
    | 1, h => exact absurd (Option.some.inj h) (by intro q; cases q)
    | 2, h => exact absurd (Option.some.inj h) (by intro q; cases q)
    | 3, h => exact absurd (Option.some.inj h) (by intro q; cases q)
    | 4, h => exact absurd (Option.some.inj h) (by intro q; cases q)
    | 5, h => rfl
    | 6, h => rfl
    | 7, h => rfl
    | 8, h => rfl
    | j + 9, h => cases h
  · match j, h with
    | 0, h => exact absurd (Option.some.inj h) (by intro q; cases q)
    | 1, h => exact absurd (Option.some.inj h) (by intro q; cases q)
    | 2, h => exact absurd (Option.some.inj h) (by intro q; cases q)
    | 3, h => exact absurd (Option.some.inj h) (by intro q; cases q)
    | 4, h => exact absurd (Option.some.inj h) (by intro q; cases q)
    | 5, h => exact absurd (Option.some.inj h) (by intro q; cases q)
    | 6, h => exact absurd (Option.some.inj h) (by intro q; cases q)
    | 7, h => exact absurd (Option.some.inj h) (by intro q; cases q)
    | 8, h => exact absurd (Option.some.inj h) (by intro q; cases q)
    | j + 9, h => cases h
  · exact absurd h7.1 (by decide)
theorem WH_2 (u : Nat → Nat) (Y : CY) : HA u (fun σ => CC9_1 Y σ u) 2 Y.1 700 := ⟨1, fun σ => rfl, fun σ i v => rfl⟩
theorem WH_3 (u : Nat → Nat) (Y : CY) : HA u (fun σ => CC9_1 Y σ u) 3 Y.2.1 700 := ⟨2, fun σ => rfl, fun σ i v => rfl⟩
theorem WH_4 (u : Nat → Nat) (Y : CY) : HA u (fun σ => CC9_1 Y σ u) 4 Y.2.1 700 := ⟨3, fun σ => rfl, fun σ i v => rfl⟩
theorem WH_5 (u : Nat → Nat) (Y : CY) : HA u (fun σ => CC9_1 Y σ u) 5 Y.2.1 700 := ⟨4, fun σ => rfl, fun σ i v => rfl⟩
theorem WH_6 (u : Nat → Nat) (Y : CY) : HA u (fun σ => CC9_1 Y σ u) 6 Y.2.1 22 := ⟨5, fun σ => rfl, fun σ i v => rfl⟩
set_option maxHeartbeats 4000000 in
set_option maxRecDepth 100000 in
theorem i_X9_init_1 (l : Launch) (G : va_G) (Y : CY) (h0 : Nat) (σ1 : MSt) (hq : f_X9_init_t z0 = some σ1) : i_M l yX9_init wsX9_init rmi9_1 G Y [(h0, .inr (9, [.null, .null, .null, .null, .null, .int 0, .int 0, .int 0, .int 0]))] [.ref h0] 1 h0 (CC9_1 Y σ1) 5 2822 := by
  refine i_of (own := RX9) (cc := cX9_init) (maxL := 6) (by decide) rfl rfl rfl (Nat.le_of_ble_eq_true rfl) ?_
  intro p e s m below meth c A C hname ls hl hP hD hS
  have hx := C.1
  have hb := C.2.1
  have hown := C.2.2.2.2.1
  have hts := C.2.2.2.2.2.1
  have hks := C.2.2.2.2.2.2.1
  have hA := C.2.2.2.2.2.2.2.2.1
  have hl : lv_has ls 6 [(0, .ref h0)] := hl
  refine lv_aload_n hx hb dX9_init_0 rfl (lv_at hl 0 rfl) ?_
  refine W.objInit hx hb hown (hts (.methodLink RX9 3 objectInit) (by decide +kernel)) (hts (.instanceMethod objectInit) (by decide +kernel)) (hts (.code objectInit ⟨#[0xb1]⟩ 1 none) (by decide +kernel)) rfl (by rw [C.2.2.2.1]; exact hl.1) rfl dX9_init_1 (Nat.le_of_ble_eq_true rfl) (Nat.le_of_ble_eq_true rfl) ?_
  refine W.eq (g2 := F0 m 4 ls []) rfl ?_
  refine lv_aload_n hx hb dX9_init_4 rfl (lv_at hl 0 rfl) ?_
  refine lv_sipush (v := (700 : Int32)) hx hb dX9_init_5 (by decide) ?_
  refine i_newa (atype := .byte) (ty := .byte) (n := 700) C hP hD hS 0 rfl (cA := Y.1) rfl (fun _ h => h) (hts (.arrayClass .byte) (by decide +kernel)) (a0 := (700, .inl (fun _ => 0))) (N' := 700) (fun _ => rfl) (by decide) (by decide) (by show 700 * 1 ≤ 536870912; omega) (Nat.le_of_ble_eq_true rfl) (Nat.le_of_ble_eq_true rfl) dX9_init_8 (fun q8 H hP hD hS => ?_)
  have hP : va_P G vwCl [(h0, .inr (9, [.null, .null, .null, .null, .null, .int 0, .int 0, .int 0, .int 0])), (q8, .inl (Y.1, 700, .inl (fun _ => 0)))] H := hP
  have hD : va_D A [(h0, .inr (9, [.null, .null, .null, .null, .null, .int 0, .int 0, .int 0, .int 0])), (q8, .inl (Y.1, 700, .inl (fun _ => 0)))] := hD
  refine W.widen (k := 1) (n := 700) (by decide) (by decide) ?_
  refine va_putF (ci := 9) (v := .ref q8) hx hb hks.ts k_in9 tyX9 tyX9_ok nmX9 hown hks.1 hP hD hS 0 rfl rfl 0 (by decide) (hks.ts _ lk9_9) (fun _ h => h) rfl hname rfl (tyX9_ok 0 (by decide)) rfl rfl (Nat.le_of_ble_eq_true rfl) dX9_init_10 (fun H locs hP hD hS => ?_)
  have hP : va_P G vwCl [(h0, .inr (9, [.ref q8, .null, .null, .null, .null, .int 0, .int 0, .int 0, .int 0])), (q8, .inl (Y.1, 700, .inl (fun _ => 0)))] H := hP
  have hD : va_D A [(h0, .inr (9, [.ref q8, .null, .null, .null, .null, .int 0, .int 0, .int 0, .int 0])), (q8, .inl (Y.1, 700, .inl (fun _ => 0)))] := hD
  refine lv_aload_n hx hb dX9_init_13 rfl (lv_at hl 0 rfl) ?_
  refine lv_sipush (v := (700 : Int32)) hx hb dX9_init_14 (by decide) ?_
  refine i_newa (atype := .int) (ty := .int) (n := 700) C hP hD hS 1 rfl (cA := Y.2.1) rfl (fun _ h => h) (hts (.arrayClass .int) (by decide +kernel)) (a0 := (700, .inl (fun _ => 0))) (N' := 700) (fun _ => rfl) (by decide) (by decide) (by show 700 * 4 ≤ 536870912; omega) (Nat.le_of_ble_eq_true rfl) (Nat.le_of_ble_eq_true rfl) dX9_init_17 (fun q17 H hP hD hS => ?_)
  have hP : va_P G vwCl [(h0, .inr (9, [.ref q8, .null, .null, .null, .null, .int 0, .int 0, .int 0, .int 0])), (q8, .inl (Y.1, 700, .inl (fun _ => 0))), (q17, .inl (Y.2.1, 700, .inl (fun _ => 0)))] H := hP
  have hD : va_D A [(h0, .inr (9, [.ref q8, .null, .null, .null, .null, .int 0, .int 0, .int 0, .int 0])), (q8, .inl (Y.1, 700, .inl (fun _ => 0))), (q17, .inl (Y.2.1, 700, .inl (fun _ => 0)))] := hD
  refine W.widen (k := 2) (n := 1400) (by decide) (by decide) ?_
  refine va_putF (ci := 9) (v := .ref q17) hx hb hks.ts k_in9 tyX9 tyX9_ok nmX9 hown hks.1 hP hD hS 0 rfl rfl 1 (by decide) (hks.ts _ lk9_15) (fun _ h => h) rfl hname rfl (tyX9_ok 1 (by decide)) rfl rfl (Nat.le_of_ble_eq_true rfl) dX9_init_19 (fun H locs hP hD hS => ?_)
  have hP : va_P G vwCl [(h0, .inr (9, [.ref q8, .ref q17, .null, .null, .null, .int 0, .int 0, .int 0, .int 0])), (q8, .inl (Y.1, 700, .inl (fun _ => 0))), (q17, .inl (Y.2.1, 700, .inl (fun _ => 0)))] H := hP
  have hD : va_D A [(h0, .inr (9, [.ref q8, .ref q17, .null, .null, .null, .int 0, .int 0, .int 0, .int 0])), (q8, .inl (Y.1, 700, .inl (fun _ => 0))), (q17, .inl (Y.2.1, 700, .inl (fun _ => 0)))] := hD
  refine lv_aload_n hx hb dX9_init_22 rfl (lv_at hl 0 rfl) ?_
  refine lv_sipush (v := (700 : Int32)) hx hb dX9_init_23 (by decide) ?_
  refine i_newa (atype := .int) (ty := .int) (n := 700) C hP hD hS 1 rfl (cA := Y.2.1) rfl (fun _ h => h) (hts (.arrayClass .int) (by decide +kernel)) (a0 := (700, .inl (fun _ => 0))) (N' := 700) (fun _ => rfl) (by decide) (by decide) (by show 700 * 4 ≤ 536870912; omega) (Nat.le_of_ble_eq_true rfl) (Nat.le_of_ble_eq_true rfl) dX9_init_26 (fun q26 H hP hD hS => ?_)
  have hP : va_P G vwCl [(h0, .inr (9, [.ref q8, .ref q17, .null, .null, .null, .int 0, .int 0, .int 0, .int 0])), (q8, .inl (Y.1, 700, .inl (fun _ => 0))), (q17, .inl (Y.2.1, 700, .inl (fun _ => 0))), (q26, .inl (Y.2.1, 700, .inl (fun _ => 0)))] H := hP
  have hD : va_D A [(h0, .inr (9, [.ref q8, .ref q17, .null, .null, .null, .int 0, .int 0, .int 0, .int 0])), (q8, .inl (Y.1, 700, .inl (fun _ => 0))), (q17, .inl (Y.2.1, 700, .inl (fun _ => 0))), (q26, .inl (Y.2.1, 700, .inl (fun _ => 0)))] := hD
  refine W.widen (k := 3) (n := 2100) (by decide) (by decide) ?_
  refine va_putF (ci := 9) (v := .ref q26) hx hb hks.ts k_in9 tyX9 tyX9_ok nmX9 hown hks.1 hP hD hS 0 rfl rfl 2 (by decide) (hks.ts _ lk9_19) (fun _ h => h) rfl hname rfl (tyX9_ok 2 (by decide)) rfl rfl (Nat.le_of_ble_eq_true rfl) dX9_init_28 (fun H locs hP hD hS => ?_)
  have hP : va_P G vwCl [(h0, .inr (9, [.ref q8, .ref q17, .ref q26, .null, .null, .int 0, .int 0, .int 0, .int 0])), (q8, .inl (Y.1, 700, .inl (fun _ => 0))), (q17, .inl (Y.2.1, 700, .inl (fun _ => 0))), (q26, .inl (Y.2.1, 700, .inl (fun _ => 0)))] H := hP
  have hD : va_D A [(h0, .inr (9, [.ref q8, .ref q17, .ref q26, .null, .null, .int 0, .int 0, .int 0, .int 0])), (q8, .inl (Y.1, 700, .inl (fun _ => 0))), (q17, .inl (Y.2.1, 700, .inl (fun _ => 0))), (q26, .inl (Y.2.1, 700, .inl (fun _ => 0)))] := hD
  refine lv_aload_n hx hb dX9_init_31 rfl (lv_at hl 0 rfl) ?_
  refine lv_sipush (v := (700 : Int32)) hx hb dX9_init_32 (by decide) ?_
  refine i_newa (atype := .int) (ty := .int) (n := 700) C hP hD hS 1 rfl (cA := Y.2.1) rfl (fun _ h => h) (hts (.arrayClass .int) (by decide +kernel)) (a0 := (700, .inl (fun _ => 0))) (N' := 700) (fun _ => rfl) (by decide) (by decide) (by show 700 * 4 ≤ 536870912; omega) (Nat.le_of_ble_eq_true rfl) (Nat.le_of_ble_eq_true rfl) dX9_init_35 (fun q35 H hP hD hS => ?_)
  have hP : va_P G vwCl [(h0, .inr (9, [.ref q8, .ref q17, .ref q26, .null, .null, .int 0, .int 0, .int 0, .int 0])), (q8, .inl (Y.1, 700, .inl (fun _ => 0))), (q17, .inl (Y.2.1, 700, .inl (fun _ => 0))), (q26, .inl (Y.2.1, 700, .inl (fun _ => 0))), (q35, .inl (Y.2.1, 700, .inl (fun _ => 0)))] H := hP
  have hD : va_D A [(h0, .inr (9, [.ref q8, .ref q17, .ref q26, .null, .null, .int 0, .int 0, .int 0, .int 0])), (q8, .inl (Y.1, 700, .inl (fun _ => 0))), (q17, .inl (Y.2.1, 700, .inl (fun _ => 0))), (q26, .inl (Y.2.1, 700, .inl (fun _ => 0))), (q35, .inl (Y.2.1, 700, .inl (fun _ => 0)))] := hD
  refine W.widen (k := 4) (n := 2800) (by decide) (by decide) ?_
  refine va_putF (ci := 9) (v := .ref q35) hx hb hks.ts k_in9 tyX9 tyX9_ok nmX9 hown hks.1 hP hD hS 0 rfl rfl 3 (by decide) (hks.ts _ lk9_22) (fun _ h => h) rfl hname rfl (tyX9_ok 3 (by decide)) rfl rfl (Nat.le_of_ble_eq_true rfl) dX9_init_37 (fun H locs hP hD hS => ?_)
  have hP : va_P G vwCl [(h0, .inr (9, [.ref q8, .ref q17, .ref q26, .ref q35, .null, .int 0, .int 0, .int 0, .int 0])), (q8, .inl (Y.1, 700, .inl (fun _ => 0))), (q17, .inl (Y.2.1, 700, .inl (fun _ => 0))), (q26, .inl (Y.2.1, 700, .inl (fun _ => 0))), (q35, .inl (Y.2.1, 700, .inl (fun _ => 0)))] H := hP
  have hD : va_D A [(h0, .inr (9, [.ref q8, .ref q17, .ref q26, .ref q35, .null, .int 0, .int 0, .int 0, .int 0])), (q8, .inl (Y.1, 700, .inl (fun _ => 0))), (q17, .inl (Y.2.1, 700, .inl (fun _ => 0))), (q26, .inl (Y.2.1, 700, .inl (fun _ => 0))), (q35, .inl (Y.2.1, 700, .inl (fun _ => 0)))] := hD
  refine lv_aload_n hx hb dX9_init_40 rfl (lv_at hl 0 rfl) ?_
  refine lv_bipush (v := (22 : Int32)) hx hb dX9_init_41 (by decide) ?_
  refine i_newa (atype := .int) (ty := .int) (n := 22) C hP hD hS 1 rfl (cA := Y.2.1) rfl (fun _ h => h) (hts (.arrayClass .int) (by decide +kernel)) (a0 := (22, .inl (fun _ => 0))) (N' := 22) (fun _ => rfl) (by decide) (by decide) (by show 22 * 4 ≤ 536870912; omega) (Nat.le_of_ble_eq_true rfl) (Nat.le_of_ble_eq_true rfl) dX9_init_43 (fun q43 H hP hD hS => ?_)
  have hP : va_P G vwCl [(h0, .inr (9, [.ref q8, .ref q17, .ref q26, .ref q35, .null, .int 0, .int 0, .int 0, .int 0])), (q8, .inl (Y.1, 700, .inl (fun _ => 0))), (q17, .inl (Y.2.1, 700, .inl (fun _ => 0))), (q26, .inl (Y.2.1, 700, .inl (fun _ => 0))), (q35, .inl (Y.2.1, 700, .inl (fun _ => 0))), (q43, .inl (Y.2.1, 22, .inl (fun _ => 0)))] H := hP
  have hD : va_D A [(h0, .inr (9, [.ref q8, .ref q17, .ref q26, .ref q35, .null, .int 0, .int 0, .int 0, .int 0])), (q8, .inl (Y.1, 700, .inl (fun _ => 0))), (q17, .inl (Y.2.1, 700, .inl (fun _ => 0))), (q26, .inl (Y.2.1, 700, .inl (fun _ => 0))), (q35, .inl (Y.2.1, 700, .inl (fun _ => 0))), (q43, .inl (Y.2.1, 22, .inl (fun _ => 0)))] := hD
  refine W.widen (k := 5) (n := 2822) (by decide) (by decide) ?_
  refine va_putF (ci := 9) (v := .ref q43) hx hb hks.ts k_in9 tyX9 tyX9_ok nmX9 hown hks.1 hP hD hS 0 rfl rfl 4 (by decide) (hks.ts _ lk9_25) (fun _ h => h) rfl hname rfl (tyX9_ok 4 (by decide)) rfl rfl (Nat.le_of_ble_eq_true rfl) dX9_init_45 (fun H locs hP hD hS => ?_)
  have hP : va_P G vwCl [(h0, .inr (9, [.ref q8, .ref q17, .ref q26, .ref q35, .ref q43, .int 0, .int 0, .int 0, .int 0])), (q8, .inl (Y.1, 700, .inl (fun _ => 0))), (q17, .inl (Y.2.1, 700, .inl (fun _ => 0))), (q26, .inl (Y.2.1, 700, .inl (fun _ => 0))), (q35, .inl (Y.2.1, 700, .inl (fun _ => 0))), (q43, .inl (Y.2.1, 22, .inl (fun _ => 0)))] H := hP
  have hD : va_D A [(h0, .inr (9, [.ref q8, .ref q17, .ref q26, .ref q35, .ref q43, .int 0, .int 0, .int 0, .int 0])), (q8, .inl (Y.1, 700, .inl (fun _ => 0))), (q17, .inl (Y.2.1, 700, .inl (fun _ => 0))), (q26, .inl (Y.2.1, 700, .inl (fun _ => 0))), (q35, .inl (Y.2.1, 700, .inl (fun _ => 0))), (q43, .inl (Y.2.1, 22, .inl (fun _ => 0)))] := hD
  exact t_X9_init C (fun σ => CC9_1 Y σ (fun k => if k = 1 then h0 else if k = 2 then q8 else if k = 3 then q17 else if k = 4 then q26 else if k = 5 then q35 else q43)) (fun k => if k = 1 then h0 else if k = 2 then q8 else if k = 3 then q17 else if k = 4 then q26 else if k = 5 then q35 else q43) (WH_1 (fun k => if k = 1 then h0 else if k = 2 then q8 else if k = 3 then q17 else if k = 4 then q26 else if k = 5 then q35 else q43) Y) (WH_6 (fun k => if k = 1 then h0 else if k = 2 then q8 else if k = 3 then q17 else if k = 4 then q26 else if k = 5 then q35 else q43) Y) ⟨Nat.le_of_ble_eq_true rfl, Nat.le_of_ble_eq_true rfl⟩ z0 σ1 hq (CC9_1 Y σ1) rfl rfl ls hl _ _ ⟨hP.sub [0, 1, 2, 3, 4, 5] rfl, hD.sub [0, 1, 2, 3, 4, 5] (by decide) rfl, hS⟩
