set_option maxHeartbeats 8000000 in
set_option maxRecDepth 100000 in
theorem bay_case {p : Program} {l : Launch} (hst : l.stackTraces = false) {e : Env} {s : State} {m : MethodId} {below : List Frame} {meth : Method} {c : Code} {A : Nat → Prop} {G : va_G} {Y : CY} {b L : Nat} {xs : Nat → Int32} {Q : State → Prop} (RR : MSt → MSt → Prop) (C : k_C p s m #[Value.ref b] meth c code RL ret wsL_law 7 G Y A) {T : Nat × Nat} (hZ : z_E T A s s.heap) (hX : va_X b L xs s s.heap) (hbl : b < s.heap.size) (hbA : ¬ A b) (ad am : Nat → Nat) (ao : Nat) (sim : Sim_bay RR) : BayCase p l e s m #[Value.ref b] below meth c A G Y b L xs Q RR ad am ao := by
  intro cells slots hc1 hc2 x4 i1 i2 ls hl σ μ f hR H locs hw next
  have hx := C.1
  have hb := C.2.1
  have hts := C.2.2.2.2.2.1
  obtain ⟨k, v, bb, σ1, μ1, f1, f2, f3, f4, hR1⟩ := sim σ μ (xs (x4 + (1 : Int32)).toNatClampNeg) (xs (x4 + (2 : Int32)).toNatClampNeg) hR
  refine lv_aload_n hx hb dL_law_344 rfl (lv_at hl 1 rfl) ?_
  refine lv_aload_n hx hb dL_law_345 rfl (lv_at hl 0 rfl) ?_
  refine lv_iload hx hb dL_law_346 (lv_at hl 4 rfl) ?_
  refine lv_iconst (v := (1 : Int32)) hx hb dL_law_348 (by decide) ?_
  refine lv_iadd hx hb dL_law_349 ?_
  refine va_sld hx hb hX hbl hbA hw.2.2 (i1) dL_law_350 ?_
  refine lv_aload_n hx hb dL_law_351 rfl (lv_at hl 0 rfl) ?_
  refine lv_iload hx hb dL_law_352 (lv_at hl 4 rfl) ?_
  refine lv_iconst (v := (2 : Int32)) hx hb dL_law_354 (by decide) ?_
  refine lv_iadd hx hb dL_law_355 ?_
  refine va_sld hx hb hX hbl hbA hw.2.2 (i2) dL_law_356 ?_
  refine lv_aload_n hx hb dL_law_357 rfl (lv_at hl 3 rfl) ?_
  refine vx_calli (vx_runSX (As := [.ref (ad 0), .int (xs (x4 + (1 : Int32)).toNatClampNeg), .int (xs (x4 + (2 : Int32)).toNatClampNeg), .ref ao]) (rest := []) ⟨C.1, C.2.1, C.2.2.2.1, C.2.2.2.2.1, C.2.2.2.2.2.1⟩ (c_L_bay hst G Y T ad am μ ao f (xs (x4 + (1 : Int32)).toNatClampNeg) (xs (x4 + (2 : Int32)).toNatClampNeg) σ k v σ1 f1 H.size) (vx_cwSW 4 hts gL_law_L_bay rfl rfl rfl (by decide +kernel) ⟨Nat.le_of_ble_eq_true rfl, Nat.le_of_ble_eq_true rfl⟩) ⟨z_P.blind, z_pre C hZ hw⟩ rfl rfl hl.1 rfl (lv_room (Nat.le_of_ble_eq_true rfl)) dL_law_358 ⟨hc1, hc2⟩) hw.2.2 (fun q _ h => k_free C hw q h) (k_free C hw) (fun q _ h => k_free C hw q h) (fun E ce q9 u t H1 locs1 hH hvm hu => hu.elim) (fun r u t H1 locs1 hH hvm hq hB hz1 hk1 hS => ?_)
  obtain ⟨rfl, rfl⟩ := hq
  have hw : k_W G (fun μ => wC ad Y u ++ (wM am Y μ ++ oX Y ao (z_f r v f))) A s.heap μ H1 locs1 := ⟨by rw [← hH]; exact hB.1, hB.2.weaken (fun k q _ h => k_free C hw _ h), hS⟩
  refine lv_istore (lv' := [(5, .int r), (0, .ref b), (1, .ref (ad 0)), (2, .ref (am 0)), (3, .ref ao), (4, .int x4)]) hx hb dL_law_361 hl (by decide) rfl (fun ls hl => ?_)
  refine lv_aload_n hx hb dL_law_363 rfl (lv_at hl 3 rfl) ?_
  refine lv_aload_n hx hb dL_law_364 rfl (lv_at hl 1 rfl) ?_
  refine lv_iload hx hb dL_law_365 (lv_at hl 5 rfl) ?_
  refine lv_iconst (v := (1 : Int32)) hx hb dL_law_367 (by decide) ?_
  refine lv_iadd hx hb dL_law_368 ?_
  refine va_sld hx hb hX hbl hbA hw.2.2 (i1) dL_law_369 ?_
  refine lv_aload_n hx hb dL_law_370 rfl (lv_at hl 1 rfl) ?_
  refine lv_iload hx hb dL_law_371 (lv_at hl 5 rfl) ?_
  refine lv_iconst (v := (2 : Int32)) hx hb dL_law_373 (by decide) ?_
  refine lv_iadd hx hb dL_law_374 ?_
  refine va_sld hx hb hX hbl hbA hw.2.2 (i2) dL_law_375 ?_
  refine k_callViL C hw (c_X12_bay l G Y (fun μ => wC ad Y u ++ (wM am Y μ ++ oX Y ao (z_f r v f))) am (layM am Y (wC ad Y u) (oX Y ao (z_f r v f))) (xs (x4 + (1 : Int32)).toNatClampNeg) (xs (x4 + (2 : Int32)).toNatClampNeg) μ bb μ1 f2) (cwV 2 hts gL_law_X12_bay rfl rfl rfl (by decide +kernel) ⟨Nat.le_of_ble_eq_true rfl, Nat.le_of_ble_eq_true rfl⟩) (k_recv C hw (LM_0 (layM am Y (wC ad Y u) (oX Y ao (z_f r v f)))) rfl) rfl hl.1 rfl (Nat.le_of_ble_eq_true rfl) ⟨hc1, hc2⟩ dL_law_376 (fun H locs hw => ?_)
  refine lv_istore (lv' := [(6, .int bb), (5, .int r), (0, .ref b), (1, .ref (ad 0)), (2, .ref (am 0)), (3, .ref ao), (4, .int x4)]) hx hb dL_law_379 hl (by decide) rfl (fun ls hl => ?_)
  refine lv_aload_n hx hb dL_law_381 rfl (lv_at hl 4 rfl) ?_
  refine k_callViL C hw (c_X12_thrown l G Y (fun μ => wC ad Y u ++ (wM am Y μ ++ oX Y ao (z_f r v f))) am (layM am Y (wC ad Y u) (oX Y ao (z_f r v f))) μ1 r μ1 f3) (cwV 0 hts gL_law_X12_thrown rfl rfl rfl (by decide +kernel) ⟨Nat.le_of_ble_eq_true rfl, Nat.le_of_ble_eq_true rfl⟩) (k_recv C hw (LM_0 (layM am Y (wC ad Y u) (oX Y ao (z_f r v f)))) rfl) rfl hl.1 rfl (Nat.le_of_ble_eq_true rfl) ⟨hc1, hc2⟩ dL_law_382 (fun H locs hw => ?_)
  refine lv_iload hx hb dL_law_385 (lv_at hl 1 rfl) ?_
  refine lv_icmp_eq (tgt := 392) hx hb dL_law_387 (by decide) (fun _ => ?_) (fun h => absurd rfl h)
  have e409 : W p l e room_1 s m #[Value.ref b] below meth c H locs (cells + 1) (slots + 6) Q (F0 m 409 ls []) := by
    refine lv_goto (tgt := 1352) hx hb dL_law_409 (by decide) ?_
    exact next u μ1 (z_f r v f) hR1 H locs ls (lv_sub hl [2, 3, 4, 5, 6] rfl) hw
  refine lv_iload hx hb dL_law_392 (lv_at hl 1 rfl) ?_
  refine lv_if_ne (tgt := 409) hx hb dL_law_394 (by decide) (fun _ => e409) (fun h => ?_)
  refine lv_aload_n hx hb dL_law_397 rfl (lv_at hl 5 rfl) ?_
  refine lv_iconst (v := (0 : Int32)) hx hb dL_law_398 (by decide) ?_
  refine va_lald hx hb C.2.2.2.2.2.2.1.1 hw.1 108 2 (f := z_f r v f) (n := 1) (cA := Y.2.2.1) rfl rfl (k_inE (by decide)) dL_law_399 ?_
  refine lv_iload hx hb dL_law_400 (lv_at hl 0 rfl) ?_
  refine lv_i2l (v := bb.toInt64) hx hb dL_law_402 rfl ?_
  refine W.lcmp hx hb dL_law_403 ?_
  have ev : z_f r v f (0 : Int32).toNatClampNeg = bb.toInt64 := by
    unfold z_f
    rw [if_pos h, f4 h]
    rfl
  rw [ev, k_lcs]
  exact lv_if_eq (tgt := 409) hx hb dL_law_404 (by decide) (fun _ => e409) (fun q => absurd rfl q)
