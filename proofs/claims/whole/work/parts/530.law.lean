theorem k_lcs (r : Int64) : lg_cmp r r = 0 := by unfold lg_cmp; simp
set_option maxHeartbeats 4000000 in
set_option maxRecDepth 100000 in
theorem lc_0 {p : Program} {l : Launch} {e : Env} {s : State} {m : MethodId} {args : Array Value} {below : List Frame} {meth : Method} {c : Code} {A : Nat → Prop} {G : va_G} {Y : CY} {cells slots b L : Nat} {xs : Nat → Int32} {Q : State → Prop} (RR : MSt → MSt → Prop) (C : k_C p s m args meth c code RL ret wsL_law 7 G Y A) (hX : va_X b L xs s s.heap) (hbl : b < s.heap.size) (hbA : ¬ A b) (ad am : Nat → Nat) (X : va_W) (hcs : cells ≤ room_1.cells ∧ slots ≤ room_1.slots) (x4 : Int32) (i1 : vp_in (x4 + 1) L) (i2 : vp_in (x4 + 2) L) (i3 : vp_in (x4 + 3) L) (i4 : vp_in (x4 + 4) L) (i5 : vp_in (x4 + 5) L) (a3 : Nat) (ls : Array Slot) (hl : lv_has ls 7 [(0, .ref b), (1, .ref (ad 0)), (2, .ref (am 0)), (3, .ref a3), (4, .int x4)]) (sim : Sim_feed RR) (σ μ : MSt) (hR : RR σ μ) (H : Heap) (locs : List Loc) (hw : k_W G (fun σ => wC ad Y σ ++ (wM am Y μ ++ X)) A s.heap σ H locs) (next : ∀ σ1 μ1, RR σ1 μ1 → ∀ H locs, k_W G (fun μ => wC ad Y σ1 ++ (wM am Y μ ++ X)) A s.heap μ1 H locs → W p l e room_1 s m args below meth c H locs cells slots Q (F0 m 1352 ls [])) : W p l e room_1 s m args below meth c H locs cells slots Q (F0 m 196 ls []) := by
  have hx := C.1
  have hb := C.2.1
  have hts := C.2.2.2.2.2.1
  refine lv_aload_n hx hb dL_law_196 rfl (lv_at hl 1 rfl) ?_
  refine lv_aload_n hx hb dL_law_197 rfl (lv_at hl 0 rfl) ?_
  refine lv_iload hx hb dL_law_198 (lv_at hl 4 rfl) ?_
  refine lv_iconst (v := (1 : Int32)) hx hb dL_law_200 (by decide) ?_
  refine lv_iadd hx hb dL_law_201 ?_
  refine va_sld hx hb hX hbl hbA hw.2.2 (i1) dL_law_202 ?_
  refine lv_aload_n hx hb dL_law_203 rfl (lv_at hl 0 rfl) ?_
  refine lv_iload hx hb dL_law_204 (lv_at hl 4 rfl) ?_
  refine lv_iconst (v := (2 : Int32)) hx hb dL_law_206 (by decide) ?_
  refine lv_iadd hx hb dL_law_207 ?_
  refine va_sld hx hb hX hbl hbA hw.2.2 (i2) dL_law_208 ?_
  refine lv_aload_n hx hb dL_law_209 rfl (lv_at hl 0 rfl) ?_
  refine lv_iload hx hb dL_law_210 (lv_at hl 4 rfl) ?_
  refine lv_iconst (v := (3 : Int32)) hx hb dL_law_212 (by decide) ?_
  refine lv_iadd hx hb dL_law_213 ?_
  refine va_sld hx hb hX hbl hbA hw.2.2 (i3) dL_law_214 ?_
  refine lv_aload_n hx hb dL_law_215 rfl (lv_at hl 0 rfl) ?_
  refine lv_iload hx hb dL_law_216 (lv_at hl 4 rfl) ?_
  refine lv_iconst (v := (4 : Int32)) hx hb dL_law_218 (by decide) ?_
  refine lv_iadd hx hb dL_law_219 ?_
  refine va_sld hx hb hX hbl hbA hw.2.2 (i4) dL_law_220 ?_
  refine lv_aload_n hx hb dL_law_221 rfl (lv_at hl 0 rfl) ?_
  refine lv_iload hx hb dL_law_222 (lv_at hl 4 rfl) ?_
  refine lv_iconst (v := (5 : Int32)) hx hb dL_law_224 (by decide) ?_
  refine lv_iadd hx hb dL_law_225 ?_
  refine va_sld hx hb hX hbl hbA hw.2.2 (i5) dL_law_226 ?_
  obtain ⟨r, σ1, μ1, f1, f2, hR1⟩ := sim σ μ (xs (x4 + (1 : Int32)).toNatClampNeg) (xs (x4 + (2 : Int32)).toNatClampNeg) (xs (x4 + (3 : Int32)).toNatClampNeg) (xs (x4 + (4 : Int32)).toNatClampNeg) (xs (x4 + (5 : Int32)).toNatClampNeg) hR
  refine k_callViL C hw (c_X11_feed l G Y (fun σ => wC ad Y σ ++ (wM am Y μ ++ X)) ad (layC ad Y _) (xs (x4 + (1 : Int32)).toNatClampNeg) (xs (x4 + (2 : Int32)).toNatClampNeg) (xs (x4 + (3 : Int32)).toNatClampNeg) (xs (x4 + (4 : Int32)).toNatClampNeg) (xs (x4 + (5 : Int32)).toNatClampNeg) σ r σ1 f1) (cwV 5 hts gL_law_X11_feed rfl rfl rfl (by decide +kernel) ⟨Nat.le_of_ble_eq_true rfl, Nat.le_of_ble_eq_true rfl⟩) (k_recv C hw (LC_0 (layC ad Y _)) rfl) rfl hl.1 rfl (Nat.le_of_ble_eq_true rfl) hcs dL_law_227 (fun H locs hw => ?_)
  have hw : k_W G (fun μ => wC ad Y σ1 ++ (wM am Y μ ++ X)) A s.heap μ H locs := hw
  refine lv_aload_n hx hb dL_law_230 rfl (lv_at hl 2 rfl) ?_
  refine lv_aload_n hx hb dL_law_231 rfl (lv_at hl 0 rfl) ?_
  refine lv_iload hx hb dL_law_232 (lv_at hl 4 rfl) ?_
  refine lv_iconst (v := (1 : Int32)) hx hb dL_law_234 (by decide) ?_
  refine lv_iadd hx hb dL_law_235 ?_
  refine va_sld hx hb hX hbl hbA hw.2.2 (i1) dL_law_236 ?_
  refine lv_aload_n hx hb dL_law_237 rfl (lv_at hl 0 rfl) ?_
  refine lv_iload hx hb dL_law_238 (lv_at hl 4 rfl) ?_
  refine lv_iconst (v := (2 : Int32)) hx hb dL_law_240 (by decide) ?_
  refine lv_iadd hx hb dL_law_241 ?_
  refine va_sld hx hb hX hbl hbA hw.2.2 (i2) dL_law_242 ?_
  refine lv_aload_n hx hb dL_law_243 rfl (lv_at hl 0 rfl) ?_
  refine lv_iload hx hb dL_law_244 (lv_at hl 4 rfl) ?_
  refine lv_iconst (v := (3 : Int32)) hx hb dL_law_246 (by decide) ?_
  refine lv_iadd hx hb dL_law_247 ?_
  refine va_sld hx hb hX hbl hbA hw.2.2 (i3) dL_law_248 ?_
  refine lv_aload_n hx hb dL_law_249 rfl (lv_at hl 0 rfl) ?_
  refine lv_iload hx hb dL_law_250 (lv_at hl 4 rfl) ?_
  refine lv_iconst (v := (4 : Int32)) hx hb dL_law_252 (by decide) ?_
  refine lv_iadd hx hb dL_law_253 ?_
  refine va_sld hx hb hX hbl hbA hw.2.2 (i4) dL_law_254 ?_
  refine lv_aload_n hx hb dL_law_255 rfl (lv_at hl 0 rfl) ?_
  refine lv_iload hx hb dL_law_256 (lv_at hl 4 rfl) ?_
  refine lv_iconst (v := (5 : Int32)) hx hb dL_law_258 (by decide) ?_
  refine lv_iadd hx hb dL_law_259 ?_
  refine va_sld hx hb hX hbl hbA hw.2.2 (i5) dL_law_260 ?_
  refine k_callViL C hw (c_X12_feed l G Y (fun μ => wC ad Y σ1 ++ (wM am Y μ ++ X)) am (layM am Y (wC ad Y σ1) X) (xs (x4 + (1 : Int32)).toNatClampNeg) (xs (x4 + (2 : Int32)).toNatClampNeg) (xs (x4 + (3 : Int32)).toNatClampNeg) (xs (x4 + (4 : Int32)).toNatClampNeg) (xs (x4 + (5 : Int32)).toNatClampNeg) μ r μ1 f2) (cwV 5 hts gL_law_X12_feed rfl rfl rfl (by decide +kernel) ⟨Nat.le_of_ble_eq_true rfl, Nat.le_of_ble_eq_true rfl⟩) (k_recv C hw (LM_0 (layM am Y (wC ad Y σ1) X)) rfl) rfl hl.1 rfl (Nat.le_of_ble_eq_true rfl) hcs dL_law_261 (fun H locs hw => ?_)
  exact lv_icmp_eq (tgt := 1352) hx hb dL_law_264 (by decide) (fun _ => next σ1 μ1 hR1 H locs hw) (fun h => absurd rfl h)
set_option maxHeartbeats 4000000 in
set_option maxRecDepth 100000 in
theorem lc_1 {p : Program} {l : Launch} {e : Env} {s : State} {m : MethodId} {args : Array Value} {below : List Frame} {meth : Method} {c : Code} {A : Nat → Prop} {G : va_G} {Y : CY} {cells slots b L : Nat} {xs : Nat → Int32} {Q : State → Prop} (RR : MSt → MSt → Prop) (C : k_C p s m args meth c code RL ret wsL_law 7 G Y A) (hX : va_X b L xs s s.heap) (hbl : b < s.heap.size) (hbA : ¬ A b) (ad am : Nat → Nat) (X : va_W) (hcs : cells ≤ room_1.cells ∧ slots ≤ room_1.slots) (x4 : Int32) (i1 : vp_in (x4 + 1) L) (i2 : vp_in (x4 + 2) L) (i3 : vp_in (x4 + 3) L) (i4 : vp_in (x4 + 4) L) (i5 : vp_in (x4 + 5) L) (a3 : Nat) (ls : Array Slot) (hl : lv_has ls 7 [(0, .ref b), (1, .ref (ad 0)), (2, .ref (am 0)), (3, .ref a3), (4, .int x4)]) (sim : Sim_text RR) (σ μ : MSt) (hR : RR σ μ) (H : Heap) (locs : List Loc) (hw : k_W G (fun σ => wC ad Y σ ++ (wM am Y μ ++ X)) A s.heap σ H locs) (next : ∀ σ1 μ1, RR σ1 μ1 → ∀ H locs, k_W G (fun μ => wC ad Y σ1 ++ (wM am Y μ ++ X)) A s.heap μ1 H locs → W p l e room_1 s m args below meth c H locs cells slots Q (F0 m 1352 ls [])) : W p l e room_1 s m args below meth c H locs cells slots Q (F0 m 269 ls []) := by
  have hx := C.1
  have hb := C.2.1
  have hts := C.2.2.2.2.2.1
  refine lv_aload_n hx hb dL_law_269 rfl (lv_at hl 1 rfl) ?_
  refine lv_aload_n hx hb dL_law_270 rfl (lv_at hl 0 rfl) ?_
  refine lv_iload hx hb dL_law_271 (lv_at hl 4 rfl) ?_
  refine lv_iconst (v := (1 : Int32)) hx hb dL_law_273 (by decide) ?_
  refine lv_iadd hx hb dL_law_274 ?_
  refine va_sld hx hb hX hbl hbA hw.2.2 (i1) dL_law_275 ?_
  obtain ⟨r, σ1, μ1, f1, f2, hR1⟩ := sim σ μ (xs (x4 + (1 : Int32)).toNatClampNeg) hR
  refine k_callViL C hw (c_X11_text l G Y (fun σ => wC ad Y σ ++ (wM am Y μ ++ X)) ad (layC ad Y _) (xs (x4 + (1 : Int32)).toNatClampNeg) σ r σ1 f1) (cwV 1 hts gL_law_X11_text rfl rfl rfl (by decide +kernel) ⟨Nat.le_of_ble_eq_true rfl, Nat.le_of_ble_eq_true rfl⟩) (k_recv C hw (LC_0 (layC ad Y _)) rfl) rfl hl.1 rfl (Nat.le_of_ble_eq_true rfl) hcs dL_law_276 (fun H locs hw => ?_)
  have hw : k_W G (fun μ => wC ad Y σ1 ++ (wM am Y μ ++ X)) A s.heap μ H locs := hw
  refine lv_aload_n hx hb dL_law_279 rfl (lv_at hl 2 rfl) ?_
  refine lv_aload_n hx hb dL_law_280 rfl (lv_at hl 0 rfl) ?_
  refine lv_iload hx hb dL_law_281 (lv_at hl 4 rfl) ?_
  refine lv_iconst (v := (1 : Int32)) hx hb dL_law_283 (by decide) ?_
  refine lv_iadd hx hb dL_law_284 ?_
  refine va_sld hx hb hX hbl hbA hw.2.2 (i1) dL_law_285 ?_
  refine k_callViL C hw (c_X12_text l G Y (fun μ => wC ad Y σ1 ++ (wM am Y μ ++ X)) am (layM am Y (wC ad Y σ1) X) (xs (x4 + (1 : Int32)).toNatClampNeg) μ r μ1 f2) (cwV 1 hts gL_law_X12_text rfl rfl rfl (by decide +kernel) ⟨Nat.le_of_ble_eq_true rfl, Nat.le_of_ble_eq_true rfl⟩) (k_recv C hw (LM_0 (layM am Y (wC ad Y σ1) X)) rfl) rfl hl.1 rfl (Nat.le_of_ble_eq_true rfl) hcs dL_law_286 (fun H locs hw => ?_)
  exact lv_icmp_eq (tgt := 1352) hx hb dL_law_289 (by decide) (fun _ => next σ1 μ1 hR1 H locs hw) (fun h => absurd rfl h)
set_option maxHeartbeats 4000000 in
set_option maxRecDepth 100000 in
theorem lc_2 {p : Program} {l : Launch} {e : Env} {s : State} {m : MethodId} {args : Array Value} {below : List Frame} {meth : Method} {c : Code} {A : Nat → Prop} {G : va_G} {Y : CY} {cells slots b L : Nat} {xs : Nat → Int32} {Q : State → Prop} (RR : MSt → MSt → Prop) (C : k_C p s m args meth c code RL ret wsL_law 7 G Y A) (hX : va_X b L xs s s.heap) (hbl : b < s.heap.size) (hbA : ¬ A b) (ad am : Nat → Nat) (X : va_W) (hcs : cells ≤ room_1.cells ∧ slots ≤ room_1.slots) (x4 : Int32) (i1 : vp_in (x4 + 1) L) (i2 : vp_in (x4 + 2) L) (i3 : vp_in (x4 + 3) L) (i4 : vp_in (x4 + 4) L) (i5 : vp_in (x4 + 5) L) (a3 : Nat) (ls : Array Slot) (hl : lv_has ls 7 [(0, .ref b), (1, .ref (ad 0)), (2, .ref (am 0)), (3, .ref a3), (4, .int x4)]) (sim : Sim_fault RR) (σ μ : MSt) (hR : RR σ μ) (H : Heap) (locs : List Loc) (hw : k_W G (fun σ => wC ad Y σ ++ (wM am Y μ ++ X)) A s.heap σ H locs) (next : ∀ σ1 μ1, RR σ1 μ1 → ∀ H locs, k_W G (fun μ => wC ad Y σ1 ++ (wM am Y μ ++ X)) A s.heap μ1 H locs → W p l e room_1 s m args below meth c H locs cells slots Q (F0 m 1352 ls [])) : W p l e room_1 s m args below meth c H locs cells slots Q (F0 m 294 ls []) := by
  have hx := C.1
  have hb := C.2.1
  have hts := C.2.2.2.2.2.1
  refine lv_aload_n hx hb dL_law_294 rfl (lv_at hl 1 rfl) ?_
  refine lv_aload_n hx hb dL_law_295 rfl (lv_at hl 0 rfl) ?_
  refine lv_iload hx hb dL_law_296 (lv_at hl 4 rfl) ?_
  refine lv_iconst (v := (1 : Int32)) hx hb dL_law_298 (by decide) ?_
  refine lv_iadd hx hb dL_law_299 ?_
  refine va_sld hx hb hX hbl hbA hw.2.2 (i1) dL_law_300 ?_
  obtain ⟨r, σ1, μ1, f1, f2, hR1⟩ := sim σ μ (xs (x4 + (1 : Int32)).toNatClampNeg) hR
  refine k_callViL C hw (c_X11_fault l G Y (fun σ => wC ad Y σ ++ (wM am Y μ ++ X)) ad (layC ad Y _) (xs (x4 + (1 : Int32)).toNatClampNeg) σ r σ1 f1) (cwV 1 hts gL_law_X11_fault rfl rfl rfl (by decide +kernel) ⟨Nat.le_of_ble_eq_true rfl, Nat.le_of_ble_eq_true rfl⟩) (k_recv C hw (LC_0 (layC ad Y _)) rfl) rfl hl.1 rfl (Nat.le_of_ble_eq_true rfl) hcs dL_law_301 (fun H locs hw => ?_)
  have hw : k_W G (fun μ => wC ad Y σ1 ++ (wM am Y μ ++ X)) A s.heap μ H locs := hw
  refine lv_aload_n hx hb dL_law_304 rfl (lv_at hl 2 rfl) ?_
  refine lv_aload_n hx hb dL_law_305 rfl (lv_at hl 0 rfl) ?_
  refine lv_iload hx hb dL_law_306 (lv_at hl 4 rfl) ?_
  refine lv_iconst (v := (1 : Int32)) hx hb dL_law_308 (by decide) ?_
  refine lv_iadd hx hb dL_law_309 ?_
  refine va_sld hx hb hX hbl hbA hw.2.2 (i1) dL_law_310 ?_
  refine k_callViL C hw (c_X12_fault l G Y (fun μ => wC ad Y σ1 ++ (wM am Y μ ++ X)) am (layM am Y (wC ad Y σ1) X) (xs (x4 + (1 : Int32)).toNatClampNeg) μ r μ1 f2) (cwV 1 hts gL_law_X12_fault rfl rfl rfl (by decide +kernel) ⟨Nat.le_of_ble_eq_true rfl, Nat.le_of_ble_eq_true rfl⟩) (k_recv C hw (LM_0 (layM am Y (wC ad Y σ1) X)) rfl) rfl hl.1 rfl (Nat.le_of_ble_eq_true rfl) hcs dL_law_311 (fun H locs hw => ?_)
  exact lv_icmp_eq (tgt := 1352) hx hb dL_law_314 (by decide) (fun _ => next σ1 μ1 hR1 H locs hw) (fun h => absurd rfl h)
set_option maxHeartbeats 4000000 in
set_option maxRecDepth 100000 in
theorem lc_3 {p : Program} {l : Launch} {e : Env} {s : State} {m : MethodId} {args : Array Value} {below : List Frame} {meth : Method} {c : Code} {A : Nat → Prop} {G : va_G} {Y : CY} {cells slots b L : Nat} {xs : Nat → Int32} {Q : State → Prop} (RR : MSt → MSt → Prop) (C : k_C p s m args meth c code RL ret wsL_law 7 G Y A) (hX : va_X b L xs s s.heap) (hbl : b < s.heap.size) (hbA : ¬ A b) (ad am : Nat → Nat) (X : va_W) (hcs : cells ≤ room_1.cells ∧ slots ≤ room_1.slots) (x4 : Int32) (i1 : vp_in (x4 + 1) L) (i2 : vp_in (x4 + 2) L) (i3 : vp_in (x4 + 3) L) (i4 : vp_in (x4 + 4) L) (i5 : vp_in (x4 + 5) L) (a3 : Nat) (ls : Array Slot) (hl : lv_has ls 7 [(0, .ref b), (1, .ref (ad 0)), (2, .ref (am 0)), (3, .ref a3), (4, .int x4)]) (sim : Sim_named RR) (σ μ : MSt) (hR : RR σ μ) (H : Heap) (locs : List Loc) (hw : k_W G (fun σ => wC ad Y σ ++ (wM am Y μ ++ X)) A s.heap σ H locs) (next : ∀ σ1 μ1, RR σ1 μ1 → ∀ H locs, k_W G (fun μ => wC ad Y σ1 ++ (wM am Y μ ++ X)) A s.heap μ1 H locs → W p l e room_1 s m args below meth c H locs cells slots Q (F0 m 1352 ls [])) : W p l e room_1 s m args below meth c H locs cells slots Q (F0 m 319 ls []) := by
  have hx := C.1
  have hb := C.2.1
  have hts := C.2.2.2.2.2.1
  refine lv_aload_n hx hb dL_law_319 rfl (lv_at hl 1 rfl) ?_
  refine lv_aload_n hx hb dL_law_320 rfl (lv_at hl 0 rfl) ?_
  refine lv_iload hx hb dL_law_321 (lv_at hl 4 rfl) ?_
  refine lv_iconst (v := (1 : Int32)) hx hb dL_law_323 (by decide) ?_
  refine lv_iadd hx hb dL_law_324 ?_
  refine va_sld hx hb hX hbl hbA hw.2.2 (i1) dL_law_325 ?_
  obtain ⟨r, σ1, μ1, f1, f2, hR1⟩ := sim σ μ (xs (x4 + (1 : Int32)).toNatClampNeg) hR
  refine k_callViL C hw (c_X11_named l G Y (fun σ => wC ad Y σ ++ (wM am Y μ ++ X)) ad (layC ad Y _) (xs (x4 + (1 : Int32)).toNatClampNeg) σ r σ1 f1) (cwV 1 hts gL_law_X11_named rfl rfl rfl (by decide +kernel) ⟨Nat.le_of_ble_eq_true rfl, Nat.le_of_ble_eq_true rfl⟩) (k_recv C hw (LC_0 (layC ad Y _)) rfl) rfl hl.1 rfl (Nat.le_of_ble_eq_true rfl) hcs dL_law_326 (fun H locs hw => ?_)
  have hw : k_W G (fun μ => wC ad Y σ1 ++ (wM am Y μ ++ X)) A s.heap μ H locs := hw
  refine lv_aload_n hx hb dL_law_329 rfl (lv_at hl 2 rfl) ?_
  refine lv_aload_n hx hb dL_law_330 rfl (lv_at hl 0 rfl) ?_
  refine lv_iload hx hb dL_law_331 (lv_at hl 4 rfl) ?_
  refine lv_iconst (v := (1 : Int32)) hx hb dL_law_333 (by decide) ?_
  refine lv_iadd hx hb dL_law_334 ?_
  refine va_sld hx hb hX hbl hbA hw.2.2 (i1) dL_law_335 ?_
  refine k_callViL C hw (c_X12_named l G Y (fun μ => wC ad Y σ1 ++ (wM am Y μ ++ X)) am (layM am Y (wC ad Y σ1) X) (xs (x4 + (1 : Int32)).toNatClampNeg) μ r μ1 f2) (cwV 1 hts gL_law_X12_named rfl rfl rfl (by decide +kernel) ⟨Nat.le_of_ble_eq_true rfl, Nat.le_of_ble_eq_true rfl⟩) (k_recv C hw (LM_0 (layM am Y (wC ad Y σ1) X)) rfl) rfl hl.1 rfl (Nat.le_of_ble_eq_true rfl) hcs dL_law_336 (fun H locs hw => ?_)
  exact lv_icmp_eq (tgt := 1352) hx hb dL_law_339 (by decide) (fun _ => next σ1 μ1 hR1 H locs hw) (fun h => absurd rfl h)
set_option maxHeartbeats 4000000 in
set_option maxRecDepth 100000 in
theorem lc_5 {p : Program} {l : Launch} {e : Env} {s : State} {m : MethodId} {args : Array Value} {below : List Frame} {meth : Method} {c : Code} {A : Nat → Prop} {G : va_G} {Y : CY} {cells slots b L : Nat} {xs : Nat → Int32} {Q : State → Prop} (RR : MSt → MSt → Prop) (C : k_C p s m args meth c code RL ret wsL_law 7 G Y A) (hX : va_X b L xs s s.heap) (hbl : b < s.heap.size) (hbA : ¬ A b) (ad am : Nat → Nat) (X : va_W) (hcs : cells ≤ room_1.cells ∧ slots ≤ room_1.slots) (x4 : Int32) (i1 : vp_in (x4 + 1) L) (i2 : vp_in (x4 + 2) L) (i3 : vp_in (x4 + 3) L) (i4 : vp_in (x4 + 4) L) (i5 : vp_in (x4 + 5) L) (a3 : Nat) (ls : Array Slot) (hl : lv_has ls 7 [(0, .ref b), (1, .ref (ad 0)), (2, .ref (am 0)), (3, .ref a3), (4, .int x4)]) (sim : Sim_lane RR) (σ μ : MSt) (hR : RR σ μ) (H : Heap) (locs : List Loc) (hw : k_W G (fun σ => wC ad Y σ ++ (wM am Y μ ++ X)) A s.heap σ H locs) (next : ∀ σ1 μ1, RR σ1 μ1 → ∀ H locs, k_W G (fun μ => wC ad Y σ1 ++ (wM am Y μ ++ X)) A s.heap μ1 H locs → W p l e room_1 s m args below meth c H locs cells slots Q (F0 m 1352 ls [])) : W p l e room_1 s m args below meth c H locs cells slots Q (F0 m 412 ls []) := by
  have hx := C.1
  have hb := C.2.1
  have hts := C.2.2.2.2.2.1
  refine lv_aload_n hx hb dL_law_412 rfl (lv_at hl 1 rfl) ?_
  refine lv_aload_n hx hb dL_law_413 rfl (lv_at hl 0 rfl) ?_
  refine lv_iload hx hb dL_law_414 (lv_at hl 4 rfl) ?_
  refine lv_iconst (v := (1 : Int32)) hx hb dL_law_416 (by decide) ?_
  refine lv_iadd hx hb dL_law_417 ?_
  refine va_sld hx hb hX hbl hbA hw.2.2 (i1) dL_law_418 ?_
  refine lv_aload_n hx hb dL_law_419 rfl (lv_at hl 0 rfl) ?_
  refine lv_iload hx hb dL_law_420 (lv_at hl 4 rfl) ?_
  refine lv_iconst (v := (2 : Int32)) hx hb dL_law_422 (by decide) ?_
  refine lv_iadd hx hb dL_law_423 ?_
  refine va_sld hx hb hX hbl hbA hw.2.2 (i2) dL_law_424 ?_
  obtain ⟨r, σ1, μ1, f1, f2, hR1⟩ := sim σ μ (xs (x4 + (1 : Int32)).toNatClampNeg) (xs (x4 + (2 : Int32)).toNatClampNeg) hR
  refine k_callViL C hw (c_X11_lane l G Y (fun σ => wC ad Y σ ++ (wM am Y μ ++ X)) ad (layC ad Y _) (xs (x4 + (1 : Int32)).toNatClampNeg) (xs (x4 + (2 : Int32)).toNatClampNeg) σ r σ1 f1) (cwV 2 hts gL_law_X11_lane rfl rfl rfl (by decide +kernel) ⟨Nat.le_of_ble_eq_true rfl, Nat.le_of_ble_eq_true rfl⟩) (k_recv C hw (LC_0 (layC ad Y _)) rfl) rfl hl.1 rfl (Nat.le_of_ble_eq_true rfl) hcs dL_law_425 (fun H locs hw => ?_)
  have hw : k_W G (fun μ => wC ad Y σ1 ++ (wM am Y μ ++ X)) A s.heap μ H locs := hw
  refine lv_aload_n hx hb dL_law_428 rfl (lv_at hl 2 rfl) ?_
  refine lv_aload_n hx hb dL_law_429 rfl (lv_at hl 0 rfl) ?_
  refine lv_iload hx hb dL_law_430 (lv_at hl 4 rfl) ?_
  refine lv_iconst (v := (1 : Int32)) hx hb dL_law_432 (by decide) ?_
  refine lv_iadd hx hb dL_law_433 ?_
  refine va_sld hx hb hX hbl hbA hw.2.2 (i1) dL_law_434 ?_
  refine lv_aload_n hx hb dL_law_435 rfl (lv_at hl 0 rfl) ?_
  refine lv_iload hx hb dL_law_436 (lv_at hl 4 rfl) ?_
  refine lv_iconst (v := (2 : Int32)) hx hb dL_law_438 (by decide) ?_
  refine lv_iadd hx hb dL_law_439 ?_
  refine va_sld hx hb hX hbl hbA hw.2.2 (i2) dL_law_440 ?_
  refine k_callViL C hw (c_X12_lane l G Y (fun μ => wC ad Y σ1 ++ (wM am Y μ ++ X)) am (layM am Y (wC ad Y σ1) X) (xs (x4 + (1 : Int32)).toNatClampNeg) (xs (x4 + (2 : Int32)).toNatClampNeg) μ r μ1 f2) (cwV 2 hts gL_law_X12_lane rfl rfl rfl (by decide +kernel) ⟨Nat.le_of_ble_eq_true rfl, Nat.le_of_ble_eq_true rfl⟩) (k_recv C hw (LM_0 (layM am Y (wC ad Y σ1) X)) rfl) rfl hl.1 rfl (Nat.le_of_ble_eq_true rfl) hcs dL_law_441 (fun H locs hw => ?_)
  exact lv_icmp_eq (tgt := 1352) hx hb dL_law_444 (by decide) (fun _ => next σ1 μ1 hR1 H locs hw) (fun h => absurd rfl h)
set_option maxHeartbeats 4000000 in
set_option maxRecDepth 100000 in
theorem lc_6 {p : Program} {l : Launch} {e : Env} {s : State} {m : MethodId} {args : Array Value} {below : List Frame} {meth : Method} {c : Code} {A : Nat → Prop} {G : va_G} {Y : CY} {cells slots b L : Nat} {xs : Nat → Int32} {Q : State → Prop} (RR : MSt → MSt → Prop) (C : k_C p s m args meth c code RL ret wsL_law 7 G Y A) (hX : va_X b L xs s s.heap) (hbl : b < s.heap.size) (hbA : ¬ A b) (ad am : Nat → Nat) (X : va_W) (hcs : cells ≤ room_1.cells ∧ slots ≤ room_1.slots) (x4 : Int32) (i1 : vp_in (x4 + 1) L) (i2 : vp_in (x4 + 2) L) (i3 : vp_in (x4 + 3) L) (i4 : vp_in (x4 + 4) L) (i5 : vp_in (x4 + 5) L) (a3 : Nat) (ls : Array Slot) (hl : lv_has ls 7 [(0, .ref b), (1, .ref (ad 0)), (2, .ref (am 0)), (3, .ref a3), (4, .int x4)]) (sim : Sim_deed RR) (σ μ : MSt) (hR : RR σ μ) (H : Heap) (locs : List Loc) (hw : k_W G (fun σ => wC ad Y σ ++ (wM am Y μ ++ X)) A s.heap σ H locs) (next : ∀ σ1 μ1, RR σ1 μ1 → ∀ H locs, k_W G (fun μ => wC ad Y σ1 ++ (wM am Y μ ++ X)) A s.heap μ1 H locs → W p l e room_1 s m args below meth c H locs cells slots Q (F0 m 1352 ls [])) : W p l e room_1 s m args below meth c H locs cells slots Q (F0 m 449 ls []) := by
  have hx := C.1
  have hb := C.2.1
  have hts := C.2.2.2.2.2.1
  refine lv_aload_n hx hb dL_law_449 rfl (lv_at hl 1 rfl) ?_
  refine lv_aload_n hx hb dL_law_450 rfl (lv_at hl 0 rfl) ?_
  refine lv_iload hx hb dL_law_451 (lv_at hl 4 rfl) ?_
  refine lv_iconst (v := (1 : Int32)) hx hb dL_law_453 (by decide) ?_
  refine lv_iadd hx hb dL_law_454 ?_
  refine va_sld hx hb hX hbl hbA hw.2.2 (i1) dL_law_455 ?_
  refine lv_aload_n hx hb dL_law_456 rfl (lv_at hl 0 rfl) ?_
  refine lv_iload hx hb dL_law_457 (lv_at hl 4 rfl) ?_
  refine lv_iconst (v := (2 : Int32)) hx hb dL_law_459 (by decide) ?_
  refine lv_iadd hx hb dL_law_460 ?_
  refine va_sld hx hb hX hbl hbA hw.2.2 (i2) dL_law_461 ?_
  obtain ⟨r, σ1, μ1, f1, f2, hR1⟩ := sim σ μ (xs (x4 + (1 : Int32)).toNatClampNeg) (xs (x4 + (2 : Int32)).toNatClampNeg) hR
  refine k_callViL C hw (c_X11_deed l G Y (fun σ => wC ad Y σ ++ (wM am Y μ ++ X)) ad (layC ad Y _) (xs (x4 + (1 : Int32)).toNatClampNeg) (xs (x4 + (2 : Int32)).toNatClampNeg) σ r σ1 f1) (cwV 2 hts gL_law_X11_deed rfl rfl rfl (by decide +kernel) ⟨Nat.le_of_ble_eq_true rfl, Nat.le_of_ble_eq_true rfl⟩) (k_recv C hw (LC_0 (layC ad Y _)) rfl) rfl hl.1 rfl (Nat.le_of_ble_eq_true rfl) hcs dL_law_462 (fun H locs hw => ?_)
  have hw : k_W G (fun μ => wC ad Y σ1 ++ (wM am Y μ ++ X)) A s.heap μ H locs := hw
  refine lv_aload_n hx hb dL_law_465 rfl (lv_at hl 2 rfl) ?_
  refine lv_aload_n hx hb dL_law_466 rfl (lv_at hl 0 rfl) ?_
  refine lv_iload hx hb dL_law_467 (lv_at hl 4 rfl) ?_
  refine lv_iconst (v := (1 : Int32)) hx hb dL_law_469 (by decide) ?_
  refine lv_iadd hx hb dL_law_470 ?_
  refine va_sld hx hb hX hbl hbA hw.2.2 (i1) dL_law_471 ?_
  refine lv_aload_n hx hb dL_law_472 rfl (lv_at hl 0 rfl) ?_
  refine lv_iload hx hb dL_law_473 (lv_at hl 4 rfl) ?_
  refine lv_iconst (v := (2 : Int32)) hx hb dL_law_475 (by decide) ?_
  refine lv_iadd hx hb dL_law_476 ?_
  refine va_sld hx hb hX hbl hbA hw.2.2 (i2) dL_law_477 ?_
  refine k_callViL C hw (c_X12_deed l G Y (fun μ => wC ad Y σ1 ++ (wM am Y μ ++ X)) am (layM am Y (wC ad Y σ1) X) (xs (x4 + (1 : Int32)).toNatClampNeg) (xs (x4 + (2 : Int32)).toNatClampNeg) μ r μ1 f2) (cwV 2 hts gL_law_X12_deed rfl rfl rfl (by decide +kernel) ⟨Nat.le_of_ble_eq_true rfl, Nat.le_of_ble_eq_true rfl⟩) (k_recv C hw (LM_0 (layM am Y (wC ad Y σ1) X)) rfl) rfl hl.1 rfl (Nat.le_of_ble_eq_true rfl) hcs dL_law_478 (fun H locs hw => ?_)
  exact lv_icmp_eq (tgt := 1352) hx hb dL_law_481 (by decide) (fun _ => next σ1 μ1 hR1 H locs hw) (fun h => absurd rfl h)
set_option maxHeartbeats 4000000 in
set_option maxRecDepth 100000 in
theorem lc_7 {p : Program} {l : Launch} {e : Env} {s : State} {m : MethodId} {args : Array Value} {below : List Frame} {meth : Method} {c : Code} {A : Nat → Prop} {G : va_G} {Y : CY} {cells slots b L : Nat} {xs : Nat → Int32} {Q : State → Prop} (RR : MSt → MSt → Prop) (C : k_C p s m args meth c code RL ret wsL_law 7 G Y A) (hX : va_X b L xs s s.heap) (hbl : b < s.heap.size) (hbA : ¬ A b) (ad am : Nat → Nat) (X : va_W) (hcs : cells ≤ room_1.cells ∧ slots ≤ room_1.slots) (x4 : Int32) (i1 : vp_in (x4 + 1) L) (i2 : vp_in (x4 + 2) L) (i3 : vp_in (x4 + 3) L) (i4 : vp_in (x4 + 4) L) (i5 : vp_in (x4 + 5) L) (a3 : Nat) (ls : Array Slot) (hl : lv_has ls 7 [(0, .ref b), (1, .ref (ad 0)), (2, .ref (am 0)), (3, .ref a3), (4, .int x4)]) (sim : Sim_wind RR) (σ μ : MSt) (hR : RR σ μ) (H : Heap) (locs : List Loc) (hw : k_W G (fun σ => wC ad Y σ ++ (wM am Y μ ++ X)) A s.heap σ H locs) (next : ∀ σ1 μ1, RR σ1 μ1 → ∀ H locs, k_W G (fun μ => wC ad Y σ1 ++ (wM am Y μ ++ X)) A s.heap μ1 H locs → W p l e room_1 s m args below meth c H locs cells slots Q (F0 m 1352 ls [])) : W p l e room_1 s m args below meth c H locs cells slots Q (F0 m 486 ls []) := by
  have hx := C.1
  have hb := C.2.1
  have hts := C.2.2.2.2.2.1
  refine lv_aload_n hx hb dL_law_486 rfl (lv_at hl 1 rfl) ?_
  refine lv_aload_n hx hb dL_law_487 rfl (lv_at hl 0 rfl) ?_
  refine lv_iload hx hb dL_law_488 (lv_at hl 4 rfl) ?_
  refine lv_iconst (v := (1 : Int32)) hx hb dL_law_490 (by decide) ?_
  refine lv_iadd hx hb dL_law_491 ?_
  refine va_sld hx hb hX hbl hbA hw.2.2 (i1) dL_law_492 ?_
  obtain ⟨r, σ1, μ1, f1, f2, hR1⟩ := sim σ μ (xs (x4 + (1 : Int32)).toNatClampNeg) hR
  refine k_callViL C hw (c_X11_wind l G Y (fun σ => wC ad Y σ ++ (wM am Y μ ++ X)) ad (layC ad Y _) (xs (x4 + (1 : Int32)).toNatClampNeg) σ r σ1 f1) (cwV 1 hts gL_law_X11_wind rfl rfl rfl (by decide +kernel) ⟨Nat.le_of_ble_eq_true rfl, Nat.le_of_ble_eq_true rfl⟩) (k_recv C hw (LC_0 (layC ad Y _)) rfl) rfl hl.1 rfl (Nat.le_of_ble_eq_true rfl) hcs dL_law_493 (fun H locs hw => ?_)
  have hw : k_W G (fun μ => wC ad Y σ1 ++ (wM am Y μ ++ X)) A s.heap μ H locs := hw
  refine lv_aload_n hx hb dL_law_496 rfl (lv_at hl 2 rfl) ?_
  refine lv_aload_n hx hb dL_law_497 rfl (lv_at hl 0 rfl) ?_
  refine lv_iload hx hb dL_law_498 (lv_at hl 4 rfl) ?_
  refine lv_iconst (v := (1 : Int32)) hx hb dL_law_500 (by decide) ?_
  refine lv_iadd hx hb dL_law_501 ?_
  refine va_sld hx hb hX hbl hbA hw.2.2 (i1) dL_law_502 ?_
  refine k_callViL C hw (c_X12_wind l G Y (fun μ => wC ad Y σ1 ++ (wM am Y μ ++ X)) am (layM am Y (wC ad Y σ1) X) (xs (x4 + (1 : Int32)).toNatClampNeg) μ r μ1 f2) (cwV 1 hts gL_law_X12_wind rfl rfl rfl (by decide +kernel) ⟨Nat.le_of_ble_eq_true rfl, Nat.le_of_ble_eq_true rfl⟩) (k_recv C hw (LM_0 (layM am Y (wC ad Y σ1) X)) rfl) rfl hl.1 rfl (Nat.le_of_ble_eq_true rfl) hcs dL_law_503 (fun H locs hw => ?_)
  exact lv_icmp_eq (tgt := 1352) hx hb dL_law_506 (by decide) (fun _ => next σ1 μ1 hR1 H locs hw) (fun h => absurd rfl h)
set_option maxHeartbeats 4000000 in
set_option maxRecDepth 100000 in
theorem lc_8 {p : Program} {l : Launch} {e : Env} {s : State} {m : MethodId} {args : Array Value} {below : List Frame} {meth : Method} {c : Code} {A : Nat → Prop} {G : va_G} {Y : CY} {cells slots b L : Nat} {xs : Nat → Int32} {Q : State → Prop} (RR : MSt → MSt → Prop) (C : k_C p s m args meth c code RL ret wsL_law 7 G Y A) (hX : va_X b L xs s s.heap) (hbl : b < s.heap.size) (hbA : ¬ A b) (ad am : Nat → Nat) (X : va_W) (hcs : cells ≤ room_1.cells ∧ slots ≤ room_1.slots) (x4 : Int32) (i1 : vp_in (x4 + 1) L) (i2 : vp_in (x4 + 2) L) (i3 : vp_in (x4 + 3) L) (i4 : vp_in (x4 + 4) L) (i5 : vp_in (x4 + 5) L) (a3 : Nat) (ls : Array Slot) (hl : lv_has ls 7 [(0, .ref b), (1, .ref (ad 0)), (2, .ref (am 0)), (3, .ref a3), (4, .int x4)]) (sim : Sim_mood RR) (σ μ : MSt) (hR : RR σ μ) (H : Heap) (locs : List Loc) (hw : k_W G (fun σ => wC ad Y σ ++ (wM am Y μ ++ X)) A s.heap σ H locs) (next : ∀ σ1 μ1, RR σ1 μ1 → ∀ H locs, k_W G (fun μ => wC ad Y σ1 ++ (wM am Y μ ++ X)) A s.heap μ1 H locs → W p l e room_1 s m args below meth c H locs cells slots Q (F0 m 1352 ls [])) : W p l e room_1 s m args below meth c H locs cells slots Q (F0 m 511 ls []) := by
  have hx := C.1
  have hb := C.2.1
  have hts := C.2.2.2.2.2.1
  refine lv_aload_n hx hb dL_law_511 rfl (lv_at hl 1 rfl) ?_
  refine lv_aload_n hx hb dL_law_512 rfl (lv_at hl 0 rfl) ?_
  refine lv_iload hx hb dL_law_513 (lv_at hl 4 rfl) ?_
  refine lv_iconst (v := (1 : Int32)) hx hb dL_law_515 (by decide) ?_
  refine lv_iadd hx hb dL_law_516 ?_
  refine va_sld hx hb hX hbl hbA hw.2.2 (i1) dL_law_517 ?_
  refine lv_aload_n hx hb dL_law_518 rfl (lv_at hl 0 rfl) ?_
  refine lv_iload hx hb dL_law_519 (lv_at hl 4 rfl) ?_
  refine lv_iconst (v := (2 : Int32)) hx hb dL_law_521 (by decide) ?_
  refine lv_iadd hx hb dL_law_522 ?_
  refine va_sld hx hb hX hbl hbA hw.2.2 (i2) dL_law_523 ?_
  obtain ⟨r, σ1, μ1, f1, f2, hR1⟩ := sim σ μ (xs (x4 + (1 : Int32)).toNatClampNeg) (xs (x4 + (2 : Int32)).toNatClampNeg) hR
  refine k_callViL C hw (c_X11_mood l G Y (fun σ => wC ad Y σ ++ (wM am Y μ ++ X)) ad (layC ad Y _) (xs (x4 + (1 : Int32)).toNatClampNeg) (xs (x4 + (2 : Int32)).toNatClampNeg) σ r σ1 f1) (cwV 2 hts gL_law_X11_mood rfl rfl rfl (by decide +kernel) ⟨Nat.le_of_ble_eq_true rfl, Nat.le_of_ble_eq_true rfl⟩) (k_recv C hw (LC_0 (layC ad Y _)) rfl) rfl hl.1 rfl (Nat.le_of_ble_eq_true rfl) hcs dL_law_524 (fun H locs hw => ?_)
  have hw : k_W G (fun μ => wC ad Y σ1 ++ (wM am Y μ ++ X)) A s.heap μ H locs := hw
  refine lv_aload_n hx hb dL_law_527 rfl (lv_at hl 2 rfl) ?_
  refine lv_aload_n hx hb dL_law_528 rfl (lv_at hl 0 rfl) ?_
  refine lv_iload hx hb dL_law_529 (lv_at hl 4 rfl) ?_
  refine lv_iconst (v := (1 : Int32)) hx hb dL_law_531 (by decide) ?_
  refine lv_iadd hx hb dL_law_532 ?_
  refine va_sld hx hb hX hbl hbA hw.2.2 (i1) dL_law_533 ?_
  refine lv_aload_n hx hb dL_law_534 rfl (lv_at hl 0 rfl) ?_
  refine lv_iload hx hb dL_law_535 (lv_at hl 4 rfl) ?_
  refine lv_iconst (v := (2 : Int32)) hx hb dL_law_537 (by decide) ?_
  refine lv_iadd hx hb dL_law_538 ?_
  refine va_sld hx hb hX hbl hbA hw.2.2 (i2) dL_law_539 ?_
  refine k_callViL C hw (c_X12_mood l G Y (fun μ => wC ad Y σ1 ++ (wM am Y μ ++ X)) am (layM am Y (wC ad Y σ1) X) (xs (x4 + (1 : Int32)).toNatClampNeg) (xs (x4 + (2 : Int32)).toNatClampNeg) μ r μ1 f2) (cwV 2 hts gL_law_X12_mood rfl rfl rfl (by decide +kernel) ⟨Nat.le_of_ble_eq_true rfl, Nat.le_of_ble_eq_true rfl⟩) (k_recv C hw (LM_0 (layM am Y (wC ad Y σ1) X)) rfl) rfl hl.1 rfl (Nat.le_of_ble_eq_true rfl) hcs dL_law_540 (fun H locs hw => ?_)
  exact lv_icmp_eq (tgt := 1352) hx hb dL_law_543 (by decide) (fun _ => next σ1 μ1 hR1 H locs hw) (fun h => absurd rfl h)
set_option maxHeartbeats 4000000 in
set_option maxRecDepth 100000 in
theorem lc_9 {p : Program} {l : Launch} {e : Env} {s : State} {m : MethodId} {args : Array Value} {below : List Frame} {meth : Method} {c : Code} {A : Nat → Prop} {G : va_G} {Y : CY} {cells slots b L : Nat} {xs : Nat → Int32} {Q : State → Prop} (RR : MSt → MSt → Prop) (C : k_C p s m args meth c code RL ret wsL_law 7 G Y A) (hX : va_X b L xs s s.heap) (hbl : b < s.heap.size) (hbA : ¬ A b) (ad am : Nat → Nat) (X : va_W) (hcs : cells ≤ room_1.cells ∧ slots ≤ room_1.slots) (x4 : Int32) (i1 : vp_in (x4 + 1) L) (i2 : vp_in (x4 + 2) L) (i3 : vp_in (x4 + 3) L) (i4 : vp_in (x4 + 4) L) (i5 : vp_in (x4 + 5) L) (a3 : Nat) (ls : Array Slot) (hl : lv_has ls 7 [(0, .ref b), (1, .ref (ad 0)), (2, .ref (am 0)), (3, .ref a3), (4, .int x4)]) (sim : Sim_holds RR) (σ μ : MSt) (hR : RR σ μ) (H : Heap) (locs : List Loc) (hw : k_W G (fun σ => wC ad Y σ ++ (wM am Y μ ++ X)) A s.heap σ H locs) (next : ∀ σ1 μ1, RR σ1 μ1 → ∀ H locs, k_W G (fun μ => wC ad Y σ1 ++ (wM am Y μ ++ X)) A s.heap μ1 H locs → W p l e room_1 s m args below meth c H locs cells slots Q (F0 m 1352 ls [])) : W p l e room_1 s m args below meth c H locs cells slots Q (F0 m 548 ls []) := by
  have hx := C.1
  have hb := C.2.1
  have hts := C.2.2.2.2.2.1
  refine lv_aload_n hx hb dL_law_548 rfl (lv_at hl 1 rfl) ?_
  refine lv_aload_n hx hb dL_law_549 rfl (lv_at hl 0 rfl) ?_
  refine lv_iload hx hb dL_law_550 (lv_at hl 4 rfl) ?_
  refine lv_iconst (v := (1 : Int32)) hx hb dL_law_552 (by decide) ?_
  refine lv_iadd hx hb dL_law_553 ?_
  refine va_sld hx hb hX hbl hbA hw.2.2 (i1) dL_law_554 ?_
  refine lv_aload_n hx hb dL_law_555 rfl (lv_at hl 0 rfl) ?_
  refine lv_iload hx hb dL_law_556 (lv_at hl 4 rfl) ?_
  refine lv_iconst (v := (2 : Int32)) hx hb dL_law_558 (by decide) ?_
  refine lv_iadd hx hb dL_law_559 ?_
  refine va_sld hx hb hX hbl hbA hw.2.2 (i2) dL_law_560 ?_
  obtain ⟨r, σ1, μ1, f1, f2, hR1⟩ := sim σ μ (xs (x4 + (1 : Int32)).toNatClampNeg) (xs (x4 + (2 : Int32)).toNatClampNeg) hR
  refine k_callViL C hw (c_X11_holds l G Y (fun σ => wC ad Y σ ++ (wM am Y μ ++ X)) ad (layC ad Y _) (xs (x4 + (1 : Int32)).toNatClampNeg) (xs (x4 + (2 : Int32)).toNatClampNeg) σ r σ1 f1) (cwV 2 hts gL_law_X11_holds rfl rfl rfl (by decide +kernel) ⟨Nat.le_of_ble_eq_true rfl, Nat.le_of_ble_eq_true rfl⟩) (k_recv C hw (LC_0 (layC ad Y _)) rfl) rfl hl.1 rfl (Nat.le_of_ble_eq_true rfl) hcs dL_law_561 (fun H locs hw => ?_)
  have hw : k_W G (fun μ => wC ad Y σ1 ++ (wM am Y μ ++ X)) A s.heap μ H locs := hw
  refine lv_aload_n hx hb dL_law_564 rfl (lv_at hl 2 rfl) ?_
  refine lv_aload_n hx hb dL_law_565 rfl (lv_at hl 0 rfl) ?_
  refine lv_iload hx hb dL_law_566 (lv_at hl 4 rfl) ?_
  refine lv_iconst (v := (1 : Int32)) hx hb dL_law_568 (by decide) ?_
  refine lv_iadd hx hb dL_law_569 ?_
  refine va_sld hx hb hX hbl hbA hw.2.2 (i1) dL_law_570 ?_
  refine lv_aload_n hx hb dL_law_571 rfl (lv_at hl 0 rfl) ?_
  refine lv_iload hx hb dL_law_572 (lv_at hl 4 rfl) ?_
  refine lv_iconst (v := (2 : Int32)) hx hb dL_law_574 (by decide) ?_
  refine lv_iadd hx hb dL_law_575 ?_
  refine va_sld hx hb hX hbl hbA hw.2.2 (i2) dL_law_576 ?_
  refine k_callViL C hw (c_X12_holds l G Y (fun μ => wC ad Y σ1 ++ (wM am Y μ ++ X)) am (layM am Y (wC ad Y σ1) X) (xs (x4 + (1 : Int32)).toNatClampNeg) (xs (x4 + (2 : Int32)).toNatClampNeg) μ r μ1 f2) (cwV 2 hts gL_law_X12_holds rfl rfl rfl (by decide +kernel) ⟨Nat.le_of_ble_eq_true rfl, Nat.le_of_ble_eq_true rfl⟩) (k_recv C hw (LM_0 (layM am Y (wC ad Y σ1) X)) rfl) rfl hl.1 rfl (Nat.le_of_ble_eq_true rfl) hcs dL_law_577 (fun H locs hw => ?_)
  exact lv_icmp_eq (tgt := 1352) hx hb dL_law_580 (by decide) (fun _ => next σ1 μ1 hR1 H locs hw) (fun h => absurd rfl h)
set_option maxHeartbeats 4000000 in
set_option maxRecDepth 100000 in
theorem lc_10 {p : Program} {l : Launch} {e : Env} {s : State} {m : MethodId} {args : Array Value} {below : List Frame} {meth : Method} {c : Code} {A : Nat → Prop} {G : va_G} {Y : CY} {cells slots b L : Nat} {xs : Nat → Int32} {Q : State → Prop} (RR : MSt → MSt → Prop) (C : k_C p s m args meth c code RL ret wsL_law 7 G Y A) (hX : va_X b L xs s s.heap) (hbl : b < s.heap.size) (hbA : ¬ A b) (ad am : Nat → Nat) (X : va_W) (hcs : cells ≤ room_1.cells ∧ slots ≤ room_1.slots) (x4 : Int32) (i1 : vp_in (x4 + 1) L) (i2 : vp_in (x4 + 2) L) (i3 : vp_in (x4 + 3) L) (i4 : vp_in (x4 + 4) L) (i5 : vp_in (x4 + 5) L) (a3 : Nat) (ls : Array Slot) (hl : lv_has ls 7 [(0, .ref b), (1, .ref (ad 0)), (2, .ref (am 0)), (3, .ref a3), (4, .int x4)]) (sim : Sim_law RR) (σ μ : MSt) (hR : RR σ μ) (H : Heap) (locs : List Loc) (hw : k_W G (fun σ => wC ad Y σ ++ (wM am Y μ ++ X)) A s.heap σ H locs) (next : ∀ σ1 μ1, RR σ1 μ1 → ∀ H locs, k_W G (fun μ => wC ad Y σ1 ++ (wM am Y μ ++ X)) A s.heap μ1 H locs → W p l e room_1 s m args below meth c H locs cells slots Q (F0 m 1352 ls [])) : W p l e room_1 s m args below meth c H locs cells slots Q (F0 m 585 ls []) := by
  have hx := C.1
  have hb := C.2.1
  have hts := C.2.2.2.2.2.1
  refine lv_aload_n hx hb dL_law_585 rfl (lv_at hl 1 rfl) ?_
  refine lv_aload_n hx hb dL_law_586 rfl (lv_at hl 0 rfl) ?_
  refine lv_iload hx hb dL_law_587 (lv_at hl 4 rfl) ?_
  refine lv_iconst (v := (1 : Int32)) hx hb dL_law_589 (by decide) ?_
  refine lv_iadd hx hb dL_law_590 ?_
  refine va_sld hx hb hX hbl hbA hw.2.2 (i1) dL_law_591 ?_
  refine lv_aload_n hx hb dL_law_592 rfl (lv_at hl 0 rfl) ?_
  refine lv_iload hx hb dL_law_593 (lv_at hl 4 rfl) ?_
  refine lv_iconst (v := (2 : Int32)) hx hb dL_law_595 (by decide) ?_
  refine lv_iadd hx hb dL_law_596 ?_
  refine va_sld hx hb hX hbl hbA hw.2.2 (i2) dL_law_597 ?_
  obtain ⟨r, σ1, μ1, f1, f2, hR1⟩ := sim σ μ (xs (x4 + (1 : Int32)).toNatClampNeg) (xs (x4 + (2 : Int32)).toNatClampNeg) hR
  refine k_callVlL C hw (c_X11_law l G Y (fun σ => wC ad Y σ ++ (wM am Y μ ++ X)) ad (layC ad Y _) (xs (x4 + (1 : Int32)).toNatClampNeg) (xs (x4 + (2 : Int32)).toNatClampNeg) σ r σ1 f1) (cwV 2 hts gL_law_X11_law rfl rfl rfl (by decide +kernel) ⟨Nat.le_of_ble_eq_true rfl, Nat.le_of_ble_eq_true rfl⟩) (k_recv C hw (LC_0 (layC ad Y _)) rfl) rfl hl.1 rfl (Nat.le_of_ble_eq_true rfl) hcs dL_law_598 (fun H locs hw => ?_)
  have hw : k_W G (fun μ => wC ad Y σ1 ++ (wM am Y μ ++ X)) A s.heap μ H locs := hw
  refine lv_aload_n hx hb dL_law_601 rfl (lv_at hl 2 rfl) ?_
  refine lv_aload_n hx hb dL_law_602 rfl (lv_at hl 0 rfl) ?_
  refine lv_iload hx hb dL_law_603 (lv_at hl 4 rfl) ?_
  refine lv_iconst (v := (1 : Int32)) hx hb dL_law_605 (by decide) ?_
  refine lv_iadd hx hb dL_law_606 ?_
  refine va_sld hx hb hX hbl hbA hw.2.2 (i1) dL_law_607 ?_
  refine lv_aload_n hx hb dL_law_608 rfl (lv_at hl 0 rfl) ?_
  refine lv_iload hx hb dL_law_609 (lv_at hl 4 rfl) ?_
  refine lv_iconst (v := (2 : Int32)) hx hb dL_law_611 (by decide) ?_
  refine lv_iadd hx hb dL_law_612 ?_
  refine va_sld hx hb hX hbl hbA hw.2.2 (i2) dL_law_613 ?_
  refine k_callVlL C hw (c_X12_law l G Y (fun μ => wC ad Y σ1 ++ (wM am Y μ ++ X)) am (layM am Y (wC ad Y σ1) X) (xs (x4 + (1 : Int32)).toNatClampNeg) (xs (x4 + (2 : Int32)).toNatClampNeg) μ r μ1 f2) (cwV 2 hts gL_law_X12_law rfl rfl rfl (by decide +kernel) ⟨Nat.le_of_ble_eq_true rfl, Nat.le_of_ble_eq_true rfl⟩) (k_recv C hw (LM_0 (layM am Y (wC ad Y σ1) X)) rfl) rfl hl.1 rfl (Nat.le_of_ble_eq_true rfl) hcs dL_law_614 (fun H locs hw => ?_)
  refine W.lcmp hx hb dL_law_617 ?_
  exact lv_if_eq (tgt := 1352) hx hb dL_law_618 (by decide) (fun _ => next σ1 μ1 hR1 H locs hw) (fun h => absurd (k_lcs r) h)
set_option maxHeartbeats 4000000 in
set_option maxRecDepth 100000 in
theorem lc_11 {p : Program} {l : Launch} {e : Env} {s : State} {m : MethodId} {args : Array Value} {below : List Frame} {meth : Method} {c : Code} {A : Nat → Prop} {G : va_G} {Y : CY} {cells slots b L : Nat} {xs : Nat → Int32} {Q : State → Prop} (RR : MSt → MSt → Prop) (C : k_C p s m args meth c code RL ret wsL_law 7 G Y A) (hX : va_X b L xs s s.heap) (hbl : b < s.heap.size) (hbA : ¬ A b) (ad am : Nat → Nat) (X : va_W) (hcs : cells ≤ room_1.cells ∧ slots ≤ room_1.slots) (x4 : Int32) (i1 : vp_in (x4 + 1) L) (i2 : vp_in (x4 + 2) L) (i3 : vp_in (x4 + 3) L) (i4 : vp_in (x4 + 4) L) (i5 : vp_in (x4 + 5) L) (a3 : Nat) (ls : Array Slot) (hl : lv_has ls 7 [(0, .ref b), (1, .ref (ad 0)), (2, .ref (am 0)), (3, .ref a3), (4, .int x4)]) (sim : Sim_sail RR) (σ μ : MSt) (hR : RR σ μ) (H : Heap) (locs : List Loc) (hw : k_W G (fun σ => wC ad Y σ ++ (wM am Y μ ++ X)) A s.heap σ H locs) (next : ∀ σ1 μ1, RR σ1 μ1 → ∀ H locs, k_W G (fun μ => wC ad Y σ1 ++ (wM am Y μ ++ X)) A s.heap μ1 H locs → W p l e room_1 s m args below meth c H locs cells slots Q (F0 m 1352 ls [])) : W p l e room_1 s m args below meth c H locs cells slots Q (F0 m 623 ls []) := by
  have hx := C.1
  have hb := C.2.1
  have hts := C.2.2.2.2.2.1
  refine lv_aload_n hx hb dL_law_623 rfl (lv_at hl 1 rfl) ?_
  refine lv_aload_n hx hb dL_law_624 rfl (lv_at hl 0 rfl) ?_
  refine lv_iload hx hb dL_law_625 (lv_at hl 4 rfl) ?_
  refine lv_iconst (v := (1 : Int32)) hx hb dL_law_627 (by decide) ?_
  refine lv_iadd hx hb dL_law_628 ?_
  refine va_sld hx hb hX hbl hbA hw.2.2 (i1) dL_law_629 ?_
  obtain ⟨r, σ1, μ1, f1, f2, hR1⟩ := sim σ μ (xs (x4 + (1 : Int32)).toNatClampNeg) hR
  refine k_callViL C hw (c_X11_sail l G Y (fun σ => wC ad Y σ ++ (wM am Y μ ++ X)) ad (layC ad Y _) (xs (x4 + (1 : Int32)).toNatClampNeg) σ r σ1 f1) (cwV 1 hts gL_law_X11_sail rfl rfl rfl (by decide +kernel) ⟨Nat.le_of_ble_eq_true rfl, Nat.le_of_ble_eq_true rfl⟩) (k_recv C hw (LC_0 (layC ad Y _)) rfl) rfl hl.1 rfl (Nat.le_of_ble_eq_true rfl) hcs dL_law_630 (fun H locs hw => ?_)
  have hw : k_W G (fun μ => wC ad Y σ1 ++ (wM am Y μ ++ X)) A s.heap μ H locs := hw
  refine lv_aload_n hx hb dL_law_633 rfl (lv_at hl 2 rfl) ?_
  refine lv_aload_n hx hb dL_law_634 rfl (lv_at hl 0 rfl) ?_
  refine lv_iload hx hb dL_law_635 (lv_at hl 4 rfl) ?_
  refine lv_iconst (v := (1 : Int32)) hx hb dL_law_637 (by decide) ?_
  refine lv_iadd hx hb dL_law_638 ?_
  refine va_sld hx hb hX hbl hbA hw.2.2 (i1) dL_law_639 ?_
  refine k_callViL C hw (c_X12_sail l G Y (fun μ => wC ad Y σ1 ++ (wM am Y μ ++ X)) am (layM am Y (wC ad Y σ1) X) (xs (x4 + (1 : Int32)).toNatClampNeg) μ r μ1 f2) (cwV 1 hts gL_law_X12_sail rfl rfl rfl (by decide +kernel) ⟨Nat.le_of_ble_eq_true rfl, Nat.le_of_ble_eq_true rfl⟩) (k_recv C hw (LM_0 (layM am Y (wC ad Y σ1) X)) rfl) rfl hl.1 rfl (Nat.le_of_ble_eq_true rfl) hcs dL_law_640 (fun H locs hw => ?_)
  exact lv_icmp_eq (tgt := 1352) hx hb dL_law_643 (by decide) (fun _ => next σ1 μ1 hR1 H locs hw) (fun h => absurd rfl h)
set_option maxHeartbeats 4000000 in
set_option maxRecDepth 100000 in
theorem lc_12 {p : Program} {l : Launch} {e : Env} {s : State} {m : MethodId} {args : Array Value} {below : List Frame} {meth : Method} {c : Code} {A : Nat → Prop} {G : va_G} {Y : CY} {cells slots b L : Nat} {xs : Nat → Int32} {Q : State → Prop} (RR : MSt → MSt → Prop) (C : k_C p s m args meth c code RL ret wsL_law 7 G Y A) (hX : va_X b L xs s s.heap) (hbl : b < s.heap.size) (hbA : ¬ A b) (ad am : Nat → Nat) (X : va_W) (hcs : cells ≤ room_1.cells ∧ slots ≤ room_1.slots) (x4 : Int32) (i1 : vp_in (x4 + 1) L) (i2 : vp_in (x4 + 2) L) (i3 : vp_in (x4 + 3) L) (i4 : vp_in (x4 + 4) L) (i5 : vp_in (x4 + 5) L) (a3 : Nat) (ls : Array Slot) (hl : lv_has ls 7 [(0, .ref b), (1, .ref (ad 0)), (2, .ref (am 0)), (3, .ref a3), (4, .int x4)]) (sim : Sim_kind RR) (σ μ : MSt) (hR : RR σ μ) (H : Heap) (locs : List Loc) (hw : k_W G (fun σ => wC ad Y σ ++ (wM am Y μ ++ X)) A s.heap σ H locs) (next : ∀ σ1 μ1, RR σ1 μ1 → ∀ H locs, k_W G (fun μ => wC ad Y σ1 ++ (wM am Y μ ++ X)) A s.heap μ1 H locs → W p l e room_1 s m args below meth c H locs cells slots Q (F0 m 1352 ls [])) : W p l e room_1 s m args below meth c H locs cells slots Q (F0 m 648 ls []) := by
  have hx := C.1
  have hb := C.2.1
  have hts := C.2.2.2.2.2.1
  refine lv_aload_n hx hb dL_law_648 rfl (lv_at hl 1 rfl) ?_
  refine lv_aload_n hx hb dL_law_649 rfl (lv_at hl 0 rfl) ?_
  refine lv_iload hx hb dL_law_650 (lv_at hl 4 rfl) ?_
  refine lv_iconst (v := (1 : Int32)) hx hb dL_law_652 (by decide) ?_
  refine lv_iadd hx hb dL_law_653 ?_
  refine va_sld hx hb hX hbl hbA hw.2.2 (i1) dL_law_654 ?_
  refine lv_aload_n hx hb dL_law_655 rfl (lv_at hl 0 rfl) ?_
  refine lv_iload hx hb dL_law_656 (lv_at hl 4 rfl) ?_
  refine lv_iconst (v := (2 : Int32)) hx hb dL_law_658 (by decide) ?_
  refine lv_iadd hx hb dL_law_659 ?_
  refine va_sld hx hb hX hbl hbA hw.2.2 (i2) dL_law_660 ?_
  obtain ⟨r, σ1, μ1, f1, f2, hR1⟩ := sim σ μ (xs (x4 + (1 : Int32)).toNatClampNeg) (xs (x4 + (2 : Int32)).toNatClampNeg) hR
  refine k_callViL C hw (c_X11_kind l G Y (fun σ => wC ad Y σ ++ (wM am Y μ ++ X)) ad (layC ad Y _) (xs (x4 + (1 : Int32)).toNatClampNeg) (xs (x4 + (2 : Int32)).toNatClampNeg) σ r σ1 f1) (cwV 2 hts gL_law_X11_kind rfl rfl rfl (by decide +kernel) ⟨Nat.le_of_ble_eq_true rfl, Nat.le_of_ble_eq_true rfl⟩) (k_recv C hw (LC_0 (layC ad Y _)) rfl) rfl hl.1 rfl (Nat.le_of_ble_eq_true rfl) hcs dL_law_661 (fun H locs hw => ?_)
  have hw : k_W G (fun μ => wC ad Y σ1 ++ (wM am Y μ ++ X)) A s.heap μ H locs := hw
  refine lv_aload_n hx hb dL_law_664 rfl (lv_at hl 2 rfl) ?_
  refine lv_aload_n hx hb dL_law_665 rfl (lv_at hl 0 rfl) ?_
  refine lv_iload hx hb dL_law_666 (lv_at hl 4 rfl) ?_
  refine lv_iconst (v := (1 : Int32)) hx hb dL_law_668 (by decide) ?_
  refine lv_iadd hx hb dL_law_669 ?_
  refine va_sld hx hb hX hbl hbA hw.2.2 (i1) dL_law_670 ?_
  refine lv_aload_n hx hb dL_law_671 rfl (lv_at hl 0 rfl) ?_
  refine lv_iload hx hb dL_law_672 (lv_at hl 4 rfl) ?_
  refine lv_iconst (v := (2 : Int32)) hx hb dL_law_674 (by decide) ?_
  refine lv_iadd hx hb dL_law_675 ?_
  refine va_sld hx hb hX hbl hbA hw.2.2 (i2) dL_law_676 ?_
  refine k_callViL C hw (c_X12_kind l G Y (fun μ => wC ad Y σ1 ++ (wM am Y μ ++ X)) am (layM am Y (wC ad Y σ1) X) (xs (x4 + (1 : Int32)).toNatClampNeg) (xs (x4 + (2 : Int32)).toNatClampNeg) μ r μ1 f2) (cwV 2 hts gL_law_X12_kind rfl rfl rfl (by decide +kernel) ⟨Nat.le_of_ble_eq_true rfl, Nat.le_of_ble_eq_true rfl⟩) (k_recv C hw (LM_0 (layM am Y (wC ad Y σ1) X)) rfl) rfl hl.1 rfl (Nat.le_of_ble_eq_true rfl) hcs dL_law_677 (fun H locs hw => ?_)
  exact lv_icmp_eq (tgt := 1352) hx hb dL_law_680 (by decide) (fun _ => next σ1 μ1 hR1 H locs hw) (fun h => absurd rfl h)
set_option maxHeartbeats 4000000 in
set_option maxRecDepth 100000 in
theorem lc_13 {p : Program} {l : Launch} {e : Env} {s : State} {m : MethodId} {args : Array Value} {below : List Frame} {meth : Method} {c : Code} {A : Nat → Prop} {G : va_G} {Y : CY} {cells slots b L : Nat} {xs : Nat → Int32} {Q : State → Prop} (RR : MSt → MSt → Prop) (C : k_C p s m args meth c code RL ret wsL_law 7 G Y A) (hX : va_X b L xs s s.heap) (hbl : b < s.heap.size) (hbA : ¬ A b) (ad am : Nat → Nat) (X : va_W) (hcs : cells ≤ room_1.cells ∧ slots ≤ room_1.slots) (x4 : Int32) (i1 : vp_in (x4 + 1) L) (i2 : vp_in (x4 + 2) L) (i3 : vp_in (x4 + 3) L) (i4 : vp_in (x4 + 4) L) (i5 : vp_in (x4 + 5) L) (a3 : Nat) (ls : Array Slot) (hl : lv_has ls 7 [(0, .ref b), (1, .ref (ad 0)), (2, .ref (am 0)), (3, .ref a3), (4, .int x4)]) (sim : Sim_copy RR) (σ μ : MSt) (hR : RR σ μ) (H : Heap) (locs : List Loc) (hw : k_W G (fun σ => wC ad Y σ ++ (wM am Y μ ++ X)) A s.heap σ H locs) (next : ∀ σ1 μ1, RR σ1 μ1 → ∀ H locs, k_W G (fun μ => wC ad Y σ1 ++ (wM am Y μ ++ X)) A s.heap μ1 H locs → W p l e room_1 s m args below meth c H locs cells slots Q (F0 m 1352 ls [])) : W p l e room_1 s m args below meth c H locs cells slots Q (F0 m 685 ls []) := by
  have hx := C.1
  have hb := C.2.1
  have hts := C.2.2.2.2.2.1
  refine lv_aload_n hx hb dL_law_685 rfl (lv_at hl 1 rfl) ?_
  refine lv_aload_n hx hb dL_law_686 rfl (lv_at hl 0 rfl) ?_
  refine lv_iload hx hb dL_law_687 (lv_at hl 4 rfl) ?_
  refine lv_iconst (v := (1 : Int32)) hx hb dL_law_689 (by decide) ?_
  refine lv_iadd hx hb dL_law_690 ?_
  refine va_sld hx hb hX hbl hbA hw.2.2 (i1) dL_law_691 ?_
  refine lv_if_eq (tgt := 699) hx hb dL_law_692 (by decide) (fun hz => ?_) (fun hz => ?_)
  · refine lv_iconst (v := (0 : Int32)) hx hb dL_law_699 (by decide) ?_
    obtain ⟨r, σ1, μ1, f1, f2, hR1⟩ := sim σ μ (0 : Int32) (by decide) hR
    refine k_callViL C hw (c_X11_copy l G Y (fun σ => wC ad Y σ ++ (wM am Y μ ++ X)) ad (layC ad Y _) (0 : Int32) σ r σ1 f1) (cwV 1 hts gL_law_X11_copy rfl rfl rfl (by decide +kernel) ⟨Nat.le_of_ble_eq_true rfl, Nat.le_of_ble_eq_true rfl⟩) (k_recv C hw (LC_0 (layC ad Y _)) rfl) rfl hl.1 rfl (Nat.le_of_ble_eq_true rfl) hcs dL_law_700 (fun H locs hw => ?_)
    have hw : k_W G (fun μ => wC ad Y σ1 ++ (wM am Y μ ++ X)) A s.heap μ H locs := hw
    refine lv_aload_n hx hb dL_law_703 rfl (lv_at hl 2 rfl) ?_
    refine lv_aload_n hx hb dL_law_704 rfl (lv_at hl 0 rfl) ?_
    refine lv_iload hx hb dL_law_705 (lv_at hl 4 rfl) ?_
    refine lv_iconst (v := (1 : Int32)) hx hb dL_law_707 (by decide) ?_
    refine lv_iadd hx hb dL_law_708 ?_
    refine va_sld hx hb hX hbl hbA hw.2.2 (i1) dL_law_709 ?_
    refine lv_if_eq (tgt := 717) hx hb dL_law_710 (by decide) (fun _ => ?_) (fun h => absurd hz h)
    refine lv_iconst (v := (0 : Int32)) hx hb dL_law_717 (by decide) ?_
    refine k_callViL C hw (c_X12_copy l G Y (fun μ => wC ad Y σ1 ++ (wM am Y μ ++ X)) am (layM am Y (wC ad Y σ1) X) (0 : Int32) μ r μ1 f2) (cwV 1 hts gL_law_X12_copy rfl rfl rfl (by decide +kernel) ⟨Nat.le_of_ble_eq_true rfl, Nat.le_of_ble_eq_true rfl⟩) (k_recv C hw (LM_0 (layM am Y (wC ad Y σ1) X)) rfl) rfl hl.1 rfl (Nat.le_of_ble_eq_true rfl) hcs dL_law_718 (fun H locs hw => ?_)
    exact lv_icmp_eq (tgt := 1352) hx hb dL_law_721 (by decide) (fun _ => next σ1 μ1 hR1 H locs hw) (fun h => absurd rfl h)
  · refine lv_iconst (v := (1 : Int32)) hx hb dL_law_695 (by decide) ?_
    refine lv_goto (tgt := 700) hx hb dL_law_696 (by decide) ?_
    obtain ⟨r, σ1, μ1, f1, f2, hR1⟩ := sim σ μ (1 : Int32) (by decide) hR
    refine k_callViL C hw (c_X11_copy l G Y (fun σ => wC ad Y σ ++ (wM am Y μ ++ X)) ad (layC ad Y _) (1 : Int32) σ r σ1 f1) (cwV 1 hts gL_law_X11_copy rfl rfl rfl (by decide +kernel) ⟨Nat.le_of_ble_eq_true rfl, Nat.le_of_ble_eq_true rfl⟩) (k_recv C hw (LC_0 (layC ad Y _)) rfl) rfl hl.1 rfl (Nat.le_of_ble_eq_true rfl) hcs dL_law_700 (fun H locs hw => ?_)
    have hw : k_W G (fun μ => wC ad Y σ1 ++ (wM am Y μ ++ X)) A s.heap μ H locs := hw
    refine lv_aload_n hx hb dL_law_703 rfl (lv_at hl 2 rfl) ?_
    refine lv_aload_n hx hb dL_law_704 rfl (lv_at hl 0 rfl) ?_
    refine lv_iload hx hb dL_law_705 (lv_at hl 4 rfl) ?_
    refine lv_iconst (v := (1 : Int32)) hx hb dL_law_707 (by decide) ?_
    refine lv_iadd hx hb dL_law_708 ?_
    refine va_sld hx hb hX hbl hbA hw.2.2 (i1) dL_law_709 ?_
    refine lv_if_eq (tgt := 717) hx hb dL_law_710 (by decide) (fun h => absurd h hz) (fun _ => ?_)
    refine lv_iconst (v := (1 : Int32)) hx hb dL_law_713 (by decide) ?_
    refine lv_goto (tgt := 718) hx hb dL_law_714 (by decide) ?_
    refine k_callViL C hw (c_X12_copy l G Y (fun μ => wC ad Y σ1 ++ (wM am Y μ ++ X)) am (layM am Y (wC ad Y σ1) X) (1 : Int32) μ r μ1 f2) (cwV 1 hts gL_law_X12_copy rfl rfl rfl (by decide +kernel) ⟨Nat.le_of_ble_eq_true rfl, Nat.le_of_ble_eq_true rfl⟩) (k_recv C hw (LM_0 (layM am Y (wC ad Y σ1) X)) rfl) rfl hl.1 rfl (Nat.le_of_ble_eq_true rfl) hcs dL_law_718 (fun H locs hw => ?_)
    exact lv_icmp_eq (tgt := 1352) hx hb dL_law_721 (by decide) (fun _ => next σ1 μ1 hR1 H locs hw) (fun h => absurd rfl h)
set_option maxHeartbeats 4000000 in
set_option maxRecDepth 100000 in
theorem lc_14 {p : Program} {l : Launch} {e : Env} {s : State} {m : MethodId} {args : Array Value} {below : List Frame} {meth : Method} {c : Code} {A : Nat → Prop} {G : va_G} {Y : CY} {cells slots b L : Nat} {xs : Nat → Int32} {Q : State → Prop} (RR : MSt → MSt → Prop) (C : k_C p s m args meth c code RL ret wsL_law 7 G Y A) (hX : va_X b L xs s s.heap) (hbl : b < s.heap.size) (hbA : ¬ A b) (ad am : Nat → Nat) (X : va_W) (hcs : cells ≤ room_1.cells ∧ slots ≤ room_1.slots) (x4 : Int32) (i1 : vp_in (x4 + 1) L) (i2 : vp_in (x4 + 2) L) (i3 : vp_in (x4 + 3) L) (i4 : vp_in (x4 + 4) L) (i5 : vp_in (x4 + 5) L) (a3 : Nat) (ls : Array Slot) (hl : lv_has ls 7 [(0, .ref b), (1, .ref (ad 0)), (2, .ref (am 0)), (3, .ref a3), (4, .int x4)]) (sim : Sim_go RR) (σ μ : MSt) (hR : RR σ μ) (H : Heap) (locs : List Loc) (hw : k_W G (fun σ => wC ad Y σ ++ (wM am Y μ ++ X)) A s.heap σ H locs) (next : ∀ σ1 μ1, RR σ1 μ1 → ∀ H locs, k_W G (fun μ => wC ad Y σ1 ++ (wM am Y μ ++ X)) A s.heap μ1 H locs → W p l e room_1 s m args below meth c H locs cells slots Q (F0 m 1352 ls [])) : W p l e room_1 s m args below meth c H locs cells slots Q (F0 m 726 ls []) := by
  have hx := C.1
  have hb := C.2.1
  have hts := C.2.2.2.2.2.1
  refine lv_aload_n hx hb dL_law_726 rfl (lv_at hl 1 rfl) ?_
  refine lv_aload_n hx hb dL_law_727 rfl (lv_at hl 0 rfl) ?_
  refine lv_iload hx hb dL_law_728 (lv_at hl 4 rfl) ?_
  refine lv_iconst (v := (1 : Int32)) hx hb dL_law_730 (by decide) ?_
  refine lv_iadd hx hb dL_law_731 ?_
  refine va_sld hx hb hX hbl hbA hw.2.2 (i1) dL_law_732 ?_
  obtain ⟨r, σ1, μ1, f1, f2, hR1⟩ := sim σ μ (xs (x4 + (1 : Int32)).toNatClampNeg) hR
  refine k_callViL C hw (c_X11_go l G Y (fun σ => wC ad Y σ ++ (wM am Y μ ++ X)) ad (layC ad Y _) (xs (x4 + (1 : Int32)).toNatClampNeg) σ r σ1 f1) (cwV 1 hts gL_law_X11_go rfl rfl rfl (by decide +kernel) ⟨Nat.le_of_ble_eq_true rfl, Nat.le_of_ble_eq_true rfl⟩) (k_recv C hw (LC_0 (layC ad Y _)) rfl) rfl hl.1 rfl (Nat.le_of_ble_eq_true rfl) hcs dL_law_733 (fun H locs hw => ?_)
  have hw : k_W G (fun μ => wC ad Y σ1 ++ (wM am Y μ ++ X)) A s.heap μ H locs := hw
  refine lv_aload_n hx hb dL_law_736 rfl (lv_at hl 2 rfl) ?_
  refine lv_aload_n hx hb dL_law_737 rfl (lv_at hl 0 rfl) ?_
  refine lv_iload hx hb dL_law_738 (lv_at hl 4 rfl) ?_
  refine lv_iconst (v := (1 : Int32)) hx hb dL_law_740 (by decide) ?_
  refine lv_iadd hx hb dL_law_741 ?_
  refine va_sld hx hb hX hbl hbA hw.2.2 (i1) dL_law_742 ?_
  refine k_callViL C hw (c_X12_go l G Y (fun μ => wC ad Y σ1 ++ (wM am Y μ ++ X)) am (layM am Y (wC ad Y σ1) X) (xs (x4 + (1 : Int32)).toNatClampNeg) μ r μ1 f2) (cwV 1 hts gL_law_X12_go rfl rfl rfl (by decide +kernel) ⟨Nat.le_of_ble_eq_true rfl, Nat.le_of_ble_eq_true rfl⟩) (k_recv C hw (LM_0 (layM am Y (wC ad Y σ1) X)) rfl) rfl hl.1 rfl (Nat.le_of_ble_eq_true rfl) hcs dL_law_743 (fun H locs hw => ?_)
  exact lv_icmp_eq (tgt := 1352) hx hb dL_law_746 (by decide) (fun _ => next σ1 μ1 hR1 H locs hw) (fun h => absurd rfl h)
set_option maxHeartbeats 4000000 in
set_option maxRecDepth 100000 in
theorem lc_15 {p : Program} {l : Launch} {e : Env} {s : State} {m : MethodId} {args : Array Value} {below : List Frame} {meth : Method} {c : Code} {A : Nat → Prop} {G : va_G} {Y : CY} {cells slots b L : Nat} {xs : Nat → Int32} {Q : State → Prop} (RR : MSt → MSt → Prop) (C : k_C p s m args meth c code RL ret wsL_law 7 G Y A) (hX : va_X b L xs s s.heap) (hbl : b < s.heap.size) (hbA : ¬ A b) (ad am : Nat → Nat) (X : va_W) (hcs : cells ≤ room_1.cells ∧ slots ≤ room_1.slots) (x4 : Int32) (i1 : vp_in (x4 + 1) L) (i2 : vp_in (x4 + 2) L) (i3 : vp_in (x4 + 3) L) (i4 : vp_in (x4 + 4) L) (i5 : vp_in (x4 + 5) L) (a3 : Nat) (ls : Array Slot) (hl : lv_has ls 7 [(0, .ref b), (1, .ref (ad 0)), (2, .ref (am 0)), (3, .ref a3), (4, .int x4)]) (sim : Sim_firstAdrift RR) (σ μ : MSt) (hR : RR σ μ) (H : Heap) (locs : List Loc) (hw : k_W G (fun σ => wC ad Y σ ++ (wM am Y μ ++ X)) A s.heap σ H locs) (next : ∀ σ1 μ1, RR σ1 μ1 → ∀ H locs, k_W G (fun μ => wC ad Y σ1 ++ (wM am Y μ ++ X)) A s.heap μ1 H locs → W p l e room_1 s m args below meth c H locs cells slots Q (F0 m 1352 ls [])) : W p l e room_1 s m args below meth c H locs cells slots Q (F0 m 751 ls []) := by
  have hx := C.1
  have hb := C.2.1
  have hts := C.2.2.2.2.2.1
  refine lv_aload_n hx hb dL_law_751 rfl (lv_at hl 1 rfl) ?_
  refine lv_aload_n hx hb dL_law_752 rfl (lv_at hl 0 rfl) ?_
  refine lv_iload hx hb dL_law_753 (lv_at hl 4 rfl) ?_
  refine lv_iconst (v := (1 : Int32)) hx hb dL_law_755 (by decide) ?_
  refine lv_iadd hx hb dL_law_756 ?_
  refine va_sld hx hb hX hbl hbA hw.2.2 (i1) dL_law_757 ?_
  obtain ⟨r, σ1, μ1, f1, f2, hR1⟩ := sim σ μ (xs (x4 + (1 : Int32)).toNatClampNeg) hR
  refine k_callViL C hw (c_X11_firstAdrift l G Y (fun σ => wC ad Y σ ++ (wM am Y μ ++ X)) ad (layC ad Y _) (xs (x4 + (1 : Int32)).toNatClampNeg) σ r σ1 f1) (cwV 1 hts gL_law_X11_firstAdrift rfl rfl rfl (by decide +kernel) ⟨Nat.le_of_ble_eq_true rfl, Nat.le_of_ble_eq_true rfl⟩) (k_recv C hw (LC_0 (layC ad Y _)) rfl) rfl hl.1 rfl (Nat.le_of_ble_eq_true rfl) hcs dL_law_758 (fun H locs hw => ?_)
  have hw : k_W G (fun μ => wC ad Y σ1 ++ (wM am Y μ ++ X)) A s.heap μ H locs := hw
  refine lv_aload_n hx hb dL_law_761 rfl (lv_at hl 2 rfl) ?_
  refine lv_aload_n hx hb dL_law_762 rfl (lv_at hl 0 rfl) ?_
  refine lv_iload hx hb dL_law_763 (lv_at hl 4 rfl) ?_
  refine lv_iconst (v := (1 : Int32)) hx hb dL_law_765 (by decide) ?_
  refine lv_iadd hx hb dL_law_766 ?_
  refine va_sld hx hb hX hbl hbA hw.2.2 (i1) dL_law_767 ?_
  refine k_callViL C hw (c_X12_firstAdrift l G Y (fun μ => wC ad Y σ1 ++ (wM am Y μ ++ X)) am (layM am Y (wC ad Y σ1) X) (xs (x4 + (1 : Int32)).toNatClampNeg) μ r μ1 f2) (cwV 1 hts gL_law_X12_firstAdrift rfl rfl rfl (by decide +kernel) ⟨Nat.le_of_ble_eq_true rfl, Nat.le_of_ble_eq_true rfl⟩) (k_recv C hw (LM_0 (layM am Y (wC ad Y σ1) X)) rfl) rfl hl.1 rfl (Nat.le_of_ble_eq_true rfl) hcs dL_law_768 (fun H locs hw => ?_)
  exact lv_icmp_eq (tgt := 1352) hx hb dL_law_771 (by decide) (fun _ => next σ1 μ1 hR1 H locs hw) (fun h => absurd rfl h)
set_option maxHeartbeats 4000000 in
set_option maxRecDepth 100000 in
theorem lc_16 {p : Program} {l : Launch} {e : Env} {s : State} {m : MethodId} {args : Array Value} {below : List Frame} {meth : Method} {c : Code} {A : Nat → Prop} {G : va_G} {Y : CY} {cells slots b L : Nat} {xs : Nat → Int32} {Q : State → Prop} (RR : MSt → MSt → Prop) (C : k_C p s m args meth c code RL ret wsL_law 7 G Y A) (hX : va_X b L xs s s.heap) (hbl : b < s.heap.size) (hbA : ¬ A b) (ad am : Nat → Nat) (X : va_W) (hcs : cells ≤ room_1.cells ∧ slots ≤ room_1.slots) (x4 : Int32) (i1 : vp_in (x4 + 1) L) (i2 : vp_in (x4 + 2) L) (i3 : vp_in (x4 + 3) L) (i4 : vp_in (x4 + 4) L) (i5 : vp_in (x4 + 5) L) (a3 : Nat) (ls : Array Slot) (hl : lv_has ls 7 [(0, .ref b), (1, .ref (ad 0)), (2, .ref (am 0)), (3, .ref a3), (4, .int x4)]) (sim : Sim_way RR) (σ μ : MSt) (hR : RR σ μ) (H : Heap) (locs : List Loc) (hw : k_W G (fun σ => wC ad Y σ ++ (wM am Y μ ++ X)) A s.heap σ H locs) (next : ∀ σ1 μ1, RR σ1 μ1 → ∀ H locs, k_W G (fun μ => wC ad Y σ1 ++ (wM am Y μ ++ X)) A s.heap μ1 H locs → W p l e room_1 s m args below meth c H locs cells slots Q (F0 m 1352 ls [])) : W p l e room_1 s m args below meth c H locs cells slots Q (F0 m 776 ls []) := by
  have hx := C.1
  have hb := C.2.1
  have hts := C.2.2.2.2.2.1
  refine lv_aload_n hx hb dL_law_776 rfl (lv_at hl 1 rfl) ?_
  refine lv_aload_n hx hb dL_law_777 rfl (lv_at hl 0 rfl) ?_
  refine lv_iload hx hb dL_law_778 (lv_at hl 4 rfl) ?_
  refine lv_iconst (v := (1 : Int32)) hx hb dL_law_780 (by decide) ?_
  refine lv_iadd hx hb dL_law_781 ?_
  refine va_sld hx hb hX hbl hbA hw.2.2 (i1) dL_law_782 ?_
  refine lv_aload_n hx hb dL_law_783 rfl (lv_at hl 0 rfl) ?_
  refine lv_iload hx hb dL_law_784 (lv_at hl 4 rfl) ?_
  refine lv_iconst (v := (2 : Int32)) hx hb dL_law_786 (by decide) ?_
  refine lv_iadd hx hb dL_law_787 ?_
  refine va_sld hx hb hX hbl hbA hw.2.2 (i2) dL_law_788 ?_
  obtain ⟨r, σ1, μ1, f1, f2, hR1⟩ := sim σ μ (xs (x4 + (1 : Int32)).toNatClampNeg) (xs (x4 + (2 : Int32)).toNatClampNeg) hR
  refine k_callViL C hw (c_X11_way l G Y (fun σ => wC ad Y σ ++ (wM am Y μ ++ X)) ad (layC ad Y _) (xs (x4 + (1 : Int32)).toNatClampNeg) (xs (x4 + (2 : Int32)).toNatClampNeg) σ r σ1 f1) (cwV 2 hts gL_law_X11_way rfl rfl rfl (by decide +kernel) ⟨Nat.le_of_ble_eq_true rfl, Nat.le_of_ble_eq_true rfl⟩) (k_recv C hw (LC_0 (layC ad Y _)) rfl) rfl hl.1 rfl (Nat.le_of_ble_eq_true rfl) hcs dL_law_789 (fun H locs hw => ?_)
  have hw : k_W G (fun μ => wC ad Y σ1 ++ (wM am Y μ ++ X)) A s.heap μ H locs := hw
  refine lv_aload_n hx hb dL_law_792 rfl (lv_at hl 2 rfl) ?_
  refine lv_aload_n hx hb dL_law_793 rfl (lv_at hl 0 rfl) ?_
  refine lv_iload hx hb dL_law_794 (lv_at hl 4 rfl) ?_
  refine lv_iconst (v := (1 : Int32)) hx hb dL_law_796 (by decide) ?_
  refine lv_iadd hx hb dL_law_797 ?_
  refine va_sld hx hb hX hbl hbA hw.2.2 (i1) dL_law_798 ?_
  refine lv_aload_n hx hb dL_law_799 rfl (lv_at hl 0 rfl) ?_
  refine lv_iload hx hb dL_law_800 (lv_at hl 4 rfl) ?_
  refine lv_iconst (v := (2 : Int32)) hx hb dL_law_802 (by decide) ?_
  refine lv_iadd hx hb dL_law_803 ?_
  refine va_sld hx hb hX hbl hbA hw.2.2 (i2) dL_law_804 ?_
  refine k_callViL C hw (c_X12_way l G Y (fun μ => wC ad Y σ1 ++ (wM am Y μ ++ X)) am (layM am Y (wC ad Y σ1) X) (xs (x4 + (1 : Int32)).toNatClampNeg) (xs (x4 + (2 : Int32)).toNatClampNeg) μ r μ1 f2) (cwV 2 hts gL_law_X12_way rfl rfl rfl (by decide +kernel) ⟨Nat.le_of_ble_eq_true rfl, Nat.le_of_ble_eq_true rfl⟩) (k_recv C hw (LM_0 (layM am Y (wC ad Y σ1) X)) rfl) rfl hl.1 rfl (Nat.le_of_ble_eq_true rfl) hcs dL_law_805 (fun H locs hw => ?_)
  exact lv_icmp_eq (tgt := 1352) hx hb dL_law_808 (by decide) (fun _ => next σ1 μ1 hR1 H locs hw) (fun h => absurd rfl h)
set_option maxHeartbeats 4000000 in
set_option maxRecDepth 100000 in
theorem lc_17 {p : Program} {l : Launch} {e : Env} {s : State} {m : MethodId} {args : Array Value} {below : List Frame} {meth : Method} {c : Code} {A : Nat → Prop} {G : va_G} {Y : CY} {cells slots b L : Nat} {xs : Nat → Int32} {Q : State → Prop} (RR : MSt → MSt → Prop) (C : k_C p s m args meth c code RL ret wsL_law 7 G Y A) (hX : va_X b L xs s s.heap) (hbl : b < s.heap.size) (hbA : ¬ A b) (ad am : Nat → Nat) (X : va_W) (hcs : cells ≤ room_1.cells ∧ slots ≤ room_1.slots) (x4 : Int32) (i1 : vp_in (x4 + 1) L) (i2 : vp_in (x4 + 2) L) (i3 : vp_in (x4 + 3) L) (i4 : vp_in (x4 + 4) L) (i5 : vp_in (x4 + 5) L) (a3 : Nat) (ls : Array Slot) (hl : lv_has ls 7 [(0, .ref b), (1, .ref (ad 0)), (2, .ref (am 0)), (3, .ref a3), (4, .int x4)]) (sim : Sim_never RR) (σ μ : MSt) (hR : RR σ μ) (H : Heap) (locs : List Loc) (hw : k_W G (fun σ => wC ad Y σ ++ (wM am Y μ ++ X)) A s.heap σ H locs) (next : ∀ σ1 μ1, RR σ1 μ1 → ∀ H locs, k_W G (fun μ => wC ad Y σ1 ++ (wM am Y μ ++ X)) A s.heap μ1 H locs → W p l e room_1 s m args below meth c H locs cells slots Q (F0 m 1352 ls [])) : W p l e room_1 s m args below meth c H locs cells slots Q (F0 m 813 ls []) := by
  have hx := C.1
  have hb := C.2.1
  have hts := C.2.2.2.2.2.1
  refine lv_aload_n hx hb dL_law_813 rfl (lv_at hl 1 rfl) ?_
  obtain ⟨r, σ1, μ1, f1, f2, hR1⟩ := sim σ μ  hR
  refine k_callViL C hw (c_X11_never l G Y (fun σ => wC ad Y σ ++ (wM am Y μ ++ X)) ad (layC ad Y _)  σ r σ1 f1) (cwV 0 hts gL_law_X11_never rfl rfl rfl (by decide +kernel) ⟨Nat.le_of_ble_eq_true rfl, Nat.le_of_ble_eq_true rfl⟩) (k_recv C hw (LC_0 (layC ad Y _)) rfl) rfl hl.1 rfl (Nat.le_of_ble_eq_true rfl) hcs dL_law_814 (fun H locs hw => ?_)
  have hw : k_W G (fun μ => wC ad Y σ1 ++ (wM am Y μ ++ X)) A s.heap μ H locs := hw
  refine lv_aload_n hx hb dL_law_817 rfl (lv_at hl 2 rfl) ?_
  refine k_callViL C hw (c_X12_never l G Y (fun μ => wC ad Y σ1 ++ (wM am Y μ ++ X)) am (layM am Y (wC ad Y σ1) X)  μ r μ1 f2) (cwV 0 hts gL_law_X12_never rfl rfl rfl (by decide +kernel) ⟨Nat.le_of_ble_eq_true rfl, Nat.le_of_ble_eq_true rfl⟩) (k_recv C hw (LM_0 (layM am Y (wC ad Y σ1) X)) rfl) rfl hl.1 rfl (Nat.le_of_ble_eq_true rfl) hcs dL_law_818 (fun H locs hw => ?_)
  exact lv_icmp_eq (tgt := 1352) hx hb dL_law_821 (by decide) (fun _ => next σ1 μ1 hR1 H locs hw) (fun h => absurd rfl h)
set_option maxHeartbeats 4000000 in
set_option maxRecDepth 100000 in
theorem lc_18 {p : Program} {l : Launch} {e : Env} {s : State} {m : MethodId} {args : Array Value} {below : List Frame} {meth : Method} {c : Code} {A : Nat → Prop} {G : va_G} {Y : CY} {cells slots b L : Nat} {xs : Nat → Int32} {Q : State → Prop} (RR : MSt → MSt → Prop) (C : k_C p s m args meth c code RL ret wsL_law 7 G Y A) (hX : va_X b L xs s s.heap) (hbl : b < s.heap.size) (hbA : ¬ A b) (ad am : Nat → Nat) (X : va_W) (hcs : cells ≤ room_1.cells ∧ slots ≤ room_1.slots) (x4 : Int32) (i1 : vp_in (x4 + 1) L) (i2 : vp_in (x4 + 2) L) (i3 : vp_in (x4 + 3) L) (i4 : vp_in (x4 + 4) L) (i5 : vp_in (x4 + 5) L) (a3 : Nat) (ls : Array Slot) (hl : lv_has ls 7 [(0, .ref b), (1, .ref (ad 0)), (2, .ref (am 0)), (3, .ref a3), (4, .int x4)]) (sim : Sim_kindness RR) (σ μ : MSt) (hR : RR σ μ) (H : Heap) (locs : List Loc) (hw : k_W G (fun σ => wC ad Y σ ++ (wM am Y μ ++ X)) A s.heap σ H locs) (next : ∀ σ1 μ1, RR σ1 μ1 → ∀ H locs, k_W G (fun μ => wC ad Y σ1 ++ (wM am Y μ ++ X)) A s.heap μ1 H locs → W p l e room_1 s m args below meth c H locs cells slots Q (F0 m 1352 ls [])) : W p l e room_1 s m args below meth c H locs cells slots Q (F0 m 826 ls []) := by
  have hx := C.1
  have hb := C.2.1
  have hts := C.2.2.2.2.2.1
  refine lv_aload_n hx hb dL_law_826 rfl (lv_at hl 1 rfl) ?_
  refine lv_aload_n hx hb dL_law_827 rfl (lv_at hl 0 rfl) ?_
  refine lv_iload hx hb dL_law_828 (lv_at hl 4 rfl) ?_
  refine lv_iconst (v := (1 : Int32)) hx hb dL_law_830 (by decide) ?_
  refine lv_iadd hx hb dL_law_831 ?_
  refine va_sld hx hb hX hbl hbA hw.2.2 (i1) dL_law_832 ?_
  refine lv_aload_n hx hb dL_law_833 rfl (lv_at hl 0 rfl) ?_
  refine lv_iload hx hb dL_law_834 (lv_at hl 4 rfl) ?_
  refine lv_iconst (v := (2 : Int32)) hx hb dL_law_836 (by decide) ?_
  refine lv_iadd hx hb dL_law_837 ?_
  refine va_sld hx hb hX hbl hbA hw.2.2 (i2) dL_law_838 ?_
  obtain ⟨r, σ1, μ1, f1, f2, hR1⟩ := sim σ μ (xs (x4 + (1 : Int32)).toNatClampNeg) (xs (x4 + (2 : Int32)).toNatClampNeg) hR
  refine k_callViL C hw (c_X11_kindness l G Y (fun σ => wC ad Y σ ++ (wM am Y μ ++ X)) ad (layC ad Y _) (xs (x4 + (1 : Int32)).toNatClampNeg) (xs (x4 + (2 : Int32)).toNatClampNeg) σ r σ1 f1) (cwV 2 hts gL_law_X11_kindness rfl rfl rfl (by decide +kernel) ⟨Nat.le_of_ble_eq_true rfl, Nat.le_of_ble_eq_true rfl⟩) (k_recv C hw (LC_0 (layC ad Y _)) rfl) rfl hl.1 rfl (Nat.le_of_ble_eq_true rfl) hcs dL_law_839 (fun H locs hw => ?_)
  have hw : k_W G (fun μ => wC ad Y σ1 ++ (wM am Y μ ++ X)) A s.heap μ H locs := hw
  refine lv_aload_n hx hb dL_law_842 rfl (lv_at hl 2 rfl) ?_
  refine lv_aload_n hx hb dL_law_843 rfl (lv_at hl 0 rfl) ?_
  refine lv_iload hx hb dL_law_844 (lv_at hl 4 rfl) ?_
  refine lv_iconst (v := (1 : Int32)) hx hb dL_law_846 (by decide) ?_
  refine lv_iadd hx hb dL_law_847 ?_
  refine va_sld hx hb hX hbl hbA hw.2.2 (i1) dL_law_848 ?_
  refine lv_aload_n hx hb dL_law_849 rfl (lv_at hl 0 rfl) ?_
  refine lv_iload hx hb dL_law_850 (lv_at hl 4 rfl) ?_
  refine lv_iconst (v := (2 : Int32)) hx hb dL_law_852 (by decide) ?_
  refine lv_iadd hx hb dL_law_853 ?_
  refine va_sld hx hb hX hbl hbA hw.2.2 (i2) dL_law_854 ?_
  refine k_callViL C hw (c_X12_kindness l G Y (fun μ => wC ad Y σ1 ++ (wM am Y μ ++ X)) am (layM am Y (wC ad Y σ1) X) (xs (x4 + (1 : Int32)).toNatClampNeg) (xs (x4 + (2 : Int32)).toNatClampNeg) μ r μ1 f2) (cwV 2 hts gL_law_X12_kindness rfl rfl rfl (by decide +kernel) ⟨Nat.le_of_ble_eq_true rfl, Nat.le_of_ble_eq_true rfl⟩) (k_recv C hw (LM_0 (layM am Y (wC ad Y σ1) X)) rfl) rfl hl.1 rfl (Nat.le_of_ble_eq_true rfl) hcs dL_law_855 (fun H locs hw => ?_)
  exact lv_icmp_eq (tgt := 1352) hx hb dL_law_858 (by decide) (fun _ => next σ1 μ1 hR1 H locs hw) (fun h => absurd rfl h)
set_option maxHeartbeats 4000000 in
set_option maxRecDepth 100000 in
theorem lc_19 {p : Program} {l : Launch} {e : Env} {s : State} {m : MethodId} {args : Array Value} {below : List Frame} {meth : Method} {c : Code} {A : Nat → Prop} {G : va_G} {Y : CY} {cells slots b L : Nat} {xs : Nat → Int32} {Q : State → Prop} (RR : MSt → MSt → Prop) (C : k_C p s m args meth c code RL ret wsL_law 7 G Y A) (hX : va_X b L xs s s.heap) (hbl : b < s.heap.size) (hbA : ¬ A b) (ad am : Nat → Nat) (X : va_W) (hcs : cells ≤ room_1.cells ∧ slots ≤ room_1.slots) (x4 : Int32) (i1 : vp_in (x4 + 1) L) (i2 : vp_in (x4 + 2) L) (i3 : vp_in (x4 + 3) L) (i4 : vp_in (x4 + 4) L) (i5 : vp_in (x4 + 5) L) (a3 : Nat) (ls : Array Slot) (hl : lv_has ls 7 [(0, .ref b), (1, .ref (ad 0)), (2, .ref (am 0)), (3, .ref a3), (4, .int x4)]) (sim : Sim_winter RR) (σ μ : MSt) (hR : RR σ μ) (H : Heap) (locs : List Loc) (hw : k_W G (fun σ => wC ad Y σ ++ (wM am Y μ ++ X)) A s.heap σ H locs) (next : ∀ σ1 μ1, RR σ1 μ1 → ∀ H locs, k_W G (fun μ => wC ad Y σ1 ++ (wM am Y μ ++ X)) A s.heap μ1 H locs → W p l e room_1 s m args below meth c H locs cells slots Q (F0 m 1352 ls [])) : W p l e room_1 s m args below meth c H locs cells slots Q (F0 m 863 ls []) := by
  have hx := C.1
  have hb := C.2.1
  have hts := C.2.2.2.2.2.1
  refine lv_aload_n hx hb dL_law_863 rfl (lv_at hl 1 rfl) ?_
  refine lv_aload_n hx hb dL_law_864 rfl (lv_at hl 0 rfl) ?_
  refine lv_iload hx hb dL_law_865 (lv_at hl 4 rfl) ?_
  refine lv_iconst (v := (1 : Int32)) hx hb dL_law_867 (by decide) ?_
  refine lv_iadd hx hb dL_law_868 ?_
  refine va_sld hx hb hX hbl hbA hw.2.2 (i1) dL_law_869 ?_
  refine lv_aload_n hx hb dL_law_870 rfl (lv_at hl 0 rfl) ?_
  refine lv_iload hx hb dL_law_871 (lv_at hl 4 rfl) ?_
  refine lv_iconst (v := (2 : Int32)) hx hb dL_law_873 (by decide) ?_
  refine lv_iadd hx hb dL_law_874 ?_
  refine va_sld hx hb hX hbl hbA hw.2.2 (i2) dL_law_875 ?_
  obtain ⟨r, σ1, μ1, f1, f2, hR1⟩ := sim σ μ (xs (x4 + (1 : Int32)).toNatClampNeg) (xs (x4 + (2 : Int32)).toNatClampNeg) hR
  refine k_callViL C hw (c_X11_winter l G Y (fun σ => wC ad Y σ ++ (wM am Y μ ++ X)) ad (layC ad Y _) (xs (x4 + (1 : Int32)).toNatClampNeg) (xs (x4 + (2 : Int32)).toNatClampNeg) σ r σ1 f1) (cwV 2 hts gL_law_X11_winter rfl rfl rfl (by decide +kernel) ⟨Nat.le_of_ble_eq_true rfl, Nat.le_of_ble_eq_true rfl⟩) (k_recv C hw (LC_0 (layC ad Y _)) rfl) rfl hl.1 rfl (Nat.le_of_ble_eq_true rfl) hcs dL_law_876 (fun H locs hw => ?_)
  have hw : k_W G (fun μ => wC ad Y σ1 ++ (wM am Y μ ++ X)) A s.heap μ H locs := hw
  refine lv_aload_n hx hb dL_law_879 rfl (lv_at hl 2 rfl) ?_
  refine lv_aload_n hx hb dL_law_880 rfl (lv_at hl 0 rfl) ?_
  refine lv_iload hx hb dL_law_881 (lv_at hl 4 rfl) ?_
  refine lv_iconst (v := (1 : Int32)) hx hb dL_law_883 (by decide) ?_
  refine lv_iadd hx hb dL_law_884 ?_
  refine va_sld hx hb hX hbl hbA hw.2.2 (i1) dL_law_885 ?_
  refine lv_aload_n hx hb dL_law_886 rfl (lv_at hl 0 rfl) ?_
  refine lv_iload hx hb dL_law_887 (lv_at hl 4 rfl) ?_
  refine lv_iconst (v := (2 : Int32)) hx hb dL_law_889 (by decide) ?_
  refine lv_iadd hx hb dL_law_890 ?_
  refine va_sld hx hb hX hbl hbA hw.2.2 (i2) dL_law_891 ?_
  refine k_callViL C hw (c_X12_winter l G Y (fun μ => wC ad Y σ1 ++ (wM am Y μ ++ X)) am (layM am Y (wC ad Y σ1) X) (xs (x4 + (1 : Int32)).toNatClampNeg) (xs (x4 + (2 : Int32)).toNatClampNeg) μ r μ1 f2) (cwV 2 hts gL_law_X12_winter rfl rfl rfl (by decide +kernel) ⟨Nat.le_of_ble_eq_true rfl, Nat.le_of_ble_eq_true rfl⟩) (k_recv C hw (LM_0 (layM am Y (wC ad Y σ1) X)) rfl) rfl hl.1 rfl (Nat.le_of_ble_eq_true rfl) hcs dL_law_892 (fun H locs hw => ?_)
  exact lv_icmp_eq (tgt := 1352) hx hb dL_law_895 (by decide) (fun _ => next σ1 μ1 hR1 H locs hw) (fun h => absurd rfl h)
set_option maxHeartbeats 4000000 in
set_option maxRecDepth 100000 in
theorem lc_20 {p : Program} {l : Launch} {e : Env} {s : State} {m : MethodId} {args : Array Value} {below : List Frame} {meth : Method} {c : Code} {A : Nat → Prop} {G : va_G} {Y : CY} {cells slots b L : Nat} {xs : Nat → Int32} {Q : State → Prop} (RR : MSt → MSt → Prop) (C : k_C p s m args meth c code RL ret wsL_law 7 G Y A) (hX : va_X b L xs s s.heap) (hbl : b < s.heap.size) (hbA : ¬ A b) (ad am : Nat → Nat) (X : va_W) (hcs : cells ≤ room_1.cells ∧ slots ≤ room_1.slots) (x4 : Int32) (i1 : vp_in (x4 + 1) L) (i2 : vp_in (x4 + 2) L) (i3 : vp_in (x4 + 3) L) (i4 : vp_in (x4 + 4) L) (i5 : vp_in (x4 + 5) L) (a3 : Nat) (ls : Array Slot) (hl : lv_has ls 7 [(0, .ref b), (1, .ref (ad 0)), (2, .ref (am 0)), (3, .ref a3), (4, .int x4)]) (sim : Sim_copies RR) (σ μ : MSt) (hR : RR σ μ) (H : Heap) (locs : List Loc) (hw : k_W G (fun σ => wC ad Y σ ++ (wM am Y μ ++ X)) A s.heap σ H locs) (next : ∀ σ1 μ1, RR σ1 μ1 → ∀ H locs, k_W G (fun μ => wC ad Y σ1 ++ (wM am Y μ ++ X)) A s.heap μ1 H locs → W p l e room_1 s m args below meth c H locs cells slots Q (F0 m 1352 ls [])) : W p l e room_1 s m args below meth c H locs cells slots Q (F0 m 900 ls []) := by
  have hx := C.1
  have hb := C.2.1
  have hts := C.2.2.2.2.2.1
  refine lv_aload_n hx hb dL_law_900 rfl (lv_at hl 1 rfl) ?_
  refine lv_aload_n hx hb dL_law_901 rfl (lv_at hl 0 rfl) ?_
  refine lv_iload hx hb dL_law_902 (lv_at hl 4 rfl) ?_
  refine lv_iconst (v := (1 : Int32)) hx hb dL_law_904 (by decide) ?_
  refine lv_iadd hx hb dL_law_905 ?_
  refine va_sld hx hb hX hbl hbA hw.2.2 (i1) dL_law_906 ?_
  refine lv_aload_n hx hb dL_law_907 rfl (lv_at hl 0 rfl) ?_
  refine lv_iload hx hb dL_law_908 (lv_at hl 4 rfl) ?_
  refine lv_iconst (v := (2 : Int32)) hx hb dL_law_910 (by decide) ?_
  refine lv_iadd hx hb dL_law_911 ?_
  refine va_sld hx hb hX hbl hbA hw.2.2 (i2) dL_law_912 ?_
  obtain ⟨r, σ1, μ1, f1, f2, hR1⟩ := sim σ μ (xs (x4 + (1 : Int32)).toNatClampNeg) (xs (x4 + (2 : Int32)).toNatClampNeg) hR
  refine k_callVlL C hw (c_X11_copies l G Y (fun σ => wC ad Y σ ++ (wM am Y μ ++ X)) ad (layC ad Y _) (xs (x4 + (1 : Int32)).toNatClampNeg) (xs (x4 + (2 : Int32)).toNatClampNeg) σ r σ1 f1) (cwV 2 hts gL_law_X11_copies rfl rfl rfl (by decide +kernel) ⟨Nat.le_of_ble_eq_true rfl, Nat.le_of_ble_eq_true rfl⟩) (k_recv C hw (LC_0 (layC ad Y _)) rfl) rfl hl.1 rfl (Nat.le_of_ble_eq_true rfl) hcs dL_law_913 (fun H locs hw => ?_)
  have hw : k_W G (fun μ => wC ad Y σ1 ++ (wM am Y μ ++ X)) A s.heap μ H locs := hw
  refine lv_aload_n hx hb dL_law_916 rfl (lv_at hl 2 rfl) ?_
  refine lv_aload_n hx hb dL_law_917 rfl (lv_at hl 0 rfl) ?_
  refine lv_iload hx hb dL_law_918 (lv_at hl 4 rfl) ?_
  refine lv_iconst (v := (1 : Int32)) hx hb dL_law_920 (by decide) ?_
  refine lv_iadd hx hb dL_law_921 ?_
  refine va_sld hx hb hX hbl hbA hw.2.2 (i1) dL_law_922 ?_
  refine lv_aload_n hx hb dL_law_923 rfl (lv_at hl 0 rfl) ?_
  refine lv_iload hx hb dL_law_924 (lv_at hl 4 rfl) ?_
  refine lv_iconst (v := (2 : Int32)) hx hb dL_law_926 (by decide) ?_
  refine lv_iadd hx hb dL_law_927 ?_
  refine va_sld hx hb hX hbl hbA hw.2.2 (i2) dL_law_928 ?_
  refine k_callVlL C hw (c_X12_copies l G Y (fun μ => wC ad Y σ1 ++ (wM am Y μ ++ X)) am (layM am Y (wC ad Y σ1) X) (xs (x4 + (1 : Int32)).toNatClampNeg) (xs (x4 + (2 : Int32)).toNatClampNeg) μ r μ1 f2) (cwV 2 hts gL_law_X12_copies rfl rfl rfl (by decide +kernel) ⟨Nat.le_of_ble_eq_true rfl, Nat.le_of_ble_eq_true rfl⟩) (k_recv C hw (LM_0 (layM am Y (wC ad Y σ1) X)) rfl) rfl hl.1 rfl (Nat.le_of_ble_eq_true rfl) hcs dL_law_929 (fun H locs hw => ?_)
  refine W.lcmp hx hb dL_law_932 ?_
  exact lv_if_eq (tgt := 1352) hx hb dL_law_933 (by decide) (fun _ => next σ1 μ1 hR1 H locs hw) (fun h => absurd (k_lcs r) h)
set_option maxHeartbeats 4000000 in
set_option maxRecDepth 100000 in
theorem lc_21 {p : Program} {l : Launch} {e : Env} {s : State} {m : MethodId} {args : Array Value} {below : List Frame} {meth : Method} {c : Code} {A : Nat → Prop} {G : va_G} {Y : CY} {cells slots b L : Nat} {xs : Nat → Int32} {Q : State → Prop} (RR : MSt → MSt → Prop) (C : k_C p s m args meth c code RL ret wsL_law 7 G Y A) (hX : va_X b L xs s s.heap) (hbl : b < s.heap.size) (hbA : ¬ A b) (ad am : Nat → Nat) (X : va_W) (hcs : cells ≤ room_1.cells ∧ slots ≤ room_1.slots) (x4 : Int32) (i1 : vp_in (x4 + 1) L) (i2 : vp_in (x4 + 2) L) (i3 : vp_in (x4 + 3) L) (i4 : vp_in (x4 + 4) L) (i5 : vp_in (x4 + 5) L) (a3 : Nat) (ls : Array Slot) (hl : lv_has ls 7 [(0, .ref b), (1, .ref (ad 0)), (2, .ref (am 0)), (3, .ref a3), (4, .int x4)]) (sim : Sim_bids RR) (σ μ : MSt) (hR : RR σ μ) (H : Heap) (locs : List Loc) (hw : k_W G (fun σ => wC ad Y σ ++ (wM am Y μ ++ X)) A s.heap σ H locs) (next : ∀ σ1 μ1, RR σ1 μ1 → ∀ H locs, k_W G (fun μ => wC ad Y σ1 ++ (wM am Y μ ++ X)) A s.heap μ1 H locs → W p l e room_1 s m args below meth c H locs cells slots Q (F0 m 1352 ls [])) : W p l e room_1 s m args below meth c H locs cells slots Q (F0 m 938 ls []) := by
  have hx := C.1
  have hb := C.2.1
  have hts := C.2.2.2.2.2.1
  refine lv_aload_n hx hb dL_law_938 rfl (lv_at hl 1 rfl) ?_
  refine lv_aload_n hx hb dL_law_939 rfl (lv_at hl 0 rfl) ?_
  refine lv_iload hx hb dL_law_940 (lv_at hl 4 rfl) ?_
  refine lv_iconst (v := (1 : Int32)) hx hb dL_law_942 (by decide) ?_
  refine lv_iadd hx hb dL_law_943 ?_
  refine va_sld hx hb hX hbl hbA hw.2.2 (i1) dL_law_944 ?_
  obtain ⟨r, σ1, μ1, f1, f2, hR1⟩ := sim σ μ (xs (x4 + (1 : Int32)).toNatClampNeg) hR
  refine k_callViL C hw (c_X11_bids l G Y (fun σ => wC ad Y σ ++ (wM am Y μ ++ X)) ad (layC ad Y _) (xs (x4 + (1 : Int32)).toNatClampNeg) σ r σ1 f1) (cwV 1 hts gL_law_X11_bids rfl rfl rfl (by decide +kernel) ⟨Nat.le_of_ble_eq_true rfl, Nat.le_of_ble_eq_true rfl⟩) (k_recv C hw (LC_0 (layC ad Y _)) rfl) rfl hl.1 rfl (Nat.le_of_ble_eq_true rfl) hcs dL_law_945 (fun H locs hw => ?_)
  have hw : k_W G (fun μ => wC ad Y σ1 ++ (wM am Y μ ++ X)) A s.heap μ H locs := hw
  refine lv_aload_n hx hb dL_law_948 rfl (lv_at hl 2 rfl) ?_
  refine lv_aload_n hx hb dL_law_949 rfl (lv_at hl 0 rfl) ?_
  refine lv_iload hx hb dL_law_950 (lv_at hl 4 rfl) ?_
  refine lv_iconst (v := (1 : Int32)) hx hb dL_law_952 (by decide) ?_
  refine lv_iadd hx hb dL_law_953 ?_
  refine va_sld hx hb hX hbl hbA hw.2.2 (i1) dL_law_954 ?_
  refine k_callViL C hw (c_X12_bids l G Y (fun μ => wC ad Y σ1 ++ (wM am Y μ ++ X)) am (layM am Y (wC ad Y σ1) X) (xs (x4 + (1 : Int32)).toNatClampNeg) μ r μ1 f2) (cwV 1 hts gL_law_X12_bids rfl rfl rfl (by decide +kernel) ⟨Nat.le_of_ble_eq_true rfl, Nat.le_of_ble_eq_true rfl⟩) (k_recv C hw (LM_0 (layM am Y (wC ad Y σ1) X)) rfl) rfl hl.1 rfl (Nat.le_of_ble_eq_true rfl) hcs dL_law_955 (fun H locs hw => ?_)
  exact lv_icmp_eq (tgt := 1352) hx hb dL_law_958 (by decide) (fun _ => next σ1 μ1 hR1 H locs hw) (fun h => absurd rfl h)
set_option maxHeartbeats 4000000 in
set_option maxRecDepth 100000 in
theorem lc_22 {p : Program} {l : Launch} {e : Env} {s : State} {m : MethodId} {args : Array Value} {below : List Frame} {meth : Method} {c : Code} {A : Nat → Prop} {G : va_G} {Y : CY} {cells slots b L : Nat} {xs : Nat → Int32} {Q : State → Prop} (RR : MSt → MSt → Prop) (C : k_C p s m args meth c code RL ret wsL_law 7 G Y A) (hX : va_X b L xs s s.heap) (hbl : b < s.heap.size) (hbA : ¬ A b) (ad am : Nat → Nat) (X : va_W) (hcs : cells ≤ room_1.cells ∧ slots ≤ room_1.slots) (x4 : Int32) (i1 : vp_in (x4 + 1) L) (i2 : vp_in (x4 + 2) L) (i3 : vp_in (x4 + 3) L) (i4 : vp_in (x4 + 4) L) (i5 : vp_in (x4 + 5) L) (a3 : Nat) (ls : Array Slot) (hl : lv_has ls 7 [(0, .ref b), (1, .ref (ad 0)), (2, .ref (am 0)), (3, .ref a3), (4, .int x4)]) (sim : Sim_rests RR) (σ μ : MSt) (hR : RR σ μ) (H : Heap) (locs : List Loc) (hw : k_W G (fun σ => wC ad Y σ ++ (wM am Y μ ++ X)) A s.heap σ H locs) (next : ∀ σ1 μ1, RR σ1 μ1 → ∀ H locs, k_W G (fun μ => wC ad Y σ1 ++ (wM am Y μ ++ X)) A s.heap μ1 H locs → W p l e room_1 s m args below meth c H locs cells slots Q (F0 m 1352 ls [])) : W p l e room_1 s m args below meth c H locs cells slots Q (F0 m 963 ls []) := by
  have hx := C.1
  have hb := C.2.1
  have hts := C.2.2.2.2.2.1
  refine lv_aload_n hx hb dL_law_963 rfl (lv_at hl 1 rfl) ?_
  refine lv_aload_n hx hb dL_law_964 rfl (lv_at hl 0 rfl) ?_
  refine lv_iload hx hb dL_law_965 (lv_at hl 4 rfl) ?_
  refine lv_iconst (v := (1 : Int32)) hx hb dL_law_967 (by decide) ?_
  refine lv_iadd hx hb dL_law_968 ?_
  refine va_sld hx hb hX hbl hbA hw.2.2 (i1) dL_law_969 ?_
  obtain ⟨r, σ1, μ1, f1, f2, hR1⟩ := sim σ μ (xs (x4 + (1 : Int32)).toNatClampNeg) hR
  refine k_callViL C hw (c_X11_rests l G Y (fun σ => wC ad Y σ ++ (wM am Y μ ++ X)) ad (layC ad Y _) (xs (x4 + (1 : Int32)).toNatClampNeg) σ r σ1 f1) (cwV 1 hts gL_law_X11_rests rfl rfl rfl (by decide +kernel) ⟨Nat.le_of_ble_eq_true rfl, Nat.le_of_ble_eq_true rfl⟩) (k_recv C hw (LC_0 (layC ad Y _)) rfl) rfl hl.1 rfl (Nat.le_of_ble_eq_true rfl) hcs dL_law_970 (fun H locs hw => ?_)
  have hw : k_W G (fun μ => wC ad Y σ1 ++ (wM am Y μ ++ X)) A s.heap μ H locs := hw
  refine lv_aload_n hx hb dL_law_973 rfl (lv_at hl 2 rfl) ?_
  refine lv_aload_n hx hb dL_law_974 rfl (lv_at hl 0 rfl) ?_
  refine lv_iload hx hb dL_law_975 (lv_at hl 4 rfl) ?_
  refine lv_iconst (v := (1 : Int32)) hx hb dL_law_977 (by decide) ?_
  refine lv_iadd hx hb dL_law_978 ?_
  refine va_sld hx hb hX hbl hbA hw.2.2 (i1) dL_law_979 ?_
  refine k_callViL C hw (c_X12_rests l G Y (fun μ => wC ad Y σ1 ++ (wM am Y μ ++ X)) am (layM am Y (wC ad Y σ1) X) (xs (x4 + (1 : Int32)).toNatClampNeg) μ r μ1 f2) (cwV 1 hts gL_law_X12_rests rfl rfl rfl (by decide +kernel) ⟨Nat.le_of_ble_eq_true rfl, Nat.le_of_ble_eq_true rfl⟩) (k_recv C hw (LM_0 (layM am Y (wC ad Y σ1) X)) rfl) rfl hl.1 rfl (Nat.le_of_ble_eq_true rfl) hcs dL_law_980 (fun H locs hw => ?_)
  exact lv_icmp_eq (tgt := 1352) hx hb dL_law_983 (by decide) (fun _ => next σ1 μ1 hR1 H locs hw) (fun h => absurd rfl h)
set_option maxHeartbeats 4000000 in
set_option maxRecDepth 100000 in
theorem lc_23 {p : Program} {l : Launch} {e : Env} {s : State} {m : MethodId} {args : Array Value} {below : List Frame} {meth : Method} {c : Code} {A : Nat → Prop} {G : va_G} {Y : CY} {cells slots b L : Nat} {xs : Nat → Int32} {Q : State → Prop} (RR : MSt → MSt → Prop) (C : k_C p s m args meth c code RL ret wsL_law 7 G Y A) (hX : va_X b L xs s s.heap) (hbl : b < s.heap.size) (hbA : ¬ A b) (ad am : Nat → Nat) (X : va_W) (hcs : cells ≤ room_1.cells ∧ slots ≤ room_1.slots) (x4 : Int32) (i1 : vp_in (x4 + 1) L) (i2 : vp_in (x4 + 2) L) (i3 : vp_in (x4 + 3) L) (i4 : vp_in (x4 + 4) L) (i5 : vp_in (x4 + 5) L) (a3 : Nat) (ls : Array Slot) (hl : lv_has ls 7 [(0, .ref b), (1, .ref (ad 0)), (2, .ref (am 0)), (3, .ref a3), (4, .int x4)]) (sim : Sim_rest RR) (σ μ : MSt) (hR : RR σ μ) (H : Heap) (locs : List Loc) (hw : k_W G (fun σ => wC ad Y σ ++ (wM am Y μ ++ X)) A s.heap σ H locs) (next : ∀ σ1 μ1, RR σ1 μ1 → ∀ H locs, k_W G (fun μ => wC ad Y σ1 ++ (wM am Y μ ++ X)) A s.heap μ1 H locs → W p l e room_1 s m args below meth c H locs cells slots Q (F0 m 1352 ls [])) : W p l e room_1 s m args below meth c H locs cells slots Q (F0 m 988 ls []) := by
  have hx := C.1
  have hb := C.2.1
  have hts := C.2.2.2.2.2.1
  refine lv_aload_n hx hb dL_law_988 rfl (lv_at hl 1 rfl) ?_
  refine lv_aload_n hx hb dL_law_989 rfl (lv_at hl 0 rfl) ?_
  refine lv_iload hx hb dL_law_990 (lv_at hl 4 rfl) ?_
  refine lv_iconst (v := (1 : Int32)) hx hb dL_law_992 (by decide) ?_
  refine lv_iadd hx hb dL_law_993 ?_
  refine va_sld hx hb hX hbl hbA hw.2.2 (i1) dL_law_994 ?_
  refine lv_aload_n hx hb dL_law_995 rfl (lv_at hl 0 rfl) ?_
  refine lv_iload hx hb dL_law_996 (lv_at hl 4 rfl) ?_
  refine lv_iconst (v := (2 : Int32)) hx hb dL_law_998 (by decide) ?_
  refine lv_iadd hx hb dL_law_999 ?_
  refine va_sld hx hb hX hbl hbA hw.2.2 (i2) dL_law_1000 ?_
  obtain ⟨r, σ1, μ1, f1, f2, hR1⟩ := sim σ μ (xs (x4 + (1 : Int32)).toNatClampNeg) (xs (x4 + (2 : Int32)).toNatClampNeg) hR
  refine k_callViL C hw (c_X11_rest l G Y (fun σ => wC ad Y σ ++ (wM am Y μ ++ X)) ad (layC ad Y _) (xs (x4 + (1 : Int32)).toNatClampNeg) (xs (x4 + (2 : Int32)).toNatClampNeg) σ r σ1 f1) (cwV 2 hts gL_law_X11_rest rfl rfl rfl (by decide +kernel) ⟨Nat.le_of_ble_eq_true rfl, Nat.le_of_ble_eq_true rfl⟩) (k_recv C hw (LC_0 (layC ad Y _)) rfl) rfl hl.1 rfl (Nat.le_of_ble_eq_true rfl) hcs dL_law_1001 (fun H locs hw => ?_)
  have hw : k_W G (fun μ => wC ad Y σ1 ++ (wM am Y μ ++ X)) A s.heap μ H locs := hw
  refine lv_aload_n hx hb dL_law_1004 rfl (lv_at hl 2 rfl) ?_
  refine lv_aload_n hx hb dL_law_1005 rfl (lv_at hl 0 rfl) ?_
  refine lv_iload hx hb dL_law_1006 (lv_at hl 4 rfl) ?_
  refine lv_iconst (v := (1 : Int32)) hx hb dL_law_1008 (by decide) ?_
  refine lv_iadd hx hb dL_law_1009 ?_
  refine va_sld hx hb hX hbl hbA hw.2.2 (i1) dL_law_1010 ?_
  refine lv_aload_n hx hb dL_law_1011 rfl (lv_at hl 0 rfl) ?_
  refine lv_iload hx hb dL_law_1012 (lv_at hl 4 rfl) ?_
  refine lv_iconst (v := (2 : Int32)) hx hb dL_law_1014 (by decide) ?_
  refine lv_iadd hx hb dL_law_1015 ?_
  refine va_sld hx hb hX hbl hbA hw.2.2 (i2) dL_law_1016 ?_
  refine k_callViL C hw (c_X12_rest l G Y (fun μ => wC ad Y σ1 ++ (wM am Y μ ++ X)) am (layM am Y (wC ad Y σ1) X) (xs (x4 + (1 : Int32)).toNatClampNeg) (xs (x4 + (2 : Int32)).toNatClampNeg) μ r μ1 f2) (cwV 2 hts gL_law_X12_rest rfl rfl rfl (by decide +kernel) ⟨Nat.le_of_ble_eq_true rfl, Nat.le_of_ble_eq_true rfl⟩) (k_recv C hw (LM_0 (layM am Y (wC ad Y σ1) X)) rfl) rfl hl.1 rfl (Nat.le_of_ble_eq_true rfl) hcs dL_law_1017 (fun H locs hw => ?_)
  exact lv_icmp_eq (tgt := 1352) hx hb dL_law_1020 (by decide) (fun _ => next σ1 μ1 hR1 H locs hw) (fun h => absurd rfl h)
set_option maxHeartbeats 4000000 in
set_option maxRecDepth 100000 in
theorem lc_24 {p : Program} {l : Launch} {e : Env} {s : State} {m : MethodId} {args : Array Value} {below : List Frame} {meth : Method} {c : Code} {A : Nat → Prop} {G : va_G} {Y : CY} {cells slots b L : Nat} {xs : Nat → Int32} {Q : State → Prop} (RR : MSt → MSt → Prop) (C : k_C p s m args meth c code RL ret wsL_law 7 G Y A) (hX : va_X b L xs s s.heap) (hbl : b < s.heap.size) (hbA : ¬ A b) (ad am : Nat → Nat) (X : va_W) (hcs : cells ≤ room_1.cells ∧ slots ≤ room_1.slots) (x4 : Int32) (i1 : vp_in (x4 + 1) L) (i2 : vp_in (x4 + 2) L) (i3 : vp_in (x4 + 3) L) (i4 : vp_in (x4 + 4) L) (i5 : vp_in (x4 + 5) L) (a3 : Nat) (ls : Array Slot) (hl : lv_has ls 7 [(0, .ref b), (1, .ref (ad 0)), (2, .ref (am 0)), (3, .ref a3), (4, .int x4)]) (sim : Sim_note RR) (σ μ : MSt) (hR : RR σ μ) (H : Heap) (locs : List Loc) (hw : k_W G (fun σ => wC ad Y σ ++ (wM am Y μ ++ X)) A s.heap σ H locs) (next : ∀ σ1 μ1, RR σ1 μ1 → ∀ H locs, k_W G (fun μ => wC ad Y σ1 ++ (wM am Y μ ++ X)) A s.heap μ1 H locs → W p l e room_1 s m args below meth c H locs cells slots Q (F0 m 1352 ls [])) : W p l e room_1 s m args below meth c H locs cells slots Q (F0 m 1025 ls []) := by
  have hx := C.1
  have hb := C.2.1
  have hts := C.2.2.2.2.2.1
  refine lv_aload_n hx hb dL_law_1025 rfl (lv_at hl 1 rfl) ?_
  refine lv_aload_n hx hb dL_law_1026 rfl (lv_at hl 0 rfl) ?_
  refine lv_iload hx hb dL_law_1027 (lv_at hl 4 rfl) ?_
  refine lv_iconst (v := (1 : Int32)) hx hb dL_law_1029 (by decide) ?_
  refine lv_iadd hx hb dL_law_1030 ?_
  refine va_sld hx hb hX hbl hbA hw.2.2 (i1) dL_law_1031 ?_
  refine lv_aload_n hx hb dL_law_1032 rfl (lv_at hl 0 rfl) ?_
  refine lv_iload hx hb dL_law_1033 (lv_at hl 4 rfl) ?_
  refine lv_iconst (v := (2 : Int32)) hx hb dL_law_1035 (by decide) ?_
  refine lv_iadd hx hb dL_law_1036 ?_
  refine va_sld hx hb hX hbl hbA hw.2.2 (i2) dL_law_1037 ?_
  refine lv_aload_n hx hb dL_law_1038 rfl (lv_at hl 0 rfl) ?_
  refine lv_iload hx hb dL_law_1039 (lv_at hl 4 rfl) ?_
  refine lv_iconst (v := (3 : Int32)) hx hb dL_law_1041 (by decide) ?_
  refine lv_iadd hx hb dL_law_1042 ?_
  refine va_sld hx hb hX hbl hbA hw.2.2 (i3) dL_law_1043 ?_
  refine lv_if_eq (tgt := 1051) hx hb dL_law_1044 (by decide) (fun hz => ?_) (fun hz => ?_)
  · refine lv_iconst (v := (0 : Int32)) hx hb dL_law_1051 (by decide) ?_
    obtain ⟨r, σ1, μ1, f1, f2, hR1⟩ := sim σ μ (xs (x4 + (1 : Int32)).toNatClampNeg) (xs (x4 + (2 : Int32)).toNatClampNeg) (0 : Int32) (by decide) hR
    refine k_callViL C hw (c_X11_note l G Y (fun σ => wC ad Y σ ++ (wM am Y μ ++ X)) ad (layC ad Y _) (xs (x4 + (1 : Int32)).toNatClampNeg) (xs (x4 + (2 : Int32)).toNatClampNeg) (0 : Int32) σ r σ1 f1) (cwV 3 hts gL_law_X11_note rfl rfl rfl (by decide +kernel) ⟨Nat.le_of_ble_eq_true rfl, Nat.le_of_ble_eq_true rfl⟩) (k_recv C hw (LC_0 (layC ad Y _)) rfl) rfl hl.1 rfl (Nat.le_of_ble_eq_true rfl) hcs dL_law_1052 (fun H locs hw => ?_)
    have hw : k_W G (fun μ => wC ad Y σ1 ++ (wM am Y μ ++ X)) A s.heap μ H locs := hw
    refine lv_aload_n hx hb dL_law_1055 rfl (lv_at hl 2 rfl) ?_
    refine lv_aload_n hx hb dL_law_1056 rfl (lv_at hl 0 rfl) ?_
    refine lv_iload hx hb dL_law_1057 (lv_at hl 4 rfl) ?_
    refine lv_iconst (v := (1 : Int32)) hx hb dL_law_1059 (by decide) ?_
    refine lv_iadd hx hb dL_law_1060 ?_
    refine va_sld hx hb hX hbl hbA hw.2.2 (i1) dL_law_1061 ?_
    refine lv_aload_n hx hb dL_law_1062 rfl (lv_at hl 0 rfl) ?_
    refine lv_iload hx hb dL_law_1063 (lv_at hl 4 rfl) ?_
    refine lv_iconst (v := (2 : Int32)) hx hb dL_law_1065 (by decide) ?_
    refine lv_iadd hx hb dL_law_1066 ?_
    refine va_sld hx hb hX hbl hbA hw.2.2 (i2) dL_law_1067 ?_
    refine lv_aload_n hx hb dL_law_1068 rfl (lv_at hl 0 rfl) ?_
    refine lv_iload hx hb dL_law_1069 (lv_at hl 4 rfl) ?_
    refine lv_iconst (v := (3 : Int32)) hx hb dL_law_1071 (by decide) ?_
    refine lv_iadd hx hb dL_law_1072 ?_
    refine va_sld hx hb hX hbl hbA hw.2.2 (i3) dL_law_1073 ?_
    refine lv_if_eq (tgt := 1081) hx hb dL_law_1074 (by decide) (fun _ => ?_) (fun h => absurd hz h)
    refine lv_iconst (v := (0 : Int32)) hx hb dL_law_1081 (by decide) ?_
    refine k_callViL C hw (c_X12_note l G Y (fun μ => wC ad Y σ1 ++ (wM am Y μ ++ X)) am (layM am Y (wC ad Y σ1) X) (xs (x4 + (1 : Int32)).toNatClampNeg) (xs (x4 + (2 : Int32)).toNatClampNeg) (0 : Int32) μ r μ1 f2) (cwV 3 hts gL_law_X12_note rfl rfl rfl (by decide +kernel) ⟨Nat.le_of_ble_eq_true rfl, Nat.le_of_ble_eq_true rfl⟩) (k_recv C hw (LM_0 (layM am Y (wC ad Y σ1) X)) rfl) rfl hl.1 rfl (Nat.le_of_ble_eq_true rfl) hcs dL_law_1082 (fun H locs hw => ?_)
    exact lv_icmp_eq (tgt := 1352) hx hb dL_law_1085 (by decide) (fun _ => next σ1 μ1 hR1 H locs hw) (fun h => absurd rfl h)
  · refine lv_iconst (v := (1 : Int32)) hx hb dL_law_1047 (by decide) ?_
    refine lv_goto (tgt := 1052) hx hb dL_law_1048 (by decide) ?_
    obtain ⟨r, σ1, μ1, f1, f2, hR1⟩ := sim σ μ (xs (x4 + (1 : Int32)).toNatClampNeg) (xs (x4 + (2 : Int32)).toNatClampNeg) (1 : Int32) (by decide) hR
    refine k_callViL C hw (c_X11_note l G Y (fun σ => wC ad Y σ ++ (wM am Y μ ++ X)) ad (layC ad Y _) (xs (x4 + (1 : Int32)).toNatClampNeg) (xs (x4 + (2 : Int32)).toNatClampNeg) (1 : Int32) σ r σ1 f1) (cwV 3 hts gL_law_X11_note rfl rfl rfl (by decide +kernel) ⟨Nat.le_of_ble_eq_true rfl, Nat.le_of_ble_eq_true rfl⟩) (k_recv C hw (LC_0 (layC ad Y _)) rfl) rfl hl.1 rfl (Nat.le_of_ble_eq_true rfl) hcs dL_law_1052 (fun H locs hw => ?_)
    have hw : k_W G (fun μ => wC ad Y σ1 ++ (wM am Y μ ++ X)) A s.heap μ H locs := hw
    refine lv_aload_n hx hb dL_law_1055 rfl (lv_at hl 2 rfl) ?_
    refine lv_aload_n hx hb dL_law_1056 rfl (lv_at hl 0 rfl) ?_
    refine lv_iload hx hb dL_law_1057 (lv_at hl 4 rfl) ?_
    refine lv_iconst (v := (1 : Int32)) hx hb dL_law_1059 (by decide) ?_
    refine lv_iadd hx hb dL_law_1060 ?_
    refine va_sld hx hb hX hbl hbA hw.2.2 (i1) dL_law_1061 ?_
    refine lv_aload_n hx hb dL_law_1062 rfl (lv_at hl 0 rfl) ?_
    refine lv_iload hx hb dL_law_1063 (lv_at hl 4 rfl) ?_
    refine lv_iconst (v := (2 : Int32)) hx hb dL_law_1065 (by decide) ?_
    refine lv_iadd hx hb dL_law_1066 ?_
    refine va_sld hx hb hX hbl hbA hw.2.2 (i2) dL_law_1067 ?_
    refine lv_aload_n hx hb dL_law_1068 rfl (lv_at hl 0 rfl) ?_
    refine lv_iload hx hb dL_law_1069 (lv_at hl 4 rfl) ?_
    refine lv_iconst (v := (3 : Int32)) hx hb dL_law_1071 (by decide) ?_
    refine lv_iadd hx hb dL_law_1072 ?_
    refine va_sld hx hb hX hbl hbA hw.2.2 (i3) dL_law_1073 ?_
    refine lv_if_eq (tgt := 1081) hx hb dL_law_1074 (by decide) (fun h => absurd h hz) (fun _ => ?_)
    refine lv_iconst (v := (1 : Int32)) hx hb dL_law_1077 (by decide) ?_
    refine lv_goto (tgt := 1082) hx hb dL_law_1078 (by decide) ?_
    refine k_callViL C hw (c_X12_note l G Y (fun μ => wC ad Y σ1 ++ (wM am Y μ ++ X)) am (layM am Y (wC ad Y σ1) X) (xs (x4 + (1 : Int32)).toNatClampNeg) (xs (x4 + (2 : Int32)).toNatClampNeg) (1 : Int32) μ r μ1 f2) (cwV 3 hts gL_law_X12_note rfl rfl rfl (by decide +kernel) ⟨Nat.le_of_ble_eq_true rfl, Nat.le_of_ble_eq_true rfl⟩) (k_recv C hw (LM_0 (layM am Y (wC ad Y σ1) X)) rfl) rfl hl.1 rfl (Nat.le_of_ble_eq_true rfl) hcs dL_law_1082 (fun H locs hw => ?_)
    exact lv_icmp_eq (tgt := 1352) hx hb dL_law_1085 (by decide) (fun _ => next σ1 μ1 hR1 H locs hw) (fun h => absurd rfl h)
set_option maxHeartbeats 4000000 in
set_option maxRecDepth 100000 in
theorem lc_25 {p : Program} {l : Launch} {e : Env} {s : State} {m : MethodId} {args : Array Value} {below : List Frame} {meth : Method} {c : Code} {A : Nat → Prop} {G : va_G} {Y : CY} {cells slots b L : Nat} {xs : Nat → Int32} {Q : State → Prop} (RR : MSt → MSt → Prop) (C : k_C p s m args meth c code RL ret wsL_law 7 G Y A) (hX : va_X b L xs s s.heap) (hbl : b < s.heap.size) (hbA : ¬ A b) (ad am : Nat → Nat) (X : va_W) (hcs : cells ≤ room_1.cells ∧ slots ≤ room_1.slots) (x4 : Int32) (i1 : vp_in (x4 + 1) L) (i2 : vp_in (x4 + 2) L) (i3 : vp_in (x4 + 3) L) (i4 : vp_in (x4 + 4) L) (i5 : vp_in (x4 + 5) L) (a3 : Nat) (ls : Array Slot) (hl : lv_has ls 7 [(0, .ref b), (1, .ref (ad 0)), (2, .ref (am 0)), (3, .ref a3), (4, .int x4)]) (sim : Sim_out RR) (σ μ : MSt) (hR : RR σ μ) (H : Heap) (locs : List Loc) (hw : k_W G (fun σ => wC ad Y σ ++ (wM am Y μ ++ X)) A s.heap σ H locs) (next : ∀ σ1 μ1, RR σ1 μ1 → ∀ H locs, k_W G (fun μ => wC ad Y σ1 ++ (wM am Y μ ++ X)) A s.heap μ1 H locs → W p l e room_1 s m args below meth c H locs cells slots Q (F0 m 1352 ls [])) : W p l e room_1 s m args below meth c H locs cells slots Q (F0 m 1090 ls []) := by
  have hx := C.1
  have hb := C.2.1
  have hts := C.2.2.2.2.2.1
  refine lv_aload_n hx hb dL_law_1090 rfl (lv_at hl 1 rfl) ?_
  refine lv_aload_n hx hb dL_law_1091 rfl (lv_at hl 0 rfl) ?_
  refine lv_iload hx hb dL_law_1092 (lv_at hl 4 rfl) ?_
  refine lv_iconst (v := (1 : Int32)) hx hb dL_law_1094 (by decide) ?_
  refine lv_iadd hx hb dL_law_1095 ?_
  refine va_sld hx hb hX hbl hbA hw.2.2 (i1) dL_law_1096 ?_
  obtain ⟨r, σ1, μ1, f1, f2, hR1⟩ := sim σ μ (xs (x4 + (1 : Int32)).toNatClampNeg) hR
  refine k_callViL C hw (c_X11_out l G Y (fun σ => wC ad Y σ ++ (wM am Y μ ++ X)) ad (layC ad Y _) (xs (x4 + (1 : Int32)).toNatClampNeg) σ r σ1 f1) (cwV 1 hts gL_law_X11_out rfl rfl rfl (by decide +kernel) ⟨Nat.le_of_ble_eq_true rfl, Nat.le_of_ble_eq_true rfl⟩) (k_recv C hw (LC_0 (layC ad Y _)) rfl) rfl hl.1 rfl (Nat.le_of_ble_eq_true rfl) hcs dL_law_1097 (fun H locs hw => ?_)
  have hw : k_W G (fun μ => wC ad Y σ1 ++ (wM am Y μ ++ X)) A s.heap μ H locs := hw
  refine lv_aload_n hx hb dL_law_1100 rfl (lv_at hl 2 rfl) ?_
  refine lv_aload_n hx hb dL_law_1101 rfl (lv_at hl 0 rfl) ?_
  refine lv_iload hx hb dL_law_1102 (lv_at hl 4 rfl) ?_
  refine lv_iconst (v := (1 : Int32)) hx hb dL_law_1104 (by decide) ?_
  refine lv_iadd hx hb dL_law_1105 ?_
  refine va_sld hx hb hX hbl hbA hw.2.2 (i1) dL_law_1106 ?_
  refine k_callViL C hw (c_X12_out l G Y (fun μ => wC ad Y σ1 ++ (wM am Y μ ++ X)) am (layM am Y (wC ad Y σ1) X) (xs (x4 + (1 : Int32)).toNatClampNeg) μ r μ1 f2) (cwV 1 hts gL_law_X12_out rfl rfl rfl (by decide +kernel) ⟨Nat.le_of_ble_eq_true rfl, Nat.le_of_ble_eq_true rfl⟩) (k_recv C hw (LM_0 (layM am Y (wC ad Y σ1) X)) rfl) rfl hl.1 rfl (Nat.le_of_ble_eq_true rfl) hcs dL_law_1107 (fun H locs hw => ?_)
  exact lv_icmp_eq (tgt := 1352) hx hb dL_law_1110 (by decide) (fun _ => next σ1 μ1 hR1 H locs hw) (fun h => absurd rfl h)
set_option maxHeartbeats 4000000 in
set_option maxRecDepth 100000 in
theorem lc_26 {p : Program} {l : Launch} {e : Env} {s : State} {m : MethodId} {args : Array Value} {below : List Frame} {meth : Method} {c : Code} {A : Nat → Prop} {G : va_G} {Y : CY} {cells slots b L : Nat} {xs : Nat → Int32} {Q : State → Prop} (RR : MSt → MSt → Prop) (C : k_C p s m args meth c code RL ret wsL_law 7 G Y A) (hX : va_X b L xs s s.heap) (hbl : b < s.heap.size) (hbA : ¬ A b) (ad am : Nat → Nat) (X : va_W) (hcs : cells ≤ room_1.cells ∧ slots ≤ room_1.slots) (x4 : Int32) (i1 : vp_in (x4 + 1) L) (i2 : vp_in (x4 + 2) L) (i3 : vp_in (x4 + 3) L) (i4 : vp_in (x4 + 4) L) (i5 : vp_in (x4 + 5) L) (a3 : Nat) (ls : Array Slot) (hl : lv_has ls 7 [(0, .ref b), (1, .ref (ad 0)), (2, .ref (am 0)), (3, .ref a3), (4, .int x4)]) (sim : Sim_known RR) (σ μ : MSt) (hR : RR σ μ) (H : Heap) (locs : List Loc) (hw : k_W G (fun σ => wC ad Y σ ++ (wM am Y μ ++ X)) A s.heap σ H locs) (next : ∀ σ1 μ1, RR σ1 μ1 → ∀ H locs, k_W G (fun μ => wC ad Y σ1 ++ (wM am Y μ ++ X)) A s.heap μ1 H locs → W p l e room_1 s m args below meth c H locs cells slots Q (F0 m 1352 ls [])) : W p l e room_1 s m args below meth c H locs cells slots Q (F0 m 1115 ls []) := by
  have hx := C.1
  have hb := C.2.1
  have hts := C.2.2.2.2.2.1
  refine lv_aload_n hx hb dL_law_1115 rfl (lv_at hl 1 rfl) ?_
  refine lv_aload_n hx hb dL_law_1116 rfl (lv_at hl 0 rfl) ?_
  refine lv_iload hx hb dL_law_1117 (lv_at hl 4 rfl) ?_
  refine lv_iconst (v := (1 : Int32)) hx hb dL_law_1119 (by decide) ?_
  refine lv_iadd hx hb dL_law_1120 ?_
  refine va_sld hx hb hX hbl hbA hw.2.2 (i1) dL_law_1121 ?_
  obtain ⟨r, σ1, μ1, f1, f2, hR1⟩ := sim σ μ (xs (x4 + (1 : Int32)).toNatClampNeg) hR
  refine k_callViL C hw (c_X11_known l G Y (fun σ => wC ad Y σ ++ (wM am Y μ ++ X)) ad (layC ad Y _) (xs (x4 + (1 : Int32)).toNatClampNeg) σ r σ1 f1) (cwV 1 hts gL_law_X11_known rfl rfl rfl (by decide +kernel) ⟨Nat.le_of_ble_eq_true rfl, Nat.le_of_ble_eq_true rfl⟩) (k_recv C hw (LC_0 (layC ad Y _)) rfl) rfl hl.1 rfl (Nat.le_of_ble_eq_true rfl) hcs dL_law_1122 (fun H locs hw => ?_)
  have hw : k_W G (fun μ => wC ad Y σ1 ++ (wM am Y μ ++ X)) A s.heap μ H locs := hw
  refine lv_aload_n hx hb dL_law_1125 rfl (lv_at hl 2 rfl) ?_
  refine lv_aload_n hx hb dL_law_1126 rfl (lv_at hl 0 rfl) ?_
  refine lv_iload hx hb dL_law_1127 (lv_at hl 4 rfl) ?_
  refine lv_iconst (v := (1 : Int32)) hx hb dL_law_1129 (by decide) ?_
  refine lv_iadd hx hb dL_law_1130 ?_
  refine va_sld hx hb hX hbl hbA hw.2.2 (i1) dL_law_1131 ?_
  refine k_callViL C hw (c_X12_known l G Y (fun μ => wC ad Y σ1 ++ (wM am Y μ ++ X)) am (layM am Y (wC ad Y σ1) X) (xs (x4 + (1 : Int32)).toNatClampNeg) μ r μ1 f2) (cwV 1 hts gL_law_X12_known rfl rfl rfl (by decide +kernel) ⟨Nat.le_of_ble_eq_true rfl, Nat.le_of_ble_eq_true rfl⟩) (k_recv C hw (LM_0 (layM am Y (wC ad Y σ1) X)) rfl) rfl hl.1 rfl (Nat.le_of_ble_eq_true rfl) hcs dL_law_1132 (fun H locs hw => ?_)
  exact lv_icmp_eq (tgt := 1352) hx hb dL_law_1135 (by decide) (fun _ => next σ1 μ1 hR1 H locs hw) (fun h => absurd rfl h)
set_option maxHeartbeats 4000000 in
set_option maxRecDepth 100000 in
theorem lc_27 {p : Program} {l : Launch} {e : Env} {s : State} {m : MethodId} {args : Array Value} {below : List Frame} {meth : Method} {c : Code} {A : Nat → Prop} {G : va_G} {Y : CY} {cells slots b L : Nat} {xs : Nat → Int32} {Q : State → Prop} (RR : MSt → MSt → Prop) (C : k_C p s m args meth c code RL ret wsL_law 7 G Y A) (hX : va_X b L xs s s.heap) (hbl : b < s.heap.size) (hbA : ¬ A b) (ad am : Nat → Nat) (X : va_W) (hcs : cells ≤ room_1.cells ∧ slots ≤ room_1.slots) (x4 : Int32) (i1 : vp_in (x4 + 1) L) (i2 : vp_in (x4 + 2) L) (i3 : vp_in (x4 + 3) L) (i4 : vp_in (x4 + 4) L) (i5 : vp_in (x4 + 5) L) (a3 : Nat) (ls : Array Slot) (hl : lv_has ls 7 [(0, .ref b), (1, .ref (ad 0)), (2, .ref (am 0)), (3, .ref a3), (4, .int x4)]) (sim : Sim_was RR) (σ μ : MSt) (hR : RR σ μ) (H : Heap) (locs : List Loc) (hw : k_W G (fun σ => wC ad Y σ ++ (wM am Y μ ++ X)) A s.heap σ H locs) (next : ∀ σ1 μ1, RR σ1 μ1 → ∀ H locs, k_W G (fun μ => wC ad Y σ1 ++ (wM am Y μ ++ X)) A s.heap μ1 H locs → W p l e room_1 s m args below meth c H locs cells slots Q (F0 m 1352 ls [])) : W p l e room_1 s m args below meth c H locs cells slots Q (F0 m 1140 ls []) := by
  have hx := C.1
  have hb := C.2.1
  have hts := C.2.2.2.2.2.1
  refine lv_aload_n hx hb dL_law_1140 rfl (lv_at hl 1 rfl) ?_
  refine lv_aload_n hx hb dL_law_1141 rfl (lv_at hl 0 rfl) ?_
  refine lv_iload hx hb dL_law_1142 (lv_at hl 4 rfl) ?_
  refine lv_iconst (v := (1 : Int32)) hx hb dL_law_1144 (by decide) ?_
  refine lv_iadd hx hb dL_law_1145 ?_
  refine va_sld hx hb hX hbl hbA hw.2.2 (i1) dL_law_1146 ?_
  obtain ⟨r, σ1, μ1, f1, f2, hR1⟩ := sim σ μ (xs (x4 + (1 : Int32)).toNatClampNeg) hR
  refine k_callViL C hw (c_X11_was l G Y (fun σ => wC ad Y σ ++ (wM am Y μ ++ X)) ad (layC ad Y _) (xs (x4 + (1 : Int32)).toNatClampNeg) σ r σ1 f1) (cwV 1 hts gL_law_X11_was rfl rfl rfl (by decide +kernel) ⟨Nat.le_of_ble_eq_true rfl, Nat.le_of_ble_eq_true rfl⟩) (k_recv C hw (LC_0 (layC ad Y _)) rfl) rfl hl.1 rfl (Nat.le_of_ble_eq_true rfl) hcs dL_law_1147 (fun H locs hw => ?_)
  have hw : k_W G (fun μ => wC ad Y σ1 ++ (wM am Y μ ++ X)) A s.heap μ H locs := hw
  refine lv_aload_n hx hb dL_law_1150 rfl (lv_at hl 2 rfl) ?_
  refine lv_aload_n hx hb dL_law_1151 rfl (lv_at hl 0 rfl) ?_
  refine lv_iload hx hb dL_law_1152 (lv_at hl 4 rfl) ?_
  refine lv_iconst (v := (1 : Int32)) hx hb dL_law_1154 (by decide) ?_
  refine lv_iadd hx hb dL_law_1155 ?_
  refine va_sld hx hb hX hbl hbA hw.2.2 (i1) dL_law_1156 ?_
  refine k_callViL C hw (c_X12_was l G Y (fun μ => wC ad Y σ1 ++ (wM am Y μ ++ X)) am (layM am Y (wC ad Y σ1) X) (xs (x4 + (1 : Int32)).toNatClampNeg) μ r μ1 f2) (cwV 1 hts gL_law_X12_was rfl rfl rfl (by decide +kernel) ⟨Nat.le_of_ble_eq_true rfl, Nat.le_of_ble_eq_true rfl⟩) (k_recv C hw (LM_0 (layM am Y (wC ad Y σ1) X)) rfl) rfl hl.1 rfl (Nat.le_of_ble_eq_true rfl) hcs dL_law_1157 (fun H locs hw => ?_)
  exact lv_icmp_eq (tgt := 1352) hx hb dL_law_1160 (by decide) (fun _ => next σ1 μ1 hR1 H locs hw) (fun h => absurd rfl h)
set_option maxHeartbeats 4000000 in
set_option maxRecDepth 100000 in
theorem lc_28 {p : Program} {l : Launch} {e : Env} {s : State} {m : MethodId} {args : Array Value} {below : List Frame} {meth : Method} {c : Code} {A : Nat → Prop} {G : va_G} {Y : CY} {cells slots b L : Nat} {xs : Nat → Int32} {Q : State → Prop} (RR : MSt → MSt → Prop) (C : k_C p s m args meth c code RL ret wsL_law 7 G Y A) (hX : va_X b L xs s s.heap) (hbl : b < s.heap.size) (hbA : ¬ A b) (ad am : Nat → Nat) (X : va_W) (hcs : cells ≤ room_1.cells ∧ slots ≤ room_1.slots) (x4 : Int32) (i1 : vp_in (x4 + 1) L) (i2 : vp_in (x4 + 2) L) (i3 : vp_in (x4 + 3) L) (i4 : vp_in (x4 + 4) L) (i5 : vp_in (x4 + 5) L) (a3 : Nat) (ls : Array Slot) (hl : lv_has ls 7 [(0, .ref b), (1, .ref (ad 0)), (2, .ref (am 0)), (3, .ref a3), (4, .int x4)]) (sim : Sim_tells RR) (σ μ : MSt) (hR : RR σ μ) (H : Heap) (locs : List Loc) (hw : k_W G (fun σ => wC ad Y σ ++ (wM am Y μ ++ X)) A s.heap σ H locs) (next : ∀ σ1 μ1, RR σ1 μ1 → ∀ H locs, k_W G (fun μ => wC ad Y σ1 ++ (wM am Y μ ++ X)) A s.heap μ1 H locs → W p l e room_1 s m args below meth c H locs cells slots Q (F0 m 1352 ls [])) : W p l e room_1 s m args below meth c H locs cells slots Q (F0 m 1165 ls []) := by
  have hx := C.1
  have hb := C.2.1
  have hts := C.2.2.2.2.2.1
  refine lv_aload_n hx hb dL_law_1165 rfl (lv_at hl 1 rfl) ?_
  refine lv_aload_n hx hb dL_law_1166 rfl (lv_at hl 0 rfl) ?_
  refine lv_iload hx hb dL_law_1167 (lv_at hl 4 rfl) ?_
  refine lv_iconst (v := (1 : Int32)) hx hb dL_law_1169 (by decide) ?_
  refine lv_iadd hx hb dL_law_1170 ?_
  refine va_sld hx hb hX hbl hbA hw.2.2 (i1) dL_law_1171 ?_
  obtain ⟨r, σ1, μ1, f1, f2, hR1⟩ := sim σ μ (xs (x4 + (1 : Int32)).toNatClampNeg) hR
  refine k_callViL C hw (c_X11_tells l G Y (fun σ => wC ad Y σ ++ (wM am Y μ ++ X)) ad (layC ad Y _) (xs (x4 + (1 : Int32)).toNatClampNeg) σ r σ1 f1) (cwV 1 hts gL_law_X11_tells rfl rfl rfl (by decide +kernel) ⟨Nat.le_of_ble_eq_true rfl, Nat.le_of_ble_eq_true rfl⟩) (k_recv C hw (LC_0 (layC ad Y _)) rfl) rfl hl.1 rfl (Nat.le_of_ble_eq_true rfl) hcs dL_law_1172 (fun H locs hw => ?_)
  have hw : k_W G (fun μ => wC ad Y σ1 ++ (wM am Y μ ++ X)) A s.heap μ H locs := hw
  refine lv_aload_n hx hb dL_law_1175 rfl (lv_at hl 2 rfl) ?_
  refine lv_aload_n hx hb dL_law_1176 rfl (lv_at hl 0 rfl) ?_
  refine lv_iload hx hb dL_law_1177 (lv_at hl 4 rfl) ?_
  refine lv_iconst (v := (1 : Int32)) hx hb dL_law_1179 (by decide) ?_
  refine lv_iadd hx hb dL_law_1180 ?_
  refine va_sld hx hb hX hbl hbA hw.2.2 (i1) dL_law_1181 ?_
  refine k_callViL C hw (c_X12_tells l G Y (fun μ => wC ad Y σ1 ++ (wM am Y μ ++ X)) am (layM am Y (wC ad Y σ1) X) (xs (x4 + (1 : Int32)).toNatClampNeg) μ r μ1 f2) (cwV 1 hts gL_law_X12_tells rfl rfl rfl (by decide +kernel) ⟨Nat.le_of_ble_eq_true rfl, Nat.le_of_ble_eq_true rfl⟩) (k_recv C hw (LM_0 (layM am Y (wC ad Y σ1) X)) rfl) rfl hl.1 rfl (Nat.le_of_ble_eq_true rfl) hcs dL_law_1182 (fun H locs hw => ?_)
  exact lv_icmp_eq (tgt := 1352) hx hb dL_law_1185 (by decide) (fun _ => next σ1 μ1 hR1 H locs hw) (fun h => absurd rfl h)
set_option maxHeartbeats 4000000 in
set_option maxRecDepth 100000 in
theorem lc_29 {p : Program} {l : Launch} {e : Env} {s : State} {m : MethodId} {args : Array Value} {below : List Frame} {meth : Method} {c : Code} {A : Nat → Prop} {G : va_G} {Y : CY} {cells slots b L : Nat} {xs : Nat → Int32} {Q : State → Prop} (RR : MSt → MSt → Prop) (C : k_C p s m args meth c code RL ret wsL_law 7 G Y A) (hX : va_X b L xs s s.heap) (hbl : b < s.heap.size) (hbA : ¬ A b) (ad am : Nat → Nat) (X : va_W) (hcs : cells ≤ room_1.cells ∧ slots ≤ room_1.slots) (x4 : Int32) (i1 : vp_in (x4 + 1) L) (i2 : vp_in (x4 + 2) L) (i3 : vp_in (x4 + 3) L) (i4 : vp_in (x4 + 4) L) (i5 : vp_in (x4 + 5) L) (a3 : Nat) (ls : Array Slot) (hl : lv_has ls 7 [(0, .ref b), (1, .ref (ad 0)), (2, .ref (am 0)), (3, .ref a3), (4, .int x4)]) (sim : Sim_chance RR) (σ μ : MSt) (hR : RR σ μ) (H : Heap) (locs : List Loc) (hw : k_W G (fun σ => wC ad Y σ ++ (wM am Y μ ++ X)) A s.heap σ H locs) (next : ∀ σ1 μ1, RR σ1 μ1 → ∀ H locs, k_W G (fun μ => wC ad Y σ1 ++ (wM am Y μ ++ X)) A s.heap μ1 H locs → W p l e room_1 s m args below meth c H locs cells slots Q (F0 m 1352 ls [])) : W p l e room_1 s m args below meth c H locs cells slots Q (F0 m 1190 ls []) := by
  have hx := C.1
  have hb := C.2.1
  have hts := C.2.2.2.2.2.1
  refine lv_aload_n hx hb dL_law_1190 rfl (lv_at hl 1 rfl) ?_
  refine lv_aload_n hx hb dL_law_1191 rfl (lv_at hl 0 rfl) ?_
  refine lv_iload hx hb dL_law_1192 (lv_at hl 4 rfl) ?_
  refine lv_iconst (v := (1 : Int32)) hx hb dL_law_1194 (by decide) ?_
  refine lv_iadd hx hb dL_law_1195 ?_
  refine va_sld hx hb hX hbl hbA hw.2.2 (i1) dL_law_1196 ?_
  refine lv_aload_n hx hb dL_law_1197 rfl (lv_at hl 0 rfl) ?_
  refine lv_iload hx hb dL_law_1198 (lv_at hl 4 rfl) ?_
  refine lv_iconst (v := (2 : Int32)) hx hb dL_law_1200 (by decide) ?_
  refine lv_iadd hx hb dL_law_1201 ?_
  refine va_sld hx hb hX hbl hbA hw.2.2 (i2) dL_law_1202 ?_
  refine lv_aload_n hx hb dL_law_1203 rfl (lv_at hl 0 rfl) ?_
  refine lv_iload hx hb dL_law_1204 (lv_at hl 4 rfl) ?_
  refine lv_iconst (v := (3 : Int32)) hx hb dL_law_1206 (by decide) ?_
  refine lv_iadd hx hb dL_law_1207 ?_
  refine va_sld hx hb hX hbl hbA hw.2.2 (i3) dL_law_1208 ?_
  obtain ⟨r, σ1, μ1, f1, f2, hR1⟩ := sim σ μ (xs (x4 + (1 : Int32)).toNatClampNeg) (xs (x4 + (2 : Int32)).toNatClampNeg) (xs (x4 + (3 : Int32)).toNatClampNeg) hR
  refine k_callViL C hw (c_X11_chance l G Y (fun σ => wC ad Y σ ++ (wM am Y μ ++ X)) ad (layC ad Y _) (xs (x4 + (1 : Int32)).toNatClampNeg) (xs (x4 + (2 : Int32)).toNatClampNeg) (xs (x4 + (3 : Int32)).toNatClampNeg) σ r σ1 f1) (cwV 3 hts gL_law_X11_chance rfl rfl rfl (by decide +kernel) ⟨Nat.le_of_ble_eq_true rfl, Nat.le_of_ble_eq_true rfl⟩) (k_recv C hw (LC_0 (layC ad Y _)) rfl) rfl hl.1 rfl (Nat.le_of_ble_eq_true rfl) hcs dL_law_1209 (fun H locs hw => ?_)
  have hw : k_W G (fun μ => wC ad Y σ1 ++ (wM am Y μ ++ X)) A s.heap μ H locs := hw
  refine lv_aload_n hx hb dL_law_1212 rfl (lv_at hl 2 rfl) ?_
  refine lv_aload_n hx hb dL_law_1213 rfl (lv_at hl 0 rfl) ?_
  refine lv_iload hx hb dL_law_1214 (lv_at hl 4 rfl) ?_
  refine lv_iconst (v := (1 : Int32)) hx hb dL_law_1216 (by decide) ?_
  refine lv_iadd hx hb dL_law_1217 ?_
  refine va_sld hx hb hX hbl hbA hw.2.2 (i1) dL_law_1218 ?_
  refine lv_aload_n hx hb dL_law_1219 rfl (lv_at hl 0 rfl) ?_
  refine lv_iload hx hb dL_law_1220 (lv_at hl 4 rfl) ?_
  refine lv_iconst (v := (2 : Int32)) hx hb dL_law_1222 (by decide) ?_
  refine lv_iadd hx hb dL_law_1223 ?_
  refine va_sld hx hb hX hbl hbA hw.2.2 (i2) dL_law_1224 ?_
  refine lv_aload_n hx hb dL_law_1225 rfl (lv_at hl 0 rfl) ?_
  refine lv_iload hx hb dL_law_1226 (lv_at hl 4 rfl) ?_
  refine lv_iconst (v := (3 : Int32)) hx hb dL_law_1228 (by decide) ?_
  refine lv_iadd hx hb dL_law_1229 ?_
  refine va_sld hx hb hX hbl hbA hw.2.2 (i3) dL_law_1230 ?_
  refine k_callViL C hw (c_X12_chance l G Y (fun μ => wC ad Y σ1 ++ (wM am Y μ ++ X)) am (layM am Y (wC ad Y σ1) X) (xs (x4 + (1 : Int32)).toNatClampNeg) (xs (x4 + (2 : Int32)).toNatClampNeg) (xs (x4 + (3 : Int32)).toNatClampNeg) μ r μ1 f2) (cwV 3 hts gL_law_X12_chance rfl rfl rfl (by decide +kernel) ⟨Nat.le_of_ble_eq_true rfl, Nat.le_of_ble_eq_true rfl⟩) (k_recv C hw (LM_0 (layM am Y (wC ad Y σ1) X)) rfl) rfl hl.1 rfl (Nat.le_of_ble_eq_true rfl) hcs dL_law_1231 (fun H locs hw => ?_)
  exact lv_icmp_eq (tgt := 1352) hx hb dL_law_1234 (by decide) (fun _ => next σ1 μ1 hR1 H locs hw) (fun h => absurd rfl h)
set_option maxHeartbeats 4000000 in
set_option maxRecDepth 100000 in
theorem lc_30 {p : Program} {l : Launch} {e : Env} {s : State} {m : MethodId} {args : Array Value} {below : List Frame} {meth : Method} {c : Code} {A : Nat → Prop} {G : va_G} {Y : CY} {cells slots b L : Nat} {xs : Nat → Int32} {Q : State → Prop} (RR : MSt → MSt → Prop) (C : k_C p s m args meth c code RL ret wsL_law 7 G Y A) (hX : va_X b L xs s s.heap) (hbl : b < s.heap.size) (hbA : ¬ A b) (ad am : Nat → Nat) (X : va_W) (hcs : cells ≤ room_1.cells ∧ slots ≤ room_1.slots) (x4 : Int32) (i1 : vp_in (x4 + 1) L) (i2 : vp_in (x4 + 2) L) (i3 : vp_in (x4 + 3) L) (i4 : vp_in (x4 + 4) L) (i5 : vp_in (x4 + 5) L) (a3 : Nat) (ls : Array Slot) (hl : lv_has ls 7 [(0, .ref b), (1, .ref (ad 0)), (2, .ref (am 0)), (3, .ref a3), (4, .int x4)]) (sim : Sim_tried RR) (σ μ : MSt) (hR : RR σ μ) (H : Heap) (locs : List Loc) (hw : k_W G (fun σ => wC ad Y σ ++ (wM am Y μ ++ X)) A s.heap σ H locs) (next : ∀ σ1 μ1, RR σ1 μ1 → ∀ H locs, k_W G (fun μ => wC ad Y σ1 ++ (wM am Y μ ++ X)) A s.heap μ1 H locs → W p l e room_1 s m args below meth c H locs cells slots Q (F0 m 1352 ls [])) : W p l e room_1 s m args below meth c H locs cells slots Q (F0 m 1239 ls []) := by
  have hx := C.1
  have hb := C.2.1
  have hts := C.2.2.2.2.2.1
  refine lv_aload_n hx hb dL_law_1239 rfl (lv_at hl 1 rfl) ?_
  refine lv_aload_n hx hb dL_law_1240 rfl (lv_at hl 0 rfl) ?_
  refine lv_iload hx hb dL_law_1241 (lv_at hl 4 rfl) ?_
  refine lv_iconst (v := (1 : Int32)) hx hb dL_law_1243 (by decide) ?_
  refine lv_iadd hx hb dL_law_1244 ?_
  refine va_sld hx hb hX hbl hbA hw.2.2 (i1) dL_law_1245 ?_
  refine lv_aload_n hx hb dL_law_1246 rfl (lv_at hl 0 rfl) ?_
  refine lv_iload hx hb dL_law_1247 (lv_at hl 4 rfl) ?_
  refine lv_iconst (v := (2 : Int32)) hx hb dL_law_1249 (by decide) ?_
  refine lv_iadd hx hb dL_law_1250 ?_
  refine va_sld hx hb hX hbl hbA hw.2.2 (i2) dL_law_1251 ?_
  refine lv_aload_n hx hb dL_law_1252 rfl (lv_at hl 0 rfl) ?_
  refine lv_iload hx hb dL_law_1253 (lv_at hl 4 rfl) ?_
  refine lv_iconst (v := (3 : Int32)) hx hb dL_law_1255 (by decide) ?_
  refine lv_iadd hx hb dL_law_1256 ?_
  refine va_sld hx hb hX hbl hbA hw.2.2 (i3) dL_law_1257 ?_
  obtain ⟨r, σ1, μ1, f1, f2, hR1⟩ := sim σ μ (xs (x4 + (1 : Int32)).toNatClampNeg) (xs (x4 + (2 : Int32)).toNatClampNeg) (xs (x4 + (3 : Int32)).toNatClampNeg) hR
  refine k_callViL C hw (c_X11_tried l G Y (fun σ => wC ad Y σ ++ (wM am Y μ ++ X)) ad (layC ad Y _) (xs (x4 + (1 : Int32)).toNatClampNeg) (xs (x4 + (2 : Int32)).toNatClampNeg) (xs (x4 + (3 : Int32)).toNatClampNeg) σ r σ1 f1) (cwV 3 hts gL_law_X11_tried rfl rfl rfl (by decide +kernel) ⟨Nat.le_of_ble_eq_true rfl, Nat.le_of_ble_eq_true rfl⟩) (k_recv C hw (LC_0 (layC ad Y _)) rfl) rfl hl.1 rfl (Nat.le_of_ble_eq_true rfl) hcs dL_law_1258 (fun H locs hw => ?_)
  have hw : k_W G (fun μ => wC ad Y σ1 ++ (wM am Y μ ++ X)) A s.heap μ H locs := hw
  refine lv_aload_n hx hb dL_law_1261 rfl (lv_at hl 2 rfl) ?_
  refine lv_aload_n hx hb dL_law_1262 rfl (lv_at hl 0 rfl) ?_
  refine lv_iload hx hb dL_law_1263 (lv_at hl 4 rfl) ?_
  refine lv_iconst (v := (1 : Int32)) hx hb dL_law_1265 (by decide) ?_
  refine lv_iadd hx hb dL_law_1266 ?_
  refine va_sld hx hb hX hbl hbA hw.2.2 (i1) dL_law_1267 ?_
  refine lv_aload_n hx hb dL_law_1268 rfl (lv_at hl 0 rfl) ?_
  refine lv_iload hx hb dL_law_1269 (lv_at hl 4 rfl) ?_
  refine lv_iconst (v := (2 : Int32)) hx hb dL_law_1271 (by decide) ?_
  refine lv_iadd hx hb dL_law_1272 ?_
  refine va_sld hx hb hX hbl hbA hw.2.2 (i2) dL_law_1273 ?_
  refine lv_aload_n hx hb dL_law_1274 rfl (lv_at hl 0 rfl) ?_
  refine lv_iload hx hb dL_law_1275 (lv_at hl 4 rfl) ?_
  refine lv_iconst (v := (3 : Int32)) hx hb dL_law_1277 (by decide) ?_
  refine lv_iadd hx hb dL_law_1278 ?_
  refine va_sld hx hb hX hbl hbA hw.2.2 (i3) dL_law_1279 ?_
  refine k_callViL C hw (c_X12_tried l G Y (fun μ => wC ad Y σ1 ++ (wM am Y μ ++ X)) am (layM am Y (wC ad Y σ1) X) (xs (x4 + (1 : Int32)).toNatClampNeg) (xs (x4 + (2 : Int32)).toNatClampNeg) (xs (x4 + (3 : Int32)).toNatClampNeg) μ r μ1 f2) (cwV 3 hts gL_law_X12_tried rfl rfl rfl (by decide +kernel) ⟨Nat.le_of_ble_eq_true rfl, Nat.le_of_ble_eq_true rfl⟩) (k_recv C hw (LM_0 (layM am Y (wC ad Y σ1) X)) rfl) rfl hl.1 rfl (Nat.le_of_ble_eq_true rfl) hcs dL_law_1280 (fun H locs hw => ?_)
  exact lv_icmp_eq (tgt := 1352) hx hb dL_law_1283 (by decide) (fun _ => next σ1 μ1 hR1 H locs hw) (fun h => absurd rfl h)
set_option maxHeartbeats 4000000 in
set_option maxRecDepth 100000 in
theorem lc_31 {p : Program} {l : Launch} {e : Env} {s : State} {m : MethodId} {args : Array Value} {below : List Frame} {meth : Method} {c : Code} {A : Nat → Prop} {G : va_G} {Y : CY} {cells slots b L : Nat} {xs : Nat → Int32} {Q : State → Prop} (RR : MSt → MSt → Prop) (C : k_C p s m args meth c code RL ret wsL_law 7 G Y A) (hX : va_X b L xs s s.heap) (hbl : b < s.heap.size) (hbA : ¬ A b) (ad am : Nat → Nat) (X : va_W) (hcs : cells ≤ room_1.cells ∧ slots ≤ room_1.slots) (x4 : Int32) (i1 : vp_in (x4 + 1) L) (i2 : vp_in (x4 + 2) L) (i3 : vp_in (x4 + 3) L) (i4 : vp_in (x4 + 4) L) (i5 : vp_in (x4 + 5) L) (a3 : Nat) (ls : Array Slot) (hl : lv_has ls 7 [(0, .ref b), (1, .ref (ad 0)), (2, .ref (am 0)), (3, .ref a3), (4, .int x4)]) (sim : Sim_undo RR) (σ μ : MSt) (hR : RR σ μ) (H : Heap) (locs : List Loc) (hw : k_W G (fun σ => wC ad Y σ ++ (wM am Y μ ++ X)) A s.heap σ H locs) (next : ∀ σ1 μ1, RR σ1 μ1 → ∀ H locs, k_W G (fun μ => wC ad Y σ1 ++ (wM am Y μ ++ X)) A s.heap μ1 H locs → W p l e room_1 s m args below meth c H locs cells slots Q (F0 m 1352 ls [])) : W p l e room_1 s m args below meth c H locs cells slots Q (F0 m 1288 ls []) := by
  have hx := C.1
  have hb := C.2.1
  have hts := C.2.2.2.2.2.1
  refine lv_aload_n hx hb dL_law_1288 rfl (lv_at hl 1 rfl) ?_
  obtain ⟨r, σ1, μ1, f1, f2, hR1⟩ := sim σ μ  hR
  refine k_callViL C hw (c_X11_undo l G Y (fun σ => wC ad Y σ ++ (wM am Y μ ++ X)) ad (layC ad Y _)  σ r σ1 f1) (cwV 0 hts gL_law_X11_undo rfl rfl rfl (by decide +kernel) ⟨Nat.le_of_ble_eq_true rfl, Nat.le_of_ble_eq_true rfl⟩) (k_recv C hw (LC_0 (layC ad Y _)) rfl) rfl hl.1 rfl (Nat.le_of_ble_eq_true rfl) hcs dL_law_1289 (fun H locs hw => ?_)
  have hw : k_W G (fun μ => wC ad Y σ1 ++ (wM am Y μ ++ X)) A s.heap μ H locs := hw
  refine lv_aload_n hx hb dL_law_1292 rfl (lv_at hl 2 rfl) ?_
  refine k_callViL C hw (c_X12_undo l G Y (fun μ => wC ad Y σ1 ++ (wM am Y μ ++ X)) am (layM am Y (wC ad Y σ1) X)  μ r μ1 f2) (cwV 0 hts gL_law_X12_undo rfl rfl rfl (by decide +kernel) ⟨Nat.le_of_ble_eq_true rfl, Nat.le_of_ble_eq_true rfl⟩) (k_recv C hw (LM_0 (layM am Y (wC ad Y σ1) X)) rfl) rfl hl.1 rfl (Nat.le_of_ble_eq_true rfl) hcs dL_law_1293 (fun H locs hw => ?_)
  exact lv_icmp_eq (tgt := 1352) hx hb dL_law_1296 (by decide) (fun _ => next σ1 μ1 hR1 H locs hw) (fun h => absurd rfl h)
set_option maxHeartbeats 4000000 in
set_option maxRecDepth 100000 in
theorem lc_32 {p : Program} {l : Launch} {e : Env} {s : State} {m : MethodId} {args : Array Value} {below : List Frame} {meth : Method} {c : Code} {A : Nat → Prop} {G : va_G} {Y : CY} {cells slots b L : Nat} {xs : Nat → Int32} {Q : State → Prop} (RR : MSt → MSt → Prop) (C : k_C p s m args meth c code RL ret wsL_law 7 G Y A) (hX : va_X b L xs s s.heap) (hbl : b < s.heap.size) (hbA : ¬ A b) (ad am : Nat → Nat) (X : va_W) (hcs : cells ≤ room_1.cells ∧ slots ≤ room_1.slots) (x4 : Int32) (i1 : vp_in (x4 + 1) L) (i2 : vp_in (x4 + 2) L) (i3 : vp_in (x4 + 3) L) (i4 : vp_in (x4 + 4) L) (i5 : vp_in (x4 + 5) L) (a3 : Nat) (ls : Array Slot) (hl : lv_has ls 7 [(0, .ref b), (1, .ref (ad 0)), (2, .ref (am 0)), (3, .ref a3), (4, .int x4)]) (sim : Sim_keep RR) (σ μ : MSt) (hR : RR σ μ) (H : Heap) (locs : List Loc) (hw : k_W G (fun σ => wC ad Y σ ++ (wM am Y μ ++ X)) A s.heap σ H locs) (next : ∀ σ1 μ1, RR σ1 μ1 → ∀ H locs, k_W G (fun μ => wC ad Y σ1 ++ (wM am Y μ ++ X)) A s.heap μ1 H locs → W p l e room_1 s m args below meth c H locs cells slots Q (F0 m 1352 ls [])) : W p l e room_1 s m args below meth c H locs cells slots Q (F0 m 1301 ls []) := by
  have hx := C.1
  have hb := C.2.1
  have hts := C.2.2.2.2.2.1
  refine lv_aload_n hx hb dL_law_1301 rfl (lv_at hl 1 rfl) ?_
  obtain ⟨r, σ1, μ1, f1, f2, hR1⟩ := sim σ μ  hR
  refine k_callViL C hw (c_X11_keep l G Y (fun σ => wC ad Y σ ++ (wM am Y μ ++ X)) ad (layC ad Y _)  σ r σ1 f1) (cwV 0 hts gL_law_X11_keep rfl rfl rfl (by decide +kernel) ⟨Nat.le_of_ble_eq_true rfl, Nat.le_of_ble_eq_true rfl⟩) (k_recv C hw (LC_0 (layC ad Y _)) rfl) rfl hl.1 rfl (Nat.le_of_ble_eq_true rfl) hcs dL_law_1302 (fun H locs hw => ?_)
  have hw : k_W G (fun μ => wC ad Y σ1 ++ (wM am Y μ ++ X)) A s.heap μ H locs := hw
  refine lv_aload_n hx hb dL_law_1305 rfl (lv_at hl 2 rfl) ?_
  refine k_callViL C hw (c_X12_keep l G Y (fun μ => wC ad Y σ1 ++ (wM am Y μ ++ X)) am (layM am Y (wC ad Y σ1) X)  μ r μ1 f2) (cwV 0 hts gL_law_X12_keep rfl rfl rfl (by decide +kernel) ⟨Nat.le_of_ble_eq_true rfl, Nat.le_of_ble_eq_true rfl⟩) (k_recv C hw (LM_0 (layM am Y (wC ad Y σ1) X)) rfl) rfl hl.1 rfl (Nat.le_of_ble_eq_true rfl) hcs dL_law_1306 (fun H locs hw => ?_)
  exact lv_icmp_eq (tgt := 1352) hx hb dL_law_1309 (by decide) (fun _ => next σ1 μ1 hR1 H locs hw) (fun h => absurd rfl h)
set_option maxHeartbeats 4000000 in
set_option maxRecDepth 100000 in
theorem lc_33 {p : Program} {l : Launch} {e : Env} {s : State} {m : MethodId} {args : Array Value} {below : List Frame} {meth : Method} {c : Code} {A : Nat → Prop} {G : va_G} {Y : CY} {cells slots b L : Nat} {xs : Nat → Int32} {Q : State → Prop} (RR : MSt → MSt → Prop) (C : k_C p s m args meth c code RL ret wsL_law 7 G Y A) (hX : va_X b L xs s s.heap) (hbl : b < s.heap.size) (hbA : ¬ A b) (ad am : Nat → Nat) (X : va_W) (hcs : cells ≤ room_1.cells ∧ slots ≤ room_1.slots) (x4 : Int32) (i1 : vp_in (x4 + 1) L) (i2 : vp_in (x4 + 2) L) (i3 : vp_in (x4 + 3) L) (i4 : vp_in (x4 + 4) L) (i5 : vp_in (x4 + 5) L) (a3 : Nat) (ls : Array Slot) (hl : lv_has ls 7 [(0, .ref b), (1, .ref (ad 0)), (2, .ref (am 0)), (3, .ref a3), (4, .int x4)]) (sim : Sim_back RR) (σ μ : MSt) (hR : RR σ μ) (H : Heap) (locs : List Loc) (hw : k_W G (fun σ => wC ad Y σ ++ (wM am Y μ ++ X)) A s.heap σ H locs) (next : ∀ σ1 μ1, RR σ1 μ1 → ∀ H locs, k_W G (fun μ => wC ad Y σ1 ++ (wM am Y μ ++ X)) A s.heap μ1 H locs → W p l e room_1 s m args below meth c H locs cells slots Q (F0 m 1352 ls [])) : W p l e room_1 s m args below meth c H locs cells slots Q (F0 m 1314 ls []) := by
  have hx := C.1
  have hb := C.2.1
  have hts := C.2.2.2.2.2.1
  refine lv_aload_n hx hb dL_law_1314 rfl (lv_at hl 1 rfl) ?_
  obtain ⟨r, σ1, μ1, f1, f2, hR1⟩ := sim σ μ  hR
  refine k_callViL C hw (c_X11_back l G Y (fun σ => wC ad Y σ ++ (wM am Y μ ++ X)) ad (layC ad Y _)  σ r σ1 f1) (cwV 0 hts gL_law_X11_back rfl rfl rfl (by decide +kernel) ⟨Nat.le_of_ble_eq_true rfl, Nat.le_of_ble_eq_true rfl⟩) (k_recv C hw (LC_0 (layC ad Y _)) rfl) rfl hl.1 rfl (Nat.le_of_ble_eq_true rfl) hcs dL_law_1315 (fun H locs hw => ?_)
  have hw : k_W G (fun μ => wC ad Y σ1 ++ (wM am Y μ ++ X)) A s.heap μ H locs := hw
  refine lv_aload_n hx hb dL_law_1318 rfl (lv_at hl 2 rfl) ?_
  refine k_callViL C hw (c_X12_back l G Y (fun μ => wC ad Y σ1 ++ (wM am Y μ ++ X)) am (layM am Y (wC ad Y σ1) X)  μ r μ1 f2) (cwV 0 hts gL_law_X12_back rfl rfl rfl (by decide +kernel) ⟨Nat.le_of_ble_eq_true rfl, Nat.le_of_ble_eq_true rfl⟩) (k_recv C hw (LM_0 (layM am Y (wC ad Y σ1) X)) rfl) rfl hl.1 rfl (Nat.le_of_ble_eq_true rfl) hcs dL_law_1319 (fun H locs hw => ?_)
  exact lv_icmp_eq (tgt := 1352) hx hb dL_law_1322 (by decide) (fun _ => next σ1 μ1 hR1 H locs hw) (fun h => absurd rfl h)
set_option maxHeartbeats 4000000 in
set_option maxRecDepth 100000 in
theorem lc_34 {p : Program} {l : Launch} {e : Env} {s : State} {m : MethodId} {args : Array Value} {below : List Frame} {meth : Method} {c : Code} {A : Nat → Prop} {G : va_G} {Y : CY} {cells slots b L : Nat} {xs : Nat → Int32} {Q : State → Prop} (RR : MSt → MSt → Prop) (C : k_C p s m args meth c code RL ret wsL_law 7 G Y A) (hX : va_X b L xs s s.heap) (hbl : b < s.heap.size) (hbA : ¬ A b) (ad am : Nat → Nat) (X : va_W) (hcs : cells ≤ room_1.cells ∧ slots ≤ room_1.slots) (x4 : Int32) (i1 : vp_in (x4 + 1) L) (i2 : vp_in (x4 + 2) L) (i3 : vp_in (x4 + 3) L) (i4 : vp_in (x4 + 4) L) (i5 : vp_in (x4 + 5) L) (a3 : Nat) (ls : Array Slot) (hl : lv_has ls 7 [(0, .ref b), (1, .ref (ad 0)), (2, .ref (am 0)), (3, .ref a3), (4, .int x4)]) (sim : Sim_count RR) (σ μ : MSt) (hR : RR σ μ) (H : Heap) (locs : List Loc) (hw : k_W G (fun σ => wC ad Y σ ++ (wM am Y μ ++ X)) A s.heap σ H locs) (next : ∀ σ1 μ1, RR σ1 μ1 → ∀ H locs, k_W G (fun μ => wC ad Y σ1 ++ (wM am Y μ ++ X)) A s.heap μ1 H locs → W p l e room_1 s m args below meth c H locs cells slots Q (F0 m 1352 ls [])) : W p l e room_1 s m args below meth c H locs cells slots Q (F0 m 1327 ls []) := by
  have hx := C.1
  have hb := C.2.1
  have hts := C.2.2.2.2.2.1
  refine lv_aload_n hx hb dL_law_1327 rfl (lv_at hl 1 rfl) ?_
  refine lv_aload_n hx hb dL_law_1328 rfl (lv_at hl 0 rfl) ?_
  refine lv_iload hx hb dL_law_1329 (lv_at hl 4 rfl) ?_
  refine lv_iconst (v := (1 : Int32)) hx hb dL_law_1331 (by decide) ?_
  refine lv_iadd hx hb dL_law_1332 ?_
  refine va_sld hx hb hX hbl hbA hw.2.2 (i1) dL_law_1333 ?_
  obtain ⟨r, σ1, μ1, f1, f2, hR1⟩ := sim σ μ (xs (x4 + (1 : Int32)).toNatClampNeg) hR
  refine k_callViL C hw (c_X11_count l G Y (fun σ => wC ad Y σ ++ (wM am Y μ ++ X)) ad (layC ad Y _) (xs (x4 + (1 : Int32)).toNatClampNeg) σ r σ1 f1) (cwV 1 hts gL_law_X11_count rfl rfl rfl (by decide +kernel) ⟨Nat.le_of_ble_eq_true rfl, Nat.le_of_ble_eq_true rfl⟩) (k_recv C hw (LC_0 (layC ad Y _)) rfl) rfl hl.1 rfl (Nat.le_of_ble_eq_true rfl) hcs dL_law_1334 (fun H locs hw => ?_)
  have hw : k_W G (fun μ => wC ad Y σ1 ++ (wM am Y μ ++ X)) A s.heap μ H locs := hw
  refine lv_aload_n hx hb dL_law_1337 rfl (lv_at hl 2 rfl) ?_
  refine lv_aload_n hx hb dL_law_1338 rfl (lv_at hl 0 rfl) ?_
  refine lv_iload hx hb dL_law_1339 (lv_at hl 4 rfl) ?_
  refine lv_iconst (v := (1 : Int32)) hx hb dL_law_1341 (by decide) ?_
  refine lv_iadd hx hb dL_law_1342 ?_
  refine va_sld hx hb hX hbl hbA hw.2.2 (i1) dL_law_1343 ?_
  refine k_callViL C hw (c_X12_count l G Y (fun μ => wC ad Y σ1 ++ (wM am Y μ ++ X)) am (layM am Y (wC ad Y σ1) X) (xs (x4 + (1 : Int32)).toNatClampNeg) μ r μ1 f2) (cwV 1 hts gL_law_X12_count rfl rfl rfl (by decide +kernel) ⟨Nat.le_of_ble_eq_true rfl, Nat.le_of_ble_eq_true rfl⟩) (k_recv C hw (LM_0 (layM am Y (wC ad Y σ1) X)) rfl) rfl hl.1 rfl (Nat.le_of_ble_eq_true rfl) hcs dL_law_1344 (fun H locs hw => ?_)
  exact lv_icmp_eq (tgt := 1352) hx hb dL_law_1347 (by decide) (fun _ => next σ1 μ1 hR1 H locs hw) (fun h => absurd rfl h)
