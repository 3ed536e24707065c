/-! bay: the class throws, the law catches -/
def z_B : List Cond := [.declares (Bundle.initS "java/lang/RuntimeException"), .declares (Bundle.initS "java/lang/Exception"), .declares (Bundle.initS Bundle.tN), .castable "java/lang/IndexOutOfBoundsException" "java/lang/IndexOutOfBoundsException", .castable "java/util/NoSuchElementException" "java/util/NoSuchElementException"]
theorem z_Bont : ∀ w ∈ z_B, w.onTables = true := by decide +kernel
theorem z_Bwarm {s U : State} (hW : s.WarmedH U.vm) (h : ∀ w ∈ z_B, va_Nw w s) : ∀ w ∈ z_B, va_Nw w U :=
  List.forall_mem_cons.mpr ⟨va_Nw.warmD hW (h _ (List.mem_of_getElem? (i := 0) rfl)), List.forall_mem_cons.mpr ⟨va_Nw.warmD hW (h _ (List.mem_of_getElem? (i := 1) rfl)), List.forall_mem_cons.mpr ⟨va_Nw.warmD hW (h _ (List.mem_of_getElem? (i := 2) rfl)), List.forall_mem_cons.mpr ⟨va_Nw.warmC hW (h _ (List.mem_of_getElem? (i := 3) rfl)), List.forall_mem_cons.mpr ⟨va_Nw.warmC hW (h _ (List.mem_of_getElem? (i := 4) rfl)), fun _ h => nomatch h⟩⟩⟩⟩⟩
/-- what a throw wants of a state: the two texts, Throwable's two statics, the words that aren't good ones -/
def z_E (T : Nat × Nat) (A : Nat → Prop) (U : State) (H : Heap) : Prop := vk_R RX11 140 "no such bay" T.1 U ∧ vk_R RX11 160 "no such what" T.2 U ∧ vx_Zq Bundle.tN "UNASSIGNED_STACK" Bundle.steD A U H ∧ vx_Zq Bundle.tN "SUPPRESSED_SENTINEL" Bundle.listD A U H ∧ (∀ w ∈ z_B, va_Nw w U) ∧ va_Nc "java/util/NoSuchElementException" "java/lang/IndexOutOfBoundsException" U
theorem z_E.warm {T : Nat × Nat} {A : Nat → Prop} {s U : State} {H : Heap} (hW : s.WarmedH U.vm) (h : z_E T A s H) : z_E T A U H := ⟨h.1.warm hW, h.2.1.warm hW, h.2.2.1.moved hW.alike, h.2.2.2.1.moved hW.alike, z_Bwarm hW h.2.2.2.2.1, h.2.2.2.2.2.moved hW.alike⟩
theorem z_E.same {T : Nat × Nat} {A : Nat → Prop} {s U : State} {H : Heap} (hv : s.vm = U.vm) (h : z_E T A s H) : z_E T A U H := by
  have hv2 : s.vm.Alike U.vm := by rw [hv]; exact Vm.Alike.refl U.vm
  exact ⟨h.1.same hv.symm, h.2.1.same hv.symm, h.2.2.1.moved hv2, h.2.2.2.1.moved hv2, fun w hw => va_Nw.same (z_Bont w hw) hv (h.2.2.2.2.1 w hw), h.2.2.2.2.2.moved hv2⟩
theorem z_E.to {T : Nat × Nat} {A B : Nat → Prop} {s : State} {H H1 : Heap} (hq : ∀ a : Nat, a < H.size → ¬ A a → H1[a]? = H[a]?) (hAB : ∀ q, B q → A q) (h : z_E T A s H) : z_E T B s H1 := ⟨h.1, h.2.1, (h.2.2.1.kept hq).narrow hAB, (h.2.2.2.1.kept hq).narrow hAB, h.2.2.2.2⟩
def z_P (G : va_G) (Y : CY) (T : Nat × Nat) (w : MSt → va_W) (σ : MSt) (sz : Nat) (av : List Value) : Array Value → State → Prop := va_Pc av (fun U => U.heap.size = sz ∧ va_P G vwCl (w σ) U.heap ∧ k_K G Y U ∧ va_D (fun _ => True) (w σ) ∧ k_E Y (va_A (w σ) sz) U U.heap ∧ z_E T (va_A (w σ) sz) U U.heap)
theorem z_P.blind {G : va_G} {Y : CY} {T : Nat × Nat} {w : MSt → va_W} {σ : MSt} {sz : Nat} {av : List Value} : FrameBlind (z_P G Y T w σ sz av) := by
  intro a U g mk h
  obtain ⟨h1, h2, h3, h4, h5, h6, h7⟩ := h
  exact ⟨h1, h2, h3, k_K.same (s := U) (U := U.calling g mk a) rfl h4, h5, k_E.same (s := U) (U := U.calling g mk a) rfl h6, z_E.same (s := U) (U := U.calling g mk a) rfl h7⟩
def rmX11_bay : Room := { frames := 8, cells := 1, slots := 6, locals := 150 }
/-- what is thrown -/
def z_X (G : va_G) (w : MSt → va_W) (A : Nat → Prop) (k : Int32) (σ' : MSt) : String → State → State → Prop := vx_X (fun u : MSt => u = σ') (fun E u t => ((k = 1 ∧ E = "java/lang/IndexOutOfBoundsException") ∨ (k = 2 ∧ E = "java/util/NoSuchElementException")) ∧ k_B G w A u t) A
theorem z_hat1 : ∀ w ∈ (vx_atS RX11 142 "java/lang/IndexOutOfBoundsException" ["java/lang/RuntimeException", "java/lang/Exception"]).filter (fun w => !goodWord w), w ∈ z_B := by decide +kernel
theorem z_hat2 : ∀ w ∈ (z_atX RX11 162 "java/util/NoSuchElementException" 13 z_rx ["java/lang/RuntimeException", "java/lang/Exception"]).filter (fun w => !goodWord w), w ∈ z_B := by decide +kernel
theorem z_got1 : ∀ w ∈ Cond.classLink RX11 138 "java/lang/IndexOutOfBoundsException" :: Cond.initialized "java/lang/IndexOutOfBoundsException" :: vx_atS RX11 142 "java/lang/IndexOutOfBoundsException" ["java/lang/RuntimeException", "java/lang/Exception"], vx_ot w = true := by decide +kernel
theorem z_got2 : ∀ w ∈ Cond.classLink RX11 158 "java/util/NoSuchElementException" :: Cond.initialized "java/util/NoSuchElementException" :: z_atX RX11 162 "java/util/NoSuchElementException" 13 z_rx ["java/lang/RuntimeException", "java/lang/Exception"], vx_ot w = true := by decide +kernel
theorem z_ext {G : va_G} {w : MSt → va_W} {A : Nat → Prop} {s t : State} {σ : MSt} {H : Heap} {locs : List Loc} (hw : k_W G w A s.heap σ H locs) (h1 : H.size ≤ t.heap.size) (h2 : ∀ q : Nat, q < H.size → t.heap[q]? = H[q]?) : k_B G w A σ t ∧ va_F A s t := by
  refine ⟨⟨hw.1.kept (fun k q hk => h2 q.1 (hw.1 k q hk).lt), hw.2.1⟩, Nat.le_trans hw.2.2.1 h1, fun q hq hA => ?_⟩
  rw [h2 q (Nat.lt_of_lt_of_le hq hw.2.2.1)]
  exact hw.2.2.2.1 q hq hA
theorem z_rx0 : decode z_rx 0 = .ok (.aload_n 0, 1) := by decide +kernel
theorem z_rx1 : decode z_rx 1 = .ok (.aload_n 1, 1) := by decide +kernel
theorem z_rx2 : decode z_rx 2 = .ok (.invokespecial 13, 3) := by decide +kernel
theorem z_rx5 : decode z_rx 5 = .ok (.return_, 1) := by decide +kernel
set_option maxHeartbeats 4000000 in
set_option maxRecDepth 100000 in
theorem b_X11_bay {l : Launch} (hst : l.stackTraces = false) {G : va_G} {Y : CY} {T : Nat × Nat} {w : MSt → va_W} {ad : Nat → Nat} (LC : LayC ad w Y) {p1 p2 : Int32} {σ : MSt} {k v : Int32} {σ' : MSt} (hf : f_X11_bay p1 p2 σ = some ((k, v), σ')) {p : Program} {e : Env} {s : State} {m : MethodId} {below : List Frame} {meth : Method} {c : Code} {A : Nat → Prop} (C : k_C p s m [.ref (ad 0), .int p1, .int p2].toArray meth c cX11_bay RX11 (some .int) wsX11_bay 3 G Y A) (hZ : z_E T A s s.heap) (ht : ∀ x ∈ c.exceptionTable.toList, False) {ls : Array Slot} (hl : lv_has ls 3 [(0, .ref (ad 0)), (1, .int p1), (2, .int p2)]) (hw : k_W G w A s.heap σ s.heap []) : W p l e rmX11_bay s m [.ref (ad 0), .int p1, .int p2].toArray below meth c s.heap [] 0 0 (vx_MQ below (va_Qi (fun (r' : Int32) (u : MSt) => k = 0 ∧ r' = v ∧ u = σ') (k_B G w A) A) (z_X G w A k σ') [.ref (ad 0), .int p1, .int p2].toArray s 1 6 A) (F0 m 0 ls []) := by
  have hx := C.1
  have hb := C.2.1
  have hown := C.2.2.2.2.1
  have hts := C.2.2.2.2.2.1
  have hlocks : meth.locks = false := C.2.2.2.2.2.2.2.1
  have bads : ∀ w ∈ z_B, w.before [Value.ref (ad 0), .int p1, .int p2].toArray s = true := fun w hw => va_Nw.use (z_Bont w hw) (hZ.2.2.2.2.1 w hw)
  have iret : ∀ {σ1 : MSt} {H : Heap} {locs : List Loc} {ls : Array Slot} {pc : Nat} {x : Int32}, k_W G w A s.heap σ1 H locs → (some ((0, x), σ1) : Option ((Int32 × Int32) × MSt)) = some ((k, v), σ') → decode cX11_bay pc = .ok (.ireturn, 1) → W p l e rmX11_bay s m [.ref (ad 0), .int p1, .int p2].toArray below meth c H locs 0 0 (vx_MQ below (va_Qi (fun (r' : Int32) (u : MSt) => k = 0 ∧ r' = v ∧ u = σ') (k_B G w A) A) (z_X G w A k σ') [.ref (ad 0), .int p1, .int p2].toArray s 1 6 A) (F0 m pc ls [.int x]) := by
    intro σ1 H locs ls pc x hw hf hd
    cases hf
    refine vx_ret (W.widen (k := 1) (n := 6) (by omega) (by omega) ?_)
    exact W.iret hx hb C.2.2.1 (fun t ht hW => ⟨⟨_, _, rfl, ⟨rfl, rfl, rfl⟩, by rw [ht]; exact hw.1, hw.2.1⟩, hw.2.2.F ht⟩) hw.2.2.2.2 hd
  unfold f_X11_bay at hf
  refine lv_aload_n hx hb dX11_bay_0 rfl (lv_at hl 0 rfl) ?_
  refine k_get C hw (LC_0 LC) (ci := 11) rfl k_in11 2 (by decide) lk11_28 (v := .ref (ad 10)) rfl dX11_bay_1 ?_
  refine lv_iload_n hx hb dX11_bay_4 rfl (lv_at hl 1 rfl) ?_
  obtain ⟨q2, σ1, hq, hf⟩ := k_bdE hf
  refine k_callVi C hw (c_X0_hasBay l G Y w ad 10 (LCL_10 LC) p1 σ q2 σ1 hq) (cwV 1 hts gX11_bay_X0_hasBay rfl rfl rfl (by decide +kernel) ⟨Nat.le_of_ble_eq_true rfl, Nat.le_of_ble_eq_true rfl⟩) (k_recv C hw (LC_10 LC) rfl) rfl hl.1 rfl (Nat.le_of_ble_eq_true rfl) dX11_bay_5 (fun H locs hw => ?_)
  refine lv_if_ne (tgt := 21) hx hb dX11_bay_8 (by decide) (fun h => ?_) (fun h => ?_)
  · have hf := k_ifF h hf
    refine lv_iload_n hx hb dX11_bay_21 rfl (lv_at hl 2 rfl) ?_
    by_cases h0 : p2 = (0 : Int32)
    · refine lv_tableIn (tgt := 52) hx hb dX11_bay_22 (by rw [h0]; decide) (by rw [h0]; decide) (by rw [h0]; rfl) (by decide) ?_
      have hf := k_ifT h0 hf
      obtain ⟨hin, hf⟩ := k_ckE hf
      refine lv_aload_n hx hb dX11_bay_52 rfl (lv_at hl 0 rfl) ?_
      refine k_get C hw (LC_0 LC) (ci := 11) rfl k_in11 4 (by decide) lk11_38 (v := .ref (ad 50)) rfl dX11_bay_53 ?_
      refine k_getN C hw (LC_50 LC) (ci := 5) rfl k_in5 0 (by decide) ln11_145 (v := .ref (ad 51)) rfl dX11_bay_56 ?_
      refine lv_iload_n hx hb dX11_bay_59 rfl (lv_at hl 1 rfl) ?_
      refine k_iald C hw (LC_51 LC) hin dX11_bay_60 ?_
      exact iret hw hf dX11_bay_61
    have hf := k_ifF h0 hf
    by_cases h1 : p2 = (1 : Int32)
    · refine lv_tableIn (tgt := 62) hx hb dX11_bay_22 (by rw [h1]; decide) (by rw [h1]; decide) (by rw [h1]; rfl) (by decide) ?_
      have hf := k_ifT h1 hf
      obtain ⟨r5, σ2, hq, hf⟩ := k_bdE hf
      refine lv_aload_n hx hb dX11_bay_62 rfl (lv_at hl 0 rfl) ?_
      refine k_get C hw (LC_0 LC) (ci := 11) rfl k_in11 4 (by decide) lk11_38 (v := .ref (ad 50)) rfl dX11_bay_63 ?_
      refine lv_iload_n hx hb dX11_bay_66 rfl (lv_at hl 1 rfl) ?_
      refine k_callVi C hw (c_X5_daysSince l G Y w ad 50 (LCL_50 LC) p1 σ1 r5 σ2 hq) (cwV 1 hts gX11_bay_X5_daysSince rfl rfl rfl (by decide +kernel) ⟨Nat.le_of_ble_eq_true rfl, Nat.le_of_ble_eq_true rfl⟩) (k_recv C hw (LC_50 LC) rfl) rfl hl.1 rfl (Nat.le_of_ble_eq_true rfl) dX11_bay_67 (fun H locs hw => ?_)
      exact iret hw hf dX11_bay_70
    have hf := k_ifF h1 hf
    by_cases h2 : p2 = (2 : Int32)
    · refine lv_tableIn (tgt := 71) hx hb dX11_bay_22 (by rw [h2]; decide) (by rw [h2]; decide) (by rw [h2]; rfl) (by decide) ?_
      have hf := k_ifT h2 hf
      obtain ⟨hin, hf⟩ := k_ckE hf
      refine lv_aload_n hx hb dX11_bay_71 rfl (lv_at hl 0 rfl) ?_
      refine k_get C hw (LC_0 LC) (ci := 11) rfl k_in11 4 (by decide) lk11_38 (v := .ref (ad 50)) rfl dX11_bay_72 ?_
      refine k_getN C hw (LC_50 LC) (ci := 5) rfl k_in5 1 (by decide) ln11_152 (v := .ref (ad 52)) rfl dX11_bay_75 ?_
      refine lv_iload_n hx hb dX11_bay_78 rfl (lv_at hl 1 rfl) ?_
      refine k_iald C hw (LC_52 LC) hin dX11_bay_79 ?_
      exact iret hw hf dX11_bay_80
    have hf := k_ifF h2 hf
    by_cases h3 : p2 = (3 : Int32)
    · refine lv_tableIn (tgt := 81) hx hb dX11_bay_22 (by rw [h3]; decide) (by rw [h3]; decide) (by rw [h3]; rfl) (by decide) ?_
      have hf := k_ifT h3 hf
      refine lv_aload_n hx hb dX11_bay_81 rfl (lv_at hl 0 rfl) ?_
      refine k_get C hw (LC_0 LC) (ci := 11) rfl k_in11 4 (by decide) lk11_38 (v := .ref (ad 50)) rfl dX11_bay_82 ?_
      refine k_getN C hw (LC_50 LC) (ci := 5) rfl k_in5 4 (by decide) ln11_155 (v := .int (σ1.1 50 4)) rfl dX11_bay_85 ?_
      refine lv_iload_n hx hb dX11_bay_88 rfl (lv_at hl 1 rfl) ?_
      refine lv_icmp_ne (tgt := 96) hx hb dX11_bay_89 (by decide) (fun h => ?_) (fun h => ?_)
      · have hf := k_ifF h hf
        refine lv_iconst (v := (0 : Int32)) hx hb dX11_bay_96 (by decide) ?_
        exact iret hw hf dX11_bay_97
      · have hf := k_ifT h hf
        refine lv_iconst (v := (1 : Int32)) hx hb dX11_bay_92 (by decide) ?_
        refine lv_goto (tgt := 97) hx hb dX11_bay_93 (by decide) ?_
        exact iret hw hf dX11_bay_97
    have hf := k_ifF h3 hf
    refine lv_tableOut (tgt := 98) hx hb dX11_bay_22 (k_tout (fun k q1 q2 q3 => ?_)) (by decide) ?_
    · have q4 : p2 = Int32.ofInt k := by rw [← q3, Int32.ofInt_toInt]
      have q5 : k = 0 ∨ k = 1 ∨ k = 2 ∨ k = 3 := by omega
      rcases q5 with rfl | rfl | rfl | rfl
      · exact h0 q4
      · exact h1 q4
      · exact h2 q4
      · exact h3 q4
    cases hf
    exact z_throwX (own := RX11) (cls := "java/util/NoSuchElementException") (text := "no such what") (names := ["java/lang/RuntimeException", "java/lang/Exception"]) (ik := 158) (is := 160) (ic := 162) (ix := 13) (rx := z_rx) (sa := T.2) (A := A) hx hb hst z_rx0 z_rx1 z_rx2 z_rx5 hown (by decide) (by decide) (hts _ (List.mem_of_getElem? (i := 3) rfl)) (hts _ (List.mem_of_getElem? (i := 4) rfl)) hZ.2.1 (vx_hat (fun w h => hts w (List.mem_cons_of_mem _ (List.mem_append_right _ h))) z_hat2 bads) z_got2 hZ.2.2.1 hZ.2.2.2.1 hw.2.2 (hl.1.trans C.2.2.2.1.symm) dX11_bay_98 dX11_bay_101 dX11_bay_102 dX11_bay_104 dX11_bay_107 (fun x hx => (ht x hx).elim) (by decide) (by decide) (by decide) (by decide) hlocks (fun t hv h1 h2 => ⟨_, rfl, ⟨Or.inr ⟨rfl, rfl⟩, (z_ext hw h1 h2).1⟩, (z_ext hw h1 h2).2⟩) hw.2.2.2.2 (by omega) (by omega)
  · have hf := k_ifT h hf
    cases hf
    exact vx_throwS (own := RX11) (cls := "java/lang/IndexOutOfBoundsException") (text := "no such bay") (names := ["java/lang/RuntimeException", "java/lang/Exception"]) (ik := 138) (is := 140) (ic := 142) (sa := T.1) (A := A) hx hb hst hown (by decide) (by decide) (hts _ (List.mem_of_getElem? (i := 1) rfl)) (hts _ (List.mem_of_getElem? (i := 2) rfl)) hZ.1 (vx_hat (fun w h => hts w (List.mem_cons_of_mem _ (List.mem_append_left _ (List.mem_append_right _ h)))) z_hat1 bads) z_got1 hZ.2.2.1 hZ.2.2.2.1 hw.2.2 (hl.1.trans C.2.2.2.1.symm) dX11_bay_11 dX11_bay_14 dX11_bay_15 dX11_bay_17 dX11_bay_20 (fun x hx => (ht x hx).elim) (by decide) (by decide) (by decide) (by decide) hlocks (fun t hv h1 h2 => ⟨_, rfl, ⟨Or.inl ⟨rfl, rfl⟩, (z_ext hw h1 h2).1⟩, (z_ext hw h1 h2).2⟩) hw.2.2.2.2 (by omega) (by omega)
theorem c_X11_bay {l : Launch} (hst : l.stackTraces = false) (G : va_G) (Y : CY) (T : Nat × Nat) (w : MSt → va_W) (ad : Nat → Nat) (LC : LayC ad w Y) (p1 p2 : Int32) (σ : MSt) (k v : Int32) (σ' : MSt) (hf : f_X11_bay p1 p2 σ = some ((k, v), σ')) (sz : Nat) : vx_Met l yX11_bay wsX11_bay rmX11_bay (z_P G Y T w σ sz [.ref (ad 0), .int p1, .int p2]) (va_Qi (fun (r' : Int32) (u : MSt) => k = 0 ∧ r' = v ∧ u = σ') (k_B G w (va_A (w σ) sz)) (va_A (w σ) sz)) (z_X G w (va_A (w σ) sz) k σ') 1 6 (va_A (w σ) sz) := by
  refine vx_ofW (cc := cX11_bay) (maxL := 3) (ret := some .int) (by decide) rfl ?_
  intro p e s m args below meth c s₁ B hml ht hv
  obtain ⟨rfl, rfl, hP, hK, hD0, hE, hZ⟩ := hv
  have h := k_ent (w := w) (σ := σ) (G := G) (Y := Y) (own := RX11) (some .int) rfl B hml hK hP hD0 hE
  rw [lg_entry_eq]
  exact b_X11_bay hst LC hf h.1 hZ ht (lv_entry [.ref (ad 0), .int p1, .int p2] (Nat.le_of_ble_eq_true rfl)) h.2
