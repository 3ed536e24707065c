def rmL_bay : Room := { frames := 10, cells := 1, slots := 6, locals := 200 }
def z_f (k v : Int32) (f : Nat → Int64) : Nat → Int64 := if k = 0 then vp_updL f 0 v.toInt64 else f
section
variable {p : Program} {l : Launch} {e : Env} {R : Room} {s : State} {m : MethodId} {args : Array Value} {below : List Frame} {meth : Method} {c : Code} {H : Heap} {locs : List Loc} {cells slots : Nat} {Q : State → Prop}
variable {cc : ByteArray} {own : String} {ret : Option FieldType} {Ts : List Cond} {nL : Nat} {G : va_G} {Y : CY} {A : Nat → Prop} {w : MSt → va_W} {ad : Nat → Nat} {σ : MSt}
theorem z_pre {T : Nat × Nat} (C : k_C p s m args meth c cc own ret Ts nL G Y A) (hZ : z_E T A s s.heap) (hw : k_W G w A s.heap σ H locs) {av : List Value} : ∀ U : State, U.heap = H → s.WarmedH U.vm → z_P G Y T w σ H.size av av.toArray U := fun U hU hW => ⟨rfl, by rw [hU], by rw [hU]; exact hw.1, C.2.2.2.2.2.2.1.moved hW, hw.2.1.weaken (fun _ _ _ _ => trivial), by rw [hU]; exact ((C.2.2.2.2.2.2.2.2.2).to hw.2.2.2.1 (k_free C hw)).warm hW, by rw [hU]; exact (hZ.to hw.2.2.2.1 (k_free C hw)).warm hW⟩
end
set_option maxHeartbeats 4000000 in
set_option maxRecDepth 100000 in
theorem b_L_bay {l : Launch} (hst : l.stackTraces = false) {G : va_G} {Y : CY} {T : Nat × Nat} {ad am : Nat → Nat} {μ : MSt} {ao : Nat} {f : Nat → Int64} {p1 p2 : Int32} {σ : MSt} {k v : Int32} {σ' : MSt} (hf : f_X11_bay p1 p2 σ = some ((k, v), σ')) {p : Program} {e : Env} {s : State} {m : MethodId} {below : List Frame} {meth : Method} {c : Code} {A : Nat → Prop} (C : k_C p s m [.ref (ad 0), .int p1, .int p2, .ref ao].toArray meth c cL_bay RL (some .int) wsL_bay 5 G Y A) (hZ : z_E T A s s.heap) (ht : c.exceptionTable.toList = tableOf [(0, 10, 13, 13), (0, 10, 17, 15)]) {ls : Array Slot} (hl : lv_has ls 5 [(0, .ref (ad 0)), (1, .int p1), (2, .int p2), (3, .ref ao)]) (hw : k_W G (fun σ => wC ad Y σ ++ (wM am Y μ ++ oX Y ao f)) A s.heap σ s.heap []) : W p l e rmL_bay s m [.ref (ad 0), .int p1, .int p2, .ref ao].toArray below meth c s.heap [] 0 0 (vx_MQ below (va_Qi (fun (r' : Int32) (u : MSt) => r' = k ∧ u = σ') (fun u t => va_P G vwCl (wC ad Y u ++ (wM am Y μ ++ oX Y ao (z_f k v f))) t.heap ∧ va_D A (wC ad Y u ++ (wM am Y μ ++ oX Y ao (z_f k v f)))) A) (vx_X (fun _ : Unit => False) (fun _ _ _ => False) A) [.ref (ad 0), .int p1, .int p2, .ref ao].toArray s 1 6 A) (F0 m 0 ls []) := by
  have hx := C.1
  have hb := C.2.1
  have hown := C.2.2.2.2.1
  have hts := C.2.2.2.2.2.1
  have hlocks : meth.locks = false := C.2.2.2.2.2.2.2.1
  have cI : (Cond.castable "java/lang/IndexOutOfBoundsException" "java/lang/IndexOutOfBoundsException").before [Value.ref (ad 0), .int p1, .int p2, .ref ao].toArray s = true := va_Nw.use rfl (hZ.2.2.2.2.1 _ (List.mem_of_getElem? (i := 3) rfl))
  have cN : (Cond.castable "java/util/NoSuchElementException" "java/util/NoSuchElementException").before [Value.ref (ad 0), .int p1, .int p2, .ref ao].toArray s = true := va_Nw.use rfl (hZ.2.2.2.2.1 _ (List.mem_of_getElem? (i := 4) rfl))
  have lI : (Cond.classLink RL 13 "java/lang/IndexOutOfBoundsException").before [Value.ref (ad 0), .int p1, .int p2, .ref ao].toArray s = true := hts _ (List.mem_of_getElem? (i := 1) rfl)
  have lN : (Cond.classLink RL 15 "java/util/NoSuchElementException").before [Value.ref (ad 0), .int p1, .int p2, .ref ao].toArray s = true := hts _ (List.mem_of_getElem? (i := 2) rfl)
  refine lv_aload_n hx hb dL_bay_0 rfl (lv_at hl 3 rfl) ?_
  refine lv_iconst (v := (0 : Int32)) hx hb dL_bay_1 (by decide) ?_
  refine lv_aload_n hx hb dL_bay_2 rfl (lv_at hl 0 rfl) ?_
  refine lv_iload_n hx hb dL_bay_3 rfl (lv_at hl 1 rfl) ?_
  refine lv_iload_n hx hb dL_bay_4 rfl (lv_at hl 2 rfl) ?_
  refine vx_calli (vx_runV (As := [.int p1, .int p2]) (rest := [.int 0, .ref ao]) ⟨C.1, C.2.1, C.2.2.2.1, C.2.2.2.2.1, C.2.2.2.2.2.1⟩ (c_X11_bay hst G Y T (fun σ => wC ad Y σ ++ (wM am Y μ ++ oX Y ao f)) ad (layC ad Y _) p1 p2 σ k v σ' hf s.heap.size) (cwV 2 hts gL_bay_X11_bay rfl rfl rfl (by decide +kernel) ⟨Nat.le_of_ble_eq_true rfl, Nat.le_of_ble_eq_true rfl⟩) ⟨z_P.blind, k_recv C hw (LC_0 (layC ad Y _)) rfl, z_pre C hZ hw⟩ rfl rfl hl.1 rfl (lv_room (Nat.le_of_ble_eq_true rfl)) dL_bay_5 ⟨Nat.le_of_ble_eq_true rfl, Nat.le_of_ble_eq_true rfl⟩) hw.2.2 (fun q _ h => k_free C hw q h) (k_free C hw) (fun q _ h => k_free C hw q h) (fun E ce q9 u t H1 locs1 hH hvm hu hB hz1 hk1 hS hce hcv hcl => ?_) (fun r u t H1 locs1 hH hvm hq hB hz1 hk1 hS => ?_)
  · obtain ⟨hE, hB⟩ := hB
    have hw1 := k_back C hw hH hu hB hS
    rcases hE with ⟨hk, rfl⟩ | ⟨hk, rfl⟩
    · refine vx_catch hown [] ⟨0, 10, 13, 13⟩ [⟨0, 10, 17, 15⟩] ht (fun z hz => nomatch hz) (by decide) (by decide) lI cI hce hcv hcl ?_
      refine lv_astore (lv' := [(4, .ref q9), (0, .ref (ad 0)), (1, .int p1), (2, .int p2), (3, .ref ao)]) hx hb dL_bay_13 hl (by decide) rfl (fun ls hl => ?_)
      refine lv_iconst (v := (1 : Int32)) hx hb dL_bay_15 (by decide) ?_
      refine vx_ret (W.widen (k := 1) (n := 6) (by omega) (by omega) ?_)
      have ef : z_f k v f = f := if_neg (by rw [hk]; decide)
      rw [ef]
      exact W.iret hx hb C.2.2.1 (fun t ht hW => ⟨⟨_, _, rfl, ⟨hk.symm, rfl⟩, by rw [ht]; exact hw1.1, hw1.2.1⟩, hw1.2.2.F ht⟩) hw1.2.2.2.2 dL_bay_16
    · refine vx_catch hown [⟨0, 10, 13, 13⟩] ⟨0, 10, 17, 15⟩ [] ht (fun z hz => ?_) (by decide) (by decide) lN cN hce hcv hcl ?_
      · have ez : z = ⟨0, 10, 13, 13⟩ := by simpa using hz
        subst ez
        exact Or.inr ⟨by decide, "java/lang/IndexOutOfBoundsException", lI, hZ.2.2.2.2.2⟩
      refine lv_astore (lv' := [(4, .ref q9), (0, .ref (ad 0)), (1, .int p1), (2, .int p2), (3, .ref ao)]) hx hb dL_bay_17 hl (by decide) rfl (fun ls hl => ?_)
      refine lv_iconst (v := (2 : Int32)) hx hb dL_bay_19 (by decide) ?_
      refine vx_ret (W.widen (k := 1) (n := 6) (by omega) (by omega) ?_)
      have ef : z_f k v f = f := if_neg (by rw [hk]; decide)
      rw [ef]
      exact W.iret hx hb C.2.2.1 (fun t ht hW => ⟨⟨_, _, rfl, ⟨hk.symm, rfl⟩, by rw [ht]; exact hw1.1, hw1.2.1⟩, hw1.2.2.F ht⟩) hw1.2.2.2.2 dL_bay_20
  · obtain ⟨hk, rfl, hu⟩ := hq
    have hw1 := k_back C hw hH hu hB hS
    have ef : z_f k r f = vp_updL f 0 r.toInt64 := if_pos hk
    rw [ef]
    refine lv_i2l (v := r.toInt64) hx hb dL_bay_8 rfl ?_
    refine va_last hx hb C.2.2.2.2.2.2.1.1 hw1.1 hw1.2.1 hw1.2.2 108 2 (f := f) (n := 1) (cA := Y.2.2.1) rfl rfl (k_inE (by decide)) dL_bay_9 (fun H2 locs2 q1 q2 q3 => ?_)
    have q1 : va_P G vwCl (wC ad Y σ' ++ (wM am Y μ ++ oX Y ao (vp_updL f 0 r.toInt64))) H2 := q1
    have q2 : va_D A (wC ad Y σ' ++ (wM am Y μ ++ oX Y ao (vp_updL f 0 r.toInt64))) := q2
    refine lv_goto (tgt := 21) hx hb dL_bay_10 (by decide) ?_
    refine lv_iconst (v := (0 : Int32)) hx hb dL_bay_21 (by decide) ?_
    refine vx_ret (W.widen (k := 1) (n := 6) (by omega) (by omega) ?_)
    exact W.iret hx hb C.2.2.1 (fun t ht hW => ⟨⟨_, _, rfl, ⟨hk.symm, rfl⟩, by rw [ht]; exact q1, q2⟩, q3.F ht⟩) q3.2.2 dL_bay_22
theorem c_L_bay {l : Launch} (hst : l.stackTraces = false) (G : va_G) (Y : CY) (T : Nat × Nat) (ad am : Nat → Nat) (μ : MSt) (ao : Nat) (f : Nat → Int64) (p1 p2 : Int32) (σ : MSt) (k v : Int32) (σ' : MSt) (hf : f_X11_bay p1 p2 σ = some ((k, v), σ')) (sz : Nat) : vx_Met l yL_bay wsL_bay rmL_bay (z_P G Y T (fun σ => wC ad Y σ ++ (wM am Y μ ++ oX Y ao f)) σ sz [.ref (ad 0), .int p1, .int p2, .ref ao]) (va_Qi (fun (r' : Int32) (u : MSt) => r' = k ∧ u = σ') (fun u t => va_P G vwCl (wC ad Y u ++ (wM am Y μ ++ oX Y ao (z_f k v f))) t.heap ∧ va_D (va_A (wC ad Y σ ++ (wM am Y μ ++ oX Y ao f)) sz) (wC ad Y u ++ (wM am Y μ ++ oX Y ao (z_f k v f)))) (va_A (wC ad Y σ ++ (wM am Y μ ++ oX Y ao f)) sz)) (vx_X (fun _ : Unit => False) (fun _ _ _ => False) (va_A (wC ad Y σ ++ (wM am Y μ ++ oX Y ao f)) sz)) 1 6 (va_A (wC ad Y σ ++ (wM am Y μ ++ oX Y ao f)) sz) := by
  refine vx_ofWH (cc := cL_bay) (maxL := 5) (ret := some .int) (hh := [(0, 10, 13, 13), (0, 10, 17, 15)]) (by decide) rfl ?_
  intro p e s m args below meth c s₁ B hml hv
  obtain ⟨rfl, rfl, hP, hK, hD0, hE, hZ⟩ := hv
  have h := k_ent (w := fun σ => wC ad Y σ ++ (wM am Y μ ++ oX Y ao f)) (σ := σ) (G := G) (Y := Y) (own := RL) (some .int) rfl B hml hK hP hD0 hE
  have ht : c.exceptionTable.toList = tableOf [(0, 10, 13, 13), (0, 10, 17, 15)] := vx_table (x := yL_bay) B (atoms_spec (ws := wsL_bay) B.pre _ List.mem_cons_self)
  rw [lg_entry_eq]
  exact b_L_bay hst hf h.1 hZ ht (lv_entry [.ref (ad 0), .int p1, .int p2, .ref ao] (Nat.le_of_ble_eq_true rfl)) h.2
