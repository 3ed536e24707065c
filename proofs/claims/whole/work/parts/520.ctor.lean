/-! CONSTRUCTORS: worlds written out; what is made gets its places by a function u -/
def z0 : MSt := (fun _ _ => 0, fun _ _ => 0)
def i_P (G : va_G) (Y : CY) (W0 : va_W) (sz : Nat) (av : List Value) : Array Value → State → Prop := va_Pc av (fun U => U.heap.size = sz ∧ va_P G vwCl W0 U.heap ∧ k_K G Y U ∧ va_D (fun _ => True) W0 ∧ k_E Y (va_A W0 sz) U U.heap)
theorem i_P.blind {G : va_G} {Y : CY} {W0 : va_W} {sz : Nat} {av : List Value} : FrameBlind (i_P G Y W0 sz av) := by
  intro a U g mk h
  obtain ⟨h1, h2, h3, h4, h5, h6⟩ := h
  exact ⟨h1, h2, h3, k_K.same (s := U) (U := U.calling g mk a) rfl h4, h5, k_E.same (s := U) (U := U.calling g mk a) rfl h6⟩
abbrev i_Q (G : va_G) (A : Nat → Prop) (o h0 : Nat) (CE : (Nat → Nat) → va_W) := va_Qv (fun u : Nat → Nat => u o = h0) (fun (u : Nat → Nat) (t : State) => va_P G vwCl (CE u) t.heap ∧ va_D A (CE u)) A
def i_M (l : Launch) (y : MethodName) (ws : List Cond) (rm : Room) (G : va_G) (Y : CY) (W0 : va_W) (av : List Value) (o h0 : Nat) (CE : (Nat → Nat) → va_W) (mc ms : Nat) : Prop := ∀ sz, Met l y ws rm (i_P G Y W0 sz av) (i_Q G (va_A W0 sz) o h0 CE) mc ms (va_A W0 sz)
theorem i_of {l : Launch} {y : MethodName} {ws ws' : List Cond} {rm : Room} {G : va_G} {Y : CY} {W0 : va_W} {av : List Value} {o h0 : Nat} {CE : (Nat → Nat) → va_W} {mc ms : Nat} {cc : ByteArray} {maxL : Nat} {own : String} (hy : plainName y.cls = true) (ho : y.cls = own) (hn : y.name = "<init>") (hws : ws = Cond.code y cc maxL none :: ws') (hl : (lg_sl av).length ≤ maxL)
    (body : ∀ (p : Program) (e : Env) (s : State) (m : MethodId) (below : List Frame) (meth : Method) (c : Code) (A : Nat → Prop), k_C p s m av.toArray meth c cc own none ws maxL G Y A → meth.name = "<init>" → ∀ ls : Array Slot, lv_has ls maxL (lv_args 0 av) → va_P G vwCl W0 s.heap → va_D A W0 → va_S A s.heap s.heap [] → W p l e rm s m av.toArray below meth c s.heap [] 0 0 (MQ below (i_Q G A o h0 CE) av.toArray s mc ms A) (F0 m 0 ls [])) : i_M l y ws rm G Y W0 av o h0 CE mc ms := by
  intro sz
  refine Met.ofW (cc := cc) (maxL := maxL) (ret := none) hy hws ?_
  intro p e s m args below meth c s₁ B hml hv
  obtain ⟨rfl, rfl, hP, hK, hD0, hE⟩ := hv
  have hC : k_C p s m av.toArray meth c cc own none ws maxL G Y (va_A W0 s.heap.size) := ⟨B.exec, B.bytes, B.returns, hml, ho ▸ findClass_of_methodNamed B.named, atoms_spec (ws := ws) B.pre, hK, B.notSynchronized, fun q h => Or.inr h, hE⟩
  rw [lg_entry_eq]
  exact body p e s m below meth c _ hC ((name_of_methodNamed B.named B.method).1.trans hn) _ (lv_entry av hl) hP hD0.self va_S.rf
section ICALL
variable {p : Program} {l : Launch} {e : Env} {R : Room} {s : State} {m : MethodId} {args : Array Value} {below : List Frame} {meth : Method} {c : Code} {H : Heap} {locs : List Loc} {cells slots : Nat} {Q : State → Prop}
variable {cc : ByteArray} {own : String} {ret : Option FieldType} {Ts : List Cond} {nL : Nat} {G : va_G} {Y : CY} {A : Nat → Prop} {pc : Nat} {ls : Array Slot} {rest : List Value} {ws wr wc : va_W}
theorem i_ret (C : k_C p s m args meth c cc own none Ts nL G Y A) {o h0 : Nat} {CE : (Nat → Nat) → va_W} (u : Nat → Nat) (hu : u o = h0) (hP : va_P G vwCl (CE u) H) (hD : va_D A (CE u)) (hS : va_S A s.heap H locs) (hd : decode cc pc = .ok (.return_, 1)) : W p l e R s m args below meth c H locs cells slots (MQ below (i_Q G A o h0 CE) args s cells slots A) (F0 m pc ls []) := by
  have hlocks : meth.locks = false := C.2.2.2.2.2.2.2.1
  exact W.vret C.1 C.2.1 C.2.2.1 (fun t ht hW => ⟨⟨u, rfl, hu, by rw [ht]; exact hP, hD⟩, hS.F ht⟩) hS.2.2 hd
theorem i_pre (C : k_C p s m args meth c cc own ret Ts nL G Y A) (hP : va_P G vwCl ws H) (hD : va_D A ws) (hS : va_S A s.heap H locs) (isC : List Nat) (hC : isC.map (fun i => ws[i]?) = wc.map some) (hC2 : isC.filterMap (fun i => ws[i]?) = wc) (hnd : va_nd isC = true) {av : List Value} : ∀ U : State, U.heap = H → s.WarmedH U.vm → i_P G Y wc H.size av av.toArray U := fun U hU hW => ⟨rfl, by rw [hU], by rw [hU]; exact hP.sub isC hC2, C.2.2.2.2.2.2.1.moved hW, (hD.sub isC hnd hC).weaken (fun _ _ _ _ => trivial), by rw [hU]; exact ((C.2.2.2.2.2.2.2.2.2).to hS.2.1 (va_free hD hS C.2.2.2.2.2.2.2.2.1 isC hC)).warm hW⟩
theorem i_call (C : k_C p s m args meth c cc own ret Ts nL G Y A) (hP : va_P G vwCl ws H) (hD : va_D A ws) (hS : va_S A s.heap H locs) {y : MethodName} {wsy : List Cond} {rm : Room} {b o : Nat} {As st : List Value} {CE : (Nat → Nat) → va_W} {mc ms : Nat} (hM : i_M l y wsy rm G Y wc (.ref b :: As) o b CE mc ms) {index maxL n : Nat} {bytes : ByteArray} (cw : CallB R s args own index y bytes maxL none wsy rm mc ms n ∧ y.name = "<init>" ∧ (Cond.instanceMethod y).before args s = true)
    (isC isR : List Nat) (hC : isC.map (fun i => ws[i]?) = wc.map some) (hC2 : isC.filterMap (fun i => ws[i]?) = wc) (hR : isR.map (fun i => ws[i]?) = wr.map some) (hnC : va_nd isC = true) (hnR : va_nd isR = true) (hdis : ∀ i ∈ isR, i ∉ isC)
    (hn : As.length = n) (hsz : ls.size = nL) (hst : st = As.reverse ++ .ref b :: rest) (hroom : (rest.map fun v => v.category).sum ≤ 8) (hcs : cells + mc ≤ R.cells ∧ slots + ms ≤ R.slots) (hd : decode cc pc = .ok (.invokespecial index, 3))
    (kk : ∀ (u : Nat → Nat), u o = b → ∀ (H1 : Heap) (locs1 : List Loc), va_P G vwCl (wr ++ CE u) H1 → va_D A (wr ++ CE u) → va_S A s.heap H1 locs1 → W p l e R s m args below meth c H1 locs1 (cells + mc) (slots + ms) Q (F0 m (pc + 3) ls rest)) : W p l e R s m args below meth c H locs cells slots Q (F0 m pc ls st) := by
  subst hst
  have hFc := va_free hD hS C.2.2.2.2.2.2.2.2.1 isC hC
  refine va_callv (va_runI (As := As) (rest := rest) ⟨C.1, C.2.1, C.2.2.2.1, C.2.2.2.2.1, C.2.2.2.2.2.1⟩ (hM H.size) cw ⟨i_P.blind, i_pre C hP hD hS isC hC hC2 hnC⟩ rfl hn hsz rfl (lv_room hroom) hd hcs) hS (fun q _ h => hFc q h) hFc (fun u t H1 locs1 ht hvm hq hB hz1 hk1 hS => ?_)
  obtain ⟨hP1, hD1⟩ := hB
  rw [ht] at hP1
  obtain ⟨hP2, hD2⟩ := va_join hP hD isC isR hC hR hnR hdis hk1 hFc hP1 hD1
  exact kk u hq H1 locs1 hP2 hD2 hS
theorem i_callN (C : k_C p s m args meth c cc own ret Ts nL G Y A) (hP : va_P G vwCl ws H) (hD : va_D A ws) (hS : va_S A s.heap H locs) {y : MethodName} {wsy : List Cond} {rm : Room} {b o : Nat} {As st : List Value} {CE : (Nat → Nat) → va_W} {mc ms : Nat} (hM : i_M l y wsy rm G Y wc (.ref b :: As) o b CE mc ms) {index maxL n : Nat} {bytes : ByteArray} (cw : va_CN R s args own index y "MoodAnchor" bytes maxL none wsy rm mc ms n ∧ y.name = "<init>" ∧ (Cond.instanceMethod y).before args s = true)
    (isC isR : List Nat) (hC : isC.map (fun i => ws[i]?) = wc.map some) (hC2 : isC.filterMap (fun i => ws[i]?) = wc) (hR : isR.map (fun i => ws[i]?) = wr.map some) (hnC : va_nd isC = true) (hnR : va_nd isR = true) (hdis : ∀ i ∈ isR, i ∉ isC)
    (hn : As.length = n) (hsz : ls.size = nL) (hst : st = As.reverse ++ .ref b :: rest) (hroom : (rest.map fun v => v.category).sum ≤ 8) (hcs : cells + mc ≤ R.cells ∧ slots + ms ≤ R.slots) (hd : decode cc pc = .ok (.invokespecial index, 3))
    (kk : ∀ (u : Nat → Nat), u o = b → ∀ (H1 : Heap) (locs1 : List Loc), va_P G vwCl (wr ++ CE u) H1 → va_D A (wr ++ CE u) → va_S A s.heap H1 locs1 → W p l e R s m args below meth c H1 locs1 (cells + mc) (slots + ms) Q (F0 m (pc + 3) ls rest)) : W p l e R s m args below meth c H locs cells slots Q (F0 m pc ls st) := by
  subst hst
  have hFc := va_free hD hS C.2.2.2.2.2.2.2.2.1 isC hC
  refine va_callv (va_runIN (As := As) (rest := rest) ⟨C.1, C.2.1, C.2.2.2.1, C.2.2.2.2.1, C.2.2.2.2.2.1⟩ (hM H.size) cw ⟨i_P.blind, i_pre C hP hD hS isC hC hC2 hnC⟩ rfl hn hsz rfl (lv_room hroom) hd hcs) hS (fun q _ h => hFc q h) hFc (fun u t H1 locs1 ht hvm hq hB hz1 hk1 hS => ?_)
  obtain ⟨hP1, hD1⟩ := hB
  rw [ht] at hP1
  obtain ⟨hP2, hD2⟩ := va_join hP hD isC isR hC hR hnR hdis hk1 hFc hP1 hD1
  exact kk u hq H1 locs1 hP2 hD2 hS
theorem i_newa (C : k_C p s m args meth c cc own ret Ts nL G Y A) (hP : va_P G vwCl ws H) (hD : va_D A ws) (hS : va_S A s.heap H locs) {atype : ArrayType} {ty : FieldType} {cA : ClassId} (t0 : Nat) (hty : newarray.typeOf atype = ty) (hY : (k_tys Y)[t0]? = some (cA, ty)) (hprim : ∀ cB, va_RA s cB ty → s.vm.findClass ("[" ++ ty.toString) = some cB) (harr : (Cond.arrayClass ty).before args s = true)
    {n : Int32} {N' : Nat} {a0 : vp_A} (ha : ∀ cB : ClassId, vp_cell cB a0 = arrV cB N' (fun _ => defaultValue ty)) (hn : ¬ n < 0) (hN : n.toNatClampNeg = N') (hbytes : N' * componentBytes ty ≤ 536870912) (hcells : cells + 1 ≤ R.cells) (hslots : slots + N' ≤ R.slots) (hd : decode cc pc = .ok (.newarray atype, 2))
    (kk : ∀ (q : Nat) (H1 : Heap), va_P G vwCl (ws ++ [(q, .inl (cA, a0))]) H1 → va_D A (ws ++ [(q, .inl (cA, a0))]) → va_S A s.heap H1 locs → W p l e R s m args below meth c H1 locs (cells + 1) (slots + N') Q (F0 m (pc + 2) ls (.ref q :: rest))) : W p l e R s m args below meth c H locs cells slots Q (F0 m pc ls (.int n :: rest)) := by
  subst hty
  refine va_newa C.1 C.2.1 harr rfl C.2.2.2.2.2.2.1.1 hP hD hS C.2.2.2.2.2.2.2.2.1 ha hn hN hbytes hcells hslots hd (fun q cB H1 hK2 hP1 hD1 hS1 => ?_)
  have e1 := hprim cB (hK2.2 4 (cB, newarray.typeOf atype) rfl).2
  have e2 := hprim cA (C.2.2.2.2.2.2.1.1.2 t0 _ hY).2
  have e3 : cB = cA := Option.some.inj (e1.symm.trans e2)
  subst e3
  exact kk q H1 hP1 hD1 hS1
end ICALL
def sL (o : Nat) : MSt := mI (mI (mI z0 o 4 (-1)) o 5 (-1)) o 6 (-1)
def sN : MSt := mI z0 78 8 (-1)
def CC8_70 (Y : CY) (σ : MSt) (u : Nat → Nat) : va_W := [
  (u 70, .inr (8, FX8 u 70 σ))]
def rmi8_70 : Room := { frames := 1, cells := 0, slots := 0, locals := 12 }
set_option maxHeartbeats 4000000 in
set_option maxRecDepth 100000 in
theorem i_X8_init_70 (l : Launch) (G : va_G) (Y : CY) (h0 : Nat) : i_M l yX8_init wsX8_init rmi8_70 G Y [(h0, .inr (8, [.int 0, .int 0, .int 0, .int 0, .int 0, .int 0, .int 0, .int 0]))] [.ref h0] 70 h0 (CC8_70 Y  z0) 0 0 := by
  refine i_of (own := RX8) (cc := cX8_init) (maxL := 1) (by decide) rfl rfl rfl (Nat.le_of_ble_eq_true rfl) ?_
  intro p e s m below meth c A C hname ls hl hP hD hS
  have hx := C.1
  have hb := C.2.1
  have hown := C.2.2.2.2.1
  have hts := C.2.2.2.2.2.1
  have hks := C.2.2.2.2.2.2.1
  have hA := C.2.2.2.2.2.2.2.2.1
  have hl : lv_has ls 1 [(0, .ref h0)] := hl
  refine lv_aload_n hx hb dX8_init_0 rfl (lv_at hl 0 rfl) ?_
  refine W.objInit hx hb hown (hts (.methodLink RX8 3 objectInit) (by decide +kernel)) (hts (.instanceMethod objectInit) (by decide +kernel)) (hts (.code objectInit ⟨#[0xb1]⟩ 1 none) (by decide +kernel)) rfl (by rw [C.2.2.2.1]; exact hl.1) rfl dX8_init_1 (Nat.le_of_ble_eq_true rfl) (Nat.le_of_ble_eq_true rfl) ?_
  refine W.eq (g2 := F0 m 4 ls []) rfl ?_
  exact i_ret (o := 70) (CE := CC8_70 Y  z0) C (fun k =>  h0) rfl (hP.sub [0] rfl) (hD.sub [0] (by decide) rfl) hS dX8_init_4
def CC8_72 (Y : CY) (σ : MSt) (u : Nat → Nat) : va_W := [
  (u 72, .inr (8, FX8 u 72 σ))]
def rmi8_72 : Room := { frames := 1, cells := 0, slots := 0, locals := 12 }
set_option maxHeartbeats 4000000 in
set_option maxRecDepth 100000 in
theorem i_X8_init_72 (l : Launch) (G : va_G) (Y : CY) (h0 : Nat) : i_M l yX8_init wsX8_init rmi8_72 G Y [(h0, .inr (8, [.int 0, .int 0, .int 0, .int 0, .int 0, .int 0, .int 0, .int 0]))] [.ref h0] 72 h0 (CC8_72 Y  z0) 0 0 := by
  refine i_of (own := RX8) (cc := cX8_init) (maxL := 1) (by decide) rfl rfl rfl (Nat.le_of_ble_eq_true rfl) ?_
  intro p e s m below meth c A C hname ls hl hP hD hS
  have hx := C.1
  have hb := C.2.1
  have hown := C.2.2.2.2.1
  have hts := C.2.2.2.2.2.1
  have hks := C.2.2.2.2.2.2.1
  have hA := C.2.2.2.2.2.2.2.2.1
  have hl : lv_has ls 1 [(0, .ref h0)] := hl
  refine lv_aload_n hx hb dX8_init_0 rfl (lv_at hl 0 rfl) ?_
  refine W.objInit hx hb hown (hts (.methodLink RX8 3 objectInit) (by decide +kernel)) (hts (.instanceMethod objectInit) (by decide +kernel)) (hts (.code objectInit ⟨#[0xb1]⟩ 1 none) (by decide +kernel)) rfl (by rw [C.2.2.2.1]; exact hl.1) rfl dX8_init_1 (Nat.le_of_ble_eq_true rfl) (Nat.le_of_ble_eq_true rfl) ?_
  refine W.eq (g2 := F0 m 4 ls []) rfl ?_
  exact i_ret (o := 72) (CE := CC8_72 Y  z0) C (fun k =>  h0) rfl (hP.sub [0] rfl) (hD.sub [0] (by decide) rfl) hS dX8_init_4
def CC4_17 (Y : CY) (σ : MSt) (u : Nat → Nat) : va_W := [
  (u 17, .inr (4, FX4 u 17 σ)),
  (u 18, .inl (Y.2.1, 64, .inl (σ.1 18))),
  (u 19, .inl (Y.2.1, 64, .inl (σ.1 19))),
  (u 20, .inl (Y.2.1, 3, .inl (σ.1 20))),
  (u 21, .inl (Y.2.1, 3, .inl (σ.1 21))),
  (u 22, .inl (Y.2.2.1, 64, .inr (.inl (σ.2 22))))]
def rmi4_17 : Room := { frames := 1, cells := 5, slots := 198, locals := 12 }
set_option maxHeartbeats 4000000 in
set_option maxRecDepth 100000 in
theorem i_X4_init_17 (l : Launch) (G : va_G) (Y : CY) (h0 : Nat) : i_M l yX4_init wsX4_init rmi4_17 G Y [(h0, .inr (4, [.null, .null, .null, .null, .null, .int 0]))] [.ref h0] 17 h0 (CC4_17 Y  z0) 5 198 := by
  refine i_of (own := RX4) (cc := cX4_init) (maxL := 1) (by decide) rfl rfl rfl (Nat.le_of_ble_eq_true rfl) ?_
  intro p e s m below meth c A C hname ls hl hP hD hS
  have hx := C.1
  have hb := C.2.1
  have hown := C.2.2.2.2.1
  have hts := C.2.2.2.2.2.1
  have hks := C.2.2.2.2.2.2.1
  have hA := C.2.2.2.2.2.2.2.2.1
  have hl : lv_has ls 1 [(0, .ref h0)] := hl
  refine lv_aload_n hx hb dX4_init_0 rfl (lv_at hl 0 rfl) ?_
  refine W.objInit hx hb hown (hts (.methodLink RX4 3 objectInit) (by decide +kernel)) (hts (.instanceMethod objectInit) (by decide +kernel)) (hts (.code objectInit ⟨#[0xb1]⟩ 1 none) (by decide +kernel)) rfl (by rw [C.2.2.2.1]; exact hl.1) rfl dX4_init_1 (Nat.le_of_ble_eq_true rfl) (Nat.le_of_ble_eq_true rfl) ?_
  refine W.eq (g2 := F0 m 4 ls []) rfl ?_
  refine lv_aload_n hx hb dX4_init_4 rfl (lv_at hl 0 rfl) ?_
  refine lv_bipush (v := (64 : Int32)) hx hb dX4_init_5 (by decide) ?_
  refine i_newa (atype := .int) (ty := .int) (n := 64) C hP hD hS 1 rfl (cA := Y.2.1) rfl (fun _ h => h) (hts (.arrayClass .int) (by decide +kernel)) (a0 := (64, .inl (fun _ => 0))) (N' := 64) (fun _ => rfl) (by decide) (by decide) (by show 64 * 4 ≤ 536870912; omega) (Nat.le_of_ble_eq_true rfl) (Nat.le_of_ble_eq_true rfl) dX4_init_7 (fun q7 H hP hD hS => ?_)
  have hP : va_P G vwCl [(h0, .inr (4, [.null, .null, .null, .null, .null, .int 0])), (q7, .inl (Y.2.1, 64, .inl (fun _ => 0)))] H := hP
  have hD : va_D A [(h0, .inr (4, [.null, .null, .null, .null, .null, .int 0])), (q7, .inl (Y.2.1, 64, .inl (fun _ => 0)))] := hD
  refine W.widen (k := 1) (n := 64) (by decide) (by decide) ?_
  refine va_putF (ci := 4) (v := .ref q7) hx hb hks.ts k_in4 tyX4 tyX4_ok nmX4 hown hks.1 hP hD hS 0 rfl rfl 0 (by decide) (hks.ts _ lk4_9) (fun _ h => h) rfl hname rfl (tyX4_ok 0 (by decide)) rfl rfl (Nat.le_of_ble_eq_true rfl) dX4_init_9 (fun H locs hP hD hS => ?_)
  have hP : va_P G vwCl [(h0, .inr (4, [.ref q7, .null, .null, .null, .null, .int 0])), (q7, .inl (Y.2.1, 64, .inl (fun _ => 0)))] H := hP
  have hD : va_D A [(h0, .inr (4, [.ref q7, .null, .null, .null, .null, .int 0])), (q7, .inl (Y.2.1, 64, .inl (fun _ => 0)))] := hD
  refine lv_aload_n hx hb dX4_init_12 rfl (lv_at hl 0 rfl) ?_
  refine lv_bipush (v := (64 : Int32)) hx hb dX4_init_13 (by decide) ?_
  refine i_newa (atype := .int) (ty := .int) (n := 64) C hP hD hS 1 rfl (cA := Y.2.1) rfl (fun _ h => h) (hts (.arrayClass .int) (by decide +kernel)) (a0 := (64, .inl (fun _ => 0))) (N' := 64) (fun _ => rfl) (by decide) (by decide) (by show 64 * 4 ≤ 536870912; omega) (Nat.le_of_ble_eq_true rfl) (Nat.le_of_ble_eq_true rfl) dX4_init_15 (fun q15 H hP hD hS => ?_)
  have hP : va_P G vwCl [(h0, .inr (4, [.ref q7, .null, .null, .null, .null, .int 0])), (q7, .inl (Y.2.1, 64, .inl (fun _ => 0))), (q15, .inl (Y.2.1, 64, .inl (fun _ => 0)))] H := hP
  have hD : va_D A [(h0, .inr (4, [.ref q7, .null, .null, .null, .null, .int 0])), (q7, .inl (Y.2.1, 64, .inl (fun _ => 0))), (q15, .inl (Y.2.1, 64, .inl (fun _ => 0)))] := hD
  refine W.widen (k := 2) (n := 128) (by decide) (by decide) ?_
  refine va_putF (ci := 4) (v := .ref q15) hx hb hks.ts k_in4 tyX4 tyX4_ok nmX4 hown hks.1 hP hD hS 0 rfl rfl 1 (by decide) (hks.ts _ lk4_15) (fun _ h => h) rfl hname rfl (tyX4_ok 1 (by decide)) rfl rfl (Nat.le_of_ble_eq_true rfl) dX4_init_17 (fun H locs hP hD hS => ?_)
  have hP : va_P G vwCl [(h0, .inr (4, [.ref q7, .ref q15, .null, .null, .null, .int 0])), (q7, .inl (Y.2.1, 64, .inl (fun _ => 0))), (q15, .inl (Y.2.1, 64, .inl (fun _ => 0)))] H := hP
  have hD : va_D A [(h0, .inr (4, [.ref q7, .ref q15, .null, .null, .null, .int 0])), (q7, .inl (Y.2.1, 64, .inl (fun _ => 0))), (q15, .inl (Y.2.1, 64, .inl (fun _ => 0)))] := hD
  refine lv_aload_n hx hb dX4_init_20 rfl (lv_at hl 0 rfl) ?_
  refine lv_iconst (v := (3 : Int32)) hx hb dX4_init_21 (by decide) ?_
  refine i_newa (atype := .int) (ty := .int) (n := 3) C hP hD hS 1 rfl (cA := Y.2.1) rfl (fun _ h => h) (hts (.arrayClass .int) (by decide +kernel)) (a0 := (3, .inl (fun _ => 0))) (N' := 3) (fun _ => rfl) (by decide) (by decide) (by show 3 * 4 ≤ 536870912; omega) (Nat.le_of_ble_eq_true rfl) (Nat.le_of_ble_eq_true rfl) dX4_init_22 (fun q22 H hP hD hS => ?_)
  have hP : va_P G vwCl [(h0, .inr (4, [.ref q7, .ref q15, .null, .null, .null, .int 0])), (q7, .inl (Y.2.1, 64, .inl (fun _ => 0))), (q15, .inl (Y.2.1, 64, .inl (fun _ => 0))), (q22, .inl (Y.2.1, 3, .inl (fun _ => 0)))] H := hP
  have hD : va_D A [(h0, .inr (4, [.ref q7, .ref q15, .null, .null, .null, .int 0])), (q7, .inl (Y.2.1, 64, .inl (fun _ => 0))), (q15, .inl (Y.2.1, 64, .inl (fun _ => 0))), (q22, .inl (Y.2.1, 3, .inl (fun _ => 0)))] := hD
  refine W.widen (k := 3) (n := 131) (by decide) (by decide) ?_
  refine va_putF (ci := 4) (v := .ref q22) hx hb hks.ts k_in4 tyX4 tyX4_ok nmX4 hown hks.1 hP hD hS 0 rfl rfl 2 (by decide) (hks.ts _ lk4_18) (fun _ h => h) rfl hname rfl (tyX4_ok 2 (by decide)) rfl rfl (Nat.le_of_ble_eq_true rfl) dX4_init_24 (fun H locs hP hD hS => ?_)
  have hP : va_P G vwCl [(h0, .inr (4, [.ref q7, .ref q15, .ref q22, .null, .null, .int 0])), (q7, .inl (Y.2.1, 64, .inl (fun _ => 0))), (q15, .inl (Y.2.1, 64, .inl (fun _ => 0))), (q22, .inl (Y.2.1, 3, .inl (fun _ => 0)))] H := hP
  have hD : va_D A [(h0, .inr (4, [.ref q7, .ref q15, .ref q22, .null, .null, .int 0])), (q7, .inl (Y.2.1, 64, .inl (fun _ => 0))), (q15, .inl (Y.2.1, 64, .inl (fun _ => 0))), (q22, .inl (Y.2.1, 3, .inl (fun _ => 0)))] := hD
  refine lv_aload_n hx hb dX4_init_27 rfl (lv_at hl 0 rfl) ?_
  refine lv_iconst (v := (3 : Int32)) hx hb dX4_init_28 (by decide) ?_
  refine i_newa (atype := .int) (ty := .int) (n := 3) C hP hD hS 1 rfl (cA := Y.2.1) rfl (fun _ h => h) (hts (.arrayClass .int) (by decide +kernel)) (a0 := (3, .inl (fun _ => 0))) (N' := 3) (fun _ => rfl) (by decide) (by decide) (by show 3 * 4 ≤ 536870912; omega) (Nat.le_of_ble_eq_true rfl) (Nat.le_of_ble_eq_true rfl) dX4_init_29 (fun q29 H hP hD hS => ?_)
  have hP : va_P G vwCl [(h0, .inr (4, [.ref q7, .ref q15, .ref q22, .null, .null, .int 0])), (q7, .inl (Y.2.1, 64, .inl (fun _ => 0))), (q15, .inl (Y.2.1, 64, .inl (fun _ => 0))), (q22, .inl (Y.2.1, 3, .inl (fun _ => 0))), (q29, .inl (Y.2.1, 3, .inl (fun _ => 0)))] H := hP
  have hD : va_D A [(h0, .inr (4, [.ref q7, .ref q15, .ref q22, .null, .null, .int 0])), (q7, .inl (Y.2.1, 64, .inl (fun _ => 0))), (q15, .inl (Y.2.1, 64, .inl (fun _ => 0))), (q22, .inl (Y.2.1, 3, .inl (fun _ => 0))), (q29, .inl (Y.2.1, 3, .inl (fun _ => 0)))] := hD
  refine W.widen (k := 4) (n := 134) (by decide) (by decide) ?_
  refine va_putF (ci := 4) (v := .ref q29) hx hb hks.ts k_in4 tyX4 tyX4_ok nmX4 hown hks.1 hP hD hS 0 rfl rfl 3 (by decide) (hks.ts _ lk4_21) (fun _ h => h) rfl hname rfl (tyX4_ok 3 (by decide)) rfl rfl (Nat.le_of_ble_eq_true rfl) dX4_init_31 (fun H locs hP hD hS => ?_)
  have hP : va_P G vwCl [(h0, .inr (4, [.ref q7, .ref q15, .ref q22, .ref q29, .null, .int 0])), (q7, .inl (Y.2.1, 64, .inl (fun _ => 0))), (q15, .inl (Y.2.1, 64, .inl (fun _ => 0))), (q22, .inl (Y.2.1, 3, .inl (fun _ => 0))), (q29, .inl (Y.2.1, 3, .inl (fun _ => 0)))] H := hP
  have hD : va_D A [(h0, .inr (4, [.ref q7, .ref q15, .ref q22, .ref q29, .null, .int 0])), (q7, .inl (Y.2.1, 64, .inl (fun _ => 0))), (q15, .inl (Y.2.1, 64, .inl (fun _ => 0))), (q22, .inl (Y.2.1, 3, .inl (fun _ => 0))), (q29, .inl (Y.2.1, 3, .inl (fun _ => 0)))] := hD
  refine lv_aload_n hx hb dX4_init_34 rfl (lv_at hl 0 rfl) ?_
  refine lv_bipush (v := (64 : Int32)) hx hb dX4_init_35 (by decide) ?_
  refine i_newa (atype := .long) (ty := .long) (n := 64) C hP hD hS 2 rfl (cA := Y.2.2.1) rfl (fun _ h => h) (hts (.arrayClass .long) (by decide +kernel)) (a0 := (64, .inr (.inl (fun _ => 0)))) (N' := 64) (fun _ => rfl) (by decide) (by decide) (by show 64 * 8 ≤ 536870912; omega) (Nat.le_of_ble_eq_true rfl) (Nat.le_of_ble_eq_true rfl) dX4_init_37 (fun q37 H hP hD hS => ?_)
  have hP : va_P G vwCl [(h0, .inr (4, [.ref q7, .ref q15, .ref q22, .ref q29, .null, .int 0])), (q7, .inl (Y.2.1, 64, .inl (fun _ => 0))), (q15, .inl (Y.2.1, 64, .inl (fun _ => 0))), (q22, .inl (Y.2.1, 3, .inl (fun _ => 0))), (q29, .inl (Y.2.1, 3, .inl (fun _ => 0))), (q37, .inl (Y.2.2.1, 64, .inr (.inl (fun _ => 0))))] H := hP
  have hD : va_D A [(h0, .inr (4, [.ref q7, .ref q15, .ref q22, .ref q29, .null, .int 0])), (q7, .inl (Y.2.1, 64, .inl (fun _ => 0))), (q15, .inl (Y.2.1, 64, .inl (fun _ => 0))), (q22, .inl (Y.2.1, 3, .inl (fun _ => 0))), (q29, .inl (Y.2.1, 3, .inl (fun _ => 0))), (q37, .inl (Y.2.2.1, 64, .inr (.inl (fun _ => 0))))] := hD
  refine W.widen (k := 5) (n := 198) (by decide) (by decide) ?_
  refine va_putF (ci := 4) (v := .ref q37) hx hb hks.ts k_in4 tyX4 tyX4_ok nmX4 hown hks.1 hP hD hS 0 rfl rfl 4 (by decide) (hks.ts _ lk4_24) (fun _ h => h) rfl hname rfl (tyX4_ok 4 (by decide)) rfl rfl (Nat.le_of_ble_eq_true rfl) dX4_init_39 (fun H locs hP hD hS => ?_)
  have hP : va_P G vwCl [(h0, .inr (4, [.ref q7, .ref q15, .ref q22, .ref q29, .ref q37, .int 0])), (q7, .inl (Y.2.1, 64, .inl (fun _ => 0))), (q15, .inl (Y.2.1, 64, .inl (fun _ => 0))), (q22, .inl (Y.2.1, 3, .inl (fun _ => 0))), (q29, .inl (Y.2.1, 3, .inl (fun _ => 0))), (q37, .inl (Y.2.2.1, 64, .inr (.inl (fun _ => 0))))] H := hP
  have hD : va_D A [(h0, .inr (4, [.ref q7, .ref q15, .ref q22, .ref q29, .ref q37, .int 0])), (q7, .inl (Y.2.1, 64, .inl (fun _ => 0))), (q15, .inl (Y.2.1, 64, .inl (fun _ => 0))), (q22, .inl (Y.2.1, 3, .inl (fun _ => 0))), (q29, .inl (Y.2.1, 3, .inl (fun _ => 0))), (q37, .inl (Y.2.2.1, 64, .inr (.inl (fun _ => 0))))] := hD
  exact i_ret (o := 17) (CE := CC4_17 Y  z0) C (fun k => if k = 17 then h0 else if k = 18 then q7 else if k = 19 then q15 else if k = 20 then q22 else if k = 21 then q29 else q37) rfl (hP.sub [0, 1, 2, 3, 4, 5] rfl) (hD.sub [0, 1, 2, 3, 4, 5] (by decide) rfl) hS dX4_init_42
def CC4_37 (Y : CY) (σ : MSt) (u : Nat → Nat) : va_W := [
  (u 37, .inr (4, FX4 u 37 σ)),
  (u 38, .inl (Y.2.1, 64, .inl (σ.1 38))),
  (u 39, .inl (Y.2.1, 64, .inl (σ.1 39))),
  (u 40, .inl (Y.2.1, 3, .inl (σ.1 40))),
  (u 41, .inl (Y.2.1, 3, .inl (σ.1 41))),
  (u 42, .inl (Y.2.2.1, 64, .inr (.inl (σ.2 42))))]
def rmi4_37 : Room := { frames := 1, cells := 5, slots := 198, locals := 12 }
set_option maxHeartbeats 4000000 in
set_option maxRecDepth 100000 in
theorem i_X4_init_37 (l : Launch) (G : va_G) (Y : CY) (h0 : Nat) : i_M l yX4_init wsX4_init rmi4_37 G Y [(h0, .inr (4, [.null, .null, .null, .null, .null, .int 0]))] [.ref h0] 37 h0 (CC4_37 Y  z0) 5 198 := by
  refine i_of (own := RX4) (cc := cX4_init) (maxL := 1) (by decide) rfl rfl rfl (Nat.le_of_ble_eq_true rfl) ?_
  intro p e s m below meth c A C hname ls hl hP hD hS
  have hx := C.1
  have hb := C.2.1
  have hown := C.2.2.2.2.1
  have hts := C.2.2.2.2.2.1
  have hks := C.2.2.2.2.2.2.1
  have hA := C.2.2.2.2.2.2.2.2.1
  have hl : lv_has ls 1 [(0, .ref h0)] := hl
  refine lv_aload_n hx hb dX4_init_0 rfl (lv_at hl 0 rfl) ?_
  refine W.objInit hx hb hown (hts (.methodLink RX4 3 objectInit) (by decide +kernel)) (hts (.instanceMethod objectInit) (by decide +kernel)) (hts (.code objectInit ⟨#[0xb1]⟩ 1 none) (by decide +kernel)) rfl (by rw [C.2.2.2.1]; exact hl.1) rfl dX4_init_1 (Nat.le_of_ble_eq_true rfl) (Nat.le_of_ble_eq_true rfl) ?_
  refine W.eq (g2 := F0 m 4 ls []) rfl ?_
  refine lv_aload_n hx hb dX4_init_4 rfl (lv_at hl 0 rfl) ?_
  refine lv_bipush (v := (64 : Int32)) hx hb dX4_init_5 (by decide) ?_
  refine i_newa (atype := .int) (ty := .int) (n := 64) C hP hD hS 1 rfl (cA := Y.2.1) rfl (fun _ h => h) (hts (.arrayClass .int) (by decide +kernel)) (a0 := (64, .inl (fun _ => 0))) (N' := 64) (fun _ => rfl) (by decide) (by decide) (by show 64 * 4 ≤ 536870912; omega) (Nat.le_of_ble_eq_true rfl) (Nat.le_of_ble_eq_true rfl) dX4_init_7 (fun q7 H hP hD hS => ?_)
  have hP : va_P G vwCl [(h0, .inr (4, [.null, .null, .null, .null, .null, .int 0])), (q7, .inl (Y.2.1, 64, .inl (fun _ => 0)))] H := hP
  have hD : va_D A [(h0, .inr (4, [.null, .null, .null, .null, .null, .int 0])), (q7, .inl (Y.2.1, 64, .inl (fun _ => 0)))] := hD
  refine W.widen (k := 1) (n := 64) (by decide) (by decide) ?_
  refine va_putF (ci := 4) (v := .ref q7) hx hb hks.ts k_in4 tyX4 tyX4_ok nmX4 hown hks.1 hP hD hS 0 rfl rfl 0 (by decide) (hks.ts _ lk4_9) (fun _ h => h) rfl hname rfl (tyX4_ok 0 (by decide)) rfl rfl (Nat.le_of_ble_eq_true rfl) dX4_init_9 (fun H locs hP hD hS => ?_)
  have hP : va_P G vwCl [(h0, .inr (4, [.ref q7, .null, .null, .null, .null, .int 0])), (q7, .inl (Y.2.1, 64, .inl (fun _ => 0)))] H := hP
  have hD : va_D A [(h0, .inr (4, [.ref q7, .null, .null, .null, .null, .int 0])), (q7, .inl (Y.2.1, 64, .inl (fun _ => 0)))] := hD
  refine lv_aload_n hx hb dX4_init_12 rfl (lv_at hl 0 rfl) ?_
  refine lv_bipush (v := (64 : Int32)) hx hb dX4_init_13 (by decide) ?_
  refine i_newa (atype := .int) (ty := .int) (n := 64) C hP hD hS 1 rfl (cA := Y.2.1) rfl (fun _ h => h) (hts (.arrayClass .int) (by decide +kernel)) (a0 := (64, .inl (fun _ => 0))) (N' := 64) (fun _ => rfl) (by decide) (by decide) (by show 64 * 4 ≤ 536870912; omega) (Nat.le_of_ble_eq_true rfl) (Nat.le_of_ble_eq_true rfl) dX4_init_15 (fun q15 H hP hD hS => ?_)
  have hP : va_P G vwCl [(h0, .inr (4, [.ref q7, .null, .null, .null, .null, .int 0])), (q7, .inl (Y.2.1, 64, .inl (fun _ => 0))), (q15, .inl (Y.2.1, 64, .inl (fun _ => 0)))] H := hP
  have hD : va_D A [(h0, .inr (4, [.ref q7, .null, .null, .null, .null, .int 0])), (q7, .inl (Y.2.1, 64, .inl (fun _ => 0))), (q15, .inl (Y.2.1, 64, .inl (fun _ => 0)))] := hD
  refine W.widen (k := 2) (n := 128) (by decide) (by decide) ?_
  refine va_putF (ci := 4) (v := .ref q15) hx hb hks.ts k_in4 tyX4 tyX4_ok nmX4 hown hks.1 hP hD hS 0 rfl rfl 1 (by decide) (hks.ts _ lk4_15) (fun _ h => h) rfl hname rfl (tyX4_ok 1 (by decide)) rfl rfl (Nat.le_of_ble_eq_true rfl) dX4_init_17 (fun H locs hP hD hS => ?_)
  have hP : va_P G vwCl [(h0, .inr (4, [.ref q7, .ref q15, .null, .null, .null, .int 0])), (q7, .inl (Y.2.1, 64, .inl (fun _ => 0))), (q15, .inl (Y.2.1, 64, .inl (fun _ => 0)))] H := hP
  have hD : va_D A [(h0, .inr (4, [.ref q7, .ref q15, .null, .null, .null, .int 0])), (q7, .inl (Y.2.1, 64, .inl (fun _ => 0))), (q15, .inl (Y.2.1, 64, .inl (fun _ => 0)))] := hD
  refine lv_aload_n hx hb dX4_init_20 rfl (lv_at hl 0 rfl) ?_
  refine lv_iconst (v := (3 : Int32)) hx hb dX4_init_21 (by decide) ?_
  refine i_newa (atype := .int) (ty := .int) (n := 3) C hP hD hS 1 rfl (cA := Y.2.1) rfl (fun _ h => h) (hts (.arrayClass .int) (by decide +kernel)) (a0 := (3, .inl (fun _ => 0))) (N' := 3) (fun _ => rfl) (by decide) (by decide) (by show 3 * 4 ≤ 536870912; omega) (Nat.le_of_ble_eq_true rfl) (Nat.le_of_ble_eq_true rfl) dX4_init_22 (fun q22 H hP hD hS => ?_)
  have hP : va_P G vwCl [(h0, .inr (4, [.ref q7, .ref q15, .null, .null, .null, .int 0])), (q7, .inl (Y.2.1, 64, .inl (fun _ => 0))), (q15, .inl (Y.2.1, 64, .inl (fun _ => 0))), (q22, .inl (Y.2.1, 3, .inl (fun _ => 0)))] H := hP
  have hD : va_D A [(h0, .inr (4, [.ref q7, .ref q15, .null, .null, .null, .int 0])), (q7, .inl (Y.2.1, 64, .inl (fun _ => 0))), (q15, .inl (Y.2.1, 64, .inl (fun _ => 0))), (q22, .inl (Y.2.1, 3, .inl (fun _ => 0)))] := hD
  refine W.widen (k := 3) (n := 131) (by decide) (by decide) ?_
  refine va_putF (ci := 4) (v := .ref q22) hx hb hks.ts k_in4 tyX4 tyX4_ok nmX4 hown hks.1 hP hD hS 0 rfl rfl 2 (by decide) (hks.ts _ lk4_18) (fun _ h => h) rfl hname rfl (tyX4_ok 2 (by decide)) rfl rfl (Nat.le_of_ble_eq_true rfl) dX4_init_24 (fun H locs hP hD hS => ?_)
  have hP : va_P G vwCl [(h0, .inr (4, [.ref q7, .ref q15, .ref q22, .null, .null, .int 0])), (q7, .inl (Y.2.1, 64, .inl (fun _ => 0))), (q15, .inl (Y.2.1, 64, .inl (fun _ => 0))), (q22, .inl (Y.2.1, 3, .inl (fun _ => 0)))] H := hP
  have hD : va_D A [(h0, .inr (4, [.ref q7, .ref q15, .ref q22, .null, .null, .int 0])), (q7, .inl (Y.2.1, 64, .inl (fun _ => 0))), (q15, .inl (Y.2.1, 64, .inl (fun _ => 0))), (q22, .inl (Y.2.1, 3, .inl (fun _ => 0)))] := hD
  refine lv_aload_n hx hb dX4_init_27 rfl (lv_at hl 0 rfl) ?_
  refine lv_iconst (v := (3 : Int32)) hx hb dX4_init_28 (by decide) ?_
  refine i_newa (atype := .int) (ty := .int) (n := 3) C hP hD hS 1 rfl (cA := Y.2.1) rfl (fun _ h => h) (hts (.arrayClass .int) (by decide +kernel)) (a0 := (3, .inl (fun _ => 0))) (N' := 3) (fun _ => rfl) (by decide) (by decide) (by show 3 * 4 ≤ 536870912; omega) (Nat.le_of_ble_eq_true rfl) (Nat.le_of_ble_eq_true rfl) dX4_init_29 (fun q29 H hP hD hS => ?_)
  have hP : va_P G vwCl [(h0, .inr (4, [.ref q7, .ref q15, .ref q22, .null, .null, .int 0])), (q7, .inl (Y.2.1, 64, .inl (fun _ => 0))), (q15, .inl (Y.2.1, 64, .inl (fun _ => 0))), (q22, .inl (Y.2.1, 3, .inl (fun _ => 0))), (q29, .inl (Y.2.1, 3, .inl (fun _ => 0)))] H := hP
  have hD : va_D A [(h0, .inr (4, [.ref q7, .ref q15, .ref q22, .null, .null, .int 0])), (q7, .inl (Y.2.1, 64, .inl (fun _ => 0))), (q15, .inl (Y.2.1, 64, .inl (fun _ => 0))), (q22, .inl (Y.2.1, 3, .inl (fun _ => 0))), (q29, .inl (Y.2.1, 3, .inl (fun _ => 0)))] := hD
  refine W.widen (k := 4) (n := 134) (by decide) (by decide) ?_
  refine va_putF (ci := 4) (v := .ref q29) hx hb hks.ts k_in4 tyX4 tyX4_ok nmX4 hown hks.1 hP hD hS 0 rfl rfl 3 (by decide) (hks.ts _ lk4_21) (fun _ h => h) rfl hname rfl (tyX4_ok 3 (by decide)) rfl rfl (Nat.le_of_ble_eq_true rfl) dX4_init_31 (fun H locs hP hD hS => ?_)
  have hP : va_P G vwCl [(h0, .inr (4, [.ref q7, .ref q15, .ref q22, .ref q29, .null, .int 0])), (q7, .inl (Y.2.1, 64, .inl (fun _ => 0))), (q15, .inl (Y.2.1, 64, .inl (fun _ => 0))), (q22, .inl (Y.2.1, 3, .inl (fun _ => 0))), (q29, .inl (Y.2.1, 3, .inl (fun _ => 0)))] H := hP
  have hD : va_D A [(h0, .inr (4, [.ref q7, .ref q15, .ref q22, .ref q29, .null, .int 0])), (q7, .inl (Y.2.1, 64, .inl (fun _ => 0))), (q15, .inl (Y.2.1, 64, .inl (fun _ => 0))), (q22, .inl (Y.2.1, 3, .inl (fun _ => 0))), (q29, .inl (Y.2.1, 3, .inl (fun _ => 0)))] := hD
  refine lv_aload_n hx hb dX4_init_34 rfl (lv_at hl 0 rfl) ?_
  refine lv_bipush (v := (64 : Int32)) hx hb dX4_init_35 (by decide) ?_
  refine i_newa (atype := .long) (ty := .long) (n := 64) C hP hD hS 2 rfl (cA := Y.2.2.1) rfl (fun _ h => h) (hts (.arrayClass .long) (by decide +kernel)) (a0 := (64, .inr (.inl (fun _ => 0)))) (N' := 64) (fun _ => rfl) (by decide) (by decide) (by show 64 * 8 ≤ 536870912; omega) (Nat.le_of_ble_eq_true rfl) (Nat.le_of_ble_eq_true rfl) dX4_init_37 (fun q37 H hP hD hS => ?_)
  have hP : va_P G vwCl [(h0, .inr (4, [.ref q7, .ref q15, .ref q22, .ref q29, .null, .int 0])), (q7, .inl (Y.2.1, 64, .inl (fun _ => 0))), (q15, .inl (Y.2.1, 64, .inl (fun _ => 0))), (q22, .inl (Y.2.1, 3, .inl (fun _ => 0))), (q29, .inl (Y.2.1, 3, .inl (fun _ => 0))), (q37, .inl (Y.2.2.1, 64, .inr (.inl (fun _ => 0))))] H := hP
  have hD : va_D A [(h0, .inr (4, [.ref q7, .ref q15, .ref q22, .ref q29, .null, .int 0])), (q7, .inl (Y.2.1, 64, .inl (fun _ => 0))), (q15, .inl (Y.2.1, 64, .inl (fun _ => 0))), (q22, .inl (Y.2.1, 3, .inl (fun _ => 0))), (q29, .inl (Y.2.1, 3, .inl (fun _ => 0))), (q37, .inl (Y.2.2.1, 64, .inr (.inl (fun _ => 0))))] := hD
  refine W.widen (k := 5) (n := 198) (by decide) (by decide) ?_
  refine va_putF (ci := 4) (v := .ref q37) hx hb hks.ts k_in4 tyX4 tyX4_ok nmX4 hown hks.1 hP hD hS 0 rfl rfl 4 (by decide) (hks.ts _ lk4_24) (fun _ h => h) rfl hname rfl (tyX4_ok 4 (by decide)) rfl rfl (Nat.le_of_ble_eq_true rfl) dX4_init_39 (fun H locs hP hD hS => ?_)
  have hP : va_P G vwCl [(h0, .inr (4, [.ref q7, .ref q15, .ref q22, .ref q29, .ref q37, .int 0])), (q7, .inl (Y.2.1, 64, .inl (fun _ => 0))), (q15, .inl (Y.2.1, 64, .inl (fun _ => 0))), (q22, .inl (Y.2.1, 3, .inl (fun _ => 0))), (q29, .inl (Y.2.1, 3, .inl (fun _ => 0))), (q37, .inl (Y.2.2.1, 64, .inr (.inl (fun _ => 0))))] H := hP
  have hD : va_D A [(h0, .inr (4, [.ref q7, .ref q15, .ref q22, .ref q29, .ref q37, .int 0])), (q7, .inl (Y.2.1, 64, .inl (fun _ => 0))), (q15, .inl (Y.2.1, 64, .inl (fun _ => 0))), (q22, .inl (Y.2.1, 3, .inl (fun _ => 0))), (q29, .inl (Y.2.1, 3, .inl (fun _ => 0))), (q37, .inl (Y.2.2.1, 64, .inr (.inl (fun _ => 0))))] := hD
  exact i_ret (o := 37) (CE := CC4_37 Y  z0) C (fun k => if k = 37 then h0 else if k = 38 then q7 else if k = 39 then q15 else if k = 40 then q22 else if k = 41 then q29 else q37) rfl (hP.sub [0, 1, 2, 3, 4, 5] rfl) (hD.sub [0, 1, 2, 3, 4, 5] (by decide) rfl) hS dX4_init_42
def CC5_50 (Y : CY) (σ : MSt) (u : Nat → Nat) : va_W := [
  (u 50, .inr (5, FX5 u 50 σ)),
  (u 51, .inl (Y.2.1, 8, .inl (σ.1 51))),
  (u 52, .inl (Y.2.1, 8, .inl (σ.1 52))),
  (u 53, .inl (Y.2.1, 8, .inl (σ.1 53)))]
def rmi5_50 : Room := { frames := 1, cells := 3, slots := 24, locals := 12 }
set_option maxHeartbeats 4000000 in
set_option maxRecDepth 100000 in
theorem i_X5_init_50 (l : Launch) (G : va_G) (Y : CY) (h0 : Nat) : i_M l yX5_init wsX5_init rmi5_50 G Y [(h0, .inr (5, [.null, .null, .null, .int 0, .int 0, .int 0, .int 0, .int 0, .long 0, .int 0, .int 0, .int 0]))] [.ref h0] 50 h0 (CC5_50 Y  (sL 50)) 3 24 := by
  refine i_of (own := RX5) (cc := cX5_init) (maxL := 1) (by decide) rfl rfl rfl (Nat.le_of_ble_eq_true rfl) ?_
  intro p e s m below meth c A C hname ls hl hP hD hS
  have hx := C.1
  have hb := C.2.1
  have hown := C.2.2.2.2.1
  have hts := C.2.2.2.2.2.1
  have hks := C.2.2.2.2.2.2.1
  have hA := C.2.2.2.2.2.2.2.2.1
  have hl : lv_has ls 1 [(0, .ref h0)] := hl
  refine lv_aload_n hx hb dX5_init_0 rfl (lv_at hl 0 rfl) ?_
  refine W.objInit hx hb hown (hts (.methodLink RX5 3 objectInit) (by decide +kernel)) (hts (.instanceMethod objectInit) (by decide +kernel)) (hts (.code objectInit ⟨#[0xb1]⟩ 1 none) (by decide +kernel)) rfl (by rw [C.2.2.2.1]; exact hl.1) rfl dX5_init_1 (Nat.le_of_ble_eq_true rfl) (Nat.le_of_ble_eq_true rfl) ?_
  refine W.eq (g2 := F0 m 4 ls []) rfl ?_
  refine lv_aload_n hx hb dX5_init_4 rfl (lv_at hl 0 rfl) ?_
  refine lv_bipush (v := (8 : Int32)) hx hb dX5_init_5 (by decide) ?_
  refine i_newa (atype := .int) (ty := .int) (n := 8) C hP hD hS 1 rfl (cA := Y.2.1) rfl (fun _ h => h) (hts (.arrayClass .int) (by decide +kernel)) (a0 := (8, .inl (fun _ => 0))) (N' := 8) (fun _ => rfl) (by decide) (by decide) (by show 8 * 4 ≤ 536870912; omega) (Nat.le_of_ble_eq_true rfl) (Nat.le_of_ble_eq_true rfl) dX5_init_7 (fun q7 H hP hD hS => ?_)
  have hP : va_P G vwCl [(h0, .inr (5, [.null, .null, .null, .int 0, .int 0, .int 0, .int 0, .int 0, .long 0, .int 0, .int 0, .int 0])), (q7, .inl (Y.2.1, 8, .inl (fun _ => 0)))] H := hP
  have hD : va_D A [(h0, .inr (5, [.null, .null, .null, .int 0, .int 0, .int 0, .int 0, .int 0, .long 0, .int 0, .int 0, .int 0])), (q7, .inl (Y.2.1, 8, .inl (fun _ => 0)))] := hD
  refine W.widen (k := 1) (n := 8) (by decide) (by decide) ?_
  refine va_putF (ci := 5) (v := .ref q7) hx hb hks.ts k_in5 tyX5 tyX5_ok nmX5 hown hks.1 hP hD hS 0 rfl rfl 0 (by decide) (hks.ts _ lk5_9) (fun _ h => h) rfl hname rfl (tyX5_ok 0 (by decide)) rfl rfl (Nat.le_of_ble_eq_true rfl) dX5_init_9 (fun H locs hP hD hS => ?_)
  have hP : va_P G vwCl [(h0, .inr (5, [.ref q7, .null, .null, .int 0, .int 0, .int 0, .int 0, .int 0, .long 0, .int 0, .int 0, .int 0])), (q7, .inl (Y.2.1, 8, .inl (fun _ => 0)))] H := hP
  have hD : va_D A [(h0, .inr (5, [.ref q7, .null, .null, .int 0, .int 0, .int 0, .int 0, .int 0, .long 0, .int 0, .int 0, .int 0])), (q7, .inl (Y.2.1, 8, .inl (fun _ => 0)))] := hD
  refine lv_aload_n hx hb dX5_init_12 rfl (lv_at hl 0 rfl) ?_
  refine lv_bipush (v := (8 : Int32)) hx hb dX5_init_13 (by decide) ?_
  refine i_newa (atype := .int) (ty := .int) (n := 8) C hP hD hS 1 rfl (cA := Y.2.1) rfl (fun _ h => h) (hts (.arrayClass .int) (by decide +kernel)) (a0 := (8, .inl (fun _ => 0))) (N' := 8) (fun _ => rfl) (by decide) (by decide) (by show 8 * 4 ≤ 536870912; omega) (Nat.le_of_ble_eq_true rfl) (Nat.le_of_ble_eq_true rfl) dX5_init_15 (fun q15 H hP hD hS => ?_)
  have hP : va_P G vwCl [(h0, .inr (5, [.ref q7, .null, .null, .int 0, .int 0, .int 0, .int 0, .int 0, .long 0, .int 0, .int 0, .int 0])), (q7, .inl (Y.2.1, 8, .inl (fun _ => 0))), (q15, .inl (Y.2.1, 8, .inl (fun _ => 0)))] H := hP
  have hD : va_D A [(h0, .inr (5, [.ref q7, .null, .null, .int 0, .int 0, .int 0, .int 0, .int 0, .long 0, .int 0, .int 0, .int 0])), (q7, .inl (Y.2.1, 8, .inl (fun _ => 0))), (q15, .inl (Y.2.1, 8, .inl (fun _ => 0)))] := hD
  refine W.widen (k := 2) (n := 16) (by decide) (by decide) ?_
  refine va_putF (ci := 5) (v := .ref q15) hx hb hks.ts k_in5 tyX5 tyX5_ok nmX5 hown hks.1 hP hD hS 0 rfl rfl 1 (by decide) (hks.ts _ lk5_15) (fun _ h => h) rfl hname rfl (tyX5_ok 1 (by decide)) rfl rfl (Nat.le_of_ble_eq_true rfl) dX5_init_17 (fun H locs hP hD hS => ?_)
  have hP : va_P G vwCl [(h0, .inr (5, [.ref q7, .ref q15, .null, .int 0, .int 0, .int 0, .int 0, .int 0, .long 0, .int 0, .int 0, .int 0])), (q7, .inl (Y.2.1, 8, .inl (fun _ => 0))), (q15, .inl (Y.2.1, 8, .inl (fun _ => 0)))] H := hP
  have hD : va_D A [(h0, .inr (5, [.ref q7, .ref q15, .null, .int 0, .int 0, .int 0, .int 0, .int 0, .long 0, .int 0, .int 0, .int 0])), (q7, .inl (Y.2.1, 8, .inl (fun _ => 0))), (q15, .inl (Y.2.1, 8, .inl (fun _ => 0)))] := hD
  refine lv_aload_n hx hb dX5_init_20 rfl (lv_at hl 0 rfl) ?_
  refine lv_bipush (v := (8 : Int32)) hx hb dX5_init_21 (by decide) ?_
  refine i_newa (atype := .int) (ty := .int) (n := 8) C hP hD hS 1 rfl (cA := Y.2.1) rfl (fun _ h => h) (hts (.arrayClass .int) (by decide +kernel)) (a0 := (8, .inl (fun _ => 0))) (N' := 8) (fun _ => rfl) (by decide) (by decide) (by show 8 * 4 ≤ 536870912; omega) (Nat.le_of_ble_eq_true rfl) (Nat.le_of_ble_eq_true rfl) dX5_init_23 (fun q23 H hP hD hS => ?_)
  have hP : va_P G vwCl [(h0, .inr (5, [.ref q7, .ref q15, .null, .int 0, .int 0, .int 0, .int 0, .int 0, .long 0, .int 0, .int 0, .int 0])), (q7, .inl (Y.2.1, 8, .inl (fun _ => 0))), (q15, .inl (Y.2.1, 8, .inl (fun _ => 0))), (q23, .inl (Y.2.1, 8, .inl (fun _ => 0)))] H := hP
  have hD : va_D A [(h0, .inr (5, [.ref q7, .ref q15, .null, .int 0, .int 0, .int 0, .int 0, .int 0, .long 0, .int 0, .int 0, .int 0])), (q7, .inl (Y.2.1, 8, .inl (fun _ => 0))), (q15, .inl (Y.2.1, 8, .inl (fun _ => 0))), (q23, .inl (Y.2.1, 8, .inl (fun _ => 0)))] := hD
  refine W.widen (k := 3) (n := 24) (by decide) (by decide) ?_
  refine va_putF (ci := 5) (v := .ref q23) hx hb hks.ts k_in5 tyX5 tyX5_ok nmX5 hown hks.1 hP hD hS 0 rfl rfl 2 (by decide) (hks.ts _ lk5_18) (fun _ h => h) rfl hname rfl (tyX5_ok 2 (by decide)) rfl rfl (Nat.le_of_ble_eq_true rfl) dX5_init_25 (fun H locs hP hD hS => ?_)
  have hP : va_P G vwCl [(h0, .inr (5, [.ref q7, .ref q15, .ref q23, .int 0, .int 0, .int 0, .int 0, .int 0, .long 0, .int 0, .int 0, .int 0])), (q7, .inl (Y.2.1, 8, .inl (fun _ => 0))), (q15, .inl (Y.2.1, 8, .inl (fun _ => 0))), (q23, .inl (Y.2.1, 8, .inl (fun _ => 0)))] H := hP
  have hD : va_D A [(h0, .inr (5, [.ref q7, .ref q15, .ref q23, .int 0, .int 0, .int 0, .int 0, .int 0, .long 0, .int 0, .int 0, .int 0])), (q7, .inl (Y.2.1, 8, .inl (fun _ => 0))), (q15, .inl (Y.2.1, 8, .inl (fun _ => 0))), (q23, .inl (Y.2.1, 8, .inl (fun _ => 0)))] := hD
  refine lv_aload_n hx hb dX5_init_28 rfl (lv_at hl 0 rfl) ?_
  refine lv_iconst (v := (-1 : Int32)) hx hb dX5_init_29 (by decide) ?_
  refine va_put (ci := 5) (v := .int (-1 : Int32)) hx hb hks.ts k_in5 tyX5 tyX5_ok nmX5 hown hks.1 hP hD hS 0 rfl rfl 4 (by decide) (hks.ts _ lk5_21) (fun _ h => h) rfl (tyX5_ok 4 (by decide)) rfl rfl (Nat.le_of_ble_eq_true rfl) dX5_init_30 (fun H locs hP hD hS => ?_)
  have hP : va_P G vwCl [(h0, .inr (5, [.ref q7, .ref q15, .ref q23, .int 0, .int (-1 : Int32), .int 0, .int 0, .int 0, .long 0, .int 0, .int 0, .int 0])), (q7, .inl (Y.2.1, 8, .inl (fun _ => 0))), (q15, .inl (Y.2.1, 8, .inl (fun _ => 0))), (q23, .inl (Y.2.1, 8, .inl (fun _ => 0)))] H := hP
  have hD : va_D A [(h0, .inr (5, [.ref q7, .ref q15, .ref q23, .int 0, .int (-1 : Int32), .int 0, .int 0, .int 0, .long 0, .int 0, .int 0, .int 0])), (q7, .inl (Y.2.1, 8, .inl (fun _ => 0))), (q15, .inl (Y.2.1, 8, .inl (fun _ => 0))), (q23, .inl (Y.2.1, 8, .inl (fun _ => 0)))] := hD
  refine lv_aload_n hx hb dX5_init_33 rfl (lv_at hl 0 rfl) ?_
  refine lv_iconst (v := (-1 : Int32)) hx hb dX5_init_34 (by decide) ?_
  refine va_put (ci := 5) (v := .int (-1 : Int32)) hx hb hks.ts k_in5 tyX5 tyX5_ok nmX5 hown hks.1 hP hD hS 0 rfl rfl 5 (by decide) (hks.ts _ lk5_25) (fun _ h => h) rfl (tyX5_ok 5 (by decide)) rfl rfl (Nat.le_of_ble_eq_true rfl) dX5_init_35 (fun H locs hP hD hS => ?_)
  have hP : va_P G vwCl [(h0, .inr (5, [.ref q7, .ref q15, .ref q23, .int 0, .int (-1 : Int32), .int (-1 : Int32), .int 0, .int 0, .long 0, .int 0, .int 0, .int 0])), (q7, .inl (Y.2.1, 8, .inl (fun _ => 0))), (q15, .inl (Y.2.1, 8, .inl (fun _ => 0))), (q23, .inl (Y.2.1, 8, .inl (fun _ => 0)))] H := hP
  have hD : va_D A [(h0, .inr (5, [.ref q7, .ref q15, .ref q23, .int 0, .int (-1 : Int32), .int (-1 : Int32), .int 0, .int 0, .long 0, .int 0, .int 0, .int 0])), (q7, .inl (Y.2.1, 8, .inl (fun _ => 0))), (q15, .inl (Y.2.1, 8, .inl (fun _ => 0))), (q23, .inl (Y.2.1, 8, .inl (fun _ => 0)))] := hD
  refine lv_aload_n hx hb dX5_init_38 rfl (lv_at hl 0 rfl) ?_
  refine lv_iconst (v := (-1 : Int32)) hx hb dX5_init_39 (by decide) ?_
  refine va_put (ci := 5) (v := .int (-1 : Int32)) hx hb hks.ts k_in5 tyX5 tyX5_ok nmX5 hown hks.1 hP hD hS 0 rfl rfl 6 (by decide) (hks.ts _ lk5_28) (fun _ h => h) rfl (tyX5_ok 6 (by decide)) rfl rfl (Nat.le_of_ble_eq_true rfl) dX5_init_40 (fun H locs hP hD hS => ?_)
  have hP : va_P G vwCl [(h0, .inr (5, [.ref q7, .ref q15, .ref q23, .int 0, .int (-1 : Int32), .int (-1 : Int32), .int (-1 : Int32), .int 0, .long 0, .int 0, .int 0, .int 0])), (q7, .inl (Y.2.1, 8, .inl (fun _ => 0))), (q15, .inl (Y.2.1, 8, .inl (fun _ => 0))), (q23, .inl (Y.2.1, 8, .inl (fun _ => 0)))] H := hP
  have hD : va_D A [(h0, .inr (5, [.ref q7, .ref q15, .ref q23, .int 0, .int (-1 : Int32), .int (-1 : Int32), .int (-1 : Int32), .int 0, .long 0, .int 0, .int 0, .int 0])), (q7, .inl (Y.2.1, 8, .inl (fun _ => 0))), (q15, .inl (Y.2.1, 8, .inl (fun _ => 0))), (q23, .inl (Y.2.1, 8, .inl (fun _ => 0)))] := hD
  exact i_ret (o := 50) (CE := CC5_50 Y  (sL 50)) C (fun k => if k = 50 then h0 else if k = 51 then q7 else if k = 52 then q15 else q23) rfl (hP.sub [0, 1, 2, 3] rfl) (hD.sub [0, 1, 2, 3] (by decide) rfl) hS dX5_init_43
def CC5_54 (Y : CY) (σ : MSt) (u : Nat → Nat) : va_W := [
  (u 54, .inr (5, FX5 u 54 σ)),
  (u 55, .inl (Y.2.1, 8, .inl (σ.1 55))),
  (u 56, .inl (Y.2.1, 8, .inl (σ.1 56))),
  (u 57, .inl (Y.2.1, 8, .inl (σ.1 57)))]
def rmi5_54 : Room := { frames := 1, cells := 3, slots := 24, locals := 12 }
set_option maxHeartbeats 4000000 in
set_option maxRecDepth 100000 in
theorem i_X5_init_54 (l : Launch) (G : va_G) (Y : CY) (h0 : Nat) : i_M l yX5_init wsX5_init rmi5_54 G Y [(h0, .inr (5, [.null, .null, .null, .int 0, .int 0, .int 0, .int 0, .int 0, .long 0, .int 0, .int 0, .int 0]))] [.ref h0] 54 h0 (CC5_54 Y  (sL 54)) 3 24 := by
  refine i_of (own := RX5) (cc := cX5_init) (maxL := 1) (by decide) rfl rfl rfl (Nat.le_of_ble_eq_true rfl) ?_
  intro p e s m below meth c A C hname ls hl hP hD hS
  have hx := C.1
  have hb := C.2.1
  have hown := C.2.2.2.2.1
  have hts := C.2.2.2.2.2.1
  have hks := C.2.2.2.2.2.2.1
  have hA := C.2.2.2.2.2.2.2.2.1
  have hl : lv_has ls 1 [(0, .ref h0)] := hl
  refine lv_aload_n hx hb dX5_init_0 rfl (lv_at hl 0 rfl) ?_
  refine W.objInit hx hb hown (hts (.methodLink RX5 3 objectInit) (by decide +kernel)) (hts (.instanceMethod objectInit) (by decide +kernel)) (hts (.code objectInit ⟨#[0xb1]⟩ 1 none) (by decide +kernel)) rfl (by rw [C.2.2.2.1]; exact hl.1) rfl dX5_init_1 (Nat.le_of_ble_eq_true rfl) (Nat.le_of_ble_eq_true rfl) ?_
  refine W.eq (g2 := F0 m 4 ls []) rfl ?_
  refine lv_aload_n hx hb dX5_init_4 rfl (lv_at hl 0 rfl) ?_
  refine lv_bipush (v := (8 : Int32)) hx hb dX5_init_5 (by decide) ?_
  refine i_newa (atype := .int) (ty := .int) (n := 8) C hP hD hS 1 rfl (cA := Y.2.1) rfl (fun _ h => h) (hts (.arrayClass .int) (by decide +kernel)) (a0 := (8, .inl (fun _ => 0))) (N' := 8) (fun _ => rfl) (by decide) (by decide) (by show 8 * 4 ≤ 536870912; omega) (Nat.le_of_ble_eq_true rfl) (Nat.le_of_ble_eq_true rfl) dX5_init_7 (fun q7 H hP hD hS => ?_)
  have hP : va_P G vwCl [(h0, .inr (5, [.null, .null, .null, .int 0, .int 0, .int 0, .int 0, .int 0, .long 0, .int 0, .int 0, .int 0])), (q7, .inl (Y.2.1, 8, .inl (fun _ => 0)))] H := hP
  have hD : va_D A [(h0, .inr (5, [.null, .null, .null, .int 0, .int 0, .int 0, .int 0, .int 0, .long 0, .int 0, .int 0, .int 0])), (q7, .inl (Y.2.1, 8, .inl (fun _ => 0)))] := hD
  refine W.widen (k := 1) (n := 8) (by decide) (by decide) ?_
  refine va_putF (ci := 5) (v := .ref q7) hx hb hks.ts k_in5 tyX5 tyX5_ok nmX5 hown hks.1 hP hD hS 0 rfl rfl 0 (by decide) (hks.ts _ lk5_9) (fun _ h => h) rfl hname rfl (tyX5_ok 0 (by decide)) rfl rfl (Nat.le_of_ble_eq_true rfl) dX5_init_9 (fun H locs hP hD hS => ?_)
  have hP : va_P G vwCl [(h0, .inr (5, [.ref q7, .null, .null, .int 0, .int 0, .int 0, .int 0, .int 0, .long 0, .int 0, .int 0, .int 0])), (q7, .inl (Y.2.1, 8, .inl (fun _ => 0)))] H := hP
  have hD : va_D A [(h0, .inr (5, [.ref q7, .null, .null, .int 0, .int 0, .int 0, .int 0, .int 0, .long 0, .int 0, .int 0, .int 0])), (q7, .inl (Y.2.1, 8, .inl (fun _ => 0)))] := hD
  refine lv_aload_n hx hb dX5_init_12 rfl (lv_at hl 0 rfl) ?_
  refine lv_bipush (v := (8 : Int32)) hx hb dX5_init_13 (by decide) ?_
  refine i_newa (atype := .int) (ty := .int) (n := 8) C hP hD hS 1 rfl (cA := Y.2.1) rfl (fun _ h => h) (hts (.arrayClass .int) (by decide +kernel)) (a0 := (8, .inl (fun _ => 0))) (N' := 8) (fun _ => rfl) (by decide) (by decide) (by show 8 * 4 ≤ 536870912; omega) (Nat.le_of_ble_eq_true rfl) (Nat.le_of_ble_eq_true rfl) dX5_init_15 (fun q15 H hP hD hS => ?_)
  have hP : va_P G vwCl [(h0, .inr (5, [.ref q7, .null, .null, .int 0, .int 0, .int 0, .int 0, .int 0, .long 0, .int 0, .int 0, .int 0])), (q7, .inl (Y.2.1, 8, .inl (fun _ => 0))), (q15, .inl (Y.2.1, 8, .inl (fun _ => 0)))] H := hP
  have hD : va_D A [(h0, .inr (5, [.ref q7, .null, .null, .int 0, .int 0, .int 0, .int 0, .int 0, .long 0, .int 0, .int 0, .int 0])), (q7, .inl (Y.2.1, 8, .inl (fun _ => 0))), (q15, .inl (Y.2.1, 8, .inl (fun _ => 0)))] := hD
  refine W.widen (k := 2) (n := 16) (by decide) (by decide) ?_
  refine va_putF (ci := 5) (v := .ref q15) hx hb hks.ts k_in5 tyX5 tyX5_ok nmX5 hown hks.1 hP hD hS 0 rfl rfl 1 (by decide) (hks.ts _ lk5_15) (fun _ h => h) rfl hname rfl (tyX5_ok 1 (by decide)) rfl rfl (Nat.le_of_ble_eq_true rfl) dX5_init_17 (fun H locs hP hD hS => ?_)
  have hP : va_P G vwCl [(h0, .inr (5, [.ref q7, .ref q15, .null, .int 0, .int 0, .int 0, .int 0, .int 0, .long 0, .int 0, .int 0, .int 0])), (q7, .inl (Y.2.1, 8, .inl (fun _ => 0))), (q15, .inl (Y.2.1, 8, .inl (fun _ => 0)))] H := hP
  have hD : va_D A [(h0, .inr (5, [.ref q7, .ref q15, .null, .int 0, .int 0, .int 0, .int 0, .int 0, .long 0, .int 0, .int 0, .int 0])), (q7, .inl (Y.2.1, 8, .inl (fun _ => 0))), (q15, .inl (Y.2.1, 8, .inl (fun _ => 0)))] := hD
  refine lv_aload_n hx hb dX5_init_20 rfl (lv_at hl 0 rfl) ?_
  refine lv_bipush (v := (8 : Int32)) hx hb dX5_init_21 (by decide) ?_
  refine i_newa (atype := .int) (ty := .int) (n := 8) C hP hD hS 1 rfl (cA := Y.2.1) rfl (fun _ h => h) (hts (.arrayClass .int) (by decide +kernel)) (a0 := (8, .inl (fun _ => 0))) (N' := 8) (fun _ => rfl) (by decide) (by decide) (by show 8 * 4 ≤ 536870912; omega) (Nat.le_of_ble_eq_true rfl) (Nat.le_of_ble_eq_true rfl) dX5_init_23 (fun q23 H hP hD hS => ?_)
  have hP : va_P G vwCl [(h0, .inr (5, [.ref q7, .ref q15, .null, .int 0, .int 0, .int 0, .int 0, .int 0, .long 0, .int 0, .int 0, .int 0])), (q7, .inl (Y.2.1, 8, .inl (fun _ => 0))), (q15, .inl (Y.2.1, 8, .inl (fun _ => 0))), (q23, .inl (Y.2.1, 8, .inl (fun _ => 0)))] H := hP
  have hD : va_D A [(h0, .inr (5, [.ref q7, .ref q15, .null, .int 0, .int 0, .int 0, .int 0, .int 0, .long 0, .int 0, .int 0, .int 0])), (q7, .inl (Y.2.1, 8, .inl (fun _ => 0))), (q15, .inl (Y.2.1, 8, .inl (fun _ => 0))), (q23, .inl (Y.2.1, 8, .inl (fun _ => 0)))] := hD
  refine W.widen (k := 3) (n := 24) (by decide) (by decide) ?_
  refine va_putF (ci := 5) (v := .ref q23) hx hb hks.ts k_in5 tyX5 tyX5_ok nmX5 hown hks.1 hP hD hS 0 rfl rfl 2 (by decide) (hks.ts _ lk5_18) (fun _ h => h) rfl hname rfl (tyX5_ok 2 (by decide)) rfl rfl (Nat.le_of_ble_eq_true rfl) dX5_init_25 (fun H locs hP hD hS => ?_)
  have hP : va_P G vwCl [(h0, .inr (5, [.ref q7, .ref q15, .ref q23, .int 0, .int 0, .int 0, .int 0, .int 0, .long 0, .int 0, .int 0, .int 0])), (q7, .inl (Y.2.1, 8, .inl (fun _ => 0))), (q15, .inl (Y.2.1, 8, .inl (fun _ => 0))), (q23, .inl (Y.2.1, 8, .inl (fun _ => 0)))] H := hP
  have hD : va_D A [(h0, .inr (5, [.ref q7, .ref q15, .ref q23, .int 0, .int 0, .int 0, .int 0, .int 0, .long 0, .int 0, .int 0, .int 0])), (q7, .inl (Y.2.1, 8, .inl (fun _ => 0))), (q15, .inl (Y.2.1, 8, .inl (fun _ => 0))), (q23, .inl (Y.2.1, 8, .inl (fun _ => 0)))] := hD
  refine lv_aload_n hx hb dX5_init_28 rfl (lv_at hl 0 rfl) ?_
  refine lv_iconst (v := (-1 : Int32)) hx hb dX5_init_29 (by decide) ?_
  refine va_put (ci := 5) (v := .int (-1 : Int32)) hx hb hks.ts k_in5 tyX5 tyX5_ok nmX5 hown hks.1 hP hD hS 0 rfl rfl 4 (by decide) (hks.ts _ lk5_21) (fun _ h => h) rfl (tyX5_ok 4 (by decide)) rfl rfl (Nat.le_of_ble_eq_true rfl) dX5_init_30 (fun H locs hP hD hS => ?_)
  have hP : va_P G vwCl [(h0, .inr (5, [.ref q7, .ref q15, .ref q23, .int 0, .int (-1 : Int32), .int 0, .int 0, .int 0, .long 0, .int 0, .int 0, .int 0])), (q7, .inl (Y.2.1, 8, .inl (fun _ => 0))), (q15, .inl (Y.2.1, 8, .inl (fun _ => 0))), (q23, .inl (Y.2.1, 8, .inl (fun _ => 0)))] H := hP
  have hD : va_D A [(h0, .inr (5, [.ref q7, .ref q15, .ref q23, .int 0, .int (-1 : Int32), .int 0, .int 0, .int 0, .long 0, .int 0, .int 0, .int 0])), (q7, .inl (Y.2.1, 8, .inl (fun _ => 0))), (q15, .inl (Y.2.1, 8, .inl (fun _ => 0))), (q23, .inl (Y.2.1, 8, .inl (fun _ => 0)))] := hD
  refine lv_aload_n hx hb dX5_init_33 rfl (lv_at hl 0 rfl) ?_
  refine lv_iconst (v := (-1 : Int32)) hx hb dX5_init_34 (by decide) ?_
  refine va_put (ci := 5) (v := .int (-1 : Int32)) hx hb hks.ts k_in5 tyX5 tyX5_ok nmX5 hown hks.1 hP hD hS 0 rfl rfl 5 (by decide) (hks.ts _ lk5_25) (fun _ h => h) rfl (tyX5_ok 5 (by decide)) rfl rfl (Nat.le_of_ble_eq_true rfl) dX5_init_35 (fun H locs hP hD hS => ?_)
  have hP : va_P G vwCl [(h0, .inr (5, [.ref q7, .ref q15, .ref q23, .int 0, .int (-1 : Int32), .int (-1 : Int32), .int 0, .int 0, .long 0, .int 0, .int 0, .int 0])), (q7, .inl (Y.2.1, 8, .inl (fun _ => 0))), (q15, .inl (Y.2.1, 8, .inl (fun _ => 0))), (q23, .inl (Y.2.1, 8, .inl (fun _ => 0)))] H := hP
  have hD : va_D A [(h0, .inr (5, [.ref q7, .ref q15, .ref q23, .int 0, .int (-1 : Int32), .int (-1 : Int32), .int 0, .int 0, .long 0, .int 0, .int 0, .int 0])), (q7, .inl (Y.2.1, 8, .inl (fun _ => 0))), (q15, .inl (Y.2.1, 8, .inl (fun _ => 0))), (q23, .inl (Y.2.1, 8, .inl (fun _ => 0)))] := hD
  refine lv_aload_n hx hb dX5_init_38 rfl (lv_at hl 0 rfl) ?_
  refine lv_iconst (v := (-1 : Int32)) hx hb dX5_init_39 (by decide) ?_
  refine va_put (ci := 5) (v := .int (-1 : Int32)) hx hb hks.ts k_in5 tyX5 tyX5_ok nmX5 hown hks.1 hP hD hS 0 rfl rfl 6 (by decide) (hks.ts _ lk5_28) (fun _ h => h) rfl (tyX5_ok 6 (by decide)) rfl rfl (Nat.le_of_ble_eq_true rfl) dX5_init_40 (fun H locs hP hD hS => ?_)
  have hP : va_P G vwCl [(h0, .inr (5, [.ref q7, .ref q15, .ref q23, .int 0, .int (-1 : Int32), .int (-1 : Int32), .int (-1 : Int32), .int 0, .long 0, .int 0, .int 0, .int 0])), (q7, .inl (Y.2.1, 8, .inl (fun _ => 0))), (q15, .inl (Y.2.1, 8, .inl (fun _ => 0))), (q23, .inl (Y.2.1, 8, .inl (fun _ => 0)))] H := hP
  have hD : va_D A [(h0, .inr (5, [.ref q7, .ref q15, .ref q23, .int 0, .int (-1 : Int32), .int (-1 : Int32), .int (-1 : Int32), .int 0, .long 0, .int 0, .int 0, .int 0])), (q7, .inl (Y.2.1, 8, .inl (fun _ => 0))), (q15, .inl (Y.2.1, 8, .inl (fun _ => 0))), (q23, .inl (Y.2.1, 8, .inl (fun _ => 0)))] := hD
  exact i_ret (o := 54) (CE := CC5_54 Y  (sL 54)) C (fun k => if k = 54 then h0 else if k = 55 then q7 else if k = 56 then q15 else q23) rfl (hP.sub [0, 1, 2, 3] rfl) (hD.sub [0, 1, 2, 3] (by decide) rfl) hS dX5_init_43
def CC5_58 (Y : CY) (σ : MSt) (u : Nat → Nat) : va_W := [
  (u 58, .inr (5, FX5 u 58 σ)),
  (u 59, .inl (Y.2.1, 8, .inl (σ.1 59))),
  (u 60, .inl (Y.2.1, 8, .inl (σ.1 60))),
  (u 61, .inl (Y.2.1, 8, .inl (σ.1 61)))]
def rmi5_58 : Room := { frames := 1, cells := 3, slots := 24, locals := 12 }
set_option maxHeartbeats 4000000 in
set_option maxRecDepth 100000 in
theorem i_X5_init_58 (l : Launch) (G : va_G) (Y : CY) (h0 : Nat) : i_M l yX5_init wsX5_init rmi5_58 G Y [(h0, .inr (5, [.null, .null, .null, .int 0, .int 0, .int 0, .int 0, .int 0, .long 0, .int 0, .int 0, .int 0]))] [.ref h0] 58 h0 (CC5_58 Y  (sL 58)) 3 24 := by
  refine i_of (own := RX5) (cc := cX5_init) (maxL := 1) (by decide) rfl rfl rfl (Nat.le_of_ble_eq_true rfl) ?_
  intro p e s m below meth c A C hname ls hl hP hD hS
  have hx := C.1
  have hb := C.2.1
  have hown := C.2.2.2.2.1
  have hts := C.2.2.2.2.2.1
  have hks := C.2.2.2.2.2.2.1
  have hA := C.2.2.2.2.2.2.2.2.1
  have hl : lv_has ls 1 [(0, .ref h0)] := hl
  refine lv_aload_n hx hb dX5_init_0 rfl (lv_at hl 0 rfl) ?_
  refine W.objInit hx hb hown (hts (.methodLink RX5 3 objectInit) (by decide +kernel)) (hts (.instanceMethod objectInit) (by decide +kernel)) (hts (.code objectInit ⟨#[0xb1]⟩ 1 none) (by decide +kernel)) rfl (by rw [C.2.2.2.1]; exact hl.1) rfl dX5_init_1 (Nat.le_of_ble_eq_true rfl) (Nat.le_of_ble_eq_true rfl) ?_
  refine W.eq (g2 := F0 m 4 ls []) rfl ?_
  refine lv_aload_n hx hb dX5_init_4 rfl (lv_at hl 0 rfl) ?_
  refine lv_bipush (v := (8 : Int32)) hx hb dX5_init_5 (by decide) ?_
  refine i_newa (atype := .int) (ty := .int) (n := 8) C hP hD hS 1 rfl (cA := Y.2.1) rfl (fun _ h => h) (hts (.arrayClass .int) (by decide +kernel)) (a0 := (8, .inl (fun _ => 0))) (N' := 8) (fun _ => rfl) (by decide) (by decide) (by show 8 * 4 ≤ 536870912; omega) (Nat.le_of_ble_eq_true rfl) (Nat.le_of_ble_eq_true rfl) dX5_init_7 (fun q7 H hP hD hS => ?_)
  have hP : va_P G vwCl [(h0, .inr (5, [.null, .null, .null, .int 0, .int 0, .int 0, .int 0, .int 0, .long 0, .int 0, .int 0, .int 0])), (q7, .inl (Y.2.1, 8, .inl (fun _ => 0)))] H := hP
  have hD : va_D A [(h0, .inr (5, [.null, .null, .null, .int 0, .int 0, .int 0, .int 0, .int 0, .long 0, .int 0, .int 0, .int 0])), (q7, .inl (Y.2.1, 8, .inl (fun _ => 0)))] := hD
  refine W.widen (k := 1) (n := 8) (by decide) (by decide) ?_
  refine va_putF (ci := 5) (v := .ref q7) hx hb hks.ts k_in5 tyX5 tyX5_ok nmX5 hown hks.1 hP hD hS 0 rfl rfl 0 (by decide) (hks.ts _ lk5_9) (fun _ h => h) rfl hname rfl (tyX5_ok 0 (by decide)) rfl rfl (Nat.le_of_ble_eq_true rfl) dX5_init_9 (fun H locs hP hD hS => ?_)
  have hP : va_P G vwCl [(h0, .inr (5, [.ref q7, .null, .null, .int 0, .int 0, .int 0, .int 0, .int 0, .long 0, .int 0, .int 0, .int 0])), (q7, .inl (Y.2.1, 8, .inl (fun _ => 0)))] H := hP
  have hD : va_D A [(h0, .inr (5, [.ref q7, .null, .null, .int 0, .int 0, .int 0, .int 0, .int 0, .long 0, .int 0, .int 0, .int 0])), (q7, .inl (Y.2.1, 8, .inl (fun _ => 0)))] := hD
  refine lv_aload_n hx hb dX5_init_12 rfl (lv_at hl 0 rfl) ?_
  refine lv_bipush (v := (8 : Int32)) hx hb dX5_init_13 (by decide) ?_
  refine i_newa (atype := .int) (ty := .int) (n := 8) C hP hD hS 1 rfl (cA := Y.2.1) rfl (fun _ h => h) (hts (.arrayClass .int) (by decide +kernel)) (a0 := (8, .inl (fun _ => 0))) (N' := 8) (fun _ => rfl) (by decide) (by decide) (by show 8 * 4 ≤ 536870912; omega) (Nat.le_of_ble_eq_true rfl) (Nat.le_of_ble_eq_true rfl) dX5_init_15 (fun q15 H hP hD hS => ?_)
  have hP : va_P G vwCl [(h0, .inr (5, [.ref q7, .null, .null, .int 0, .int 0, .int 0, .int 0, .int 0, .long 0, .int 0, .int 0, .int 0])), (q7, .inl (Y.2.1, 8, .inl (fun _ => 0))), (q15, .inl (Y.2.1, 8, .inl (fun _ => 0)))] H := hP
  have hD : va_D A [(h0, .inr (5, [.ref q7, .null, .null, .int 0, .int 0, .int 0, .int 0, .int 0, .long 0, .int 0, .int 0, .int 0])), (q7, .inl (Y.2.1, 8, .inl (fun _ => 0))), (q15, .inl (Y.2.1, 8, .inl (fun _ => 0)))] := hD
  refine W.widen (k := 2) (n := 16) (by decide) (by decide) ?_
  refine va_putF (ci := 5) (v := .ref q15) hx hb hks.ts k_in5 tyX5 tyX5_ok nmX5 hown hks.1 hP hD hS 0 rfl rfl 1 (by decide) (hks.ts _ lk5_15) (fun _ h => h) rfl hname rfl (tyX5_ok 1 (by decide)) rfl rfl (Nat.le_of_ble_eq_true rfl) dX5_init_17 (fun H locs hP hD hS => ?_)
  have hP : va_P G vwCl [(h0, .inr (5, [.ref q7, .ref q15, .null, .int 0, .int 0, .int 0, .int 0, .int 0, .long 0, .int 0, .int 0, .int 0])), (q7, .inl (Y.2.1, 8, .inl (fun _ => 0))), (q15, .inl (Y.2.1, 8, .inl (fun _ => 0)))] H := hP
  have hD : va_D A [(h0, .inr (5, [.ref q7, .ref q15, .null, .int 0, .int 0, .int 0, .int 0, .int 0, .long 0, .int 0, .int 0, .int 0])), (q7, .inl (Y.2.1, 8, .inl (fun _ => 0))), (q15, .inl (Y.2.1, 8, .inl (fun _ => 0)))] := hD
  refine lv_aload_n hx hb dX5_init_20 rfl (lv_at hl 0 rfl) ?_
  refine lv_bipush (v := (8 : Int32)) hx hb dX5_init_21 (by decide) ?_
  refine i_newa (atype := .int) (ty := .int) (n := 8) C hP hD hS 1 rfl (cA := Y.2.1) rfl (fun _ h => h) (hts (.arrayClass .int) (by decide +kernel)) (a0 := (8, .inl (fun _ => 0))) (N' := 8) (fun _ => rfl) (by decide) (by decide) (by show 8 * 4 ≤ 536870912; omega) (Nat.le_of_ble_eq_true rfl) (Nat.le_of_ble_eq_true rfl) dX5_init_23 (fun q23 H hP hD hS => ?_)
  have hP : va_P G vwCl [(h0, .inr (5, [.ref q7, .ref q15, .null, .int 0, .int 0, .int 0, .int 0, .int 0, .long 0, .int 0, .int 0, .int 0])), (q7, .inl (Y.2.1, 8, .inl (fun _ => 0))), (q15, .inl (Y.2.1, 8, .inl (fun _ => 0))), (q23, .inl (Y.2.1, 8, .inl (fun _ => 0)))] H := hP
  have hD : va_D A [(h0, .inr (5, [.ref q7, .ref q15, .null, .int 0, .int 0, .int 0, .int 0, .int 0, .long 0, .int 0, .int 0, .int 0])), (q7, .inl (Y.2.1, 8, .inl (fun _ => 0))), (q15, .inl (Y.2.1, 8, .inl (fun _ => 0))), (q23, .inl (Y.2.1, 8, .inl (fun _ => 0)))] := hD
  refine W.widen (k := 3) (n := 24) (by decide) (by decide) ?_
  refine va_putF (ci := 5) (v := .ref q23) hx hb hks.ts k_in5 tyX5 tyX5_ok nmX5 hown hks.1 hP hD hS 0 rfl rfl 2 (by decide) (hks.ts _ lk5_18) (fun _ h => h) rfl hname rfl (tyX5_ok 2 (by decide)) rfl rfl (Nat.le_of_ble_eq_true rfl) dX5_init_25 (fun H locs hP hD hS => ?_)
  have hP : va_P G vwCl [(h0, .inr (5, [.ref q7, .ref q15, .ref q23, .int 0, .int 0, .int 0, .int 0, .int 0, .long 0, .int 0, .int 0, .int 0])), (q7, .inl (Y.2.1, 8, .inl (fun _ => 0))), (q15, .inl (Y.2.1, 8, .inl (fun _ => 0))), (q23, .inl (Y.2.1, 8, .inl (fun _ => 0)))] H := hP
  have hD : va_D A [(h0, .inr (5, [.ref q7, .ref q15, .ref q23, .int 0, .int 0, .int 0, .int 0, .int 0, .long 0, .int 0, .int 0, .int 0])), (q7, .inl (Y.2.1, 8, .inl (fun _ => 0))), (q15, .inl (Y.2.1, 8, .inl (fun _ => 0))), (q23, .inl (Y.2.1, 8, .inl (fun _ => 0)))] := hD
  refine lv_aload_n hx hb dX5_init_28 rfl (lv_at hl 0 rfl) ?_
  refine lv_iconst (v := (-1 : Int32)) hx hb dX5_init_29 (by decide) ?_
  refine va_put (ci := 5) (v := .int (-1 : Int32)) hx hb hks.ts k_in5 tyX5 tyX5_ok nmX5 hown hks.1 hP hD hS 0 rfl rfl 4 (by decide) (hks.ts _ lk5_21) (fun _ h => h) rfl (tyX5_ok 4 (by decide)) rfl rfl (Nat.le_of_ble_eq_true rfl) dX5_init_30 (fun H locs hP hD hS => ?_)
  have hP : va_P G vwCl [(h0, .inr (5, [.ref q7, .ref q15, .ref q23, .int 0, .int (-1 : Int32), .int 0, .int 0, .int 0, .long 0, .int 0, .int 0, .int 0])), (q7, .inl (Y.2.1, 8, .inl (fun _ => 0))), (q15, .inl (Y.2.1, 8, .inl (fun _ => 0))), (q23, .inl (Y.2.1, 8, .inl (fun _ => 0)))] H := hP
  have hD : va_D A [(h0, .inr (5, [.ref q7, .ref q15, .ref q23, .int 0, .int (-1 : Int32), .int 0, .int 0, .int 0, .long 0, .int 0, .int 0, .int 0])), (q7, .inl (Y.2.1, 8, .inl (fun _ => 0))), (q15, .inl (Y.2.1, 8, .inl (fun _ => 0))), (q23, .inl (Y.2.1, 8, .inl (fun _ => 0)))] := hD
  refine lv_aload_n hx hb dX5_init_33 rfl (lv_at hl 0 rfl) ?_
  refine lv_iconst (v := (-1 : Int32)) hx hb dX5_init_34 (by decide) ?_
  refine va_put (ci := 5) (v := .int (-1 : Int32)) hx hb hks.ts k_in5 tyX5 tyX5_ok nmX5 hown hks.1 hP hD hS 0 rfl rfl 5 (by decide) (hks.ts _ lk5_25) (fun _ h => h) rfl (tyX5_ok 5 (by decide)) rfl rfl (Nat.le_of_ble_eq_true rfl) dX5_init_35 (fun H locs hP hD hS => ?_)
  have hP : va_P G vwCl [(h0, .inr (5, [.ref q7, .ref q15, .ref q23, .int 0, .int (-1 : Int32), .int (-1 : Int32), .int 0, .int 0, .long 0, .int 0, .int 0, .int 0])), (q7, .inl (Y.2.1, 8, .inl (fun _ => 0))), (q15, .inl (Y.2.1, 8, .inl (fun _ => 0))), (q23, .inl (Y.2.1, 8, .inl (fun _ => 0)))] H := hP
  have hD : va_D A [(h0, .inr (5, [.ref q7, .ref q15, .ref q23, .int 0, .int (-1 : Int32), .int (-1 : Int32), .int 0, .int 0, .long 0, .int 0, .int 0, .int 0])), (q7, .inl (Y.2.1, 8, .inl (fun _ => 0))), (q15, .inl (Y.2.1, 8, .inl (fun _ => 0))), (q23, .inl (Y.2.1, 8, .inl (fun _ => 0)))] := hD
  refine lv_aload_n hx hb dX5_init_38 rfl (lv_at hl 0 rfl) ?_
  refine lv_iconst (v := (-1 : Int32)) hx hb dX5_init_39 (by decide) ?_
  refine va_put (ci := 5) (v := .int (-1 : Int32)) hx hb hks.ts k_in5 tyX5 tyX5_ok nmX5 hown hks.1 hP hD hS 0 rfl rfl 6 (by decide) (hks.ts _ lk5_28) (fun _ h => h) rfl (tyX5_ok 6 (by decide)) rfl rfl (Nat.le_of_ble_eq_true rfl) dX5_init_40 (fun H locs hP hD hS => ?_)
  have hP : va_P G vwCl [(h0, .inr (5, [.ref q7, .ref q15, .ref q23, .int 0, .int (-1 : Int32), .int (-1 : Int32), .int (-1 : Int32), .int 0, .long 0, .int 0, .int 0, .int 0])), (q7, .inl (Y.2.1, 8, .inl (fun _ => 0))), (q15, .inl (Y.2.1, 8, .inl (fun _ => 0))), (q23, .inl (Y.2.1, 8, .inl (fun _ => 0)))] H := hP
  have hD : va_D A [(h0, .inr (5, [.ref q7, .ref q15, .ref q23, .int 0, .int (-1 : Int32), .int (-1 : Int32), .int (-1 : Int32), .int 0, .long 0, .int 0, .int 0, .int 0])), (q7, .inl (Y.2.1, 8, .inl (fun _ => 0))), (q15, .inl (Y.2.1, 8, .inl (fun _ => 0))), (q23, .inl (Y.2.1, 8, .inl (fun _ => 0)))] := hD
  exact i_ret (o := 58) (CE := CC5_58 Y  (sL 58)) C (fun k => if k = 58 then h0 else if k = 59 then q7 else if k = 60 then q15 else q23) rfl (hP.sub [0, 1, 2, 3] rfl) (hD.sub [0, 1, 2, 3] (by decide) rfl) hS dX5_init_43
def CC7_7 (Y : CY) (a1 : Nat) (σ : MSt) (u : Nat → Nat) : va_W := [
  (u 7, .inr (7, [.ref a1, .null, .int (σ.1 7 2), .int (σ.1 7 3), .int (σ.1 7 4), .int (σ.1 7 5), .ref (u 8), .int (σ.1 7 7), .int (σ.1 7 8), .int (σ.1 7 9), .int (σ.1 7 10), .int (σ.1 7 11)])),
  (u 8, .inl (Y.2.1, 72, .inl (σ.1 8)))]
def rmi7_7 : Room := { frames := 1, cells := 1, slots := 72, locals := 12 }
set_option maxHeartbeats 4000000 in
set_option maxRecDepth 100000 in
theorem i_X7_init_7 (l : Launch) (G : va_G) (Y : CY) (h0 a1 : Nat) : i_M l yX7_init wsX7_init rmi7_7 G Y [(h0, .inr (7, [.null, .null, .int 0, .int 0, .int 0, .int 0, .null, .int 0, .int 0, .int 0, .int 0, .int 0]))] [.ref h0, .ref a1] 7 h0 (CC7_7 Y a1 z0) 1 72 := by
  refine i_of (own := RX7) (cc := cX7_init) (maxL := 2) (by decide) rfl rfl rfl (Nat.le_of_ble_eq_true rfl) ?_
  intro p e s m below meth c A C hname ls hl hP hD hS
  have hx := C.1
  have hb := C.2.1
  have hown := C.2.2.2.2.1
  have hts := C.2.2.2.2.2.1
  have hks := C.2.2.2.2.2.2.1
  have hA := C.2.2.2.2.2.2.2.2.1
  have hl : lv_has ls 2 [(0, .ref h0), (1, .ref a1)] := hl
  refine lv_aload_n hx hb dX7_init_0 rfl (lv_at hl 0 rfl) ?_
  refine W.objInit hx hb hown (hts (.methodLink RX7 3 objectInit) (by decide +kernel)) (hts (.instanceMethod objectInit) (by decide +kernel)) (hts (.code objectInit ⟨#[0xb1]⟩ 1 none) (by decide +kernel)) rfl (by rw [C.2.2.2.1]; exact hl.1) rfl dX7_init_1 (Nat.le_of_ble_eq_true rfl) (Nat.le_of_ble_eq_true rfl) ?_
  refine W.eq (g2 := F0 m 4 ls []) rfl ?_
  refine lv_aload_n hx hb dX7_init_4 rfl (lv_at hl 0 rfl) ?_
  refine lv_bipush (v := (72 : Int32)) hx hb dX7_init_5 (by decide) ?_
  refine i_newa (atype := .int) (ty := .int) (n := 72) C hP hD hS 1 rfl (cA := Y.2.1) rfl (fun _ h => h) (hts (.arrayClass .int) (by decide +kernel)) (a0 := (72, .inl (fun _ => 0))) (N' := 72) (fun _ => rfl) (by decide) (by decide) (by show 72 * 4 ≤ 536870912; omega) (Nat.le_of_ble_eq_true rfl) (Nat.le_of_ble_eq_true rfl) dX7_init_7 (fun q7 H hP hD hS => ?_)
  have hP : va_P G vwCl [(h0, .inr (7, [.null, .null, .int 0, .int 0, .int 0, .int 0, .null, .int 0, .int 0, .int 0, .int 0, .int 0])), (q7, .inl (Y.2.1, 72, .inl (fun _ => 0)))] H := hP
  have hD : va_D A [(h0, .inr (7, [.null, .null, .int 0, .int 0, .int 0, .int 0, .null, .int 0, .int 0, .int 0, .int 0, .int 0])), (q7, .inl (Y.2.1, 72, .inl (fun _ => 0)))] := hD
  refine W.widen (k := 1) (n := 72) (by decide) (by decide) ?_
  refine va_putF (ci := 7) (v := .ref q7) hx hb hks.ts k_in7 tyX7 tyX7_ok nmX7 hown hks.1 hP hD hS 0 rfl rfl 6 (by decide) (hks.ts _ lk7_9) (fun _ h => h) rfl hname rfl (tyX7_ok 6 (by decide)) rfl rfl (Nat.le_of_ble_eq_true rfl) dX7_init_9 (fun H locs hP hD hS => ?_)
  have hP : va_P G vwCl [(h0, .inr (7, [.null, .null, .int 0, .int 0, .int 0, .int 0, .ref q7, .int 0, .int 0, .int 0, .int 0, .int 0])), (q7, .inl (Y.2.1, 72, .inl (fun _ => 0)))] H := hP
  have hD : va_D A [(h0, .inr (7, [.null, .null, .int 0, .int 0, .int 0, .int 0, .ref q7, .int 0, .int 0, .int 0, .int 0, .int 0])), (q7, .inl (Y.2.1, 72, .inl (fun _ => 0)))] := hD
  refine lv_aload_n hx hb dX7_init_12 rfl (lv_at hl 0 rfl) ?_
  refine lv_aload_n hx hb dX7_init_13 rfl (lv_at hl 1 rfl) ?_
  refine va_putF (ci := 7) (v := .ref a1) hx hb hks.ts k_in7 tyX7 tyX7_ok nmX7 hown hks.1 hP hD hS 0 rfl rfl 0 (by decide) (hks.ts _ lk7_15) (fun _ h => h) rfl hname rfl (tyX7_ok 0 (by decide)) rfl rfl (Nat.le_of_ble_eq_true rfl) dX7_init_14 (fun H locs hP hD hS => ?_)
  have hP : va_P G vwCl [(h0, .inr (7, [.ref a1, .null, .int 0, .int 0, .int 0, .int 0, .ref q7, .int 0, .int 0, .int 0, .int 0, .int 0])), (q7, .inl (Y.2.1, 72, .inl (fun _ => 0)))] H := hP
  have hD : va_D A [(h0, .inr (7, [.ref a1, .null, .int 0, .int 0, .int 0, .int 0, .ref q7, .int 0, .int 0, .int 0, .int 0, .int 0])), (q7, .inl (Y.2.1, 72, .inl (fun _ => 0)))] := hD
  exact i_ret (o := 7) (CE := CC7_7 Y a1 z0) C (fun k => if k = 7 then h0 else q7) rfl (hP.sub [0, 1] rfl) (hD.sub [0, 1] (by decide) rfl) hS dX7_init_17
def CC2_62 (Y : CY) (a1 : Nat) (σ : MSt) (u : Nat → Nat) : va_W := [
  (u 62, .inr (2, [.ref a1, .ref (u 63), .ref (u 64), .ref (u 65), .ref (u 66), .int (σ.1 62 5)])),
  (u 63, .inl (Y.2.1, 20, .inl (σ.1 63))),
  (u 64, .inl (Y.2.1, 20, .inl (σ.1 64))),
  (u 65, .inl (Y.2.1, 20, .inl (σ.1 65))),
  (u 66, .inl (Y.2.1, 20, .inl (σ.1 66)))]
def rmi2_62 : Room := { frames := 1, cells := 4, slots := 80, locals := 12 }
set_option maxHeartbeats 4000000 in
set_option maxRecDepth 100000 in
theorem i_X2_init_62 (l : Launch) (G : va_G) (Y : CY) (h0 a1 : Nat) : i_M l yX2_init wsX2_init rmi2_62 G Y [(h0, .inr (2, [.null, .null, .null, .null, .null, .int 0]))] [.ref h0, .ref a1] 62 h0 (CC2_62 Y a1 z0) 4 80 := by
  refine i_of (own := RX2) (cc := cX2_init) (maxL := 2) (by decide) rfl rfl rfl (Nat.le_of_ble_eq_true rfl) ?_
  intro p e s m below meth c A C hname ls hl hP hD hS
  have hx := C.1
  have hb := C.2.1
  have hown := C.2.2.2.2.1
  have hts := C.2.2.2.2.2.1
  have hks := C.2.2.2.2.2.2.1
  have hA := C.2.2.2.2.2.2.2.2.1
  have hl : lv_has ls 2 [(0, .ref h0), (1, .ref a1)] := hl
  refine lv_aload_n hx hb dX2_init_0 rfl (lv_at hl 0 rfl) ?_
  refine W.objInit hx hb hown (hts (.methodLink RX2 3 objectInit) (by decide +kernel)) (hts (.instanceMethod objectInit) (by decide +kernel)) (hts (.code objectInit ⟨#[0xb1]⟩ 1 none) (by decide +kernel)) rfl (by rw [C.2.2.2.1]; exact hl.1) rfl dX2_init_1 (Nat.le_of_ble_eq_true rfl) (Nat.le_of_ble_eq_true rfl) ?_
  refine W.eq (g2 := F0 m 4 ls []) rfl ?_
  refine lv_aload_n hx hb dX2_init_4 rfl (lv_at hl 0 rfl) ?_
  refine lv_bipush (v := (20 : Int32)) hx hb dX2_init_5 (by decide) ?_
  refine i_newa (atype := .int) (ty := .int) (n := 20) C hP hD hS 1 rfl (cA := Y.2.1) rfl (fun _ h => h) (hts (.arrayClass .int) (by decide +kernel)) (a0 := (20, .inl (fun _ => 0))) (N' := 20) (fun _ => rfl) (by decide) (by decide) (by show 20 * 4 ≤ 536870912; omega) (Nat.le_of_ble_eq_true rfl) (Nat.le_of_ble_eq_true rfl) dX2_init_7 (fun q7 H hP hD hS => ?_)
  have hP : va_P G vwCl [(h0, .inr (2, [.null, .null, .null, .null, .null, .int 0])), (q7, .inl (Y.2.1, 20, .inl (fun _ => 0)))] H := hP
  have hD : va_D A [(h0, .inr (2, [.null, .null, .null, .null, .null, .int 0])), (q7, .inl (Y.2.1, 20, .inl (fun _ => 0)))] := hD
  refine W.widen (k := 1) (n := 20) (by decide) (by decide) ?_
  refine va_putF (ci := 2) (v := .ref q7) hx hb hks.ts k_in2 tyX2 tyX2_ok nmX2 hown hks.1 hP hD hS 0 rfl rfl 1 (by decide) (hks.ts _ lk2_9) (fun _ h => h) rfl hname rfl (tyX2_ok 1 (by decide)) rfl rfl (Nat.le_of_ble_eq_true rfl) dX2_init_9 (fun H locs hP hD hS => ?_)
  have hP : va_P G vwCl [(h0, .inr (2, [.null, .ref q7, .null, .null, .null, .int 0])), (q7, .inl (Y.2.1, 20, .inl (fun _ => 0)))] H := hP
  have hD : va_D A [(h0, .inr (2, [.null, .ref q7, .null, .null, .null, .int 0])), (q7, .inl (Y.2.1, 20, .inl (fun _ => 0)))] := hD
  refine lv_aload_n hx hb dX2_init_12 rfl (lv_at hl 0 rfl) ?_
  refine lv_bipush (v := (20 : Int32)) hx hb dX2_init_13 (by decide) ?_
  refine i_newa (atype := .int) (ty := .int) (n := 20) C hP hD hS 1 rfl (cA := Y.2.1) rfl (fun _ h => h) (hts (.arrayClass .int) (by decide +kernel)) (a0 := (20, .inl (fun _ => 0))) (N' := 20) (fun _ => rfl) (by decide) (by decide) (by show 20 * 4 ≤ 536870912; omega) (Nat.le_of_ble_eq_true rfl) (Nat.le_of_ble_eq_true rfl) dX2_init_15 (fun q15 H hP hD hS => ?_)
  have hP : va_P G vwCl [(h0, .inr (2, [.null, .ref q7, .null, .null, .null, .int 0])), (q7, .inl (Y.2.1, 20, .inl (fun _ => 0))), (q15, .inl (Y.2.1, 20, .inl (fun _ => 0)))] H := hP
  have hD : va_D A [(h0, .inr (2, [.null, .ref q7, .null, .null, .null, .int 0])), (q7, .inl (Y.2.1, 20, .inl (fun _ => 0))), (q15, .inl (Y.2.1, 20, .inl (fun _ => 0)))] := hD
  refine W.widen (k := 2) (n := 40) (by decide) (by decide) ?_
  refine va_putF (ci := 2) (v := .ref q15) hx hb hks.ts k_in2 tyX2 tyX2_ok nmX2 hown hks.1 hP hD hS 0 rfl rfl 2 (by decide) (hks.ts _ lk2_15) (fun _ h => h) rfl hname rfl (tyX2_ok 2 (by decide)) rfl rfl (Nat.le_of_ble_eq_true rfl) dX2_init_17 (fun H locs hP hD hS => ?_)
  have hP : va_P G vwCl [(h0, .inr (2, [.null, .ref q7, .ref q15, .null, .null, .int 0])), (q7, .inl (Y.2.1, 20, .inl (fun _ => 0))), (q15, .inl (Y.2.1, 20, .inl (fun _ => 0)))] H := hP
  have hD : va_D A [(h0, .inr (2, [.null, .ref q7, .ref q15, .null, .null, .int 0])), (q7, .inl (Y.2.1, 20, .inl (fun _ => 0))), (q15, .inl (Y.2.1, 20, .inl (fun _ => 0)))] := hD
  refine lv_aload_n hx hb dX2_init_20 rfl (lv_at hl 0 rfl) ?_
  refine lv_bipush (v := (20 : Int32)) hx hb dX2_init_21 (by decide) ?_
  refine i_newa (atype := .int) (ty := .int) (n := 20) C hP hD hS 1 rfl (cA := Y.2.1) rfl (fun _ h => h) (hts (.arrayClass .int) (by decide +kernel)) (a0 := (20, .inl (fun _ => 0))) (N' := 20) (fun _ => rfl) (by decide) (by decide) (by show 20 * 4 ≤ 536870912; omega) (Nat.le_of_ble_eq_true rfl) (Nat.le_of_ble_eq_true rfl) dX2_init_23 (fun q23 H hP hD hS => ?_)
  have hP : va_P G vwCl [(h0, .inr (2, [.null, .ref q7, .ref q15, .null, .null, .int 0])), (q7, .inl (Y.2.1, 20, .inl (fun _ => 0))), (q15, .inl (Y.2.1, 20, .inl (fun _ => 0))), (q23, .inl (Y.2.1, 20, .inl (fun _ => 0)))] H := hP
  have hD : va_D A [(h0, .inr (2, [.null, .ref q7, .ref q15, .null, .null, .int 0])), (q7, .inl (Y.2.1, 20, .inl (fun _ => 0))), (q15, .inl (Y.2.1, 20, .inl (fun _ => 0))), (q23, .inl (Y.2.1, 20, .inl (fun _ => 0)))] := hD
  refine W.widen (k := 3) (n := 60) (by decide) (by decide) ?_
  refine va_putF (ci := 2) (v := .ref q23) hx hb hks.ts k_in2 tyX2 tyX2_ok nmX2 hown hks.1 hP hD hS 0 rfl rfl 3 (by decide) (hks.ts _ lk2_18) (fun _ h => h) rfl hname rfl (tyX2_ok 3 (by decide)) rfl rfl (Nat.le_of_ble_eq_true rfl) dX2_init_25 (fun H locs hP hD hS => ?_)
  have hP : va_P G vwCl [(h0, .inr (2, [.null, .ref q7, .ref q15, .ref q23, .null, .int 0])), (q7, .inl (Y.2.1, 20, .inl (fun _ => 0))), (q15, .inl (Y.2.1, 20, .inl (fun _ => 0))), (q23, .inl (Y.2.1, 20, .inl (fun _ => 0)))] H := hP
  have hD : va_D A [(h0, .inr (2, [.null, .ref q7, .ref q15, .ref q23, .null, .int 0])), (q7, .inl (Y.2.1, 20, .inl (fun _ => 0))), (q15, .inl (Y.2.1, 20, .inl (fun _ => 0))), (q23, .inl (Y.2.1, 20, .inl (fun _ => 0)))] := hD
  refine lv_aload_n hx hb dX2_init_28 rfl (lv_at hl 0 rfl) ?_
  refine lv_bipush (v := (20 : Int32)) hx hb dX2_init_29 (by decide) ?_
  refine i_newa (atype := .int) (ty := .int) (n := 20) C hP hD hS 1 rfl (cA := Y.2.1) rfl (fun _ h => h) (hts (.arrayClass .int) (by decide +kernel)) (a0 := (20, .inl (fun _ => 0))) (N' := 20) (fun _ => rfl) (by decide) (by decide) (by show 20 * 4 ≤ 536870912; omega) (Nat.le_of_ble_eq_true rfl) (Nat.le_of_ble_eq_true rfl) dX2_init_31 (fun q31 H hP hD hS => ?_)
  have hP : va_P G vwCl [(h0, .inr (2, [.null, .ref q7, .ref q15, .ref q23, .null, .int 0])), (q7, .inl (Y.2.1, 20, .inl (fun _ => 0))), (q15, .inl (Y.2.1, 20, .inl (fun _ => 0))), (q23, .inl (Y.2.1, 20, .inl (fun _ => 0))), (q31, .inl (Y.2.1, 20, .inl (fun _ => 0)))] H := hP
  have hD : va_D A [(h0, .inr (2, [.null, .ref q7, .ref q15, .ref q23, .null, .int 0])), (q7, .inl (Y.2.1, 20, .inl (fun _ => 0))), (q15, .inl (Y.2.1, 20, .inl (fun _ => 0))), (q23, .inl (Y.2.1, 20, .inl (fun _ => 0))), (q31, .inl (Y.2.1, 20, .inl (fun _ => 0)))] := hD
  refine W.widen (k := 4) (n := 80) (by decide) (by decide) ?_
  refine va_putF (ci := 2) (v := .ref q31) hx hb hks.ts k_in2 tyX2 tyX2_ok nmX2 hown hks.1 hP hD hS 0 rfl rfl 4 (by decide) (hks.ts _ lk2_21) (fun _ h => h) rfl hname rfl (tyX2_ok 4 (by decide)) rfl rfl (Nat.le_of_ble_eq_true rfl) dX2_init_33 (fun H locs hP hD hS => ?_)
  have hP : va_P G vwCl [(h0, .inr (2, [.null, .ref q7, .ref q15, .ref q23, .ref q31, .int 0])), (q7, .inl (Y.2.1, 20, .inl (fun _ => 0))), (q15, .inl (Y.2.1, 20, .inl (fun _ => 0))), (q23, .inl (Y.2.1, 20, .inl (fun _ => 0))), (q31, .inl (Y.2.1, 20, .inl (fun _ => 0)))] H := hP
  have hD : va_D A [(h0, .inr (2, [.null, .ref q7, .ref q15, .ref q23, .ref q31, .int 0])), (q7, .inl (Y.2.1, 20, .inl (fun _ => 0))), (q15, .inl (Y.2.1, 20, .inl (fun _ => 0))), (q23, .inl (Y.2.1, 20, .inl (fun _ => 0))), (q31, .inl (Y.2.1, 20, .inl (fun _ => 0)))] := hD
  refine lv_aload_n hx hb dX2_init_36 rfl (lv_at hl 0 rfl) ?_
  refine lv_aload_n hx hb dX2_init_37 rfl (lv_at hl 1 rfl) ?_
  refine va_putF (ci := 2) (v := .ref a1) hx hb hks.ts k_in2 tyX2 tyX2_ok nmX2 hown hks.1 hP hD hS 0 rfl rfl 0 (by decide) (hks.ts _ lk2_24) (fun _ h => h) rfl hname rfl (tyX2_ok 0 (by decide)) rfl rfl (Nat.le_of_ble_eq_true rfl) dX2_init_38 (fun H locs hP hD hS => ?_)
  have hP : va_P G vwCl [(h0, .inr (2, [.ref a1, .ref q7, .ref q15, .ref q23, .ref q31, .int 0])), (q7, .inl (Y.2.1, 20, .inl (fun _ => 0))), (q15, .inl (Y.2.1, 20, .inl (fun _ => 0))), (q23, .inl (Y.2.1, 20, .inl (fun _ => 0))), (q31, .inl (Y.2.1, 20, .inl (fun _ => 0)))] H := hP
  have hD : va_D A [(h0, .inr (2, [.ref a1, .ref q7, .ref q15, .ref q23, .ref q31, .int 0])), (q7, .inl (Y.2.1, 20, .inl (fun _ => 0))), (q15, .inl (Y.2.1, 20, .inl (fun _ => 0))), (q23, .inl (Y.2.1, 20, .inl (fun _ => 0))), (q31, .inl (Y.2.1, 20, .inl (fun _ => 0)))] := hD
  exact i_ret (o := 62) (CE := CC2_62 Y a1 z0) C (fun k => if k = 62 then h0 else if k = 63 then q7 else if k = 64 then q15 else if k = 65 then q23 else q31) rfl (hP.sub [0, 1, 2, 3, 4] rfl) (hD.sub [0, 1, 2, 3, 4] (by decide) rfl) hS dX2_init_41
def CC3_67 (Y : CY) (a1 a2 : Nat) (σ : MSt) (u : Nat → Nat) : va_W := [
  (u 67, .inr (3, [.ref a1, .ref a2, .ref (u 70), .ref (u 68), .ref (u 69)])),
  (u 68, .inl (Y.2.1, 8, .inl (σ.1 68))),
  (u 69, .inl (Y.2.1, 64, .inl (σ.1 69))),
  (u 70, .inr (8, FX8 u 70 σ))]
def rmi3_67 : Room := { frames := 2, cells := 3, slots := 80, locals := 32 }
set_option maxHeartbeats 4000000 in
set_option maxRecDepth 100000 in
theorem i_X3_init_67 (l : Launch) (G : va_G) (Y : CY) (h0 a1 a2 : Nat) : i_M l yX3_init wsX3_init rmi3_67 G Y [(h0, .inr (3, [.null, .null, .null, .null, .null]))] [.ref h0, .ref a1, .ref a2] 67 h0 (CC3_67 Y a1 a2 z0) 3 80 := by
  refine i_of (own := RX3) (cc := cX3_init) (maxL := 3) (by decide) rfl rfl rfl (Nat.le_of_ble_eq_true rfl) ?_
  intro p e s m below meth c A C hname ls hl hP hD hS
  have hx := C.1
  have hb := C.2.1
  have hown := C.2.2.2.2.1
  have hts := C.2.2.2.2.2.1
  have hks := C.2.2.2.2.2.2.1
  have hA := C.2.2.2.2.2.2.2.2.1
  have hl : lv_has ls 3 [(0, .ref h0), (1, .ref a1), (2, .ref a2)] := hl
  refine lv_aload_n hx hb dX3_init_0 rfl (lv_at hl 0 rfl) ?_
  refine W.objInit hx hb hown (hts (.methodLink RX3 3 objectInit) (by decide +kernel)) (hts (.instanceMethod objectInit) (by decide +kernel)) (hts (.code objectInit ⟨#[0xb1]⟩ 1 none) (by decide +kernel)) rfl (by rw [C.2.2.2.1]; exact hl.1) rfl dX3_init_1 (Nat.le_of_ble_eq_true rfl) (Nat.le_of_ble_eq_true rfl) ?_
  refine W.eq (g2 := F0 m 4 ls []) rfl ?_
  refine lv_aload_n hx hb dX3_init_4 rfl (lv_at hl 0 rfl) ?_
  refine va_new (ci := 8) (fs := [.int 0, .int 0, .int 0, .int 0, .int 0, .int 0, .int 0, .int 0]) (C := RX8) (T := TX8) (N := 8) hx hb hks.ts k_in8 tyX8 tyX8_ok hown (hts (.classLink RX3 9 RX8) (by decide +kernel)) (hts (.instantiable RX8 8) (by decide +kernel)) (hts (.initialized RX8) (by decide +kernel)) hks.1 hP hD hS hA rfl (by decide +kernel) (Nat.le_of_ble_eq_true rfl) (Nat.le_of_ble_eq_true rfl) dX3_init_5 (fun q5 H hP hD hS => ?_)
  have hP : va_P G vwCl [(h0, .inr (3, [.null, .null, .null, .null, .null])), (q5, .inr (8, [.int 0, .int 0, .int 0, .int 0, .int 0, .int 0, .int 0, .int 0]))] H := hP
  have hD : va_D A [(h0, .inr (3, [.null, .null, .null, .null, .null])), (q5, .inr (8, [.int 0, .int 0, .int 0, .int 0, .int 0, .int 0, .int 0, .int 0]))] := hD
  refine W.widen (k := 1) (n := 8) (by decide) (by decide) ?_
  refine lv_dup hx hb dX3_init_8 rfl ?_
  refine i_callN (wr := [(h0, .inr (3, [.null, .null, .null, .null, .null]))]) C hP hD hS (i_X8_init_70 l G Y q5 ) ⟨va_cnB 0 hts gX3_init_X8_init_n11 rfl rfl rfl (hks.2 _ lm3_11) (hts (.initialized RX8) (by decide +kernel)) (by decide +kernel) ⟨Nat.le_of_ble_eq_true rfl, Nat.le_of_ble_eq_true rfl⟩, rfl, hts (.instanceMethod yX8_init) (by decide +kernel)⟩ [1] [0] rfl rfl rfl (by decide) (by decide) (by decide) rfl hl.1 rfl (Nat.le_of_ble_eq_true rfl) ⟨Nat.le_of_ble_eq_true rfl, Nat.le_of_ble_eq_true rfl⟩ dX3_init_9 (fun u9 hu H9 locs hP9 hD9 hS9 => ?_)
  subst hu
  have hP : va_P G vwCl [(h0, .inr (3, [.null, .null, .null, .null, .null])), ((u9 70), .inr (8, FX8 u9 70 z0))] H9 := hP9
  have hD : va_D A [(h0, .inr (3, [.null, .null, .null, .null, .null])), ((u9 70), .inr (8, FX8 u9 70 z0))] := hD9
  have hS := hS9
  refine W.widen (k := 1) (n := 8) (by decide) (by decide) ?_
  refine va_putF (ci := 3) (v := .ref (u9 70)) hx hb hks.ts k_in3 tyX3 tyX3_ok nmX3 hown hks.1 hP hD hS 0 rfl rfl 2 (by decide) (hks.ts _ lk3_12) (fun _ h => h) rfl hname rfl (tyX3_ok 2 (by decide)) rfl rfl (Nat.le_of_ble_eq_true rfl) dX3_init_12 (fun H locs hP hD hS => ?_)
  have hP : va_P G vwCl [(h0, .inr (3, [.null, .null, .ref (u9 70), .null, .null])), ((u9 70), .inr (8, FX8 u9 70 z0))] H := hP
  have hD : va_D A [(h0, .inr (3, [.null, .null, .ref (u9 70), .null, .null])), ((u9 70), .inr (8, FX8 u9 70 z0))] := hD
  refine lv_aload_n hx hb dX3_init_15 rfl (lv_at hl 0 rfl) ?_
  refine lv_bipush (v := (8 : Int32)) hx hb dX3_init_16 (by decide) ?_
  refine i_newa (atype := .int) (ty := .int) (n := 8) C hP hD hS 1 rfl (cA := Y.2.1) rfl (fun _ h => h) (hts (.arrayClass .int) (by decide +kernel)) (a0 := (8, .inl (fun _ => 0))) (N' := 8) (fun _ => rfl) (by decide) (by decide) (by show 8 * 4 ≤ 536870912; omega) (Nat.le_of_ble_eq_true rfl) (Nat.le_of_ble_eq_true rfl) dX3_init_18 (fun q18 H hP hD hS => ?_)
  have hP : va_P G vwCl [(h0, .inr (3, [.null, .null, .ref (u9 70), .null, .null])), ((u9 70), .inr (8, FX8 u9 70 z0)), (q18, .inl (Y.2.1, 8, .inl (fun _ => 0)))] H := hP
  have hD : va_D A [(h0, .inr (3, [.null, .null, .ref (u9 70), .null, .null])), ((u9 70), .inr (8, FX8 u9 70 z0)), (q18, .inl (Y.2.1, 8, .inl (fun _ => 0)))] := hD
  refine W.widen (k := 2) (n := 16) (by decide) (by decide) ?_
  refine va_putF (ci := 3) (v := .ref q18) hx hb hks.ts k_in3 tyX3 tyX3_ok nmX3 hown hks.1 hP hD hS 0 rfl rfl 3 (by decide) (hks.ts _ lk3_18) (fun _ h => h) rfl hname rfl (tyX3_ok 3 (by decide)) rfl rfl (Nat.le_of_ble_eq_true rfl) dX3_init_20 (fun H locs hP hD hS => ?_)
  have hP : va_P G vwCl [(h0, .inr (3, [.null, .null, .ref (u9 70), .ref q18, .null])), ((u9 70), .inr (8, FX8 u9 70 z0)), (q18, .inl (Y.2.1, 8, .inl (fun _ => 0)))] H := hP
  have hD : va_D A [(h0, .inr (3, [.null, .null, .ref (u9 70), .ref q18, .null])), ((u9 70), .inr (8, FX8 u9 70 z0)), (q18, .inl (Y.2.1, 8, .inl (fun _ => 0)))] := hD
  refine lv_aload_n hx hb dX3_init_23 rfl (lv_at hl 0 rfl) ?_
  refine lv_bipush (v := (64 : Int32)) hx hb dX3_init_24 (by decide) ?_
  refine i_newa (atype := .int) (ty := .int) (n := 64) C hP hD hS 1 rfl (cA := Y.2.1) rfl (fun _ h => h) (hts (.arrayClass .int) (by decide +kernel)) (a0 := (64, .inl (fun _ => 0))) (N' := 64) (fun _ => rfl) (by decide) (by decide) (by show 64 * 4 ≤ 536870912; omega) (Nat.le_of_ble_eq_true rfl) (Nat.le_of_ble_eq_true rfl) dX3_init_26 (fun q26 H hP hD hS => ?_)
  have hP : va_P G vwCl [(h0, .inr (3, [.null, .null, .ref (u9 70), .ref q18, .null])), ((u9 70), .inr (8, FX8 u9 70 z0)), (q18, .inl (Y.2.1, 8, .inl (fun _ => 0))), (q26, .inl (Y.2.1, 64, .inl (fun _ => 0)))] H := hP
  have hD : va_D A [(h0, .inr (3, [.null, .null, .ref (u9 70), .ref q18, .null])), ((u9 70), .inr (8, FX8 u9 70 z0)), (q18, .inl (Y.2.1, 8, .inl (fun _ => 0))), (q26, .inl (Y.2.1, 64, .inl (fun _ => 0)))] := hD
  refine W.widen (k := 3) (n := 80) (by decide) (by decide) ?_
  refine va_putF (ci := 3) (v := .ref q26) hx hb hks.ts k_in3 tyX3 tyX3_ok nmX3 hown hks.1 hP hD hS 0 rfl rfl 4 (by decide) (hks.ts _ lk3_22) (fun _ h => h) rfl hname rfl (tyX3_ok 4 (by decide)) rfl rfl (Nat.le_of_ble_eq_true rfl) dX3_init_28 (fun H locs hP hD hS => ?_)
  have hP : va_P G vwCl [(h0, .inr (3, [.null, .null, .ref (u9 70), .ref q18, .ref q26])), ((u9 70), .inr (8, FX8 u9 70 z0)), (q18, .inl (Y.2.1, 8, .inl (fun _ => 0))), (q26, .inl (Y.2.1, 64, .inl (fun _ => 0)))] H := hP
  have hD : va_D A [(h0, .inr (3, [.null, .null, .ref (u9 70), .ref q18, .ref q26])), ((u9 70), .inr (8, FX8 u9 70 z0)), (q18, .inl (Y.2.1, 8, .inl (fun _ => 0))), (q26, .inl (Y.2.1, 64, .inl (fun _ => 0)))] := hD
  refine lv_aload_n hx hb dX3_init_31 rfl (lv_at hl 0 rfl) ?_
  refine lv_aload_n hx hb dX3_init_32 rfl (lv_at hl 1 rfl) ?_
  refine va_putF (ci := 3) (v := .ref a1) hx hb hks.ts k_in3 tyX3 tyX3_ok nmX3 hown hks.1 hP hD hS 0 rfl rfl 0 (by decide) (hks.ts _ lk3_25) (fun _ h => h) rfl hname rfl (tyX3_ok 0 (by decide)) rfl rfl (Nat.le_of_ble_eq_true rfl) dX3_init_33 (fun H locs hP hD hS => ?_)
  have hP : va_P G vwCl [(h0, .inr (3, [.ref a1, .null, .ref (u9 70), .ref q18, .ref q26])), ((u9 70), .inr (8, FX8 u9 70 z0)), (q18, .inl (Y.2.1, 8, .inl (fun _ => 0))), (q26, .inl (Y.2.1, 64, .inl (fun _ => 0)))] H := hP
  have hD : va_D A [(h0, .inr (3, [.ref a1, .null, .ref (u9 70), .ref q18, .ref q26])), ((u9 70), .inr (8, FX8 u9 70 z0)), (q18, .inl (Y.2.1, 8, .inl (fun _ => 0))), (q26, .inl (Y.2.1, 64, .inl (fun _ => 0)))] := hD
  refine lv_aload_n hx hb dX3_init_36 rfl (lv_at hl 0 rfl) ?_
  refine lv_aload_n hx hb dX3_init_37 rfl (lv_at hl 2 rfl) ?_
  refine va_putF (ci := 3) (v := .ref a2) hx hb hks.ts k_in3 tyX3 tyX3_ok nmX3 hown hks.1 hP hD hS 0 rfl rfl 1 (by decide) (hks.ts _ lk3_29) (fun _ h => h) rfl hname rfl (tyX3_ok 1 (by decide)) rfl rfl (Nat.le_of_ble_eq_true rfl) dX3_init_38 (fun H locs hP hD hS => ?_)
  have hP : va_P G vwCl [(h0, .inr (3, [.ref a1, .ref a2, .ref (u9 70), .ref q18, .ref q26])), ((u9 70), .inr (8, FX8 u9 70 z0)), (q18, .inl (Y.2.1, 8, .inl (fun _ => 0))), (q26, .inl (Y.2.1, 64, .inl (fun _ => 0)))] H := hP
  have hD : va_D A [(h0, .inr (3, [.ref a1, .ref a2, .ref (u9 70), .ref q18, .ref q26])), ((u9 70), .inr (8, FX8 u9 70 z0)), (q18, .inl (Y.2.1, 8, .inl (fun _ => 0))), (q26, .inl (Y.2.1, 64, .inl (fun _ => 0)))] := hD
  exact i_ret (o := 67) (CE := CC3_67 Y a1 a2 z0) C (fun k => if k = 67 then h0 else if k = 68 then q18 else if k = 69 then q26 else (u9 70)) rfl (hP.sub [0, 2, 3, 1] rfl) (hD.sub [0, 2, 3, 1] (by decide) rfl) hS dX3_init_41
def CC1_71 (Y : CY) (a1 a2 : Nat) (σ : MSt) (u : Nat → Nat) : va_W := [
  (u 71, .inr (1, [.ref a1, .ref a2, .ref (u 58), .ref (u 72), .int (σ.1 71 4), .int (σ.1 71 5), .int (σ.1 71 6), .int (σ.1 71 7), .int (σ.1 71 8)])),
  (u 58, .inr (5, FX5 u 58 σ)),
  (u 59, .inl (Y.2.1, 8, .inl (σ.1 59))),
  (u 60, .inl (Y.2.1, 8, .inl (σ.1 60))),
  (u 61, .inl (Y.2.1, 8, .inl (σ.1 61))),
  (u 72, .inr (8, FX8 u 72 σ))]
def rmi1_71 : Room := { frames := 2, cells := 5, slots := 44, locals := 32 }
set_option maxHeartbeats 4000000 in
set_option maxRecDepth 100000 in
theorem i_X1_init_71 (l : Launch) (G : va_G) (Y : CY) (h0 a1 a2 : Nat) : i_M l yX1_init wsX1_init rmi1_71 G Y [(h0, .inr (1, [.null, .null, .null, .null, .int 0, .int 0, .int 0, .int 0, .int 0]))] [.ref h0, .ref a1, .ref a2] 71 h0 (CC1_71 Y a1 a2 (sL 58)) 5 44 := by
  refine i_of (own := RX1) (cc := cX1_init) (maxL := 3) (by decide) rfl rfl rfl (Nat.le_of_ble_eq_true rfl) ?_
  intro p e s m below meth c A C hname ls hl hP hD hS
  have hx := C.1
  have hb := C.2.1
  have hown := C.2.2.2.2.1
  have hts := C.2.2.2.2.2.1
  have hks := C.2.2.2.2.2.2.1
  have hA := C.2.2.2.2.2.2.2.2.1
  have hl : lv_has ls 3 [(0, .ref h0), (1, .ref a1), (2, .ref a2)] := hl
  refine lv_aload_n hx hb dX1_init_0 rfl (lv_at hl 0 rfl) ?_
  refine W.objInit hx hb hown (hts (.methodLink RX1 3 objectInit) (by decide +kernel)) (hts (.instanceMethod objectInit) (by decide +kernel)) (hts (.code objectInit ⟨#[0xb1]⟩ 1 none) (by decide +kernel)) rfl (by rw [C.2.2.2.1]; exact hl.1) rfl dX1_init_1 (Nat.le_of_ble_eq_true rfl) (Nat.le_of_ble_eq_true rfl) ?_
  refine W.eq (g2 := F0 m 4 ls []) rfl ?_
  refine lv_aload_n hx hb dX1_init_4 rfl (lv_at hl 0 rfl) ?_
  refine va_new (ci := 5) (fs := [.null, .null, .null, .int 0, .int 0, .int 0, .int 0, .int 0, .long 0, .int 0, .int 0, .int 0]) (C := RX5) (T := TX5) (N := 12) hx hb hks.ts k_in5 tyX5 tyX5_ok hown (hts (.classLink RX1 9 RX5) (by decide +kernel)) (hts (.instantiable RX5 12) (by decide +kernel)) (hts (.initialized RX5) (by decide +kernel)) hks.1 hP hD hS hA rfl (by decide +kernel) (Nat.le_of_ble_eq_true rfl) (Nat.le_of_ble_eq_true rfl) dX1_init_5 (fun q5 H hP hD hS => ?_)
  have hP : va_P G vwCl [(h0, .inr (1, [.null, .null, .null, .null, .int 0, .int 0, .int 0, .int 0, .int 0])), (q5, .inr (5, [.null, .null, .null, .int 0, .int 0, .int 0, .int 0, .int 0, .long 0, .int 0, .int 0, .int 0]))] H := hP
  have hD : va_D A [(h0, .inr (1, [.null, .null, .null, .null, .int 0, .int 0, .int 0, .int 0, .int 0])), (q5, .inr (5, [.null, .null, .null, .int 0, .int 0, .int 0, .int 0, .int 0, .long 0, .int 0, .int 0, .int 0]))] := hD
  refine W.widen (k := 1) (n := 12) (by decide) (by decide) ?_
  refine lv_dup hx hb dX1_init_8 rfl ?_
  refine i_call (wr := [(h0, .inr (1, [.null, .null, .null, .null, .int 0, .int 0, .int 0, .int 0, .int 0]))]) C hP hD hS (i_X5_init_58 l G Y q5 ) (cwI 0 hts gX1_init_X5_init rfl rfl rfl (hts (.initialized RX5) (by decide +kernel)) (hts (.methodLink RX1 11 yX5_init) (by decide +kernel)) (hts (.instanceMethod yX5_init) (by decide +kernel)) rfl (by decide +kernel) ⟨Nat.le_of_ble_eq_true rfl, Nat.le_of_ble_eq_true rfl⟩) [1] [0] rfl rfl rfl (by decide) (by decide) (by decide) rfl hl.1 rfl (Nat.le_of_ble_eq_true rfl) ⟨Nat.le_of_ble_eq_true rfl, Nat.le_of_ble_eq_true rfl⟩ dX1_init_9 (fun u9 hu H9 locs hP9 hD9 hS9 => ?_)
  subst hu
  have hP : va_P G vwCl [(h0, .inr (1, [.null, .null, .null, .null, .int 0, .int 0, .int 0, .int 0, .int 0])), ((u9 58), .inr (5, FX5 u9 58 (sL 58))), ((u9 59), .inl (Y.2.1, 8, .inl ((sL 58).1 59))), ((u9 60), .inl (Y.2.1, 8, .inl ((sL 58).1 60))), ((u9 61), .inl (Y.2.1, 8, .inl ((sL 58).1 61)))] H9 := hP9
  have hD : va_D A [(h0, .inr (1, [.null, .null, .null, .null, .int 0, .int 0, .int 0, .int 0, .int 0])), ((u9 58), .inr (5, FX5 u9 58 (sL 58))), ((u9 59), .inl (Y.2.1, 8, .inl ((sL 58).1 59))), ((u9 60), .inl (Y.2.1, 8, .inl ((sL 58).1 60))), ((u9 61), .inl (Y.2.1, 8, .inl ((sL 58).1 61)))] := hD9
  have hS := hS9
  refine W.widen (k := 4) (n := 36) (by decide) (by decide) ?_
  refine va_putF (ci := 1) (v := .ref (u9 58)) hx hb hks.ts k_in1 tyX1 tyX1_ok nmX1 hown hks.1 hP hD hS 0 rfl rfl 2 (by decide) (hks.ts _ lk1_12) (fun _ h => h) rfl hname rfl (tyX1_ok 2 (by decide)) rfl rfl (Nat.le_of_ble_eq_true rfl) dX1_init_12 (fun H locs hP hD hS => ?_)
  have hP : va_P G vwCl [(h0, .inr (1, [.null, .null, .ref (u9 58), .null, .int 0, .int 0, .int 0, .int 0, .int 0])), ((u9 58), .inr (5, FX5 u9 58 (sL 58))), ((u9 59), .inl (Y.2.1, 8, .inl ((sL 58).1 59))), ((u9 60), .inl (Y.2.1, 8, .inl ((sL 58).1 60))), ((u9 61), .inl (Y.2.1, 8, .inl ((sL 58).1 61)))] H := hP
  have hD : va_D A [(h0, .inr (1, [.null, .null, .ref (u9 58), .null, .int 0, .int 0, .int 0, .int 0, .int 0])), ((u9 58), .inr (5, FX5 u9 58 (sL 58))), ((u9 59), .inl (Y.2.1, 8, .inl ((sL 58).1 59))), ((u9 60), .inl (Y.2.1, 8, .inl ((sL 58).1 60))), ((u9 61), .inl (Y.2.1, 8, .inl ((sL 58).1 61)))] := hD
  refine lv_aload_n hx hb dX1_init_15 rfl (lv_at hl 0 rfl) ?_
  refine va_new (ci := 8) (fs := [.int 0, .int 0, .int 0, .int 0, .int 0, .int 0, .int 0, .int 0]) (C := RX8) (T := TX8) (N := 8) hx hb hks.ts k_in8 tyX8 tyX8_ok hown (hts (.classLink RX1 18 RX8) (by decide +kernel)) (hts (.instantiable RX8 8) (by decide +kernel)) (hts (.initialized RX8) (by decide +kernel)) hks.1 hP hD hS hA rfl (by decide +kernel) (Nat.le_of_ble_eq_true rfl) (Nat.le_of_ble_eq_true rfl) dX1_init_16 (fun q16 H hP hD hS => ?_)
  have hP : va_P G vwCl [(h0, .inr (1, [.null, .null, .ref (u9 58), .null, .int 0, .int 0, .int 0, .int 0, .int 0])), ((u9 58), .inr (5, FX5 u9 58 (sL 58))), ((u9 59), .inl (Y.2.1, 8, .inl ((sL 58).1 59))), ((u9 60), .inl (Y.2.1, 8, .inl ((sL 58).1 60))), ((u9 61), .inl (Y.2.1, 8, .inl ((sL 58).1 61))), (q16, .inr (8, [.int 0, .int 0, .int 0, .int 0, .int 0, .int 0, .int 0, .int 0]))] H := hP
  have hD : va_D A [(h0, .inr (1, [.null, .null, .ref (u9 58), .null, .int 0, .int 0, .int 0, .int 0, .int 0])), ((u9 58), .inr (5, FX5 u9 58 (sL 58))), ((u9 59), .inl (Y.2.1, 8, .inl ((sL 58).1 59))), ((u9 60), .inl (Y.2.1, 8, .inl ((sL 58).1 60))), ((u9 61), .inl (Y.2.1, 8, .inl ((sL 58).1 61))), (q16, .inr (8, [.int 0, .int 0, .int 0, .int 0, .int 0, .int 0, .int 0, .int 0]))] := hD
  refine W.widen (k := 5) (n := 44) (by decide) (by decide) ?_
  refine lv_dup hx hb dX1_init_19 rfl ?_
  refine i_callN (wr := [(h0, .inr (1, [.null, .null, .ref (u9 58), .null, .int 0, .int 0, .int 0, .int 0, .int 0])), ((u9 58), .inr (5, FX5 u9 58 (sL 58))), ((u9 59), .inl (Y.2.1, 8, .inl ((sL 58).1 59))), ((u9 60), .inl (Y.2.1, 8, .inl ((sL 58).1 60))), ((u9 61), .inl (Y.2.1, 8, .inl ((sL 58).1 61)))]) C hP hD hS (i_X8_init_72 l G Y q16 ) ⟨va_cnB 0 hts gX1_init_X8_init_n20 rfl rfl rfl (hks.2 _ lm1_20) (hts (.initialized RX8) (by decide +kernel)) (by decide +kernel) ⟨Nat.le_of_ble_eq_true rfl, Nat.le_of_ble_eq_true rfl⟩, rfl, hts (.instanceMethod yX8_init) (by decide +kernel)⟩ [5] [0, 1, 2, 3, 4] rfl rfl rfl (by decide) (by decide) (by decide) rfl hl.1 rfl (Nat.le_of_ble_eq_true rfl) ⟨Nat.le_of_ble_eq_true rfl, Nat.le_of_ble_eq_true rfl⟩ dX1_init_20 (fun u20 hu H20 locs hP9 hD9 hS9 => ?_)
  subst hu
  have hP : va_P G vwCl [(h0, .inr (1, [.null, .null, .ref (u9 58), .null, .int 0, .int 0, .int 0, .int 0, .int 0])), ((u9 58), .inr (5, FX5 u9 58 (sL 58))), ((u9 59), .inl (Y.2.1, 8, .inl ((sL 58).1 59))), ((u9 60), .inl (Y.2.1, 8, .inl ((sL 58).1 60))), ((u9 61), .inl (Y.2.1, 8, .inl ((sL 58).1 61))), ((u20 72), .inr (8, FX8 u20 72 z0))] H20 := hP9
  have hD : va_D A [(h0, .inr (1, [.null, .null, .ref (u9 58), .null, .int 0, .int 0, .int 0, .int 0, .int 0])), ((u9 58), .inr (5, FX5 u9 58 (sL 58))), ((u9 59), .inl (Y.2.1, 8, .inl ((sL 58).1 59))), ((u9 60), .inl (Y.2.1, 8, .inl ((sL 58).1 60))), ((u9 61), .inl (Y.2.1, 8, .inl ((sL 58).1 61))), ((u20 72), .inr (8, FX8 u20 72 z0))] := hD9
  have hS := hS9
  refine W.widen (k := 5) (n := 44) (by decide) (by decide) ?_
  refine va_putF (ci := 1) (v := .ref (u20 72)) hx hb hks.ts k_in1 tyX1 tyX1_ok nmX1 hown hks.1 hP hD hS 0 rfl rfl 3 (by decide) (hks.ts _ lk1_21) (fun _ h => h) rfl hname rfl (tyX1_ok 3 (by decide)) rfl rfl (Nat.le_of_ble_eq_true rfl) dX1_init_23 (fun H locs hP hD hS => ?_)
  have hP : va_P G vwCl [(h0, .inr (1, [.null, .null, .ref (u9 58), .ref (u20 72), .int 0, .int 0, .int 0, .int 0, .int 0])), ((u9 58), .inr (5, FX5 u9 58 (sL 58))), ((u9 59), .inl (Y.2.1, 8, .inl ((sL 58).1 59))), ((u9 60), .inl (Y.2.1, 8, .inl ((sL 58).1 60))), ((u9 61), .inl (Y.2.1, 8, .inl ((sL 58).1 61))), ((u20 72), .inr (8, FX8 u20 72 z0))] H := hP
  have hD : va_D A [(h0, .inr (1, [.null, .null, .ref (u9 58), .ref (u20 72), .int 0, .int 0, .int 0, .int 0, .int 0])), ((u9 58), .inr (5, FX5 u9 58 (sL 58))), ((u9 59), .inl (Y.2.1, 8, .inl ((sL 58).1 59))), ((u9 60), .inl (Y.2.1, 8, .inl ((sL 58).1 60))), ((u9 61), .inl (Y.2.1, 8, .inl ((sL 58).1 61))), ((u20 72), .inr (8, FX8 u20 72 z0))] := hD
  refine lv_aload_n hx hb dX1_init_26 rfl (lv_at hl 0 rfl) ?_
  refine lv_aload_n hx hb dX1_init_27 rfl (lv_at hl 1 rfl) ?_
  refine va_putF (ci := 1) (v := .ref a1) hx hb hks.ts k_in1 tyX1 tyX1_ok nmX1 hown hks.1 hP hD hS 0 rfl rfl 0 (by decide) (hks.ts _ lk1_25) (fun _ h => h) rfl hname rfl (tyX1_ok 0 (by decide)) rfl rfl (Nat.le_of_ble_eq_true rfl) dX1_init_28 (fun H locs hP hD hS => ?_)
  have hP : va_P G vwCl [(h0, .inr (1, [.ref a1, .null, .ref (u9 58), .ref (u20 72), .int 0, .int 0, .int 0, .int 0, .int 0])), ((u9 58), .inr (5, FX5 u9 58 (sL 58))), ((u9 59), .inl (Y.2.1, 8, .inl ((sL 58).1 59))), ((u9 60), .inl (Y.2.1, 8, .inl ((sL 58).1 60))), ((u9 61), .inl (Y.2.1, 8, .inl ((sL 58).1 61))), ((u20 72), .inr (8, FX8 u20 72 z0))] H := hP
  have hD : va_D A [(h0, .inr (1, [.ref a1, .null, .ref (u9 58), .ref (u20 72), .int 0, .int 0, .int 0, .int 0, .int 0])), ((u9 58), .inr (5, FX5 u9 58 (sL 58))), ((u9 59), .inl (Y.2.1, 8, .inl ((sL 58).1 59))), ((u9 60), .inl (Y.2.1, 8, .inl ((sL 58).1 60))), ((u9 61), .inl (Y.2.1, 8, .inl ((sL 58).1 61))), ((u20 72), .inr (8, FX8 u20 72 z0))] := hD
  refine lv_aload_n hx hb dX1_init_31 rfl (lv_at hl 0 rfl) ?_
  refine lv_aload_n hx hb dX1_init_32 rfl (lv_at hl 2 rfl) ?_
  refine va_putF (ci := 1) (v := .ref a2) hx hb hks.ts k_in1 tyX1 tyX1_ok nmX1 hown hks.1 hP hD hS 0 rfl rfl 1 (by decide) (hks.ts _ lk1_29) (fun _ h => h) rfl hname rfl (tyX1_ok 1 (by decide)) rfl rfl (Nat.le_of_ble_eq_true rfl) dX1_init_33 (fun H locs hP hD hS => ?_)
  have hP : va_P G vwCl [(h0, .inr (1, [.ref a1, .ref a2, .ref (u9 58), .ref (u20 72), .int 0, .int 0, .int 0, .int 0, .int 0])), ((u9 58), .inr (5, FX5 u9 58 (sL 58))), ((u9 59), .inl (Y.2.1, 8, .inl ((sL 58).1 59))), ((u9 60), .inl (Y.2.1, 8, .inl ((sL 58).1 60))), ((u9 61), .inl (Y.2.1, 8, .inl ((sL 58).1 61))), ((u20 72), .inr (8, FX8 u20 72 z0))] H := hP
  have hD : va_D A [(h0, .inr (1, [.ref a1, .ref a2, .ref (u9 58), .ref (u20 72), .int 0, .int 0, .int 0, .int 0, .int 0])), ((u9 58), .inr (5, FX5 u9 58 (sL 58))), ((u9 59), .inl (Y.2.1, 8, .inl ((sL 58).1 59))), ((u9 60), .inl (Y.2.1, 8, .inl ((sL 58).1 60))), ((u9 61), .inl (Y.2.1, 8, .inl ((sL 58).1 61))), ((u20 72), .inr (8, FX8 u20 72 z0))] := hD
  exact i_ret (o := 71) (CE := CC1_71 Y a1 a2 (sL 58)) C (fun k => if k = 71 then h0 else if k = 58 then (u9 58) else if k = 59 then (u9 59) else if k = 60 then (u9 60) else if k = 61 then (u9 61) else (u20 72)) rfl (hP.sub [0, 1, 2, 3, 4, 5] rfl) (hD.sub [0, 1, 2, 3, 4, 5] (by decide) rfl) hS dX1_init_36
def CC10_73 (Y : CY) (a1 a2 a3 : Nat) (σ : MSt) (u : Nat → Nat) : va_W := [
  (u 73, .inr (10, [.ref a1, .ref a2, .ref a3, .ref (u 74), .ref (u 75), .ref (u 76), .ref (u 77)])),
  (u 74, .inl (Y.2.1, 8, .inl (σ.1 74))),
  (u 75, .inl (Y.2.1, 8, .inl (σ.1 75))),
  (u 76, .inl (Y.2.1, 488, .inl (σ.1 76))),
  (u 77, .inl (Y.2.1, 488, .inl (σ.1 77)))]
def rmi10_73 : Room := { frames := 1, cells := 4, slots := 992, locals := 12 }
set_option maxHeartbeats 4000000 in
set_option maxRecDepth 100000 in
theorem i_X10_init_73 (l : Launch) (G : va_G) (Y : CY) (h0 a1 a2 a3 : Nat) : i_M l yX10_init wsX10_init rmi10_73 G Y [(h0, .inr (10, [.null, .null, .null, .null, .null, .null, .null]))] [.ref h0, .ref a1, .ref a2, .ref a3] 73 h0 (CC10_73 Y a1 a2 a3 z0) 4 992 := by
  refine i_of (own := RX10) (cc := cX10_init) (maxL := 4) (by decide) rfl rfl rfl (Nat.le_of_ble_eq_true rfl) ?_
  intro p e s m below meth c A C hname ls hl hP hD hS
  have hx := C.1
  have hb := C.2.1
  have hown := C.2.2.2.2.1
  have hts := C.2.2.2.2.2.1
  have hks := C.2.2.2.2.2.2.1
  have hA := C.2.2.2.2.2.2.2.2.1
  have hl : lv_has ls 4 [(0, .ref h0), (1, .ref a1), (2, .ref a2), (3, .ref a3)] := hl
  refine lv_aload_n hx hb dX10_init_0 rfl (lv_at hl 0 rfl) ?_
  refine W.objInit hx hb hown (hts (.methodLink RX10 3 objectInit) (by decide +kernel)) (hts (.instanceMethod objectInit) (by decide +kernel)) (hts (.code objectInit ⟨#[0xb1]⟩ 1 none) (by decide +kernel)) rfl (by rw [C.2.2.2.1]; exact hl.1) rfl dX10_init_1 (Nat.le_of_ble_eq_true rfl) (Nat.le_of_ble_eq_true rfl) ?_
  refine W.eq (g2 := F0 m 4 ls []) rfl ?_
  refine lv_aload_n hx hb dX10_init_4 rfl (lv_at hl 0 rfl) ?_
  refine lv_bipush (v := (8 : Int32)) hx hb dX10_init_5 (by decide) ?_
  refine i_newa (atype := .int) (ty := .int) (n := 8) C hP hD hS 1 rfl (cA := Y.2.1) rfl (fun _ h => h) (hts (.arrayClass .int) (by decide +kernel)) (a0 := (8, .inl (fun _ => 0))) (N' := 8) (fun _ => rfl) (by decide) (by decide) (by show 8 * 4 ≤ 536870912; omega) (Nat.le_of_ble_eq_true rfl) (Nat.le_of_ble_eq_true rfl) dX10_init_7 (fun q7 H hP hD hS => ?_)
  have hP : va_P G vwCl [(h0, .inr (10, [.null, .null, .null, .null, .null, .null, .null])), (q7, .inl (Y.2.1, 8, .inl (fun _ => 0)))] H := hP
  have hD : va_D A [(h0, .inr (10, [.null, .null, .null, .null, .null, .null, .null])), (q7, .inl (Y.2.1, 8, .inl (fun _ => 0)))] := hD
  refine W.widen (k := 1) (n := 8) (by decide) (by decide) ?_
  refine va_putF (ci := 10) (v := .ref q7) hx hb hks.ts k_in10 tyX10 tyX10_ok nmX10 hown hks.1 hP hD hS 0 rfl rfl 3 (by decide) (hks.ts _ lk10_9) (fun _ h => h) rfl hname rfl (tyX10_ok 3 (by decide)) rfl rfl (Nat.le_of_ble_eq_true rfl) dX10_init_9 (fun H locs hP hD hS => ?_)
  have hP : va_P G vwCl [(h0, .inr (10, [.null, .null, .null, .ref q7, .null, .null, .null])), (q7, .inl (Y.2.1, 8, .inl (fun _ => 0)))] H := hP
  have hD : va_D A [(h0, .inr (10, [.null, .null, .null, .ref q7, .null, .null, .null])), (q7, .inl (Y.2.1, 8, .inl (fun _ => 0)))] := hD
  refine lv_aload_n hx hb dX10_init_12 rfl (lv_at hl 0 rfl) ?_
  refine lv_bipush (v := (8 : Int32)) hx hb dX10_init_13 (by decide) ?_
  refine i_newa (atype := .int) (ty := .int) (n := 8) C hP hD hS 1 rfl (cA := Y.2.1) rfl (fun _ h => h) (hts (.arrayClass .int) (by decide +kernel)) (a0 := (8, .inl (fun _ => 0))) (N' := 8) (fun _ => rfl) (by decide) (by decide) (by show 8 * 4 ≤ 536870912; omega) (Nat.le_of_ble_eq_true rfl) (Nat.le_of_ble_eq_true rfl) dX10_init_15 (fun q15 H hP hD hS => ?_)
  have hP : va_P G vwCl [(h0, .inr (10, [.null, .null, .null, .ref q7, .null, .null, .null])), (q7, .inl (Y.2.1, 8, .inl (fun _ => 0))), (q15, .inl (Y.2.1, 8, .inl (fun _ => 0)))] H := hP
  have hD : va_D A [(h0, .inr (10, [.null, .null, .null, .ref q7, .null, .null, .null])), (q7, .inl (Y.2.1, 8, .inl (fun _ => 0))), (q15, .inl (Y.2.1, 8, .inl (fun _ => 0)))] := hD
  refine W.widen (k := 2) (n := 16) (by decide) (by decide) ?_
  refine va_putF (ci := 10) (v := .ref q15) hx hb hks.ts k_in10 tyX10 tyX10_ok nmX10 hown hks.1 hP hD hS 0 rfl rfl 4 (by decide) (hks.ts _ lk10_15) (fun _ h => h) rfl hname rfl (tyX10_ok 4 (by decide)) rfl rfl (Nat.le_of_ble_eq_true rfl) dX10_init_17 (fun H locs hP hD hS => ?_)
  have hP : va_P G vwCl [(h0, .inr (10, [.null, .null, .null, .ref q7, .ref q15, .null, .null])), (q7, .inl (Y.2.1, 8, .inl (fun _ => 0))), (q15, .inl (Y.2.1, 8, .inl (fun _ => 0)))] H := hP
  have hD : va_D A [(h0, .inr (10, [.null, .null, .null, .ref q7, .ref q15, .null, .null])), (q7, .inl (Y.2.1, 8, .inl (fun _ => 0))), (q15, .inl (Y.2.1, 8, .inl (fun _ => 0)))] := hD
  refine lv_aload_n hx hb dX10_init_20 rfl (lv_at hl 0 rfl) ?_
  refine lv_sipush (v := (488 : Int32)) hx hb dX10_init_21 (by decide) ?_
  refine i_newa (atype := .int) (ty := .int) (n := 488) C hP hD hS 1 rfl (cA := Y.2.1) rfl (fun _ h => h) (hts (.arrayClass .int) (by decide +kernel)) (a0 := (488, .inl (fun _ => 0))) (N' := 488) (fun _ => rfl) (by decide) (by decide) (by show 488 * 4 ≤ 536870912; omega) (Nat.le_of_ble_eq_true rfl) (Nat.le_of_ble_eq_true rfl) dX10_init_24 (fun q24 H hP hD hS => ?_)
  have hP : va_P G vwCl [(h0, .inr (10, [.null, .null, .null, .ref q7, .ref q15, .null, .null])), (q7, .inl (Y.2.1, 8, .inl (fun _ => 0))), (q15, .inl (Y.2.1, 8, .inl (fun _ => 0))), (q24, .inl (Y.2.1, 488, .inl (fun _ => 0)))] H := hP
  have hD : va_D A [(h0, .inr (10, [.null, .null, .null, .ref q7, .ref q15, .null, .null])), (q7, .inl (Y.2.1, 8, .inl (fun _ => 0))), (q15, .inl (Y.2.1, 8, .inl (fun _ => 0))), (q24, .inl (Y.2.1, 488, .inl (fun _ => 0)))] := hD
  refine W.widen (k := 3) (n := 504) (by decide) (by decide) ?_
  refine va_putF (ci := 10) (v := .ref q24) hx hb hks.ts k_in10 tyX10 tyX10_ok nmX10 hown hks.1 hP hD hS 0 rfl rfl 5 (by decide) (hks.ts _ lk10_18) (fun _ h => h) rfl hname rfl (tyX10_ok 5 (by decide)) rfl rfl (Nat.le_of_ble_eq_true rfl) dX10_init_26 (fun H locs hP hD hS => ?_)
  have hP : va_P G vwCl [(h0, .inr (10, [.null, .null, .null, .ref q7, .ref q15, .ref q24, .null])), (q7, .inl (Y.2.1, 8, .inl (fun _ => 0))), (q15, .inl (Y.2.1, 8, .inl (fun _ => 0))), (q24, .inl (Y.2.1, 488, .inl (fun _ => 0)))] H := hP
  have hD : va_D A [(h0, .inr (10, [.null, .null, .null, .ref q7, .ref q15, .ref q24, .null])), (q7, .inl (Y.2.1, 8, .inl (fun _ => 0))), (q15, .inl (Y.2.1, 8, .inl (fun _ => 0))), (q24, .inl (Y.2.1, 488, .inl (fun _ => 0)))] := hD
  refine lv_aload_n hx hb dX10_init_29 rfl (lv_at hl 0 rfl) ?_
  refine lv_sipush (v := (488 : Int32)) hx hb dX10_init_30 (by decide) ?_
  refine i_newa (atype := .int) (ty := .int) (n := 488) C hP hD hS 1 rfl (cA := Y.2.1) rfl (fun _ h => h) (hts (.arrayClass .int) (by decide +kernel)) (a0 := (488, .inl (fun _ => 0))) (N' := 488) (fun _ => rfl) (by decide) (by decide) (by show 488 * 4 ≤ 536870912; omega) (Nat.le_of_ble_eq_true rfl) (Nat.le_of_ble_eq_true rfl) dX10_init_33 (fun q33 H hP hD hS => ?_)
  have hP : va_P G vwCl [(h0, .inr (10, [.null, .null, .null, .ref q7, .ref q15, .ref q24, .null])), (q7, .inl (Y.2.1, 8, .inl (fun _ => 0))), (q15, .inl (Y.2.1, 8, .inl (fun _ => 0))), (q24, .inl (Y.2.1, 488, .inl (fun _ => 0))), (q33, .inl (Y.2.1, 488, .inl (fun _ => 0)))] H := hP
  have hD : va_D A [(h0, .inr (10, [.null, .null, .null, .ref q7, .ref q15, .ref q24, .null])), (q7, .inl (Y.2.1, 8, .inl (fun _ => 0))), (q15, .inl (Y.2.1, 8, .inl (fun _ => 0))), (q24, .inl (Y.2.1, 488, .inl (fun _ => 0))), (q33, .inl (Y.2.1, 488, .inl (fun _ => 0)))] := hD
  refine W.widen (k := 4) (n := 992) (by decide) (by decide) ?_
  refine va_putF (ci := 10) (v := .ref q33) hx hb hks.ts k_in10 tyX10 tyX10_ok nmX10 hown hks.1 hP hD hS 0 rfl rfl 6 (by decide) (hks.ts _ lk10_21) (fun _ h => h) rfl hname rfl (tyX10_ok 6 (by decide)) rfl rfl (Nat.le_of_ble_eq_true rfl) dX10_init_35 (fun H locs hP hD hS => ?_)
  have hP : va_P G vwCl [(h0, .inr (10, [.null, .null, .null, .ref q7, .ref q15, .ref q24, .ref q33])), (q7, .inl (Y.2.1, 8, .inl (fun _ => 0))), (q15, .inl (Y.2.1, 8, .inl (fun _ => 0))), (q24, .inl (Y.2.1, 488, .inl (fun _ => 0))), (q33, .inl (Y.2.1, 488, .inl (fun _ => 0)))] H := hP
  have hD : va_D A [(h0, .inr (10, [.null, .null, .null, .ref q7, .ref q15, .ref q24, .ref q33])), (q7, .inl (Y.2.1, 8, .inl (fun _ => 0))), (q15, .inl (Y.2.1, 8, .inl (fun _ => 0))), (q24, .inl (Y.2.1, 488, .inl (fun _ => 0))), (q33, .inl (Y.2.1, 488, .inl (fun _ => 0)))] := hD
  refine lv_aload_n hx hb dX10_init_38 rfl (lv_at hl 0 rfl) ?_
  refine lv_aload_n hx hb dX10_init_39 rfl (lv_at hl 1 rfl) ?_
  refine va_putF (ci := 10) (v := .ref a1) hx hb hks.ts k_in10 tyX10 tyX10_ok nmX10 hown hks.1 hP hD hS 0 rfl rfl 0 (by decide) (hks.ts _ lk10_24) (fun _ h => h) rfl hname rfl (tyX10_ok 0 (by decide)) rfl rfl (Nat.le_of_ble_eq_true rfl) dX10_init_40 (fun H locs hP hD hS => ?_)
  have hP : va_P G vwCl [(h0, .inr (10, [.ref a1, .null, .null, .ref q7, .ref q15, .ref q24, .ref q33])), (q7, .inl (Y.2.1, 8, .inl (fun _ => 0))), (q15, .inl (Y.2.1, 8, .inl (fun _ => 0))), (q24, .inl (Y.2.1, 488, .inl (fun _ => 0))), (q33, .inl (Y.2.1, 488, .inl (fun _ => 0)))] H := hP
  have hD : va_D A [(h0, .inr (10, [.ref a1, .null, .null, .ref q7, .ref q15, .ref q24, .ref q33])), (q7, .inl (Y.2.1, 8, .inl (fun _ => 0))), (q15, .inl (Y.2.1, 8, .inl (fun _ => 0))), (q24, .inl (Y.2.1, 488, .inl (fun _ => 0))), (q33, .inl (Y.2.1, 488, .inl (fun _ => 0)))] := hD
  refine lv_aload_n hx hb dX10_init_43 rfl (lv_at hl 0 rfl) ?_
  refine lv_aload_n hx hb dX10_init_44 rfl (lv_at hl 2 rfl) ?_
  refine va_putF (ci := 10) (v := .ref a2) hx hb hks.ts k_in10 tyX10 tyX10_ok nmX10 hown hks.1 hP hD hS 0 rfl rfl 1 (by decide) (hks.ts _ lk10_28) (fun _ h => h) rfl hname rfl (tyX10_ok 1 (by decide)) rfl rfl (Nat.le_of_ble_eq_true rfl) dX10_init_45 (fun H locs hP hD hS => ?_)
  have hP : va_P G vwCl [(h0, .inr (10, [.ref a1, .ref a2, .null, .ref q7, .ref q15, .ref q24, .ref q33])), (q7, .inl (Y.2.1, 8, .inl (fun _ => 0))), (q15, .inl (Y.2.1, 8, .inl (fun _ => 0))), (q24, .inl (Y.2.1, 488, .inl (fun _ => 0))), (q33, .inl (Y.2.1, 488, .inl (fun _ => 0)))] H := hP
  have hD : va_D A [(h0, .inr (10, [.ref a1, .ref a2, .null, .ref q7, .ref q15, .ref q24, .ref q33])), (q7, .inl (Y.2.1, 8, .inl (fun _ => 0))), (q15, .inl (Y.2.1, 8, .inl (fun _ => 0))), (q24, .inl (Y.2.1, 488, .inl (fun _ => 0))), (q33, .inl (Y.2.1, 488, .inl (fun _ => 0)))] := hD
  refine lv_aload_n hx hb dX10_init_48 rfl (lv_at hl 0 rfl) ?_
  refine lv_aload_n hx hb dX10_init_49 rfl (lv_at hl 3 rfl) ?_
  refine va_putF (ci := 10) (v := .ref a3) hx hb hks.ts k_in10 tyX10 tyX10_ok nmX10 hown hks.1 hP hD hS 0 rfl rfl 2 (by decide) (hks.ts _ lk10_32) (fun _ h => h) rfl hname rfl (tyX10_ok 2 (by decide)) rfl rfl (Nat.le_of_ble_eq_true rfl) dX10_init_50 (fun H locs hP hD hS => ?_)
  have hP : va_P G vwCl [(h0, .inr (10, [.ref a1, .ref a2, .ref a3, .ref q7, .ref q15, .ref q24, .ref q33])), (q7, .inl (Y.2.1, 8, .inl (fun _ => 0))), (q15, .inl (Y.2.1, 8, .inl (fun _ => 0))), (q24, .inl (Y.2.1, 488, .inl (fun _ => 0))), (q33, .inl (Y.2.1, 488, .inl (fun _ => 0)))] H := hP
  have hD : va_D A [(h0, .inr (10, [.ref a1, .ref a2, .ref a3, .ref q7, .ref q15, .ref q24, .ref q33])), (q7, .inl (Y.2.1, 8, .inl (fun _ => 0))), (q15, .inl (Y.2.1, 8, .inl (fun _ => 0))), (q24, .inl (Y.2.1, 488, .inl (fun _ => 0))), (q33, .inl (Y.2.1, 488, .inl (fun _ => 0)))] := hD
  exact i_ret (o := 73) (CE := CC10_73 Y a1 a2 a3 z0) C (fun k => if k = 73 then h0 else if k = 74 then q7 else if k = 75 then q15 else if k = 76 then q24 else q33) rfl (hP.sub [0, 1, 2, 3, 4] rfl) (hD.sub [0, 1, 2, 3, 4] (by decide) rfl) hS dX10_init_53
def CC6_78 (Y : CY) (a1 a2 : Nat) (σ : MSt) (u : Nat → Nat) : va_W := [
  (u 78, .inr (6, [.ref a1, .ref a2, .ref (u 79), .ref (u 80), .ref (u 81), .ref (u 82), .ref (u 83), .int (σ.1 78 7), .int (σ.1 78 8)])),
  (u 79, .inl (Y.2.1, 24, .inl (σ.1 79))),
  (u 80, .inl (Y.2.1, 24, .inl (σ.1 80))),
  (u 81, .inl (Y.2.2.2.1, 24, .inl (σ.1 81))),
  (u 82, .inl (Y.2.1, 24, .inl (σ.1 82))),
  (u 83, .inl (Y.2.2.2.1, 24, .inl (σ.1 83)))]
def rmi6_78 : Room := { frames := 1, cells := 5, slots := 120, locals := 12 }
set_option maxHeartbeats 4000000 in
set_option maxRecDepth 100000 in
theorem i_X6_init_78 (l : Launch) (G : va_G) (Y : CY) (h0 a1 a2 : Nat) : i_M l yX6_init wsX6_init rmi6_78 G Y [(h0, .inr (6, [.null, .null, .null, .null, .null, .null, .null, .int 0, .int 0]))] [.ref h0, .ref a1, .ref a2] 78 h0 (CC6_78 Y a1 a2 sN) 5 120 := by
  refine i_of (own := RX6) (cc := cX6_init) (maxL := 3) (by decide) rfl rfl rfl (Nat.le_of_ble_eq_true rfl) ?_
  intro p e s m below meth c A C hname ls hl hP hD hS
  have hx := C.1
  have hb := C.2.1
  have hown := C.2.2.2.2.1
  have hts := C.2.2.2.2.2.1
  have hks := C.2.2.2.2.2.2.1
  have hA := C.2.2.2.2.2.2.2.2.1
  have hl : lv_has ls 3 [(0, .ref h0), (1, .ref a1), (2, .ref a2)] := hl
  refine lv_aload_n hx hb dX6_init_0 rfl (lv_at hl 0 rfl) ?_
  refine W.objInit hx hb hown (hts (.methodLink RX6 3 objectInit) (by decide +kernel)) (hts (.instanceMethod objectInit) (by decide +kernel)) (hts (.code objectInit ⟨#[0xb1]⟩ 1 none) (by decide +kernel)) rfl (by rw [C.2.2.2.1]; exact hl.1) rfl dX6_init_1 (Nat.le_of_ble_eq_true rfl) (Nat.le_of_ble_eq_true rfl) ?_
  refine W.eq (g2 := F0 m 4 ls []) rfl ?_
  refine lv_aload_n hx hb dX6_init_4 rfl (lv_at hl 0 rfl) ?_
  refine lv_bipush (v := (24 : Int32)) hx hb dX6_init_5 (by decide) ?_
  refine i_newa (atype := .int) (ty := .int) (n := 24) C hP hD hS 1 rfl (cA := Y.2.1) rfl (fun _ h => h) (hts (.arrayClass .int) (by decide +kernel)) (a0 := (24, .inl (fun _ => 0))) (N' := 24) (fun _ => rfl) (by decide) (by decide) (by show 24 * 4 ≤ 536870912; omega) (Nat.le_of_ble_eq_true rfl) (Nat.le_of_ble_eq_true rfl) dX6_init_7 (fun q7 H hP hD hS => ?_)
  have hP : va_P G vwCl [(h0, .inr (6, [.null, .null, .null, .null, .null, .null, .null, .int 0, .int 0])), (q7, .inl (Y.2.1, 24, .inl (fun _ => 0)))] H := hP
  have hD : va_D A [(h0, .inr (6, [.null, .null, .null, .null, .null, .null, .null, .int 0, .int 0])), (q7, .inl (Y.2.1, 24, .inl (fun _ => 0)))] := hD
  refine W.widen (k := 1) (n := 24) (by decide) (by decide) ?_
  refine va_putF (ci := 6) (v := .ref q7) hx hb hks.ts k_in6 tyX6 tyX6_ok nmX6 hown hks.1 hP hD hS 0 rfl rfl 2 (by decide) (hks.ts _ lk6_9) (fun _ h => h) rfl hname rfl (tyX6_ok 2 (by decide)) rfl rfl (Nat.le_of_ble_eq_true rfl) dX6_init_9 (fun H locs hP hD hS => ?_)
  have hP : va_P G vwCl [(h0, .inr (6, [.null, .null, .ref q7, .null, .null, .null, .null, .int 0, .int 0])), (q7, .inl (Y.2.1, 24, .inl (fun _ => 0)))] H := hP
  have hD : va_D A [(h0, .inr (6, [.null, .null, .ref q7, .null, .null, .null, .null, .int 0, .int 0])), (q7, .inl (Y.2.1, 24, .inl (fun _ => 0)))] := hD
  refine lv_aload_n hx hb dX6_init_12 rfl (lv_at hl 0 rfl) ?_
  refine lv_bipush (v := (24 : Int32)) hx hb dX6_init_13 (by decide) ?_
  refine i_newa (atype := .int) (ty := .int) (n := 24) C hP hD hS 1 rfl (cA := Y.2.1) rfl (fun _ h => h) (hts (.arrayClass .int) (by decide +kernel)) (a0 := (24, .inl (fun _ => 0))) (N' := 24) (fun _ => rfl) (by decide) (by decide) (by show 24 * 4 ≤ 536870912; omega) (Nat.le_of_ble_eq_true rfl) (Nat.le_of_ble_eq_true rfl) dX6_init_15 (fun q15 H hP hD hS => ?_)
  have hP : va_P G vwCl [(h0, .inr (6, [.null, .null, .ref q7, .null, .null, .null, .null, .int 0, .int 0])), (q7, .inl (Y.2.1, 24, .inl (fun _ => 0))), (q15, .inl (Y.2.1, 24, .inl (fun _ => 0)))] H := hP
  have hD : va_D A [(h0, .inr (6, [.null, .null, .ref q7, .null, .null, .null, .null, .int 0, .int 0])), (q7, .inl (Y.2.1, 24, .inl (fun _ => 0))), (q15, .inl (Y.2.1, 24, .inl (fun _ => 0)))] := hD
  refine W.widen (k := 2) (n := 48) (by decide) (by decide) ?_
  refine va_putF (ci := 6) (v := .ref q15) hx hb hks.ts k_in6 tyX6 tyX6_ok nmX6 hown hks.1 hP hD hS 0 rfl rfl 3 (by decide) (hks.ts _ lk6_15) (fun _ h => h) rfl hname rfl (tyX6_ok 3 (by decide)) rfl rfl (Nat.le_of_ble_eq_true rfl) dX6_init_17 (fun H locs hP hD hS => ?_)
  have hP : va_P G vwCl [(h0, .inr (6, [.null, .null, .ref q7, .ref q15, .null, .null, .null, .int 0, .int 0])), (q7, .inl (Y.2.1, 24, .inl (fun _ => 0))), (q15, .inl (Y.2.1, 24, .inl (fun _ => 0)))] H := hP
  have hD : va_D A [(h0, .inr (6, [.null, .null, .ref q7, .ref q15, .null, .null, .null, .int 0, .int 0])), (q7, .inl (Y.2.1, 24, .inl (fun _ => 0))), (q15, .inl (Y.2.1, 24, .inl (fun _ => 0)))] := hD
  refine lv_aload_n hx hb dX6_init_20 rfl (lv_at hl 0 rfl) ?_
  refine lv_bipush (v := (24 : Int32)) hx hb dX6_init_21 (by decide) ?_
  refine i_newa (atype := .boolean) (ty := .boolean) (n := 24) C hP hD hS 3 rfl (cA := Y.2.2.2.1) rfl (fun _ h => h) (hts (.arrayClass .boolean) (by decide +kernel)) (a0 := (24, .inl (fun _ => 0))) (N' := 24) (fun _ => rfl) (by decide) (by decide) (by show 24 * 1 ≤ 536870912; omega) (Nat.le_of_ble_eq_true rfl) (Nat.le_of_ble_eq_true rfl) dX6_init_23 (fun q23 H hP hD hS => ?_)
  have hP : va_P G vwCl [(h0, .inr (6, [.null, .null, .ref q7, .ref q15, .null, .null, .null, .int 0, .int 0])), (q7, .inl (Y.2.1, 24, .inl (fun _ => 0))), (q15, .inl (Y.2.1, 24, .inl (fun _ => 0))), (q23, .inl (Y.2.2.2.1, 24, .inl (fun _ => 0)))] H := hP
  have hD : va_D A [(h0, .inr (6, [.null, .null, .ref q7, .ref q15, .null, .null, .null, .int 0, .int 0])), (q7, .inl (Y.2.1, 24, .inl (fun _ => 0))), (q15, .inl (Y.2.1, 24, .inl (fun _ => 0))), (q23, .inl (Y.2.2.2.1, 24, .inl (fun _ => 0)))] := hD
  refine W.widen (k := 3) (n := 72) (by decide) (by decide) ?_
  refine va_putF (ci := 6) (v := .ref q23) hx hb hks.ts k_in6 tyX6 tyX6_ok nmX6 hown hks.1 hP hD hS 0 rfl rfl 4 (by decide) (hks.ts _ lk6_18) (fun _ h => h) rfl hname rfl (tyX6_ok 4 (by decide)) rfl rfl (Nat.le_of_ble_eq_true rfl) dX6_init_25 (fun H locs hP hD hS => ?_)
  have hP : va_P G vwCl [(h0, .inr (6, [.null, .null, .ref q7, .ref q15, .ref q23, .null, .null, .int 0, .int 0])), (q7, .inl (Y.2.1, 24, .inl (fun _ => 0))), (q15, .inl (Y.2.1, 24, .inl (fun _ => 0))), (q23, .inl (Y.2.2.2.1, 24, .inl (fun _ => 0)))] H := hP
  have hD : va_D A [(h0, .inr (6, [.null, .null, .ref q7, .ref q15, .ref q23, .null, .null, .int 0, .int 0])), (q7, .inl (Y.2.1, 24, .inl (fun _ => 0))), (q15, .inl (Y.2.1, 24, .inl (fun _ => 0))), (q23, .inl (Y.2.2.2.1, 24, .inl (fun _ => 0)))] := hD
  refine lv_aload_n hx hb dX6_init_28 rfl (lv_at hl 0 rfl) ?_
  refine lv_bipush (v := (24 : Int32)) hx hb dX6_init_29 (by decide) ?_
  refine i_newa (atype := .int) (ty := .int) (n := 24) C hP hD hS 1 rfl (cA := Y.2.1) rfl (fun _ h => h) (hts (.arrayClass .int) (by decide +kernel)) (a0 := (24, .inl (fun _ => 0))) (N' := 24) (fun _ => rfl) (by decide) (by decide) (by show 24 * 4 ≤ 536870912; omega) (Nat.le_of_ble_eq_true rfl) (Nat.le_of_ble_eq_true rfl) dX6_init_31 (fun q31 H hP hD hS => ?_)
  have hP : va_P G vwCl [(h0, .inr (6, [.null, .null, .ref q7, .ref q15, .ref q23, .null, .null, .int 0, .int 0])), (q7, .inl (Y.2.1, 24, .inl (fun _ => 0))), (q15, .inl (Y.2.1, 24, .inl (fun _ => 0))), (q23, .inl (Y.2.2.2.1, 24, .inl (fun _ => 0))), (q31, .inl (Y.2.1, 24, .inl (fun _ => 0)))] H := hP
  have hD : va_D A [(h0, .inr (6, [.null, .null, .ref q7, .ref q15, .ref q23, .null, .null, .int 0, .int 0])), (q7, .inl (Y.2.1, 24, .inl (fun _ => 0))), (q15, .inl (Y.2.1, 24, .inl (fun _ => 0))), (q23, .inl (Y.2.2.2.1, 24, .inl (fun _ => 0))), (q31, .inl (Y.2.1, 24, .inl (fun _ => 0)))] := hD
  refine W.widen (k := 4) (n := 96) (by decide) (by decide) ?_
  refine va_putF (ci := 6) (v := .ref q31) hx hb hks.ts k_in6 tyX6 tyX6_ok nmX6 hown hks.1 hP hD hS 0 rfl rfl 5 (by decide) (hks.ts _ lk6_22) (fun _ h => h) rfl hname rfl (tyX6_ok 5 (by decide)) rfl rfl (Nat.le_of_ble_eq_true rfl) dX6_init_33 (fun H locs hP hD hS => ?_)
  have hP : va_P G vwCl [(h0, .inr (6, [.null, .null, .ref q7, .ref q15, .ref q23, .ref q31, .null, .int 0, .int 0])), (q7, .inl (Y.2.1, 24, .inl (fun _ => 0))), (q15, .inl (Y.2.1, 24, .inl (fun _ => 0))), (q23, .inl (Y.2.2.2.1, 24, .inl (fun _ => 0))), (q31, .inl (Y.2.1, 24, .inl (fun _ => 0)))] H := hP
  have hD : va_D A [(h0, .inr (6, [.null, .null, .ref q7, .ref q15, .ref q23, .ref q31, .null, .int 0, .int 0])), (q7, .inl (Y.2.1, 24, .inl (fun _ => 0))), (q15, .inl (Y.2.1, 24, .inl (fun _ => 0))), (q23, .inl (Y.2.2.2.1, 24, .inl (fun _ => 0))), (q31, .inl (Y.2.1, 24, .inl (fun _ => 0)))] := hD
  refine lv_aload_n hx hb dX6_init_36 rfl (lv_at hl 0 rfl) ?_
  refine lv_bipush (v := (24 : Int32)) hx hb dX6_init_37 (by decide) ?_
  refine i_newa (atype := .boolean) (ty := .boolean) (n := 24) C hP hD hS 3 rfl (cA := Y.2.2.2.1) rfl (fun _ h => h) (hts (.arrayClass .boolean) (by decide +kernel)) (a0 := (24, .inl (fun _ => 0))) (N' := 24) (fun _ => rfl) (by decide) (by decide) (by show 24 * 1 ≤ 536870912; omega) (Nat.le_of_ble_eq_true rfl) (Nat.le_of_ble_eq_true rfl) dX6_init_39 (fun q39 H hP hD hS => ?_)
  have hP : va_P G vwCl [(h0, .inr (6, [.null, .null, .ref q7, .ref q15, .ref q23, .ref q31, .null, .int 0, .int 0])), (q7, .inl (Y.2.1, 24, .inl (fun _ => 0))), (q15, .inl (Y.2.1, 24, .inl (fun _ => 0))), (q23, .inl (Y.2.2.2.1, 24, .inl (fun _ => 0))), (q31, .inl (Y.2.1, 24, .inl (fun _ => 0))), (q39, .inl (Y.2.2.2.1, 24, .inl (fun _ => 0)))] H := hP
  have hD : va_D A [(h0, .inr (6, [.null, .null, .ref q7, .ref q15, .ref q23, .ref q31, .null, .int 0, .int 0])), (q7, .inl (Y.2.1, 24, .inl (fun _ => 0))), (q15, .inl (Y.2.1, 24, .inl (fun _ => 0))), (q23, .inl (Y.2.2.2.1, 24, .inl (fun _ => 0))), (q31, .inl (Y.2.1, 24, .inl (fun _ => 0))), (q39, .inl (Y.2.2.2.1, 24, .inl (fun _ => 0)))] := hD
  refine W.widen (k := 5) (n := 120) (by decide) (by decide) ?_
  refine va_putF (ci := 6) (v := .ref q39) hx hb hks.ts k_in6 tyX6 tyX6_ok nmX6 hown hks.1 hP hD hS 0 rfl rfl 6 (by decide) (hks.ts _ lk6_25) (fun _ h => h) rfl hname rfl (tyX6_ok 6 (by decide)) rfl rfl (Nat.le_of_ble_eq_true rfl) dX6_init_41 (fun H locs hP hD hS => ?_)
  have hP : va_P G vwCl [(h0, .inr (6, [.null, .null, .ref q7, .ref q15, .ref q23, .ref q31, .ref q39, .int 0, .int 0])), (q7, .inl (Y.2.1, 24, .inl (fun _ => 0))), (q15, .inl (Y.2.1, 24, .inl (fun _ => 0))), (q23, .inl (Y.2.2.2.1, 24, .inl (fun _ => 0))), (q31, .inl (Y.2.1, 24, .inl (fun _ => 0))), (q39, .inl (Y.2.2.2.1, 24, .inl (fun _ => 0)))] H := hP
  have hD : va_D A [(h0, .inr (6, [.null, .null, .ref q7, .ref q15, .ref q23, .ref q31, .ref q39, .int 0, .int 0])), (q7, .inl (Y.2.1, 24, .inl (fun _ => 0))), (q15, .inl (Y.2.1, 24, .inl (fun _ => 0))), (q23, .inl (Y.2.2.2.1, 24, .inl (fun _ => 0))), (q31, .inl (Y.2.1, 24, .inl (fun _ => 0))), (q39, .inl (Y.2.2.2.1, 24, .inl (fun _ => 0)))] := hD
  refine lv_aload_n hx hb dX6_init_44 rfl (lv_at hl 0 rfl) ?_
  refine lv_aload_n hx hb dX6_init_45 rfl (lv_at hl 1 rfl) ?_
  refine va_putF (ci := 6) (v := .ref a1) hx hb hks.ts k_in6 tyX6 tyX6_ok nmX6 hown hks.1 hP hD hS 0 rfl rfl 0 (by decide) (hks.ts _ lk6_28) (fun _ h => h) rfl hname rfl (tyX6_ok 0 (by decide)) rfl rfl (Nat.le_of_ble_eq_true rfl) dX6_init_46 (fun H locs hP hD hS => ?_)
  have hP : va_P G vwCl [(h0, .inr (6, [.ref a1, .null, .ref q7, .ref q15, .ref q23, .ref q31, .ref q39, .int 0, .int 0])), (q7, .inl (Y.2.1, 24, .inl (fun _ => 0))), (q15, .inl (Y.2.1, 24, .inl (fun _ => 0))), (q23, .inl (Y.2.2.2.1, 24, .inl (fun _ => 0))), (q31, .inl (Y.2.1, 24, .inl (fun _ => 0))), (q39, .inl (Y.2.2.2.1, 24, .inl (fun _ => 0)))] H := hP
  have hD : va_D A [(h0, .inr (6, [.ref a1, .null, .ref q7, .ref q15, .ref q23, .ref q31, .ref q39, .int 0, .int 0])), (q7, .inl (Y.2.1, 24, .inl (fun _ => 0))), (q15, .inl (Y.2.1, 24, .inl (fun _ => 0))), (q23, .inl (Y.2.2.2.1, 24, .inl (fun _ => 0))), (q31, .inl (Y.2.1, 24, .inl (fun _ => 0))), (q39, .inl (Y.2.2.2.1, 24, .inl (fun _ => 0)))] := hD
  refine lv_aload_n hx hb dX6_init_49 rfl (lv_at hl 0 rfl) ?_
  refine lv_aload_n hx hb dX6_init_50 rfl (lv_at hl 2 rfl) ?_
  refine va_putF (ci := 6) (v := .ref a2) hx hb hks.ts k_in6 tyX6 tyX6_ok nmX6 hown hks.1 hP hD hS 0 rfl rfl 1 (by decide) (hks.ts _ lk6_32) (fun _ h => h) rfl hname rfl (tyX6_ok 1 (by decide)) rfl rfl (Nat.le_of_ble_eq_true rfl) dX6_init_51 (fun H locs hP hD hS => ?_)
  have hP : va_P G vwCl [(h0, .inr (6, [.ref a1, .ref a2, .ref q7, .ref q15, .ref q23, .ref q31, .ref q39, .int 0, .int 0])), (q7, .inl (Y.2.1, 24, .inl (fun _ => 0))), (q15, .inl (Y.2.1, 24, .inl (fun _ => 0))), (q23, .inl (Y.2.2.2.1, 24, .inl (fun _ => 0))), (q31, .inl (Y.2.1, 24, .inl (fun _ => 0))), (q39, .inl (Y.2.2.2.1, 24, .inl (fun _ => 0)))] H := hP
  have hD : va_D A [(h0, .inr (6, [.ref a1, .ref a2, .ref q7, .ref q15, .ref q23, .ref q31, .ref q39, .int 0, .int 0])), (q7, .inl (Y.2.1, 24, .inl (fun _ => 0))), (q15, .inl (Y.2.1, 24, .inl (fun _ => 0))), (q23, .inl (Y.2.2.2.1, 24, .inl (fun _ => 0))), (q31, .inl (Y.2.1, 24, .inl (fun _ => 0))), (q39, .inl (Y.2.2.2.1, 24, .inl (fun _ => 0)))] := hD
  refine lv_aload_n hx hb dX6_init_54 rfl (lv_at hl 0 rfl) ?_
  refine lv_iconst (v := (-1 : Int32)) hx hb dX6_init_55 (by decide) ?_
  refine va_put (ci := 6) (v := .int (-1 : Int32)) hx hb hks.ts k_in6 tyX6 tyX6_ok nmX6 hown hks.1 hP hD hS 0 rfl rfl 8 (by decide) (hks.ts _ lk6_36) (fun _ h => h) rfl (tyX6_ok 8 (by decide)) rfl rfl (Nat.le_of_ble_eq_true rfl) dX6_init_56 (fun H locs hP hD hS => ?_)
  have hP : va_P G vwCl [(h0, .inr (6, [.ref a1, .ref a2, .ref q7, .ref q15, .ref q23, .ref q31, .ref q39, .int 0, .int (-1 : Int32)])), (q7, .inl (Y.2.1, 24, .inl (fun _ => 0))), (q15, .inl (Y.2.1, 24, .inl (fun _ => 0))), (q23, .inl (Y.2.2.2.1, 24, .inl (fun _ => 0))), (q31, .inl (Y.2.1, 24, .inl (fun _ => 0))), (q39, .inl (Y.2.2.2.1, 24, .inl (fun _ => 0)))] H := hP
  have hD : va_D A [(h0, .inr (6, [.ref a1, .ref a2, .ref q7, .ref q15, .ref q23, .ref q31, .ref q39, .int 0, .int (-1 : Int32)])), (q7, .inl (Y.2.1, 24, .inl (fun _ => 0))), (q15, .inl (Y.2.1, 24, .inl (fun _ => 0))), (q23, .inl (Y.2.2.2.1, 24, .inl (fun _ => 0))), (q31, .inl (Y.2.1, 24, .inl (fun _ => 0))), (q39, .inl (Y.2.2.2.1, 24, .inl (fun _ => 0)))] := hD
  exact i_ret (o := 78) (CE := CC6_78 Y a1 a2 sN) C (fun k => if k = 78 then h0 else if k = 79 then q7 else if k = 80 then q15 else if k = 81 then q23 else if k = 82 then q31 else q39) rfl (hP.sub [0, 1, 2, 3, 4, 5] rfl) (hD.sub [0, 1, 2, 3, 4, 5] (by decide) rfl) hS dX6_init_59
