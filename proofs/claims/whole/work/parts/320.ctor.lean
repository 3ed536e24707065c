/-! CONSTRUCTORS: worlds written out; what is made gets its places by a function u -/
def z0 : MSt := (fun _ _ => 0, fun _ _ => 0)
def i_P (G : va_G) (Y : CY) (W0 : va_W) (sz : Nat) (av : List Value) : Array Value → State → Prop := va_Pc av (fun U => U.heap.size = sz ∧ va_P G vwCl W0 U.heap ∧ k_K G Y U ∧ va_D (fun _ => True) W0 ∧ k_E Y (va_A W0 sz) U U.heap)
theorem i_P.blind {G : va_G} {Y : CY} {W0 : va_W} {sz : Nat} {av : List Value} : FrameBlind (i_P G Y W0 sz av) := by
  intro a U g mk h
  obtain ⟨h1, h2, h3, h4, h5, h6⟩ := h
  exact ⟨h1, h2, h3, k_K.same (s := U) (U := U.calling g mk a) rfl h4, h5, k_E.same (s := U) (U := U.calling g mk a) rfl h6⟩
abbrev i_Q (G : va_G) (A : Nat → Prop) (o h0 : Nat) (CE : (Nat → Nat) → va_W) := va_Qv (fun u : Nat → Nat => u o = h0) (fun (u : Nat → Nat) (t : State) => va_P G vwCl (CE u) t.heap ∧ va_D A (CE u)) A
def i_M (l : Launch) (y : MethodName) (ws : List Cond) (rm : Room) (G : va_G) (Y : CY) (W0 : va_W) (av : List Value) (o h0 : Nat) (CE : (Nat → Nat) → va_W) (mc ms : Nat) : Prop := ∀ sz, Met l y ws rm (i_P G Y W0 sz av) (i_Q G (va_A W0 sz) o h0 CE) mc ms (va_A W0 sz)
theorem i_of {l : Launch} {y : MethodName} {ws ws' : List Cond} {rm : Room} {G : va_G} {Y : CY} {W0 : va_W} {av : List Value} {o h0 : Nat} {CE : (Nat → Nat) → va_W} {mc ms : Nat} {cc : ByteArray} {maxL : Nat} {own : String} (hy : plainName y.cls = true) (ho : y.cls = own) (hn : y.name = "<init>") (hws : ws = Cond.code y cc maxL none :: ws') (hl : (lg_sl av).length ≤ maxL)
    (body : ∀ (p : Program) (e : Env) (s : State) (m : MethodId) (below : List Frame) (meth : Method) (c : Code) (A : Nat → Prop), k_C p s m av.toArray meth c cc own none ws maxL G Y A → meth.name = "<init>" → ∀ ls : Array Slot, lv_has ls maxL (lv_args 0 av) → va_P G vwCl W0 s.heap → va_D A W0 → va_S A s.heap s.heap [] → W p l e rm s m av.toArray below meth c s.heap [] 0 0 (MQ below (i_Q G A o h0 CE) av.toArray s mc ms A) (F0 m 0 ls [])) : i_M l y ws rm G Y W0 av o h0 CE mc ms := by
  intro sz
  refine Met.ofW (cc := cc) (maxL := maxL) (ret := none) hy hws ?_
  intro p e s m args below meth c s₁ B hml hv
  obtain ⟨rfl, rfl, hP, hK, hD0, hE⟩ := hv
  have hC : k_C p s m av.toArray meth c cc own none ws maxL G Y (va_A W0 s.heap.size) := ⟨B.exec, B.bytes, B.returns, hml, ho ▸ findClass_of_methodNamed B.named, atoms_spec (ws := ws) B.pre, hK, B.notSynchronized, fun q h => Or.inr h, hE⟩
  rw [lg_entry_eq]
  exact body p e s m below meth c _ hC ((name_of_methodNamed B.named B.method).1.trans hn) _ (lv_entry av hl) hP hD0.self va_S.rf
section ICALL
variable {p : Program} {l : Launch} {e : Env} {R : Room} {s : State} {m : MethodId} {args : Array Value} {below : List Frame} {meth : Method} {c : Code} {H : Heap} {locs : List Loc} {cells slots : Nat} {Q : State → Prop}
variable {cc : ByteArray} {own : String} {ret : Option FieldType} {Ts : List Cond} {nL : Nat} {G : va_G} {Y : CY} {A : Nat → Prop} {pc : Nat} {ls : Array Slot} {rest : List Value} {ws wr wc : va_W}
theorem i_ret (C : k_C p s m args meth c cc own none Ts nL G Y A) {o h0 : Nat} {CE : (Nat → Nat) → va_W} (u : Nat → Nat) (hu : u o = h0) (hP : va_P G vwCl (CE u) H) (hD : va_D A (CE u)) (hS : va_S A s.heap H locs) (hd : decode cc pc = .ok (.return_, 1)) : W p l e R s m args below meth c H locs cells slots (MQ below (i_Q G A o h0 CE) args s cells slots A) (F0 m pc ls []) := by
  have hlocks : meth.locks = false := C.2.2.2.2.2.2.2.1
  exact W.vret C.1 C.2.1 C.2.2.1 (fun t ht hW => ⟨⟨u, rfl, hu, by rw [ht]; exact hP, hD⟩, hS.F ht⟩) hS.2.2 hd
theorem i_pre (C : k_C p s m args meth c cc own ret Ts nL G Y A) (hP : va_P G vwCl ws H) (hD : va_D A ws) (hS : va_S A s.heap H locs) (isC : List Nat) (hC : isC.map (fun i => ws[i]?) = wc.map some) (hC2 : isC.filterMap (fun i => ws[i]?) = wc) (hnd : va_nd isC = true) {av : List Value} : ∀ U : State, U.heap = H → s.WarmedH U.vm → i_P G Y wc H.size av av.toArray U := fun U hU hW => ⟨rfl, by rw [hU], by rw [hU]; exact hP.sub isC hC2, C.2.2.2.2.2.2.1.moved hW, (hD.sub isC hnd hC).weaken (fun _ _ _ _ => trivial), by rw [hU]; exact ((C.2.2.2.2.2.2.2.2.2).to hS.2.1 (va_free hD hS C.2.2.2.2.2.2.2.2.1 isC hC)).warm hW⟩
theorem i_call (C : k_C p s m args meth c cc own ret Ts nL G Y A) (hP : va_P G vwCl ws H) (hD : va_D A ws) (hS : va_S A s.heap H locs) {y : MethodName} {wsy : List Cond} {rm : Room} {b o : Nat} {As st : List Value} {CE : (Nat → Nat) → va_W} {mc ms : Nat} (hM : i_M l y wsy rm G Y wc (.ref b :: As) o b CE mc ms) {index maxL n : Nat} {bytes : ByteArray} (cw : CallB R s args own index y bytes maxL none wsy rm mc ms n ∧ y.name = "<init>" ∧ (Cond.instanceMethod y).before args s = true)
    (isC isR : List Nat) (hC : isC.map (fun i => ws[i]?) = wc.map some) (hC2 : isC.filterMap (fun i => ws[i]?) = wc) (hR : isR.map (fun i => ws[i]?) = wr.map some) (hnC : va_nd isC = true) (hnR : va_nd isR = true) (hdis : ∀ i ∈ isR, i ∉ isC)
    (hn : As.length = n) (hsz : ls.size = nL) (hst : st = As.reverse ++ .ref b :: rest) (hroom : (rest.map fun v => v.category).sum ≤ 8) (hcs : cells + mc ≤ R.cells ∧ slots + ms ≤ R.slots) (hd : decode cc pc = .ok (.invokespecial index, 3))
    (kk : ∀ (u : Nat → Nat), u o = b → ∀ (H1 : Heap) (locs1 : List Loc), va_P G vwCl (wr ++ CE u) H1 → va_D A (wr ++ CE u) → va_S A s.heap H1 locs1 → W p l e R s m args below meth c H1 locs1 (cells + mc) (slots + ms) Q (F0 m (pc + 3) ls rest)) : W p l e R s m args below meth c H locs cells slots Q (F0 m pc ls st) := by
  subst hst
  have hFc := va_free hD hS C.2.2.2.2.2.2.2.2.1 isC hC
  refine va_callv (va_runI (As := As) (rest := rest) ⟨C.1, C.2.1, C.2.2.2.1, C.2.2.2.2.1, C.2.2.2.2.2.1⟩ (hM H.size) cw ⟨i_P.blind, i_pre C hP hD hS isC hC hC2 hnC⟩ rfl hn hsz rfl (lv_room hroom) hd hcs) hS (fun q _ h => hFc q h) hFc (fun u t H1 locs1 ht hvm hq hB hz1 hk1 hS => ?_)
  obtain ⟨hP1, hD1⟩ := hB
  rw [ht] at hP1
  obtain ⟨hP2, hD2⟩ := va_join hP hD isC isR hC hR hnR hdis hk1 hFc hP1 hD1
  exact kk u hq H1 locs1 hP2 hD2 hS
theorem i_callN (C : k_C p s m args meth c cc own ret Ts nL G Y A) (hP : va_P G vwCl ws H) (hD : va_D A ws) (hS : va_S A s.heap H locs) {y : MethodName} {wsy : List Cond} {rm : Room} {b o : Nat} {As st : List Value} {CE : (Nat → Nat) → va_W} {mc ms : Nat} (hM : i_M l y wsy rm G Y wc (.ref b :: As) o b CE mc ms) {index maxL n : Nat} {bytes : ByteArray} (cw : va_CN R s args own index y "MoodAnchor" bytes maxL none wsy rm mc ms n ∧ y.name = "<init>" ∧ (Cond.instanceMethod y).before args s = true)
    (isC isR : List Nat) (hC : isC.map (fun i => ws[i]?) = wc.map some) (hC2 : isC.filterMap (fun i => ws[i]?) = wc) (hR : isR.map (fun i => ws[i]?) = wr.map some) (hnC : va_nd isC = true) (hnR : va_nd isR = true) (hdis : ∀ i ∈ isR, i ∉ isC)
    (hn : As.length = n) (hsz : ls.size = nL) (hst : st = As.reverse ++ .ref b :: rest) (hroom : (rest.map fun v => v.category).sum ≤ 8) (hcs : cells + mc ≤ R.cells ∧ slots + ms ≤ R.slots) (hd : decode cc pc = .ok (.invokespecial index, 3))
    (kk : ∀ (u : Nat → Nat), u o = b → ∀ (H1 : Heap) (locs1 : List Loc), va_P G vwCl (wr ++ CE u) H1 → va_D A (wr ++ CE u) → va_S A s.heap H1 locs1 → W p l e R s m args below meth c H1 locs1 (cells + mc) (slots + ms) Q (F0 m (pc + 3) ls rest)) : W p l e R s m args below meth c H locs cells slots Q (F0 m pc ls st) := by
  subst hst
  have hFc := va_free hD hS C.2.2.2.2.2.2.2.2.1 isC hC
  refine va_callv (va_runIN (As := As) (rest := rest) ⟨C.1, C.2.1, C.2.2.2.1, C.2.2.2.2.1, C.2.2.2.2.2.1⟩ (hM H.size) cw ⟨i_P.blind, i_pre C hP hD hS isC hC hC2 hnC⟩ rfl hn hsz rfl (lv_room hroom) hd hcs) hS (fun q _ h => hFc q h) hFc (fun u t H1 locs1 ht hvm hq hB hz1 hk1 hS => ?_)
  obtain ⟨hP1, hD1⟩ := hB
  rw [ht] at hP1
  obtain ⟨hP2, hD2⟩ := va_join hP hD isC isR hC hR hnR hdis hk1 hFc hP1 hD1
  exact kk u hq H1 locs1 hP2 hD2 hS
theorem i_newa (C : k_C p s m args meth c cc own ret Ts nL G Y A) (hP : va_P G vwCl ws H) (hD : va_D A ws) (hS : va_S A s.heap H locs) {atype : ArrayType} {ty : FieldType} {cA : ClassId} (t0 : Nat) (hty : newarray.typeOf atype = ty) (hY : (k_tys Y)[t0]? = some (cA, ty)) (hprim : ∀ cB, va_RA s cB ty → s.vm.findClass ("[" ++ ty.toString) = some cB) (harr : (Cond.arrayClass ty).before args s = true)
    {n : Int32} {N' : Nat} {a0 : vp_A} (ha : ∀ cB : ClassId, vp_cell cB a0 = arrV cB N' (fun _ => defaultValue ty)) (hn : ¬ n < 0) (hN : n.toNatClampNeg = N') (hbytes : N' * componentBytes ty ≤ 536870912) (hcells : cells + 1 ≤ R.cells) (hslots : slots + N' ≤ R.slots) (hd : decode cc pc = .ok (.newarray atype, 2))
    (kk : ∀ (q : Nat) (H1 : Heap), va_P G vwCl (ws ++ [(q, .inl (cA, a0))]) H1 → va_D A (ws ++ [(q, .inl (cA, a0))]) → va_S A s.heap H1 locs → W p l e R s m args below meth c H1 locs (cells + 1) (slots + N') Q (F0 m (pc + 2) ls (.ref q :: rest))) : W p l e R s m args below meth c H locs cells slots Q (F0 m pc ls (.int n :: rest)) := by
  subst hty
  refine va_newa C.1 C.2.1 harr rfl C.2.2.2.2.2.2.1.1 hP hD hS C.2.2.2.2.2.2.2.2.1 ha hn hN hbytes hcells hslots hd (fun q cB H1 hK2 hP1 hD1 hS1 => ?_)
  have e1 := hprim cB (hK2.2 4 (cB, newarray.typeOf atype) rfl).2
  have e2 := hprim cA (C.2.2.2.2.2.2.1.1.2 t0 _ hY).2
  have e3 : cB = cA := Option.some.inj (e1.symm.trans e2)
  subst e3
  exact kk q H1 hP1 hD1 hS1
end ICALL
def sL (o : Nat) : MSt := mI (mI (mI z0 o 4 (-1)) o 5 (-1)) o 6 (-1)
def sN : MSt := mI z0 78 8 (-1)
def CC8_70 (Y : CY) (σ : MSt) (u : Nat → Nat) : va_W := [
  (u 70, .inr (8, FX8 u 70 σ))]
def rmi8_70 : Room := { frames := 1, cells := 0, slots := 0, locals := 12 }
set_option maxHeartbeats 4000000 in
set_option maxRecDepth 100000 in
theorem i_X8_init_70 (l : Launch) (G : va_G) (Y : CY) (h0 : Nat) : i_M l yX8_init wsX8_init rmi8_70 G Y [(h0, .inr (8, [.int 0, .int 0, .int 0, .int 0, .int 0, .int 0, .int 0, .int 0]))] [.ref h0] 70 h0 (CC8_70 Y  z0) 0 0 := by
  refine i_of (own := RX8) (cc := cX8_init) (maxL := 1) (by decide) rfl rfl rfl (Nat.le_of_ble_eq_true rfl) ?_
  intro p e s m below meth c A C hname ls hl hP hD hS
  have hx := C.1
  have hb := C.2.1
  have hown := C.2.2.2.2.1
  have hts := C.2.2.2.2.2.1
  have hks := C.2.2.2.2.2.2.1
  have hA := C.2.2.2.2.2.2.2.2.1
  have hl : lv_has ls 1 [(0, .ref h0)] := hl
  refine lv_aload_n hx hb dX8_init_0 rfl (lv_at hl 0 rfl) ?_
  refine W.objInit hx hb hown (hts (.methodLink RX8 3 objectInit) (by decide +kernel)) (hts (.instanceMethod objectInit) (by decide +kernel)) (hts (.code objectInit ⟨#[0xb1]⟩ 1 none) (by decide +kernel)) rfl (by rw [C.2.2.2.1]; exact hl.1) rfl dX8_init_1 (Nat.le_of_ble_eq_true rfl) (Nat.le_of_ble_eq_true rfl) ?_
  refine W.eq (g2 := F0 m 4 ls []) rfl ?_
  exact i_ret (o := 70) (CE := CC8_70 Y  z0) C (fun k =>  h0) rfl (hP.sub [0] rfl) (hD.sub [0] (by decide) rfl) hS dX8_init_4
def CC8_72 (Y : CY) (σ : MSt) (u : Nat → Nat) : va_W := [
  (u 72, .inr (8, FX8 u 72 σ))]
def rmi8_72 : Room := { frames := 1, cells := 0, slots := 0, locals := 12 }
set_option maxHeartbeats 4000000 in
set_option maxRecDepth 100000 in
theorem i_X8_init_72 (l : Launch) (G : va_G) (Y : CY) (h0 : Nat) : i_M l yX8_init wsX8_init rmi8_72 G Y [(h0, .inr (8, [.int 0, .int 0, .int 0, .int 0, .int 0, .int 0, .int 0, .int 0]))] [.ref h0] 72 h0 (CC8_72 Y  z0) 0 0 := by
  refine i_of (own := RX8) (cc := cX8_init) (maxL := 1) (by decide) rfl rfl rfl (Nat.le_of_ble_eq_true rfl) ?_
  intro p e s m below meth c A C hname ls hl hP hD hS
  have hx := C.1
  have hb := C.2.1
  have hown := C.2.2.2.2.1
  have hts := C.2.2.2.2.2.1
  have hks := C.2.2.2.2.2.2.1
  have hA := C.2.2.2.2.2.2.2.2.1
  have hl : lv_has ls 1 [(0, .ref h0)] := hl
  refine lv_aload_n hx hb dX8_init_0 rfl (lv_at hl 0 rfl) ?_
  refine W.objInit hx hb hown (hts (.methodLink RX8 3 objectInit) (by decide +kernel)) (hts (.instanceMethod objectInit) (by decide +kernel)) (hts (.code objectInit ⟨#[0xb1]⟩ 1 none) (by decide +kernel)) rfl (by rw [C.2.2.2.1]; exact hl.1) rfl dX8_init_1 (Nat.le_of_ble_eq_true rfl) (Nat.le_of_ble_eq_true rfl) ?_
  refine W.eq (g2 := F0 m 4 ls []) rfl ?_
  exact i_ret (o := 72) (CE := CC8_72 Y  z0) C (fun k =>  h0) rfl (hP.sub [0] rfl) (hD.sub [0] (by decide) rfl) hS dX8_init_4