/-! an exception whose <init>(String) calls its superclass's by an entry of its own (rx, ix): made and thrown, no traces; z_throwX is the printed vx_throwS, turned to it -/
theorem z_chain {s : State} {args : Array Value} {pl : Platform} (hpl : pl.magicAccessors = ({} : Platform).magicAccessors) {top : MethodId} (htop : s.methodNamed? (Bundle.initS Bundle.tN) = some top)
    {ix : Nat} {rx : ByteArray} (x0 : decode rx 0 = .ok (.aload_n 0, 1)) (x1 : decode rx 1 = .ok (.aload_n 1, 1)) (x2 : decode rx 2 = .ok (.invokespecial ix, 3)) (x5 : decode rx 5 = .ok (.return_, 1))
    {names : List String} {X : String} (hX : Bundle.fit X = true) (hn : ∀ n ∈ names, Bundle.fit n = true) (h : ∀ c ∈ z_up X ix rx names, c.before args s = true) :
    ∃ (P : PassC) (Ps : List PassC), Ps.length = names.length ∧ P.LinksS pl s ∧ (∀ q, q ∈ Ps → q.LinksS pl s) ∧ s.methodNamed? (Bundle.initS X) = some P.m ∧ P.sup = firstOf top (Ps.map (·.toPassT)) ∧ PassesOn top (Ps.map (·.toPassT)) := by
  match names, hn, h with
  | [], _, h =>
    obtain ⟨P, L, h1, h2⟩ := PassC.ofS_atoms (args := args) (s := s) hpl (X := X) (Y := Bundle.tN) (Bundle.fit_spec hX).1 (by decide) x0 x1 x2 x5 h
    exact ⟨P, [], rfl, L, fun _ hq => (List.not_mem_nil hq).elim, h1, Option.some.inj (h2.symm.trans htop), trivial⟩
  | Y :: r, hn, h =>
    have h' : ∀ c ∈ Bundle.chainSAtoms Y r ++ Bundle.passSAtoms X Y ix rx, c.before args s = true := h
    obtain ⟨P1, Ps, e1, L1, L2, g1, g2, g3⟩ := Bundle.chainS (args := args) hpl htop r Y (hn Y List.mem_cons_self) (fun n hm => hn n (List.mem_cons_of_mem _ hm)) (fun c hc => h' c (List.mem_append_left _ hc))
    obtain ⟨P, L, h1, h2⟩ := PassC.ofS_atoms (args := args) (s := s) hpl (X := X) (Y := Y) (Bundle.fit_spec hX).1 (Bundle.fit_spec (hn Y List.mem_cons_self)).2 x0 x1 x2 x5 (fun c hc => h' c (List.mem_append_right _ hc))
    exact ⟨P, P1 :: Ps, congrArg (· + 1) e1, L, fun q hq => (List.mem_cons.mp hq).elim (fun hq => hq ▸ L1) (L2 q), h1, Option.some.inj (h2.symm.trans g1), g2, g3⟩
/-- the words of 'throw new X("..")' hold; below, each under a name -/
def z_New (own : String) (ic : Nat) (X : String) (ix : Nat) (rx : ByteArray) (names : List String) (args : Array Value) (s : State) : Prop := ∀ w ∈ z_asks own ic X ix rx names, w.before args s = true
section
variable {own : String} {ic : Nat} {X : String} {ix : Nat} {rx : ByteArray} {names : List String} {args : Array Value} {s : State}
theorem z_New.top (h : z_New own ic X ix rx names args s) : ∀ w ∈ Bundle.throwableAtoms, w.before args s = true := fun w hw => h w (List.mem_append_right _ hw)
theorem z_New.topS (h : z_New own ic X ix rx names args s) : ∀ w ∈ Bundle.throwableSAtoms, w.before args s = true := fun w hw => h w (List.mem_append_left _ (List.mem_append_right _ hw))
theorem z_New.up (h : z_New own ic X ix rx names args s) : ∀ w ∈ z_up X ix rx names, w.before args s = true := fun w hw => h w (List.mem_append_left _ (List.mem_append_left _ (List.mem_append_right _ hw)))
theorem z_New.link (h : z_New own ic X ix rx names args s) : (Cond.methodLink own ic (Bundle.initS X)).before args s = true := h _ (by simp [z_asks])
theorem z_New.inst (h : z_New own ic X ix rx names args s) : (Cond.instantiable X 6).before args s = true := h _ (by simp [z_asks])
theorem z_New.fill (h : z_New own ic X ix rx names args s) : ∀ n, n = Bundle.tFill0 ∨ n = Bundle.tFill → (Cond.selects X n n).before args s = true := fun n hn => by rcases hn with rfl | rfl <;> exact h _ (by simp [z_asks])
theorem z_New.lay (h : z_New own ic X ix rx names args s) : ∀ n d, (n, d) ∈ z_flds → (Cond.lays X Bundle.tN n d).before args s = true := fun n d hm => h _ (List.mem_append_left _ (List.mem_append_left _ (List.mem_append_left _ (List.mem_append_right _ (List.mem_map.mpr ⟨(n, d), hm, rfl⟩)))))
theorem z_New.ref (h : z_New own ic X ix rx names args s) : ∀ n d, (n, d) = ("UNASSIGNED_STACK", Bundle.steD) ∨ (n, d) = ("SUPPRESSED_SENTINEL", Bundle.listD) → (Cond.isRef (.static Bundle.tN n d)).before args s = true := fun n d hq => by rcases hq with hq | hq <;> cases hq <;> exact h _ (by simp [z_asks])
theorem z_New.bt (h : z_New own ic X ix rx names args s) : (Cond.fieldLink Bundle.tN 198 Bundle.tN "backtrace" "Ljava/lang/Object;").before args s = true := h _ (by simp [z_asks])
theorem z_New.btl (h : z_New own ic X ix rx names args s) : (Cond.lays Bundle.tN Bundle.tN "backtrace" "Ljava/lang/Object;").before args s = true := h _ (by simp [z_asks])
/-- X's own <init>(String) is a method of an object, with the code rx -/
theorem z_New.code (h : z_New own ic X ix rx names args s) : (Cond.instanceMethod (Bundle.initS X)).before args s = true ∧ (Cond.code (Bundle.initS X) rx 2 none).before args s = true := by
  have N := h
  cases names <;> exact ⟨N.up _ (by simp [z_up, Bundle.passSAtoms]), N.up _ (by simp [z_up, Bundle.passSAtoms])⟩
end
/-- a field that objects of the class k lay, at its place -/
def z_In (s : State) (k : ClassId) (K : Class) (f : Field) : Prop := K.instanceTypes[f.slot]? = some f.type ∧ ∃ d, Jmm.declares? s.vm f.slot (k + 1) k = some d ∧ d.2.name = f.name
theorem z_In.ne {s : State} {k : ClassId} {K : Class} {f g : Field} (hf : z_In s k K f) (hg : z_In s k K g) (hn : f.name ≠ g.name) : f.slot ≠ g.slot :=
  hf.2.elim fun _ a => hg.2.elim fun _ b => Cond.laysApart a.1 b.1 a.2 b.2 hn
section
variable {p : Program} {l : Launch} {e : Env} {R : Room} {s : State} {m : MethodId} {args : Array Value} {below : List Frame} {meth : Method} {c : Code} {H : Heap} {locs : List Loc} {cells slots : Nat}
/-- a method of Throwable's that X doesn't override is the one that is called -/
theorem z_sel {V : State} (X : Stand p l e R s m args below meth c V locs cells slots) {cls : String} {n : MethodName} (w : (Cond.selects cls n n).before args s = true) (hn : n.cls ≠ "java/lang/invoke/MethodHandle" ∧ n.cls ≠ "java/lang/invoke/VarHandle")
    {k : ClassId} (hk : s.vm.findClass cls = some k) {i : MethodId} (hi : s.methodNamed? n = some i) : selectMethod e.platform s.vm k i = .method i := by
  obtain ⟨k', r, i', w1, w2, w3, w4, -⟩ := Cond.selects_spec w
  rw [hk] at w1; rw [hi] at w3; rw [State.methodFound?_of_named hi hn] at w2
  cases w1; cases w2; cases w3
  rw [Launch.admits_selectMethod X.admits]; exact w4
set_option maxHeartbeats 2000000 in
theorem z_ctorX {V : State} (X : Stand p l e R s m args below meth c V [] cells slots) (hexec : p.tables.exec = Jvm.exec) (htr : e.platform.stackTraces = false) {own cls : String} {names : List String} {ic ix : Nat} {rx : ByteArray} (x0 : decode rx 0 = .ok (.aload_n 0, 1)) (x1 : decode rx 1 = .ok (.aload_n 1, 1)) (x2 : decode rx 2 = .ok (.invokespecial ix, 3)) (x5 : decode rx 5 = .ok (.return_, 1))
    (hown : s.vm.findClass own = some m.cls) (hcls : Bundle.fit cls = true) (hnames : ∀ n ∈ names, Bundle.fit n = true) (N : z_New own ic cls ix rx names args s)
    {a : Addr} {k : ClassId} {K : Class} (hk : s.vm.findClass cls = some k) (hK : s.vm.classes[k]? = some K) (ha : V.heap[a]? = some (freshCell k K)) (hnew : s.heap.size ≤ a) {msg : Value} (hmsg : msg.isRef = true)
    {g : JFrame} (hg : g.method = m) (hsize : g.locals.size = c.maxLocals) (hlocked : g.locked = none) (hentered : g.entered = []) {rest : List Value} (hstack : g.stack = msg :: .ref a :: .ref a :: rest)
    (hd6 : decode c.code g.pc = .ok (.invokespecial ic, 3)) (hd9 : decode c.code (g.pc + 3) = .ok (.athrow, 1)) (hout : ∀ x ∈ c.exceptionTable.toList, covers x (g.pc + 3) = false)
    (hRframes : names.length + 3 < R.frames) (hRlocals : 2 * g.monitorRoom + ((Value.ref a :: rest).map fun v => v.category).sum + (13 * (names.length + 1) + 42) ≤ R.locals) (hlocks : meth.locks = false) :
    ∃ U : State, Steps p.tables e below (V.setTop g) U ∧ U.status = .running ∧ Ended U below (.threw a) ∧ s.WarmedH U.vm ∧ s.sameButNew ({ U with vm := s.vm } : State) [] cells slots ∧ ∃ ce, U.heap[a]? = some ce ∧ ce.vm = .none ∧ s.vm.findClass cls = some ce.cls := by
  have hp := X.admits.platform
  have hM : e.platform.magicAccessors = ({} : Platform).magicAccessors := by rw [hp]
  -- Throwable, the two constructors at the chain's top, the chain
  obtain ⟨T, Z0, TL, -, Y⟩ := ThrowableC.of_atoms (args := args) (by rw [hp]) (by rw [hp]) hM N.top
  obtain ⟨Z, G, ZL, GL, hZ⟩ := Init0T.ofS_atoms (args := args) hM TL Y N.topS
  obtain ⟨P, Ps, hlen, PL, PsL, hPm, hP, hPs⟩ := z_chain (args := args) hM hZ x0 x1 x2 x5 hcls hnames N.up
  have hPk : P.m.cls = k := Option.some.inj ((findClass_of_methodNamed hPm).symm.trans hk)
  -- the object's fields
  obtain ⟨k', K', i1, i2, hord, -⟩ := Cond.instantiable_spec N.inst
  rw [hk] at i1; cases i1
  rw [hK] at i2; cases i2
  obtain ⟨nB, iB, fB, b1, b2, b3, b4, -, hnB, htB, b5⟩ := Cond.ownField (t := .object "java/lang/Object") Y.found TL.cls (by decide +kernel) N.bt N.btl e.platform hM
  have F : ∀ {n d : String} {c' K' i} {f : Field}, (n, d) ∈ z_flds → s.fieldFound? Bundle.tN n d = some (c', K', i, f) → z_In s k K f := fun hm hf => Cond.laysAt hk hK hf (N.lay _ _ hm)
  have FB := F (by simp [z_flds]) b5
  have FC := F (by simp [z_flds]) Y.cause
  have FS := F (by simp [z_flds]) Y.stack
  have FP := F (by simp [z_flds]) Y.supp
  have FM := Y.msg.elim fun _ h => F (by simp [z_flds]) h
  have nC := FB.ne FC (by rw [hnB, Y.causeName]; decide)
  have nS := FB.ne FS (by rw [hnB, Y.stackName]; decide)
  have nP := FB.ne FP (by rw [hnB, Y.suppName]; decide)
  -- Throwable's two statics, as they were
  obtain ⟨D, d1, d2⟩ := Y.statics
  obtain ⟨u, hu⟩ := Cond.staticRefV Y.unassigned TL.unassignedStatic TL.statics d1 d2 (N.ref _ _ (Or.inl rfl))
  obtain ⟨v, hv⟩ := Cond.staticRefV Y.sentinel TL.sentinelStatic TL.statics d1 d2 (N.ref _ _ (Or.inr rfl))
  obtain ⟨D', d3, d4, -, d5⟩ := X.same.2.2.2.2.2 T.aS D d1
  have hvm : D'.vm = D.vm := by rw [d4]
  have d6 : D'.vm ≠ .unknown := fun h => by rw [← hvm, h] at d2; cases d2
  have hfar : T.aS ≠ a := fun h => absurd ((Array.getElem?_eq_some_iff.mp d1).1) (by rw [h]; exact Nat.not_lt.mpr hnew)
  have d7 : ∀ i, D'.slots[i]? = D.slots[i]? := fun i => d5 i (List.not_mem_nil)
  -- the call of the constructor, and what it does
  obtain ⟨i, _, _, _, vm1, r1, -, -, -, -, -, -, -, r2, st1⟩ := Steps.initColdS (tb := p.tables) (e := e) (below := below) (s := s) (U := V) X.here hexec X.warmed hM hown (t := Bundle.initS cls) rfl rfl (Bundle.fit_spec hcls).2
    N.link N.code.1 (bytes := rx) (maxL := 2) N.code.2 (f := g) hg (a := a) (msg := msg) (rest := .ref a :: rest) hstack hd6
  rw [hPm] at r1; cases r1
  have hskip : SkipFacts T e.platform s (fun u => u) u ((preparedCellV T.toThrowableT (freshCell k K) a u v).withEntry V.cur) := by
    refine ⟨{ ci198 := nB, i198 := iB, fBack := fB }, ⟨b1, b2, b3, b4⟩, ?_, fun _ _ => rfl⟩
    have hdef := fresh_default (c := k) FB.1
    rw [htB] at hdef
    simpa [preparedCellV, Cell.setSlot, Cell.withEntry, Array.getElem?_setIfInBounds, nC, nC.symm, nS, nS.symm, nP, nP.symm, defaultValue] using hdef
  obtain ⟨vm2, X2, st2⟩ := (X.noted r2).ctorMessageOffV hexec (g := { g with stack := .ref a :: rest }) hg hsize T TL Z ZL G GL (P :: Ps) (List.forall_mem_cons.mpr ⟨PL, PsL⟩) ⟨hP, hPs⟩ (u0 := u) (sen := v) (self := a) hmsg (cell := freshCell k K) (cellS := D')
    ha (by simp) (by simp) rfl rfl (z_sel X (N.fill _ (Or.inl rfl)) (by decide) hk Y.fill0) (z_sel X (N.fill _ (Or.inr rfl)) (by decide) hk Y.fill) d3 hfar d6 ((d7 _).trans hu) ((d7 _).trans hv)
    (Takes.of_laid hK hord FC.1 (by rw [Y.causeType]; rfl)) (Takes.of_laid hK hord FS.1 (by rw [Y.stackType]; exact fits_refV_array _ u)) (Takes.of_laid hK hord FP.1 (by rw [Y.suppType]; exact fits_refV_object _ v)) (Takes.of_laid hK hord FM.1 (by rw [Y.msgType]; exact fits_refV_object _ ⟨msg, hmsg⟩))
    Y.objLocals hskip htr [] hd6 (by rw [List.length_cons, hlen]; omega) (by rw [List.length_cons, hlen]; exact hRlocals)
  -- it leaves the method
  obtain ⟨y1, y2, y3, y4, y5⟩ := X2.athrowLeaves hexec (g := { g with stack := .ref a :: rest, pc := g.pc + 3 }) hg hlocked hentered hout (a := a) (rest := rest) rfl hd9
  refine ⟨_, st1 _ (fun _ => by rw [doInvoke_state]; exact st2 _ y1), y2, y3, y4, y5.weaken (fun z hz hlt => ?_) (Nat.le_refl _) (Nat.le_refl _), _, heapAt_setCell_self _ (Array.getElem?_eq_some_iff.mp ha).1, rfl, hk⟩
  rw [List.nil_append] at hz
  have hza : z.base = a := by
    simp only [List.mem_cons, List.not_mem_nil, or_false] at hz
    rcases hz with rfl | rfl | rfl | rfl | rfl <;> rfl
  exact absurd hlt (by rw [hza]; exact Nat.not_lt.mpr hnew)
variable {free : Addr → Prop} {ls : Array Slot} {rest : List Value} {Qc : Array Value → State → Outcome → State → Prop} {XC : String → State → State → Prop}
theorem z_ownX {A : Nat → Prop} {L : List Cond} (h1 : ∀ w ∈ L.filter vx_no, w.before args s = true) (hU : vx_Zq Bundle.tN "UNASSIGNED_STACK" Bundle.steD A s s.heap) (hN : vx_Zq Bundle.tN "SUPPRESSED_SENTINEL" Bundle.listD A s s.heap) : ∀ w ∈ L, w.before args s = true := vx_own h1 (vx_isRefq hU.1) (vx_isRefq hN.1) hU.2.word hN.2.word
set_option maxHeartbeats 2000000 in
/-- 'throw new E("text")' -/
theorem z_throwX {cc : ByteArray} {pc : Nat} (hexec : p.tables.exec = Jvm.exec) (hb : c.code = cc) (hl : l.stackTraces = false) {own cls text : String} {names : List String} {ik is ic ix mc ms sa : Nat} {rx : ByteArray} (x0 : decode rx 0 = .ok (.aload_n 0, 1)) (x1 : decode rx 1 = .ok (.aload_n 1, 1)) (x2 : decode rx 2 = .ok (.invokespecial ix, 3)) (x5 : decode rx 5 = .ok (.return_, 1)) {A : Nat → Prop}
    (hown : s.vm.findClass own = some m.cls) (hcls : Bundle.fit cls = true) (hnames : ∀ n ∈ names, Bundle.fit n = true)
    (hk : (Cond.classLink own ik cls).before args s = true) (hini : (Cond.initialized cls).before args s = true) (hstr : vk_R own is text sa s) (hat : ∀ w ∈ z_atX own ic cls ix rx names, w.before args s = true)
    (hgood : ∀ w ∈ Cond.classLink own ik cls :: Cond.initialized cls :: z_atX own ic cls ix rx names, vx_ot w = true)
    (hU : vx_Zq Bundle.tN "UNASSIGNED_STACK" Bundle.steD A s s.heap) (hN : vx_Zq Bundle.tN "SUPPRESSED_SENTINEL" Bundle.listD A s s.heap) (hS : va_S A s.heap H locs) (hsize : ls.size = c.maxLocals)
    (d0 : decode cc pc = .ok (.new ik, 3)) (d3 : decode cc (pc + 3) = .ok (.dup, 1)) (d4 : decode cc (pc + 4) = .ok (.ldc is, 2)) (d6 : decode cc (pc + 6) = .ok (.invokespecial ic, 3)) (d9 : decode cc (pc + 9) = .ok (.athrow, 1))
    (hout : ∀ x ∈ c.exceptionTable.toList, covers x (pc + 9) = false)
    (hRframes : names.length + 3 < R.frames) (hRlocals : (rest.map fun v => v.category).sum + (13 * (names.length + 1) + 43) ≤ R.locals) (hRcells : cells + 1 ≤ R.cells) (hRslots : slots + 6 ≤ R.slots) (hlocks : meth.locks = false)
    (hx : ∀ t : State, s.vm.Alike t.vm → H.size ≤ t.heap.size → (∀ q : Nat, q < H.size → t.heap[q]? = H[q]?) → XC cls s t)
    (hf : ∀ z ∈ locs, free z.base) (hc : cells + 1 ≤ mc) (hs : slots + 6 ≤ ms) :
    W p l e R s m args below meth c H locs cells slots (vx_MQ below Qc XC args s mc ms free) (F0 m pc ls rest) := by
  intro T hT X
  have htr : e.platform.stackTraces = false := (show e.platform.stackTraces = l.stackTraces by rw [X.admits.platform]).trans hl
  have Y := vx_rebase X (R' := { frames := R.frames, locals := R.locals, cells := 1, slots := 6 }) (Nat.le_refl _) (Nat.le_refl _) hRcells hRslots
  obtain ⟨s', hA⟩ : ∃ z, z = (T.setVm s.vm).setFrames (.invoking m args :: below) := ⟨_, rfl⟩
  rw [← hA] at Y
  have hvm : s'.vm = s.vm := by rw [hA]; rfl
  have hhp : s'.heap = H := by rw [hA]; exact hT
  have hW0 : s.WarmedH s'.vm := by rw [hvm]; exact State.WarmedH.refl s
  have mv : ∀ w ∈ Cond.classLink own ik cls :: Cond.initialized cls :: z_atX own ic cls ix rx names, w.before args s = true → w.before args s' = true := fun w hw h => vx_ot_at hW0 hvm.symm (hgood w hw) h
  have hk' := mv _ List.mem_cons_self hk
  have hini' := mv _ (List.mem_cons_of_mem _ List.mem_cons_self) hini
  have hat' : ∀ w ∈ (z_asks own ic cls ix rx names).filter vx_no, w.before args s' = true := fun w hw => mv w (List.mem_cons_of_mem _ (List.mem_cons_of_mem _ hw)) (hat w hw)
  have hU' : vx_Zq Bundle.tN "UNASSIGNED_STACK" Bundle.steD A s' s'.heap := by rw [hhp]; exact vx_Zq.moved hW0.alike (hU.kept hS.2.1)
  have hN' : vx_Zq Bundle.tN "SUPPRESSED_SENTINEL" Bundle.listD A s' s'.heap := by rw [hhp]; exact vx_Zq.moved hW0.alike (hN.kept hS.2.1)
  have h := z_ownX hat' hU' hN'
  have hown' : s'.vm.findClass own = some m.cls := by rw [hvm]; exact hown
  have hins : (Cond.instantiable cls 6).before args s' = true := h _ (by simp [z_asks])
  obtain ⟨vm₁, cX, kX, hfX, hkX, -, -, X₁, st1⟩ := Y.newCold hexec (own := own) (C := cls) (index := ik) (n := 6) hown' hk' hins hini'
    (g := F0 m pc ls rest) rfl (by rw [hb]; exact d0) (Nat.le_refl _) (Nat.le_refl _)
  generalize hT1 : (T.setVm vm₁).pushCell { cls := cX, slots := kX.instanceTypes.map defaultValue, vm := .none } = T1 at X₁ st1
  have hcat : (Value.ref T.heap.size).category = 1 := rfl
  have hcellA : T1.heap[T.heap.size]? = some (freshCell cX kX) := by rw [← hT1]; exact State.heap_pushCell_size _ _
  have d3' : decode c.code (pc + 3) = .ok (.dup, 1) := by rw [hb]; exact d3
  have d4' : decode c.code (pc + 4) = .ok (.ldc is, 2) := by rw [hb]; exact d4
  have hstr' : vk_R own is text sa s' := vk_R.warm hW0 hstr
  obtain ⟨U, hsteps, hrun, hend, hW, hsame, ce, hce, hcv, hcn⟩ := z_ctorX X₁ hexec htr (own := own) (cls := cls) (names := names) (ic := ic) x0 x1 x2 x5 hown' hcls hnames h hfX hkX hcellA (by rw [hhp, hT]; exact Nat.le_refl _) (msg := .ref sa) rfl
    (g := { method := m, pc := pc + 6, locals := ls, stack := .ref sa :: .ref T.heap.size :: .ref T.heap.size :: rest, locked := none }) rfl hsize rfl rfl (rest := rest) rfl
    (by rw [hb]; exact d6) (by rw [hb]; exact d9) hout hRframes (by simp only [List.map_cons, List.sum_cons, hcat]; omega) hlocks
  obtain ⟨f1, f2⟩ := vx_frame hsame
  rw [hhp] at f1 f2
  have hWs : s.WarmedH U.vm := State.WarmedH.trans hW0 hW
  have hcl : s.vm.findClass cls = some ce.cls := by rw [hvm] at hcn; exact hcn
  have hall : s.sameButNew ({ U with vm := s.vm } : State) locs mc ms := by
    subst hA
    obtain ⟨e1, e2⟩ := hsame
    rw [State.setFrames_setFrames] at e1
    have h2 : (T.setVm s.vm).sameButNew ({ U with vm := s.vm } : State) [] (0 + 1) (0 + 6) := ⟨e1, e2⟩
    have h3 := X.same.trans h2
    rw [List.append_nil] at h3
    exact h3.mono hc hs
  refine ⟨U, ?_, .threw T.heap.size, hrun, hend, Or.inr ⟨T.heap.size, rfl, cls, ce, locs, hx U hWs.alike f1 (fun q hq => f2 q hq (fun z hz => nomatch hz)), hce, hcv, hcl, hWs, hall, hf⟩⟩
  refine st1 _ ?_
  show Steps p.tables e below (T1.setTop { method := m, pc := pc + 3, locals := ls, stack := .ref T.heap.size :: rest, locked := none }) _
  jvm_step X₁.here [X₁.here.top, hexec, d3', Value.category]
  exact X₁.ldcString hexec (own := own) (text := text) (index := is) (a := sa) hown' hstr'.1 hstr'.2
    (g := { method := m, pc := pc + 4, locals := ls, stack := .ref T.heap.size :: .ref T.heap.size :: rest, locked := none }) rfl d4' _ hsteps
end
