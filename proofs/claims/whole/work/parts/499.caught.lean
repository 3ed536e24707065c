/-! a throw that has come back from a callee, caught by a row of this method's table (the rows' classes cold or warm): own proofs, over the laws of one step of the unwinding -/
section Caught
variable {p : Program} {l : Launch} {e : Env} {R : Room} {s : State} {m : MethodId} {args : Array Value} {below : List Frame} {meth : Method} {c : Code} {T : State} {locs : List Loc} {cells slots : Nat}
/-- a row by a class's name: it takes the object or hands the search on, and the pool's entry is noted either way -/
theorem z_row {Q : Handler → Pre} {E : CtlPost} {d : Bool} {acts : List Action} {S : State} {f : JFrame} {a : Addr} {x : ExceptionTableEntry} {t : List ExceptionTableEntry} {k : ClassId} {ce : Cell} (hx : covers x f.pc = true) (h0 : x.catchType ≠ 0)
    (hl : S.vm.ClassLinks e.platform f.method.cls x.catchType k) (hce : S.heap[a]? = some ce) (hv : ce.vm = .none) (hk : ∃ z, S.vm.classes[ce.cls]? = some z) (hc : ∃ z, S.vm.classes[k]? = some z) :
    wp (findHandler.go f a (x :: t)) Q E e d acts S ↔
      if S.vm.assignable ce.cls k = true then Q (.found x.handlerPc) d acts (S.setVm (S.vm.noted f.method.cls x.catchType (.cls k)))
      else wp (findHandler.go f a t) Q E e d acts (S.setVm (S.vm.noted f.method.cls x.catchType (.cls k))) := by
  obtain ⟨z1, h1⟩ := hk
  obtain ⟨z2, h2⟩ := hc
  have al : S.vm.Alike (S.vm.noted f.method.cls x.catchType (.cls k)) := (Vm.Alike.refl S.vm).noted _ _ _
  obtain ⟨y1, g1, -⟩ := al.2.2 _ _ h1
  obtain ⟨y2, g2, -⟩ := al.2.2 _ _ h2
  have ho : ∀ i, ce.vm ≠ .statics i := fun i hi => by rw [hv] at hi; cases hi
  obtain ⟨r1, r2⟩ := (resolveClass_links e.toSetting hl).op (op := VmOp.resolveClass f.method.cls x.catchType) rfl
  have hx' : (decide (x.startPc ≤ f.pc) && decide (f.pc < x.endPc)) = true := hx
  cases hA : S.vm.assignable ce.cls k <;>
    (have hB := hA; rw [← al.assignable] at hB
     simp [findHandler.go, hx', h0, r1, r2, hce, ho, g1, g2, hB, VmOp.dirties, VmOp.acts])
/-- the search of a table: rows that don't cover the place, or name a class that the object isn't of, then the row that takes it -/
theorem z_find {f : JFrame} {a : Addr} {ce : Cell} (hv : ce.vm = .none) (hk : ∃ z, s.vm.classes[ce.cls]? = some z) {x : ExceptionTableEntry} {suf : List ExceptionTableEntry} (hx : covers x f.pc = true) (h0 : x.catchType ≠ 0)
    {k : ClassId} (hl : s.vm.ClassLinks e.platform f.method.cls x.catchType k) (hfit : s.vm.assignable ce.cls k = true) :
    ∀ (pre : List ExceptionTableEntry) (S : State), s.WarmedH S.vm → S.heap[a]? = some ce →
      (∀ z ∈ pre, covers z f.pc = false ∨ (z.catchType ≠ 0 ∧ ∃ i, s.vm.ClassLinks e.platform f.method.cls z.catchType i ∧ s.vm.assignable ce.cls i = false)) →
      ∃ v, s.WarmedH v ∧ ∀ (Q : Handler → Pre) (E : CtlPost) (d : Bool) (acts : List Action), wp (findHandler.go f a (pre ++ x :: suf)) Q E e d acts S ↔ Q (.found x.handlerPc) d acts (S.setVm v) := by
  have one : ∀ (S : State), s.WarmedH S.vm → S.heap[a]? = some ce → ∀ (y : ExceptionTableEntry) (i : ClassId), covers y f.pc = true → y.catchType ≠ 0 → s.vm.ClassLinks e.platform f.method.cls y.catchType i →
      s.WarmedH (S.vm.noted f.method.cls y.catchType (.cls i)) ∧ ∀ (t : List ExceptionTableEntry) (Q : Handler → Pre) (E : CtlPost) (d : Bool) (acts : List Action), wp (findHandler.go f a (y :: t)) Q E e d acts S ↔
        if s.vm.assignable ce.cls i = true then Q (.found y.handlerPc) d acts (S.setVm (S.vm.noted f.method.cls y.catchType (.cls i))) else wp (findHandler.go f a t) Q E e d acts (S.setVm (S.vm.noted f.method.cls y.catchType (.cls i))) := by
    intro S hW hS y i hy hy0 hly
    obtain ⟨_, _, _, _, w1, _, _, _, _, w2, _, w3⟩ := hly.here
    obtain ⟨z, hz⟩ := hk
    obtain ⟨z1, q1, -⟩ := hW.alike.2.2 _ _ hz
    obtain ⟨z2, q2, -⟩ := hW.alike.2.2 _ _ w2
    refine ⟨hW.noted w1 w3 (State.rightAt_cls hly), fun t Q E d acts => ?_⟩
    rw [z_row hy hy0 (hW.classLinks hly) hS hv ⟨z1, q1⟩ ⟨z2, q2⟩, hW.alike.assignable]
  intro pre
  induction pre with
  | nil =>
    intro S hW hS _
    obtain ⟨w, st⟩ := one S hW hS x k hx h0 hl
    exact ⟨_, w, fun Q E d acts => by rw [List.nil_append, st, if_pos hfit]⟩
  | cons y ys ih =>
    intro S hW hS hp
    have hp' := fun z hz => hp z (List.mem_cons_of_mem y hz)
    cases hy : covers y f.pc with
    | false =>
      obtain ⟨v, w, st⟩ := ih S hW hS hp'
      exact ⟨v, w, fun Q E d acts => by rw [List.cons_append, W.findHandler_go_skip hy]; exact st Q E d acts⟩
    | true =>
      rcases hp y List.mem_cons_self with h | ⟨hy0, i, hli, hno⟩
      · rw [hy] at h; cases h
      · obtain ⟨w1, st1⟩ := one S hW hS y i hy hy0 hli
        obtain ⟨v, w, st⟩ := ih (S.setVm (S.vm.noted f.method.cls y.catchType (.cls i))) w1 hS hp'
        exact ⟨v, w, fun Q E d acts => by rw [List.cons_append, st1, hno, if_neg (by decide)]; exact st Q E d acts⟩
/-- from the note over this method's frame to its handler -/
theorem z_caught (X : Stand p l e R s m args below meth c T locs cells slots) {g : JFrame} (hg : g.method = m) {a : Addr} {ce : Cell} (hce : T.heap[a]? = some ce) (hv : ce.vm = .none) (hk : ∃ z, s.vm.classes[ce.cls]? = some z)
    {pre : List ExceptionTableEntry} {x : ExceptionTableEntry} {suf : List ExceptionTableEntry} (hsplit : c.exceptionTable.toList = pre ++ x :: suf)
    (hp : ∀ z ∈ pre, covers z g.pc = false ∨ (z.catchType ≠ 0 ∧ ∃ i, s.vm.ClassLinks e.platform m.cls z.catchType i ∧ s.vm.assignable ce.cls i = false)) (hx : covers x g.pc = true) (h0 : x.catchType ≠ 0)
    {k : ClassId} (hl : s.vm.ClassLinks e.platform m.cls x.catchType k) (hfit : s.vm.assignable ce.cls k = true) :
    ∃ v, Stand p l e R s m args below meth c (T.setVm v) locs cells slots ∧ Steps p.tables e below ((T.setTop g).pushFrame (.throwing a)) ((T.setVm v).setTop { g with pc := x.handlerPc, stack := [.ref a] }) := by
  subst hg
  obtain ⟨v, hW, st⟩ := z_find (e := e) (f := g) (a := a) (suf := suf) hv hk hx h0 hl hfit pre ((T.setTop g).pushFrame (.throwing a)) X.warmed hce hp
  refine ⟨v, X.noted hW, ?_⟩
  obtain ⟨go, win⟩ := X.here.throwing a
  have hs : ∀ r, (stepThrowing e ((T.setTop g).pushFrame (.throwing a)) a (.java g :: r)).Is ((((T.setTop g).pushFrame (.throwing a)).setVm v).setFrames (.java { g with pc := x.handlerPc, stack := [.ref a] } :: r)) [] := by
    intro r
    simp only [stepThrowing, searchFrame, vmDo]
    generalize hr : Sem.go _ e false [] ((T.setTop g).pushFrame (.throwing a)) = res
    obtain ⟨as, rfl, ha⟩ := Sem.eq_ok_of hr (a := Handler.found x.handlerPc) (s' := ((T.setTop g).pushFrame (.throwing a)).setVm v) (acts' := [])
      (by simp [W.findHandler_eq (f := g) (s := (T.setTop g).pushFrame (.throwing a)) X.method' X.code, hsplit, st])
    exact ⟨rfl, ha⟩
  refine Steps.head go win ?_
  obtain ⟨g0, h1⟩ := Option.isSome_iff_exists.mp X.here.top
  obtain ⟨r, h2⟩ := State.topJava?_eq_some.mp h1
  have h3 : (T.setVm v).frames = .java g0 :: r := h2
  have h4 : ∀ (U : State) (F G : List Frame), ((U.setFrames F).setVm v).setFrames G = (U.setVm v).setFrames G := fun U F G => State.setFrames_setFrames (U.setVm v) F G
  rw [stepThread_throwing (frames_entered X.here.top _), (hs _).1, State.setTop_of_frames _ h3, h2, List.tail_cons, State.pushFrame, h4, State.setTop_of_frames _ h2, h4]
  exact Steps.refl _
end Caught
