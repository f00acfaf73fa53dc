/-! the law's helpers: a call that may throw, and the search for its handler, whose class entries may be cold -/
section LX
variable {e : Env} {f : JFrame} {a : Addr}
/-- one covering entry: its class is resolved on the way -/
theorem lx_go1 {Q : Handler → Pre} {E : CtlPost} {d : Bool} {acts : List Action} {s : State} {x : ExceptionTableEntry} {t : List ExceptionTableEntry} {c : ClassId} {cell : Cell} (hx : covers x f.pc = true) (h0 : x.catchType ≠ 0)
    (hl : s.vm.ClassLinks e.platform f.method.cls x.catchType c) (hcell : s.heap[a]? = some cell) (hobj : ∀ k, cell.vm ≠ .statics k) (hk : ∃ k, s.vm.classes[cell.cls]? = some k) (hc : ∃ k, s.vm.classes[c]? = some k) :
    wp (findHandler.go f a (x :: t)) Q E e d acts s ↔ if s.vm.assignable cell.cls c = true then Q (.found x.handlerPc) d acts (s.setVm (s.vm.noted f.method.cls x.catchType (.cls c))) else wp (findHandler.go f a t) Q E e d acts (s.setVm (s.vm.noted f.method.cls x.catchType (.cls c))) := by
  simp only [covers] at hx
  obtain ⟨w1, w2⟩ := (resolveClass_links e.toSetting hl).op (op := VmOp.resolveClass f.method.cls x.catchType) rfl
  have al : s.vm.Alike (s.vm.noted f.method.cls x.catchType (.cls c)) := (Vm.Alike.refl s.vm).noted _ _ _
  obtain ⟨k1, h1⟩ := hk
  obtain ⟨k2, h2⟩ := hc
  obtain ⟨k1', h1', -⟩ := al.2.2 _ _ h1
  obtain ⟨k2', h2', -⟩ := al.2.2 _ _ h2
  have ha : (s.vm.noted f.method.cls x.catchType (.cls c)).assignable cell.cls c = s.vm.assignable cell.cls c := al.assignable _ _
  cases hfit : s.vm.assignable cell.cls c <;> rw [hfit] at ha <;> simp [findHandler.go, hx, h0, w1, w2, hcell, hobj, h1', h2', ha, VmOp.dirties, VmOp.acts]
/-- what the tables at the start say of an entry: the class of its constant, and whether the thrown class fits -/
def lxRow (pl : Platform) (s0 : State) (d : ClassId) (pc : Nat) (thrown : ClassId) (b : Bool) (y : ExceptionTableEntry) : Prop := covers y pc = true ∧ y.catchType ≠ 0 ∧ ∃ c, s0.vm.ClassLinks pl d y.catchType c ∧ s0.vm.assignable thrown c = b
theorem lx_links {pl : Platform} {s0 : State} {d : ClassId} {i : Nat} {c : ClassId} (hl : s0.vm.ClassLinks pl d i c) {vm1 : Vm} (hW : s0.WarmedH vm1) : (∃ k, vm1.classes[c]? = some k) ∧ s0.WarmedH (vm1.noted d i (.cls c)) := by
  obtain ⟨dk, _, _, kt, hd, _, _, _, _, hkt, _, hopen⟩ := hl.here
  obtain ⟨kt', hkt', -⟩ := hW.alike.2.2 _ _ hkt
  exact ⟨⟨kt', hkt'⟩, hW.noted hd hopen (State.rightAt_cls hl)⟩
theorem lx_find {s0 : State} {cell : Cell} (hobj : ∀ k, cell.vm ≠ .statics k) (hk : ∃ k, s0.vm.classes[cell.cls]? = some k) {x : ExceptionTableEntry} {rest : List ExceptionTableEntry} (hx : lxRow e.platform s0 f.method.cls f.pc cell.cls true x) :
    ∀ (pre : List ExceptionTableEntry) (S : State), s0.WarmedH S.vm → S.heap[a]? = some cell → (∀ y ∈ pre, lxRow e.platform s0 f.method.cls f.pc cell.cls false y) →
      ∃ vm1, s0.WarmedH vm1 ∧ ∀ (Q : Handler → Pre) (E : CtlPost) (d : Bool) (acts : List Action), wp (findHandler.go f a (pre ++ x :: rest)) Q E e d acts S ↔ Q (.found x.handlerPc) d acts (S.setVm vm1) := by
  intro pre
  induction pre with
  | nil =>
    intro S hW hcell _
    obtain ⟨g1, g2, c, g3, g4⟩ := hx
    obtain ⟨hc, hW1⟩ := lx_links g3 hW
    obtain ⟨k, hk0⟩ := hk
    obtain ⟨k', hk', -⟩ := hW.alike.2.2 _ _ hk0
    refine ⟨_, hW1, fun Q E d acts => ?_⟩
    rw [List.nil_append, lx_go1 g1 g2 (hW.classLinks g3) hcell hobj ⟨k', hk'⟩ hc, if_pos (by rw [hW.alike.assignable]; exact g4)]
  | cons y ys ih =>
    intro S hW hcell hp
    obtain ⟨g1, g2, c, g3, g4⟩ := hp y List.mem_cons_self
    obtain ⟨hc, hW1⟩ := lx_links g3 hW
    obtain ⟨k, hk0⟩ := hk
    obtain ⟨k', hk', -⟩ := hW.alike.2.2 _ _ hk0
    obtain ⟨vm1, hv, hf⟩ := ih (S.setVm (S.vm.noted f.method.cls y.catchType (.cls c))) hW1 hcell (fun z hz => hp z (List.mem_cons_of_mem _ hz))
    refine ⟨vm1, hv, fun Q E d acts => ?_⟩
    rw [List.cons_append, lx_go1 g1 g2 (hW.classLinks g3) hcell hobj ⟨k', hk'⟩ hc, if_neg (by rw [hW.alike.assignable, g4]; decide)]
    exact hf Q E d acts
end LX
section LY
variable {p : Program} {l : Launch} {e : Env} {R : Room} {s : State} {m : MethodId} {args : Array Value} {below : List Frame} {meth : Method} {c : Code} {T : State} {locs : List Loc} {cells slots : Nat}
/-- from the note of a throw to the handler that takes it -/
theorem lx_caught (X : Stand p l e R s m args below meth c T locs cells slots) {a : Addr} {g : JFrame} (hg : g.method = m) {cell : Cell} (hcell : T.heap[a]? = some cell) (hobj : cell.vm.isStatics = false) (hk : ∃ k, s.vm.classes[cell.cls]? = some k)
    (pre : List ExceptionTableEntry) (x : ExceptionTableEntry) (rest : List ExceptionTableEntry) (hs : c.exceptionTable.toList = pre ++ x :: rest) (hp : ∀ y ∈ pre, lxRow e.platform s m.cls g.pc cell.cls false y) (hx : lxRow e.platform s m.cls g.pc cell.cls true x) :
    ∃ vm1, Stand p l e R s m args below meth c (T.setVm vm1) locs cells slots ∧ ∀ target, Steps p.tables e below ((T.setVm vm1).setTop { g with pc := x.handlerPc, stack := [.ref a] }) target → Steps p.tables e below ((T.setTop g).pushFrame (.throwing a)) target := by
  subst hg
  obtain ⟨vm1, hW, hf⟩ := lx_find (e := e) (f := g) (a := a) (s0 := s) (cell := cell) (VmData.ne_statics_of hobj) hk hx pre ((T.setTop g).pushFrame (.throwing a)) X.warmed hcell hp
  refine ⟨vm1, X.noted hW, fun target hrest => ?_⟩
  have h : At T g.method c below := X.here
  obtain ⟨hgo, hw⟩ := h.throwing a
  refine Steps.head hgo hw ?_
  have hm : ((T.setTop g).pushFrame (.throwing a)).vm.method? g.method = some meth := X.method'
  have hF : ∀ (Q : Handler → Pre) (E : CtlPost) (d : Bool) (acts : List Action), wp (findHandler g a) Q E e d acts ((T.setTop g).pushFrame (.throwing a)) ↔ Q (.found x.handlerPc) d acts (((T.setTop g).pushFrame (.throwing a)).setVm vm1) := fun Q E d acts => (W.findHandler_eq hm X.code).trans (by rw [hs]; exact hf Q E d acts)
  have hstep : (stepThrowing e ((T.setTop g).pushFrame (.throwing a)) a (.java g :: below)).Is ((((T.setTop g).pushFrame (.throwing a)).setVm vm1).setFrames (.java { g with pc := x.handlerPc, stack := [.ref a] } :: below)) [] := by
    simp only [stepThrowing, searchFrame, vmDo]
    generalize hr : Sem.go _ e false [] ((T.setTop g).pushFrame (.throwing a)) = res
    obtain ⟨as, rfl, ha⟩ := Sem.eq_ok_of hr (a := Handler.found x.handlerPc) (s' := ((T.setTop g).pushFrame (.throwing a)).setVm vm1) (acts' := []) (by simp [hF _ _ _ _])
    exact ⟨rfl, ha⟩
  obtain ⟨g₀, hg0⟩ := Option.isSome_iff_exists.mp h.top
  obtain ⟨r, hr⟩ := State.topJava?_eq_some.mp hg0
  obtain ⟨g1, hfr⟩ := X.frames_eq
  have hr1 : r = below := by
    rw [hfr] at hr
    cases hr
    rfl
  subst hr1
  rw [stepThread_throwing (frames_entered h.top _), hr, List.tail_cons, hstep.1]
  have hr' : (T.setVm vm1).frames = .java g₀ :: r := hr
  rw [State.setTop_of_frames _ hr'] at hrest
  have e1 : (((T.setTop g).pushFrame (.throwing a)).setVm vm1).setFrames (.java { g with pc := x.handlerPc, stack := [.ref a] } :: r) = (T.setVm vm1).setFrames (.java { g with pc := x.handlerPc, stack := [.ref a] } :: r) := by
    rw [State.setTop_of_frames _ hr, State.pushFrame, State.setFrames_setFrames]
    show ((T.setVm vm1).setFrames _).setFrames _ = _
    rw [State.setFrames_setFrames]
  rw [e1]
  exact hrest
end LY
