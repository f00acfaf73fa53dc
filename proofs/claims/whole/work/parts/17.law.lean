/-! the law's helpers: a call that may throw, and the search for its handler, whose class entries may be cold -/
section LX
variable {e : Env} {f : JFrame} {a : Addr}
/-- one covering entry: its class is resolved on the way -/
theorem lx_go1 {Q : Handler → Pre} {E : CtlPost} {d : Bool} {acts : List Action} {s : State} {x : ExceptionTableEntry} {t : List ExceptionTableEntry} {c : ClassId} {cell : Cell} (hx : covers x f.pc = true) (h0 : x.catchType ≠ 0)
    (hl : s.vm.ClassLinks e.platform f.method.cls x.catchType c) (hcell : s.heap[a]? = some cell) (hobj : ∀ k, cell.vm ≠ .statics k) (hk : ∃ k, s.vm.classes[cell.cls]? = some k) (hc : ∃ k, s.vm.classes[c]? = some k) :
    wp (findHandler.go f a (x :: t)) Q E e d acts s ↔ if s.vm.assignable cell.cls c = true then Q (.found x.handlerPc) d acts (s.setVm (s.vm.noted f.method.cls x.catchType (.cls c))) else wp (findHandler.go f a t) Q E e d acts (s.setVm (s.vm.noted f.method.cls x.catchType (.cls c))) := by
  simp only [covers] at hx
  obtain ⟨w1, w2⟩ := (resolveClass_links e.toSetting hl).op (op := VmOp.resolveClass f.method.cls x.catchType) rfl
  have al : s.vm.Alike (s.vm.noted f.method.cls x.catchType (.cls c)) := (Vm.Alike.refl s.vm).noted _ _ _
  obtain ⟨k1, h1⟩ := hk
  obtain ⟨k2, h2⟩ := hc
  obtain ⟨k1', h1', -⟩ := al.2.2 _ _ h1
  obtain ⟨k2', h2', -⟩ := al.2.2 _ _ h2
  have ha : (s.vm.noted f.method.cls x.catchType (.cls c)).assignable cell.cls c = s.vm.assignable cell.cls c := al.assignable _ _
  cases hfit : s.vm.assignable cell.cls c <;> rw [hfit] at ha <;> simp [findHandler.go, hx, h0, w1, w2, hcell, hobj, h1', h2', ha, VmOp.dirties, VmOp.acts]
/-- what the tables at the start say of an entry: the class of its constant, and whether the thrown class fits -/
def lxRow (pl : Platform) (s0 : State) (d : ClassId) (pc : Nat) (thrown : ClassId) (b : Bool) (y : ExceptionTableEntry) : Prop := covers y pc = true ∧ y.catchType ≠ 0 ∧ ∃ c, s0.vm.ClassLinks pl d y.catchType c ∧ s0.vm.assignable thrown c = b
theorem lx_links {pl : Platform} {s0 : State} {d : ClassId} {i : Nat} {c : ClassId} (hl : s0.vm.ClassLinks pl d i c) {vm1 : Vm} (hW : s0.WarmedH vm1) : (∃ k, vm1.classes[c]? = some k) ∧ s0.WarmedH (vm1.noted d i (.cls c)) := by
  obtain ⟨dk, _, _, kt, hd, _, _, _, _, hkt, _, hopen⟩ := hl.here
  obtain ⟨kt', hkt', -⟩ := hW.alike.2.2 _ _ hkt
  exact ⟨⟨kt', hkt'⟩, hW.noted hd hopen (State.rightAt_cls hl)⟩
theorem lx_find {s0 : State} {cell : Cell} (hobj : ∀ k, cell.vm ≠ .statics k) (hk : ∃ k, s0.vm.classes[cell.cls]? = some k) {x : ExceptionTableEntry} {rest : List ExceptionTableEntry} (hx : lxRow e.platform s0 f.method.cls f.pc cell.cls true x) :
    ∀ (pre : List ExceptionTableEntry) (S : State), s0.WarmedH S.vm → S.heap[a]? = some cell → (∀ y ∈ pre, lxRow e.platform s0 f.method.cls f.pc cell.cls false y) →
      ∃ vm1, s0.WarmedH vm1 ∧ ∀ (Q : Handler → Pre) (E : CtlPost) (d : Bool) (acts : List Action), wp (findHandler.go f a (pre ++ x :: rest)) Q E e d acts S ↔ Q (.found x.handlerPc) d acts (S.setVm vm1) := by
  intro pre
  induction pre with
  | nil =>
    intro S hW hcell _
    obtain ⟨g1, g2, c, g3, g4⟩ := hx
    obtain ⟨hc, hW1⟩ := lx_links g3 hW
    obtain ⟨k, hk0⟩ := hk
    obtain ⟨k', hk', -⟩ := hW.alike.2.2 _ _ hk0
    refine ⟨_, hW1, fun Q E d acts => ?_⟩
    rw [List.nil_append, lx_go1 g1 g2 (hW.classLinks g3) hcell hobj ⟨k', hk'⟩ hc, if_pos (by rw [hW.alike.assignable]; exact g4)]
  | cons y ys ih =>
    intro S hW hcell hp
    obtain ⟨g1, g2, c, g3, g4⟩ := hp y List.mem_cons_self
    obtain ⟨hc, hW1⟩ := lx_links g3 hW
    obtain ⟨k, hk0⟩ := hk
    obtain ⟨k', hk', -⟩ := hW.alike.2.2 _ _ hk0
    obtain ⟨vm1, hv, hf⟩ := ih (S.setVm (S.vm.noted f.method.cls y.catchType (.cls c))) hW1 hcell (fun z hz => hp z (List.mem_cons_of_mem _ hz))
    refine ⟨vm1, hv, fun Q E d acts => ?_⟩
    rw [List.cons_append, lx_go1 g1 g2 (hW.classLinks g3) hcell hobj ⟨k', hk'⟩ hc, if_neg (by rw [hW.alike.assignable, g4]; decide)]
    exact hf Q E d acts
end LX
section LY
variable {p : Program} {l : Launch} {e : Env} {R : Room} {s : State} {m : MethodId} {args : Array Value} {below : List Frame} {meth : Method} {c : Code} {T : State} {locs : List Loc} {cells slots : Nat}
/-- from the note of a throw to the handler that takes it -/
theorem lx_caught (X : Stand p l e R s m args below meth c T locs cells slots) {a : Addr} {g : JFrame} (hg : g.method = m) {cell : Cell} (hcell : T.heap[a]? = some cell) (hobj : cell.vm.isStatics = false) (hk : ∃ k, s.vm.classes[cell.cls]? = some k)
    (pre : List ExceptionTableEntry) (x : ExceptionTableEntry) (rest : List ExceptionTableEntry) (hs : c.exceptionTable.toList = pre ++ x :: rest) (hp : ∀ y ∈ pre, lxRow e.platform s m.cls g.pc cell.cls false y) (hx : lxRow e.platform s m.cls g.pc cell.cls true x) :
    ∃ vm1, Stand p l e R s m args below meth c (T.setVm vm1) locs cells slots ∧ ∀ target, Steps p.tables e below ((T.setVm vm1).setTop { g with pc := x.handlerPc, stack := [.ref a] }) target → Steps p.tables e below ((T.setTop g).pushFrame (.throwing a)) target := by
  subst hg
  obtain ⟨vm1, hW, hf⟩ := lx_find (e := e) (f := g) (a := a) (s0 := s) (cell := cell) (VmData.ne_statics_of hobj) hk hx pre ((T.setTop g).pushFrame (.throwing a)) X.warmed hcell hp
  refine ⟨vm1, X.noted hW, fun target hrest => ?_⟩
  have h : At T g.method c below := X.here
  obtain ⟨hgo, hw⟩ := h.throwing a
  refine Steps.head hgo hw ?_
  have hm : ((T.setTop g).pushFrame (.throwing a)).vm.method? g.method = some meth := X.method'
  have hF : ∀ (Q : Handler → Pre) (E : CtlPost) (d : Bool) (acts : List Action), wp (findHandler g a) Q E e d acts ((T.setTop g).pushFrame (.throwing a)) ↔ Q (.found x.handlerPc) d acts (((T.setTop g).pushFrame (.throwing a)).setVm vm1) := fun Q E d acts => (W.findHandler_eq hm X.code).trans (by rw [hs]; exact hf Q E d acts)
  have hstep : (stepThrowing e ((T.setTop g).pushFrame (.throwing a)) a (.java g :: below)).Is ((((T.setTop g).pushFrame (.throwing a)).setVm vm1).setFrames (.java { g with pc := x.handlerPc, stack := [.ref a] } :: below)) [] := by
    simp only [stepThrowing, searchFrame, vmDo]
    generalize hr : Sem.go _ e false [] ((T.setTop g).pushFrame (.throwing a)) = res
    obtain ⟨as, rfl, ha⟩ := Sem.eq_ok_of hr (a := Handler.found x.handlerPc) (s' := ((T.setTop g).pushFrame (.throwing a)).setVm vm1) (acts' := []) (by simp [hF _ _ _ _])
    exact ⟨rfl, ha⟩
  obtain ⟨g₀, hg0⟩ := Option.isSome_iff_exists.mp h.top
  obtain ⟨r, hr⟩ := State.topJava?_eq_some.mp hg0
  obtain ⟨g1, hfr⟩ := X.frames_eq
  have hr1 : r = below := by
    rw [hfr] at hr
    cases hr
    rfl
  subst hr1
  rw [stepThread_throwing (frames_entered h.top _), hr, List.tail_cons, hstep.1]
  have hr' : (T.setVm vm1).frames = .java g₀ :: r := hr
  rw [State.setTop_of_frames _ hr'] at hrest
  have e1 : (((T.setTop g).pushFrame (.throwing a)).setVm vm1).setFrames (.java { g with pc := x.handlerPc, stack := [.ref a] } :: r) = (T.setVm vm1).setFrames (.java { g with pc := x.handlerPc, stack := [.ref a] } :: r) := by
    rw [State.setTop_of_frames _ hr, State.pushFrame, State.setFrames_setFrames]
    show ((T.setVm vm1).setFrames _).setFrames _ = _
    rw [State.setFrames_setFrames]
  rw [e1]
  exact hrest
end LY
def up1 (X : CXT) : CXT := (xp X, xl X, xe X, xR X, xs X, xm X, xa X, xb X, xmeth X, xc X, xcells X + 1, xslots X + 6, xQ X, xnL X)
/-- at a handler: one reference on the stack, whatever it is -/
def GX (X : CXT) (E : EVT) (A : Mem) (pc : Nat) (lv : List (Nat × Value)) : Prop :=
  ∀ (a : Nat) (H : Heap) (locs : List Loc) (ls : Array Slot), Rel E A H → va_S (eA E) (xs X).heap H locs → lv_has ls (xnL X) lv → W (xp X) (xl X) (xe X) (xR X) (xs X) (xm X) (xa X) (xb X) (xmeth X) (xc X) H locs (xcells X) (xslots X) (xQ X) (F0 (xm X) pc ls [.ref a])
def lxW (own : String) (pc j : Nat) (h : ExceptionTableEntry) : Prop := covers h pc = true ∧ h.catchType ≠ 0 ∧ Cond.classLink own h.catchType (exN.getD j "") ∈ gtb ∧ j < 6
theorem lx_self (vm : Vm) (c : ClassId) : vm.assignable c c = true := by
  show vm.assignableAux (255 + 1) c c = true
  rw [Vm.assignableAux]
  simp
section LZ
variable {X : CXT} {E : EVT} {own : String} {cc : ByteArray} {A : Mem} {pc : Nat} {lv : List (Nat × Value)} {rest : List Value} {F Q : Nat}
theorem lx_row (hX : Gd X E own cc) (hpl : (xe X).platform.magicAccessors = ({} : Platform).magicAccessors) {i j : Nat} {h : ExceptionTableEntry} (hw : lxW own pc j h) (hi : i < 6) {cX : ClassId} (hc : (xs X).vm.findClass (exN.getD i "") = some cX) : lxRow (xe X).platform (xs X) (xm X).cls pc cX (decide (j = i)) h := by
  obtain ⟨h1, h2, h3, h4⟩ := hw
  have hth := hX.2.2.2.2.2.1.2.2.2.1.2
  obtain ⟨c', hc', hcl⟩ := Cond.classLink_spec hX.2.2.2.1 (hX.2.2.2.2.1 _ h3) (xe X).platform hpl
  refine ⟨h1, h2, c', hcl, ?_⟩
  by_cases hj : j = i
  · subst hj
    cases hc.symm.trans hc'
    rw [lx_self]
    simp
  · rw [hth.2.2.1 i hi j h4 (fun q => hj q.symm) cX c' hc hc']
    simp [hj]
set_option maxHeartbeats 1000000 in
theorem g_callV_T (hX : Gd X E own cc) (hR : Rm X F Q) (htr : (xl X).stackTraces = false) (hz : xcells X + 1 ≤ (xR X).cells ∧ xslots X + 6 ≤ (xR X).slots) {y : MethodName} {bytes : ByteArray} {maxL index n fr lo : Nat} {ret : Option FieldType} {Ax : EVT → List Value} {post1 : Option Value → Mem → Prop} {KX1 : Nat → Mem → Prop} {As st : List Value} {x c : Nat} (hk : kd x = c) (hC : CFk c) (hy : y.cls = fC c) (hl : Cond.methodLink own index y ∈ gtb) (hM : MFi y bytes maxL ret n)
    (hc : CtT y bytes maxL ret fr lo (fun E9 => cr E9 x :: Ax E9) A post1 KX1) (hAs : Ax E = As) (hst : st = As.reverse ++ cr E x :: rest) (hn : As.length = n) (hro : fr + 1 ≤ F ∧ maxL + 19 + lo ≤ Q) (hw4 : (rest.map fun v => v.category).sum ≤ 8) (hd : decode cc pc = .ok (.invokevirtual index, 3))
    (k : ∀ (v : Option Value) (A9 : Mem), post1 v A9 → G (up1 X) E A9 (pc + 3) lv (v.toList ++ rest))
    (kx : ∀ (i : Nat) (A9 : Mem), i < 6 → KX1 i A9 → ∃ (pre : List ExceptionTableEntry) (h : ExceptionTableEntry) (post : List ExceptionTableEntry), (xc X).exceptionTable.toList = pre ++ h :: post ∧ lxW own pc i h ∧ (∀ y ∈ pre, ∃ j, j ≠ i ∧ lxW own pc j y) ∧ GX (up1 X) E A9 h.handlerPc lv) : G X E A pc lv st := by
  subst hst; subst hAs
  subst hk
  have hX9 := hX
  obtain ⟨hc0, hin, h50, hty, hnm⟩ := hC
  have hx0 : x ≠ 0 := by
    rintro rfl
    exact absurd h50.1 (by decide)
  intro H locs ls h1 h2 h3 T hT St
  obtain ⟨hx, hb, hml, hown, hts, hEF, hlk⟩ := hX
  have hat := g_at h1 (show kd x ≠ 0 by omega)
  have e3 : ent E A x = .inr (kd x - 1, (List.range (nf (kd x))).map (fun i => fv E A x i (fts (kd x) i))) := by unfold ent; rw [if_pos h50.2]
  rw [e3] at hat
  obtain ⟨r9, hr9, cell, q1, q2, q3, q4⟩ := hat
  have hcl := hEF.2.1.1 _ _ hc0
  have hfc : (xs X).vm.findClass (fC (kd x)) = some ((eD E).1 (kd x - 1)) := hcl.2.1
  have hcode := hts _ hM.1
  obtain ⟨mk, methM, hnamed, hmethM, hstM, habM⟩ := Cond.instanceMethod_spec (hts _ hM.2.1)
  obtain ⟨methM', cM, hmethM', -, -, -, -, -, -, hsigM⟩ := Cond.code_spec hnamed hcode
  cases hmethM.symm.trans hmethM'
  obtain ⟨c2, r2, m2, g1, g2, g3, g4, kP, hkP, hkPi⟩ := Cond.selects_spec (hts _ hM.2.2.1)
  have hcls : (xs X).vm.findClass y.cls = some cell.cls := by rw [hy, q2]; exact hfc
  cases hcls.symm.trans g1
  cases (State.methodFound?_of_named hnamed ⟨hM.2.2.2.2.1, hM.2.2.2.2.2.1⟩).symm.trans g2
  cases hnamed.symm.trans g3
  have hselP : selectMethod (xe X).platform (xs X).vm cell.cls mk = .method mk := by rw [Launch.admits_selectMethod St.admits]; exact g4
  have hlen : (Ax E).length = methM.sig.parameters.length := by
    have q := hM.2.2.2.2.2.2
    rw [hsigM] at q
    have q' : methM.sig.parameters.length = n := by simpa using q
    rw [hn, q']
  have hd' : decode (xc X).code pc = .ok (.invokevirtual index, 3) := by rw [hb]; exact hd
  rw [cr_pos hx0]
  obtain ⟨vm₁, X₁, hstep₁⟩ := St.invokevirtual hx hown (hts _ hl) hnamed hmethM hstM hkP hkPi ⟨hM.2.2.2.2.1, hM.2.2.2.2.2.1⟩ (a := ead E x) (cell := cell) (by rw [hT]; exact q1)
    (fun z h => by rw [h] at q3; cases q3) hselP hmethM habM hkP hkPi (g := F0 (xm X) pc ls ((Ax E).reverse ++ .ref (ead E x) :: rest)) rfl (argsL := Ax E) (rest := rest) hlen rfl hd'
  have hW1 := X₁.warmed
  have hroom : (FrmT fr lo).frames + 1 ≤ (xR X).frames ∧ 8 + (maxL + 11) + (FrmT fr lo).locals ≤ (xR X).locals := ⟨Nat.le_trans hro.1 hR.1, by have := hR.2.1; show 8 + (maxL + 11) + lo ≤ _; omega⟩
  have hp : PcD E (cr E x :: Ax E) A (Value.ref (ead E x) :: Ax E).toArray (T.setVm vm₁) := ⟨by rw [cr_pos hx0], EF_mv hEF h2 hT hW1, by show Rel E A T.heap; rw [hT]; exact h1⟩
  have hgd : GoodIn gtb (wsY y bytes maxL ret) := lw_goodc hM.1 lw_good
  obtain ⟨o, t, L, T', hq, hL, hh, hW2, X₂, hret, hthr⟩ := callT_back (R := xR X) (s := xs X) (args := xa X) (Wt := 8) (ig := .invokevirtual index) (len := 3) (hc (xl X) E htr) (PcD_blind E _ A) rfl rfl hroom.1 hroom.2
    (fun w hw a' U hW => word_at hW (hgd w hw).2 (hts _ (hgd w hw).1)) List.mem_cons_self (fun a' U hW => word_at hW (lw_good _ hM.2.2.2.1).2 (hts _ hM.2.2.2.1))
    (g := F0 (xm X) pc ls rest) (mk := mk) (a := (Value.ref (ead E x) :: Ax E).toArray) X₁ rfl (by rw [← hml] at h3; exact h3.1) hd' (by simp; omega) (X₁.named hnamed) hz.1 hz.2 hp
  have hF : va_F (eA E) ((T.setVm vm₁).calling (F0 (xm X) pc ls rest) mk (Value.ref (ead E x) :: Ax E).toArray) t := hq.2
  have hF1 : H.size ≤ t.heap.size := by rw [← hT]; exact hF.1
  have hF2 : ∀ q, q < H.size → ¬ eA E q → t.heap[q]? = H[q]? := fun q hq1 hq2 => by
    rw [← hT] at hq1 ⊢
    exact hF.2 q hq1 hq2
  have hS' : va_S (eA E) (xs X).heap T'.heap (locs ++ L) := ⟨by rw [hh]; exact Nat.le_trans h2.1 hF1, fun q hq1 hq2 => by
    rw [hh, hF2 q (Nat.lt_of_lt_of_le hq1 h2.1) hq2]
    exact h2.2.1 q hq1 hq2, fun q hq9 => (List.mem_append.mp hq9).elim (h2.2.2 q) (hL q)⟩
  rcases hq.1 with ⟨v, u, rfl, hpu, hRel⟩ | ⟨x9, i, u, rfl, hi, hKX, hRel, hex⟩
  · obtain ⟨t9, s1, s2⟩ := k v u hpu T'.heap (locs ++ L) ls (by rw [hh]; exact hRel) hS' h3 T' rfl X₂
    exact ⟨t9, hstep₁ _ fun acts => by rw [doInvoke_state]; exact (hret v rfl).trans s1, s2⟩
  · obtain ⟨pre, h, post, ht, hw, hps, hg⟩ := kx i u hi hKX
    obtain ⟨hx1, cX, ce, c1, c2, c3, c4⟩ := hex
    have hpl : (xe X).platform.magicAccessors = ({} : Platform).magicAccessors := by rw [St.admits.platform]
    have e9 : vm₁.findClass (exN.getD i "") = (xs X).vm.findClass (exN.getD i "") := hW1.alike.findClass _ _
    have c1' : vm₁.findClass (exN.getD i "") = some cX := c1
    rw [e9] at c1'
    subst c3
    obtain ⟨vm2, X₃, hcat⟩ := lx_caught X₂ (a := x9) (g := F0 (xm X) pc ls rest) rfl (cell := ce) (by rw [hh]; exact c2) (by rw [c4]; rfl) (Vm.classAt_of_findClass c1') pre h post ht
      (fun y9 hy9 => by
        obtain ⟨j, hj, hw9⟩ := hps y9 hy9
        have := lx_row hX9 hpl hw9 hi c1'
        rw [decide_eq_false hj] at this
        exact this)
      (by
        have := lx_row hX9 hpl hw hi c1'
        rw [decide_eq_true rfl] at this
        exact this)
    obtain ⟨t9, s1, s2⟩ := hg x9 T'.heap (locs ++ L) ls (by rw [hh]; exact hRel) hS' h3 (T'.setVm vm2) rfl X₃
    exact ⟨t9, hstep₁ _ fun acts => by rw [doInvoke_state]; exact (hthr x9 rfl).trans (hcat _ s1), s2⟩
end LZ
/-! the helpers' contracts: an int comes back, whatever was thrown inside -/
def CtL (y : MethodName) (cc : ByteArray) (maxL : Nat) (hs : List (Nat × Nat × Nat × Nat)) (fr lo : Nat) (av : EVT → List Value) (A : Mem) (post : Int32 → Mem → Prop) : Prop := ∀ (l : Launch) (E : EVT), l.stackTraces = false → MetT l y (Cond.codeWith y cc maxL (some .int) hs :: gtb) (FrmT fr lo) (PcD E (av E) A) (va_QT E (PI post) (fun _ _ => False)) 1 6 (eA E)
def QL (X : CXT) (E : EVT) (post : Int32 → Mem → Prop) (hs : List (Nat × Nat × Nat × Nat)) : Prop := xQ X = MQT (xb X) (va_QT E (PI post) (fun _ _ => False)) (xa X) (xs X) 1 6 (eA E) ∧ (xmeth X).sig.returnType = some .int ∧ (xl X).stackTraces = false ∧ 1 ≤ (xR X).cells ∧ 6 ≤ (xR X).slots ∧ (xc X).exceptionTable.toList = tableOf hs
section LV
variable {X : CXT} {E : EVT} {own : String} {cc : ByteArray} {A : Mem} {pc : Nat} {lv : List (Nat × Value)} {rest : List Value} {F Q : Nat} {post : Int32 → Mem → Prop} {hs : List (Nat × Nat × Nat × Nat)}
theorem g_iretL (hX : Gd X E own cc) (hQ : QL X E post hs) (hc : xcells X ≤ 1 ∧ xslots X ≤ 6) {v : Int32} {st : List Value} (hst : st = [.int v]) (hd : decode cc pc = .ok (.ireturn, 1)) (h : post v A) : G X E A pc lv st := by
  subst hst
  intro H locs ls h1 h2 h3
  obtain ⟨hQ1, hQ2, -⟩ := hQ
  obtain ⟨hx, hb, hml, hownC, hts, hEF, hlk⟩ := hX
  rw [hQ1]
  exact W.mono (fun t => MQ.toT (Qc := va_QT E (PI post) (fun _ _ => False)) (fun o t h => h) hc.1 hc.2 t) (W.iret hx hb hQ2 (fun t ht9 hW9 => ⟨Or.inl ⟨_, A, rfl, ⟨v, rfl, h⟩, by rw [ht9]; exact h1⟩, h2.F ht9⟩) h2.2.2 hd hlk)
theorem ctL_of {y : MethodName} {maxL fr lo : Nat} {av : EVT → List Value} (hy : plainName y.cls = true) (ho : y.cls = own) (lv0 : EVT → List (Nat × Value)) (hlen : ∀ E, (lg_sl (av E)).length ≤ maxL) (hlv : ∀ E, ∀ q ∈ lv0 E, q ∈ lv_args 0 (av E))
    (walk : ∀ (X : CXT) (E : EVT), Gd X E own cc → Rm X fr lo → xnL X = maxL → QL X E post hs → (xcells X = 0 ∧ xslots X = 0) → G X E A 0 (lv0 E) []) : CtL y cc maxL hs fr lo av A post := by
  intro l E htr
  refine MetFree.of_bodyS (code := cc) (maxLocals := maxL) (ret := some .int) hy ?_ ?_
  · intro args s m h hn
    obtain ⟨m', meth, c, h0, h1, h2, h3, h4, -, h5, h6, -⟩ := Cond.codeWith_spec (atoms_spec (ws := Cond.codeWith y cc maxL (some .int) hs :: gtb) h _ List.mem_cons_self)
    cases hn.symm.trans h0
    exact ⟨meth, c, h1, h2, h3, h4, h5, h6⟩
  · intro p e s m args below meth c s₁ B hml hv _
    obtain ⟨rfl, hEF, hRel⟩ := hv
    have hh0 : s₁.heap = s.heap := by rw [B.state]; rfl
    have hts := atoms_spec (ws := Cond.codeWith y cc maxL (some .int) hs :: gtb) B.pre
    obtain ⟨m', meth', c', g0, g1, g2, g3, g4, g5, -, -, -⟩ := Cond.codeWith_spec (hts _ List.mem_cons_self)
    cases B.named.symm.trans g0
    cases B.method.symm.trans g1
    have X0 := Stand.of_body B
    cases X0.code.symm.trans g2
    have ht : c.exceptionTable.toList = tableOf hs := by rw [← g5, table_eq]
    rw [lg_entry_eq]
    obtain ⟨t, a1, o, b1, b2, b3⟩ := walk (p, l, e, (headSpec (Cond.codeWith y cc maxL (some .int) hs :: gtb) (FrmT fr lo)).room, s, m, (av E).toArray, below, meth, c, 0, 0, MQT below (va_QT E (PI post) (fun _ _ => False)) (av E).toArray s 1 6 (eA E), maxL) E ⟨B.exec, B.bytes, hml, ho ▸ findClass_of_methodNamed B.named, fun w h => hts w (List.mem_cons_of_mem _ h), hEF, B.notSynchronized⟩ ⟨Nat.le_refl _, Nat.le_refl _, Nat.zero_le _, Nat.zero_le _⟩ rfl ⟨rfl, B.returns, htr, Nat.le_refl _, Nat.le_refl _, ht⟩ ⟨rfl, rfl⟩ s.heap [] _ hRel va_S.rf (g_lvm (lv_entry (av E) (hlen E)) (hlv E)) s₁ hh0 X0
    exact ⟨t, o, a1, b1, b2, b3.1, b3.2⟩
/-- a handler: the reference goes into a local, and is not looked at again -/
theorem gx_astore_n (hX : Gd X E own cc) {k : Fin 4} {i : Nat} (hd : decode cc pc = .ok (.astore_n k, 1)) (hi : (k : Nat) = i) (hn : i < xnL X) (kk : G X E A (pc + 1) [] []) : GX X E A pc lv := by
  intro a H locs ls h1 h2 h3
  exact lv_astore_n hX.1 hX.2.1 hd hi h3 hn rfl (fun ls9 h9 => kk H locs ls9 h1 h2 (g_lvm h9 (fun q hq => by cases hq)))
end LV
