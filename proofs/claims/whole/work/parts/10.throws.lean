/-! methods that may throw: the making and the throwing of an exception; contracts with both ends -/
/-- an exception class's words: its own constructor (String), which passes on to RuntimeException's at constant idx -/
def exOwn (cls : String) (idx : Nat) (bytes : ByteArray) : List Cond := (Bundle.passSAtoms cls "java/lang/RuntimeException" idx bytes).filter goodWord ++ [.instantiable cls 6, .selects cls Bundle.tFill0 Bundle.tFill0, .selects cls Bundle.tFill Bundle.tFill, .lays cls Bundle.tN "cause" "Ljava/lang/Throwable;", .lays cls Bundle.tN "stackTrace" Bundle.steD, .lays cls Bundle.tN "suppressedExceptions" Bundle.listD, .lays cls Bundle.tN "detailMessage" "Ljava/lang/String;", .lays cls Bundle.tN "backtrace" "Ljava/lang/Object;", .initialized cls]
def exAll : List Cond := Bundle.throwableAtoms.filter goodWord ++ Bundle.throwableSAtoms ++ (Bundle.chainSAtoms "java/lang/RuntimeException" ["java/lang/Exception"]).filter goodWord ++ [.fieldLink Bundle.tN 198 Bundle.tN "backtrace" "Ljava/lang/Object;", .lays Bundle.tN Bundle.tN "backtrace" "Ljava/lang/Object;"]
theorem tsF_lays {n d : String} {E : EV0} {s : State} {args : Array Value} (h : tsF n d E s s.heap) : (Cond.laysStatic Bundle.tN n d).before args s = true := by
  obtain ⟨c, k, i, f, a, cell, v, h1, h2, h3, h4, h5, h6, h7, h8, h9, h10, h11⟩ := h
  have hlt : f.slot < cell.slots.size := (Array.getElem?_eq_some_iff.mp h9).1
  have e1 : s.vm.findClass Bundle.tN = some c := h1
  have e2 : s.fieldFound? Bundle.tN n d = some (c, k, i, f) := h2
  show Cond.holds _ _ _ _ _ _ = true
  simp [Cond.holds, Cond.value, e1, e2, h4, h5, h3, h6, h7, h8, hlt]
theorem tsF_slot {n d : String} {E : EV0} {s : State} {c : ClassId} {k : Class} {i aS : Nat} {f : Field} (h : tsF n d E s s.heap) (hf : s.fieldFound? Bundle.tN n d = some (c, k, i, f)) (hst : k.statics = some aS) : ∃ (cell : Cell) (u : RefV), s.heap[aS]? = some cell ∧ cell.slots[f.slot]? = some u.v ∧ cell.vm.isStatics = true ∧ ¬ E.2.2.2 ≤ aS := by
  obtain ⟨c', k', i', f', a, cell, v, h1, h2, h3, h4, h5, h6, h7, h8, h9, h10, h11⟩ := h
  cases hf.symm.trans h2
  cases hst.symm.trans h4
  exact ⟨cell, ⟨v, h10⟩, h5, h9, h6, h11⟩
theorem dcl_at {U : State} (h : dclF U) {args : Array Value} {X : String} (hX : X ∈ ["java/lang/RuntimeException", "java/lang/Exception", "java/lang/Throwable"]) : (Cond.declares (Bundle.initS X)).before args U = true := h X hX args
theorem good_or {ws : List Cond} {args : Array Value} {s : State} (h : ∀ w ∈ ws.filter goodWord, w.before args s = true) (hn : ∀ w ∈ ws, goodWord w = false → w.before args s = true) : ∀ w ∈ ws, w.before args s = true := fun w hw => by
  cases hg : goodWord w with
  | true => exact h w (List.mem_filter.mpr ⟨hw, hg⟩)
  | false => exact hn w hw hg
section XT
variable {p : Program} {l : Launch} {e : Env} {R : Room} {s : State} {m : MethodId} {args : Array Value} {below : List Frame} {meth : Method} {c : Code} {H : Heap} {locs : List Loc} {cells slots : Nat} {Q : State → Prop}
set_option maxHeartbeats 2000000 in
/-- the constructor (String) of an exception just made: it comes back, the cell is still of its class -/
theorem xt_ctor {cc : ByteArray} (hexec : p.tables.exec = Jvm.exec) (hb : c.code = cc) (htr : l.stackTraces = false) {own cls : String} {idx ic : Nat} {bytes : ByteArray} {E : EV0}
    (hown : s.vm.findClass own = some m.cls) (hcls : Bundle.fit cls = true)
    (h0 : decode bytes 0 = .ok (.aload_n 0, 1)) (h1 : decode bytes 1 = .ok (.aload_n 1, 1)) (h2 : decode bytes 2 = .ok (.invokespecial idx, 3)) (h5 : decode bytes 5 = .ok (.return_, 1))
    (hw : ∀ w ∈ exOwn cls idx bytes, w.before args s = true) (ha : ∀ w ∈ exAll, w.before args s = true) (hl : (Cond.methodLink own ic (Bundle.initS cls)).before args s = true) (hth : thF E s s.heap)
    {cX : ClassId} {kX : Class} (hfX : s.vm.findClass cls = some cX) (hkX : s.vm.classes[cX]? = some kX) {a : Addr} (hcell : H[a]? = some (freshCell cX kX)) (hnew : s.heap.size ≤ a)
    (hS : va_S (fun q => E.2.2.2 ≤ q) s.heap H locs) {msg : Value} (hmsg : msg.isRef = true) {pc : Nat} {ls : Array Slot} {rest : List Value} (hsize : ls.size = c.maxLocals)
    (hd : decode cc pc = .ok (.invokespecial ic, 3)) (hRf : 5 < R.frames) (hRl : (rest.map fun v => v.category).sum + 90 ≤ R.locals)
    (k : ∀ cell2 : Cell, cell2.cls = cX → cell2.vm = .none → ∀ L : List Loc, (∀ q ∈ L, q.base = a) → W p l e R s m args below meth c (H.setIfInBounds a cell2) (locs ++ L) cells slots Q (F0 m (pc + 3) ls rest)) :
    W p l e R s m args below meth c H locs cells slots Q (F0 m pc ls (msg :: .ref a :: rest)) := by
  intro T0 hT X
  subst hT; subst hb
  have howns : e.platform.frameOwnsMonitors = true := by rw [X.admits.platform]
  have hfin : e.platform.finalization = false := by rw [X.admits.platform]
  have hpl : e.platform.magicAccessors = ({} : Platform).magicAccessors := by rw [X.admits.platform]
  have htrP : e.platform.stackTraces = false := by rw [X.admits.platform]; exact htr
  have hA : ∀ w ∈ exAll, w.before args s = true := ha
  have hThr : ∀ w ∈ Bundle.throwableAtoms, w.before args s = true := by
    intro w hwm
    by_cases hg : goodWord w = true
    · exact ha w (by simp only [exAll, List.mem_append]; exact Or.inl (Or.inl (Or.inl (List.mem_filter.mpr ⟨hwm, hg⟩))))
    · simp only [Bundle.throwableAtoms, List.mem_cons, List.not_mem_nil, or_false] at hwm
      rcases hwm with rfl | rfl | rfl | rfl | rfl | rfl | rfl | rfl | rfl | rfl | rfl | rfl | rfl | rfl | rfl | rfl | rfl | rfl | rfl | rfl | rfl | rfl | rfl | rfl
      all_goals first | exact tsF_lays hth.1 | exact tsF_lays hth.2.1 | exact absurd rfl hg
  have hown2 : ∀ w ∈ exOwn cls idx bytes, w.before args s = true := hw
  obtain ⟨T, Z0, L, -, Y⟩ := ThrowableC.of_atoms (args := args) howns hfin hpl hThr
  obtain ⟨Z, M, LZ, LM, hnZ⟩ := Init0T.ofS_atoms (args := args) hpl L Y (fun x hx => ha x (by simp only [exAll, List.mem_append]; exact Or.inl (Or.inl (Or.inr hx))))
  obtain ⟨P2, Ps, hlen, L2, hLs, hP2m, hlink1, hlink⟩ := Bundle.chainS (args := args) hpl hnZ ["java/lang/Exception"] "java/lang/RuntimeException" (by decide) (by decide) (good_or (fun x hx => ha x (by simp only [exAll, List.mem_append]; exact Or.inl (Or.inr hx))) (fun w hw hg => by
    simp only [Bundle.chainSAtoms, Bundle.passSAtoms, List.mem_append, List.mem_cons, List.not_mem_nil, or_false] at hw
    rcases hw with (rfl | rfl | rfl | rfl | rfl) | (rfl | rfl | rfl | rfl | rfl)
    all_goals first | exact dcl_at hth.2.2.2 (by decide) | exact absurd (show true = false from hg) (by decide)))
  obtain ⟨P1, L1, hP1m, hP1s⟩ := PassC.ofS_atoms (args := args) (s := s) hpl (X := cls) (Y := "java/lang/RuntimeException") (Bundle.fit_spec hcls).1 (by decide) h0 h1 h2 h5 (good_or (fun x hx => hw x (by simp only [exOwn, List.mem_append]; exact Or.inl hx)) (fun w hw hg => by
    simp only [Bundle.passSAtoms, List.mem_cons, List.not_mem_nil, or_false] at hw
    rcases hw with rfl | rfl | rfl | rfl | rfl
    all_goals first | exact dcl_at hth.2.2.2 (by decide) | exact absurd (show true = false from hg) (by decide)))
  have hsup : P1.sup = P2.m := Option.some.inj (hP1s.symm.trans hP2m)
  have hfound : s.vm.findClass cls = some P1.m.cls := findClass_of_methodNamed hP1m
  cases Option.some.inj (hfX.symm.trans hfound)
  have at' : ∀ x, x ∈ exOwn cls idx bytes → x.holds args s none s [] = true := fun x hx => hw x hx
  obtain ⟨c1, kX', hc1, hk, hord, -, -, hn6⟩ := Cond.instantiable_spec (at' (.instantiable cls 6) (by simp [exOwn]))
  cases Option.some.inj (hc1.symm.trans hfound)
  cases Option.some.inj (hkX.symm.trans hk)
  have hsel0 : selectMethod e.platform s.vm P1.m.cls T.fill0 = .method T.fill0 := by
    obtain ⟨c2, r2, m2, q1, q2, q3, q4, -⟩ := Cond.selects_spec (at' (.selects cls Bundle.tFill0 Bundle.tFill0) (by simp [exOwn]))
    cases Option.some.inj (q1.symm.trans hfound)
    cases Option.some.inj (q2.symm.trans (State.methodFound?_of_named Y.fill0 (by decide)))
    cases Option.some.inj (q3.symm.trans Y.fill0)
    rw [Launch.admits_selectMethod X.admits]; exact q4
  have hselF : selectMethod e.platform s.vm P1.m.cls T.fill = .method T.fill := by
    obtain ⟨c2, r2, m2, q1, q2, q3, q4, -⟩ := Cond.selects_spec (at' (.selects cls Bundle.tFill Bundle.tFill) (by simp [exOwn]))
    cases Option.some.inj (q1.symm.trans hfound)
    cases Option.some.inj (q2.symm.trans (State.methodFound?_of_named Y.fill (by decide)))
    cases Option.some.inj (q3.symm.trans Y.fill)
    rw [Launch.admits_selectMethod X.admits]; exact q4
  obtain ⟨cellS, u0, hcS, hu0, hiss, hnS⟩ := tsF_slot hth.1 Y.unassigned L.statics
  obtain ⟨cellS', sen, hcS', hsen, -, -⟩ := tsF_slot hth.2.1 Y.sentinel L.statics
  cases hcS.symm.trans hcS'
  obtain ⟨ci198, i198, fB, hk198, hg198, ha198, hsB, -, hnB, htB, hffB⟩ := Cond.ownField (t := .object "java/lang/Object") Y.found L.cls (by decide +kernel) (ha (.fieldLink Bundle.tN 198 Bundle.tN "backtrace" "Ljava/lang/Object;") (by simp [exAll])) (ha (.lays Bundle.tN Bundle.tN "backtrace" "Ljava/lang/Object;") (by simp [exAll])) e.platform hpl
  have hcellS : T0.heap[T.aS]? = some cellS := by rw [hS.2.1 _ (Array.getElem?_eq_some_iff.mp hcS).1 hnS]; exact hcS
  have hknownS : cellS.vm ≠ .unknown := by
    intro hu
    rw [hu] at hiss
    cases hiss
  have hneS : T.aS ≠ a := Nat.ne_of_lt (Nat.lt_of_lt_of_le (Array.getElem?_eq_some_iff.mp hcS).1 hnew)
  obtain ⟨iM, hffM⟩ := Y.msg
  obtain ⟨tyC, dC, hdC, hdnC⟩ := Cond.laysAt hfound hk Y.cause (at' (.lays cls Bundle.tN "cause" "Ljava/lang/Throwable;") (by simp [exOwn]))
  obtain ⟨tyS, dS, hdS, hdnS⟩ := Cond.laysAt hfound hk Y.stack (at' (.lays cls Bundle.tN "stackTrace" Bundle.steD) (by simp [exOwn]))
  obtain ⟨tyP, dP, hdP, hdnP⟩ := Cond.laysAt hfound hk Y.supp (at' (.lays cls Bundle.tN "suppressedExceptions" Bundle.listD) (by simp [exOwn]))
  obtain ⟨tyM, dM, hdM, hdnM⟩ := Cond.laysAt hfound hk hffM (at' (.lays cls Bundle.tN "detailMessage" "Ljava/lang/String;") (by simp [exOwn]))
  obtain ⟨tyB, dB, hdB, hdnB⟩ := Cond.laysAt hfound hk hffB (at' (.lays cls Bundle.tN "backtrace" "Ljava/lang/Object;") (by simp [exOwn]))
  have bC := Cond.laysApart hdB hdC hdnB hdnC (by rw [hnB, Y.causeName]; decide)
  have bS := Cond.laysApart hdB hdS hdnB hdnS (by rw [hnB, Y.stackName]; decide)
  have bP := Cond.laysApart hdB hdP hdnB hdnP (by rw [hnB, Y.suppName]; decide)
  have hskip : SkipFacts T e.platform s (fun u => u) u0 ((preparedCellV T.toThrowableT (freshCell P1.m.cls kX) a u0 sen).withEntry T0.cur) :=
    ⟨{ ci198 := ci198, i198 := i198, fBack := fB }, ⟨hk198, hg198, ha198, hsB⟩, by
      have := fresh_default (c := P1.m.cls) tyB
      rw [htB] at this
      simpa [preparedCellV, Cell.setSlot, Cell.withEntry, Array.getElem?_setIfInBounds, bC, bS, bP, bC.symm, bS.symm, bP.symm, defaultValue] using this, fun _ _ => rfl⟩
  obtain ⟨tm, methC, cdC, kC, vm₁, hnC, -, -, -, -, -, -, -, hW₁, st1⟩ := Steps.initColdS (tb := p.tables) (e := e) (below := below) (s := s) (U := T0) X.here hexec X.warmed hpl hown (t := Bundle.initS cls) rfl rfl (Bundle.fit_spec hcls).2
    hl (hw (.instanceMethod (Bundle.initS cls)) (List.mem_append_left _ (List.mem_filter.mpr ⟨List.mem_cons_self, rfl⟩))) (bytes := bytes) (maxL := 2) (hw (.code (Bundle.initS cls) bytes 2 none) (List.mem_append_left _ (List.mem_filter.mpr ⟨List.mem_cons_of_mem _ List.mem_cons_self, rfl⟩)))
    (f := F0 m pc ls (msg :: .ref a :: rest)) rfl (a := a) (msg := msg) (rest := rest) rfl hd
  cases Option.some.inj (hnC.symm.trans hP1m)
  have X₁ := X.noted hW₁
  obtain ⟨vm₂, X₂, st2⟩ := X₁.ctorMessageOffV hexec (g := F0 m pc ls rest) rfl hsize T L Z LZ M LM (P1 :: P2 :: Ps)
    (fun P hP => by rcases List.mem_cons.mp hP with rfl | hP; exact L1; rcases List.mem_cons.mp hP with rfl | hP; exact L2; exact hLs P hP) ⟨hsup, hlink1, hlink⟩ (u0 := u0) (sen := sen) (self := a) hmsg (cell := freshCell P1.m.cls kX) (cellS := cellS)
    hcell (fun _ => by simp) (by simp) rfl rfl hsel0 hselF hcellS hneS hknownS hu0 hsen
    (Takes.of_laid hk hord tyC (by rw [Y.causeType]; rfl)) (Takes.of_laid hk hord tyS (by rw [Y.stackType]; exact fits_refV_array _ u0)) (Takes.of_laid hk hord tyP (by rw [Y.suppType]; exact fits_refV_object _ sen))
    (Takes.of_laid hk hord tyM (by rw [Y.msgType]; exact fits_refV_object _ ⟨msg, hmsg⟩)) Y.objLocals hskip htrP [] hd
    (by simp only [List.length_cons, hlen]; simp; omega) (by simp only [List.length_cons, hlen, F0, JFrame.monitorRoom]; simp; omega)
  obtain ⟨t, q1, q2⟩ := k (plainBareV T.toThrowableT (freshCell P1.m.cls kX) a u0 sen msg) rfl rfl _ (fun q hq => by
    simp only [List.mem_cons, List.not_mem_nil, or_false] at hq
    rcases hq with rfl | rfl | rfl | rfl | rfl <;> rfl) _ (by rfl) X₂
  refine ⟨t, st1 _ (fun acts => ?_), q2⟩
  rw [doInvoke_state]
  exact st2 _ q1
end XT
/-- the ends of a method that may throw: like FrameEnd, whatever the outcome -/
def FrE (first t : State) (L : List Loc) (k n : Nat) : Prop := first.WarmedH t.vm ∧ first.sameButNew ({ t with vm := first.vm } : State) L k n
def MetT (l : Launch) (y : MethodName) (ws : List Cond) (rm : Room) (Pc : Array Value → State → Prop) (Qc : Array Value → State → Outcome → State → Prop) (mc ms : Nat) (free : Addr → Prop) : Prop :=
  MetFree l y (headSpec ws rm) Pc (fun _ _ _ _ _ => True) (fun a st o t => Qc a st o t ∧ ∃ L, FrE st t L mc ms ∧ ∀ q ∈ L, free q.base)
def MQT (below : List Frame) (Qc : Array Value → State → Outcome → State → Prop) (a : Array Value) (s : State) (mc ms : Nat) (free : Addr → Prop) : State → Prop := fun t =>
  ∃ o, t.status = .running ∧ Ended t below o ∧ Qc a s o t ∧ ∃ L, FrE s t L mc ms ∧ ∀ q ∈ L, free q.base
section XU
variable {p : Program} {l : Launch} {e : Env} {R : Room} {s : State} {m : MethodId} {args : Array Value} {below : List Frame} {meth : Method} {c : Code} {H : Heap} {locs : List Loc} {cells slots : Nat} {Q Q' : State → Prop}
theorem W.mono {g : JFrame} (h : ∀ t, Q t → Q' t) (k : W p l e R s m args below meth c H locs cells slots Q g) : W p l e R s m args below meth c H locs cells slots Q' g := fun T hT X => by
  obtain ⟨t, a1, b1⟩ := k T hT X
  exact ⟨t, a1, h t b1⟩
theorem MetT.ofW {y : MethodName} {ws ws' : List Cond} {rm : Room} {Pc : Array Value → State → Prop} {Qc : Array Value → State → Outcome → State → Prop} {mc ms : Nat} {free : Addr → Prop} {cc : ByteArray} {maxL : Nat} {ret : Option FieldType}
    (hy : plainName y.cls = true) (hw : ws = Cond.code y cc maxL ret :: ws')
    (body : ∀ p e s m args below meth c s₁, BodyLoose p l y (headSpec ws rm) cc maxL ret e s m args below meth c s₁ → c.maxLocals = maxL → c.exceptionTable.isEmpty = true → Pc args s →
      W p l e (headSpec ws rm).room s m args below meth c s.heap [] 0 0 (MQT below Qc args s mc ms free) (entryFrame m args maxL)) : MetT l y ws rm Pc Qc mc ms free := by
  refine MetFree.of_bodyS (code := cc) (maxLocals := maxL) (ret := ret) hy ?_ ?_
  · intro args s m h hn
    obtain ⟨meth, c, h1, h2, h3, h4, h5, h6, -, -⟩ := Cond.code_spec hn (atoms_spec (ws := ws) h _ (by rw [hw]; exact List.mem_cons_self))
    exact ⟨meth, c, h1, h2, h3, h4, h5, h6⟩
  · intro p e s m args below meth c s₁ B hml hP _
    have hh0 : s₁.heap = s.heap := by rw [B.state]; rfl
    have hex : c.exceptionTable.isEmpty = true := B.noHandlers (atoms_spec (ws := ws) B.pre _ (by rw [hw]; exact List.mem_cons_self))
    obtain ⟨t, a1, o, b1, b2, b3⟩ := body p e s m args below meth c s₁ B hml hex hP s₁ hh0 (Stand.of_body B)
    exact ⟨t, o, a1, b1, b2, ⟨b3.1, b3.2⟩⟩
theorem FrE.up {first t : State} {L : List Loc} {k n k' n' : Nat} (h : FrE first t L k n) (hk : k ≤ k') (hn : n ≤ n') : FrE first t L k' n' := ⟨h.1, h.2.weaken (fun y hy _ => hy) hk hn⟩
theorem MQ.toT {Qc Qc' : Array Value → State → Outcome → State → Prop} {a : Array Value} {k n k' n' : Nat} {free : Addr → Prop} (hq : ∀ o t, Qc a s o t → Qc' a s o t) (hk : k ≤ k') (hn : n ≤ n') (t : State) (h : MQ below Qc a s k n free t) : MQT below Qc' a s k' n' free t := by
  obtain ⟨o, h1, h2, h3, L, h4, h5⟩ := h
  exact ⟨o, h1, h2, hq o t h3, L, FrE.up ⟨h4.2.1, h4.2.2⟩ hk hn, h5⟩
/-- athrow, out of a method without handlers -/
theorem W.athrowT {cc : ByteArray} {Qc : Array Value → State → Outcome → State → Prop} {free : Addr → Prop} {k n : Nat} (hexec : p.tables.exec = Jvm.exec) (hb : c.code = cc) (hex : c.exceptionTable.isEmpty = true) (hlk : meth.locks = false)
    {a : Addr} {pc : Nat} {ls : Array Slot} {rest : List Value} (hd : decode cc pc = .ok (.athrow, 1))
    (hq : ∀ t : State, t.heap = H → s.WarmedH t.vm → Qc args s (.threw a) t) (hf : ∀ q ∈ locs, free q.base) (hk : cells ≤ k) (hn : slots ≤ n) :
    W p l e R s m args below meth c H locs cells slots (MQT below Qc args s k n free) (F0 m pc ls (.ref a :: rest)) := by
  intro T hT X
  subst hb
  have hno : ∀ x ∈ c.exceptionTable.toList, covers x pc = false := by
    intro x hx
    have h0 : c.exceptionTable = #[] := by simpa using hex
    rw [h0] at hx
    cases hx
  obtain ⟨st, h1, h2, h3, h4⟩ := X.athrowLeaves hexec (g := F0 m pc ls (.ref a :: rest)) rfl rfl rfl hno (a := a) (rest := rest) rfl hd hlk
  exact ⟨_, st, .threw a, h1, h2, hq _ (by rw [← hT]; rfl) h3, locs, FrE.up ⟨h3, h4⟩ hk hn, hf⟩
/-- a call of such a method, from any walk -/
theorem callT_back {y : MethodName} {ws : List Cond} {rm : Room} {Pc : Array Value → State → Prop} {Qc : Array Value → State → Outcome → State → Prop} {mc ms : Nat} {free : Addr → Prop} {bytes : ByteArray} {maxL : Nat} {ret : Option FieldType} {Wt len : Nat}
    (hM : MetT l y ws rm Pc Qc mc ms free) (hblind : FrameBlind Pc) (hrc : rm.cells = mc) (hrs : rm.slots = ms) (hframes : rm.frames + 1 ≤ R.frames) (hlocals : Wt + (maxL + 11) + rm.locals ≤ R.locals)
    (hws : ∀ w ∈ ws, ∀ a' U, s.WarmedH U.vm → w.before a' U = true) (hcode : Cond.code y bytes maxL ret ∈ ws) (hinit : ∀ a' U, s.WarmedH U.vm → (Cond.initialized y.cls).before a' U = true)
    {T : State} {g : JFrame} {ig : Instr} {mk : MethodId} {a : Array Value} (X : Stand p l e R s m args below meth c T locs cells slots) (hg : g.method = m) (hsize : g.locals.size = c.maxLocals) (hdg : decode c.code g.pc = .ok (ig, len))
    (hW : 2 * g.monitorRoom + (g.stack.map fun v => v.category).sum ≤ Wt) (hn : T.methodNamed? y = some mk) (hc : cells + mc ≤ R.cells) (hs : slots + ms ≤ R.slots) (hp : Pc a T) :
    ∃ (o : Outcome) (t : State) (L : List Loc) (T' : State), Qc a (T.calling g mk a) o t ∧ (∀ q ∈ L, free q.base) ∧ T'.heap = t.heap ∧ T.WarmedH T'.vm ∧ Stand p l e R s m args below meth c T' (locs ++ L) (cells + mc) (slots + ms) ∧
      (∀ v, o = .returned v → Steps p.tables e below (doInvoke e (T.setTop g) [] mk a).1 (T'.setTop { g with pc := g.pc + len, stack := v.toList ++ g.stack })) ∧
      (∀ x, o = .threw x → Steps p.tables e below (doInvoke e (T.setTop g) [] mk a).1 ((T'.setTop g).pushFrame (.throwing x))) := by
  have h1 : (headSpec ws rm).pre.before a T = true := atoms_intro fun w hw => hws w hw _ _ X.warmed
  have h2 : (Cond.code y bytes maxL ret).before a T = true := hws _ hcode _ _ X.warmed
  have h3 : (Cond.initialized y.cls).before a T = true := hinit _ _ X.warmed
  obtain ⟨methY, cY, hmY, hcY, -, hlY, -, -, -, -⟩ := Cond.code_spec hn h2
  obtain ⟨kY, hkY, -⟩ := className_of_methodNamed hn
  have hinitY : kY.init = .initialized := Cond.initialized_spec (findClass_of_methodNamed hn) hkY h3
  have h : At T g.method c below := by rw [hg]; exact X.here
  have happ : (headSpec ws rm).appliesLoose y e.platform (T.calling g mk a) = true :=
    Spec.appliesLoose_calling (g := g) h hdg hn hkY hinitY
      (X.room_calling (g := g) (R' := (headSpec ws rm).room) hsize hmY hcY hframes (by rw [hlY]; show _ + _ + _ + rm.locals ≤ _; omega) (by show cells + rm.cells ≤ _; omega) (by show slots + rm.slots ≤ _; omega)) h1
  obtain ⟨g0, hfr0⟩ := X.frames_eq
  have hfr : (T.setTop g).frames = [.java g] ++ below := by rw [State.frames_setTop' g h.top, hfr0]; rfl
  obtain ⟨o, s₂, hsteps, -, hend, hq, L, hF, hL⟩ := Steps.callFree hM p X.admits X.cas X.clock (acts := []) hfr happ (hblind _ _ _ _ hp) trivial
  have hend' : Ended s₂ (.java g :: below) o := by rw [hfr] at hend; exact hend
  cases o with
  | returned v =>
    obtain ⟨T', X', hW', -, e1⟩ := X.outOf (g := g) hg hdg (mk := mk) (a := a) hend' hF.1 hF.2
    refine ⟨_, s₂, L, T', hq, hL, by rw [e1]; rfl, hW', X', fun v' hv => ?_, fun x hx => by cases hx⟩
    cases hv
    rw [← e1]; exact hsteps
  | threw x =>
    obtain ⟨T', X', hW', -, e1⟩ := X.outOfThrown (g := g) hg (mk := mk) (a := a) hend' hF.1 hF.2
    refine ⟨_, s₂, L, T', hq, hL, by rw [e1]; rfl, hW', X', (fun v' hv => by cases hv), fun x' hx => ?_⟩
    cases hx
    rw [← e1]; exact hsteps
end XU
/-- the exception at x, of the i-th class, made since st -/
def exCell (i : Nat) (x : Addr) (st t : State) : Prop := st.heap.size ≤ x ∧ ∃ (cX : ClassId) (cell : Cell), st.vm.findClass (exN.getD i "") = some cX ∧ t.heap[x]? = some cell ∧ cell.cls = cX ∧ cell.vm = .none
def va_QT (E : EVT) (post : Option Value → Mem → Prop) (KX : Nat → Mem → Prop) : Array Value → State → Outcome → State → Prop := fun _ st oc t => ((∃ (v : Option Value) (u : Mem), oc = .returned v ∧ post v u ∧ Rel E u t.heap) ∨ (∃ (x : Addr) (i : Nat) (u : Mem), oc = .threw x ∧ i < 6 ∧ KX i u ∧ Rel E u t.heap ∧ exCell i x st t)) ∧ va_F (eA E) st t
def FrmT (fr lo : Nat) : Room := { frames := fr, cells := 1, slots := 6, locals := lo }
def CtT (y : MethodName) (cc : ByteArray) (maxL : Nat) (ret : Option FieldType) (fr lo : Nat) (av : EVT → List Value) (A : Mem) (post : Option Value → Mem → Prop) (KX : Nat → Mem → Prop) : Prop := ∀ (l : Launch) (E : EVT), l.stackTraces = false → MetT l y (wsY y cc maxL ret) (FrmT fr lo) (PcD E (av E) A) (va_QT E post KX) 1 6 (eA E)
def QT (X : CXT) (E : EVT) (ret : Option FieldType) (post : Option Value → Mem → Prop) (KX : Nat → Mem → Prop) : Prop := xQ X = MQT (xb X) (va_QT E post KX) (xa X) (xs X) 1 6 (eA E) ∧ (xmeth X).sig.returnType = ret ∧ xcells X ≤ 1 ∧ xslots X ≤ 6 ∧ (xc X).exceptionTable.isEmpty = true ∧ (xl X).stackTraces = false ∧ 1 ≤ (xR X).cells ∧ 6 ≤ (xR X).slots
def exIdx (i : Nat) : Nat := if i = 2 then 13 else 7
def exBy (i : Nat) : ByteArray := if i = 2 then ⟨#[0x2a, 0x2b, 0xb7, 0x00, 0x0d, 0xb1]⟩ else Bundle.six
def exOk (i : Nat) : Prop := i < 6 ∧ Bundle.fit (exN.getD i "") = true ∧ (∀ w ∈ exOwn (exN.getD i "") (exIdx i) (exBy i), w ∈ gtb) ∧ decode (exBy i) 0 = .ok (.aload_n 0, 1) ∧ decode (exBy i) 1 = .ok (.aload_n 1, 1) ∧ decode (exBy i) 2 = .ok (.invokespecial (exIdx i), 3) ∧ decode (exBy i) 5 = .ok (.return_, 1)
def exThr (own : String) (icls ic i sx j : Nat) (tx : String) : Prop := Cond.classLink own icls (exN.getD i "") ∈ gtb ∧ Cond.methodLink own ic (Bundle.initS (exN.getD i "")) ∈ gtb ∧ (own, sx, tx, j) ∈ strL
theorem exAll_in : ∀ w ∈ exAll, w ∈ gtb := List.forall_mem_cons.mpr ⟨in_tbl 14 (by decide +kernel), List.forall_mem_cons.mpr ⟨in_tbl 376 (by decide +kernel), List.forall_mem_cons.mpr ⟨in_tbl 385 (by decide +kernel), List.forall_mem_cons.mpr ⟨in_tbl 392 (by decide +kernel), List.forall_mem_cons.mpr ⟨in_tbl 395 (by decide +kernel), List.forall_mem_cons.mpr ⟨in_tbl 397 (by decide +kernel), List.forall_mem_cons.mpr ⟨in_tbl 377 (by decide +kernel), List.forall_mem_cons.mpr ⟨in_tbl 378 (by decide +kernel), List.forall_mem_cons.mpr ⟨in_tbl 36 (by decide +kernel), List.forall_mem_cons.mpr ⟨in_tbl 37 (by decide +kernel), List.forall_mem_cons.mpr ⟨in_tbl 379 (by decide +kernel), List.forall_mem_cons.mpr ⟨in_tbl 384 (by decide +kernel), List.forall_mem_cons.mpr ⟨in_tbl 393 (by decide +kernel), List.forall_mem_cons.mpr ⟨in_tbl 413 (by decide +kernel), List.forall_mem_cons.mpr ⟨in_tbl 366 (by decide +kernel), List.forall_mem_cons.mpr ⟨in_tbl 414 (by decide +kernel), List.forall_mem_cons.mpr ⟨in_tbl 368 (by decide +kernel), List.forall_mem_cons.mpr ⟨in_tbl 415 (by decide +kernel), List.forall_mem_cons.mpr ⟨in_tbl 370 (by decide +kernel), List.forall_mem_cons.mpr ⟨in_tbl 380 (by decide +kernel), List.forall_mem_cons.mpr ⟨in_tbl 382 (by decide +kernel), List.forall_mem_cons.mpr ⟨in_tbl 372 (by decide +kernel), List.forall_mem_cons.mpr ⟨in_tbl 409 (by decide +kernel), List.forall_mem_cons.mpr ⟨in_tbl 410 (by decide +kernel), List.forall_mem_cons.mpr ⟨in_tbl 412 (by decide +kernel), List.forall_mem_cons.mpr ⟨in_tbl 372 (by decide +kernel), List.forall_mem_cons.mpr ⟨in_tbl 403 (by decide +kernel), List.forall_mem_cons.mpr ⟨in_tbl 404 (by decide +kernel), List.forall_mem_cons.mpr ⟨in_tbl 405 (by decide +kernel), List.forall_mem_cons.mpr ⟨in_tbl 406 (by decide +kernel), List.forall_mem_cons.mpr ⟨in_tbl 406 (by decide +kernel), List.forall_mem_cons.mpr ⟨in_tbl 407 (by decide +kernel), List.forall_mem_cons.mpr ⟨in_tbl 408 (by decide +kernel), List.forall_mem_cons.mpr ⟨in_tbl 409 (by decide +kernel), List.forall_mem_cons.mpr ⟨in_tbl 375 (by decide +kernel), List.forall_mem_cons.mpr ⟨in_tbl 374 (by decide +kernel), fun _ h => absurd h List.not_mem_nil⟩⟩⟩⟩⟩⟩⟩⟩⟩⟩⟩⟩⟩⟩⟩⟩⟩⟩⟩⟩⟩⟩⟩⟩⟩⟩⟩⟩⟩⟩⟩⟩⟩⟩⟩⟩
theorem exo0_in : ∀ w ∈ exOwn (exN.getD 0 "") (exIdx 0) (exBy 0), w ∈ gtb := List.forall_mem_cons.mpr ⟨in_tbl 400 (by decide +kernel), List.forall_mem_cons.mpr ⟨in_tbl 401 (by decide +kernel), List.forall_mem_cons.mpr ⟨in_tbl 402 (by decide +kernel), List.forall_mem_cons.mpr ⟨in_tbl 403 (by decide +kernel), List.forall_mem_cons.mpr ⟨in_tbl 355 (by decide +kernel), List.forall_mem_cons.mpr ⟨in_tbl 363 (by decide +kernel), List.forall_mem_cons.mpr ⟨in_tbl 364 (by decide +kernel), List.forall_mem_cons.mpr ⟨in_tbl 365 (by decide +kernel), List.forall_mem_cons.mpr ⟨in_tbl 367 (by decide +kernel), List.forall_mem_cons.mpr ⟨in_tbl 369 (by decide +kernel), List.forall_mem_cons.mpr ⟨in_tbl 371 (by decide +kernel), List.forall_mem_cons.mpr ⟨in_tbl 373 (by decide +kernel), List.forall_mem_cons.mpr ⟨in_tbl 17 (by decide +kernel), fun _ h => absurd h List.not_mem_nil⟩⟩⟩⟩⟩⟩⟩⟩⟩⟩⟩⟩⟩
theorem exo0 : exOk 0 := ⟨by decide, by decide, exo0_in, by decide +kernel, by decide +kernel, by decide +kernel, by decide +kernel⟩
theorem exo1_in : ∀ w ∈ exOwn (exN.getD 1 "") (exIdx 1) (exBy 1), w ∈ gtb := List.forall_mem_cons.mpr ⟨in_tbl 436 (by decide +kernel), List.forall_mem_cons.mpr ⟨in_tbl 437 (by decide +kernel), List.forall_mem_cons.mpr ⟨in_tbl 438 (by decide +kernel), List.forall_mem_cons.mpr ⟨in_tbl 403 (by decide +kernel), List.forall_mem_cons.mpr ⟨in_tbl 426 (by decide +kernel), List.forall_mem_cons.mpr ⟨in_tbl 428 (by decide +kernel), List.forall_mem_cons.mpr ⟨in_tbl 388 (by decide +kernel), List.forall_mem_cons.mpr ⟨in_tbl 429 (by decide +kernel), List.forall_mem_cons.mpr ⟨in_tbl 430 (by decide +kernel), List.forall_mem_cons.mpr ⟨in_tbl 431 (by decide +kernel), List.forall_mem_cons.mpr ⟨in_tbl 432 (by decide +kernel), List.forall_mem_cons.mpr ⟨in_tbl 433 (by decide +kernel), List.forall_mem_cons.mpr ⟨in_tbl 18 (by decide +kernel), fun _ h => absurd h List.not_mem_nil⟩⟩⟩⟩⟩⟩⟩⟩⟩⟩⟩⟩⟩
theorem exo1 : exOk 1 := ⟨by decide, by decide, exo1_in, by decide +kernel, by decide +kernel, by decide +kernel, by decide +kernel⟩
theorem exo2_in : ∀ w ∈ exOwn (exN.getD 2 "") (exIdx 2) (exBy 2), w ∈ gtb := List.forall_mem_cons.mpr ⟨in_tbl 751 (by decide +kernel), List.forall_mem_cons.mpr ⟨in_tbl 752 (by decide +kernel), List.forall_mem_cons.mpr ⟨in_tbl 753 (by decide +kernel), List.forall_mem_cons.mpr ⟨in_tbl 403 (by decide +kernel), List.forall_mem_cons.mpr ⟨in_tbl 741 (by decide +kernel), List.forall_mem_cons.mpr ⟨in_tbl 743 (by decide +kernel), List.forall_mem_cons.mpr ⟨in_tbl 391 (by decide +kernel), List.forall_mem_cons.mpr ⟨in_tbl 744 (by decide +kernel), List.forall_mem_cons.mpr ⟨in_tbl 745 (by decide +kernel), List.forall_mem_cons.mpr ⟨in_tbl 746 (by decide +kernel), List.forall_mem_cons.mpr ⟨in_tbl 747 (by decide +kernel), List.forall_mem_cons.mpr ⟨in_tbl 748 (by decide +kernel), List.forall_mem_cons.mpr ⟨in_tbl 25 (by decide +kernel), fun _ h => absurd h List.not_mem_nil⟩⟩⟩⟩⟩⟩⟩⟩⟩⟩⟩⟩⟩
theorem exo2 : exOk 2 := ⟨by decide, by decide, exo2_in, by decide +kernel, by decide +kernel, by decide +kernel, by decide +kernel⟩
theorem exo3_in : ∀ w ∈ exOwn (exN.getD 3 "") (exIdx 3) (exBy 3), w ∈ gtb := List.forall_mem_cons.mpr ⟨in_tbl 1093 (by decide +kernel), List.forall_mem_cons.mpr ⟨in_tbl 1094 (by decide +kernel), List.forall_mem_cons.mpr ⟨in_tbl 1095 (by decide +kernel), List.forall_mem_cons.mpr ⟨in_tbl 403 (by decide +kernel), List.forall_mem_cons.mpr ⟨in_tbl 1083 (by decide +kernel), List.forall_mem_cons.mpr ⟨in_tbl 1085 (by decide +kernel), List.forall_mem_cons.mpr ⟨in_tbl 387 (by decide +kernel), List.forall_mem_cons.mpr ⟨in_tbl 1086 (by decide +kernel), List.forall_mem_cons.mpr ⟨in_tbl 1087 (by decide +kernel), List.forall_mem_cons.mpr ⟨in_tbl 1088 (by decide +kernel), List.forall_mem_cons.mpr ⟨in_tbl 1089 (by decide +kernel), List.forall_mem_cons.mpr ⟨in_tbl 1090 (by decide +kernel), List.forall_mem_cons.mpr ⟨in_tbl 27 (by decide +kernel), fun _ h => absurd h List.not_mem_nil⟩⟩⟩⟩⟩⟩⟩⟩⟩⟩⟩⟩⟩
theorem exo3 : exOk 3 := ⟨by decide, by decide, exo3_in, by decide +kernel, by decide +kernel, by decide +kernel, by decide +kernel⟩
theorem exo4_in : ∀ w ∈ exOwn (exN.getD 4 "") (exIdx 4) (exBy 4), w ∈ gtb := List.forall_mem_cons.mpr ⟨in_tbl 1109 (by decide +kernel), List.forall_mem_cons.mpr ⟨in_tbl 1110 (by decide +kernel), List.forall_mem_cons.mpr ⟨in_tbl 1111 (by decide +kernel), List.forall_mem_cons.mpr ⟨in_tbl 403 (by decide +kernel), List.forall_mem_cons.mpr ⟨in_tbl 1099 (by decide +kernel), List.forall_mem_cons.mpr ⟨in_tbl 1101 (by decide +kernel), List.forall_mem_cons.mpr ⟨in_tbl 389 (by decide +kernel), List.forall_mem_cons.mpr ⟨in_tbl 1102 (by decide +kernel), List.forall_mem_cons.mpr ⟨in_tbl 1103 (by decide +kernel), List.forall_mem_cons.mpr ⟨in_tbl 1104 (by decide +kernel), List.forall_mem_cons.mpr ⟨in_tbl 1105 (by decide +kernel), List.forall_mem_cons.mpr ⟨in_tbl 1106 (by decide +kernel), List.forall_mem_cons.mpr ⟨in_tbl 28 (by decide +kernel), fun _ h => absurd h List.not_mem_nil⟩⟩⟩⟩⟩⟩⟩⟩⟩⟩⟩⟩⟩
theorem exo4 : exOk 4 := ⟨by decide, by decide, exo4_in, by decide +kernel, by decide +kernel, by decide +kernel, by decide +kernel⟩
theorem exo5_in : ∀ w ∈ exOwn (exN.getD 5 "") (exIdx 5) (exBy 5), w ∈ gtb := List.forall_mem_cons.mpr ⟨in_tbl 1125 (by decide +kernel), List.forall_mem_cons.mpr ⟨in_tbl 1126 (by decide +kernel), List.forall_mem_cons.mpr ⟨in_tbl 1127 (by decide +kernel), List.forall_mem_cons.mpr ⟨in_tbl 403 (by decide +kernel), List.forall_mem_cons.mpr ⟨in_tbl 1115 (by decide +kernel), List.forall_mem_cons.mpr ⟨in_tbl 1117 (by decide +kernel), List.forall_mem_cons.mpr ⟨in_tbl 390 (by decide +kernel), List.forall_mem_cons.mpr ⟨in_tbl 1118 (by decide +kernel), List.forall_mem_cons.mpr ⟨in_tbl 1119 (by decide +kernel), List.forall_mem_cons.mpr ⟨in_tbl 1120 (by decide +kernel), List.forall_mem_cons.mpr ⟨in_tbl 1121 (by decide +kernel), List.forall_mem_cons.mpr ⟨in_tbl 1122 (by decide +kernel), List.forall_mem_cons.mpr ⟨in_tbl 29 (by decide +kernel), fun _ h => absurd h List.not_mem_nil⟩⟩⟩⟩⟩⟩⟩⟩⟩⟩⟩⟩⟩
theorem exo5 : exOk 5 := ⟨by decide, by decide, exo5_in, by decide +kernel, by decide +kernel, by decide +kernel, by decide +kernel⟩
theorem ext_0_33 : exThr "BasicMachine" 31 35 0 33 0 "not a character 0 .. 127" := ⟨in_tbl 354 (by decide +kernel), in_tbl 399 (by decide +kernel), List.mem_of_getElem? (i := 0) (by decide +kernel)⟩
theorem ext_0_53 : exThr "BasicMachine" 31 35 0 53 15 "not a line" := ⟨in_tbl 354 (by decide +kernel), in_tbl 399 (by decide +kernel), List.mem_of_getElem? (i := 15) (by decide +kernel)⟩
theorem ext_0_115 : exThr "BasicMachine" 31 35 0 115 25 "no such variable" := ⟨in_tbl 354 (by decide +kernel), in_tbl 399 (by decide +kernel), List.mem_of_getElem? (i := 25) (by decide +kernel)⟩
theorem ext_0_127 : exThr "BasicMachine" 31 35 0 127 26 "no such matrix" := ⟨in_tbl 354 (by decide +kernel), in_tbl 399 (by decide +kernel), List.mem_of_getElem? (i := 26) (by decide +kernel)⟩
theorem ext_0_183 : exThr "BasicMachine" 31 35 0 183 18 "no such place behind GOTO" := ⟨in_tbl 354 (by decide +kernel), in_tbl 399 (by decide +kernel), List.mem_of_getElem? (i := 18) (by decide +kernel)⟩
theorem ext_1_43 : exThr "BasicMachine" 41 45 1 43 1 "the line is full" := ⟨in_tbl 425 (by decide +kernel), in_tbl 435 (by decide +kernel), List.mem_of_getElem? (i := 1) (by decide +kernel)⟩
theorem ext_1_90 : exThr "BasicMachine" 41 45 1 90 17 "the program is full" := ⟨in_tbl 425 (by decide +kernel), in_tbl 435 (by decide +kernel), List.mem_of_getElem? (i := 17) (by decide +kernel)⟩
theorem ext_1_185 : exThr "BasicMachine" 41 45 1 185 19 "too many under way, or none" := ⟨in_tbl 425 (by decide +kernel), in_tbl 435 (by decide +kernel), List.mem_of_getElem? (i := 19) (by decide +kernel)⟩
theorem ext_2_80 : exThr "BasicMachine" 78 82 2 80 16 "no line to go" := ⟨in_tbl 740 (by decide +kernel), in_tbl 750 (by decide +kernel), List.mem_of_getElem? (i := 16) (by decide +kernel)⟩
theorem ext_2_106 : exThr "BasicMachine" 78 82 2 106 24 "no such number" := ⟨in_tbl 740 (by decide +kernel), in_tbl 750 (by decide +kernel), List.mem_of_getElem? (i := 24) (by decide +kernel)⟩
theorem ext_2_187 : exThr "BasicMachine" 78 82 2 187 20 "no such line, function or constant" := ⟨in_tbl 740 (by decide +kernel), in_tbl 750 (by decide +kernel), List.mem_of_getElem? (i := 20) (by decide +kernel)⟩
theorem ext_4_141 : exThr "BasicMachine" 139 143 4 141 22 "no such element" := ⟨in_tbl 1098 (by decide +kernel), in_tbl 1108 (by decide +kernel), List.mem_of_getElem? (i := 22) (by decide +kernel)⟩
theorem ext_3_191 : exThr "BasicMachine" 189 193 3 191 21 "no such result" := ⟨in_tbl 1082 (by decide +kernel), in_tbl 1092 (by decide +kernel), List.mem_of_getElem? (i := 21) (by decide +kernel)⟩
theorem ext_5_196 : exThr "BasicMachine" 194 198 5 196 23 "no such matrix, or sizes that do not fit" := ⟨in_tbl 1114 (by decide +kernel), in_tbl 1124 (by decide +kernel), List.mem_of_getElem? (i := 23) (by decide +kernel)⟩
section XG
variable {X : CXT} {E : EVT} {own : String} {cc : ByteArray} {A : Mem} {pc : Nat} {lv : List (Nat × Value)} {ret : Option FieldType} {post : Option Value → Mem → Prop} {KX : Nat → Mem → Prop}
set_option maxHeartbeats 1000000 in
theorem g_throw (hX : Gd X E own cc) (hQ : QT X E ret post KX) (hz : xcells X = 0 ∧ xslots X = 0) {icls ic i sx j : Nat} {tx : String} (hok : exOk i) (ht : exThr own icls ic i sx j tx)
    (d0 : decode cc pc = .ok (.new icls, 3)) (d3 : decode cc (pc + 3) = .ok (.dup, 1)) (d4 : decode cc (pc + 4) = .ok (.ldc sx, 2)) (d6 : decode cc (pc + 6) = .ok (.invokespecial ic, 3)) (d9 : decode cc (pc + 9) = .ok (.athrow, 1))
    (hRf : 5 < (xR X).frames) (hRl : 91 ≤ (xR X).locals) (h : KX i A) : G X E A pc lv [] := by
  intro H locs ls h1 h2 h3
  obtain ⟨hQ1, hQ2, hQ3, hQ4, hQ5, hQ6, hQ7, hQ8⟩ := hQ
  obtain ⟨hi, hfit, hown, e0, e1, e2, e5⟩ := hok
  have hth := hX.2.2.2.2.2.1.2.2.2.1.2
  have hstr := hX.2.2.2.2.2.1.2.2.2.2.2 _ ht.2.2
  obtain ⟨hx, hb, hml, hownC, hts, hEF, hlk⟩ := hX
  rw [hQ1, hz.1, hz.2]
  refine W.newc hx hb (n := 6) hownC (hts _ ht.1) (hts _ (hown _ (by simp [exOwn]))) (hts _ (hown _ (by simp [exOwn]))) rfl d0 (by omega) (by omega) ?_
  intro cC kC q1 q2 q3 q4
  refine lv_dup hx hb d3 rfl ?_
  refine va_ldcS hx hb hownC hstr d4 ?_
  have hsz : (H.push (freshCell cC kC)).size = H.size + 1 := by simp
  have hS1 : va_S (fun q => E.2.2.2 ≤ q) (xs X).heap (H.push (freshCell cC kC)) locs := ⟨by rw [hsz]; exact Nat.le_succ_of_le h2.1, fun q hq hn => by
    rw [Array.getElem?_push_lt (Nat.lt_of_lt_of_le hq h2.1)]
    rw [← h2.2.1 q hq hn, Array.getElem?_eq_getElem], h2.2.2⟩
  refine xt_ctor hx hb hQ6 (E := E) hownC hfit e0 e1 e2 e5 (fun w hw => hts _ (hown w hw)) (fun w hw => hts _ (exAll_in w hw)) (hts _ ht.2.1) hth q1 q2 (a := H.size) (by simp) h2.1 hS1 rfl (by rw [h3.1]; exact hml.symm) d6 hRf (by have e9 : (Value.ref H.size).category = 1 := rfl; show (Value.ref H.size).category + 0 + 90 ≤ _; omega) ?_
  intro cell2 hc1 hc2 L hL
  have hk : ∀ q, q < H.size → ((H.push (freshCell cC kC)).setIfInBounds H.size cell2)[q]? = H[q]? := by
    intro q hq
    rw [Array.getElem?_setIfInBounds_ne (by omega), Array.getElem?_push_lt hq, Array.getElem?_eq_getElem]
  have hRel : Rel E A ((H.push (freshCell cC kC)).setIfInBounds H.size cell2) := h1.kept fun k q hk' => hk _ (h1 k q hk').lt
  refine W.athrowT hx hb hQ5 hlk d9 (fun t ht9 hW9 => ⟨Or.inr ⟨H.size, i, A, rfl, hi, h, by rw [ht9]; exact hRel, h2.1, cC, cell2, q1, by rw [ht9]; simp, hc1, hc2⟩, ?_⟩) ?_ (by omega) (by omega)
  · refine ⟨by rw [ht9]; simp; exact Nat.le_succ_of_le h2.1, fun q hq hn => ?_⟩
    rw [ht9, hk q (Nat.lt_of_lt_of_le hq h2.1)]
    exact h2.2.1 q hq hn
  · intro q hq
    rcases List.mem_append.mp hq with hq | hq
    · exact h2.2.2 q hq
    · rw [hL q hq]
      exact Nat.le_trans hEF.2.2.1 h2.1
theorem g_iretT (hX : Gd X E own cc) (hQ : QT X E (some .int) post KX) {v : Int32} {st : List Value} (hst : st = [.int v]) (hd : decode cc pc = .ok (.ireturn, 1)) (h : post (some (.int v)) A) : G X E A pc lv st := by
  subst hst
  intro H locs ls h1 h2 h3
  obtain ⟨hQ1, hQ2, hQ3, hQ4, hQ5, hQ6, hQ7, hQ8⟩ := hQ
  obtain ⟨hx, hb, hml, hownC, hts, hEF, hlk⟩ := hX
  rw [hQ1]
  exact W.mono (fun t => MQ.toT (Qc := va_QT E post KX) (fun o t h => h) hQ3 hQ4 t) (W.iret hx hb hQ2 (fun t ht9 hW9 => ⟨Or.inl ⟨_, A, rfl, h, by rw [ht9]; exact h1⟩, h2.F ht9⟩) h2.2.2 hd hlk)
theorem g_dretT (hX : Gd X E own cc) (hQ : QT X E (some .double) post KX) {v : UInt64} {st : List Value} (hst : st = [.double v]) (hd : decode cc pc = .ok (.dreturn, 1)) (h : post (some (.double v)) A) : G X E A pc lv st := by
  subst hst
  intro H locs ls h1 h2 h3
  obtain ⟨hQ1, hQ2, hQ3, hQ4, hQ5, hQ6, hQ7, hQ8⟩ := hQ
  obtain ⟨hx, hb, hml, hownC, hts, hEF, hlk⟩ := hX
  rw [hQ1]
  exact W.mono (fun t => MQ.toT (Qc := va_QT E post KX) (fun o t h => h) hQ3 hQ4 t) (W.dret hx hb hQ2 (fun t ht9 hW9 => ⟨Or.inl ⟨_, A, rfl, h, by rw [ht9]; exact h1⟩, h2.F ht9⟩) h2.2.2 hd hlk)
theorem g_vretT (hX : Gd X E own cc) (hQ : QT X E none post KX) {st : List Value} (hst : st = []) (hd : decode cc pc = .ok (.return_, 1)) (h : post none A) : G X E A pc lv st := by
  subst hst
  intro H locs ls h1 h2 h3
  obtain ⟨hQ1, hQ2, hQ3, hQ4, hQ5, hQ6, hQ7, hQ8⟩ := hQ
  obtain ⟨hx, hb, hml, hownC, hts, hEF, hlk⟩ := hX
  rw [hQ1]
  exact W.mono (fun t => MQ.toT (Qc := va_QT E post KX) (fun o t h => h) hQ3 hQ4 t) (W.vret hx hb hQ2 (fun t ht9 hW9 => ⟨Or.inl ⟨_, A, rfl, h, by rw [ht9]; exact h1⟩, h2.F ht9⟩) h2.2.2 hd hlk)
def PI (K : Int32 → Mem → Prop) : Option Value → Mem → Prop := fun v u => ∃ r, v = some (.int r) ∧ K r u
def PD (K : UInt64 → Mem → Prop) : Option Value → Mem → Prop := fun v u => ∃ r, v = some (.double r) ∧ K r u
def PV (K : Mem → Prop) : Option Value → Mem → Prop := fun v u => v = none ∧ K u
theorem g_callS_T (hX : Gd X E own cc) {F Q : Nat} (hR : Rm X F Q) (hQ : QT X E ret post KX ∧ xcells X = 0 ∧ xslots X = 0) {y : MethodName} {bytes : ByteArray} {maxL index n fr lo : Nat} {Ax : EVT → List Value} {post1 : Mem → Prop} {As st rest : List Value} (hl : Cond.methodLink own index y ∈ gtb) (hM : MFs y bytes maxL none n)
    (hc : CtT y bytes maxL none fr lo Ax A (PV post1) KX) (hAs : Ax E = As) (hst : st = As.reverse ++ rest) (hn : As.length = n) (hro : fr + 1 ≤ F ∧ maxL + 19 + lo ≤ Q) (hw4 : (rest.map fun v => v.category).sum ≤ 8) (hd : decode cc pc = .ok (.invokestatic index, 3))
    (k : ∀ X' : CXT, Gd X' E own cc → Rm X' F Q → xnL X' = xnL X → (QT X' E ret post KX ∧ True) → ∀ A9 : Mem, post1 A9 → G X' E A9 (pc + 3) lv rest) : G X E A pc lv st := by
  subst hst; subst hAs
  intro H locs ls h1 h2 h3 T hT St
  obtain ⟨⟨hQ1, hQ2, hQ3, hQ4, hQ5, hQ6, hQ7, hQ8⟩, hz1, hz2⟩ := hQ
  have hk := k (xp X, xl X, xe X, xR X, xs X, xm X, xa X, xb X, xmeth X, xc X, xcells X + 1, xslots X + 6, xQ X, xnL X) hX ⟨hR.1, hR.2.1, by show xcells X + 1 ≤ (xR X).cells; omega, by show xslots X + 6 ≤ (xR X).slots; omega⟩ rfl ⟨⟨hQ1, hQ2, by show xcells X + 1 ≤ 1; omega, by show xslots X + 6 ≤ 6; omega, hQ5, hQ6, hQ7, hQ8⟩, trivial⟩
  obtain ⟨hx, hb, hml, hown, hts, hEF, hlk⟩ := hX
  have hcode := hts _ hM.1
  obtain ⟨mk, hnamed⟩ := Cond.code_named hcode
  obtain ⟨methM, cM, hmethM, -, -, -, -, -, -, hsigM⟩ := Cond.code_spec hnamed hcode
  have hstatic : methM.isStatic = true := Cond.static_spec hnamed hmethM (hts _ hM.2.1)
  obtain ⟨kP, hkP, -⟩ := className_of_methodNamed hnamed
  have hinitP : kP.init = .initialized := Cond.initialized_spec (findClass_of_methodNamed hnamed) hkP (hts _ hM.2.2.1)
  have hlen : (Ax E).length = methM.sig.parameters.length := by
    have q := hM.2.2.2.2.2
    rw [hsigM] at q
    have q' : methM.sig.parameters.length = n := by simpa using q
    rw [hn, q']
  have hd' : decode (xc X).code pc = .ok (.invokestatic index, 3) := by rw [hb]; exact hd
  obtain ⟨vm₁, X₁, hstep₁⟩ := St.invokestatic hx hown (hts _ hl) hnamed hmethM hstatic hkP hinitP ⟨hM.2.2.2.1, hM.2.2.2.2.1⟩ (g := F0 (xm X) pc ls ((Ax E).reverse ++ rest)) rfl (argsL := Ax E) (rest := rest) hlen rfl hd'
  have hW1 := X₁.warmed
  have hroom : (FrmT fr lo).frames + 1 ≤ (xR X).frames ∧ 8 + (maxL + 11) + (FrmT fr lo).locals ≤ (xR X).locals := ⟨Nat.le_trans hro.1 hR.1, by have := hR.2.1; show 8 + (maxL + 11) + lo ≤ _; omega⟩
  have hp : PcD E (Ax E) A (Ax E).toArray (T.setVm vm₁) := ⟨rfl, EF_mv hEF h2 hT hW1, by show Rel E A T.heap; rw [hT]; exact h1⟩
  have hgd : GoodIn gtb (wsY y bytes maxL none) := lw_goodc hM.1 lw_good
  obtain ⟨o, t, L, T', hq, hL, hh, hW2, X₂, hret, hthr⟩ := callT_back (R := xR X) (s := xs X) (args := xa X) (Wt := 8) (ig := .invokestatic index) (len := 3) (hc (xl X) E hQ6) (PcD_blind E _ A) rfl rfl hroom.1 hroom.2
    (fun w hw a' U hW => word_at hW (hgd w hw).2 (hts _ (hgd w hw).1)) List.mem_cons_self (fun a' U hW => word_at hW (lw_good _ hM.2.2.1).2 (hts _ hM.2.2.1))
    (g := F0 (xm X) pc ls rest) (mk := mk) (a := (Ax E).toArray) X₁ rfl (by rw [← hml] at h3; exact h3.1) hd' (by simp; omega) (X₁.named hnamed) (by omega) (by omega) hp
  have hF : va_F (eA E) ((T.setVm vm₁).calling (F0 (xm X) pc ls rest) mk (Ax E).toArray) t := hq.2
  have hF1 : H.size ≤ t.heap.size := by rw [← hT]; exact hF.1
  have hF2 : ∀ q, q < H.size → ¬ eA E q → t.heap[q]? = H[q]? := fun q hq1 hq2 => by
    rw [← hT] at hq1 ⊢
    exact hF.2 q hq1 hq2
  have hS' : va_S (eA E) (xs X).heap T'.heap (locs ++ L) := ⟨by rw [hh]; exact Nat.le_trans h2.1 hF1, fun q hq1 hq2 => by
    rw [hh, hF2 q (Nat.lt_of_lt_of_le hq1 h2.1) hq2]
    exact h2.2.1 q hq1 hq2, fun q hq9 => (List.mem_append.mp hq9).elim (h2.2.2 q) (hL q)⟩
  rcases hq.1 with ⟨v, u, rfl, ⟨rfl, hpu⟩, hRel⟩ | ⟨x, i, u, rfl, hi, hKX, hRel, hex⟩
  · obtain ⟨t9, s1, s2⟩ := hk u hpu T'.heap (locs ++ L) ls (by rw [hh]; exact hRel) hS' h3 T' rfl X₂
    exact ⟨t9, hstep₁ _ fun acts => by rw [doInvoke_state]; exact (hret none rfl).trans s1, s2⟩
  · have hno : ∀ x ∈ (xc X).exceptionTable.toList, covers x pc = false := by
      intro x hx
      have h0 : (xc X).exceptionTable = #[] := by simpa using hQ5
      rw [h0] at hx
      cases hx
    obtain ⟨st, g1, g2, g3, g4⟩ := X₂.leaveThrown x (g := F0 (xm X) pc ls rest) rfl rfl rfl hno hlk
    refine ⟨_, hstep₁ _ fun acts => by rw [doInvoke_state]; exact (hthr x rfl).trans st, ?_⟩
    rw [hQ1]
    obtain ⟨hx1, cX, cell, c1, c2, c3, c4⟩ := hex
    refine ⟨.threw x, g1, g2, ⟨Or.inr ⟨x, i, u, rfl, hi, hKX, by show Rel E u T'.heap; rw [hh]; exact hRel, ?_, cX, cell, ?_, by show T'.heap[x]? = _; rw [hh]; exact c2, c3, c4⟩, hS'.F rfl⟩, locs ++ L, FrE.up ⟨g3, g4⟩ (by omega) (by omega), hS'.2.2⟩
    · refine Nat.le_trans h2.1 ?_
      rw [← hT]; exact hx1
    · have c1' : vm₁.findClass (exN.getD i "") = some cX := c1
      have e9 : vm₁.findClass (exN.getD i "") = (xs X).vm.findClass (exN.getD i "") := hW1.alike.findClass _ _
      rw [e9] at c1'
      exact c1'
theorem ctT_of {y : MethodName} {maxL fr lo : Nat} {av : EVT → List Value} (hy : plainName y.cls = true) (ho : y.cls = own) (lv0 : EVT → List (Nat × Value)) (hlen : ∀ E, (lg_sl (av E)).length ≤ maxL) (hlv : ∀ E, ∀ q ∈ lv0 E, q ∈ lv_args 0 (av E))
    (walk : ∀ (X : CXT) (E : EVT), Gd X E own cc → Rm X fr lo → xnL X = maxL → (QT X E ret post KX ∧ xcells X = 0 ∧ xslots X = 0) → G X E A 0 (lv0 E) []) : CtT y cc maxL ret fr lo av A post KX := by
  intro l E htr
  refine MetT.ofW (cc := cc) (maxL := maxL) (ret := ret) hy rfl ?_
  intro p e s m args below meth c s₁ B hml hex hv
  obtain ⟨rfl, hEF, hRel⟩ := hv
  have hts := atoms_spec (ws := wsY y cc maxL ret) B.pre
  rw [lg_entry_eq]
  refine walk (p, l, e, (headSpec (wsY y cc maxL ret) (FrmT fr lo)).room, s, m, (av E).toArray, below, meth, c, 0, 0, _, maxL) E ⟨B.exec, B.bytes, hml, ho ▸ findClass_of_methodNamed B.named, fun w h => hts w (List.mem_cons_of_mem _ h), hEF, B.notSynchronized⟩ ⟨Nat.le_refl _, Nat.le_refl _, Nat.zero_le _, Nat.zero_le _⟩ rfl ⟨⟨rfl, B.returns, Nat.zero_le _, Nat.zero_le _, hex, htr, Nat.le_refl _, Nat.le_refl _⟩, rfl, rfl⟩ s.heap [] _ hRel va_S.rf (g_lvm (lv_entry (av E) (hlen E)) (hlv E))
end XG
