/-! the law's call of a helper -/
section XU
variable {p : Program} {l : Launch} {e : Env} {R : Room} {s : State} {m : MethodId} {args : Array Value} {below : List Frame} {meth : Method} {c : Code} {H : Heap} {locs : List Loc} {cells slots : Nat} {Q Q' : State → Prop}
/-- a call of such a method, from any walk -/
theorem callT_backW {y : MethodName} {ws : List Cond} {rm : Room} {Pc : Array Value → State → Prop} {Qc : Array Value → State → Outcome → State → Prop} {mc ms : Nat} {free : Addr → Prop} {bytes : ByteArray} {maxL : Nat} {ret : Option FieldType} {Wt len : Nat}
    (hM : MetT l y ws rm Pc Qc mc ms free) (hblind : FrameBlind Pc) (hrc : rm.cells = mc) (hrs : rm.slots = ms) (hframes : rm.frames + 1 ≤ R.frames) (hlocals : Wt + (maxL + 11) + rm.locals ≤ R.locals)
    (hws : ∀ w ∈ ws, ∀ a' U, s.WarmedH U.vm → w.before a' U = true) {hs9 : List (Nat × Nat × Nat × Nat)} (hcode : Cond.codeWith y bytes maxL ret hs9 ∈ ws) (hinit : ∀ a' U, s.WarmedH U.vm → (Cond.initialized y.cls).before a' U = true)
    {T : State} {g : JFrame} {ig : Instr} {mk : MethodId} {a : Array Value} (X : Stand p l e R s m args below meth c T locs cells slots) (hg : g.method = m) (hsize : g.locals.size = c.maxLocals) (hdg : decode c.code g.pc = .ok (ig, len))
    (hW : 2 * g.monitorRoom + (g.stack.map fun v => v.category).sum ≤ Wt) (hn : T.methodNamed? y = some mk) (hc : cells + mc ≤ R.cells) (hs : slots + ms ≤ R.slots) (hp : Pc a T) :
    ∃ (o : Outcome) (t : State) (L : List Loc) (T' : State), Qc a (T.calling g mk a) o t ∧ (∀ q ∈ L, free q.base) ∧ T'.heap = t.heap ∧ T.WarmedH T'.vm ∧ Stand p l e R s m args below meth c T' (locs ++ L) (cells + mc) (slots + ms) ∧
      (∀ v, o = .returned v → Steps p.tables e below (doInvoke e (T.setTop g) [] mk a).1 (T'.setTop { g with pc := g.pc + len, stack := v.toList ++ g.stack })) ∧
      (∀ x, o = .threw x → Steps p.tables e below (doInvoke e (T.setTop g) [] mk a).1 ((T'.setTop g).pushFrame (.throwing x))) := by
  have h1 : (headSpec ws rm).pre.before a T = true := atoms_intro fun w hw => hws w hw _ _ X.warmed
  have h2 : (Cond.codeWith y bytes maxL ret hs9).before a T = true := hws _ hcode _ _ X.warmed
  have h3 : (Cond.initialized y.cls).before a T = true := hinit _ _ X.warmed
  obtain ⟨mY, methY, cY, hn9, hmY, hcY, -, hlY, -, -, -, -⟩ := Cond.codeWith_spec h2
  cases hn.symm.trans hn9
  obtain ⟨kY, hkY, -⟩ := className_of_methodNamed hn
  have hinitY : kY.init = .initialized := Cond.initialized_spec (findClass_of_methodNamed hn) hkY h3
  have h : At T g.method c below := by rw [hg]; exact X.here
  have happ : (headSpec ws rm).appliesLoose y e.platform (T.calling g mk a) = true :=
    Spec.appliesLoose_calling (g := g) h hdg hn hkY hinitY
      (X.room_calling (g := g) (R' := (headSpec ws rm).room) hsize hmY hcY hframes (by rw [hlY]; show _ + _ + _ + rm.locals ≤ _; omega) (by show cells + rm.cells ≤ _; omega) (by show slots + rm.slots ≤ _; omega)) h1
  obtain ⟨g0, hfr0⟩ := X.frames_eq
  have hfr : (T.setTop g).frames = [.java g] ++ below := by rw [State.frames_setTop' g h.top, hfr0]; rfl
  obtain ⟨o, s₂, hsteps, -, hend, hq, L, hF, hL⟩ := Steps.callFree hM p X.admits X.cas X.clock (acts := []) hfr happ (hblind _ _ _ _ hp) trivial
  have hend' : Ended s₂ (.java g :: below) o := by rw [hfr] at hend; exact hend
  cases o with
  | returned v =>
    obtain ⟨T', X', hW', -, e1⟩ := X.outOf (g := g) hg hdg (mk := mk) (a := a) hend' hF.1 hF.2
    refine ⟨_, s₂, L, T', hq, hL, by rw [e1]; rfl, hW', X', fun v' hv => ?_, fun x hx => by cases hx⟩
    cases hv
    rw [← e1]; exact hsteps
  | threw x =>
    obtain ⟨T', X', hW', -, e1⟩ := X.outOfThrown (g := g) hg (mk := mk) (a := a) hend' hF.1 hF.2
    refine ⟨_, s₂, L, T', hq, hL, by rw [e1]; rfl, hW', X', (fun v' hv => by cases hv), fun x' hx => ?_⟩
    cases hx
    rw [← e1]; exact hsteps
end XU
section XG
variable {X : CXT} {E : EVT} {own : String} {cc : ByteArray} {A : Mem} {pc : Nat} {lv : List (Nat × Value)}
theorem g_callS_L (hX : Gd X E own cc) {F Q : Nat} (hR : Rm X F Q) (htr : (xl X).stackTraces = false) (hz : xcells X + 1 ≤ (xR X).cells ∧ xslots X + 6 ≤ (xR X).slots) {hs : List (Nat × Nat × Nat × Nat)} {y : MethodName} {bytes : ByteArray} {maxL index n fr lo : Nat} {Ax : EVT → List Value} {post1 : Int32 → Mem → Prop} {As st rest : List Value} (hl : Cond.methodLink own index y ∈ gtb) (hM : Cond.codeWith y bytes maxL (some .int) hs ∈ gtb ∧ Cond.static y ∈ gtb ∧ Cond.initialized y.cls ∈ gtb ∧ y.cls ≠ "java/lang/invoke/MethodHandle" ∧ y.cls ≠ "java/lang/invoke/VarHandle" ∧ (parseMethodDescriptor y.desc).map (fun d => d.parameters.length) = some n)
    (hc : CtL y bytes maxL hs fr lo Ax A post1) (hAs : Ax E = As) (hst : st = As.reverse ++ rest) (hn : As.length = n) (hro : fr + 1 ≤ F ∧ maxL + 19 + lo ≤ Q) (hw4 : (rest.map fun v => v.category).sum ≤ 8) (hd : decode cc pc = .ok (.invokestatic index, 3))
    (k : ∀ (r : Int32) (A9 : Mem), post1 r A9 → G (up1 X) E A9 (pc + 3) lv (.int r :: rest)) : G X E A pc lv st := by
  subst hst; subst hAs
  intro H locs ls h1 h2 h3 T hT St
  obtain ⟨hx, hb, hml, hown, hts, hEF, hlk⟩ := hX
  have hcode := hts _ hM.1
  obtain ⟨mk, methM, cM, hnamed, hmethM, -, -, -, -, -, -, hsigM⟩ := Cond.codeWith_spec hcode
  have hstatic : methM.isStatic = true := Cond.static_spec hnamed hmethM (hts _ hM.2.1)
  obtain ⟨kP, hkP, -⟩ := className_of_methodNamed hnamed
  have hinitP : kP.init = .initialized := Cond.initialized_spec (findClass_of_methodNamed hnamed) hkP (hts _ hM.2.2.1)
  have hlen : (Ax E).length = methM.sig.parameters.length := by
    have q := hM.2.2.2.2.2
    rw [hsigM] at q
    have q' : methM.sig.parameters.length = n := by simpa using q
    rw [hn, q']
  have hd' : decode (xc X).code pc = .ok (.invokestatic index, 3) := by rw [hb]; exact hd
  obtain ⟨vm₁, X₁, hstep₁⟩ := St.invokestatic hx hown (hts _ hl) hnamed hmethM hstatic hkP hinitP ⟨hM.2.2.2.1, hM.2.2.2.2.1⟩ (g := F0 (xm X) pc ls ((Ax E).reverse ++ rest)) rfl (argsL := Ax E) (rest := rest) hlen rfl hd'
  have hW1 := X₁.warmed
  have hroom : (FrmT fr lo).frames + 1 ≤ (xR X).frames ∧ 8 + (maxL + 11) + (FrmT fr lo).locals ≤ (xR X).locals := ⟨Nat.le_trans hro.1 hR.1, by have := hR.2.1; show 8 + (maxL + 11) + lo ≤ _; omega⟩
  have hp : PcD E (Ax E) A (Ax E).toArray (T.setVm vm₁) := ⟨rfl, EF_mv hEF h2 hT hW1, by show Rel E A T.heap; rw [hT]; exact h1⟩
  have hgd : GoodIn gtb (Cond.codeWith y bytes maxL (some .int) hs :: gtb) := lw_goodc hM.1 lw_good
  obtain ⟨o, t, L, T', hq, hL, hh, hW2, X₂, hret, hthr⟩ := callT_backW (R := xR X) (s := xs X) (args := xa X) (Wt := 8) (ig := .invokestatic index) (len := 3) (hc (xl X) E htr) (PcD_blind E _ A) rfl rfl hroom.1 hroom.2
    (fun w hw a' U hW => word_at hW (hgd w hw).2 (hts _ (hgd w hw).1)) List.mem_cons_self (fun a' U hW => word_at hW (lw_good _ hM.2.2.1).2 (hts _ hM.2.2.1))
    (g := F0 (xm X) pc ls rest) (mk := mk) (a := (Ax E).toArray) X₁ rfl (by rw [← hml] at h3; exact h3.1) hd' (by simp; omega) (X₁.named hnamed) hz.1 hz.2 hp
  have hF : va_F (eA E) ((T.setVm vm₁).calling (F0 (xm X) pc ls rest) mk (Ax E).toArray) t := hq.2
  have hF1 : H.size ≤ t.heap.size := by rw [← hT]; exact hF.1
  have hF2 : ∀ q, q < H.size → ¬ eA E q → t.heap[q]? = H[q]? := fun q hq1 hq2 => by
    rw [← hT] at hq1 ⊢
    exact hF.2 q hq1 hq2
  have hS' : va_S (eA E) (xs X).heap T'.heap (locs ++ L) := ⟨by rw [hh]; exact Nat.le_trans h2.1 hF1, fun q hq1 hq2 => by
    rw [hh, hF2 q (Nat.lt_of_lt_of_le hq1 h2.1) hq2]
    exact h2.2.1 q hq1 hq2, fun q hq9 => (List.mem_append.mp hq9).elim (h2.2.2 q) (hL q)⟩
  rcases hq.1 with ⟨v, u, rfl, ⟨r, rfl, hpu⟩, hRel⟩ | ⟨x, i, u, rfl, hi, hKX, hRel, hex⟩
  · obtain ⟨t9, s1, s2⟩ := k r u hpu T'.heap (locs ++ L) ls (by rw [hh]; exact hRel) hS' h3 T' rfl X₂
    exact ⟨t9, hstep₁ _ fun acts => by rw [doInvoke_state]; exact (hret _ rfl).trans s1, s2⟩
  · exact hKX.elim
end XG
