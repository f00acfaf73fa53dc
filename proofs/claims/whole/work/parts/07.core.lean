/-! my own layer: a typed memory in the place of the heap; the machine's rows, once for each instruction, over that memory -/
abbrev CXT : Type := Program × Launch × Env × Room × State × MethodId × Array Value × List Frame × Method × Code × Nat × Nat × (State → Prop) × Nat
abbrev xp (X : CXT) := X.1
abbrev xl (X : CXT) := X.2.1
abbrev xe (X : CXT) := X.2.2.1
abbrev xR (X : CXT) := X.2.2.2.1
abbrev xs (X : CXT) := X.2.2.2.2.1
abbrev xm (X : CXT) := X.2.2.2.2.2.1
abbrev xa (X : CXT) := X.2.2.2.2.2.2.1
abbrev xb (X : CXT) := X.2.2.2.2.2.2.2.1
abbrev xmeth (X : CXT) := X.2.2.2.2.2.2.2.2.1
abbrev xc (X : CXT) := X.2.2.2.2.2.2.2.2.2.1
abbrev xcells (X : CXT) := X.2.2.2.2.2.2.2.2.2.2.1
abbrev xslots (X : CXT) := X.2.2.2.2.2.2.2.2.2.2.2.1
abbrev xQ (X : CXT) := X.2.2.2.2.2.2.2.2.2.2.2.2.1
abbrev xnL (X : CXT) := X.2.2.2.2.2.2.2.2.2.2.2.2.2
/-- addresses of the numbered cells; the classes' numbers and slots; the array classes by kind; the first cell that is ours -/
abbrev EVT : Type := (Nat → Nat) × va_G × (Nat → ClassId) × Nat
abbrev ead (E : EVT) := E.1
abbrev eD (E : EVT) := E.2.1
abbrev ecA (E : EVT) := E.2.2.1
abbrev eB (E : EVT) := E.2.2.2
abbrev eA (E : EVT) : Nat → Prop := fun q => E.2.2.2 ≤ q
abbrev Mem : Type := (Nat → Nat → Int32) × (Nat → Nat → UInt64) × (Nat → Nat → Nat) × (Nat → Nat → Int64)
def up2 {α : Type} (f : Nat → Nat → α) (o i : Nat) (v : α) : Nat → Nat → α := fun a b => if b = i ∧ a = o then v else f a b
def gI (A : Mem) (o i : Nat) : Int32 := A.1 o i
def gD (A : Mem) (o i : Nat) : UInt64 := A.2.1 o i
def gR (A : Mem) (o i : Nat) : Nat := A.2.2.1 o i
def gL (A : Mem) (o i : Nat) : Int64 := A.2.2.2 o i
def sI (A : Mem) (o i : Nat) (v : Int32) : Mem := (up2 A.1 o i v, A.2)
def sD (A : Mem) (o i : Nat) (v : UInt64) : Mem := (A.1, up2 A.2.1 o i v, A.2.2)
def sR (A : Mem) (o i : Nat) (v : Nat) : Mem := (A.1, A.2.1, up2 A.2.2.1 o i v, A.2.2.2)
def sL (A : Mem) (o i : Nat) (v : Int64) : Mem := (A.1, A.2.1, A.2.2.1, up2 A.2.2.2 o i v)
def bI (b : Bool) : Int32 := if b then 1 else 0
def isB (x : Int32) : Prop := x = 0 ∨ x = 1
def toB (x : Int32) : Bool := x != 0
/-- a numbered cell's address, 0 is null -/
def ro (E : EVT) (k : Nat) : Option Nat := if k = 0 then none else some (ead E k)
def cr (E : EVT) (k : Nat) : Value := va_rf (ro E k)
theorem cr_cat (E : EVT) (k : Nat) : (cr E k).category = 1 := by
  unfold cr ro
  split <;> rfl
theorem ca_i (x : Int32) : (Value.int x).category = 1 := rfl
theorem ca_l (x : Int64) : (Value.long x).category = 2 := rfl
theorem ca_d (x : UInt64) : (Value.double x).category = 2 := rfl
theorem cr_pos {E : EVT} {k : Nat} (h : k ≠ 0) : cr E k = .ref (ead E k) := by
  unfold cr ro
  rw [if_neg h]
  rfl
theorem cr_zero (E : EVT) : cr E 0 = .null := rfl
theorem bI_nar (b : Bool) : narrow .boolean (.int (bI b)) = .int (bI b) := by cases b <;> rfl
theorem bI_toB {x : Int32} (h : isB x) : bI (toB x) = x := by rcases h with rfl | rfl <;> rfl
/-- a field's value, by the kind of its slot: 0 int, 1 double, 2 reference, 3 long -/
def fv (E : EVT) (A : Mem) (k i : Nat) (t : Nat) : Value := match t with
  | 0 => .int (gI A k i)
  | 1 => .double (gD A k i)
  | 2 => cr E (gR A k i)
  | _ => .long (gL A k i)
/-- a cell: below 50 an object of class (kind - 1); 51 ints, 52 chars, 53 doubles, 54 longs, above: references -/
def ent (E : EVT) (A : Mem) (k : Nat) : va_E :=
  if kd k < 50 then .inr (kd k - 1, (List.range (nf (kd k))).map (fun i => fv E A k i (fts (kd k) i)))
  else .inl (ecA E (kd k), al k, if kd k = 51 ∨ kd k = 52 then .inl (gI A k) else if kd k = 53 then .inr (.inr (.inr (.inl (gD A k)))) else if kd k = 54 then .inr (.inl (gL A k)) else .inr (.inr (.inr (.inr (fun j => ro E (gR A k j))))))
def wsL (E : EVT) (A : Mem) : va_W := dm.map (fun k => (ead E k, ent E A k))
def tysOf (E : EVT) : List (ClassId × FieldType) := [(ecA E 51, .int), (ecA E 52, .char), (ecA E 53, .double), (ecA E 54, .long), (ecA E 55, .object "BasicMachine$Line")]
/-- what the launch keeps of Throwable's two statics, and of the six exceptions' apartness -/
def tsF (n d : String) (E : EV0) (U : State) (H : Heap) : Prop := ∃ (c : ClassId) (k : Class) (i : Nat) (f : Field) (a : Nat) (cell : Cell) (v : Value), U.vm.findClass "java/lang/Throwable" = some c ∧ U.fieldFound? "java/lang/Throwable" n d = some (c, k, i, f) ∧ f.isStatic = true ∧ k.statics = some a ∧ H[a]? = some cell ∧ cell.vm.isStatics = true ∧ cell.cls = c ∧ k.staticTypes[f.slot]? = some f.type ∧ cell.slots[f.slot]? = some v ∧ v.isRef = true ∧ ¬ E.2.2.2 ≤ a
def exN : List String := ["java/lang/IllegalArgumentException", "java/lang/IllegalStateException", "java/util/NoSuchElementException", "java/lang/ArithmeticException", "java/lang/IndexOutOfBoundsException", "java/lang/UnsupportedOperationException"]
def exA (U : State) : Prop := ∀ i, i < 6 → ∀ j, j < 6 → i ≠ j → ∀ a b, U.vm.findClass (exN.getD i "") = some a → U.vm.findClass (exN.getD j "") = some b → U.vm.assignable a b = false
def dclF (U : State) : Prop := ∀ X ∈ ["java/lang/RuntimeException", "java/lang/Exception", "java/lang/Throwable"], ∀ args, (Cond.declares ⟨X, "<init>", "(Ljava/lang/String;)V"⟩).before args U = true
theorem dclF_mv {u U : State} (hvm : u.vm.Alike U.vm) (h : dclF u) : dclF U := fun X hX args => by
  have h1 := (Cond.declares_setVm (args := args) hvm ⟨X, "<init>", "(Ljava/lang/String;)V"⟩).trans (h X hX args)
  rw [Cond.onTables_vm (A' := args) (U' := U) U.vm _ rfl] at h1
  exact h1
def thF (E : EV0) (U : State) (H : Heap) : Prop := tsF "UNASSIGNED_STACK" "[Ljava/lang/StackTraceElement;" E U H ∧ tsF "SUPPRESSED_SENTINEL" "Ljava/util/List;" E U H ∧ exA U ∧ dclF U
theorem tsF_mv {n d : String} {E : EV0} {u U : State} {H : Heap} (hvm : u.vm.Alike U.vm) (h : tsF n d E u H) : tsF n d E U H := by
  obtain ⟨c, k, i, f, a, cell, v, h1, h2, h3, h4, h5, h6, h7, h8, h9⟩ := h
  obtain ⟨k', hi', he⟩ := State.fieldFound?_setVm hvm h2
  exact ⟨c, k', i, f, a, cell, v, by rw [hvm.findClass]; exact h1, hi', h3, by rw [he]; exact h4, h5, h6, h7, by rw [he]; exact h8, h9⟩
theorem tsF_kp {n d : String} {E : EV0} {U : State} {H H1 : Heap} (hq : ∀ a : Nat, a < H.size → ¬ E.2.2.2 ≤ a → H1[a]? = H[a]?) (h : tsF n d E U H) : tsF n d E U H1 := by
  obtain ⟨c, k, i, f, a, cell, v, h1, h2, h3, h4, h5, h6, h7, h8, h9, h10, h11⟩ := h
  exact ⟨c, k, i, f, a, cell, v, h1, h2, h3, h4, by rw [hq a (Array.getElem?_eq_some_iff.mp h5).1 h11]; exact h5, h6, h7, h8, h9, h10, h11⟩
theorem exA_mv {u U : State} (hvm : u.vm.Alike U.vm) (h : exA u) : exA U := fun i hi j hj hij a b ha hb => by
  rw [hvm.findClass] at ha hb
  rw [hvm.assignable]
  exact h i hi j hj hij a b ha hb
def SF2 (E : EV0) (U : State) (H : Heap) : Prop := SF E U H ∧ thF E U H
theorem SF2_mv {E : EV0} {u U : State} {H : Heap} (hvm : u.vm.Alike U.vm) (h : SF2 E u H) : SF2 E U H := ⟨SF_mv hvm h.1, tsF_mv hvm h.2.1, tsF_mv hvm h.2.2.1, exA_mv hvm h.2.2.2.1, dclF_mv hvm h.2.2.2.2⟩
theorem SF2_kp {E : EV0} {U : State} {H H1 : Heap} (h : SF2 E U H) (hq : ∀ a : Nat, a < H.size → ¬ E.2.2.2 ≤ a → H1[a]? = H[a]?) : SF2 E U H1 := ⟨SF_kp h.1 hq, tsF_kp hq h.2.1, tsF_kp hq h.2.2.1, h.2.2.2⟩
/-- what is so of the numbers and of the tables all through the run -/
def EO (E : EVT) : Prop := (∀ i j, kd i ≠ 0 → kd j ≠ 0 → ead E i = ead E j → i = j) ∧ (∀ i, kd i ≠ 0 → eB E ≤ ead E i) ∧ ∀ i j, enk i → enk j → ead E i = ead E j → i = j
def EF (E : EVT) (U : State) : Prop := EO E ∧ va_K (eD E) cls (tysOf E) U ∧ eB E ≤ U.heap.size ∧ SF2 E U U.heap ∧ (∀ w ∈ nestW, va_Nw w U) ∧ strR E U
def Rel (E : EVT) (A : Mem) (H : Heap) : Prop := va_P (eD E) cls (wsL E A) H
theorem dm_mem {k : Nat} (h : kd k ≠ 0) : k ∈ dm := List.mem_filter.mpr ⟨List.mem_range.mpr (kd_lt h), by simpa using h⟩
theorem dm_kd {k : Nat} (h : k ∈ dm) : kd k ≠ 0 := by simpa using (List.mem_filter.mp h).2
theorem ws_at (E : EVT) (A : Mem) {k : Nat} (h : kd k ≠ 0) : ∃ q0 : Nat, dm[q0]? = some k ∧ (wsL E A)[q0]? = some (ead E k, ent E A k) := by
  obtain ⟨q0, hq⟩ := List.getElem?_of_mem (dm_mem h)
  exact ⟨q0, hq, by simp [wsL, List.getElem?_map, hq]⟩
theorem ws_D {E : EVT} (h : EO E) (A : Mem) : va_D (eA E) (wsL E A) := by
  have nd : dm.Nodup := List.Nodup.sublist List.filter_sublist List.nodup_range
  refine ⟨fun i j p q hi hj hpq => ?_, fun k q hk => ?_⟩
  · simp only [wsL, List.getElem?_map, Option.map_eq_some_iff] at hi hj
    obtain ⟨a, ha, rfl⟩ := hi
    obtain ⟨b, hb, rfl⟩ := hj
    have hab := h.1 a b (dm_kd (List.mem_of_getElem? ha)) (dm_kd (List.mem_of_getElem? hb)) hpq
    subst hab
    exact (List.getElem?_inj (List.getElem?_eq_some_iff.mp ha).1 nd).mp (ha.trans hb.symm)
  · simp only [wsL, List.getElem?_map, Option.map_eq_some_iff] at hk
    obtain ⟨a, ha, rfl⟩ := hk
    exact h.2.1 a (dm_kd (List.mem_of_getElem? ha))
theorem ws_set (E : EVT) {A A' : Mem} {k q0 : Nat} (hq : dm[q0]? = some k) (he : ∀ j, j ≠ k → ent E A' j = ent E A j) {e : va_E} (hk : ent E A' k = e) : (wsL E A).set q0 (ead E k, e) = wsL E A' := by
  have nd : dm.Nodup := List.Nodup.sublist List.filter_sublist List.nodup_range
  have hl := (List.getElem?_eq_some_iff.mp hq).1
  apply List.ext_getElem?
  intro i
  by_cases hi : i = q0
  · subst hi
    rw [List.getElem?_set_self (by simpa [wsL] using hl)]
    simp [wsL, List.getElem?_map, hq, hk]
  · rw [List.getElem?_set_ne (Ne.symm hi)]
    simp only [wsL, List.getElem?_map]
    cases hj : dm[i]? with
    | none => rfl
    | some j =>
      have hjk : j ≠ k := by
        rintro rfl
        exact hi ((List.getElem?_inj (List.getElem?_eq_some_iff.mp hj).1 nd).mp (hj.trans hq.symm))
      simp [he j hjk]
/-- the goal of a walk: the machine at pc with these locals and this stack, over a heap that shows the memory A -/
def G (X : CXT) (E : EVT) (A : Mem) (pc : Nat) (lv : List (Nat × Value)) (st : List Value) : Prop :=
  ∀ (H : Heap) (locs : List Loc) (ls : Array Slot), Rel E A H → va_S (eA E) (xs X).heap H locs → lv_has ls (xnL X) lv → W (xp X) (xl X) (xe X) (xR X) (xs X) (xm X) (xa X) (xb X) (xmeth X) (xc X) H locs (xcells X) (xslots X) (xQ X) (F0 (xm X) pc ls st)
/-- what a walk knows of its own method -/
def Gd (X : CXT) (E : EVT) (own : String) (cc : ByteArray) : Prop :=
  (xp X).tables.exec = Jvm.exec ∧ (xc X).code = cc ∧ (xc X).maxLocals = xnL X ∧ (xs X).vm.findClass own = some (xm X).cls ∧ (∀ w ∈ gtb, w.before (xa X) (xs X) = true) ∧ EF E (xs X) ∧ (xmeth X).locks = false
theorem g_at {E : EVT} {A : Mem} {H : Heap} (h : Rel E A H) {k : Nat} (hk : kd k ≠ 0) : va_at (eD E) cls (ead E k, ent E A k) H := by
  obtain ⟨q0, h1, h2⟩ := ws_at E A hk
  exact h q0 _ h2
theorem g_lvm {ls : Array Slot} {n : Nat} {lv lv' : List (Nat × Value)} (h : lv_has ls n lv) (hm : ∀ q ∈ lv', q ∈ lv) : lv_has ls n lv' := ⟨h.1, h.2.1, fun q hq => h.2.2 q (hm q hq)⟩
theorem g_pick {lv lv' : List (Nat × Value)} {ks : List Nat} (h : lv_pick lv ks = lv') : ∀ q ∈ lv', q ∈ lv := by
  intro q hq
  rw [← h] at hq
  obtain ⟨k, -, hk⟩ := List.mem_filterMap.mp hq
  exact List.mem_of_getElem? hk
theorem g_sub {X : CXT} {E : EVT} {A : Mem} {pc : Nat} {lv lv' : List (Nat × Value)} {st : List Value} (ks : List Nat) (h : lv_pick lv ks = lv') (k : G X E A pc lv' st) : G X E A pc lv st :=
  fun H locs ls h1 h2 h3 => k H locs ls h1 h2 (g_lvm h3 (g_pick h))
theorem g_st1 {lv lv0 : List (Nat × Value)} {i : Nat} {v : Value} {ks : List Nat} (hp : lv_pick lv ks = lv0) (hk : lv0.all (fun q => !(q.1 == i) && !(q.1 + 1 == i)) = true) : ∀ q ∈ (i, v) :: lv0, q ∈ (i, v) :: lv.filter (fun q => !(q.1 == i) && !(q.1 + 1 == i && q.2.category == 2)) := by
  intro q hq
  rcases List.mem_cons.mp hq with rfl | hq
  · exact List.mem_cons_self
  · have h1 := List.all_eq_true.mp hk q hq
    simp only [Bool.and_eq_true, Bool.not_eq_true'] at h1
    exact List.mem_cons_of_mem _ (List.mem_filter.mpr ⟨g_pick hp q hq, by simp [h1.1, h1.2]⟩)
theorem g_st1b {lv lv0 : List (Nat × Value)} {i j : Nat} {v w : Value} {ks : List Nat} (hp : lv_pick lv ks = (j, w) :: lv0) (hw : w.category = 1) (hj : (j == i) = false) (hk : lv0.all (fun q => !(q.1 == i) && !(q.1 + 1 == i)) = true) : ∀ q ∈ (i, v) :: (j, w) :: lv0, q ∈ (i, v) :: lv.filter (fun q => !(q.1 == i) && !(q.1 + 1 == i && q.2.category == 2)) := by
  intro q hq
  rcases List.mem_cons.mp hq with rfl | hq
  · exact List.mem_cons_self
  · rcases List.mem_cons.mp hq with rfl | hq2
    · exact List.mem_cons_of_mem _ (List.mem_filter.mpr ⟨g_pick hp _ List.mem_cons_self, by simp [hj, hw]⟩)
    · have h1 := List.all_eq_true.mp hk q hq2
      simp only [Bool.and_eq_true, Bool.not_eq_true'] at h1
      exact List.mem_cons_of_mem _ (List.mem_filter.mpr ⟨g_pick hp q hq, by simp [h1.1, h1.2]⟩)
theorem g_st2 {lv lv0 : List (Nat × Value)} {i : Nat} {v : Value} {ks : List Nat} (hp : lv_pick lv ks = lv0) (hk : lv0.all (fun q => !(q.1 == i) && !(q.1 + 1 == i) && !(q.1 == i + 1)) = true) : ∀ q ∈ (i, v) :: lv0, q ∈ (i, v) :: lv.filter (fun q => !(q.1 == i) && (!(q.1 == i + 1) && !(q.1 + 1 == i && q.2.category == 2))) := by
  intro q hq
  rcases List.mem_cons.mp hq with rfl | hq
  · exact List.mem_cons_self
  · have h1 := List.all_eq_true.mp hk q hq
    simp only [Bool.and_eq_true, Bool.not_eq_true'] at h1
    exact List.mem_cons_of_mem _ (List.mem_filter.mpr ⟨g_pick hp q hq, by simp [h1.1.1, h1.1.2, h1.2]⟩)
theorem g_st2b {lv lv0 : List (Nat × Value)} {i j : Nat} {v w : Value} {ks : List Nat} (hp : lv_pick lv ks = (j, w) :: lv0) (hw : w.category = 1) (hj : (j == i) = false) (hj2 : (j == i + 1) = false) (hk : lv0.all (fun q => !(q.1 == i) && !(q.1 + 1 == i) && !(q.1 == i + 1)) = true) : ∀ q ∈ (i, v) :: (j, w) :: lv0, q ∈ (i, v) :: lv.filter (fun q => !(q.1 == i) && (!(q.1 == i + 1) && !(q.1 + 1 == i && q.2.category == 2))) := by
  intro q hq
  rcases List.mem_cons.mp hq with rfl | hq
  · exact List.mem_cons_self
  · rcases List.mem_cons.mp hq with rfl | hq2
    · exact List.mem_cons_of_mem _ (List.mem_filter.mpr ⟨g_pick hp _ List.mem_cons_self, by simp [hj, hj2, hw]⟩)
    · have h1 := List.all_eq_true.mp hk q hq2
      simp only [Bool.and_eq_true, Bool.not_eq_true'] at h1
      exact List.mem_cons_of_mem _ (List.mem_filter.mpr ⟨g_pick hp q hq, by simp [h1.1.1, h1.1.2, h1.2]⟩)
section GI
variable {X : CXT} {E : EVT} {own : String} {cc : ByteArray} {A : Mem} {pc : Nat} {lv : List (Nat × Value)} {rest : List Value}
theorem g_iconst (hX : Gd X E own cc) {n : Int} {v : Int32} (hd : decode cc pc = .ok (.iconst n, 1)) (hv : Int32.ofInt n = v) (k : G X E A (pc + 1) lv (.int v :: rest)) : G X E A pc lv (rest) := fun H locs ls h1 h2 h3 => lv_iconst hX.1 hX.2.1 hd hv (k H locs ls h1 h2 h3)
theorem g_bipush (hX : Gd X E own cc) {n : Int} {v : Int32} (hd : decode cc pc = .ok (.bipush n, 2)) (hv : (Int8.ofInt n).toInt32 = v) (k : G X E A (pc + 2) lv (.int v :: rest)) : G X E A pc lv (rest) := fun H locs ls h1 h2 h3 => lv_bipush hX.1 hX.2.1 hd hv (k H locs ls h1 h2 h3)
theorem g_sipush (hX : Gd X E own cc) {n : Int} {v : Int32} (hd : decode cc pc = .ok (.sipush n, 3)) (hv : (Int16.ofInt n).toInt32 = v) (k : G X E A (pc + 3) lv (.int v :: rest)) : G X E A pc lv (rest) := fun H locs ls h1 h2 h3 => lv_sipush hX.1 hX.2.1 hd hv (k H locs ls h1 h2 h3)
theorem g_lconst (hX : Gd X E own cc) {n : Fin 2} {v : Int64} (hd : decode cc pc = .ok (.lconst n, 1)) (hv : Int64.ofNat (n : Nat) = v) (k : G X E A (pc + 1) lv (.long v :: rest)) : G X E A pc lv (rest) := fun H locs ls h1 h2 h3 => lv_lconst hX.1 hX.2.1 hd hv (k H locs ls h1 h2 h3)
theorem g_dconst0 (hX : Gd X E own cc) (hd : decode cc pc = .ok (.dconst 0, 1)) (k : G X E A (pc + 1) lv (.double FP.dconst0 :: rest)) : G X E A pc lv (rest) := fun H locs ls h1 h2 h3 => lv_dconst0 hX.1 hX.2.1 hd (k H locs ls h1 h2 h3)
theorem g_dconst1 (hX : Gd X E own cc) (hd : decode cc pc = .ok (.dconst 1, 1)) (k : G X E A (pc + 1) lv (.double FP.dconst1 :: rest)) : G X E A pc lv (rest) := fun H locs ls h1 h2 h3 => lv_dconst1 hX.1 hX.2.1 hd (k H locs ls h1 h2 h3)
theorem g_null (hX : Gd X E own cc) (hd : decode cc pc = .ok (.aconst_null, 1)) (k : G X E A (pc + 1) lv (cr E 0 :: rest)) : G X E A pc lv rest := fun H locs ls h1 h2 h3 => lv_null hX.1 hX.2.1 hd (k H locs ls h1 h2 h3)
theorem g_iload_n (hX : Gd X E own cc) {k : Fin 4} {i : Nat} {x : Int32} (hd : decode cc pc = .ok (.iload_n k, 1)) (hi : (k : Nat) = i) (j : Nat) (hj : lv[j]? = some (i, .int x)) (kk : G X E A (pc + 1) lv (.int x :: rest)) : G X E A pc lv rest := fun H locs ls h1 h2 h3 => lv_iload_n hX.1 hX.2.1 hd hi (lv_at h3 j hj) (kk H locs ls h1 h2 h3)
theorem g_iload (hX : Gd X E own cc) {i : Nat} {x : Int32} (hd : decode cc pc = .ok (.iload i, 2)) (j : Nat) (hj : lv[j]? = some (i, .int x)) (kk : G X E A (pc + 2) lv (.int x :: rest)) : G X E A pc lv rest := fun H locs ls h1 h2 h3 => lv_iload hX.1 hX.2.1 hd (lv_at h3 j hj) (kk H locs ls h1 h2 h3)
theorem g_lload_n (hX : Gd X E own cc) {k : Fin 4} {i : Nat} {x : Int64} (hd : decode cc pc = .ok (.lload_n k, 1)) (hi : (k : Nat) = i) (j : Nat) (hj : lv[j]? = some (i, .long x)) (kk : G X E A (pc + 1) lv (.long x :: rest)) : G X E A pc lv rest := fun H locs ls h1 h2 h3 => lv_lload_n hX.1 hX.2.1 hd hi (lv_at h3 j hj) (kk H locs ls h1 h2 h3)
theorem g_lload (hX : Gd X E own cc) {i : Nat} {x : Int64} (hd : decode cc pc = .ok (.lload i, 2)) (j : Nat) (hj : lv[j]? = some (i, .long x)) (kk : G X E A (pc + 2) lv (.long x :: rest)) : G X E A pc lv rest := fun H locs ls h1 h2 h3 => lv_lload hX.1 hX.2.1 hd (lv_at h3 j hj) (kk H locs ls h1 h2 h3)
theorem g_dload_n (hX : Gd X E own cc) {k : Fin 4} {i : Nat} {x : UInt64} (hd : decode cc pc = .ok (.dload_n k, 1)) (hi : (k : Nat) = i) (j : Nat) (hj : lv[j]? = some (i, .double x)) (kk : G X E A (pc + 1) lv (.double x :: rest)) : G X E A pc lv rest := fun H locs ls h1 h2 h3 => lv_dload_n hX.1 hX.2.1 hd hi (lv_at h3 j hj) (kk H locs ls h1 h2 h3)
theorem g_dload (hX : Gd X E own cc) {i : Nat} {x : UInt64} (hd : decode cc pc = .ok (.dload i, 2)) (j : Nat) (hj : lv[j]? = some (i, .double x)) (kk : G X E A (pc + 2) lv (.double x :: rest)) : G X E A pc lv rest := fun H locs ls h1 h2 h3 => lv_dload hX.1 hX.2.1 hd (lv_at h3 j hj) (kk H locs ls h1 h2 h3)
theorem g_aload_n (hX : Gd X E own cc) {k : Fin 4} {i x : Nat} (hd : decode cc pc = .ok (.aload_n k, 1)) (hi : (k : Nat) = i) (j : Nat) (hj : lv[j]? = some (i, cr E x)) (kk : G X E A (pc + 1) lv (cr E x :: rest)) : G X E A pc lv rest := by
  intro H locs ls h1 h2 h3
  have hl := lv_at h3 j hj
  have k2 := kk H locs ls h1 h2 h3
  by_cases hx : x = 0
  · subst hx
    exact lv_aload_nN hX.1 hX.2.1 hd hi hl k2
  · rw [cr_pos hx] at hl k2
    exact lv_aload_n hX.1 hX.2.1 hd hi hl k2
theorem g_aload (hX : Gd X E own cc) {i x : Nat} (hd : decode cc pc = .ok (.aload i, 2)) (j : Nat) (hj : lv[j]? = some (i, cr E x)) (kk : G X E A (pc + 2) lv (cr E x :: rest)) : G X E A pc lv rest := by
  intro H locs ls h1 h2 h3
  have hl := lv_at h3 j hj
  have k2 := kk H locs ls h1 h2 h3
  by_cases hx : x = 0
  · subst hx
    exact lv_aloadN hX.1 hX.2.1 hd hl k2
  · rw [cr_pos hx] at hl k2
    exact lv_aload hX.1 hX.2.1 hd hl k2
theorem g_istore_n (hX : Gd X E own cc) {k : Fin 4} {i : Nat} {x : Int32} {lv0 : List (Nat × Value)} (hd : decode cc pc = .ok (.istore_n k, 1)) (hi : (k : Nat) = i) (hn : i < xnL X) (hm : ∀ q ∈ (i, .int x) :: lv0, q ∈ (i, .int x) :: lv.filter (fun q => !(q.1 == i) && !(q.1 + 1 == i && q.2.category == 2))) (kk : G X E A (pc + 1) ((i, .int x) :: lv0) rest) : G X E A pc lv (.int x :: rest) := fun H locs ls h1 h2 h3 => lv_istore_n hX.1 hX.2.1 hd hi h3 hn rfl (fun ls9 h9 => kk H locs ls9 h1 h2 (g_lvm h9 hm))
theorem g_istore (hX : Gd X E own cc) {i : Nat} {x : Int32} {lv0 : List (Nat × Value)} (hd : decode cc pc = .ok (.istore i, 2)) (hn : i < xnL X) (hm : ∀ q ∈ (i, .int x) :: lv0, q ∈ (i, .int x) :: lv.filter (fun q => !(q.1 == i) && !(q.1 + 1 == i && q.2.category == 2))) (kk : G X E A (pc + 2) ((i, .int x) :: lv0) rest) : G X E A pc lv (.int x :: rest) := fun H locs ls h1 h2 h3 => lv_istore hX.1 hX.2.1 hd h3 hn rfl (fun ls9 h9 => kk H locs ls9 h1 h2 (g_lvm h9 hm))
theorem g_lstore_n (hX : Gd X E own cc) {k : Fin 4} {i : Nat} {x : Int64} {lv0 : List (Nat × Value)} (hd : decode cc pc = .ok (.lstore_n k, 1)) (hi : (k : Nat) = i) (hn : i + 1 < xnL X) (hm : ∀ q ∈ (i, .long x) :: lv0, q ∈ (i, .long x) :: lv.filter (fun q => !(q.1 == i) && (!(q.1 == i + 1) && !(q.1 + 1 == i && q.2.category == 2)))) (kk : G X E A (pc + 1) ((i, .long x) :: lv0) rest) : G X E A pc lv (.long x :: rest) := fun H locs ls h1 h2 h3 => lv_lstore_n hX.1 hX.2.1 hd hi h3 hn rfl (fun ls9 h9 => kk H locs ls9 h1 h2 (g_lvm h9 hm))
theorem g_lstore (hX : Gd X E own cc) {i : Nat} {x : Int64} {lv0 : List (Nat × Value)} (hd : decode cc pc = .ok (.lstore i, 2)) (hn : i + 1 < xnL X) (hm : ∀ q ∈ (i, .long x) :: lv0, q ∈ (i, .long x) :: lv.filter (fun q => !(q.1 == i) && (!(q.1 == i + 1) && !(q.1 + 1 == i && q.2.category == 2)))) (kk : G X E A (pc + 2) ((i, .long x) :: lv0) rest) : G X E A pc lv (.long x :: rest) := fun H locs ls h1 h2 h3 => lv_lstore hX.1 hX.2.1 hd h3 hn rfl (fun ls9 h9 => kk H locs ls9 h1 h2 (g_lvm h9 hm))
theorem g_dstore_n (hX : Gd X E own cc) {k : Fin 4} {i : Nat} {x : UInt64} {lv0 : List (Nat × Value)} (hd : decode cc pc = .ok (.dstore_n k, 1)) (hi : (k : Nat) = i) (hn : i + 1 < xnL X) (hm : ∀ q ∈ (i, .double x) :: lv0, q ∈ (i, .double x) :: lv.filter (fun q => !(q.1 == i) && (!(q.1 == i + 1) && !(q.1 + 1 == i && q.2.category == 2)))) (kk : G X E A (pc + 1) ((i, .double x) :: lv0) rest) : G X E A pc lv (.double x :: rest) := fun H locs ls h1 h2 h3 => lv_dstore_n hX.1 hX.2.1 hd hi h3 hn rfl (fun ls9 h9 => kk H locs ls9 h1 h2 (g_lvm h9 hm))
theorem g_dstore (hX : Gd X E own cc) {i : Nat} {x : UInt64} {lv0 : List (Nat × Value)} (hd : decode cc pc = .ok (.dstore i, 2)) (hn : i + 1 < xnL X) (hm : ∀ q ∈ (i, .double x) :: lv0, q ∈ (i, .double x) :: lv.filter (fun q => !(q.1 == i) && (!(q.1 == i + 1) && !(q.1 + 1 == i && q.2.category == 2)))) (kk : G X E A (pc + 2) ((i, .double x) :: lv0) rest) : G X E A pc lv (.double x :: rest) := fun H locs ls h1 h2 h3 => lv_dstore hX.1 hX.2.1 hd h3 hn rfl (fun ls9 h9 => kk H locs ls9 h1 h2 (g_lvm h9 hm))
theorem g_astore_n (hX : Gd X E own cc) {k : Fin 4} {i x : Nat} {lv0 : List (Nat × Value)} (hd : decode cc pc = .ok (.astore_n k, 1)) (hi : (k : Nat) = i) (hn : i < xnL X) (hm : ∀ q ∈ (i, cr E x) :: lv0, q ∈ (i, cr E x) :: lv.filter (fun q => !(q.1 == i) && !(q.1 + 1 == i && q.2.category == 2))) (kk : G X E A (pc + 1) ((i, cr E x) :: lv0) rest) : G X E A pc lv (cr E x :: rest) := by
  intro H locs ls h1 h2 h3
  by_cases hx : x = 0
  · subst hx
    exact lv_astore_nN hX.1 hX.2.1 hd hi h3 hn rfl (fun ls9 h9 => kk H locs ls9 h1 h2 (g_lvm h9 hm))
  · rw [cr_pos hx] at kk hm ⊢
    exact lv_astore_n hX.1 hX.2.1 hd hi h3 hn rfl (fun ls9 h9 => kk H locs ls9 h1 h2 (g_lvm h9 hm))
theorem g_astore (hX : Gd X E own cc) {i x : Nat} {lv0 : List (Nat × Value)} (hd : decode cc pc = .ok (.astore i, 2)) (hn : i < xnL X) (hm : ∀ q ∈ (i, cr E x) :: lv0, q ∈ (i, cr E x) :: lv.filter (fun q => !(q.1 == i) && !(q.1 + 1 == i && q.2.category == 2))) (kk : G X E A (pc + 2) ((i, cr E x) :: lv0) rest) : G X E A pc lv (cr E x :: rest) := by
  intro H locs ls h1 h2 h3
  by_cases hx : x = 0
  · subst hx
    exact lv_astoreN hX.1 hX.2.1 hd h3 hn rfl (fun ls9 h9 => kk H locs ls9 h1 h2 (g_lvm h9 hm))
  · rw [cr_pos hx] at kk hm ⊢
    exact lv_astore hX.1 hX.2.1 hd h3 hn rfl (fun ls9 h9 => kk H locs ls9 h1 h2 (g_lvm h9 hm))
theorem g_iinc (hX : Gd X E own cc) {i : Nat} {n : Int} {x : Int32} {lv0 : List (Nat × Value)} (hd : decode cc pc = .ok (.iinc i n, 3)) (j : Nat) (hj : lv[j]? = some (i, .int x)) {v : Int32} (hv : x + Int32.ofInt n = v) (hn : i < xnL X) (hm : ∀ q ∈ (i, Value.int v) :: lv0, q ∈ (i, Value.int v) :: lv.filter (fun q => !(q.1 == i) && !(q.1 + 1 == i && q.2.category == 2))) (kk : G X E A (pc + 3) ((i, .int v) :: lv0) rest) : G X E A pc lv rest := fun H locs ls h1 h2 h3 => lv_iinc hX.1 hX.2.1 hd h3 (k := j) hj hv hn rfl (fun ls9 h9 => kk H locs ls9 h1 h2 (g_lvm h9 hm))
theorem g_iadd (hX : Gd X E own cc) {x y : Int32} (hd : decode cc pc = .ok (.iadd, 1)) (k : G X E A (pc + 1) lv (.int (x + y) :: rest)) : G X E A pc lv (.int y :: .int x :: rest) := fun H locs ls h1 h2 h3 => lv_iadd hX.1 hX.2.1 hd (k H locs ls h1 h2 h3)
theorem g_isub (hX : Gd X E own cc) {x y : Int32} (hd : decode cc pc = .ok (.isub, 1)) (k : G X E A (pc + 1) lv (.int (x - y) :: rest)) : G X E A pc lv (.int y :: .int x :: rest) := fun H locs ls h1 h2 h3 => lv_isub hX.1 hX.2.1 hd (k H locs ls h1 h2 h3)
theorem g_imul (hX : Gd X E own cc) {x y : Int32} (hd : decode cc pc = .ok (.imul, 1)) (k : G X E A (pc + 1) lv (.int (x * y) :: rest)) : G X E A pc lv (.int y :: .int x :: rest) := fun H locs ls h1 h2 h3 => lv_imul hX.1 hX.2.1 hd (k H locs ls h1 h2 h3)
theorem g_iand (hX : Gd X E own cc) {x y : Int32} (hd : decode cc pc = .ok (.iand, 1)) (k : G X E A (pc + 1) lv (.int (x &&& y) :: rest)) : G X E A pc lv (.int y :: .int x :: rest) := fun H locs ls h1 h2 h3 => lv_iand hX.1 hX.2.1 hd (k H locs ls h1 h2 h3)
theorem g_ior (hX : Gd X E own cc) {x y : Int32} (hd : decode cc pc = .ok (.ior, 1)) (k : G X E A (pc + 1) lv (.int (x ||| y) :: rest)) : G X E A pc lv (.int y :: .int x :: rest) := fun H locs ls h1 h2 h3 => lv_ior hX.1 hX.2.1 hd (k H locs ls h1 h2 h3)
theorem g_ixor (hX : Gd X E own cc) {x y : Int32} (hd : decode cc pc = .ok (.ixor, 1)) (k : G X E A (pc + 1) lv (.int (x ^^^ y) :: rest)) : G X E A pc lv (.int y :: .int x :: rest) := fun H locs ls h1 h2 h3 => lv_ixor hX.1 hX.2.1 hd (k H locs ls h1 h2 h3)
theorem g_ineg (hX : Gd X E own cc) {x : Int32} (hd : decode cc pc = .ok (.ineg, 1)) (k : G X E A (pc + 1) lv (.int (-x) :: rest)) : G X E A pc lv (.int x :: rest) := fun H locs ls h1 h2 h3 => lv_ineg hX.1 hX.2.1 hd (k H locs ls h1 h2 h3)
theorem g_ladd (hX : Gd X E own cc) {x y : Int64} (hd : decode cc pc = .ok (.ladd, 1)) (k : G X E A (pc + 1) lv (.long (x + y) :: rest)) : G X E A pc lv (.long y :: .long x :: rest) := fun H locs ls h1 h2 h3 => lv_ladd hX.1 hX.2.1 hd (k H locs ls h1 h2 h3)
theorem g_lsub (hX : Gd X E own cc) {x y : Int64} (hd : decode cc pc = .ok (.lsub, 1)) (k : G X E A (pc + 1) lv (.long (x - y) :: rest)) : G X E A pc lv (.long y :: .long x :: rest) := fun H locs ls h1 h2 h3 => lv_lsub hX.1 hX.2.1 hd (k H locs ls h1 h2 h3)
theorem g_lmul (hX : Gd X E own cc) {x y : Int64} (hd : decode cc pc = .ok (.lmul, 1)) (k : G X E A (pc + 1) lv (.long (x * y) :: rest)) : G X E A pc lv (.long y :: .long x :: rest) := fun H locs ls h1 h2 h3 => lv_lmul hX.1 hX.2.1 hd (k H locs ls h1 h2 h3)
theorem g_land (hX : Gd X E own cc) {x y : Int64} (hd : decode cc pc = .ok (.land, 1)) (k : G X E A (pc + 1) lv (.long (x &&& y) :: rest)) : G X E A pc lv (.long y :: .long x :: rest) := fun H locs ls h1 h2 h3 => lv_land hX.1 hX.2.1 hd (k H locs ls h1 h2 h3)
theorem g_lshr (hX : Gd X E own cc) {x : Int64} {y : Int32} (hd : decode cc pc = .ok (.lshr, 1)) (k : G X E A (pc + 1) lv (.long (x >>> (y.toInt64 &&& 63)) :: rest)) : G X E A pc lv (.int y :: .long x :: rest) := fun H locs ls h1 h2 h3 => lv_lshr hX.1 hX.2.1 hd rfl (k H locs ls h1 h2 h3)
theorem g_i2l (hX : Gd X E own cc) {x : Int32} (hd : decode cc pc = .ok (.i2l, 1)) (k : G X E A (pc + 1) lv (.long x.toInt64 :: rest)) : G X E A pc lv (.int x :: rest) := fun H locs ls h1 h2 h3 => lv_i2l hX.1 hX.2.1 hd rfl (k H locs ls h1 h2 h3)
theorem g_l2i (hX : Gd X E own cc) {x : Int64} (hd : decode cc pc = .ok (.l2i, 1)) (k : G X E A (pc + 1) lv (.int x.toInt32 :: rest)) : G X E A pc lv (.long x :: rest) := fun H locs ls h1 h2 h3 => lv_l2i hX.1 hX.2.1 hd rfl (k H locs ls h1 h2 h3)
theorem g_i2c (hX : Gd X E own cc) {x v : Int32} (hd : decode cc pc = .ok (.i2c, 1)) (hv : (x.toUInt32 % 65536).toInt32 = v) (k : G X E A (pc + 1) lv (.int v :: rest)) : G X E A pc lv (.int x :: rest) := fun H locs ls h1 h2 h3 => lv_i2c hX.1 hX.2.1 hd hv (k H locs ls h1 h2 h3)
theorem g_i2d (hX : Gd X E own cc) {x : Int32} (hd : decode cc pc = .ok (.i2d, 1)) (k : G X E A (pc + 1) lv (.double (FP.i2d x) :: rest)) : G X E A pc lv (.int x :: rest) := fun H locs ls h1 h2 h3 => lv_i2d hX.1 hX.2.1 hd (k H locs ls h1 h2 h3)
theorem g_l2d (hX : Gd X E own cc) {x : Int64} (hd : decode cc pc = .ok (.l2d, 1)) (k : G X E A (pc + 1) lv (.double (FP.l2d x) :: rest)) : G X E A pc lv (.long x :: rest) := fun H locs ls h1 h2 h3 => lv_l2d hX.1 hX.2.1 hd (k H locs ls h1 h2 h3)
theorem g_d2i (hX : Gd X E own cc) {x : UInt64} (hd : decode cc pc = .ok (.d2i, 1)) (k : G X E A (pc + 1) lv (.int (FP.d2i x) :: rest)) : G X E A pc lv (.double x :: rest) := fun H locs ls h1 h2 h3 => lv_d2i hX.1 hX.2.1 hd (k H locs ls h1 h2 h3)
theorem g_d2l (hX : Gd X E own cc) {x : UInt64} (hd : decode cc pc = .ok (.d2l, 1)) (k : G X E A (pc + 1) lv (.long (FP.d2l x) :: rest)) : G X E A pc lv (.double x :: rest) := fun H locs ls h1 h2 h3 => lv_d2l hX.1 hX.2.1 hd (k H locs ls h1 h2 h3)
theorem g_dadd (hX : Gd X E own cc) {x y : UInt64} (hd : decode cc pc = .ok (.dadd, 1)) (hn : vf_n64 (FP.dadd x y)) (k : G X E A (pc + 1) lv (.double (FP.dadd x y) :: rest)) : G X E A pc lv (.double y :: .double x :: rest) := fun H locs ls h1 h2 h3 => lv_dadd hX.1 hX.2.1 hd hn (k H locs ls h1 h2 h3)
theorem g_dsub (hX : Gd X E own cc) {x y : UInt64} (hd : decode cc pc = .ok (.dsub, 1)) (hn : vf_n64 (FP.dsub x y)) (k : G X E A (pc + 1) lv (.double (FP.dsub x y) :: rest)) : G X E A pc lv (.double y :: .double x :: rest) := fun H locs ls h1 h2 h3 => lv_dsub hX.1 hX.2.1 hd hn (k H locs ls h1 h2 h3)
theorem g_dmul (hX : Gd X E own cc) {x y : UInt64} (hd : decode cc pc = .ok (.dmul, 1)) (hn : vf_n64 (FP.dmul x y)) (k : G X E A (pc + 1) lv (.double (FP.dmul x y) :: rest)) : G X E A pc lv (.double y :: .double x :: rest) := fun H locs ls h1 h2 h3 => lv_dmul hX.1 hX.2.1 hd hn (k H locs ls h1 h2 h3)
theorem g_ddiv (hX : Gd X E own cc) {x y : UInt64} (hd : decode cc pc = .ok (.ddiv, 1)) (hn : vf_n64 (FP.ddiv x y)) (k : G X E A (pc + 1) lv (.double (FP.ddiv x y) :: rest)) : G X E A pc lv (.double y :: .double x :: rest) := fun H locs ls h1 h2 h3 => lv_ddiv hX.1 hX.2.1 hd hn (k H locs ls h1 h2 h3)
theorem g_dneg (hX : Gd X E own cc) {x : UInt64} (hd : decode cc pc = .ok (.dneg, 1)) (k : G X E A (pc + 1) lv (.double (FP.dneg x) :: rest)) : G X E A pc lv (.double x :: rest) := fun H locs ls h1 h2 h3 => lv_dneg hX.1 hX.2.1 hd (k H locs ls h1 h2 h3)
theorem g_dcmp (hX : Gd X E own cc) {x y : UInt64} {op : CmpOp} (hd : decode cc pc = .ok (.dcmp op, 1)) (k : G X E A (pc + 1) lv (.int (Op.cmpValue (FP.dcmp x y) op) :: rest)) : G X E A pc lv (.double y :: .double x :: rest) := fun H locs ls h1 h2 h3 => lv_dcmp hX.1 hX.2.1 hd (k H locs ls h1 h2 h3)
theorem g_lcmp (hX : Gd X E own cc) {x y : Int64} (hd : decode cc pc = .ok (.lcmp, 1)) (k : G X E A (pc + 1) lv (.int (lg_cmp x y) :: rest)) : G X E A pc lv (.long y :: .long x :: rest) := fun H locs ls h1 h2 h3 => W.lcmp hX.1 hX.2.1 hd (k H locs ls h1 h2 h3)
theorem g_dup (hX : Gd X E own cc) {v : Value} (hd : decode cc pc = .ok (.dup, 1)) (hv : v.category = 1) (k : G X E A (pc + 1) lv (v :: v :: rest)) : G X E A pc lv (v :: rest) := fun H locs ls h1 h2 h3 => lv_dup hX.1 hX.2.1 hd hv (k H locs ls h1 h2 h3)
theorem g_pop (hX : Gd X E own cc) {v : Value} (hd : decode cc pc = .ok (.pop, 1)) (hv : v.category = 1) (k : G X E A (pc + 1) lv (rest)) : G X E A pc lv (v :: rest) := fun H locs ls h1 h2 h3 => lv_pop hX.1 hX.2.1 hd hv (k H locs ls h1 h2 h3)
theorem g_dup_x1 (hX : Gd X E own cc) {v w : Value} (hd : decode cc pc = .ok (.dup_x1, 1)) (hv : v.category = 1) (hw : w.category = 1) (k : G X E A (pc + 1) lv (v :: w :: v :: rest)) : G X E A pc lv (v :: w :: rest) := fun H locs ls h1 h2 h3 => lv_dup_x1 hX.1 hX.2.1 hd hv hw (k H locs ls h1 h2 h3)
theorem g_dup2_11 (hX : Gd X E own cc) {v w : Value} (hd : decode cc pc = .ok (.dup2, 1)) (hv : v.category = 1) (hw : w.category = 1) (k : G X E A (pc + 1) lv (v :: w :: v :: w :: rest)) : G X E A pc lv (v :: w :: rest) := fun H locs ls h1 h2 h3 => lv_dup2_11 hX.1 hX.2.1 hd hv hw (k H locs ls h1 h2 h3)
theorem g_if_eq (hX : Gd X E own cc) {x : Int32} {off : Int} {tgt : Nat} (hd : decode cc pc = .ok (.ifCond .eq off, 3)) (ht : (pc : Int) + off = (tgt : Int)) (kt : x = 0 → G X E A tgt lv rest) (kf : ¬ x = 0 → G X E A (pc + 3) lv rest) : G X E A pc lv (.int x :: rest) := fun H locs ls h1 h2 h3 => lv_if_eq hX.1 hX.2.1 hd ht (fun q => kt q H locs ls h1 h2 h3) (fun q => kf q H locs ls h1 h2 h3)
theorem g_icmp_eq (hX : Gd X E own cc) {x y : Int32} {off : Int} {tgt : Nat} (hd : decode cc pc = .ok (.if_icmp .eq off, 3)) (ht : (pc : Int) + off = (tgt : Int)) (kt : x = y → G X E A tgt lv rest) (kf : ¬ x = y → G X E A (pc + 3) lv rest) : G X E A pc lv (.int y :: .int x :: rest) := fun H locs ls h1 h2 h3 => lv_icmp_eq hX.1 hX.2.1 hd ht (fun q => kt q H locs ls h1 h2 h3) (fun q => kf q H locs ls h1 h2 h3)
theorem g_if_ne (hX : Gd X E own cc) {x : Int32} {off : Int} {tgt : Nat} (hd : decode cc pc = .ok (.ifCond .ne off, 3)) (ht : (pc : Int) + off = (tgt : Int)) (kt : ¬ x = 0 → G X E A tgt lv rest) (kf : x = 0 → G X E A (pc + 3) lv rest) : G X E A pc lv (.int x :: rest) := fun H locs ls h1 h2 h3 => lv_if_ne hX.1 hX.2.1 hd ht (fun q => kt q H locs ls h1 h2 h3) (fun q => kf q H locs ls h1 h2 h3)
theorem g_icmp_ne (hX : Gd X E own cc) {x y : Int32} {off : Int} {tgt : Nat} (hd : decode cc pc = .ok (.if_icmp .ne off, 3)) (ht : (pc : Int) + off = (tgt : Int)) (kt : ¬ x = y → G X E A tgt lv rest) (kf : x = y → G X E A (pc + 3) lv rest) : G X E A pc lv (.int y :: .int x :: rest) := fun H locs ls h1 h2 h3 => lv_icmp_ne hX.1 hX.2.1 hd ht (fun q => kt q H locs ls h1 h2 h3) (fun q => kf q H locs ls h1 h2 h3)
theorem g_if_lt (hX : Gd X E own cc) {x : Int32} {off : Int} {tgt : Nat} (hd : decode cc pc = .ok (.ifCond .lt off, 3)) (ht : (pc : Int) + off = (tgt : Int)) (kt : x < 0 → G X E A tgt lv rest) (kf : ¬ x < 0 → G X E A (pc + 3) lv rest) : G X E A pc lv (.int x :: rest) := fun H locs ls h1 h2 h3 => lv_if_lt hX.1 hX.2.1 hd ht (fun q => kt q H locs ls h1 h2 h3) (fun q => kf q H locs ls h1 h2 h3)
theorem g_icmp_lt (hX : Gd X E own cc) {x y : Int32} {off : Int} {tgt : Nat} (hd : decode cc pc = .ok (.if_icmp .lt off, 3)) (ht : (pc : Int) + off = (tgt : Int)) (kt : x < y → G X E A tgt lv rest) (kf : ¬ x < y → G X E A (pc + 3) lv rest) : G X E A pc lv (.int y :: .int x :: rest) := fun H locs ls h1 h2 h3 => lv_icmp_lt hX.1 hX.2.1 hd ht (fun q => kt q H locs ls h1 h2 h3) (fun q => kf q H locs ls h1 h2 h3)
theorem g_if_ge (hX : Gd X E own cc) {x : Int32} {off : Int} {tgt : Nat} (hd : decode cc pc = .ok (.ifCond .ge off, 3)) (ht : (pc : Int) + off = (tgt : Int)) (kt : 0 ≤ x → G X E A tgt lv rest) (kf : ¬ 0 ≤ x → G X E A (pc + 3) lv rest) : G X E A pc lv (.int x :: rest) := fun H locs ls h1 h2 h3 => lv_if_ge hX.1 hX.2.1 hd ht (fun q => kt q H locs ls h1 h2 h3) (fun q => kf q H locs ls h1 h2 h3)
theorem g_icmp_ge (hX : Gd X E own cc) {x y : Int32} {off : Int} {tgt : Nat} (hd : decode cc pc = .ok (.if_icmp .ge off, 3)) (ht : (pc : Int) + off = (tgt : Int)) (kt : y ≤ x → G X E A tgt lv rest) (kf : ¬ y ≤ x → G X E A (pc + 3) lv rest) : G X E A pc lv (.int y :: .int x :: rest) := fun H locs ls h1 h2 h3 => lv_icmp_ge hX.1 hX.2.1 hd ht (fun q => kt q H locs ls h1 h2 h3) (fun q => kf q H locs ls h1 h2 h3)
theorem g_if_gt (hX : Gd X E own cc) {x : Int32} {off : Int} {tgt : Nat} (hd : decode cc pc = .ok (.ifCond .gt off, 3)) (ht : (pc : Int) + off = (tgt : Int)) (kt : 0 < x → G X E A tgt lv rest) (kf : ¬ 0 < x → G X E A (pc + 3) lv rest) : G X E A pc lv (.int x :: rest) := fun H locs ls h1 h2 h3 => lv_if_gt hX.1 hX.2.1 hd ht (fun q => kt q H locs ls h1 h2 h3) (fun q => kf q H locs ls h1 h2 h3)
theorem g_icmp_gt (hX : Gd X E own cc) {x y : Int32} {off : Int} {tgt : Nat} (hd : decode cc pc = .ok (.if_icmp .gt off, 3)) (ht : (pc : Int) + off = (tgt : Int)) (kt : y < x → G X E A tgt lv rest) (kf : ¬ y < x → G X E A (pc + 3) lv rest) : G X E A pc lv (.int y :: .int x :: rest) := fun H locs ls h1 h2 h3 => lv_icmp_gt hX.1 hX.2.1 hd ht (fun q => kt q H locs ls h1 h2 h3) (fun q => kf q H locs ls h1 h2 h3)
theorem g_if_le (hX : Gd X E own cc) {x : Int32} {off : Int} {tgt : Nat} (hd : decode cc pc = .ok (.ifCond .le off, 3)) (ht : (pc : Int) + off = (tgt : Int)) (kt : x ≤ 0 → G X E A tgt lv rest) (kf : ¬ x ≤ 0 → G X E A (pc + 3) lv rest) : G X E A pc lv (.int x :: rest) := fun H locs ls h1 h2 h3 => lv_if_le hX.1 hX.2.1 hd ht (fun q => kt q H locs ls h1 h2 h3) (fun q => kf q H locs ls h1 h2 h3)
theorem g_icmp_le (hX : Gd X E own cc) {x y : Int32} {off : Int} {tgt : Nat} (hd : decode cc pc = .ok (.if_icmp .le off, 3)) (ht : (pc : Int) + off = (tgt : Int)) (kt : x ≤ y → G X E A tgt lv rest) (kf : ¬ x ≤ y → G X E A (pc + 3) lv rest) : G X E A pc lv (.int y :: .int x :: rest) := fun H locs ls h1 h2 h3 => lv_icmp_le hX.1 hX.2.1 hd ht (fun q => kt q H locs ls h1 h2 h3) (fun q => kf q H locs ls h1 h2 h3)
theorem bI_eq0 (b : Bool) : bI b = 0 ↔ b = false := by cases b <;> decide
theorem g_ifB_eq (hX : Gd X E own cc) {b : Bool} {off : Int} {tgt : Nat} (hd : decode cc pc = .ok (.ifCond .eq off, 3)) (ht : (pc : Int) + off = (tgt : Int)) (kt : b = false → G X E A tgt lv rest) (kf : b = true → G X E A (pc + 3) lv rest) : G X E A pc lv (.int (bI b) :: rest) := g_if_eq hX hd ht (fun q => kt ((bI_eq0 b).mp q)) (fun q => kf (by cases b <;> first | rfl | exact absurd rfl q))
theorem g_ifB_ne (hX : Gd X E own cc) {b : Bool} {off : Int} {tgt : Nat} (hd : decode cc pc = .ok (.ifCond .ne off, 3)) (ht : (pc : Int) + off = (tgt : Int)) (kt : b = true → G X E A tgt lv rest) (kf : b = false → G X E A (pc + 3) lv rest) : G X E A pc lv (.int (bI b) :: rest) := g_if_ne hX hd ht (fun q => kt (by cases b <;> first | rfl | exact absurd rfl q)) (fun q => kf ((bI_eq0 b).mp q))
theorem g_goto (hX : Gd X E own cc) {off : Int} {tgt : Nat} (hd : decode cc pc = .ok (.goto off, 3)) (ht : (pc : Int) + off = (tgt : Int)) (k : G X E A tgt lv rest) : G X E A pc lv rest := fun H locs ls h1 h2 h3 => lv_goto hX.1 hX.2.1 hd ht (k H locs ls h1 h2 h3)
theorem g_ifnull (hX : Gd X E own cc) {x : Nat} {off : Int} {tgt : Nat} (hd : decode cc pc = .ok (.ifnull off, 3)) (ht : (pc : Int) + off = (tgt : Int)) (kt : x = 0 → G X E A tgt lv rest) (kf : ¬ x = 0 → G X E A (pc + 3) lv rest) : G X E A pc lv (cr E x :: rest) := by
  intro H locs ls h1 h2 h3
  by_cases h0 : x = 0
  · subst h0
    exact lv_ifnullN hX.1 hX.2.1 hd ht (kt rfl H locs ls h1 h2 h3)
  · rw [cr_pos h0]
    exact lv_ifnull hX.1 hX.2.1 hd (kf h0 H locs ls h1 h2 h3)
theorem g_ifnonnull (hX : Gd X E own cc) {x : Nat} {off : Int} {tgt : Nat} (hd : decode cc pc = .ok (.ifnonnull off, 3)) (ht : (pc : Int) + off = (tgt : Int)) (kt : ¬ x = 0 → G X E A tgt lv rest) (kf : x = 0 → G X E A (pc + 3) lv rest) : G X E A pc lv (cr E x :: rest) := by
  intro H locs ls h1 h2 h3
  by_cases h0 : x = 0
  · subst h0
    exact lv_ifnonnullN hX.1 hX.2.1 hd (kf rfl H locs ls h1 h2 h3)
  · rw [cr_pos h0]
    exact lv_ifnonnull hX.1 hX.2.1 hd ht (kt h0 H locs ls h1 h2 h3)
theorem g_getf (hX : Gd X E own cc) {index c i x : Nat} (hf : FLk own index c i) (hk : kd x = c) (hd : decode cc pc = .ok (.getfield index, 3)) (k : G X E A (pc + 3) lv (fv E A x i (fts c i) :: rest)) : G X E A pc lv (cr E x :: rest) := by
  subst hk
  obtain ⟨⟨hc, hin, h50, hty, hnm⟩, hi, hl⟩ := hf
  have hx0 : x ≠ 0 := by
    rintro rfl
    exact absurd h50.1 (by decide)
  intro H locs ls h1 h2 h3
  obtain ⟨q0, e1, e2⟩ := ws_at E A (show kd x ≠ 0 by omega)
  rw [cr_pos hx0]
  have e3 : ent E A x = .inr (kd x - 1, (List.range (nf (kd x))).map (fun i => fv E A x i (fts (kd x) i))) := by unfold ent; rw [if_pos h50.2]
  rw [e3] at e2
  obtain ⟨hx, hb, hml, hown, hts, ⟨hEO, hK, hB, hSF⟩, hlk⟩ := hX
  exact va_get (D := eD E) (cl := cls) hx hb hts hin hown hK h1 q0 e2 hc i hi (hts _ hl) (fun _ h => h) (by simp [List.getElem?_map, List.getElem?_range hi]) hd (k H locs ls h1 h2 h3)
theorem g_getI (hX : Gd X E own cc) {index c i x : Nat} (hf : FLk own index c i) (ht : fts c i = 0) (hk : kd x = c) (hd : decode cc pc = .ok (.getfield index, 3)) (k : G X E A (pc + 3) lv (.int (gI A x i) :: rest)) : G X E A pc lv (cr E x :: rest) := g_getf hX hf hk hd (by rw [ht]; exact k)
theorem g_getR (hX : Gd X E own cc) {index c i x : Nat} (hf : FLk own index c i) (ht : fts c i = 2) (hk : kd x = c) (hd : decode cc pc = .ok (.getfield index, 3)) (k : G X E A (pc + 3) lv (cr E (gR A x i) :: rest)) : G X E A pc lv (cr E x :: rest) := g_getf hX hf hk hd (by rw [ht]; exact k)
theorem up2_ne {α : Type} {f : Nat → Nat → α} {o i a : Nat} {v : α} (h : a ≠ o) : up2 f o i v a = f a := by
  funext b
  simp [up2, h]
theorem up2_self {α : Type} {f : Nat → Nat → α} {o i : Nat} {v : α} : up2 f o i v o i = v := by simp [up2]
theorem up2_other {α : Type} {f : Nat → Nat → α} {o i b : Nat} {v : α} (h : b ≠ i) : up2 f o i v o b = f o b := by simp [up2, h]
theorem fv_list (E : EVT) {A A' : Mem} {x i n : Nat} {t : Nat → Nat} {v : Value} (hi : i < n) (hs : fv E A' x i (t i) = v) (ho : ∀ j, j ≠ i → fv E A' x j (t j) = fv E A x j (t j)) : ((List.range n).map (fun j => fv E A x j (t j))).set i v = (List.range n).map (fun j => fv E A' x j (t j)) := by
  apply List.ext_getElem?
  intro j
  by_cases hj : j = i
  · subst hj
    rw [List.getElem?_set_self (by simpa using hi)]
    simp [List.getElem?_map, List.getElem?_range hi, hs]
  · rw [List.getElem?_set_ne (Ne.symm hj)]
    simp only [List.getElem?_map]
    by_cases hjn : j < n
    · rw [List.getElem?_range hjn]
      simp [ho j hj]
    · rw [List.getElem?_eq_none (by simpa using hjn)]
      rfl
theorem g_putf (hX : Gd X E own cc) {index c i x : Nat} {A' : Mem} {v : Value} (hf : FLk own index c i) (hfin : (fT c i).2.2.2 = false) (hk : kd x = c) (hn : narrow (fTy c i) v = v) (hfit : fits (fTy c i) v = true) (hs : fv E A' x i (fts c i) = v) (ho : ∀ j, j ≠ i → fv E A' x j (fts c j) = fv E A x j (fts c j)) (he : ∀ j, j ≠ x → ent E A' j = ent E A j)
    (hd : decode cc pc = .ok (.putfield index, 3)) (k : G X E A' (pc + 3) lv rest) : G X E A pc lv (v :: cr E x :: rest) := by
  subst hk
  obtain ⟨⟨hc, hin, h50, hty, hnm⟩, hi, hl⟩ := hf
  have hx0 : x ≠ 0 := by
    rintro rfl
    exact absurd h50.1 (by decide)
  intro H locs ls h1 h2 h3
  obtain ⟨q0, e1, e2⟩ := ws_at E A (show kd x ≠ 0 by omega)
  rw [cr_pos hx0]
  have e3 : ent E A x = .inr (kd x - 1, (List.range (nf (kd x))).map (fun i => fv E A x i (fts (kd x) i))) := by unfold ent; rw [if_pos h50.2]
  have e4 : ent E A' x = .inr (kd x - 1, ((List.range (nf (kd x))).map (fun i => fv E A x i (fts (kd x) i))).set i v) := by
    unfold ent
    rw [if_pos h50.2, fv_list E hi hs ho]
  rw [e3] at e2
  obtain ⟨hx, hb, hml, hown, hts, ⟨hEO, hK, hB, hSF⟩, hlk⟩ := hX
  refine va_put (D := eD E) (cl := cls) hx hb hts hin (fTy (kd x)) hty hnm hown hK h1 (ws_D hEO A) h2 q0 e2 hc i hi (hts _ hl) (fun _ h => h) hfin (hty i hi) hn hfit (by simpa using hi) hd (fun H1 locs1 hP hD hS => ?_)
  rw [ws_set E e1 he e4] at hP
  exact k H1 locs1 ls hP hS h3
theorem entI (E : EVT) {A : Mem} {x i : Nat} {v : Int32} : ∀ j, j ≠ x → ent E (sI A x i v) j = ent E A j := by
  intro j hj
  have e : gI (sI A x i v) j = gI A j := up2_ne hj
  have e2 : ∀ a t, fv E (sI A x i v) j a t = fv E A j a t := by
    intro a t
    unfold fv
    split <;> first | rfl | exact congrArg Value.int (congrFun e a)
  unfold ent
  simp only [e2, e]
  rfl
theorem entD (E : EVT) {A : Mem} {x i : Nat} {v : UInt64} : ∀ j, j ≠ x → ent E (sD A x i v) j = ent E A j := by
  intro j hj
  have e : gD (sD A x i v) j = gD A j := up2_ne hj
  have e2 : ∀ a t, fv E (sD A x i v) j a t = fv E A j a t := by
    intro a t
    unfold fv
    split <;> first | rfl | exact congrArg Value.double (congrFun e a)
  unfold ent
  simp only [e2, e]
  rfl
theorem entR (E : EVT) {A : Mem} {x i v : Nat} : ∀ j, j ≠ x → ent E (sR A x i v) j = ent E A j := by
  intro j hj
  have e : gR (sR A x i v) j = gR A j := up2_ne hj
  have e2 : ∀ a t, fv E (sR A x i v) j a t = fv E A j a t := by
    intro a t
    unfold fv
    split <;> first | rfl | exact congrArg (cr E) (congrFun e a)
  unfold ent
  simp only [e2, e]
  rfl
theorem entL (E : EVT) {A : Mem} {x i : Nat} {v : Int64} : ∀ j, j ≠ x → ent E (sL A x i v) j = ent E A j := by
  intro j hj
  have e : gL (sL A x i v) j = gL A j := up2_ne hj
  have e2 : ∀ a t, fv E (sL A x i v) j a t = fv E A j a t := by
    intro a t
    unfold fv
    split <;> first | rfl | exact congrArg Value.long (congrFun e a)
  unfold ent
  simp only [e2, e]
  rfl
theorem fvI (E : EVT) {A : Mem} {x i : Nat} {v : Int32} (c : Nat) : ∀ j, j ≠ i → fv E (sI A x i v) x j (fts c j) = fv E A x j (fts c j) := by
  intro j hj
  unfold fv
  split <;> first | rfl | exact congrArg Value.int (up2_other hj)
theorem fvR (E : EVT) {A : Mem} {x i v : Nat} (c : Nat) : ∀ j, j ≠ i → fv E (sR A x i v) x j (fts c j) = fv E A x j (fts c j) := by
  intro j hj
  unfold fv
  split <;> first | rfl | exact congrArg (cr E) (up2_other hj)
theorem g_putI (hX : Gd X E own cc) {index c i x : Nat} {v : Int32} (hf : FLk own index c i) (hfin : (fT c i).2.2.2 = false) (ht : fts c i = 0) (hty : fTy c i = .int) (hk : kd x = c) (hd : decode cc pc = .ok (.putfield index, 3)) (k : G X E (sI A x i v) (pc + 3) lv rest) : G X E A pc lv (.int v :: cr E x :: rest) :=
  g_putf hX hf hfin hk (by rw [hty]; rfl) (by rw [hty]; rfl) (by rw [ht]; exact congrArg Value.int up2_self) (fvI E c) (entI E) hd k
theorem g_putZ (hX : Gd X E own cc) {index c i x : Nat} {v : Int32} (hv : isB v) (hf : FLk own index c i) (hfin : (fT c i).2.2.2 = false) (ht : fts c i = 0) (hty : fTy c i = .boolean) (hk : kd x = c) (hd : decode cc pc = .ok (.putfield index, 3)) (k : G X E (sI A x i v) (pc + 3) lv rest) : G X E A pc lv (.int v :: cr E x :: rest) :=
  g_putf hX hf hfin hk (by rw [hty]; rcases hv with rfl | rfl <;> rfl) (by rw [hty]; rcases hv with rfl | rfl <;> rfl) (by rw [ht]; exact congrArg Value.int up2_self) (fvI E c) (entI E) hd k
theorem isB_bI (b : Bool) : isB (bI b) := by cases b <;> first | exact Or.inl rfl | exact Or.inr rfl
theorem g_putR (hX : Gd X E own cc) {index c i x v : Nat} {n : String} (hf : FLk own index c i) (hfin : (fT c i).2.2.2 = false) (ht : fts c i = 2) (hty : fTy c i = .object n) (hk : kd x = c) (hd : decode cc pc = .ok (.putfield index, 3)) (k : G X E (sR A x i v) (pc + 3) lv rest) : G X E A pc lv (cr E v :: cr E x :: rest) := by
  refine g_putf hX hf hfin hk ?_ ?_ (by rw [ht]; exact congrArg (cr E) up2_self) (fvR E c) (entR E) hd k
  · rw [hty]; unfold cr; cases ro E v <;> rfl
  · rw [hty]; unfold cr; cases ro E v <;> rfl
theorem g_iaload (hX : Gd X E own cc) {x : Nat} {i : Int32} (hk : kd x = 51) (hin : vp_in i (al x)) (hd : decode cc pc = .ok (.iaload, 1)) (k : G X E A (pc + 1) lv (.int (gI A x i.toNatClampNeg) :: rest)) : G X E A pc lv (.int i :: cr E x :: rest) := by
  have hx0 : x ≠ 0 := by
    rintro rfl
    exact absurd hk (by decide)
  intro H locs ls h1 h2 h3
  obtain ⟨q0, e1, e2⟩ := ws_at E A (show kd x ≠ 0 by omega)
  rw [cr_pos hx0]
  have e3 : ent E A x = .inl (ecA E 51, al x, .inl (gI A x)) := by unfold ent; rw [hk]; rfl
  rw [e3] at e2
  obtain ⟨hx, hb, hml, hown, hts, ⟨hEO, hK, hB, hSF⟩, hlk⟩ := hX
  exact va_iald (D := eD E) (cl := cls) hx hb hK h1 q0 0 e2 rfl hin hd (k H locs ls h1 h2 h3)
theorem g_caload (hX : Gd X E own cc) {x : Nat} {i : Int32} (hk : kd x = 52) (hin : vp_in i (al x)) (hd : decode cc pc = .ok (.caload, 1)) (k : G X E A (pc + 1) lv (.int (gI A x i.toNatClampNeg) :: rest)) : G X E A pc lv (.int i :: cr E x :: rest) := by
  have hx0 : x ≠ 0 := by
    rintro rfl
    exact absurd hk (by decide)
  intro H locs ls h1 h2 h3
  obtain ⟨q0, e1, e2⟩ := ws_at E A (show kd x ≠ 0 by omega)
  rw [cr_pos hx0]
  have e3 : ent E A x = .inl (ecA E 52, al x, .inl (gI A x)) := by unfold ent; rw [hk]; rfl
  rw [e3] at e2
  obtain ⟨hx, hb, hml, hown, hts, ⟨hEO, hK, hB, hSF⟩, hlk⟩ := hX
  exact va_cald (D := eD E) (cl := cls) hx hb hK h1 q0 1 e2 rfl hin hd (k H locs ls h1 h2 h3)
theorem g_daload (hX : Gd X E own cc) {x : Nat} {i : Int32} (hk : kd x = 53) (hin : vp_in i (al x)) (hd : decode cc pc = .ok (.daload, 1)) (k : G X E A (pc + 1) lv (.double (gD A x i.toNatClampNeg) :: rest)) : G X E A pc lv (.int i :: cr E x :: rest) := by
  have hx0 : x ≠ 0 := by
    rintro rfl
    exact absurd hk (by decide)
  intro H locs ls h1 h2 h3
  obtain ⟨q0, e1, e2⟩ := ws_at E A (show kd x ≠ 0 by omega)
  rw [cr_pos hx0]
  have e3 : ent E A x = .inl (ecA E 53, al x, .inr (.inr (.inr (.inl (gD A x))))) := by unfold ent; rw [hk]; rfl
  rw [e3] at e2
  obtain ⟨hx, hb, hml, hown, hts, ⟨hEO, hK, hB, hSF⟩, hlk⟩ := hX
  exact va_dald (D := eD E) (cl := cls) hx hb hK h1 q0 2 e2 rfl hin hd (k H locs ls h1 h2 h3)
theorem g_laload (hX : Gd X E own cc) {x : Nat} {i : Int32} (hk : kd x = 54) (hin : vp_in i (al x)) (hd : decode cc pc = .ok (.laload, 1)) (k : G X E A (pc + 1) lv (.long (gL A x i.toNatClampNeg) :: rest)) : G X E A pc lv (.int i :: cr E x :: rest) := by
  have hx0 : x ≠ 0 := by
    rintro rfl
    exact absurd hk (by decide)
  intro H locs ls h1 h2 h3
  obtain ⟨q0, e1, e2⟩ := ws_at E A (show kd x ≠ 0 by omega)
  rw [cr_pos hx0]
  have e3 : ent E A x = .inl (ecA E 54, al x, .inr (.inl (gL A x))) := by unfold ent; rw [hk]; rfl
  rw [e3] at e2
  obtain ⟨hx, hb, hml, hown, hts, ⟨hEO, hK, hB, hSF⟩, hlk⟩ := hX
  exact va_lald (D := eD E) (cl := cls) hx hb hK h1 q0 3 e2 rfl hin hd (k H locs ls h1 h2 h3)
theorem g_aaload (hX : Gd X E own cc) {x : Nat} {i : Int32} (hk : kd x = 55) (hin : vp_in i (al x)) (hd : decode cc pc = .ok (.aaload, 1)) (k : G X E A (pc + 1) lv (cr E (gR A x i.toNatClampNeg) :: rest)) : G X E A pc lv (.int i :: cr E x :: rest) := by
  have hx0 : x ≠ 0 := by
    rintro rfl
    exact absurd hk (by decide)
  intro H locs ls h1 h2 h3
  obtain ⟨q0, e1, e2⟩ := ws_at E A (show kd x ≠ 0 by omega)
  rw [cr_pos hx0]
  have e3 : ent E A x = .inl (ecA E 55, al x, .inr (.inr (.inr (.inr (fun j => ro E (gR A x j)))))) := by unfold ent; rw [hk]; rfl
  rw [e3] at e2
  obtain ⟨hx, hb, hml, hown, hts, ⟨hEO, hK, hB, hSF⟩, hlk⟩ := hX
  exact va_aldq (D := eD E) (cl := cls) hx hb hK h1 q0 4 e2 rfl hin hd (k H locs ls h1 h2 h3)
theorem g_iastore (hX : Gd X E own cc) {x : Nat} {i : Int32} {v : Int32} (hk : kd x = 51) (hin : vp_in i (al x)) (hd : decode cc pc = .ok (.iastore, 1)) (k : G X E (sI A x i.toNatClampNeg v) (pc + 1) lv rest) : G X E A pc lv (.int v :: .int i :: cr E x :: rest) := by
  have hx0 : x ≠ 0 := by
    rintro rfl
    exact absurd hk (by decide)
  intro H locs ls h1 h2 h3
  obtain ⟨q0, e1, e2⟩ := ws_at E A (show kd x ≠ 0 by omega)
  rw [cr_pos hx0]
  have e3 : ent E A x = .inl (ecA E 51, al x, .inl (gI A x)) := by unfold ent; rw [hk]; rfl
  have e5 : gI (sI A x i.toNatClampNeg v) x = upd (gI A x) i.toNatClampNeg v := by
    funext b
    simp [gI, sI, up2, upd]
  have e4 : ent E (sI A x i.toNatClampNeg v) x = .inl (ecA E 51, al x, .inl (upd (gI A x) i.toNatClampNeg v)) := by
    unfold ent
    rw [hk]
    show (Sum.inl (ecA E 51, al x, .inl (gI (sI A x i.toNatClampNeg v) x)) : va_E) = _
    rw [e5]
  rw [e3] at e2
  obtain ⟨hx, hb, hml, hown, hts, ⟨hEO, hK, hB, hSF⟩, hlk⟩ := hX
  refine va_iast (D := eD E) (cl := cls) hx hb hK h1 (ws_D hEO A) h2 q0 0 e2 rfl hin hd (fun H1 locs1 hP hD hS => ?_)
  rw [ws_set E e1 (entI E) e4] at hP
  exact k H1 locs1 ls hP hS h3
theorem g_castore (hX : Gd X E own cc) {x : Nat} {i : Int32} {v : Int32} (hk : kd x = 52) (hin : vp_in i (al x)) (hd : decode cc pc = .ok (.castore, 1)) (k : G X E (sI A x i.toNatClampNeg (vp_nar .char v)) (pc + 1) lv rest) : G X E A pc lv (.int v :: .int i :: cr E x :: rest) := by
  have hx0 : x ≠ 0 := by
    rintro rfl
    exact absurd hk (by decide)
  intro H locs ls h1 h2 h3
  obtain ⟨q0, e1, e2⟩ := ws_at E A (show kd x ≠ 0 by omega)
  rw [cr_pos hx0]
  have e3 : ent E A x = .inl (ecA E 52, al x, .inl (gI A x)) := by unfold ent; rw [hk]; rfl
  have e5 : gI (sI A x i.toNatClampNeg (vp_nar .char v)) x = upd (gI A x) i.toNatClampNeg (vp_nar .char v) := by
    funext b
    simp [gI, sI, up2, upd]
  have e4 : ent E (sI A x i.toNatClampNeg (vp_nar .char v)) x = .inl (ecA E 52, al x, .inl (upd (gI A x) i.toNatClampNeg (vp_nar .char v))) := by
    unfold ent
    rw [hk]
    show (Sum.inl (ecA E 52, al x, .inl (gI (sI A x i.toNatClampNeg (vp_nar .char v)) x)) : va_E) = _
    rw [e5]
  rw [e3] at e2
  obtain ⟨hx, hb, hml, hown, hts, ⟨hEO, hK, hB, hSF⟩, hlk⟩ := hX
  refine va_cast (D := eD E) (cl := cls) hx hb hK h1 (ws_D hEO A) h2 q0 1 e2 rfl hin hd (fun H1 locs1 hP hD hS => ?_)
  rw [ws_set E e1 (entI E) e4] at hP
  exact k H1 locs1 ls hP hS h3
theorem g_dastore (hX : Gd X E own cc) {x : Nat} {i : Int32} {v : UInt64} (hk : kd x = 53) (hin : vp_in i (al x)) (hd : decode cc pc = .ok (.dastore, 1)) (k : G X E (sD A x i.toNatClampNeg v) (pc + 1) lv rest) : G X E A pc lv (.double v :: .int i :: cr E x :: rest) := by
  have hx0 : x ≠ 0 := by
    rintro rfl
    exact absurd hk (by decide)
  intro H locs ls h1 h2 h3
  obtain ⟨q0, e1, e2⟩ := ws_at E A (show kd x ≠ 0 by omega)
  rw [cr_pos hx0]
  have e3 : ent E A x = .inl (ecA E 53, al x, .inr (.inr (.inr (.inl (gD A x))))) := by unfold ent; rw [hk]; rfl
  have e5 : gD (sD A x i.toNatClampNeg v) x = vf_upd (gD A x) i.toNatClampNeg v := by
    funext b
    simp [gD, sD, up2, vf_upd]
  have e4 : ent E (sD A x i.toNatClampNeg v) x = .inl (ecA E 53, al x, .inr (.inr (.inr (.inl (vf_upd (gD A x) i.toNatClampNeg v))))) := by
    unfold ent
    rw [hk]
    show (Sum.inl (ecA E 53, al x, .inr (.inr (.inr (.inl (gD (sD A x i.toNatClampNeg v) x))))) : va_E) = _
    rw [e5]
  rw [e3] at e2
  obtain ⟨hx, hb, hml, hown, hts, ⟨hEO, hK, hB, hSF⟩, hlk⟩ := hX
  refine va_dast (D := eD E) (cl := cls) hx hb hK h1 (ws_D hEO A) h2 q0 2 e2 rfl hin hd (fun H1 locs1 hP hD hS => ?_)
  rw [ws_set E e1 (entD E) e4] at hP
  exact k H1 locs1 ls hP hS h3
theorem g_lastore (hX : Gd X E own cc) {x : Nat} {i : Int32} {v : Int64} (hk : kd x = 54) (hin : vp_in i (al x)) (hd : decode cc pc = .ok (.lastore, 1)) (k : G X E (sL A x i.toNatClampNeg v) (pc + 1) lv rest) : G X E A pc lv (.long v :: .int i :: cr E x :: rest) := by
  have hx0 : x ≠ 0 := by
    rintro rfl
    exact absurd hk (by decide)
  intro H locs ls h1 h2 h3
  obtain ⟨q0, e1, e2⟩ := ws_at E A (show kd x ≠ 0 by omega)
  rw [cr_pos hx0]
  have e3 : ent E A x = .inl (ecA E 54, al x, .inr (.inl (gL A x))) := by unfold ent; rw [hk]; rfl
  have e5 : gL (sL A x i.toNatClampNeg v) x = vp_updL (gL A x) i.toNatClampNeg v := by
    funext b
    simp [gL, sL, up2, vp_updL]
  have e4 : ent E (sL A x i.toNatClampNeg v) x = .inl (ecA E 54, al x, .inr (.inl (vp_updL (gL A x) i.toNatClampNeg v))) := by
    unfold ent
    rw [hk]
    show (Sum.inl (ecA E 54, al x, .inr (.inl (gL (sL A x i.toNatClampNeg v) x))) : va_E) = _
    rw [e5]
  rw [e3] at e2
  obtain ⟨hx, hb, hml, hown, hts, ⟨hEO, hK, hB, hSF⟩, hlk⟩ := hX
  refine va_last (D := eD E) (cl := cls) hx hb hK h1 (ws_D hEO A) h2 q0 3 e2 rfl hin hd (fun H1 locs1 hP hD hS => ?_)
  rw [ws_set E e1 (entL E) e4] at hP
  exact k H1 locs1 ls hP hS h3
theorem g_alen (hX : Gd X E own cc) {x c : Nat} {n : Int32} (hk : kd x = c) (hc : c = 51 ∨ c = 52 ∨ c = 53 ∨ c = 54 ∨ c = 55) (hn : Int32.ofNat (al x) = n) (hd : decode cc pc = .ok (.arraylength, 1)) (k : G X E A (pc + 1) lv (.int n :: rest)) : G X E A pc lv (cr E x :: rest) := by
  have hx0 : x ≠ 0 := by
    rintro rfl
    rcases hc with rfl | rfl | rfl | rfl | rfl <;> exact absurd hk (by decide)
  intro H locs ls h1 h2 h3
  obtain ⟨q0, e1, e2⟩ := ws_at E A (show kd x ≠ 0 by omega)
  rw [cr_pos hx0]
  have hge : ¬ kd x < 50 := by omega
  unfold ent at e2
  rw [if_neg hge] at e2
  obtain ⟨hx, hb, hml, hown, hts, ⟨hEO, hK, hB, hSF⟩, hlk⟩ := hX
  rcases hc with rfl | rfl | rfl | rfl | rfl <;> rw [hk] at e2
  · exact va_alen (D := eD E) (cl := cls) hx hb hK h1 q0 0 e2 rfl hn hd (k H locs ls h1 h2 h3)
  · exact va_alen (D := eD E) (cl := cls) hx hb hK h1 q0 1 e2 rfl hn hd (k H locs ls h1 h2 h3)
  · exact va_alen (D := eD E) (cl := cls) hx hb hK h1 q0 2 e2 rfl hn hd (k H locs ls h1 h2 h3)
  · exact va_alen (D := eD E) (cl := cls) hx hb hK h1 q0 3 e2 rfl hn hd (k H locs ls h1 h2 h3)
  · exact va_alen (D := eD E) (cl := cls) hx hb hK h1 q0 4 e2 rfl hn hd (k H locs ls h1 h2 h3)
theorem g_ldc2d (hX : Gd X E own cc) {index : Nat} {v : UInt64} (hd : decode cc pc = .ok (.ldc2_w index, 3)) (hc : Cond.constantDouble own index v ∈ gtb) (k : G X E A (pc + 3) lv (.double v :: rest)) : G X E A pc lv (rest) := fun H locs ls h1 h2 h3 => lv_ldc2d hX.1 hX.2.1 hX.2.2.2.1 (hX.2.2.2.2.1 _ hc) hd (k H locs ls h1 h2 h3)
theorem g_ldc2l (hX : Gd X E own cc) {index : Nat} {v : Int64} (hd : decode cc pc = .ok (.ldc2_w index, 3)) (hc : Cond.constantLong own index v ∈ gtb) (k : G X E A (pc + 3) lv (.long v :: rest)) : G X E A pc lv (rest) := fun H locs ls h1 h2 h3 => lv_ldc2 hX.1 hX.2.1 hX.2.2.2.1 (hX.2.2.2.2.1 _ hc) hd (k H locs ls h1 h2 h3)
theorem g_nm {X : CXT} {E : EVT} {A : Mem} {pc : Nat} {lv : List (Nat × Value)} {st : List Value} (k : ∀ A9 : Mem, A9 = A → G X E A9 pc lv st) : G X E A pc lv st := k A rfl
theorem tab_out {x : Int32} {lo hi : Int} {vs : List Int32} (hv : ∀ v ∈ vs, ¬ x = v) (hs : (List.range (hi - lo + 1).toNat).map (fun (k : Nat) => Int32.ofInt (lo + k)) = vs) : x.toInt < lo ∨ hi < x.toInt := by
  by_cases h1 : x.toInt < lo
  · exact Or.inl h1
  · by_cases h2 : hi < x.toInt
    · exact Or.inr h2
    · refine absurd ?_ (hv x ?_)
      · rfl
      · rw [← hs]
        refine List.mem_map.mpr ⟨(x.toInt - lo).toNat, List.mem_range.mpr (by omega), ?_⟩
        have e : lo + (((x.toInt - lo).toNat : Nat) : Int) = x.toInt := by omega
        rw [e]
        exact Int32.ofInt_toInt x
theorem g_tabin (hX : Gd X E own cc) {dflt lo hi : Int} {offs : Array Int} {len : Nat} {x v : Int32} {off : Int} {tgt : Nat} (hx : x = v) (hd : decode cc pc = .ok (.tableswitch dflt lo hi offs, len)) (h1 : ¬ v.toInt < lo) (h2 : ¬ hi < v.toInt) (ho : offs[(v.toInt - lo).toNat]? = some off) (ht : (pc : Int) + off = (tgt : Int)) (k : G X E A tgt lv rest) : G X E A pc lv (.int x :: rest) := by
  subst hx
  exact fun H locs ls g1 g2 g3 => lv_tableIn hX.1 hX.2.1 hd h1 h2 ho ht (k H locs ls g1 g2 g3)
theorem g_tabout (hX : Gd X E own cc) {dflt lo hi : Int} {offs : Array Int} {len : Nat} {x : Int32} {tgt : Nat} (vs : List Int32) (hv : ∀ v ∈ vs, ¬ x = v) (hd : decode cc pc = .ok (.tableswitch dflt lo hi offs, len)) (hs : (List.range (hi - lo + 1).toNat).map (fun (k : Nat) => Int32.ofInt (lo + k)) = vs) (ht : (pc : Int) + dflt = (tgt : Int)) (k : G X E A tgt lv rest) : G X E A pc lv (.int x :: rest) :=
  fun H locs ls g1 g2 g3 => lv_tableOut hX.1 hX.2.1 hd (tab_out hv hs) ht (k H locs ls g1 g2 g3)
theorem g_look (hX : Gd X E own cc) {dflt : Int} {ps : Array (Int × Int)} {len : Nat} {x v : Int32} {off : Int} {tgt : Nat} (hx : x = v) (hd : decode cc pc = .ok (.lookupswitch dflt ps, len)) (hp : (ps.toList.zip (ps.toList.drop 1)).all (fun (a, next) => a.1 < next.1) = true) (ho : Op.lookupswitch.offset ps.toList dflt v.toInt = off) (ht : (pc : Int) + off = (tgt : Int)) (k : G X E A tgt lv rest) : G X E A pc lv (.int x :: rest) := by
  subst hx
  exact fun H locs ls g1 g2 g3 => lv_lookup hX.1 hX.2.1 hd hp ho ht (k H locs ls g1 g2 g3)
theorem look_out {x : Int32} {d : Int} : ∀ {ps : List (Int × Int)} {vs : List Int32}, (∀ v ∈ vs, ¬ x = v) → vs.map (fun v => v.toInt) = ps.map (fun q => q.1) → Op.lookupswitch.offset ps d x.toInt = d
  | [], _, _, _ => by rfl
  | (a, o) :: r, [], _, h => by simp at h
  | (a, o) :: r, v :: vs, hv, h => by
    simp only [List.map_cons, List.cons.injEq] at h
    rw [lv_osw (hv v List.mem_cons_self) h.1]
    exact look_out (fun w hw => hv w (List.mem_cons_of_mem _ hw)) h.2
theorem g_lookout (hX : Gd X E own cc) {dflt : Int} {ps : Array (Int × Int)} {len : Nat} {x : Int32} {tgt : Nat} (vs : List Int32) (hv : ∀ v ∈ vs, ¬ x = v) (hd : decode cc pc = .ok (.lookupswitch dflt ps, len)) (hp : (ps.toList.zip (ps.toList.drop 1)).all (fun (a, next) => a.1 < next.1) = true) (hs : vs.map (fun v => v.toInt) = ps.toList.map (fun q => q.1)) (ht : (pc : Int) + dflt = (tgt : Int)) (k : G X E A tgt lv rest) : G X E A pc lv (.int x :: rest) :=
  fun H locs ls g1 g2 g3 => lv_lookup hX.1 hX.2.1 hd hp (look_out hv hs) ht (k H locs ls g1 g2 g3)
end GI
