def fT1 : u_T := fun k => match k with
  | 0 => ("BasicMachine", "typed", "[C", true)
  | 1 => ("BasicMachine", "typedLength", "I", false)
  | 2 => ("BasicMachine", "wrongPlace", "I", false)
  | 3 => ("BasicMachine", "parser", "LBasicMachine$Parser;", true)
  | _ => ("BasicMachine", "machine", "LBasicMachine$Machine;", true)
def fTy1 : Nat → FieldType := fun k => match k with
  | 0 => (.array .char)
  | 1 => .int
  | 2 => .int
  | 3 => (.object "BasicMachine$Parser")
  | _ => (.object "BasicMachine$Machine")
def fts1 : Nat → Nat := fun k => match k with
  | 0 => 2
  | 1 => 0
  | 2 => 0
  | 3 => 2
  | _ => 2
def fT2 : u_T := fun k => match k with
  | 0 => ("BasicMachine$Parser", "line", "LBasicMachine$Line;", false)
  | 1 => ("BasicMachine$Parser", "place", "I", false)
  | 2 => ("BasicMachine$Parser", "text", "[C", true)
  | 3 => ("BasicMachine$Parser", "length", "I", false)
  | 4 => ("BasicMachine$Parser", "open", "I", false)
  | _ => ("BasicMachine$Parser", "value", "I", false)
def fTy2 : Nat → FieldType := fun k => match k with
  | 0 => (.object "BasicMachine$Line")
  | 1 => .int
  | 2 => (.array .char)
  | 3 => .int
  | 4 => .int
  | _ => .int
def fts2 : Nat → Nat := fun k => match k with
  | 0 => 2
  | 1 => 0
  | 2 => 2
  | 3 => 0
  | 4 => 0
  | _ => 0
def fT3 : u_T := fun k => match k with
  | 0 => ("BasicMachine$Line", "number", "I", false)
  | 1 => ("BasicMachine$Line", "isBare", "Z", false)
  | 2 => ("BasicMachine$Line", "statement", "LBasicMachine$Statement;", false)
  | 3 => ("BasicMachine$Line", "letter", "I", false)
  | 4 => ("BasicMachine$Line", "isElement", "Z", false)
  | 5 => ("BasicMachine$Line", "function", "I", false)
  | 6 => ("BasicMachine$Line", "relation", "I", false)
  | 7 => ("BasicMachine$Line", "form", "LBasicMachine$Form;", false)
  | 8 => ("BasicMachine$Line", "numbers", "[I", true)
  | 9 => ("BasicMachine$Line", "numberTotal", "I", false)
  | 10 => ("BasicMachine$Line", "operations", "[I", true)
  | 11 => ("BasicMachine$Line", "operands", "[I", true)
  | 12 => ("BasicMachine$Line", "operationTotal", "I", false)
  | 13 => ("BasicMachine$Line", "ends", "[I", true)
  | _ => ("BasicMachine$Line", "expressionTotal", "I", false)
def fTy3 : Nat → FieldType := fun k => match k with
  | 0 => .int
  | 1 => .boolean
  | 2 => (.object "BasicMachine$Statement")
  | 3 => .int
  | 4 => .boolean
  | 5 => .int
  | 6 => .int
  | 7 => (.object "BasicMachine$Form")
  | 8 => (.array .int)
  | 9 => .int
  | 10 => (.array .int)
  | 11 => (.array .int)
  | 12 => .int
  | 13 => (.array .int)
  | _ => .int
def fts3 : Nat → Nat := fun k => match k with
  | 0 => 0
  | 1 => 0
  | 2 => 2
  | 3 => 0
  | 4 => 0
  | 5 => 0
  | 6 => 0
  | 7 => 2
  | 8 => 2
  | 9 => 0
  | 10 => 2
  | 11 => 2
  | 12 => 0
  | 13 => 2
  | _ => 0
def fT4 : u_T := fun k => match k with
  | 0 => ("BasicMachine$Machine", "program", "LBasicMachine$Program;", true)
  | 1 => ("BasicMachine$Machine", "calculator", "LBasicMachine$Calculator;", true)
  | 2 => ("BasicMachine$Machine", "loops", "LBasicMachine$Loops;", true)
  | 3 => ("BasicMachine$Machine", "printedNumbers", "[D", true)
  | 4 => ("BasicMachine$Machine", "printedTotal", "I", false)
  | 5 => ("BasicMachine$Machine", "returnTotal", "I", false)
  | 6 => ("BasicMachine$Machine", "dataTotal", "I", false)
  | 7 => ("BasicMachine$Machine", "dataRead", "I", false)
  | 8 => ("BasicMachine$Machine", "steps", "I", false)
  | 9 => ("BasicMachine$Machine", "lastNumber", "I", false)
  | 10 => ("BasicMachine$Machine", "thrown", "I", false)
  | 11 => ("BasicMachine$Machine", "returns", "[I", true)
  | 12 => ("BasicMachine$Machine", "data", "[D", true)
  | 13 => ("BasicMachine$Machine", "here", "I", false)
  | _ => ("BasicMachine$Machine", "due", "I", false)
def fTy4 : Nat → FieldType := fun k => match k with
  | 0 => (.object "BasicMachine$Program")
  | 1 => (.object "BasicMachine$Calculator")
  | 2 => (.object "BasicMachine$Loops")
  | 3 => (.array .double)
  | 4 => .int
  | 5 => .int
  | 6 => .int
  | 7 => .int
  | 8 => .int
  | 9 => .int
  | 10 => .int
  | 11 => (.array .int)
  | 12 => (.array .double)
  | 13 => .int
  | _ => .int
def fts4 : Nat → Nat := fun k => match k with
  | 0 => 2
  | 1 => 2
  | 2 => 2
  | 3 => 2
  | 4 => 0
  | 5 => 0
  | 6 => 0
  | 7 => 0
  | 8 => 0
  | 9 => 0
  | 10 => 0
  | 11 => 2
  | 12 => 2
  | 13 => 0
  | _ => 0
def fT5 : u_T := fun k => match k with
  | 0 => ("BasicMachine$Program", "size", "I", false)
  | _ => ("BasicMachine$Program", "lines", "[LBasicMachine$Line;", true)
def fTy5 : Nat → FieldType := fun k => match k with
  | 0 => .int
  | _ => (.array (.object "BasicMachine$Line"))
def fts5 : Nat → Nat := fun k => match k with
  | 0 => 0
  | _ => 2
def fT6 : u_T := fun k => match k with
  | 0 => ("BasicMachine$Calculator", "fault", "LBasicMachine$Fault;", false)
  | 1 => ("BasicMachine$Calculator", "variables", "[D", true)
  | 2 => ("BasicMachine$Calculator", "p", "LBasicMachine$Matrix;", true)
  | 3 => ("BasicMachine$Calculator", "q", "LBasicMachine$Matrix;", true)
  | 4 => ("BasicMachine$Calculator", String.ofList ['r'], "LBasicMachine$Matrix;", true)
  | 5 => ("BasicMachine$Calculator", "draft", "LBasicMachine$Matrix;", true)
  | 6 => ("BasicMachine$Calculator", "functions", "[LBasicMachine$Line;", true)
  | 7 => ("BasicMachine$Calculator", "stack", "[D", true)
  | _ => ("BasicMachine$Calculator", "top", "I", false)
def fTy6 : Nat → FieldType := fun k => match k with
  | 0 => (.object "BasicMachine$Fault")
  | 1 => (.array .double)
  | 2 => (.object "BasicMachine$Matrix")
  | 3 => (.object "BasicMachine$Matrix")
  | 4 => (.object "BasicMachine$Matrix")
  | 5 => (.object "BasicMachine$Matrix")
  | 6 => (.array (.object "BasicMachine$Line"))
  | 7 => (.array .double)
  | _ => .int
def fts6 : Nat → Nat := fun k => match k with
  | 0 => 2
  | 1 => 2
  | 2 => 2
  | 3 => 2
  | 4 => 2
  | 5 => 2
  | 6 => 2
  | 7 => 2
  | _ => 0
def fT7 : u_T := fun k => match k with
  | 0 => ("BasicMachine$Matrix", "rows", "I", false)
  | 1 => ("BasicMachine$Matrix", "columns", "I", false)
  | _ => ("BasicMachine$Matrix", "elements", "[D", true)
def fTy7 : Nat → FieldType := fun k => match k with
  | 0 => .int
  | 1 => .int
  | _ => (.array .double)
def fts7 : Nat → Nat := fun k => match k with
  | 0 => 0
  | 1 => 0
  | _ => 2
def fT8 : u_T := fun k => match k with
  | 0 => ("BasicMachine$Loops", "size", "I", false)
  | 1 => ("BasicMachine$Loops", "letters", "[I", true)
  | 2 => ("BasicMachine$Loops", "places", "[I", true)
  | 3 => ("BasicMachine$Loops", "limits", "[D", true)
  | _ => ("BasicMachine$Loops", "steps", "[D", true)
def fTy8 : Nat → FieldType := fun k => match k with
  | 0 => .int
  | 1 => (.array .int)
  | 2 => (.array .int)
  | 3 => (.array .double)
  | _ => (.array .double)
def fts8 : Nat → Nat := fun k => match k with
  | 0 => 0
  | 1 => 2
  | 2 => 2
  | 3 => 2
  | _ => 2
def fT9 : u_T := fun k => match k with
  | 0 => ("BasicMachineModel", "code", "I", false)
  | 1 => ("BasicMachineModel", "typed", "I", false)
  | 2 => ("BasicMachineModel", "size", "I", false)
  | 3 => ("BasicMachineModel", "error", "I", false)
  | 4 => ("BasicMachineModel", "p", "I", false)
  | 5 => ("BasicMachineModel", "open", "I", false)
  | 6 => ("BasicMachineModel", "codes", "I", false)
  | 7 => ("BasicMachineModel", "bad", "Z", false)
  | 8 => ("BasicMachineModel", "line", "[C", true)
  | 9 => ("BasicMachineModel", "text", "[C", true)
  | 10 => ("BasicMachineModel", "number", "[I", true)
  | 11 => ("BasicMachineModel", "sort", "[I", true)
  | 12 => ("BasicMachineModel", "arg", "[I", true)
  | 13 => ("BasicMachineModel", "expr", "[I", true)
  | 14 => ("BasicMachineModel", "made", "[I", true)
  | 15 => ("BasicMachineModel", "wait", "[I", true)
  | 16 => ("BasicMachineModel", "steps", "I", false)
  | 17 => ("BasicMachineModel", "last", "I", false)
  | 18 => ("BasicMachineModel", "prints", "I", false)
  | 19 => ("BasicMachineModel", "reads", "I", false)
  | 20 => ("BasicMachineModel", "data", "I", false)
  | 21 => ("BasicMachineModel", "left", "I", false)
  | 22 => ("BasicMachineModel", "subs", "I", false)
  | 23 => ("BasicMachineModel", "loops", "I", false)
  | 24 => ("BasicMachineModel", "calls", "I", false)
  | 25 => ("BasicMachineModel", "top", "I", false)
  | 26 => ("BasicMachineModel", "threw", "I", false)
  | 27 => ("BasicMachineModel", "fail", "I", false)
  | 28 => ("BasicMachineModel", "print", "[D", true)
  | 29 => ("BasicMachineModel", "variable", "[D", true)
  | 30 => ("BasicMachineModel", "value", "[D", true)
  | 31 => ("BasicMachineModel", "read", "[D", true)
  | 32 => ("BasicMachineModel", "limit", "[D", true)
  | 33 => ("BasicMachineModel", "by", "[D", true)
  | 34 => ("BasicMachineModel", "saved", "[D", true)
  | 35 => ("BasicMachineModel", "cell", "[D", true)
  | 36 => ("BasicMachineModel", "fresh", "[D", true)
  | 37 => ("BasicMachineModel", "fn", "[I", true)
  | 38 => ("BasicMachineModel", "rows", "[I", true)
  | 39 => ("BasicMachineModel", "columns", "[I", true)
  | 40 => ("BasicMachineModel", "back", "[I", true)
  | 41 => ("BasicMachineModel", "loopOf", "[I", true)
  | 42 => ("BasicMachineModel", "loopAt", "[I", true)
  | 43 => ("BasicMachineModel", "callAt", "[I", true)
  | _ => ("BasicMachineModel", "callOf", "[I", true)
def fTy9 : Nat → FieldType := fun k => match k with
  | 0 => .int
  | 1 => .int
  | 2 => .int
  | 3 => .int
  | 4 => .int
  | 5 => .int
  | 6 => .int
  | 7 => .boolean
  | 8 => (.array .char)
  | 9 => (.array .char)
  | 10 => (.array .int)
  | 11 => (.array .int)
  | 12 => (.array .int)
  | 13 => (.array .int)
  | 14 => (.array .int)
  | 15 => (.array .int)
  | 16 => .int
  | 17 => .int
  | 18 => .int
  | 19 => .int
  | 20 => .int
  | 21 => .int
  | 22 => .int
  | 23 => .int
  | 24 => .int
  | 25 => .int
  | 26 => .int
  | 27 => .int
  | 28 => (.array .double)
  | 29 => (.array .double)
  | 30 => (.array .double)
  | 31 => (.array .double)
  | 32 => (.array .double)
  | 33 => (.array .double)
  | 34 => (.array .double)
  | 35 => (.array .double)
  | 36 => (.array .double)
  | 37 => (.array .int)
  | 38 => (.array .int)
  | 39 => (.array .int)
  | 40 => (.array .int)
  | 41 => (.array .int)
  | 42 => (.array .int)
  | 43 => (.array .int)
  | _ => (.array .int)
def fts9 : Nat → Nat := fun k => match k with
  | 0 => 0
  | 1 => 0
  | 2 => 0
  | 3 => 0
  | 4 => 0
  | 5 => 0
  | 6 => 0
  | 7 => 0
  | 8 => 2
  | 9 => 2
  | 10 => 2
  | 11 => 2
  | 12 => 2
  | 13 => 2
  | 14 => 2
  | 15 => 2
  | 16 => 0
  | 17 => 0
  | 18 => 0
  | 19 => 0
  | 20 => 0
  | 21 => 0
  | 22 => 0
  | 23 => 0
  | 24 => 0
  | 25 => 0
  | 26 => 0
  | 27 => 0
  | 28 => 2
  | 29 => 2
  | 30 => 2
  | 31 => 2
  | 32 => 2
  | 33 => 2
  | 34 => 2
  | 35 => 2
  | 36 => 2
  | 37 => 2
  | 38 => 2
  | 39 => 2
  | 40 => 2
  | 41 => 2
  | 42 => 2
  | 43 => 2
  | _ => 2
def fC : Nat → String := fun c => match c with
  | 1 => "BasicMachine"
  | 2 => "BasicMachine$Parser"
  | 3 => "BasicMachine$Line"
  | 4 => "BasicMachine$Machine"
  | 5 => "BasicMachine$Program"
  | 6 => "BasicMachine$Calculator"
  | 7 => "BasicMachine$Matrix"
  | 8 => "BasicMachine$Loops"
  | 9 => "BasicMachineModel"
  | _ => ""
def fT : Nat → u_T := fun c => match c with
  | 1 => fT1
  | 2 => fT2
  | 3 => fT3
  | 4 => fT4
  | 5 => fT5
  | 6 => fT6
  | 7 => fT7
  | 8 => fT8
  | 9 => fT9
  | _ => fT1
def fTy : Nat → Nat → FieldType := fun c => match c with
  | 1 => fTy1
  | 2 => fTy2
  | 3 => fTy3
  | 4 => fTy4
  | 5 => fTy5
  | 6 => fTy6
  | 7 => fTy7
  | 8 => fTy8
  | 9 => fTy9
  | _ => fTy1
def fts : Nat → Nat → Nat := fun c => match c with
  | 1 => fts1
  | 2 => fts2
  | 3 => fts3
  | 4 => fts4
  | 5 => fts5
  | 6 => fts6
  | 7 => fts7
  | 8 => fts8
  | 9 => fts9
  | _ => fun _ => 0
def nf : Nat → Nat := fun c => match c with
  | 1 => 5
  | 2 => 6
  | 3 => 15
  | 4 => 15
  | 5 => 2
  | 6 => 9
  | 7 => 3
  | 8 => 5
  | 9 => 45
  | _ => 0
abbrev cls : List vw_C := [("BasicMachine", fT1, 5), ("BasicMachine$Parser", fT2, 6), ("BasicMachine$Line", fT3, 15), ("BasicMachine$Machine", fT4, 15), ("BasicMachine$Program", fT5, 2), ("BasicMachine$Calculator", fT6, 9), ("BasicMachine$Matrix", fT7, 3), ("BasicMachine$Loops", fT8, 5), ("BasicMachineModel", fT9, 45)]
def kdT : List Nat := [0, 1, 52, 2, 52, 4, 5, 55, 6, 53, 55, 53, 7, 7, 7, 7, 53, 53, 53, 53, 8, 51, 51, 53, 53, 53, 51, 53, 54, 53]
def alT : List Nat := [0, 0, 60, 0, 60, 0, 0, 24, 0, 26, 3, 240, 0, 0, 0, 0, 36, 36, 36, 36, 0, 6, 6, 6, 6, 40, 8, 144, 1, 1]
def kdM : List Nat := [9, 52, 52, 51, 51, 51, 51, 51, 51, 53, 53, 53, 53, 53, 53, 53, 53, 53, 51, 51, 51, 51, 51, 51, 51, 51]
def alM : List Nat := [0, 60, 60, 25, 25, 200, 100, 4000, 64, 40, 26, 200, 144, 6, 6, 4, 108, 36, 3, 3, 3, 8, 6, 6, 4, 4]
def kd (k : Nat) : Nat := if k < 30 then kdT.getD k 0 else if k < 100 then 0 else if k < 125 then 3 else if k < 130 then 0 else if k < 155 then 51 else if k < 160 then 0 else if k < 185 then 51 else if k < 190 then 0 else if k < 215 then 51 else if k < 220 then 0 else if k < 245 then 51 else if k < 250 then 0 else if k < 276 then kdM.getD (k - 250) 0 else 0
def al (k : Nat) : Nat := if k < 30 then alT.getD k 0 else if k < 130 then 0 else if k < 160 then 6 else if k < 220 then 60 else if k < 250 then 3 else alM.getD (k - 250) 0
def dm : List Nat := (List.range 276).filter (fun k => decide (kd k ≠ 0))
theorem kd_lt {k : Nat} (h : kd k ≠ 0) : k < 276 := by
  refine Nat.not_le.mp fun h9 => h ?_
  unfold kd
  repeat rw [if_neg (by omega)]
theorem al_lt (k : Nat) : al k < 2 ^ 31 := by
  have h1 : ∀ j, alT.getD j 0 < 2 ^ 31 := fun j => by
    by_cases h : j < 30
    · exact (show ∀ j, j < 30 → alT.getD j 0 < 2 ^ 31 by decide +kernel) j h
    · have e : alT[j]? = none := List.getElem?_eq_none (show 30 ≤ j by omega)
      simp [List.getD, e]
  have h2 : ∀ j, alM.getD j 0 < 2 ^ 31 := fun j => by
    by_cases h : j < 26
    · exact (show ∀ j, j < 26 → alM.getD j 0 < 2 ^ 31 by decide +kernel) j h
    · have e : alM[j]? = none := List.getElem?_eq_none (show 26 ≤ j by omega)
      simp [List.getD, e]
  unfold al
  split
  · exact h1 k
  · split
    · decide
    · split
      · decide
      · split
        · decide
        · split
          · decide
          · exact h2 _
def gtb : List Cond := lw_tbl.filter goodWord
def isNest : Cond → Bool
  | .methodLinkNest .. => true
  | .fieldLinkNest .. => true
  | _ => false
def nestW : List Cond := tables_1.filter isNest
theorem in_nst {w : Cond} (i : Nat) (h : tables_1[i]? = some w) (hg : isNest w = true := by rfl) : w ∈ nestW := List.mem_filter.mpr ⟨List.mem_of_getElem? h, hg⟩
/-- a class's own facts: its words are there, its fields parse, their names differ -/
def CFk (c : Nat) : Prop := cls[c - 1]? = some (fC c, fT c, nf c) ∧ (∀ w ∈ u_ws (fC c) (fT c) (nf c), w ∈ gtb) ∧ (0 < c ∧ c < 50) ∧ (∀ k, k < nf c → parseFieldDescriptor (fT c k).2.2.1 = some (fTy c k)) ∧ ∀ a, a < nf c → ∀ b, b < nf c → a ≠ b → (fT c a).2.1 ≠ (fT c b).2.1
def FLk (own : String) (index c i : Nat) : Prop := CFk c ∧ i < nf c ∧ Cond.fieldLink own index (fT c i).1 (fT c i).2.1 (fT c i).2.2.1 ∈ gtb
theorem in_tbl {w : Cond} (i : Nat) (h : tables_1[i]? = some w) (hg : goodWord w = true := by rfl) : w ∈ gtb := List.mem_filter.mpr ⟨List.mem_append_right _ (List.mem_of_getElem? h), hg⟩
theorem in_prv {w : Cond} (i : Nat) (h : (k2_sels lw_privs)[i]? = some w) (hg : goodWord w = true := by rfl) : w ∈ gtb := List.mem_filter.mpr ⟨List.mem_append_left _ (List.mem_of_getElem? h), hg⟩
theorem cf1_in : ∀ w ∈ u_ws (fC 1) (fT 1) (nf 1), w ∈ gtb := List.forall_mem_cons.mpr ⟨in_tbl 310 (by decide +kernel), List.forall_mem_cons.mpr ⟨in_tbl 312 (by decide +kernel), List.forall_mem_cons.mpr ⟨in_tbl 314 (by decide +kernel), List.forall_mem_cons.mpr ⟨in_tbl 316 (by decide +kernel), List.forall_mem_cons.mpr ⟨in_tbl 318 (by decide +kernel), fun _ h => absurd h List.not_mem_nil⟩⟩⟩⟩⟩
theorem cf1 : CFk 1 := ⟨rfl, cf1_in, by decide, by decide +kernel, by decide +kernel⟩
theorem cf2_in : ∀ w ∈ u_ws (fC 2) (fT 2) (nf 2), w ∈ gtb := List.forall_mem_cons.mpr ⟨in_tbl 130 (by decide +kernel), List.forall_mem_cons.mpr ⟨in_tbl 132 (by decide +kernel), List.forall_mem_cons.mpr ⟨in_tbl 134 (by decide +kernel), List.forall_mem_cons.mpr ⟨in_tbl 136 (by decide +kernel), List.forall_mem_cons.mpr ⟨in_tbl 138 (by decide +kernel), List.forall_mem_cons.mpr ⟨in_tbl 140 (by decide +kernel), fun _ h => absurd h List.not_mem_nil⟩⟩⟩⟩⟩⟩
theorem cf2 : CFk 2 := ⟨rfl, cf2_in, by decide, by decide +kernel, by decide +kernel⟩
theorem cf3_in : ∀ w ∈ u_ws (fC 3) (fT 3) (nf 3), w ∈ gtb := List.forall_mem_cons.mpr ⟨in_tbl 89 (by decide +kernel), List.forall_mem_cons.mpr ⟨in_tbl 91 (by decide +kernel), List.forall_mem_cons.mpr ⟨in_tbl 93 (by decide +kernel), List.forall_mem_cons.mpr ⟨in_tbl 95 (by decide +kernel), List.forall_mem_cons.mpr ⟨in_tbl 97 (by decide +kernel), List.forall_mem_cons.mpr ⟨in_tbl 99 (by decide +kernel), List.forall_mem_cons.mpr ⟨in_tbl 101 (by decide +kernel), List.forall_mem_cons.mpr ⟨in_tbl 103 (by decide +kernel), List.forall_mem_cons.mpr ⟨in_tbl 105 (by decide +kernel), List.forall_mem_cons.mpr ⟨in_tbl 107 (by decide +kernel), List.forall_mem_cons.mpr ⟨in_tbl 109 (by decide +kernel), List.forall_mem_cons.mpr ⟨in_tbl 111 (by decide +kernel), List.forall_mem_cons.mpr ⟨in_tbl 113 (by decide +kernel), List.forall_mem_cons.mpr ⟨in_tbl 115 (by decide +kernel), List.forall_mem_cons.mpr ⟨in_tbl 117 (by decide +kernel), fun _ h => absurd h List.not_mem_nil⟩⟩⟩⟩⟩⟩⟩⟩⟩⟩⟩⟩⟩⟩⟩
theorem cf3 : CFk 3 := ⟨rfl, cf3_in, by decide, by decide +kernel, by decide +kernel⟩
theorem cf4_in : ∀ w ∈ u_ws (fC 4) (fT 4) (nf 4), w ∈ gtb := List.forall_mem_cons.mpr ⟨in_tbl 274 (by decide +kernel), List.forall_mem_cons.mpr ⟨in_tbl 276 (by decide +kernel), List.forall_mem_cons.mpr ⟨in_tbl 278 (by decide +kernel), List.forall_mem_cons.mpr ⟨in_tbl 280 (by decide +kernel), List.forall_mem_cons.mpr ⟨in_tbl 282 (by decide +kernel), List.forall_mem_cons.mpr ⟨in_tbl 284 (by decide +kernel), List.forall_mem_cons.mpr ⟨in_tbl 286 (by decide +kernel), List.forall_mem_cons.mpr ⟨in_tbl 288 (by decide +kernel), List.forall_mem_cons.mpr ⟨in_tbl 290 (by decide +kernel), List.forall_mem_cons.mpr ⟨in_tbl 292 (by decide +kernel), List.forall_mem_cons.mpr ⟨in_tbl 294 (by decide +kernel), List.forall_mem_cons.mpr ⟨in_tbl 296 (by decide +kernel), List.forall_mem_cons.mpr ⟨in_tbl 298 (by decide +kernel), List.forall_mem_cons.mpr ⟨in_tbl 300 (by decide +kernel), List.forall_mem_cons.mpr ⟨in_tbl 302 (by decide +kernel), fun _ h => absurd h List.not_mem_nil⟩⟩⟩⟩⟩⟩⟩⟩⟩⟩⟩⟩⟩⟩⟩
theorem cf4 : CFk 4 := ⟨rfl, cf4_in, by decide, by decide +kernel, by decide +kernel⟩
theorem cf5_in : ∀ w ∈ u_ws (fC 5) (fT 5) (nf 5), w ∈ gtb := List.forall_mem_cons.mpr ⟨in_tbl 162 (by decide +kernel), List.forall_mem_cons.mpr ⟨in_tbl 164 (by decide +kernel), fun _ h => absurd h List.not_mem_nil⟩⟩
theorem cf5 : CFk 5 := ⟨rfl, cf5_in, by decide, by decide +kernel, by decide +kernel⟩
theorem cf6_in : ∀ w ∈ u_ws (fC 6) (fT 6) (nf 6), w ∈ gtb := List.forall_mem_cons.mpr ⟨in_tbl 205 (by decide +kernel), List.forall_mem_cons.mpr ⟨in_tbl 207 (by decide +kernel), List.forall_mem_cons.mpr ⟨in_tbl 209 (by decide +kernel), List.forall_mem_cons.mpr ⟨in_tbl 211 (by decide +kernel), List.forall_mem_cons.mpr ⟨in_tbl 213 (by decide +kernel), List.forall_mem_cons.mpr ⟨in_tbl 215 (by decide +kernel), List.forall_mem_cons.mpr ⟨in_tbl 217 (by decide +kernel), List.forall_mem_cons.mpr ⟨in_tbl 219 (by decide +kernel), List.forall_mem_cons.mpr ⟨in_tbl 221 (by decide +kernel), fun _ h => absurd h List.not_mem_nil⟩⟩⟩⟩⟩⟩⟩⟩⟩
theorem cf6 : CFk 6 := ⟨rfl, cf6_in, by decide, by decide +kernel, by decide +kernel⟩
theorem cf7_in : ∀ w ∈ u_ws (fC 7) (fT 7) (nf 7), w ∈ gtb := List.forall_mem_cons.mpr ⟨in_tbl 186 (by decide +kernel), List.forall_mem_cons.mpr ⟨in_tbl 188 (by decide +kernel), List.forall_mem_cons.mpr ⟨in_tbl 190 (by decide +kernel), fun _ h => absurd h List.not_mem_nil⟩⟩⟩
theorem cf7 : CFk 7 := ⟨rfl, cf7_in, by decide, by decide +kernel, by decide +kernel⟩
theorem cf8_in : ∀ w ∈ u_ws (fC 8) (fT 8) (nf 8), w ∈ gtb := List.forall_mem_cons.mpr ⟨in_tbl 237 (by decide +kernel), List.forall_mem_cons.mpr ⟨in_tbl 239 (by decide +kernel), List.forall_mem_cons.mpr ⟨in_tbl 241 (by decide +kernel), List.forall_mem_cons.mpr ⟨in_tbl 243 (by decide +kernel), List.forall_mem_cons.mpr ⟨in_tbl 245 (by decide +kernel), fun _ h => absurd h List.not_mem_nil⟩⟩⟩⟩⟩
theorem cf8 : CFk 8 := ⟨rfl, cf8_in, by decide, by decide +kernel, by decide +kernel⟩
theorem cf9_in : ∀ w ∈ u_ws (fC 9) (fT 9) (nf 9), w ∈ gtb := List.forall_mem_cons.mpr ⟨in_tbl 1210 (by decide +kernel), List.forall_mem_cons.mpr ⟨in_tbl 1212 (by decide +kernel), List.forall_mem_cons.mpr ⟨in_tbl 1214 (by decide +kernel), List.forall_mem_cons.mpr ⟨in_tbl 1216 (by decide +kernel), List.forall_mem_cons.mpr ⟨in_tbl 1218 (by decide +kernel), List.forall_mem_cons.mpr ⟨in_tbl 1220 (by decide +kernel), List.forall_mem_cons.mpr ⟨in_tbl 1222 (by decide +kernel), List.forall_mem_cons.mpr ⟨in_tbl 1224 (by decide +kernel), List.forall_mem_cons.mpr ⟨in_tbl 1226 (by decide +kernel), List.forall_mem_cons.mpr ⟨in_tbl 1228 (by decide +kernel), List.forall_mem_cons.mpr ⟨in_tbl 1230 (by decide +kernel), List.forall_mem_cons.mpr ⟨in_tbl 1232 (by decide +kernel), List.forall_mem_cons.mpr ⟨in_tbl 1234 (by decide +kernel), List.forall_mem_cons.mpr ⟨in_tbl 1236 (by decide +kernel), List.forall_mem_cons.mpr ⟨in_tbl 1238 (by decide +kernel), List.forall_mem_cons.mpr ⟨in_tbl 1240 (by decide +kernel), List.forall_mem_cons.mpr ⟨in_tbl 1242 (by decide +kernel), List.forall_mem_cons.mpr ⟨in_tbl 1244 (by decide +kernel), List.forall_mem_cons.mpr ⟨in_tbl 1246 (by decide +kernel), List.forall_mem_cons.mpr ⟨in_tbl 1248 (by decide +kernel), List.forall_mem_cons.mpr ⟨in_tbl 1250 (by decide +kernel), List.forall_mem_cons.mpr ⟨in_tbl 1252 (by decide +kernel), List.forall_mem_cons.mpr ⟨in_tbl 1254 (by decide +kernel), List.forall_mem_cons.mpr ⟨in_tbl 1256 (by decide +kernel), List.forall_mem_cons.mpr ⟨in_tbl 1258 (by decide +kernel), List.forall_mem_cons.mpr ⟨in_tbl 1260 (by decide +kernel), List.forall_mem_cons.mpr ⟨in_tbl 1262 (by decide +kernel), List.forall_mem_cons.mpr ⟨in_tbl 1264 (by decide +kernel), List.forall_mem_cons.mpr ⟨in_tbl 1266 (by decide +kernel), List.forall_mem_cons.mpr ⟨in_tbl 1268 (by decide +kernel), List.forall_mem_cons.mpr ⟨in_tbl 1270 (by decide +kernel), List.forall_mem_cons.mpr ⟨in_tbl 1272 (by decide +kernel), List.forall_mem_cons.mpr ⟨in_tbl 1274 (by decide +kernel), List.forall_mem_cons.mpr ⟨in_tbl 1276 (by decide +kernel), List.forall_mem_cons.mpr ⟨in_tbl 1278 (by decide +kernel), List.forall_mem_cons.mpr ⟨in_tbl 1280 (by decide +kernel), List.forall_mem_cons.mpr ⟨in_tbl 1282 (by decide +kernel), List.forall_mem_cons.mpr ⟨in_tbl 1284 (by decide +kernel), List.forall_mem_cons.mpr ⟨in_tbl 1286 (by decide +kernel), List.forall_mem_cons.mpr ⟨in_tbl 1288 (by decide +kernel), List.forall_mem_cons.mpr ⟨in_tbl 1290 (by decide +kernel), List.forall_mem_cons.mpr ⟨in_tbl 1292 (by decide +kernel), List.forall_mem_cons.mpr ⟨in_tbl 1294 (by decide +kernel), List.forall_mem_cons.mpr ⟨in_tbl 1296 (by decide +kernel), List.forall_mem_cons.mpr ⟨in_tbl 1298 (by decide +kernel), fun _ h => absurd h List.not_mem_nil⟩⟩⟩⟩⟩⟩⟩⟩⟩⟩⟩⟩⟩⟩⟩⟩⟩⟩⟩⟩⟩⟩⟩⟩⟩⟩⟩⟩⟩⟩⟩⟩⟩⟩⟩⟩⟩⟩⟩⟩⟩⟩⟩⟩⟩
theorem cf9 : CFk 9 := ⟨rfl, cf9_in, by decide, by decide +kernel, by decide +kernel⟩
def en1000 : List String := ["LET", "PRINT", "IF", "GOTO", "ON", "GOSUB", "RETURN", "FOR", "NEXT", "READ", "DATA", "RESTORE", "DIM", "DEF", "MAT", "REM", "END"]
def en1100 : List String := ["ZER", "CON", "IDN", "COPY", "ADD", "SUBTRACT", "MULTIPLY", "TRANSPOSE", "SCALE"]
def en1200 : List String := ["NONE", "ARGUMENT", "STATE", "MISSING", "ARITHMETIC", "BOUNDS", "UNSUPPORTED"]
def tb1300 : List Int32 := [1, 2, 3, 4, 5, 6, 15, 7, 8, 9, 10, 16, 11, 12, 13, 14, 17]
def tb1301 : List Int32 := [1, 2, 3, 0, 4, 5, 6, 7, 8]
def tb1302 : List Int32 := [0, 1, 2, 3, 4, 5, 6]
def lenS : List Nat := [24, 16, 2, 2, 2, 1, 4, 4, 2, 4, 3, 3, 3, 4, 2, 10, 13, 19, 25, 27, 34, 14, 15, 40, 14, 16, 14, 3, 2, 4, 4, 3, 5, 2, 4, 5, 6, 3, 4, 7, 3, 5, 3, 3]
def bytS : List (List Int32) := [[110, 111, 116, 32, 97, 32, 99, 104, 97, 114, 97, 99, 116, 101, 114, 32, 48, 32, 46, 46, 32, 49, 50, 55], [116, 104, 101, 32, 108, 105, 110, 101, 32, 105, 115, 32, 102, 117, 108, 108], [66, 83], [78, 84], [71, 78], [78], [84, 72, 69, 78], [71, 79, 84, 79], [84, 79], [83, 84, 69, 80], [90, 69, 82], [67, 79, 78], [73, 68, 78], [84, 82, 78, 40], [41, 42], [110, 111, 116, 32, 97, 32, 108, 105, 110, 101], [110, 111, 32, 108, 105, 110, 101, 32, 116, 111, 32, 103, 111], [116, 104, 101, 32, 112, 114, 111, 103, 114, 97, 109, 32, 105, 115, 32, 102, 117, 108, 108], [110, 111, 32, 115, 117, 99, 104, 32, 112, 108, 97, 99, 101, 32, 98, 101, 104, 105, 110, 100, 32, 71, 79, 84, 79], [116, 111, 111, 32, 109, 97, 110, 121, 32, 117, 110, 100, 101, 114, 32, 119, 97, 121, 44, 32, 111, 114, 32, 110, 111, 110, 101], [110, 111, 32, 115, 117, 99, 104, 32, 108, 105, 110, 101, 44, 32, 102, 117, 110, 99, 116, 105, 111, 110, 32, 111, 114, 32, 99, 111, 110, 115, 116, 97, 110, 116], [110, 111, 32, 115, 117, 99, 104, 32, 114, 101, 115, 117, 108, 116], [110, 111, 32, 115, 117, 99, 104, 32, 101, 108, 101, 109, 101, 110, 116], [110, 111, 32, 115, 117, 99, 104, 32, 109, 97, 116, 114, 105, 120, 44, 32, 111, 114, 32, 115, 105, 122, 101, 115, 32, 116, 104, 97, 116, 32, 100, 111, 32, 110, 111, 116, 32, 102, 105, 116], [110, 111, 32, 115, 117, 99, 104, 32, 110, 117, 109, 98, 101, 114], [110, 111, 32, 115, 117, 99, 104, 32, 118, 97, 114, 105, 97, 98, 108, 101], [110, 111, 32, 115, 117, 99, 104, 32, 109, 97, 116, 114, 105, 120], [82, 69, 77], [79, 78], [68, 65, 84, 65], [78, 69, 88, 84], [76, 69, 84], [80, 82, 73, 78, 84], [73, 70], [71, 79, 84, 79], [71, 79, 83, 85, 66], [82, 69, 84, 85, 82, 78], [70, 79, 82], [82, 69, 65, 68], [82, 69, 83, 84, 79, 82, 69], [68, 73, 77], [68, 69, 70, 70, 78], [77, 65, 84], [69, 78, 68]]
def wdS : List Nat := [31, 32, 33, 34, 28, 35, 36, 37, 30, 38, 29, 39, 40, 41, 42, 27, 43]
def strL : List (String × Nat × String × Nat) := [("BasicMachine", 33, "not a character 0 .. 127", 0), ("BasicMachine", 43, "the line is full", 1), ("BasicMachine$Parser", 288, "BS", 2), ("BasicMachine$Parser", 290, "NT", 3), ("BasicMachine$Parser", 292, "GN", 4), ("BasicMachine$Parser", 294, "N", 5), ("BasicMachine$Parser", 118, "THEN", 6), ("BasicMachine$Parser", 126, "GOTO", 7), ("BasicMachine$Parser", 134, "TO", 8), ("BasicMachine$Parser", 199, "STEP", 9), ("BasicMachine$Parser", 211, "ZER", 10), ("BasicMachine$Parser", 215, "CON", 11), ("BasicMachine$Parser", 219, "IDN", 12), ("BasicMachine$Parser", 223, "TRN(", 13), ("BasicMachine$Parser", 231, ")*", 14), ("BasicMachine", 53, "not a line", 15), ("BasicMachine", 80, "no line to go", 16), ("BasicMachine", 90, "the program is full", 17), ("BasicMachine", 183, "no such place behind GOTO", 18), ("BasicMachine", 185, "too many under way, or none", 19), ("BasicMachine", 187, "no such line, function or constant", 20), ("BasicMachine", 191, "no such result", 21), ("BasicMachine", 141, "no such element", 22), ("BasicMachine", 196, "no such matrix, or sizes that do not fit", 23), ("BasicMachine", 106, "no such number", 24), ("BasicMachine", 115, "no such variable", 25), ("BasicMachine", 127, "no such matrix", 26), ("BasicMachine$Statement", 98, "REM", 27), ("BasicMachine$Statement", 85, "ON", 28), ("BasicMachine$Statement", 91, "DATA", 29), ("BasicMachine$Statement", 89, "NEXT", 30), ("BasicMachine$Statement", 78, "LET", 31), ("BasicMachine$Statement", 82, "PRINT", 32), ("BasicMachine$Statement", 83, "IF", 33), ("BasicMachine$Statement", 84, "GOTO", 34), ("BasicMachine$Statement", 86, "GOSUB", 35), ("BasicMachine$Statement", 87, "RETURN", 36), ("BasicMachine$Statement", 88, "FOR", 37), ("BasicMachine$Statement", 90, "READ", 38), ("BasicMachine$Statement", 92, "RESTORE", 39), ("BasicMachine$Statement", 93, "DIM", 40), ("BasicMachine$Statement", 95, "DEFFN", 41), ("BasicMachine$Statement", 97, "MAT", 42), ("BasicMachine$Statement", 99, "END", 43)]
abbrev EV0 : Type := (Nat → Nat) × va_G × (Nat → ClassId) × Nat
def enk (k : Nat) : Prop := (1000 ≤ k ∧ k < 1017) ∨ (1100 ≤ k ∧ k < 1109) ∨ (1200 ≤ k ∧ k < 1207)
def enF (C d : String) (nm : List String) (b : Nat) (E : EV0) (U : State) (H : Heap) : Prop := ∀ i, i < nm.length → va_Z C (nm.getD i "") d (.ref (E.1 (b + i))) (fun q => E.2.2.2 ≤ q) U H ∧ va_O C (E.1 (b + i)) (fun q => E.2.2.2 ≤ q) U H ∧ va_OF "java/lang/Enum" "ordinal" "I" (.int (nI i)) (E.1 (b + i)) (fun q => E.2.2.2 ≤ q) U H
def tbF (n : String) (t : Nat) (l : List Int32) (E : EV0) (U : State) (H : Heap) : Prop := va_Z "BasicMachine$1" n "[I" (.ref (E.1 t)) (fun q => E.2.2.2 ≤ q) U H ∧ va_T .int (E.1 t) l.length (fun j => .int (l.getD j 0)) (fun q => E.2.2.2 ≤ q) U H
def stF (E : EV0) (U : State) (H : Heap) : Prop := ∀ i, i < 44 → va_O "java/lang/String" (E.1 (2000 + i)) (fun q => E.2.2.2 ≤ q) U H ∧ va_OF "java/lang/String" "coder" "B" (.int 0) (E.1 (2000 + i)) (fun q => E.2.2.2 ≤ q) U H ∧ va_OF "java/lang/String" "value" "[B" (.ref (E.1 (2100 + i))) (E.1 (2000 + i)) (fun q => E.2.2.2 ≤ q) U H ∧ va_T .byte (E.1 (2100 + i)) (lenS.getD i 0) (fun j => .int ((bytS.getD i []).getD j 0)) (fun q => E.2.2.2 ≤ q) U H
def wdF (E : EV0) (U : State) (H : Heap) : Prop := ∀ i, i < 17 → va_OF "BasicMachine$Statement" "word" "Ljava/lang/String;" (.ref (E.1 (2000 + wdS.getD i 0))) (E.1 (1000 + i)) (fun q => E.2.2.2 ≤ q) U H
def saF (E : EV0) (U : State) (H : Heap) : Prop := va_Z "BasicMachine" "STATEMENTS" "[LBasicMachine$Statement;" (.ref (E.1 1303)) (fun q => E.2.2.2 ≤ q) U H ∧ va_T (.object "BasicMachine$Statement") (E.1 1303) 17 (fun j => .ref (E.1 (1000 + j))) (fun q => E.2.2.2 ≤ q) U H
def miF (E : EV0) (U : State) (H : Heap) : Prop := va_Z "java/lang/String" "COMPACT_STRINGS" "Z" (.int 1) (fun q => E.2.2.2 ≤ q) U H ∧ (va_Z "jdk/internal/util/Preconditions" "SIOOBE_FORMATTER" "Ljava/util/function/BiFunction;" .null (fun q => E.2.2.2 ≤ q) U H ∨ va_Z "jdk/internal/util/Preconditions" "SIOOBE_FORMATTER" "Ljava/util/function/BiFunction;" (.ref (E.1 2999)) (fun q => E.2.2.2 ≤ q) U H)
def SF (E : EV0) (U : State) (H : Heap) : Prop := enF "BasicMachine$Statement" "LBasicMachine$Statement;" en1000 1000 E U H ∧ enF "BasicMachine$Form" "LBasicMachine$Form;" en1100 1100 E U H ∧ enF "BasicMachine$Fault" "LBasicMachine$Fault;" en1200 1200 E U H ∧ tbF "$SwitchMap$BasicMachine$Statement" 1300 tb1300 E U H ∧ tbF "$SwitchMap$BasicMachine$Form" 1301 tb1301 E U H ∧ tbF "$SwitchMap$BasicMachine$Fault" 1302 tb1302 E U H ∧ stF E U H ∧ wdF E U H ∧ saF E U H ∧ miF E U H
theorem enF_mv {C d : String} {nm : List String} {b : Nat} {E : EV0} {u U : State} {H : Heap} (hvm : u.vm.Alike U.vm) (h : enF C d nm b E u H) : enF C d nm b E U H := fun i hi => ⟨va_Z.moved hvm (h i hi).1, va_O.moved hvm (h i hi).2.1, va_OF.moved hvm (h i hi).2.2⟩
theorem enF_kp {C d : String} {nm : List String} {b : Nat} {E : EV0} {U : State} {H H1 : Heap} (hq : ∀ a : Nat, a < H.size → ¬ E.2.2.2 ≤ a → H1[a]? = H[a]?) (h : enF C d nm b E U H) : enF C d nm b E U H1 := fun i hi => ⟨(h i hi).1.kept hq, (h i hi).2.1.kept hq, (h i hi).2.2.kept hq⟩
theorem tbF_mv {n : String} {t : Nat} {l : List Int32} {E : EV0} {u U : State} {H : Heap} (hvm : u.vm.Alike U.vm) (h : tbF n t l E u H) : tbF n t l E U H := ⟨va_Z.moved hvm h.1, va_T.moved hvm h.2⟩
theorem tbF_kp {n : String} {t : Nat} {l : List Int32} {E : EV0} {U : State} {H H1 : Heap} (hq : ∀ a : Nat, a < H.size → ¬ E.2.2.2 ≤ a → H1[a]? = H[a]?) (h : tbF n t l E U H) : tbF n t l E U H1 := ⟨h.1.kept hq, h.2.kept hq⟩
theorem SF_mv {E : EV0} {u U : State} {H : Heap} (hvm : u.vm.Alike U.vm) (h : SF E u H) : SF E U H := by
  obtain ⟨h1, h2, h3, h4, h5, h6, h7, h8, h9, h10, h11⟩ := h
  exact ⟨enF_mv hvm h1, enF_mv hvm h2, enF_mv hvm h3, tbF_mv hvm h4, tbF_mv hvm h5, tbF_mv hvm h6, fun i hi => ⟨va_O.moved hvm (h7 i hi).1, va_OF.moved hvm (h7 i hi).2.1, va_OF.moved hvm (h7 i hi).2.2.1, va_T.moved hvm (h7 i hi).2.2.2⟩, fun i hi => va_OF.moved hvm (h8 i hi), ⟨va_Z.moved hvm h9.1, va_T.moved hvm h9.2⟩, va_Z.moved hvm h10, h11.elim (fun q => Or.inl (va_Z.moved hvm q)) (fun q => Or.inr (va_Z.moved hvm q))⟩
theorem SF_kp {E : EV0} {U : State} {H H1 : Heap} (h : SF E U H) (hq : ∀ a : Nat, a < H.size → ¬ E.2.2.2 ≤ a → H1[a]? = H[a]?) : SF E U H1 := by
  obtain ⟨h1, h2, h3, h4, h5, h6, h7, h8, h9, h10, h11⟩ := h
  exact ⟨enF_kp hq h1, enF_kp hq h2, enF_kp hq h3, tbF_kp hq h4, tbF_kp hq h5, tbF_kp hq h6, fun i hi => ⟨(h7 i hi).1.kept hq, (h7 i hi).2.1.kept hq, (h7 i hi).2.2.1.kept hq, (h7 i hi).2.2.2.kept hq⟩, fun i hi => (h8 i hi).kept hq, ⟨h9.1.kept hq, h9.2.kept hq⟩, h10.kept hq, h11.elim (fun q => Or.inl (q.kept hq)) (fun q => Or.inr (q.kept hq))⟩
def strR (E : EV0) (U : State) : Prop := ∀ q ∈ strL, vk_R q.1 q.2.1 q.2.2.1 (E.1 (2000 + q.2.2.2)) U
def MFi (y : MethodName) (cc : ByteArray) (maxL : Nat) (ret : Option FieldType) (n : Nat) : Prop := Cond.code y cc maxL ret ∈ gtb ∧ Cond.instanceMethod y ∈ gtb ∧ Cond.selects y.cls y y ∈ gtb ∧ Cond.initialized y.cls ∈ gtb ∧ (y.cls ≠ "java/lang/invoke/MethodHandle" ∧ y.cls ≠ "java/lang/invoke/VarHandle" ∧ (parseMethodDescriptor y.desc).map (fun d => d.parameters.length) = some n)
def MFs (y : MethodName) (cc : ByteArray) (maxL : Nat) (ret : Option FieldType) (n : Nat) : Prop := Cond.code y cc maxL ret ∈ gtb ∧ Cond.static y ∈ gtb ∧ Cond.initialized y.cls ∈ gtb ∧ (y.cls ≠ "java/lang/invoke/MethodHandle" ∧ y.cls ≠ "java/lang/invoke/VarHandle" ∧ (parseMethodDescriptor y.desc).map (fun d => d.parameters.length) = some n)
def y_ord : MethodName := ⟨"java/lang/Enum", "ordinal", "()I"⟩
