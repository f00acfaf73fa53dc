/-! the mathematical parser: statements. A line taken apart: its kind (0 LET .. 16 END), a (a target: a VARIABLE, or 26 and a MATRIX; a VARIABLE; a MATRIX), b (a relation, a function, a form of MAT), numbers, expressions, constants of DATA -/
abbrev LDT := Nat × Int32 × Int32 × List Int32 × List (List SOp) × List (Int32 × Int32 × Nat)
section SP2
variable (T : Nat → Int32) (n : Nat)
def pMt (p : Nat) : PR Int32 := if isM (chr T n p) then .ok (p + 1, chr T n p - 80) else .error p
def pVar (p : Nat) : PR Int32 := if isV (chr T n p) then .ok (p + 1, chr T n p - 65) else .error p
def pFn (p : Nat) : PR Int32 := if isF (chr T n p) then .ok (p + 1, chr T n p - 65) else .error p
def pExt (p : Nat) : PR Int32 := if chr T n p - 48 < 1 then .error p else if chr T n p - 48 ≤ 6 then .ok (p + 1, chr T n p - 48) else .error p
def pTgt (p : Nat) : PR (Int32 × List (List SOp)) :=
  if isM (chr T n p) then bnd (pCh T n 40 (p + 1)) fun p1 _ => bnd (dSum T n false 8 p1 1) fun p2 e => bnd (pCh T n 44 p2) fun p3 _ => bnd (dSum T n false 8 p3 1) fun p4 f => bnd (pCh T n 41 p4) fun p5 _ => .ok (p5, 26 + (chr T n p - 80), [e, f])
  else bnd (pVar T n p) fun p1 a => .ok (p1, a, [])
def pRel (p : Nat) : PR Int32 :=
  if chr T n p = 60 then (if chr T n (p + 1) = 61 then .ok (p + 2, 3) else if chr T n (p + 1) = 62 then .ok (p + 2, 5) else .ok (p + 1, 1))
  else if chr T n p = 61 then .ok (p + 1, 0)
  else if chr T n p = 62 then (if chr T n (p + 1) = 61 then .ok (p + 2, 4) else .ok (p + 1, 2))
  else .error p
def pJmpL : Nat → Nat → List Int32 → PR (List Int32)
  | 0, p, acc => .ok (p, acc)
  | k + 1, p, acc => if chr T n p = 44 then bnd (pLN T n (p + 1)) fun p1 v => pJmpL k p1 (acc ++ [v]) else .ok (p, acc)
def pJmps (p : Nat) : PR (List Int32) := bnd (pLN T n p) fun p1 v => pJmpL T n 3 p1 [v]
def pCon (p : Nat) : PR (Int32 × Int32 × Nat) :=
  if chr T n p = 45 then bnd (pNum T n (p + 1)) fun p1 v => .ok (p1, 1, v.1, v.2) else bnd (pNum T n p) fun p1 v => .ok (p1, 0, v.1, v.2)
def pConL : Nat → Nat → List (Int32 × Int32 × Nat) → PR (List (Int32 × Int32 × Nat))
  | 0, p, acc => .ok (p, acc)
  | k + 1, p, acc => if chr T n p = 44 then bnd (pCon T n (p + 1)) fun p1 v => pConL k p1 (acc ++ [v]) else .ok (p, acc)
def pCons (p : Nat) : PR (List (Int32 × Int32 × Nat)) := bnd (pCon T n p) fun p1 v => pConL T n 5 p1 [v]
def pGro (p : Nat) : PR (List (List SOp)) :=
  if p = n then .ok (p, []) else bnd (pWd T n [83, 84, 69, 80] p) fun p1 _ => bnd (dSum T n false 8 p1 0) fun p2 e => .ok (p2, [e])
/-- what stands behind = of a MAT: the form, the matrices, the expression -/
def pSrc (p : Nat) : PR (Int32 × List Int32 × List (List SOp)) :=
  if chr T n p = 40 then bnd (pCh T n 40 p) fun p1 _ => bnd (dSum T n false 8 p1 1) fun p2 e => bnd (pWd T n [41, 42] p2) fun p3 _ => bnd (pMt T n p3) fun p4 m => .ok (p4, 4, [m], [e])
  else if chr T n p = 67 then bnd (pWd T n [67, 79, 78] p) fun p1 _ => .ok (p1, 1, [], [])
  else if chr T n p = 73 then bnd (pWd T n [73, 68, 78] p) fun p1 _ => .ok (p1, 2, [], [])
  else if chr T n p = 84 then bnd (pWd T n [84, 82, 78, 40] p) fun p1 _ => bnd (pMt T n p1) fun p2 m => bnd (pCh T n 41 p2) fun p3 _ => .ok (p3, 3, [m], [])
  else if chr T n p = 90 then bnd (pWd T n [90, 69, 82] p) fun p1 _ => .ok (p1, 0, [], [])
  else bnd (pMt T n p) fun p1 m =>
    if chr T n p1 = 42 then bnd (pMt T n (p1 + 1)) fun p2 m2 => .ok (p2, 8, [m, m2], [])
    else if chr T n p1 = 43 then bnd (pMt T n (p1 + 1)) fun p2 m2 => .ok (p2, 6, [m, m2], [])
    else if chr T n p1 = 45 then bnd (pMt T n (p1 + 1)) fun p2 m2 => .ok (p2, 7, [m, m2], [])
    else .ok (p1, 5, [m], [])
def pRest (kind p : Nat) : PR LDT :=
  match kind with
  | 0 => bnd (pTgt T n p) fun p1 t => bnd (pCh T n 61 p1) fun p2 _ => bnd (dSum T n false 8 p2 0) fun p3 e => .ok (p3, 0, t.1, 0, [], t.2 ++ [e], [])
  | 1 => bnd (dSum T n false 8 p 0) fun p1 e => .ok (p1, 1, 0, 0, [], [e], [])
  | 2 => bnd (dSum T n false 8 p 0) fun p1 e => bnd (pRel T n p1) fun p2 r => bnd (dSum T n false 8 p2 0) fun p3 f => bnd (pWd T n [84, 72, 69, 78] p3) fun p4 _ => bnd (pLN T n p4) fun p5 v => .ok (p5, 2, 0, r, [v], [e, f], [])
  | 3 => bnd (pLN T n p) fun p1 v => .ok (p1, 3, 0, 0, [v], [], [])
  | 4 => bnd (dSum T n true 8 p 0) fun p1 e => bnd (pWd T n [71, 79, 84, 79] p1) fun p2 _ => bnd (pJmps T n p2) fun p3 vs => .ok (p3, 4, 0, 0, vs, [e], [])
  | 5 => bnd (pLN T n p) fun p1 v => .ok (p1, 5, 0, 0, [v], [], [])
  | 6 => .ok (p, 6, 0, 0, [], [], [])
  | 7 => bnd (pVar T n p) fun p1 a => bnd (pCh T n 61 p1) fun p2 _ => bnd (dSum T n false 8 p2 0) fun p3 e => bnd (pWd T n [84, 79] p3) fun p4 _ => bnd (dSum T n false 8 p4 0) fun p5 f => bnd (pGro T n p5) fun p6 g => .ok (p6, 7, a, 0, [], [e, f] ++ g, [])
  | 8 => bnd (pVar T n p) fun p1 a => .ok (p1, 8, a, 0, [], [], [])
  | 9 => bnd (pTgt T n p) fun p1 t => .ok (p1, 9, t.1, 0, [], t.2, [])
  | 10 => bnd (pCons T n p) fun p1 cs => .ok (p1, 10, 0, 0, [], [], cs)
  | 11 => .ok (p, 11, 0, 0, [], [], [])
  | 12 => bnd (pMt T n p) fun p1 a => bnd (pCh T n 40 p1) fun p2 _ => bnd (pExt T n p2) fun p3 r => bnd (pCh T n 44 p3) fun p4 _ => bnd (pExt T n p4) fun p5 c => bnd (pCh T n 41 p5) fun p6 _ => .ok (p6, 12, a, 0, [r, c], [], [])
  | 13 => bnd (pFn T n p) fun p1 b => bnd (pCh T n 40 p1) fun p2 _ => bnd (pVar T n p2) fun p3 a => bnd (pCh T n 41 p3) fun p4 _ => bnd (pCh T n 61 p4) fun p5 _ => bnd (dSum T n false 8 p5 0) fun p6 e => .ok (p6, 13, a, b, [], [e], [])
  | 14 => bnd (pMt T n p) fun p1 a => bnd (pCh T n 61 p1) fun p2 _ => bnd (pSrc T n p2) fun p3 r => .ok (p3, 14, a, r.1, r.2.1, r.2.2, [])
  | 15 => .ok (n, 15, 0, 0, [], [], [])
  | _ => .ok (p, 16, 0, 0, [], [], [])
end SP2
/-- the words of the statements, as the class has them -/
def kwW : List (List Int32) := [[76, 69, 84], [80, 82, 73, 78, 84], [73, 70], [71, 79, 84, 79], [79, 78], [71, 79, 83, 85, 66], [82, 69, 84, 85, 82, 78], [70, 79, 82], [78, 69, 88, 84], [82, 69, 65, 68], [68, 65, 84, 65], [82, 69, 83, 84, 79, 82, 69], [68, 73, 77], [68, 69, 70, 70, 78], [77, 65, 84], [82, 69, 77], [69, 78, 68]]
theorem kwW_ok : ∀ k, k < 17 → bytS.getD (wdS.getD k 0) [] = kwW.getD k [] ∧ wdS.getD k 0 < 44 := by decide +kernel
section SP3
variable (T : Nat → Int32) (n : Nat)
/-- how many of the characters of w stand from p on -/
def pSh : List Int32 → Nat → Nat
  | [], _ => 0
  | c :: r, p => if chr T n p = c then pSh r (p + 1) + 1 else 0
def pKwL (p : Nat) : List (List Int32) → Nat → Nat → PR Nat
  | [], _, m => .error (p + m)
  | w :: r, k, m => if pSh T n w p = w.length then .ok (p + w.length, k) else pKwL p r (k + 1) (max m (pSh T n w p))
def pKw (p : Nat) : PR Nat := pKwL T n p kwW 0 0
/-- a whole line: its number, and none or a statement -/
def pLine : PR (Int32 × Option LDT) :=
  bnd (pLN T n 0) fun p v => if p = n then .ok (p, v, none) else bnd (pKw T n p) fun p1 k => bnd (pRest T n k p1) fun p2 d => if p2 = n then .ok (p2, v, some d) else .error p2
end SP3
