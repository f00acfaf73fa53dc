/-! the mathematical parser: over the characters T of a line of length n; places are numbers -/
def chr (T : Nat → Int32) (n p : Nat) : Int32 := if p < n then T p else -1
def isD (c : Int32) : Bool := decide (48 ≤ c) && decide (c ≤ 57)
def isM (c : Int32) : Bool := decide (80 ≤ c) && decide (c ≤ 82)
def isV (c : Int32) : Bool := decide (65 ≤ c) && decide (c ≤ 90) && !isM c
def isF (c : Int32) : Bool := decide (65 ≤ c) && decide (c ≤ 67)
/-- an operation: which (as the class counts them), its operand, and for a numeral how many places are behind the point -/
abbrev SOp := Nat × Int32 × Nat
section SP
variable (T : Nat → Int32) (n : Nat)
def pCh (c : Int32) (p : Nat) : PR Unit := if chr T n p = c then .ok (p + 1, ()) else .error p
def pWd : List Int32 → Nat → PR Unit
  | [], p => .ok (p, ())
  | c :: r, p => if chr T n p = c then pWd r (p + 1) else .error p
def pLN (p : Nat) : PR Int32 :=
  if isD (chr T n p) = false then .error p
  else if isD (chr T n (p + 1)) = false then (if 0 < chr T n p - 48 then .ok (p + 1, chr T n p - 48) else .error (p + 1))
  else if isD (chr T n (p + 2)) = false then (if 0 < (chr T n p - 48) * 10 + chr T n (p + 1) - 48 then .ok (p + 2, (chr T n p - 48) * 10 + chr T n (p + 1) - 48) else .error (p + 2))
  else if ((chr T n p - 48) * 10 + chr T n (p + 1) - 48) * 10 + chr T n (p + 2) - 48 = 0 then .error (p + 2)
  else .ok (p + 3, ((chr T n p - 48) * 10 + chr T n (p + 1) - 48) * 10 + chr T n (p + 2) - 48)
/-- digits, at most k: where it stops, the value, how many -/
def pDg : Nat → Nat → Int32 → Nat → Nat × Int32 × Nat
  | 0, p, v, c => (p, v, c)
  | k + 1, p, v, c => if isD (chr T n p) then pDg k (p + 1) (v * 10 + chr T n p - 48) (c + 1) else (p, v, c)
def pNum (p : Nat) : PR (Int32 × Nat) :=
  if isD (chr T n p) = false then .error p
  else if chr T n (pDg T n 6 p 0 0).1 = 46 then
    (if isD (chr T n ((pDg T n 6 p 0 0).1 + 1)) = false then .error ((pDg T n 6 p 0 0).1 + 1)
    else .ok ((pDg T n 3 ((pDg T n 6 p 0 0).1 + 1) (pDg T n 6 p 0 0).2.1 0).1, (pDg T n 3 ((pDg T n 6 p 0 0).1 + 1) (pDg T n 6 p 0 0).2.1 0).2.1, (pDg T n 3 ((pDg T n 6 p 0 0).1 + 1) (pDg T n 6 p 0 0).2.1 0).2.2))
  else .ok ((pDg T n 6 p 0 0).1, (pDg T n 6 p 0 0).2.1, 0)
/-- does a function's name begin here, of a first letter c -/
def pNm (on : Bool) (op p : Nat) : Bool :=
  let c := chr T n p
  if c = 65 then decide (chr T n (p + 1) = 66)
  else if c = 70 then decide (chr T n (p + 1) = 78)
  else if c = 73 then decide (chr T n (p + 1) = 78)
  else if c = 83 then decide (chr T n (p + 1) = 71) && (!on || decide (0 < op) || decide (chr T n (p + 2) = 78))
  else false
abbrev PS := Nat → Nat → PR (List SOp)
def dBr (S : PS) (p op : Nat) : PR (List SOp) :=
  if 6 ≤ op then .error p else bnd (pCh T n 40 p) fun p1 _ => bnd (S p1 (op + 1)) fun p2 os => bnd (pCh T n 41 p2) fun p3 _ => .ok (p3, os)
def dEl (S : PS) (p op : Nat) : PR (List SOp) :=
  if 6 ≤ op then .error p
  else bnd (pCh T n 40 (p + 1)) fun p1 _ => bnd (S p1 (op + 1)) fun p2 os => bnd (pCh T n 44 p2) fun p3 _ => bnd (S p3 (op + 1)) fun p4 qs => bnd (pCh T n 41 p4) fun p5 _ => .ok (p5, os ++ qs ++ [(2, chr T n p - 80, 0)])
def dCall (S : PS) (p op : Nat) : PR (List SOp) :=
  if 6 ≤ op then .error (p + 1)
  else if chr T n p = 65 then bnd (pWd T n [66, 83] (p + 1)) fun p1 _ => bnd (dBr T n S p1 op) fun p2 os => .ok (p2, os ++ [(9, 0, 0)])
  else if chr T n p = 73 then bnd (pWd T n [78, 84] (p + 1)) fun p1 _ => bnd (dBr T n S p1 op) fun p2 os => .ok (p2, os ++ [(10, 0, 0)])
  else if chr T n p = 83 then bnd (pWd T n [71, 78] (p + 1)) fun p1 _ => bnd (dBr T n S p1 op) fun p2 os => .ok (p2, os ++ [(11, 0, 0)])
  else bnd (pWd T n [78] (p + 1)) fun p1 _ => if isF (chr T n p1) = false then .error p1 else bnd (dBr T n S (p1 + 1) op) fun p2 os => .ok (p2, (12, chr T n p1 - 65, 0) :: os ++ [(13, chr T n p1 - 65, 0)])
def dPart (on : Bool) (S : PS) (p op : Nat) : PR (List SOp) :=
  if isD (chr T n p) then bnd (pNum T n p) fun p1 v => .ok (p1, [(0, v.1, v.2)])
  else if chr T n p = 40 then dBr T n S p op
  else if isM (chr T n p) then dEl T n S p op
  else if pNm T n on op p then dCall T n S p op
  else if isV (chr T n p) then .ok (p + 1, [(1, chr T n p - 65, 0)])
  else .error p
def dPowL (on : Bool) (S : PS) : Nat → Nat → Nat → List SOp → PR (List SOp)
  | 0, p, _, acc => .ok (p, acc)
  | k + 1, p, op, acc => if chr T n p = 94 then bnd (dPart T n on S (p + 1) op) fun p1 os => dPowL on S k p1 op (acc ++ os ++ [(8, 0, 0)]) else .ok (p, acc)
def dPow (on : Bool) (S : PS) (p op : Nat) : PR (List SOp) := bnd (dPart T n on S p op) fun p1 os => dPowL T n on S 60 p1 op os
def dPrL (on : Bool) (S : PS) : Nat → Nat → Nat → List SOp → PR (List SOp)
  | 0, p, _, acc => .ok (p, acc)
  | k + 1, p, op, acc => if chr T n p = 42 ∨ chr T n p = 47 then bnd (dPow T n on S (p + 1) op) fun p1 os => dPrL on S k p1 op (acc ++ os ++ [(if chr T n p = 42 then 6 else 7, 0, 0)]) else .ok (p, acc)
def dPr (on : Bool) (S : PS) (p op : Nat) : PR (List SOp) := bnd (dPow T n on S p op) fun p1 os => dPrL T n on S 60 p1 op os
def dSumL (on : Bool) (S : PS) : Nat → Nat → Nat → List SOp → PR (List SOp)
  | 0, p, _, acc => .ok (p, acc)
  | k + 1, p, op, acc => if chr T n p = 43 ∨ chr T n p = 45 then bnd (dPr T n on S (p + 1) op) fun p1 os => dSumL on S k p1 op (acc ++ os ++ [(if chr T n p = 43 then 4 else 5, 0, 0)]) else .ok (p, acc)
def dSumB (on : Bool) (S : PS) (p op : Nat) : PR (List SOp) :=
  if chr T n p = 45 then bnd (dPr T n on S (p + 1) op) fun p1 os => dSumL T n on S 60 p1 op (os ++ [(3, 0, 0)])
  else bnd (dPr T n on S p op) fun p1 os => dSumL T n on S 60 p1 op os
def dSum (on : Bool) : Nat → PS
  | 0, p, _ => .error p
  | d + 1, p, op => dSumB T n on (dSum on d) p op
end SP
