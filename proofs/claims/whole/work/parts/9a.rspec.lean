/-! a run, mathematically. Its state: variables; rows, columns and elements of the matrices; functions; loops; places to return to; how much is read; what was printed; the place due -/
abbrev RS := (Nat → UInt64) × (Nat → Nat) × (Nat → Nat) × (Nat → Nat → UInt64) × (Nat → Option (Nat × List SOp)) × List LoT × List Nat × Nat × List UInt64 × Nat
def rVa (s : RS) : Nat → UInt64 := s.1
def rMr (s : RS) : Nat → Nat := s.2.1
def rMc (s : RS) : Nat → Nat := s.2.2.1
def rMe (s : RS) : Nat → Nat → UInt64 := s.2.2.2.1
def rFb (s : RS) : Nat → Option (Nat × List SOp) := s.2.2.2.2.1
def rLp (s : RS) : List LoT := s.2.2.2.2.2.1
def rRt (s : RS) : List Nat := s.2.2.2.2.2.2.1
def rRd (s : RS) : Nat := s.2.2.2.2.2.2.2.1
def rPn (s : RS) : List UInt64 := s.2.2.2.2.2.2.2.2.1
def rDu (s : RS) : Nat := s.2.2.2.2.2.2.2.2.2
def uVa (s : RS) (x : Nat → UInt64) : RS := (x, s.2)
def uMx (s : RS) (r c : Nat → Nat) (e : Nat → Nat → UInt64) : RS := (s.1, r, c, e, s.2.2.2.2)
def uFb (s : RS) (x : Nat → Option (Nat × List SOp)) : RS := (s.1, s.2.1, s.2.2.1, s.2.2.2.1, x, s.2.2.2.2.2)
def uLp (s : RS) (x : List LoT) : RS := (s.1, s.2.1, s.2.2.1, s.2.2.2.1, s.2.2.2.2.1, x, s.2.2.2.2.2.2)
def uRt (s : RS) (x : List Nat) : RS := (s.1, s.2.1, s.2.2.1, s.2.2.2.1, s.2.2.2.2.1, s.2.2.2.2.2.1, x, s.2.2.2.2.2.2.2)
def uRd (s : RS) (x : Nat) : RS := (s.1, s.2.1, s.2.2.1, s.2.2.2.1, s.2.2.2.2.1, s.2.2.2.2.2.1, s.2.2.2.2.2.2.1, x, s.2.2.2.2.2.2.2.2)
def uPr (s : RS) (x : List UInt64) : RS := (s.1, s.2.1, s.2.2.1, s.2.2.2.1, s.2.2.2.2.1, s.2.2.2.2.2.1, s.2.2.2.2.2.2.1, s.2.2.2.2.2.2.2.1, x, s.2.2.2.2.2.2.2.2.2)
def uDu (s : RS) (x : Nat) : RS := (s.1, s.2.1, s.2.2.1, s.2.2.2.1, s.2.2.2.2.1, s.2.2.2.2.2.1, s.2.2.2.2.2.2.1, s.2.2.2.2.2.2.2.1, s.2.2.2.2.2.2.2.2.1, x)
/-- an element's value -/
def elS (mr mc : Nat → Nat) (me : Nat → Nat → UInt64) (m : Nat) (x y : UInt64) : EV :=
  match plM (mr m) (mc m) (FP.d2l x) (FP.d2l y) with
  | some i => .ok (me m i)
  | none => .error 5
def evS (s : RS) (os : List SOp) : EV := evL (rFb s) (elS (rMr s) (rMc s) (rMe s)) 3 (rVa s) os
def bnE {α : Type} (e : Except Nat α) (s : RS) (k : α → RS × Nat) : RS × Nat := match e with
  | .ok v => k v
  | .error f => (s, f)
def eX (d : LDT) (k : Nat) : List SOp := d.2.2.2.2.1.getD k []
def nX (d : LDT) (k : Nat) : Int32 := d.2.2.2.1.getD k 0
/-- a target's place in its matrix -/
def tgV (s : RS) (d : LDT) : Except Nat Nat :=
  if isEl d then (match evS s (eX d 0) with
    | .error f => .error f
    | .ok x => match evS s (eX d 1) with
      | .error f => .error f
      | .ok y => match plM (rMr s (d.2.1.toNatClampNeg - 26)) (rMc s (d.2.1.toNatClampNeg - 26)) (FP.d2l x) (FP.d2l y) with
        | some p => .ok p
        | none => .error 5)
  else .ok 0
def stS (s : RS) (d : LDT) (p : Nat) (v : UInt64) : RS :=
  if isEl d then uMx s (rMr s) (rMc s) (us (rMe s) (d.2.1.toNatClampNeg - 26) (us (rMe s (d.2.1.toNatClampNeg - 26)) p v)) else uVa s (us (rVa s) d.2.1.toNatClampNeg v)
def goS (P : PT) (n : Int32) (s : RS) : RS × Nat := match fnd P n 0 with
  | some j => (uDu s j, 0)
  | none => (s, 3)
/-- a relation of two numbers; x, y by their keys -/
def hoS (b : Nat) (x y : UInt64) : Bool :=
  if b = 0 then decide (FP.Core.dkey x = FP.Core.dkey y) else if b = 1 then decide (FP.Core.dkey x < FP.Core.dkey y) else if b = 2 then decide (FP.Core.dkey y < FP.Core.dkey x)
  else if b = 3 then decide (FP.Core.dkey x ≤ FP.Core.dkey y) else if b = 4 then decide (FP.Core.dkey y ≤ FP.Core.dkey x) else decide (FP.Core.dkey x ≠ FP.Core.dkey y)
def ovS (v lim st : UInt64) : Bool := if FP.Core.dkey st < 0 then decide (FP.Core.dkey v < FP.Core.dkey lim) else decide (FP.Core.dkey lim < FP.Core.dkey v)
/-- the first NEXT of a variable from place i on -/
def nxS (P : PT) (a : Int32) : Nat → Nat → Option Nat
  | 0, _ => none
  | n + 1, i => match P[i]? with
    | some e => if e.2.1 = 8 ∧ e.2.2.1 = a then some i else nxS P a n (i + 1)
    | none => none
def cuL (lp : List LoT) (a : Nat) : List LoT := match lfi lp a 0 with
  | some j => lp.take j
  | none => lp
def foS (P : PT) (here : Nat) (s : RS) (a : Nat) (x y z : UInt64) : RS × Nat :=
  if ovS x y z then (match nxS P (iN a) (P.length - (here + 1)) (here + 1) with
    | some k => (uDu (uLp (uVa s (us (rVa s) a x)) (cuL (rLp s) a)) (k + 1), 0)
    | none => (uLp (uVa s (us (rVa s) a x)) (cuL (rLp s) a), 2))
  else if (cuL (rLp s) a).length < 6 then (uLp (uVa s (us (rVa s) a x)) (cuL (rLp s) a ++ [(a, here, y, z)]), 0)
  else (uLp (uVa s (us (rVa s) a x)) (cuL (rLp s) a), 2)
def neS (s : RS) (a : Nat) : RS × Nat := match lfi (rLp s) a 0 with
  | none => (s, 2)
  | some j => match (rLp s)[j]? with
    | none => (s, 2)
    | some e => match kpF (FP.dadd (rVa s a) e.2.2.2) with
      | none => (uLp s ((rLp s).take (j + 1)), 4)
      | some v => if ovS v e.2.2.1 e.2.2.2 then (uVa (uLp s ((rLp s).take j)) (us (rVa s) a v), 0) else (uDu (uVa (uLp s ((rLp s).take (j + 1))) (us (rVa s) a v)) (e.2.1 + 1), 0)
def allE (ent : Nat → Nat → Option UInt64) (R C : Nat) : Bool := (List.range R).all fun r => (List.range C).all fun c => (ent (r + 1) (c + 1)).isSome
/-- the matrices that a MAT reads -/
def mX (d : LDT) (k : Nat) : Nat := (nX d k).toNatClampNeg
def maE (s : RS) (t b x y : Nat) (sc : UInt64) : RS × Nat :=
  if allE (entF (rMe s) (rMc s) b sc x y) (mtR (rMr s) (rMc s) b t x) (mtC (rMr s) (rMc s) b t x y) then
    (uMx s (us (rMr s) t (mtR (rMr s) (rMc s) b t x)) (us (rMc s) t (mtC (rMr s) (rMc s) b t x y)) (us (rMe s) t (dfl (entF (rMe s) (rMc s) b sc x y) (mtC (rMr s) (rMc s) b t x y) (mtR (rMr s) (rMc s) b t x + 1) 1)), 0)
  else (s, 4)
def mtB (mr mc : Nat → Nat) (b t x y : Nat) : Bool := if b < 2 then decide (0 < mr t) else if b = 2 then decide (0 < mr t ∧ mr t = mc t) else if b < 6 then decide (0 < mr x) else if b < 8 then decide (0 < mr x ∧ mr x = mr y ∧ mc x = mc y) else decide (0 < mr x ∧ 0 < mr y ∧ mc x = mr y)
theorem mtB_iff {mr mc : Nat → Nat} {b t x y : Nat} : mtB mr mc b t x y = true ↔ mtOK mr mc b t x y := by
  unfold mtB mtOK
  repeat' split
  all_goals simp
def maS (s : RS) (d : LDT) (t b : Nat) : RS × Nat :=
  if mtB (rMr s) (rMc s) b t (mX d 0) (mX d 1) then
    (if b = 4 then bnE (evS s (eX d 0)) s fun v => maE s t b (mX d 0) (mX d 1) v else maE s t b (mX d 0) (mX d 1) FP.dconst0)
  else (s, 6)
/-- one statement -/
def sTp (P : PT) (dat : List UInt64) (here : Nat) (d : LDT) (s : RS) : RS × Nat :=
  match d.1 with
  | 0 => bnE (tgV s d) s fun p => bnE (evS s (eX d (if isEl d then 2 else 0))) s fun v => (stS s d p v, 0)
  | 1 => bnE (evS s (eX d 0)) s fun v => (uPr s (rPn s ++ [v]), 0)
  | 2 => bnE (evS s (eX d 0)) s fun x => bnE (evS s (eX d 1)) s fun y => if hoS d.2.2.1.toNatClampNeg x y then goS P (nX d 0) s else (s, 0)
  | 3 => goS P (nX d 0) s
  | 4 => bnE (evS s (eX d 0)) s fun x => if 1 ≤ (FP.d2l x).toInt ∧ (FP.d2l x).toInt ≤ d.2.2.2.1.length then goS P (nX d ((FP.d2l x).toInt.toNat - 1)) s else (s, 1)
  | 5 => if (rRt s).length < 8 then (match fnd P (nX d 0) 0 with
      | some j => (uDu (uRt s (rRt s ++ [here + 1])) j, 0)
      | none => (s, 3)) else (s, 2)
  | 6 => if (rRt s).length = 0 then (s, 2) else (uDu (uRt s ((rRt s).take ((rRt s).length - 1))) ((rRt s).getD ((rRt s).length - 1) 0), 0)
  | 7 => bnE (evS s (eX d 0)) s fun x => bnE (evS s (eX d 1)) s fun y => bnE (if d.2.2.2.2.1.length ≤ 2 then .ok FP.dconst1 else evS s (eX d 2)) s fun z => foS P here s d.2.1.toNatClampNeg x y z
  | 8 => neS s d.2.1.toNatClampNeg
  | 9 => bnE (tgV s d) s fun p => if rRd s < dat.length then (uRd (stS s d p (dat.getD (rRd s) 0)) (rRd s + 1), 0) else (s, 3)
  | 11 => (uRd s 0, 0)
  | 12 => (uMx s (us (rMr s) d.2.1.toNatClampNeg (nX d 0).toNatClampNeg) (us (rMc s) d.2.1.toNatClampNeg (nX d 1).toNatClampNeg) (us (rMe s) d.2.1.toNatClampNeg (fun _ => FP.dconst0)), 0)
  | 13 => (uFb s (us (rFb s) d.2.2.1.toNatClampNeg (some (d.2.1.toNatClampNeg, eX d 0))), 0)
  | 14 => maS s d d.2.1.toNatClampNeg d.2.2.1.toNatClampNeg
  | 16 => (uDu s P.length, 0)
  | _ => (s, 0)
/-- at most n steps more: the state, the fault, the steps done, the last line -/
def rnS (P : PT) (dat : List UInt64) : Nat → Nat → Int32 → RS → RS × Nat × Nat × Int32
  | 0, st, la, s => if rDu s < P.length then (s, 2, st, la) else (s, 0, st, la)
  | n + 1, st, la, s => match P[rDu s]? with
    | none => (s, 0, st, la)
    | some e => if (sTp P dat (rDu s) e.2 (uDu s (rDu s + 1))).2 = 0 then rnS P dat n (st + 1) e.1 (sTp P dat (rDu s) e.2 (uDu s (rDu s + 1))).1 else ((sTp P dat (rDu s) e.2 (uDu s (rDu s + 1))).1, (sTp P dat (rDu s) e.2 (uDu s (rDu s + 1))).2, st + 1, e.1)
/-- the constants of DATA, in the lines' order -/
def datS (P : PT) : List UInt64 := P.flatMap fun e => if e.2.1 = 10 then e.2.2.2.2.2.2.map (fun c => FP.ddiv (FP.i2d (cCon c)) 4652007308841189376) else []
