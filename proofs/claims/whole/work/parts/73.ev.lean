/-! the runner's expressions: values as the class has them; an error is a fault's number -/
abbrev EV := Except Nat UInt64
def ftE (f : Nat) : Option UInt64 → EV
  | none => .error f
  | some x => .ok x
def psE (s : List UInt64) : EV → Except Nat (List UInt64)
  | .error f => .error f
  | .ok v => .ok (v :: s)
def opE (va : Nat → UInt64) (el : Nat → UInt64 → UInt64 → EV) (fd : Nat → Bool) (ca : Nat → UInt64 → EV) (x : SOp) (s : List UInt64) : Except Nat (List UInt64) :=
  match x.1 with
  | 0 => .ok (FP.ddiv (FP.i2d (th x.2.1 x.2.2)) 4652007308841189376 :: s)
  | 1 => .ok (va x.2.1.toNatClampNeg :: s)
  | 2 => match s with
    | y :: x0 :: r => psE r (el x.2.1.toNatClampNeg x0 y)
    | _ => .error 0
  | 12 => if fd x.2.1.toNatClampNeg then .ok s else .error 3
  | 13 => match s with
    | x0 :: r => psE r (ca x.2.1.toNatClampNeg x0)
    | _ => .error 0
  | 3 => match s with
    | x0 :: r => .ok (FP.dneg x0 :: r)
    | _ => .error 0
  | 9 => match s with
    | x0 :: r => .ok (szF x0 :: r)
    | _ => .error 0
  | 10 => match s with
    | x0 :: r => .ok (flF x0 :: r)
    | _ => .error 0
  | 11 => match s with
    | x0 :: r => .ok (sgF x0 :: r)
    | _ => .error 0
  | k => match s with
    | y :: x0 :: r => psE r (ftE 4 (if k = 4 then kpF (FP.dadd x0 y) else if k = 5 then kpF (FP.dsub x0 y) else if k = 6 then kpF (FP.dmul x0 y) else if k = 7 then dvF x0 y else pwF x0 y))
    | _ => .error 0
def evE (va : Nat → UInt64) (el : Nat → UInt64 → UInt64 → EV) (fd : Nat → Bool) (ca : Nat → UInt64 → EV) : List SOp → List UInt64 → EV
  | [], x :: _ => .ok x
  | [], [] => .error 0
  | o :: r, s => match opE va el fd ca o s with
    | .error f => .error f
    | .ok s' => evE va el fd ca r s'
def evL (fb : Nat → Option (Nat × List SOp)) (el : Nat → UInt64 → UInt64 → EV) : Nat → (Nat → UInt64) → List SOp → EV
  | 0, va, os => evE va el (fun f => (fb f).isSome) (fun f _ => match fb f with
    | none => .error 3
    | some _ => .error 2) os []
  | d + 1, va, os => evE va el (fun f => (fb f).isSome) (fun f x => match fb f with
    | none => .error 3
    | some b => evL fb el d (us va b.1 x) b.2) os []
/-- a stack stands in a row, its top first in the list -/
def stD (f : Nat → UInt64) : List UInt64 → Prop
  | [] => True
  | x :: s => f s.length = x ∧ stD f s
theorem stD_cg {f g : Nat → UInt64} : ∀ {s : List UInt64}, stD f s → (∀ k, k < s.length → g k = f k) → stD g s
  | [], _, _ => trivial
  | x :: s, h, hg => ⟨(hg s.length (by simp)).trans h.1, stD_cg h.2 (fun k hk => hg k (by simp only [List.length_cons]; omega))⟩
theorem stD_us {f : Nat → UInt64} {s : List UInt64} {k : Nat} {v : UInt64} (h : stD f s) (hk : s.length ≤ k) : stD (us f k v) s :=
  stD_cg h (fun j hj => us_ne (by omega))
/-- the class's memory within an evaluation that began in A0: the variables va, the stack s, the fault ft -/
def EvS (A0 : Mem) (va : Nat → UInt64) (s : List UInt64) (ft : Nat) (A : Mem) : Prop :=
  (gL A = gL A0 ∧ (∀ o, o ≠ 8 → gI A o = gI A0 o) ∧ (∀ k, k ≠ 8 → gI A 8 k = gI A0 8 k) ∧ (∀ o, o ≠ 8 → gR A o = gR A0 o) ∧ (∀ k, k ≠ 0 → gR A 8 k = gR A0 8 k) ∧ (∀ o, o ≠ 9 → o ≠ 11 → gD A o = gD A0 o)) ∧
  (gD A 9 = va ∧ gR A 8 0 = 1200 + ft ∧ ft < 7) ∧ (gI A 8 8 = iN s.length ∧ s.length ≤ 240 ∧ stD (gD A 11) s ∧ (∀ x, x ∈ s → okd x)) ∧ ∀ i, okd (va i)
section EVS
variable {A0 A : Mem} {va : Nat → UInt64} {s : List UInt64} {ft : Nat}
theorem gI_us2 {A : Mem} {o k : Nat} {v : Int32} : gI (sI A o k v) o = us (gI A o) k v := funext fun j => by
  by_cases h : j = k
  · rw [h, gI_eq, us_eq]
  · rw [gI_ne (Or.inr h), us_ne h]
theorem gD_us2 {A : Mem} {o k : Nat} {v : UInt64} : gD (sD A o k v) o = us (gD A o) k v := funext fun j => by
  by_cases h : j = k
  · rw [h, gD_eq, us_eq]
  · rw [gD_ne (Or.inr h), us_ne h]
theorem EvS_top (h : EvS A0 va s ft A) {s' : List UInt64} (hl : s'.length ≤ 240) (hs : stD (gD A 11) s') (ho : ∀ x, x ∈ s' → okd x) : EvS A0 va s' ft (sI A 8 8 (iN s'.length)) := by
  obtain ⟨⟨a1, a2, a3, a4, a5, a6⟩, ⟨b1, b2, b3⟩, -, d⟩ := h
  refine ⟨⟨a1, fun o ho => (gI_row ho).trans (a2 o ho), fun k hk => (gI_ne (Or.inr hk)).trans (a3 k hk), a4, a5, a6⟩, ⟨b1, b2, b3⟩, ⟨gI_eq, hl, hs, ho⟩, d⟩
theorem EvS_cell (h : EvS A0 va s ft A) {k : Nat} {v : UInt64} (hk : s.length ≤ k) : EvS A0 va s ft (sD A 11 k v) := by
  obtain ⟨⟨a1, a2, a3, a4, a5, a6⟩, ⟨b1, b2, b3⟩, ⟨c1, c2, c3, c4⟩, d⟩ := h
  refine ⟨⟨a1, a2, a3, a4, a5, fun o h1 h2 => (gD_row h2).trans (a6 o h1 h2)⟩, ⟨(gD_row (by omega)).trans b1, b2, b3⟩, ⟨c1, c2, ?_, c4⟩, d⟩
  rw [gD_us2]; exact stD_us c3 hk
theorem EvS_fail (h : EvS A0 va s ft A) {f : Nat} (hf : f < 7) : EvS A0 va s f (sR A 8 0 (1200 + f)) := by
  obtain ⟨⟨a1, a2, a3, a4, a5, a6⟩, ⟨b1, b2, b3⟩, ⟨c1, c2, c3, c4⟩, d⟩ := h
  refine ⟨⟨a1, a2, a3, fun o ho => ?_, fun k hk => (gR_ne (Or.inr hk)).trans (a5 k hk), a6⟩, ⟨b1, gR_eq, hf⟩, ⟨c1, c2, c3, c4⟩, d⟩
  exact (funext fun k => gR_ne (Or.inl ho)).trans (a4 o ho)
theorem EvS_set (h : EvS A0 va s ft A) {p : Nat} {v : UInt64} (hv : okd v) : EvS A0 (us va p v) s ft (sD A 9 p v) := by
  obtain ⟨⟨a1, a2, a3, a4, a5, a6⟩, ⟨b1, b2, b3⟩, ⟨c1, c2, c3, c4⟩, d⟩ := h
  refine ⟨⟨a1, a2, a3, a4, a5, fun o h1 h2 => (gD_row h1).trans (a6 o h1 h2)⟩, ⟨?_, b2, b3⟩, ⟨c1, c2, ?_, c4⟩, fun i => ?_⟩
  · rw [gD_us2, b1]
  · rw [gD_row (by omega)]; exact c3
  · by_cases hi : i = p
    · rw [hi, us_eq]; exact hv
    · rw [us_ne hi]; exact d i
theorem EvS_7 (hW : WC A0) (h : EvS A0 va s ft A) : gR A 8 7 = 11 := (h.1.2.2.2.2.1 7 (by omega)).trans hW.2.2.1.2.2.2.2.2.2
theorem EvS_1 (hW : WC A0) (h : EvS A0 va s ft A) : gR A 8 1 = 9 := (h.1.2.2.2.2.1 1 (by omega)).trans hW.2.2.1.1
theorem n_push {K : Mem → Prop} {x : UInt64} (hW : WC A0) (h : EvS A0 va s ft A) (hx : okd x) (hl : s.length < 240) (k : ∀ A', EvS A0 va (x :: s) ft A' → K A') : wp_Ca_push 8 x A K := by
  unfold wp_Ca_push
  rw [EvS_7 hW h, h.2.2.1.1, show Int32.ofNat (al 11) = iN 240 from rfl, iN_le (by omega) (by omega), iN_cl (by omega)]
  refine ⟨rfl, rfl, fun h' => by omega, fun _ => ⟨iN_in (m := 240) hl (by omega), fun A4 e => ?_⟩⟩
  rw [e]
  rw [show gI (sD A 11 s.length x) 8 8 = iN s.length from h.2.2.1.1, iN_1]
  refine k _ ?_
  have h1 := EvS_cell (v := x) h (Nat.le_refl s.length)
  refine EvS_top (s' := x :: s) h1 (by simp only [List.length_cons]; omega) ⟨gD_eq, h1.2.2.1.2.2.1⟩ (fun y hy => ?_)
  rcases List.mem_cons.mp hy with e | e
  · rw [e]; exact hx
  · exact h.2.2.1.2.2.2 y e
theorem n_pop {K : UInt64 → Mem → Prop} {x : UInt64} (hW : WC A0) (h : EvS A0 va (x :: s) ft A) (k : okd x → ∀ A', EvS A0 va s ft A' → K x A') : wp_Ca_pop 8 A K := by
  have hl := h.2.2.1.2.1
  simp only [List.length_cons] at hl
  unfold wp_Ca_pop
  rw [h.2.2.1.1, show (0 : Int32) = iN 0 from rfl, show (1 : Int32) = iN 1 from rfl, iN_lt (by omega) (by simp only [List.length_cons]; omega), List.length_cons, iN_sub (by omega), Nat.add_sub_cancel, gI_eq, iN_cl (by omega)]
  refine ⟨rfl, fun _ => ?_, fun h' => by omega⟩
  rw [show gR (sI A 8 8 (iN s.length)) 8 7 = 11 from EvS_7 (A := A) hW h]
  refine ⟨rfl, iN_in (m := 240) (by omega) (by omega), ?_⟩
  rw [show gD (sI A 8 8 (iN s.length)) 11 s.length = x from h.2.2.1.2.2.1.1]
  refine k (h.2.2.1.2.2.2 x (by simp)) _ (EvS_top h (by omega) h.2.2.1.2.2.1.2 (fun y hy => h.2.2.1.2.2.2 y (by simp [hy])))
/-- taking from any stack -/
theorem n_popA {K : UInt64 → Mem → Prop} (hW : WC A0) (h : EvS A0 va s ft A) (k : ∀ x s' A', okd x → EvS A0 va s' ft A' → K x A') : wp_Ca_pop 8 A K := by
  cases s with
  | nil =>
    unfold wp_Ca_pop
    rw [h.2.2.1.1]
    exact ⟨rfl, fun h' => absurd h' (by decide), fun _ => k _ _ _ okd_0 h⟩
  | cons x s => exact n_pop hW h (fun hx A' h' => k x s A' hx h')
theorem n_fail {K : Mem → Prop} {f : Nat} (h : EvS A0 va s 0 A) (hf : f < 7) (k : ∀ A', EvS A0 va s f A' → K A') : wp_Ca_fail 8 (1200 + f) A K := by
  unfold wp_Ca_fail
  rw [h.2.1.2.1]
  exact ⟨rfl, Or.inr (Or.inr ⟨by omega, by omega⟩), fun h' => absurd rfl h', fun _ => k _ (EvS_fail h hf)⟩
theorem n_failA {K : Mem → Prop} {f : Nat} (h : EvS A0 va s ft A) (h0 : ft ≠ 0) (k : ∀ A', EvS A0 va s ft A' → K A') : wp_Ca_fail 8 f A K := by
  unfold wp_Ca_fail
  have h3 := h.2.1.2.2
  rw [h.2.1.2.1]
  refine ⟨rfl, Or.inr (Or.inr ⟨by omega, by omega⟩), fun _ => k _ ?_, fun h' => by omega⟩
  exact EvS_fail h h.2.1.2.2
theorem n_fine {K : Bool → Mem → Prop} (h : EvS A0 va s ft A) (k1 : ft = 0 → K true A) (k2 : ft ≠ 0 → K false A) : wp_Ca_isFine 8 A K := by
  unfold wp_Ca_isFine
  have h3 := h.2.1.2.2
  rw [h.2.1.2.1]
  exact ⟨rfl, Or.inr (Or.inr ⟨by omega, by omega⟩), fun h' => k2 (by omega), fun h' => k1 (by omega)⟩
end EVS
