/-- how an operation changes the height of the stack -/
def dpO (x : SOp) (n : Nat) : Option Nat :=
  if x.1 = 0 ∨ x.1 = 1 then some (n + 1)
  else if x.1 = 12 then some n
  else if x.1 = 3 ∨ x.1 = 9 ∨ x.1 = 10 ∨ x.1 = 11 ∨ x.1 = 13 then (if 1 ≤ n then some n else none)
  else (if 2 ≤ n then some (n - 1) else none)
def dpE : List SOp → Nat → Option Nat
  | [], n => some n
  | x :: r, n => (dpO x n).bind (dpE r)
def GdE (os : List SOp) : Prop := (∀ x, x ∈ os → okO x) ∧ os.length ≤ 60 ∧ dpE os 0 = some 1
theorem psE_ok {s : List UInt64} {e : EV} {l : List UInt64} (h : psE s e = .ok l) : l.length = s.length + 1 := by
  cases e with
  | error f => cases h
  | ok v => rw [← Except.ok.inj h]; rfl
theorem psE_er {s : List UInt64} {e : EV} {f : Nat} (h : psE s e = .error f) : e = .error f := by
  cases e with
  | error g => rw [Except.error.inj h]
  | ok v => cases h
theorem ftE_er {o : Option UInt64} {f g : Nat} (h : ftE f o = .error g) : g = f := by
  cases o with
  | none => exact (Except.error.inj h).symm
  | some v => cases h
section OPD
variable {va : Nat → UInt64} {el : Nat → UInt64 → UInt64 → EV} {fd : Nat → Bool} {ca : Nat → UInt64 → EV}
theorem opE_dp {x : SOp} {s : List UInt64} {n : Nat} (hO : okO x) (hd : dpO x s.length = some n) (hel : ∀ m u w, el m u w ≠ .error 0) (hca : ∀ f u, ca f u ≠ .error 0) :
    opE va el fd ca x s ≠ .error 0 ∧ ∀ l, opE va el fd ca x s = .ok l → l.length = n := by
  obtain ⟨j, a, pl⟩ := x
  have hj : j < 14 := hO.1
  have e : j = 0 ∨ j = 1 ∨ j = 2 ∨ j = 3 ∨ j = 4 ∨ j = 5 ∨ j = 6 ∨ j = 7 ∨ j = 8 ∨ j = 9 ∨ j = 10 ∨ j = 11 ∨ j = 12 ∨ j = 13 := by omega
  rcases e with e | e | e | e | e | e | e | e | e | e | e | e | e | e <;> subst e <;> simp [dpO] at hd
  · exact ⟨fun q => (by cases q), fun l q => by rw [← Except.ok.inj q]; exact hd⟩
  · exact ⟨fun q => (by cases q), fun l q => by rw [← Except.ok.inj q]; exact hd⟩
  · obtain ⟨y, s, rfl⟩ : ∃ y r, s = y :: r := by
      cases s with
      | nil => simp at hd
      | cons y r => exact ⟨y, r, rfl⟩
    obtain ⟨w, s, rfl⟩ : ∃ y r, s = y :: r := by
      cases s with
      | nil => simp at hd
      | cons y r => exact ⟨y, r, rfl⟩
    simp at hd
    exact ⟨fun q => hel _ _ _ (psE_er q), fun l q => (psE_ok q).trans hd⟩
  all_goals first
    | (obtain ⟨y, s, rfl⟩ : ∃ y r, s = y :: r := by
        cases s with
        | nil => simp at hd
        | cons y r => exact ⟨y, r, rfl⟩
       simp at hd
       first
       | exact ⟨fun q => (by cases q), fun l q => by rw [← Except.ok.inj q]; exact hd⟩
       | exact ⟨fun q => hca _ _ (psE_er q), fun l q => (psE_ok q).trans hd⟩
       | (obtain ⟨w, s, rfl⟩ : ∃ y r, s = y :: r := by
            cases s with
            | nil => simp at hd
            | cons y r => exact ⟨y, r, rfl⟩
          simp at hd
          exact ⟨fun q => absurd (ftE_er (psE_er q)) (by decide), fun l q => (psE_ok q).trans hd⟩))
    | (show (if fd _ then _ else _) ≠ _ ∧ _
       have hd : s.length = n := hd
       refine ⟨fun q => ?_, fun l q => ?_⟩
       · split at q <;> cases q
       · have q : (if fd a.toNatClampNeg then Except.ok s else Except.error 3) = Except.ok l := q
         split at q
         · rw [← Except.ok.inj q]; exact hd
         · cases q)
theorem evE_dp (hel : ∀ m u w, el m u w ≠ .error 0) (hca : ∀ f u, ca f u ≠ .error 0) : ∀ (os : List SOp) (s : List UInt64), (∀ x, x ∈ os → okO x) → dpE os s.length = some 1 → evE va el fd ca os s ≠ .error 0
  | [], x :: s, _, _ => fun q => (by cases q)
  | [], [], _, h => by simp [dpE] at h
  | x :: r, s, hO, hd => by
    unfold dpE at hd
    cases hx : dpO x s.length with
    | none => rw [hx] at hd; cases hd
    | some n =>
      rw [hx] at hd
      have h1 := opE_dp (va := va) (fd := fd) (hO x (by simp)) hx hel hca
      unfold evE
      cases ho : opE va el fd ca x s with
      | error f => intro q; rw [ho] at h1; exact h1.1 (by rw [Except.error.inj q])
      | ok l =>
        have hl := h1.2 l ho
        exact evE_dp hel hca r l (fun y hy => hO y (by simp [hy])) (by rw [hl]; exact hd)
end OPD
theorem evL_dp {fb : Nat → Option (Nat × List SOp)} {el : Nat → UInt64 → UInt64 → EV} (hel : ∀ m u w, el m u w ≠ .error 0) (hfb : ∀ f b, fb f = some b → GdE b.2) : ∀ (d : Nat) (va : Nat → UInt64) (os : List SOp), GdE os → evL fb el d va os ≠ .error 0
  | 0, va, os, h => evE_dp hel (fun f u => by
      show (match fb f with | none => _ | some _ => _) ≠ _
      cases fb f with
      | none => intro q; cases q
      | some b => intro q; cases q) os [] h.1 h.2.2
  | d + 1, va, os, h => evE_dp hel (fun f u => by
      show (match fb f with | none => _ | some _ => _) ≠ _
      cases hf : fb f with
      | none => intro q; cases q
      | some b => exact evL_dp hel hfb d _ _ (hfb f b hf)) os [] h.1 h.2.2
theorem elA_ne {A : Mem} {mr mc : Nat → Nat} (m : Nat) (u w : UInt64) : elA A mr mc m u w ≠ .error 0 := by
  unfold elA
  cases plM (mr m) (mc m) (FP.d2l u) (FP.d2l w) with
  | none => intro q; cases q
  | some i => intro q; cases q
