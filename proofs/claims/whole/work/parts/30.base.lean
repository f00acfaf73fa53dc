/-! phase (c): the pure part. Numbers, memories, results of parses -/
def iN (n : Nat) : Int32 := Int32.ofNat n
theorem iN_add (a b : Nat) : iN a + iN b = iN (a + b) := (Int32.ofNat_add a b).symm
theorem iN_sub {a b : Nat} (h : b ≤ a) : iN a - iN b = iN (a - b) := (Int32.ofNat_sub a b h).symm
theorem iN_mul (a b : Nat) : iN a * iN b = iN (a * b) := (Int32.ofNat_mul a b).symm
theorem iN_le {a b : Nat} (ha : a < 2147483648) (hb : b < 2147483648) : (iN a ≤ iN b) = (a ≤ b) := propext (Int32.ofNat_le_iff_le ha hb)
theorem iN_lt {a b : Nat} (ha : a < 2147483648) (hb : b < 2147483648) : (iN a < iN b) = (a < b) := propext (Int32.ofNat_lt_iff_lt ha hb)
theorem iN_cl {a : Nat} (h : a < 2147483648) : (iN a).toNatClampNeg = a := Int32.toNatClampNeg_ofNat_of_lt h
theorem iN_eq {a b : Nat} (ha : a < 2147483648) (hb : b < 2147483648) : (iN a = iN b) = (a = b) :=
  propext ⟨fun h => by
    have h1 := congrArg Int32.toNatClampNeg h
    rwa [iN_cl ha, iN_cl hb] at h1, fun h => by rw [h]⟩
theorem iN_in {a m : Nat} (h : a < m) (hm : a < 2147483648) : vp_in (iN a) m := by
  unfold vp_in
  rw [iN_cl hm, show (0 : Int32) = iN 0 from rfl, iN_lt hm (by omega)]
  omega
theorem iN_1 (a : Nat) : iN a + 1 = iN (a + 1) := iN_add a 1
theorem iN_m1 {a : Nat} (h : 1 ≤ a) : iN a + (-1) = iN (a - 1) := by
  have e : iN a = iN (a - 1) + 1 := by rw [iN_1]; congr 1; omega
  rw [e, Int32.add_assoc, show (1 : Int32) + -1 = 0 from rfl, Int32.add_zero]
theorem iN_s1 {a : Nat} (h : 1 ≤ a) : iN a - 1 = iN (a - 1) := iN_sub h
theorem iN_toInt {a : Nat} (h : a < 2147483648) : (iN a).toInt = (a : Int) := Int32.toInt_ofNat_of_lt h
theorem iN_of {x : Int32} (h : 0 ≤ x) : x = iN x.toNatClampNeg := by
  apply Int32.toInt_inj.mp
  have h1 : x.toInt = (x.toNatClampNeg : Int) := by
    have h2 := Int32.le_iff_toInt_le.mp h
    have h3 : (0 : Int32).toInt = 0 := rfl
    rw [h3] at h2
    exact (Int.toNat_of_nonneg h2).symm
  rw [iN_toInt (Int32.toNatClampNeg_lt x)]
  exact h1
/-! memories -/
theorem gI_eq {A : Mem} {o k : Nat} {v : Int32} : gI (sI A o k v) o k = v := by simp [gI, sI, up2]
theorem gI_ne {A : Mem} {o k a b : Nat} {v : Int32} (h : a ≠ o ∨ b ≠ k) : gI (sI A o k v) a b = gI A a b := by
  simp only [gI, sI, up2]
  rw [if_neg (by omega)]
theorem gI_row {A : Mem} {o k a : Nat} {v : Int32} (h : a ≠ o) : gI (sI A o k v) a = gI A a := funext fun _ => gI_ne (Or.inl h)
theorem gD_eq {A : Mem} {o k : Nat} {v : UInt64} : gD (sD A o k v) o k = v := by simp [gD, sD, up2]
theorem gD_ne {A : Mem} {o k a b : Nat} {v : UInt64} (h : a ≠ o ∨ b ≠ k) : gD (sD A o k v) a b = gD A a b := by
  simp only [gD, sD, up2]
  rw [if_neg (by omega)]
theorem gD_row {A : Mem} {o k a : Nat} {v : UInt64} (h : a ≠ o) : gD (sD A o k v) a = gD A a := funext fun _ => gD_ne (Or.inl h)
theorem gR_eq {A : Mem} {o k v : Nat} : gR (sR A o k v) o k = v := by simp [gR, sR, up2]
theorem gR_ne {A : Mem} {o k a b v : Nat} (h : a ≠ o ∨ b ≠ k) : gR (sR A o k v) a b = gR A a b := by
  simp only [gR, sR, up2]
  rw [if_neg (by omega)]
theorem gL_eq {A : Mem} {o k : Nat} {v : Int64} : gL (sL A o k v) o k = v := by simp [gL, sL, up2]
theorem gR_sI {A : Mem} {o k : Nat} {v : Int32} : gR (sI A o k v) = gR A := rfl
theorem gD_sI {A : Mem} {o k : Nat} {v : Int32} : gD (sI A o k v) = gD A := rfl
theorem gL_sI {A : Mem} {o k : Nat} {v : Int32} : gL (sI A o k v) = gL A := rfl
theorem gI_sD {A : Mem} {o k : Nat} {v : UInt64} : gI (sD A o k v) = gI A := rfl
theorem gR_sD {A : Mem} {o k : Nat} {v : UInt64} : gR (sD A o k v) = gR A := rfl
theorem gL_sD {A : Mem} {o k : Nat} {v : UInt64} : gL (sD A o k v) = gL A := rfl
theorem gI_sR {A : Mem} {o k v : Nat} : gI (sR A o k v) = gI A := rfl
theorem gD_sR {A : Mem} {o k v : Nat} : gD (sR A o k v) = gD A := rfl
theorem gL_sR {A : Mem} {o k v : Nat} : gL (sR A o k v) = gL A := rfl
def us {α : Type} (f : Nat → α) (k : Nat) (v : α) : Nat → α := fun j => if j = k then v else f j
theorem us_eq {α : Type} {f : Nat → α} {k : Nat} {v : α} : us f k v k = v := by simp [us]
theorem us_ne {α : Type} {f : Nat → α} {k j : Nat} {v : α} (h : j ≠ k) : us f k v j = f j := by simp [us, h]
/-- the list xs stands in f from its start on -/
def lsI {α : Type} (f : Nat → α) (xs : List α) : Prop := ∀ (k : Nat) (x : α), xs[k]? = some x → f k = x
theorem lsI_nil {α : Type} (f : Nat → α) : lsI f [] := fun k x h => by simp at h
theorem lsI_push {α : Type} {f g : Nat → α} {xs : List α} {x : α} (h : lsI f xs) (hg : ∀ k, k < xs.length → g k = f k) (hx : g xs.length = x) : lsI g (xs ++ [x]) := by
  intro k y hk
  by_cases hl : k < xs.length
  · rw [List.getElem?_append_left hl] at hk
    rw [hg k hl]
    exact h k y hk
  · rw [List.getElem?_append_right (by omega)] at hk
    by_cases h0 : k = xs.length
    · subst h0
      simp at hk
      rw [hx, hk]
    · rw [List.getElem?_eq_none (by simp; omega)] at hk
      cases hk
theorem lsI_cg {α : Type} {f g : Nat → α} {xs : List α} (h : lsI f xs) (hg : ∀ k, k < xs.length → g k = f k) : lsI g xs := by
  intro k y hk
  rw [hg k (List.getElem?_eq_some_iff.mp hk).1]
  exact h k y hk
/-! results of a parse: where it went on and what it found, or the place where there is no line any more -/
abbrev PR (α : Type) := Except Nat (Nat × α)
def OKP {α : Type} (r : PR α) (g : Nat → α → Prop) (b : Nat → Prop) : Prop := match r with
  | .ok (p, a) => g p a
  | .error q => b q
def bnd {α β : Type} (r : PR α) (f : Nat → α → PR β) : PR β := match r with
  | .ok (p, a) => f p a
  | .error q => .error q
theorem OKP_bnd {α β : Type} {r : PR α} {f : Nat → α → PR β} {g : Nat → β → Prop} {b : Nat → Prop} : OKP (bnd r f) g b = OKP r (fun p a => OKP (f p a) g b) b := by
  cases r <;> rfl
theorem OKP_mono {α : Type} {r : PR α} {g g' : Nat → α → Prop} {b b' : Nat → Prop} (h : OKP r g b) (hg : ∀ p a, g p a → g' p a) (hb : ∀ q, b q → b' q) : OKP r g' b' := by
  cases r with
  | error q => exact hb q h
  | ok x => exact hg x.1 x.2 h
theorem OKP_and {α : Type} {r : PR α} {g g' : Nat → α → Prop} {b b' : Nat → Prop} (h : OKP r g b) (h' : OKP r g' b') : OKP r (fun p a => g p a ∧ g' p a) (fun q => b q ∧ b' q) := by
  cases r with
  | error q => exact ⟨h, h'⟩
  | ok x => exact ⟨h, h'⟩
