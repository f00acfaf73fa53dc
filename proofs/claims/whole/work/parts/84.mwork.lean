def ElM (A0 : Mem) (mr mc : Nat → Nat) (el : Nat → UInt64 → UInt64 → EV) : Prop := ∀ m, m < 3 → gI A0 269 m = iN (mr m) ∧ gI A0 270 m = iN (mc m) ∧ mr m ≤ 6 ∧ mc m ≤ 6 ∧
  ∀ x y, match plM (mr m) (mc m) (FP.d2l x) (FP.d2l y) with
    | some i => ∃ w, el m x y = .ok w ∧ dz w (gD A0 266 (m * 36 + i)) ∧ okd w
    | none => el m x y = .error 5
def NmO (x : SOp) : Prop := x.1 = 0 → ∃ v, x.2.1 = iN v ∧ x.2.2 ≤ 3 ∧ v * 10 ^ (3 - x.2.2) < 1000000000
def CdM (A0 : Mem) (p : Nat) (os : List SOp) : Prop := p + (enc os).length + 4 ≤ 4000 ∧ lsI (fun j => gI A0 257 (p + j)) (enc os ++ [14])
/-- a function that is called was found before -/
def FnE (φ : Nat → Bool) : List SOp → Prop
  | [] => True
  | x :: r => (x.1 = 13 → φ x.2.1.toNatClampNeg = true) ∧ ((x.1 = 12 → φ x.2.1.toNatClampNeg = true) → FnE φ r)
def FbM (A0 : Mem) (fb : Nat → Option (Nat × List SOp)) : Prop := ∀ f, f < 3 → (¬ 0 ≤ gI A0 268 f ∧ fb f = none) ∨
  ∃ (k i p : Nat) (os : List SOp), k < 24 ∧ gI A0 268 f = iN k ∧ gI A0 255 (k * 8 + 1) = iN i ∧ i < 26 ∧ gI A0 256 (k * 4) = iN p ∧ CdM A0 p os ∧ GdE os ∧ (∀ x, x ∈ os → NmO x) ∧ (∀ φ, FnE φ os) ∧ fb f = some (i, os)
def VrM (va vm : Nat → UInt64) : Prop := ∀ i, i < 26 → dz (va i) (vm i) ∧ okd (va i)
theorem lsI_pre {α : Type} {f : Nat → α} {xs ys : List α} (h : lsI f (xs ++ ys)) : lsI f xs ∧ lsI (fun j => f (xs.length + j)) ys := by
  refine ⟨fun k x hx => ?_, fun k x hx => ?_⟩
  · have := (List.getElem?_eq_some_iff.mp hx).1
    exact h k x (by rw [List.getElem?_append_left this]; exact hx)
  · exact h _ x (by rw [List.getElem?_append_right (by omega), Nat.add_sub_cancel_left]; exact hx)
theorem CdM_cons {A0 : Mem} {p : Nat} {x : SOp} {r : List SOp} (h : CdM A0 p (x :: r)) : p + (eO x).length + 4 ≤ 4000 ∧ lsI (fun j => gI A0 257 (p + j)) (eO x) ∧ CdM A0 (p + (eO x).length) r := by
  obtain ⟨h1, h2⟩ := h
  have e : enc (x :: r) = eO x ++ enc r := by simp [enc]
  rw [e] at h1 h2
  rw [List.length_append] at h1
  rw [List.append_assoc] at h2
  obtain ⟨h3, h4⟩ := lsI_pre h2
  refine ⟨by omega, h3, by omega, ?_⟩
  exact lsI_cg h4 (fun k _ => by rw [Nat.add_assoc])
theorem CdM_nil {A0 : Mem} {p : Nat} (h : CdM A0 p []) : gI A0 257 p = 14 ∧ p + 4 ≤ 4000 := ⟨h.2 0 14 rfl, h.1⟩
section MWK
variable {A0 A : Mem} {vm va : Nat → UInt64} {st : List UInt64} {cs : CSt} {base s : List UInt64} {mr mc : Nat → Nat} {el : Nat → UInt64 → UInt64 → EV} {fb : Nat → Option (Nat × List SOp)} {ca : Nat → UInt64 → EV}
/-- one operation that is no call -/
theorem m_op {x : SOp} {p n : Nat} {K : Int32 → Mem → Prop} (hW : MW A0) (hE : ElM A0 mr mc el) (hF : FbM A0 fb) (hv : VrM va vm) (h : EvM A0 vm st cs 0 A) (hz : dzL s base st) (hl : st.length < 200) (hO : okO x) (hN : NmO x) (h13 : x.1 ≠ 13) (hd : dpO x s.length = some n) (hp : p + (eO x).length + 4 ≤ 4000) (hc : lsI (fun j => gI A0 257 (p + j)) (eO x))
    (kk : oKR A0 vm base cs (opE va el (fun f => (fb f).isSome) ca x s) (p + (eO x).length) K) : gI A0 257 p ≠ 14 ∧ wp_Mo_operate 250 (gI A0 257 p) (iN p) A K := by
  obtain ⟨j, a, pl⟩ := x
  have hj : j < 14 := hO.1
  have two : (if 2 ≤ s.length then some (s.length - 1) else none) = some n → ∃ y w r, s = y :: w :: r := fun q => by
    cases s with
    | nil => simp at q
    | cons y s =>
      cases s with
      | nil => simp at q
      | cons w r => exact ⟨y, w, r, rfl⟩
  have one : (if 1 ≤ s.length then some s.length else none) = some n → ∃ y r, s = y :: r := fun q => by
    cases s with
    | nil => simp at q
    | cons y s => exact ⟨y, s, rfl⟩
  have e : j = 0 ∨ j = 1 ∨ j = 2 ∨ j = 3 ∨ j = 4 ∨ j = 5 ∨ j = 6 ∨ j = 7 ∨ j = 8 ∨ j = 9 ∨ j = 10 ∨ j = 11 ∨ j = 12 := by
    have : j ≠ 13 := h13
    omega
  rcases e with e | e | e | e | e | e | e | e | e | e | e | e | e <;> subst e
  · obtain ⟨v, hv1, hv2, hv3⟩ := hN rfl
    have hv1 : a = iN v := hv1
    have hv2 : pl ≤ 3 := hv2
    subst hv1
    have c0 : gI A0 257 p = 0 := hc 0 0 rfl
    rw [c0]
    rw [oq_0] at kk
    exact ⟨by decide, mo_0 hW h hz hl (by omega) (hc 1 _ rfl) (hc 2 _ rfl) hv2 hv3 kk⟩
  · obtain ⟨i, hi, he⟩ := hO.2.1 rfl
    have he : a = iN i := he
    subst he
    have c0 : gI A0 257 p = 1 := hc 0 1 rfl
    rw [c0]
    rw [oq_1, iN_cl (by omega)] at kk
    exact ⟨by decide, mo_1 hW h hz hl (by omega) (hc 1 _ rfl) hi (hv i hi).1 (hv i hi).2 kk⟩
  · obtain ⟨i, hi, he⟩ := hO.2.2 (Or.inl rfl)
    have he : a = iN i := he
    subst he
    obtain ⟨y, w, r, rfl⟩ := two hd
    have c0 : gI A0 257 p = 2 := hc 0 2 rfl
    rw [c0]
    rw [oq_2, iN_cl (by omega)] at kk
    obtain ⟨g0, g1, g2, g3, g4⟩ := hE i hi
    exact ⟨by decide, mo_2 hW h hz (by omega) (hc 1 _ rfl) hi g0 g1 g2 g3 (g4 w y) kk⟩
  · obtain ⟨y, r, rfl⟩ := one hd
    have c0 : gI A0 257 p = 8 := hc 0 8 rfl
    rw [c0]
    rw [oq_3] at kk
    have ho : okd y := by obtain ⟨_, _, _, _, ho, _⟩ := hz; exact ho
    exact ⟨by decide, mo_one (j := 3) (f := FP.dneg) hW h hz (by omega) (Or.inl rfl) rfl (okd_neg ho) kk⟩
  · obtain ⟨y, w, r, rfl⟩ := two hd
    have c0 : gI A0 257 p = iN (4 - 1) := hc 0 3 rfl
    rw [c0]
    rw [oq_4] at kk
    exact ⟨by decide, mo_two (j := 4) hW h hz (by omega) (by omega) (by omega) (by rw [if_pos rfl]; exact kk)⟩
  · obtain ⟨y, w, r, rfl⟩ := two hd
    have c0 : gI A0 257 p = iN (5 - 1) := hc 0 4 rfl
    rw [c0]
    rw [oq_5] at kk
    exact ⟨by decide, mo_two (j := 5) hW h hz (by omega) (by omega) (by omega) (by rw [if_neg (by decide), if_pos rfl]; exact kk)⟩
  · obtain ⟨y, w, r, rfl⟩ := two hd
    have c0 : gI A0 257 p = iN (6 - 1) := hc 0 5 rfl
    rw [c0]
    rw [oq_6] at kk
    exact ⟨by decide, mo_two (j := 6) hW h hz (by omega) (by omega) (by omega) (by rw [if_neg (by decide), if_neg (by decide), if_pos rfl]; exact kk)⟩
  · obtain ⟨y, w, r, rfl⟩ := two hd
    have c0 : gI A0 257 p = iN (7 - 1) := hc 0 6 rfl
    rw [c0]
    rw [oq_7] at kk
    exact ⟨by decide, mo_two (j := 7) hW h hz (by omega) (by omega) (by omega) (by rw [if_neg (by decide), if_neg (by decide), if_neg (by decide), if_pos rfl]; exact kk)⟩
  · obtain ⟨y, w, r, rfl⟩ := two hd
    have c0 : gI A0 257 p = iN (8 - 1) := hc 0 7 rfl
    rw [c0]
    rw [oq_8] at kk
    exact ⟨by decide, mo_two (j := 8) hW h hz (by omega) (by omega) (by omega) (by rw [if_neg (by decide), if_neg (by decide), if_neg (by decide), if_neg (by decide)]; exact kk)⟩
  · obtain ⟨y, r, rfl⟩ := one hd
    have c0 : gI A0 257 p = 9 := hc 0 9 rfl
    rw [c0]
    rw [oq_9] at kk
    have ho : okd y := by obtain ⟨_, _, _, _, ho, _⟩ := hz; exact ho
    exact ⟨by decide, mo_one (j := 9) (f := szF) hW h hz (by omega) (Or.inr (Or.inl rfl)) rfl (okd_sz ho) kk⟩
  · obtain ⟨y, r, rfl⟩ := one hd
    have c0 : gI A0 257 p = 10 := hc 0 10 rfl
    rw [c0]
    rw [oq_10] at kk
    have ho : okd y := by obtain ⟨_, _, _, _, ho, _⟩ := hz; exact ho
    exact ⟨by decide, mo_one (j := 10) (f := flF) hW h hz (by omega) (Or.inr (Or.inr (Or.inl rfl))) rfl (okd_fl ho) kk⟩
  · obtain ⟨y, r, rfl⟩ := one hd
    have c0 : gI A0 257 p = 11 := hc 0 11 rfl
    rw [c0]
    rw [oq_11] at kk
    exact ⟨by decide, mo_one (j := 11) (f := sgF) hW h hz (by omega) (Or.inr (Or.inr (Or.inr rfl))) rfl (okd_sg y) kk⟩
  · obtain ⟨i, hi, he⟩ := hO.2.2 (Or.inr (Or.inl rfl))
    have he : a = iN i := he
    subst he
    have c0 : gI A0 257 p = 12 := hc 0 12 rfl
    rw [c0]
    rw [oq_12, iN_cl (by omega)] at kk
    refine ⟨by decide, mo_12 (fd := (fb i).isSome) hW h hz (by omega) (hc 1 _ rfl) hi ?_ kk⟩
    rcases hF i hi with ⟨q1, q2⟩ | ⟨k, i', p', os, q0, q1, q2, q3, q4, q5, q6, q7, q8, q9⟩
    · rw [q2]; simp [q1]
    · rw [q9, q1]
      have : (0 : Int32) ≤ iN k := by rw [show (0 : Int32) = iN 0 from rfl, iN_le (by omega) (by omega)]; omega
      simp [this]
end MWK
