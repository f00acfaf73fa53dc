/-! in ON the S of SGN and the G of GOTO: both parsers refuse at the same place -/
section ON
variable {T : Nat → Int32} {n : Nat}
theorem dBr_cg {S S' : PS} {p op : Nat} (h : ∀ p, S p (op + 1) = S' p (op + 1)) : dBr T n S p op = dBr T n S' p op := by
  unfold dBr
  simp only [h]
theorem dEl_cg {S S' : PS} {p op : Nat} (h : ∀ p, S p (op + 1) = S' p (op + 1)) : dEl T n S p op = dEl T n S' p op := by
  unfold dEl
  simp only [h]
theorem dCall_cg {S S' : PS} {p op : Nat} (h : ∀ p, S p (op + 1) = S' p (op + 1)) : dCall T n S p op = dCall T n S' p op := by
  unfold dCall
  simp only [dBr_cg h]
theorem pNm2_on {op p : Nat} (h : 0 < op) : pNm2 T n true op p = pNm T n true op p := by
  unfold pNm2 pNm
  simp [h]
theorem ePart_on {S S' : PS} {p op : Nat} (h : ∀ p, S p (op + 1) = S' p (op + 1)) (ho : 0 < op) : ePart T n true S p op = dPart T n true S' p op := by
  unfold ePart dPart
  rw [pNm2_on ho, dBr_cg h, dEl_cg h, dCall_cg h]
theorem ePowL_on {S S' : PS} {op : Nat} (h : ∀ p, S p (op + 1) = S' p (op + 1)) (ho : 0 < op) : ∀ k p acc, ePowL T n true S k p op acc = dPowL T n true S' k p op acc := by
  intro k
  induction k with
  | zero => intro p acc; rfl
  | succ k ih =>
    intro p acc
    unfold ePowL dPowL
    simp only [ePart_on h ho, ih]
theorem ePow_on {S S' : PS} {op p : Nat} (h : ∀ p, S p (op + 1) = S' p (op + 1)) (ho : 0 < op) : ePow T n true S p op = dPow T n true S' p op := by
  unfold ePow dPow
  simp only [ePart_on h ho, ePowL_on h ho]
theorem ePrL_on {S S' : PS} {op : Nat} (h : ∀ p, S p (op + 1) = S' p (op + 1)) (ho : 0 < op) : ∀ k p acc, ePrL T n true S k p op acc = dPrL T n true S' k p op acc := by
  intro k
  induction k with
  | zero => intro p acc; rfl
  | succ k ih =>
    intro p acc
    unfold ePrL dPrL
    simp only [ePow_on h ho, ih]
theorem ePr_on {S S' : PS} {op p : Nat} (h : ∀ p, S p (op + 1) = S' p (op + 1)) (ho : 0 < op) : ePr T n true S p op = dPr T n true S' p op := by
  unfold ePr dPr
  simp only [ePow_on h ho, ePrL_on h ho]
theorem eSumL_on {S S' : PS} {op : Nat} (h : ∀ p, S p (op + 1) = S' p (op + 1)) (ho : 0 < op) : ∀ k p acc, eSumL T n true S k p op acc = dSumL T n true S' k p op acc := by
  intro k
  induction k with
  | zero => intro p acc; rfl
  | succ k ih =>
    intro p acc
    unfold eSumL dSumL
    simp only [ePr_on h ho, ih]
theorem eSum_on : ∀ d p op, 0 < op → eSum T n true d p op = dSum T n true d p op := by
  intro d
  induction d with
  | zero => intro p op _; rfl
  | succ d ih =>
    intro p op ho
    unfold eSum dSum eSumB dSumB
    have h : ∀ p, eSum T n true d p (op + 1) = dSum T n true d p (op + 1) := fun p => ih p (op + 1) (by omega)
    simp only [ePr_on h ho, eSumL_on h ho]
/-- the same, or the one goes on before a G without O and the other refuses behind it -/
def rON (T : Nat → Int32) (n : Nat) (r r' : PR (List SOp)) : Prop := r' = r ∨ ∃ p1 os, r = .ok (p1, os) ∧ chr T n p1 = 71 ∧ chr T n (p1 + 1) ≠ 79 ∧ r' = .error (p1 + 1)
theorem rON_bnd {r r' : PR (List SOp)} {f f' : Nat → List SOp → PR (List SOp)} (h : rON T n r r') (hf : ∀ p os, rON T n (f p os) (f' p os)) (h71 : ∀ p os, chr T n p = 71 → ∃ os', f p os = .ok (p, os')) : rON T n (bnd r f) (bnd r' f') := by
  rcases h with rfl | ⟨p1, os, rfl, h1, h2, rfl⟩
  · cases r' with
    | error q => exact Or.inl rfl
    | ok z => exact hf z.1 z.2
  · obtain ⟨os', e⟩ := h71 p1 os h1
    exact Or.inr ⟨p1, os', e, h1, h2, rfl⟩
theorem rPart {S S' : PS} {p : Nat} (h : ∀ p, S p (0 + 1) = S' p (0 + 1)) : rON T n (dPart T n true S' p 0) (ePart T n true S p 0) := by
  unfold ePart dPart
  rw [dBr_cg h, dEl_cg h, dCall_cg h]
  split
  · exact Or.inl rfl
  · split
    · exact Or.inl rfl
    · split
      · exact Or.inl rfl
      · by_cases c : chr T n p = 83 ∧ chr T n (p + 1) = 71 ∧ chr T n (p + 2) ≠ 79 ∧ chr T n (p + 2) ≠ 78
        · obtain ⟨c1, c2, c3, c4⟩ := c
          have e1 : pNm T n true 0 p = false := by
            unfold pNm
            simp [c1, c2, c4]
          have e2 : pNm2 T n true 0 p = true := by
            unfold pNm2
            simp [c1, c2, c3]
          rw [e1, e2, if_pos rfl, if_neg (by decide), if_pos (by rw [c1]; decide)]
          refine Or.inr ⟨p + 1, _, rfl, c2, c3, ?_⟩
          unfold dCall
          rw [if_neg (by omega), if_neg (by rw [c1]; decide), if_neg (by rw [c1]; decide), if_pos c1, pWd, if_pos c2, pWd, if_neg (by exact c4)]
          rfl
        · have e1 : pNm2 T n true 0 p = pNm T n true 0 p := by
            unfold pNm2 pNm
            by_cases c1 : chr T n p = 83
            · by_cases c2 : chr T n (p + 1) = 71
              · by_cases c3 : chr T n (p + 2) = 79
                · simp [c1, c2, c3]
                · by_cases c4 : chr T n (p + 2) = 78
                  · simp [c1, c2, c4]
                  · exact absurd ⟨c1, c2, c3, c4⟩ c
              · simp [c1, c2]
            · simp [c1]
          rw [e1]
          exact Or.inl rfl
theorem rPowL {S S' : PS} (h : ∀ p, S p (0 + 1) = S' p (0 + 1)) : ∀ k p acc, rON T n (dPowL T n true S' k p 0 acc) (ePowL T n true S k p 0 acc) := by
  intro k
  induction k with
  | zero => intro p acc; exact Or.inl rfl
  | succ k ih =>
    intro p acc
    unfold ePowL dPowL
    split
    · refine rON_bnd (rPart h) (fun p1 os => ih _ _) (fun p1 os h71 => ?_)
      cases k with
      | zero => exact ⟨_, rfl⟩
      | succ k =>
        unfold dPowL
        rw [if_neg (by rw [h71]; decide)]
        exact ⟨_, rfl⟩
    · exact Or.inl rfl
theorem L71 {S : PS} {k p : Nat} {acc : List SOp} (h71 : chr T n p = 71) : (∃ os', dPowL T n true S k p 0 acc = .ok (p, os')) ∧ (∃ os', dPrL T n true S k p 0 acc = .ok (p, os')) ∧ ∃ os', dSumL T n true S k p 0 acc = .ok (p, os') := by
  cases k with
  | zero => exact ⟨⟨_, rfl⟩, ⟨_, rfl⟩, ⟨_, rfl⟩⟩
  | succ k =>
    unfold dPowL dPrL dSumL
    rw [if_neg (by rw [h71]; decide), if_neg (by rw [h71]; decide), if_neg (by rw [h71]; decide)]
    exact ⟨⟨_, rfl⟩, ⟨_, rfl⟩, ⟨_, rfl⟩⟩
theorem rPow {S S' : PS} {p : Nat} (h : ∀ p, S p (0 + 1) = S' p (0 + 1)) : rON T n (dPow T n true S' p 0) (ePow T n true S p 0) :=
  rON_bnd (rPart h) (fun p1 os => rPowL h 60 p1 os) (fun p1 os h71 => (L71 h71).1)
theorem rPrL {S S' : PS} (h : ∀ p, S p (0 + 1) = S' p (0 + 1)) : ∀ k p acc, rON T n (dPrL T n true S' k p 0 acc) (ePrL T n true S k p 0 acc) := by
  intro k
  induction k with
  | zero => intro p acc; exact Or.inl rfl
  | succ k ih =>
    intro p acc
    unfold ePrL dPrL
    split
    · exact rON_bnd (rPow h) (fun p1 os => ih _ _) (fun p1 os h71 => (L71 h71).2.1)
    · exact Or.inl rfl
theorem rPr {S S' : PS} {p : Nat} (h : ∀ p, S p (0 + 1) = S' p (0 + 1)) : rON T n (dPr T n true S' p 0) (ePr T n true S p 0) :=
  rON_bnd (rPow h) (fun p1 os => rPrL h 60 p1 os) (fun p1 os h71 => (L71 h71).2.1)
theorem rSumL {S S' : PS} (h : ∀ p, S p (0 + 1) = S' p (0 + 1)) : ∀ k p acc, rON T n (dSumL T n true S' k p 0 acc) (eSumL T n true S k p 0 acc) := by
  intro k
  induction k with
  | zero => intro p acc; exact Or.inl rfl
  | succ k ih =>
    intro p acc
    unfold eSumL dSumL
    split
    · exact rON_bnd (rPr h) (fun p1 os => ih _ _) (fun p1 os h71 => (L71 h71).2.2)
    · exact Or.inl rfl
theorem rSum {p : Nat} : rON T n (dSum T n true 8 p 0) (eSum T n true 8 p 0) := by
  unfold eSum dSum eSumB dSumB
  have h : ∀ p, eSum T n true 7 p (0 + 1) = dSum T n true 7 p (0 + 1) := fun p => eSum_on 7 p (0 + 1) (by omega)
  split
  · exact rON_bnd (rPr h) (fun p1 os => rSumL h 60 p1 _) (fun p1 os h71 => (L71 h71).2.2)
  · exact rON_bnd (rPr h) (fun p1 os => rSumL h 60 p1 _) (fun p1 os h71 => (L71 h71).2.2)
theorem pOn_eq (p : Nat) : pOn2 T n p = pRest T n 4 p := by
  unfold pOn2 pRest
  rcases rSum (T := T) (n := n) (p := p) with h | ⟨p1, os, h1, h2, h3, h4⟩
  · simp only [h]
  · simp only [h1, h4, bnd_ok, bnd_er]
    rw [pWd, if_pos h2, pWd, if_neg h3]
    rfl
end ON
