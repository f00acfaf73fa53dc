theorem smF_okd (me : Nat → Nat → UInt64) (x y i j : Nat) : ∀ (n k : Nat) (acc v : UInt64), okd acc → smF me x y i j n k acc = some v → okd v
  | 0, k, acc, v, ha, h => by rw [← Option.some.inj h]; exact ha
  | n + 1, k, acc, v, ha, h => by
    unfold smF at h
    cases h1 : kpF (FP.dmul (me x ((i - 1) * 6 + (k - 1))) (me y ((k - 1) * 6 + (j - 1)))) with
    | none => rw [h1] at h; cases h
    | some q =>
      rw [h1] at h
      have h : (kpF (FP.dadd acc q)).bind (fun r => smF me x y i j n (k + 1) r) = some v := h
      cases h2 : kpF (FP.dadd acc q) with
      | none => rw [h2] at h; cases h
      | some r =>
        rw [h2] at h
        have h3 := kpF_some h2
        exact smF_okd me x y i j n (k + 1) r v (by rw [h3.1]; exact h3.2) h
/-- the class's form of a MAT of kind b -/
def fmN (b : Nat) : Nat := 1100 + (if b < 3 then b else if b < 5 then b + 4 else b - 2)
theorem cForm_N {b : Nat} (h : b < 9) : cForm (iN b) = fmN b := by
  rcases (by omega : b = 0 ∨ b = 1 ∨ b = 2 ∨ b = 3 ∨ b = 4 ∨ b = 5 ∨ b = 6 ∨ b = 7 ∨ b = 8) with e | e | e | e | e | e | e | e | e <;> subst e <;> decide
section CEA
variable {A0 A : Mem} {va : Nat → UInt64} {ft : Nat} {mr mc : Nat → Nat} {x y i j : Nat} {sc : UInt64} {K : UInt64 → Mem → Prop}
theorem en_all {b : Nat} (hb : b < 9) (hW : WC A0) (hM : MxA A0 mr mc) (hx : x < 3) (hy : y < 3) (hR : enR mr mc b x y i j) (hsc : okd sc) (h : CvS A0 va ft A) (k : oKE A0 va ft (entF (fun m => gD A0 (16 + m)) mc b sc x y i j) K) : wp_Ca_entry 8 (fmN b) (12 + x) (12 + y) sc (iN i) (iN j) A K := by
  unfold entF at k
  rcases (by omega : b = 0 ∨ b = 1 ∨ b = 2 ∨ b = 3 ∨ b = 4 ∨ b = 5 ∨ b = 6 ∨ b = 7 ∨ b = 8) with e | e | e | e | e | e | e | e | e <;> subst e
  · rw [if_pos rfl] at k
    exact en_0 hW hM hx hy hR hsc h k
  · rw [if_neg (by decide), if_pos rfl] at k
    exact en_1 hW hM hx hy hR hsc h k
  · rw [if_neg (by decide), if_neg (by decide), if_pos rfl] at k
    exact en_2 hW hM hx hy hR hsc h k
  · rw [if_neg (by decide), if_neg (by decide), if_neg (by decide), if_pos rfl] at k
    exact en_3 hW hM hx hy hR hsc h k
  · rw [if_neg (by decide), if_neg (by decide), if_neg (by decide), if_neg (by decide), if_pos rfl] at k
    exact en_4 hW hM hx hy hR hsc h k
  · rw [if_neg (by decide), if_neg (by decide), if_neg (by decide), if_neg (by decide), if_neg (by decide), if_pos rfl] at k
    exact en_5 hW hM hx hy hR hsc h k
  · rw [if_neg (by decide), if_neg (by decide), if_neg (by decide), if_neg (by decide), if_neg (by decide), if_neg (by decide), if_pos rfl] at k
    exact en_6 hW hM hx hy hR hsc h k
  · rw [if_neg (by decide), if_neg (by decide), if_neg (by decide), if_neg (by decide), if_neg (by decide), if_neg (by decide), if_neg (by decide), if_pos rfl] at k
    exact en_7 hW hM hx hy hR hsc h k
  · rw [if_neg (by decide), if_neg (by decide), if_neg (by decide), if_neg (by decide), if_neg (by decide), if_neg (by decide), if_neg (by decide), if_neg (by decide)] at k
    exact en_8 hW hM hx hy hR hsc h k
theorem okd_ent {b : Nat} {v : UInt64} (hb : b < 9) (hM : MxA A0 mr mc) (hx : x < 3) (hy : y < 3) (hR : enR mr mc b x y i j) (hv : entF (fun m => gD A0 (16 + m)) mc b sc x y i j = some v) : okd v := by
  obtain ⟨r1, r2, r3, r4, -⟩ := hR
  unfold entF at hv
  rcases (by omega : b = 0 ∨ b = 1 ∨ b = 2 ∨ b = 3 ∨ b = 4 ∨ b = 5 ∨ b = 6 ∨ b = 7 ∨ b = 8) with e | e | e | e | e | e | e | e | e <;> subst e
  · rw [if_pos rfl] at hv
    rw [← Option.some.inj hv]; exact okd_0
  · rw [if_neg (by decide), if_pos rfl] at hv
    rw [← Option.some.inj hv]; exact okd_1
  · rw [if_neg (by decide), if_neg (by decide), if_pos rfl] at hv
    rw [← Option.some.inj hv]; split
    · exact okd_1
    · exact okd_0
  · rw [if_neg (by decide), if_neg (by decide), if_neg (by decide), if_pos rfl] at hv
    rw [← Option.some.inj hv]; exact (hM x hx).2.2.2.2 _ (by omega)
  · rw [if_neg (by decide), if_neg (by decide), if_neg (by decide), if_neg (by decide), if_pos rfl] at hv
    have := kpF_some hv; rw [this.1]; exact this.2
  · rw [if_neg (by decide), if_neg (by decide), if_neg (by decide), if_neg (by decide), if_neg (by decide), if_pos rfl] at hv
    rw [← Option.some.inj hv]; exact (hM x hx).2.2.2.2 _ (by omega)
  · rw [if_neg (by decide), if_neg (by decide), if_neg (by decide), if_neg (by decide), if_neg (by decide), if_neg (by decide), if_pos rfl] at hv
    have := kpF_some hv; rw [this.1]; exact this.2
  · rw [if_neg (by decide), if_neg (by decide), if_neg (by decide), if_neg (by decide), if_neg (by decide), if_neg (by decide), if_neg (by decide), if_pos rfl] at hv
    have := kpF_some hv; rw [this.1]; exact this.2
  · rw [if_neg (by decide), if_neg (by decide), if_neg (by decide), if_neg (by decide), if_neg (by decide), if_neg (by decide), if_neg (by decide), if_neg (by decide)] at hv
    exact smF_okd _ _ _ _ _ _ _ _ _ okd_0 hv
end CEA
