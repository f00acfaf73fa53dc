theorem en_rng {mr mc : Nat → Nat} {b t x y r c : Nat} (hb : b < 9) (ht : mr t ≤ 6 ∧ mc t ≤ 6) (hx : mr x ≤ 6 ∧ mc x ≤ 6) (hy : mr y ≤ 6 ∧ mc y ≤ 6) (ok : mtOK mr mc b t x y) (r1 : 1 ≤ r) (r2 : r ≤ mtR mr mc b t x) (c1 : 1 ≤ c) (c2 : c ≤ mtC mr mc b t x y) : enR mr mc b x y r c := by
  unfold mtOK at ok
  unfold mtR at r2
  unfold mtC at c2
  unfold enR
  rcases (by omega : b = 0 ∨ b = 1 ∨ b = 2 ∨ b = 3 ∨ b = 4 ∨ b = 5 ∨ b = 6 ∨ b = 7 ∨ b = 8) with e | e | e | e | e | e | e | e | e <;> subst e <;> simp at ok r2 c2 ⊢ <;> omega
/-- the letter and the form of a MAT's line -/
theorem CLv_mat {A : Mem} {L : Nat} {v : Int32} {dd : LDT} (h : CLv A L v dd) (hd : dd.1 = 14) : gI A L 3 = dd.2.1 ∧ gR A L 7 = cForm dd.2.2.1 := by
  obtain ⟨s, q, hl, hs, -⟩ := h
  have he : isEl dd = false := by
    unfold isEl
    rw [hd, show ((14 : Nat) == 0 || (14 : Nat) == 9) = false from rfl, Bool.false_and]
  refine ⟨?_, hs.2.2.trans (hl.2.2.2.2.2.2 hd)⟩
  rw [hs.1 3 (by omega) (by omega) (by omega), hl.2.2.2.1 (by omega), he]
  rfl
