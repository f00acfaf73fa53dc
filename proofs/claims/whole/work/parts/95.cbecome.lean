section CBE
variable {A : Mem}
theorem n_become {t : Nat} {R C : Nat} {K : Mem → Prop} (hW : WC A) (ht : t < 3) (h0 : gI A 15 0 = iN R) (h1 : gI A 15 1 = iN C)
    (k : ∀ A', gL A' = gL A → gR A' = gR A → (∀ o, o ≠ 12 + t → gI A' o = gI A o) → gI A' (12 + t) 0 = iN R → gI A' (12 + t) 1 = iN C → (∀ o, o ≠ 16 + t → gD A' o = gD A o) → (∀ p, p < 36 → gD A' (16 + t) p = gD A 19 p) → K A') : wp_Mx_become (12 + t) 15 A K := by
  obtain ⟨k1, k2, k3⟩ := kd_m4 (m := t) (by omega)
  have e1 : ∀ B, gR B = gR A → gR B (12 + t) 2 = 16 + t ∧ gR B 15 2 = 19 := fun B hB => by
    rw [hB]; exact ⟨WC_m4 hW (by omega), WC_m4 (m := 3) hW (by omega)⟩
  have e2 : gI (sI A (12 + t) 0 (gI A 15 0)) 15 1 = iN C := (gI_ne (Or.inl (by omega))).trans h1
  unfold wp_Mx_become
  rw [e2, h0]
  obtain ⟨r1, r2⟩ := e1 (sI (sI A (12 + t) 0 (iN R)) (12 + t) 1 (iN C)) rfl
  rw [r1, r2, k3]
  refine ⟨rfl, k1, k2, rfl, ⟨by decide, by decide, by decide, by decide, ?_⟩, fun A6 e6 => ?_⟩
  · decide
  · rw [e6]
    refine k _ rfl rfl (fun o ho => ?_) ?_ ?_ (fun o ho => ?_) (fun p hp => ?_)
    · show gI (sI (sI A (12 + t) 0 (iN R)) (12 + t) 1 (iN C)) o = _
      rw [gI_row ho, gI_row ho]
    · show gI (sI (sI A (12 + t) 0 (iN R)) (12 + t) 1 (iN C)) (12 + t) 0 = _
      rw [gI_ne (Or.inr (by omega)), gI_eq]
    · exact gI_eq
    · funext i
      show (if o = 16 + t then _ else gD A o i) = _
      rw [if_neg ho]
    · show (if 16 + t = 16 + t then va_cpy _ _ _ _ _ p else _) = _
      rw [if_pos rfl]
      unfold va_cpy
      rw [if_pos ?_]
      · show gD A 19 _ = _
        congr 1
        show 0 + (p - 0) = p
        omega
      · show 0 ≤ p ∧ p < 0 + 36
        omega
end CBE
