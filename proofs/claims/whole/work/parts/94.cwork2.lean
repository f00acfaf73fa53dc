section CWL
variable {A0 : Mem} {va : Nat → UInt64} {mr mc : Nat → Nat} {x y t fz : Nat} {sc : UInt64}
/-- all rows, and the end -/
theorem w_rows {b R C L : Nat} {K : Mem → Prop} (hb : b < 9) (hW : WC A0) (hM : MxA A0 mr mc) (ht : t < 3) (hx : x < 3) (hy : y < 3) (hsc : okd sc) (h15 : gI A0 15 0 = iN R ∧ gI A0 15 1 = iN C ∧ R ≤ 6 ∧ C ≤ 6) (hL : 100 ≤ L) (hL2 : L < 125) (hfm : gR A0 L 7 = fmN b)
    (hR : ∀ r c, 1 ≤ r → r ≤ R → 1 ≤ c → c ≤ C → enR mr mc b x y r c)
    (k1 : ∀ A', InD fz A0 va (fun r c => entF (fun m => gD A0 (16 + m)) mc b sc x y r c) R C (R + 1) 1 0 A' → wp_Mx_become (12 + t) 15 A' K)
    (k2 : ∀ ft A', ft ≠ 0 → InD fz A0 va (fun r c => entF (fun m => gD A0 (16 + m)) mc b sc x y r c) R C (R + 1) 1 ft A' → K A') :
    ∀ (n i fu ft : Nat) (A : Mem), i + n = R + 1 → 1 ≤ i → n < fu → InD fz A0 va (fun r c => entF (fun m => gD A0 (16 + m)) mc b sc x y r c) R C i 1 ft A → wp_Ca_mat_c89 K fu 8 L (12 + t) (12 + x) (12 + y) sc (iN i) A := by
  intro n
  induction n with
  | zero =>
    intro i fu ft A hi hi1 hfu h
    obtain ⟨fu, rfl⟩ : ∃ g, fu = g + 1 := ⟨fu - 1, by omega⟩
    have hiR : i = R + 1 := by omega
    subst hiR
    have h' := h
    obtain ⟨A1, d1, hc, hg, hn⟩ := h'
    obtain ⟨s, hs, hs0⟩ := hc
    have e5 : gR A 8 5 = 15 := by rw [hs.1.2.2.2.2.1 5 (by omega), d1.2.1]; exact hW.2.2.1.2.2.2.2.1
    unfold wp_Ca_mat_c89
    rw [e5, hs.1.2.1 15 (by omega), d1.1, h15.1, iN_lt (by omega) (by omega)]
    refine ⟨rfl, rfl, fun _ => n_fineC ⟨s, hs, hs0⟩ (fun q => ⟨fun q' => (by cases q'), fun _ => ⟨(kd_m4 (by omega)).1, ?_⟩⟩) (fun q => ⟨fun _ => k2 ft A q h, fun q' => (by cases q')⟩), fun q => by omega⟩
    rw [e5]
    subst q
    exact k1 A h
  | succ n ih =>
    intro i fu ft A hi hi1 hfu h
    obtain ⟨fu, rfl⟩ : ∃ g, fu = g + 1 := ⟨fu - 1, by omega⟩
    have h' := h
    obtain ⟨A1, d1, hc, hg, hn⟩ := h'
    obtain ⟨s, hs, hs0⟩ := hc
    have e5 : gR A 8 5 = 15 := by rw [hs.1.2.2.2.2.1 5 (by omega), d1.2.1]; exact hW.2.2.1.2.2.2.2.1
    unfold wp_Ca_mat_c89
    rw [e5, hs.1.2.1 15 (by omega), d1.1, h15.1, iN_lt (by omega) (by omega)]
    refine ⟨rfl, rfl, fun q => by omega, fun _ => ⟨C + 1, ?_⟩⟩
    exact w_cols hb hW hM hx hy hsc h15 hL hL2 hfm hR hi1 (by omega) (fun ft' A' h2 => ih (i + 1) fu ft' A' (by omega) (by omega) (by omega) h2) C 1 _ ft A (by omega) (Nat.le_refl 1) (by omega) h
end CWL
