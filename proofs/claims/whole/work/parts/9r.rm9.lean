section RM9
variable {B A : Mem} {P : PT} {sl : List Nat} {K : Int32 → Mem → Prop}
/-- a whole run of the reference -/
theorem r_run {va : Nat → UInt64} (hW : MW B) (hs : Psr P) (hP : PMs B P sl) (hl24 : P.length ≤ 24) (hL : PLd P) (hG : PGx P) (hE : ∃ vm st ft, EvM B vm st [] ft B) (hva : ∀ i, i < 26 → va i = FP.dconst0)
    (k : ∀ R, R = rnS P (datS P) 300 0 (-1) (s0V va) → ∀ A', MF B sl (datS P) R (gI B 250 26) A' → K (if R.2.1 = 0 then iN R.2.2.1 else 0) A') : wp_Mo_run 250 B K := by
  obtain ⟨vm, st, ft, hev⟩ := hE
  -- the rest, behind the matrices
  have fin : ∀ (fu : Nat) (C : Mem), gL C = gL B → gR C = gR B → (∀ o, o ≠ 268 → o ≠ 269 → o ≠ 270 → gI C o = gI B o) → (∀ m, m < 3 → gI C 269 m = 0 ∧ gI C 270 m = 0 ∧ gI C 268 m = -1) → (∀ o, o ≠ 260 → o ≠ 266 → gD C o = gD B o) → (∀ i, i < 26 → gD C 260 i = FP.dconst0) → wp_Mo_run_c23 K (fu + 1) 250 (iN 3) C := by
    intro fu C c1 c2 c3 c4 c5 c6
    unfold wp_Mo_run_c23
    refine ⟨fun _ => ⟨rfl, ?_⟩, fun q => absurd (by decide) q⟩
    unfold wp_Mo_collect
    refine ⟨rfl, ?_⟩
    generalize hA3 : sI (sI (sI (sI (sI (sI (sI (sI C 250 16 0) 250 17 (-1)) 250 18 0) 250 19 0) 250 22 0) 250 23 0) 250 27 0) 250 20 0 = A3
    have eI : ∀ o, o ≠ 250 → gI A3 o = gI C o := fun o ho => by
      rw [← hA3, gI_row ho, gI_row ho, gI_row ho, gI_row ho, gI_row ho, gI_row ho, gI_row ho, gI_row ho]
    have e0 : ∀ j, j ≠ 16 → j ≠ 17 → j ≠ 18 → j ≠ 19 → j ≠ 20 → j ≠ 22 → j ≠ 23 → j ≠ 27 → gI A3 250 j = gI B 250 j := fun j h1 h2 h3 h4 h5 h6 h7 h8 => by
      rw [← hA3, gI_ne (Or.inr h5), gI_ne (Or.inr h8), gI_ne (Or.inr h7), gI_ne (Or.inr h6), gI_ne (Or.inr h4), gI_ne (Or.inr h3), gI_ne (Or.inr h2), gI_ne (Or.inr h1), c3 250 (by omega) (by omega) (by omega)]
    have v16 : gI A3 250 16 = 0 := by rw [← hA3, gI_ne (by omega), gI_ne (by omega), gI_ne (by omega), gI_ne (by omega), gI_ne (by omega), gI_ne (by omega), gI_ne (by omega), gI_eq]
    have v17 : gI A3 250 17 = -1 := by rw [← hA3, gI_ne (by omega), gI_ne (by omega), gI_ne (by omega), gI_ne (by omega), gI_ne (by omega), gI_ne (by omega), gI_eq]
    have v18 : gI A3 250 18 = 0 := by rw [← hA3, gI_ne (by omega), gI_ne (by omega), gI_ne (by omega), gI_ne (by omega), gI_ne (by omega), gI_eq]
    have v19 : gI A3 250 19 = 0 := by rw [← hA3, gI_ne (by omega), gI_ne (by omega), gI_ne (by omega), gI_ne (by omega), gI_eq]
    have v22 : gI A3 250 22 = 0 := by rw [← hA3, gI_ne (by omega), gI_ne (by omega), gI_ne (by omega), gI_eq]
    have v23 : gI A3 250 23 = 0 := by rw [← hA3, gI_ne (by omega), gI_ne (by omega), gI_eq]
    have v27 : gI A3 250 27 = 0 := by rw [← hA3, gI_ne (by omega), gI_eq]
    have v20 : gI A3 250 20 = 0 := by rw [← hA3, gI_eq]
    have eR : gR A3 = gR B := by rw [← hA3]; exact c2
    have eL : gL A3 = gL B := by rw [← hA3]; exact c1
    have eD : gD A3 = gD C := by rw [← hA3]; rfl
    have h0 : MR B sl [] (gI A3 250) (s0V va) 0 A3 := by
      obtain ⟨-, ⟨b1, b2, b3, b4, b5, b6⟩, g1, g2, g3⟩ := hev
      refine ⟨⟨eL, eR, fun o h1 h2 => (eI o h1).trans (c3 o (by omega) (by omega) (by omega)), fun j hj => e0 j (by omega) (by omega) (by omega) (by omega) (by omega) (by omega) (by omega) (by omega), fun o ho => by rw [eD]; exact c5 o (by omega) (by omega)⟩, ⟨rfl, rfl, rfl⟩, ⟨gD A3 260, st, ⟨⟨rfl, rfl, fun _ _ _ _ => rfl, fun _ _ _ _ => rfl, fun _ _ _ _ => rfl⟩, ⟨rfl, v27, by omega, (e0 24 (by omega) (by omega) (by omega) (by omega) (by omega) (by omega) (by omega) (by omega)).trans b4, Nat.zero_le _, trivial⟩, (e0 25 (by omega) (by omega) (by omega) (by omega) (by omega) (by omega) (by omega) (by omega)).trans g1, g2, by rw [eD, c5 261 (by omega) (by omega)]; exact g3⟩, fun i hi => ?_⟩, fun m hm => ?_, fun f hf => Or.inl ⟨?_, rfl⟩, ⟨v23, Nat.zero_le _, fun k e hk => (by cases hk)⟩, ⟨v22, Nat.zero_le _, fun k e hk => (by cases hk)⟩, ⟨v20, Nat.zero_le _, v19, Nat.le_refl _, fun k e hk => (by cases hk)⟩, ⟨v18, Nat.zero_le _, fun k e hk => (by cases hk)⟩⟩
      · show dz (va i) (gD A3 260 i) ∧ okd (va i)
        rw [eD, c6 i hi, hva i hi]
        exact ⟨dz_rfl _, okd_0⟩
      · rw [eI 269 (by omega), eI 270 (by omega)]
        exact ⟨(c4 m hm).1, (c4 m hm).2.1, Nat.zero_le _, Nat.zero_le _, fun i j hi _ => absurd hi (Nat.not_lt_zero i)⟩
      · rw [eI 268 (by omega), (c4 f hf).2.2]; decide
    refine y_next0 (MW_M hW h0.1) hs (PMs_M hP h0.1) hl24 ⟨P.length + 1, r_c11 hW hs hP hl24 hL (fun A' h' => ?_) P.length 0 _ A3 (by omega) (by omega) (Nat.zero_le _) h0⟩
    refine y_next0 (MW_M hW h'.1) hs (PMs_M hP h'.1) hl24 ⟨303, ?_⟩
    exact r_93 hW hs hP hl24 hL hG 300 303 0 (-1) (s0V va) A' _ rfl (by omega) h' v16 v17 (e0 26 (by omega) (by omega) (by omega) (by omega) (by omega) (by omega) (by omega) (by omega)) (Nat.le_refl _) k
  have mats : ∀ (n i fu : Nat) (C : Mem), i + n = 3 → n < fu → gL C = gL B → gR C = gR B → (∀ o, o ≠ 268 → o ≠ 269 → o ≠ 270 → gI C o = gI B o) → (∀ m, m < i → gI C 269 m = 0 ∧ gI C 270 m = 0 ∧ gI C 268 m = -1) → (∀ o, o ≠ 260 → o ≠ 266 → gD C o = gD B o) → (∀ i, i < 26 → gD C 260 i = FP.dconst0) → wp_Mo_run_c23 K fu 250 (iN i) C := by
    intro n
    induction n with
    | zero =>
      intro i fu C hi hfu c1 c2 c3 c4 c5 c6
      obtain ⟨fu, rfl⟩ : ∃ g, fu = g + 1 := ⟨fu - 1, by omega⟩
      have hi : i = 3 := by omega
      subst hi
      exact fin fu C c1 c2 c3 c4 c5 c6
    | succ n ih =>
      intro i fu C hi hfu c1 c2 c3 c4 c5 c6
      obtain ⟨fu, rfl⟩ : ∃ g, fu = g + 1 := ⟨fu - 1, by omega⟩
      have hWC : MW C := by unfold MW; rw [c2]; exact hW
      unfold wp_Mo_run_c23
      rw [show (3 : Int32) = iN 3 from rfl, iN_le (by omega) (by omega)]
      refine ⟨fun q => by omega, fun _ => ⟨rfl, r_dim hWC (by omega) (fun A8 b1 b2 b3 b4 b5 b6 b7 => ?_)⟩⟩
      rw [b2, hWC.2 37 (by omega) (by omega), iN_cl (show i < 2147483648 by omega), iN_1]
      refine ⟨rfl, iN_in (m := 3) (by omega) (by omega), ih (i + 1) fu _ (by omega) (by omega) (b1.trans c1) (b2.trans c2) (fun o h1 h2 h3 => ?_) (fun m hm => ?_) (fun o h1 h2 => (b6 o h2).trans (c5 o h1 h2)) (fun j hj => by rw [gD_sI, b6 260 (by omega)]; exact c6 j hj)⟩
      · rw [gI_row h1, b3 o h2 h3]; exact c3 o h1 h2 h3
      · rw [gI_row (by omega), gI_row (by omega), b4, b5]
        by_cases e : m = i
        · rw [e, us_eq, us_eq, gI_eq]; exact ⟨rfl, rfl, rfl⟩
        · rw [us_ne e, us_ne e, gI_ne (Or.inr e), b3 268 (by omega) (by omega)]
          exact c4 m (by omega)
  have vars : ∀ (n i fu : Nat) (C : Mem), i + n = 26 → n < fu → gL C = gL B → gR C = gR B → gI C = gI B → (∀ o, o ≠ 260 → gD C o = gD B o) → (∀ j, j < i → gD C 260 j = FP.dconst0) → wp_Mo_run_c2 K fu 250 (iN i) C := by
    intro n
    induction n with
    | zero =>
      intro i fu C hi hfu c1 c2 c3 c4 c5
      obtain ⟨fu, rfl⟩ : ∃ g, fu = g + 1 := ⟨fu - 1, by omega⟩
      have hi : i = 26 := by omega
      subst hi
      exact ⟨fun _ => ⟨4, mats 3 0 4 C rfl (by omega) c1 c2 (fun o _ _ _ => by rw [c3]) (fun m hm => by omega) (fun o h1 _ => c4 o h1) c5⟩, fun q => absurd (show (26 : Int32) ≤ iN 26 by decide) q⟩
    | succ n ih =>
      intro i fu C hi hfu c1 c2 c3 c4 c5
      obtain ⟨fu, rfl⟩ : ∃ g, fu = g + 1 := ⟨fu - 1, by omega⟩
      unfold wp_Mo_run_c2
      rw [c2, hW.2 29 (by omega) (by omega), show (26 : Int32) = iN 26 from rfl, iN_le (by omega) (by omega), iN_cl (show i < 2147483648 by omega), iN_1]
      refine ⟨fun q => by omega, fun _ => ⟨rfl, rfl, iN_in (m := 26) (by omega) (by omega), ih (i + 1) fu _ (by omega) (by omega) c1 c2 c3 (fun o ho => (gD_row ho).trans (c4 o ho)) (fun j hj => ?_)⟩⟩
      by_cases e : j = i
      · rw [e, gD_eq]
      · rw [gD_ne (Or.inr e)]; exact c5 j (by omega)
  exact ⟨27, vars 26 0 27 B rfl (by omega) rfl rfl rfl (fun _ _ => rfl) (fun j hj => by omega)⟩
end RM9
