/-! the class's program: removal; the calls that change it -/
section PC3
variable {A : Mem} {P : PT}
theorem fnd_some : ∀ (P : PT) (v : Int32) (i j : Nat), fnd P v i = some j → i ≤ j ∧ j < i + P.length ∧ nbr P (j - i) = v := by
  intro P
  induction P with
  | nil => intro v i j h; cases h
  | cons e r ih =>
    intro v i j h
    unfold fnd at h
    split at h
    · cases h
      refine ⟨Nat.le_refl _, by simp, ?_⟩
      rw [Nat.sub_self]
      assumption
    · have := ih v (i + 1) j h
      refine ⟨by omega, by simp only [List.length_cons]; omega, ?_⟩
      obtain ⟨t, ht⟩ : ∃ t, j - i = t + 1 := ⟨j - i - 1, by omega⟩
      rw [ht]
      have h2 := this.2.2
      rw [show j - (i + 1) = t by omega] at h2
      unfold nbr at h2 ⊢
      simpa using h2
theorem rem_c21 {K : Bool → Mem → Prop} {x3 pl sz : Nat} {A0 : Mem} (hL : kd x3 = 3) (hg : ∀ k, k < 24 → kd (gR A0 7 k) = 3) (h61 : gR A0 6 1 = 7) (h60 : gI A0 6 0 = iN sz) (hsz : sz ≤ 24) (hpl : pl < sz)
    (k : ∀ A', FrP A0 A' → gI A' 6 0 = iN (sz - 1) → (∀ k, gR A' 7 k = if k + 1 = sz then x3 else if pl ≤ k ∧ k + 1 < sz then gR A0 7 (k + 1) else gR A0 7 k) → K true A') : ∀ (m j fu : Nat) (A : Mem), j + m + 1 = sz → pl ≤ j → m < fu → FrP A0 A → gI A = gI A0 → (∀ k, gR A 7 k = if pl ≤ k ∧ k < j then gR A0 7 (k + 1) else gR A0 7 k) → wp_Pr_remove_c21 K fu 6 x3 (iN j) A := by
  intro m
  induction m with
  | zero =>
    intro j fu A hj hjs hfu hF hI h7
    obtain ⟨fu, rfl⟩ : ∃ g, fu = g + 1 := ⟨fu - 1, by omega⟩
    unfold wp_Pr_remove_c21
    rw [hI, h60, iN_s1 (by omega), iN_le (by omega) (by omega), gI_eq, iN_cl (by omega)]
    have h6 : gR (sI A 6 0 (iN (sz - 1))) 6 1 = 7 := by rw [gR_sI, hF.2.2.2.2 6 (by omega)]; exact h61
    rw [h6]
    refine ⟨rfl, fun _ => ⟨rfl, iN_in (m := 24) (by omega) (by omega), Or.inr hL, fun A10 hA => k A10 ?_ ?_ (fun i => ?_)⟩, fun h => by omega⟩
    · subst hA
      refine ⟨fun o ho => ?_, ?_, hF.2.2.1, hF.2.2.2.1, fun o ho => ?_⟩
      · rw [gI_sR, gI_row ho, hI]
      · funext b
        rw [gI_sR, gI_eq]
        unfold us
        split
        · rename_i hb; subst hb; rw [gI_eq]
        · rename_i hb; rw [gI_ne (Or.inr hb), hI]
      · funext b
        rw [gR_ne (Or.inl ho), gR_sI]
        rw [hF.2.2.2.2 o ho]
    · subst hA
      rw [gI_sR, gI_eq]
    · subst hA
      by_cases hi : i + 1 = sz
      · rw [if_pos hi, show i = sz - 1 by omega, gR_eq]
      · rw [if_neg hi, gR_ne (by omega), gR_sI, h7 i]
        have e : (pl ≤ i ∧ i < j) = (pl ≤ i ∧ i + 1 < sz) := by rw [show sz = j + 1 by omega]; simp
        simp only [e]
  | succ m ih =>
    intro j fu A hj hjs hfu hF hI h7
    obtain ⟨fu, rfl⟩ : ∃ g, fu = g + 1 := ⟨fu - 1, by omega⟩
    have e1 : gR A 7 (j + 1) = gR A0 7 (j + 1) := by rw [h7, if_neg (by omega)]
    unfold wp_Pr_remove_c21
    rw [hI, h60, iN_s1 (by omega), iN_le (by omega) (by omega), hF.2.2.2.2 6 (by omega), h61, iN_1, iN_cl (show j + 1 < 2147483648 by omega), iN_cl (show j < 2147483648 by omega), e1]
    refine ⟨rfl, fun h => by omega, fun _ => ⟨rfl, iN_in (m := 24) (by omega) (by omega), iN_in (m := 24) (by omega) (by omega), Or.inr (hg _ (by omega)), ?_⟩⟩
    refine ih (j + 1) fu _ (by omega) (by omega) (by omega) ⟨hF.1, hF.2.1, hF.2.2.1, hF.2.2.2.1, fun o ho => ?_⟩ hI (fun i => ?_)
    · funext b
      rw [gR_ne (Or.inl ho), hF.2.2.2.2 o ho]
    · by_cases hi : i = j
      · rw [hi, gR_eq, if_pos (by omega)]
      · rw [gR_ne (Or.inr hi), h7 i]
        by_cases h9 : pl ≤ i ∧ i < j
        · rw [if_pos h9, if_pos (by omega)]
        · rw [if_neg h9, if_neg (by omega)]
theorem c_remove {v : Int32} {K : Bool → Mem → Prop} (h : PC A P) (k : match remS P v with
    | some P' => ∀ A', FrP A A' → PC A' P' → K true A'
    | none => K false A) : wp_Pr_remove 6 v A K := by
  have hlen := h.1
  have hF0 : FrP A A := ⟨fun _ _ => rfl, by funext b; unfold us; split <;> simp_all, rfl, rfl, fun _ _ => rfl⟩
  refine ⟨rfl, c_find h ?_⟩
  unfold remS at k
  cases hf : fnd P v 0 with
  | none =>
    rw [hf] at k
    exact c_lineAtN ⟨fun h => absurd rfl h, fun _ => k⟩
  | some i =>
    rw [hf] at k
    obtain ⟨-, hi, hv⟩ := fnd_some P v 0 i hf
    have hi : i < P.length := by omega
    refine c_lineAt h (by omega) ?_
    rw [if_pos hi]
    have hri := h.2.2.2.1 i (by omega)
    refine ⟨fun _ => ⟨P.length + 1, rem_c21 (sz := P.length) (A0 := A) (pl := i) (kdL hri.1 hri.2) (fun j hj => ?_) h.2.2.1 h.2.1 hlen hi (fun A' hF h6 h7 => k A' hF ?_) (P.length - 1 - i) i _ A (by omega) (Nat.le_refl _) (by omega) hF0 rfl (fun j => by rw [if_neg (by omega)])⟩, fun h0 => by omega⟩
    · have := h.2.2.2.1 j (by omega)
      rw [ln_lt hj] at this
      exact kdL this.1 this.2
    · refine PC_perm h (by simp; omega) ?_ ?_ (fun o ho => hF.1 o (by omega)) (fun o ho => hF.2.2.2.2 o (by omega)) (fun j => if j < i then j else if j + 1 < P.length then j + 1 else if j + 1 = P.length then i else j) (fun j hj => ?_) (fun a b ha hb e => ?_) (fun a w c hw => ?_)
      · rw [h6]; simp; congr 1; omega
      · rw [hF.2.2.2.2 6 (by omega)]; exact h.2.2.1
      · refine ⟨?_, by (try dsimp only); split <;> (try split) <;> (try split) <;> omega⟩
        (try dsimp only)
        by_cases hj24 : j < 24
        · rw [ln_lt hj24, h7 j]
          by_cases c1 : j < i
          · rw [if_pos c1, if_neg (by omega), if_neg (by omega), ln_lt (by omega)]
          · rw [if_neg c1]
            by_cases c2 : j + 1 < P.length
            · rw [if_pos c2, if_neg (by omega), if_pos (by omega), ln_lt (by omega)]
            · rw [if_neg c2]
              by_cases c3 : j + 1 = P.length
              · rw [if_pos c3, if_pos c3]
              · rw [if_neg c3, if_neg c3, if_neg (by omega), ln_lt (by omega)]
        · rw [if_neg (by omega), if_neg (by omega), if_neg (by omega)]
          unfold ln
          rw [if_neg hj24, if_neg hj24, hF.2.2.2.2 3 (by omega)]
      · (try dsimp only at e)
        (repeat' (split at e)) <;> omega
      · (try dsimp only)
        by_cases c1 : a < i
        · rw [List.getElem?_append_left (by simp; omega), List.getElem?_take_of_lt c1] at hw
          rw [if_pos c1]
          exact h.2.2.2.2.2 a w c hw
        · rw [List.getElem?_append_right (by simp; omega)] at hw
          have e8 : (P.take i).length = i := by simp; omega
          rw [e8, List.getElem?_drop] at hw
          have ha : a + 1 < P.length := by have := (List.getElem?_eq_some_iff.mp hw).1; omega
          rw [if_neg c1, if_pos ha]
          rw [show i + 1 + (a - i) = a + 1 by omega] at hw
          exact h.2.2.2.2.2 (a + 1) w c hw
/-- all references that never change -/
def WC (A : Mem) : Prop := (gR A 1 0 = 2 ∧ gR A 1 3 = 3 ∧ gR A 1 4 = 5 ∧ gR A 3 2 = 4) ∧ (gR A 5 0 = 6 ∧ gR A 5 1 = 8 ∧ gR A 5 2 = 20 ∧ gR A 5 3 = 25 ∧ gR A 5 11 = 26 ∧ gR A 5 12 = 27) ∧ (gR A 8 1 = 9 ∧ gR A 8 2 = 12 ∧ gR A 8 3 = 13 ∧ gR A 8 4 = 14 ∧ gR A 8 5 = 15 ∧ gR A 8 6 = 10 ∧ gR A 8 7 = 11) ∧ (gR A 12 2 = 16 ∧ gR A 13 2 = 17 ∧ gR A 14 2 = 18 ∧ gR A 15 2 = 19) ∧ (gR A 20 1 = 21 ∧ gR A 20 2 = 22 ∧ gR A 20 3 = 23 ∧ gR A 20 4 = 24) ∧ ∀ L, 100 ≤ L → L < 125 → gR A L 8 = L + 30 ∧ gR A L 10 = L + 60 ∧ gR A L 11 = L + 90 ∧ gR A L 13 = L + 120
/-- the rows from 100 on, the cells 3 4 6 7, and the object's own numbers may change -/
def eFr (A A' : Mem) : Prop := gD A' = gD A ∧ gL A' = gL A ∧ (∀ o, o < 100 → o ≠ 1 → o ≠ 3 → o ≠ 4 → o ≠ 6 → gI A' o = gI A o) ∧ (∀ o, 250 ≤ o → gI A' o = gI A o) ∧ (∀ o k, o ≠ 7 → ¬ (100 ≤ o ∧ o < 125 ∧ (k = 2 ∨ k = 7)) → ¬ (o = 3 ∧ k = 0) → gR A' o k = gR A o k)
theorem WC_of {A A' : Mem} (h : WC A) (hF : ∀ o k, o ≠ 7 → ¬ (100 ≤ o ∧ o < 125 ∧ (k = 2 ∨ k = 7)) → ¬ (o = 3 ∧ k = 0) → gR A' o k = gR A o k) : WC A' := by
  obtain ⟨⟨a1, a2, a3, a4⟩, ⟨b1, b2, b3, b4, b5, b6⟩, ⟨c1, c2, c3, c4, c5, c6, c7⟩, ⟨d1, d2, d3, d4⟩, ⟨e1, e2, e3, e4⟩, f⟩ := h
  have g : ∀ o k, o ≠ 7 → ¬ (100 ≤ o ∧ o < 125 ∧ (k = 2 ∨ k = 7)) → ¬ (o = 3 ∧ k = 0) → ∀ v, gR A o k = v → gR A' o k = v := fun o k h1 h2 h3 v hv => (hF o k h1 h2 h3).trans hv
  refine ⟨⟨g _ _ (by omega) (by omega) (by omega) _ a1, g _ _ (by omega) (by omega) (by omega) _ a2, g _ _ (by omega) (by omega) (by omega) _ a3, g _ _ (by omega) (by omega) (by omega) _ a4⟩, ⟨g _ _ (by omega) (by omega) (by omega) _ b1, g _ _ (by omega) (by omega) (by omega) _ b2, g _ _ (by omega) (by omega) (by omega) _ b3, g _ _ (by omega) (by omega) (by omega) _ b4, g _ _ (by omega) (by omega) (by omega) _ b5, g _ _ (by omega) (by omega) (by omega) _ b6⟩, ⟨g _ _ (by omega) (by omega) (by omega) _ c1, g _ _ (by omega) (by omega) (by omega) _ c2, g _ _ (by omega) (by omega) (by omega) _ c3, g _ _ (by omega) (by omega) (by omega) _ c4, g _ _ (by omega) (by omega) (by omega) _ c5, g _ _ (by omega) (by omega) (by omega) _ c6, g _ _ (by omega) (by omega) (by omega) _ c7⟩, ⟨g _ _ (by omega) (by omega) (by omega) _ d1, g _ _ (by omega) (by omega) (by omega) _ d2, g _ _ (by omega) (by omega) (by omega) _ d3, g _ _ (by omega) (by omega) (by omega) _ d4⟩, ⟨g _ _ (by omega) (by omega) (by omega) _ e1, g _ _ (by omega) (by omega) (by omega) _ e2, g _ _ (by omega) (by omega) (by omega) _ e3, g _ _ (by omega) (by omega) (by omega) _ e4⟩, fun L h1 h2 => ?_⟩
  have := f L h1 h2
  exact ⟨g _ _ (by omega) (by omega) (by omega) _ this.1, g _ _ (by omega) (by omega) (by omega) _ this.2.1, g _ _ (by omega) (by omega) (by omega) _ this.2.2.1, g _ _ (by omega) (by omega) (by omega) _ this.2.2.2⟩
end PC3
