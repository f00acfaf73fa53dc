/-! the class's program: lines put in and taken out -/
def putS (P : PT) (v : Int32) (d : LDT) : Option PT :=
  if nbr P (plc P v) = v ∧ plc P v < P.length then some (P.set (plc P v) (v, d))
  else if P.length < 24 then some (P.take (plc P v) ++ (v, d) :: P.drop (plc P v)) else none
def remS (P : PT) (v : Int32) : Option PT := match fnd P v 0 with
  | some i => some (P.take i ++ P.drop (i + 1))
  | none => none
/-- what a put or a removal keeps -/
def FrP (A A' : Mem) : Prop := (∀ o, o ≠ 6 → gI A' o = gI A o) ∧ gI A' 6 = us (gI A 6) 0 (gI A' 6 0) ∧ gD A' = gD A ∧ gL A' = gL A ∧ ∀ o, o ≠ 7 → gR A' o = gR A o
theorem PC_perm {A B : Mem} {P P' : PT} (h : PC A P) (hl : P'.length ≤ 24) (h6 : gI B 6 0 = iN P'.length) (h7 : gR B 6 1 = 7) (hI : ∀ o, 100 ≤ o → gI B o = gI A o) (hR : ∀ o, 100 ≤ o → gR B o = gR A o) (σ : Nat → Nat) (hσ : ∀ j, j < 25 → ln B j = ln A (σ j) ∧ σ j < 25) (hinj : ∀ i j, i < 25 → j < 25 → σ i = σ j → i = j) (hv : ∀ i v d, P'[i]? = some (v, d) → CLv A (ln A (σ i)) v d) : PC B P' := by
  refine ⟨hl, h6, h7, fun i hi => ?_, fun i j hi hj e => ?_, fun i v d hp => ?_⟩
  · rw [(hσ i hi).1]; exact h.2.2.2.1 _ (hσ i hi).2
  · rw [(hσ i hi).1, (hσ j hj).1] at e
    exact hinj i j hi hj (h.2.2.2.2.1 _ _ (hσ i hi).2 (hσ j hj).2 e)
  · have hi : i < 25 := by have := (List.getElem?_eq_some_iff.mp hp).1; omega
    have hr := h.2.2.2.1 _ (hσ i hi).2
    rw [(hσ i hi).1]
    exact CLv_cg (hv i v d hp) (hI _ (by omega)) (hI _ (by omega)) (hI _ (by omega)) (hI _ (by omega)) (hI _ (by omega)) (hR _ (by omega))
section PC2
variable {A : Mem} {P : PT}
theorem put_c70 {K : Nat → Mem → Prop} {L x4 pl sz : Nat} {A0 : Mem} (hL : kd L = 3) (hg : ∀ k, k < 24 → kd (gR A0 7 k) = 3) (h61 : gR A0 6 1 = 7) (h60 : gI A0 6 0 = iN sz) (hsz : sz < 24) (hpl : pl ≤ sz)
    (k : ∀ A', FrP A0 A' → gI A' 6 0 = iN (sz + 1) → (∀ k, gR A' 7 k = if k = pl then L else if pl < k ∧ k ≤ sz then gR A0 7 (k - 1) else gR A0 7 k) → K x4 A') : ∀ (m j fu : Nat) (A : Mem), j = pl + m → j ≤ sz → m < fu → FrP A0 A → gI A = gI A0 → (∀ k, gR A 7 k = if j < k ∧ k ≤ sz then gR A0 7 (k - 1) else gR A0 7 k) → wp_Pr_put_c70 K fu 6 L (iN pl) x4 (iN j) A := by
  intro m
  induction m with
  | zero =>
    intro j fu A hj hjs hfu hF hI h7
    obtain ⟨fu, rfl⟩ : ∃ g, fu = g + 1 := ⟨fu - 1, by omega⟩
    unfold wp_Pr_put_c70
    rw [iN_le (by omega) (by omega), hF.2.2.2.2 6 (by omega), h61, iN_cl (by omega)]
    refine ⟨fun _ => ⟨rfl, rfl, iN_in (m := 24) (by omega) (by omega), Or.inr hL, fun A18 hA => k A18 ?_ ?_ (fun i => ?_)⟩, fun h => by omega⟩
    · subst hA
      rw [gI_sR, hI, h60, iN_1]
      refine ⟨fun o ho => ?_, ?_, hF.2.2.1, hF.2.2.2.1, fun o ho => ?_⟩
      · rw [gI_row ho, gI_sR, hI]
      · funext b
        rw [gI_eq]
        unfold us
        split
        · rename_i hb; subst hb; rw [gI_eq]
        · rename_i hb; rw [gI_ne (Or.inr hb), gI_sR, hI]
      · rw [gR_sI]
        funext b
        rw [gR_ne (Or.inl ho)]
        rw [hF.2.2.2.2 o ho]
    · subst hA
      rw [gI_eq, gI_sR, hI, h60, iN_1]
    · subst hA
      rw [gR_sI]
      by_cases hi : i = pl
      · rw [if_pos hi, hi, gR_eq]
      · rw [if_neg hi, gR_ne (Or.inr hi), h7 i]
        have e : (j < i ∧ i ≤ sz) = (pl < i ∧ i ≤ sz) := by rw [show j = pl by omega]
        simp only [e]
  | succ m ih =>
    intro j fu A hj hjs hfu hF hI h7
    obtain ⟨fu, rfl⟩ : ∃ g, fu = g + 1 := ⟨fu - 1, by omega⟩
    unfold wp_Pr_put_c70
    have e1 : gR A 7 (j - 1) = gR A0 7 (j - 1) := by rw [h7, if_neg (by omega)]
    rw [iN_le (by omega) (by omega), hF.2.2.2.2 6 (by omega), h61, iN_s1 (by omega), iN_cl (show j - 1 < 2147483648 by omega), iN_cl (show j < 2147483648 by omega), iN_m1 (by omega), e1]
    refine ⟨fun h => by omega, fun _ => ⟨rfl, rfl, iN_in (m := 24) (by omega) (by omega), iN_in (m := 24) (by omega) (by omega), Or.inr (hg _ (by omega)), ?_⟩⟩
    refine ih (j - 1) fu _ (by omega) (by omega) (by omega) ⟨hF.1, hF.2.1, hF.2.2.1, hF.2.2.2.1, fun o ho => ?_⟩ hI (fun i => ?_)
    · funext b
      rw [gR_ne (Or.inl ho), hF.2.2.2.2 o ho]
    · by_cases hi : i = j
      · rw [hi, gR_eq, if_pos (by omega)]
      · rw [gR_ne (Or.inr hi), h7 i]
        by_cases h9 : j < i ∧ i ≤ sz
        · rw [if_pos h9, if_pos (by omega)]
        · rw [if_neg h9, if_neg (by omega)]
theorem nbr_lt {i : Nat} (hi : i < P.length) : nbr P i = (P[i]).1 := by
  unfold nbr
  rw [List.getElem?_eq_getElem hi]
theorem c_put {v : Int32} {d : LDT} {K : Nat → Mem → Prop} (h : PC A P) (hC : CLv A (ln A 24) v d) (k : match putS P v d with
    | some P' => ∀ A' r, r ≠ 0 → FrP A A' → PC (sR A' 3 0 r) P' → K r A'
    | none => K 0 A) : wp_Pr_put 6 (ln A 24) A K := by
  have hlen := h.1
  have hpl := plc_le P v
  have hr24 := h.2.2.2.1 24 (by omega)
  have hF0 : FrP A A := ⟨fun _ _ => rfl, by funext b; unfold us; split <;> simp_all, rfl, rfl, fun _ _ => rfl⟩
  have h24 : gR A 3 0 = ln A 24 := rfl
  -- the insertion
  have ins : ¬ (nbr P (plc P v) = v ∧ plc P v < P.length) → wp_Pr_put_c39 K 6 (ln A 24) (iN (plc P v)) A := by
    intro hn
    unfold putS at k
    rw [if_neg hn] at k
    unfold wp_Pr_put_c39
    rw [h.2.1, h.2.2.1, show Int32.ofNat (al 7) = iN 24 from rfl, iN_lt (by omega) (by omega), iN_cl (by omega)]
    refine ⟨rfl, rfl, fun hlt => ?_, fun hge => ?_⟩
    · rw [if_pos hlt] at k
      have hsz := h.2.2.2.1 P.length (by omega)
      refine ⟨iN_in (m := 24) (by omega) (by omega), P.length + 1, put_c70 (sz := P.length) (A0 := A) (kdL hr24.1 hr24.2) (fun j hj => ?_) h.2.2.1 h.2.1 hlt hpl (fun A' hF h6 h7 => ?_) (P.length - plc P v) P.length _ A (by omega) (Nat.le_refl _) (by omega) hF0 rfl (fun j => ?_)⟩
      · have := h.2.2.2.1 j (by omega)
        rw [ln_lt hj] at this
        exact kdL this.1 this.2
      · have e9 : gR A 7 P.length = ln A P.length := (ln_lt hlt).symm
        rw [e9]
        refine k A' (ln A P.length) (by omega) hF ?_
        refine PC_perm h (by simp; omega) ?_ ?_ (fun o ho => ?_) (fun o ho => ?_) (fun j => if j < plc P v then j else if j = plc P v then 24 else if j ≤ P.length then j - 1 else if j < 24 then j else P.length) (fun j hj => ?_) (fun i j hi hj e => ?_) (fun i w c hw => ?_)
        · rw [gI_sR, h6]; simp; congr 1; omega
        · rw [gR_ne (by omega), hF.2.2.2.2 6 (by omega)]; exact h.2.2.1
        · rw [gI_sR]; exact hF.1 o (by omega)
        · funext b; rw [gR_ne (by omega), hF.2.2.2.2 o (by omega)]
        · refine ⟨?_, by (try dsimp only); split <;> (try split) <;> (try split) <;> (try split) <;> omega⟩
          by_cases hj24 : j < 24
          · have e1 : ln (sR A' 3 0 (ln A P.length)) j = gR A' 7 j := by rw [ln_lt hj24, gR_ne (by omega)]
            rw [e1, h7 j]
            (try dsimp only)
            by_cases c1 : j < plc P v
            · rw [if_pos c1, if_neg (by omega), if_neg (by omega), ln_lt (by omega)]
            · rw [if_neg c1]
              by_cases c2 : j = plc P v
              · rw [if_pos c2, if_pos c2]
              · rw [if_neg c2, if_neg c2]
                by_cases c3 : j ≤ P.length
                · rw [if_pos c3, if_pos (by omega), ln_lt (by omega)]
                · rw [if_neg c3, if_pos hj24, if_neg (by omega), ln_lt (by omega)]
          · (try dsimp only)
            rw [if_neg (by omega), if_neg (by omega), if_neg (by omega), if_neg hj24]
            unfold ln
            rw [if_neg hj24, gR_eq, if_pos hlt]
        · (try dsimp only at e)
          (repeat' (split at e)) <;> omega
        · (try dsimp only)
          by_cases c1 : i < plc P v
          · rw [List.getElem?_append_left (by simp; omega), List.getElem?_take_of_lt c1] at hw
            rw [if_pos c1]
            exact h.2.2.2.2.2 i w c hw
          · rw [List.getElem?_append_right (by simp; omega)] at hw
            have e8 : (P.take (plc P v)).length = plc P v := by simp; omega
            rw [e8] at hw
            by_cases c2 : i = plc P v
            · rw [c2, Nat.sub_self] at hw
              simp at hw
              rw [if_neg c1, if_pos c2, ← hw.1, ← hw.2]
              exact hC
            · obtain ⟨t, ht⟩ : ∃ t, i - plc P v = t + 1 := ⟨i - plc P v - 1, by omega⟩
              rw [ht, List.getElem?_cons_succ, List.getElem?_drop] at hw
              have hi : i ≤ P.length := by have := (List.getElem?_eq_some_iff.mp hw).1; omega
              rw [if_neg c1, if_neg c2, if_pos hi]
              rw [show plc P v + t = i - 1 by omega] at hw
              exact h.2.2.2.2.2 (i - 1) w c hw
      · rw [if_neg (by omega)]
    · rw [if_neg hge] at k
      exact k
  refine ⟨kdL hr24.1 hr24.2, rfl, ?_⟩
  rw [CLv_num hC]
  refine c_placeFor h (c_lineAt h (by omega) ?_)
  by_cases hlt : plc P v < P.length
  · rw [if_pos hlt]
    have hri := h.2.2.2.1 (plc P v) (by omega)
    have hnum : gI A (ln A (plc P v)) 0 = nbr P (plc P v) := (CLv_num (h.2.2.2.2.2 (plc P v) _ _ (List.getElem?_eq_getElem hlt))).trans (nbr_lt hlt).symm
    refine ⟨fun h0 => by omega, fun _ => ⟨kdL hri.1 hri.2, ?_⟩⟩
    rw [CLv_num hC, hnum]
    refine ⟨fun hne => ins (fun h9 => hne h9.1), fun he => ?_⟩
    unfold putS at k
    rw [if_pos ⟨he, hlt⟩] at k
    rw [h.2.2.1, iN_cl (by omega)]
    refine ⟨rfl, iN_in (m := 24) (by omega) (by omega), Or.inr (kdL hr24.1 hr24.2), k _ _ (by omega) ⟨fun _ _ => rfl, hF0.2.1, rfl, rfl, fun o ho => by funext b; rw [gR_ne (Or.inl ho)]⟩ ?_⟩
    refine PC_perm h (by simp; omega) ?_ ?_ (fun o ho => rfl) (fun o ho => ?_) (fun j => if j = plc P v then 24 else if j = 24 then plc P v else j) (fun j hj => ?_) (fun i j hi hj e => ?_) (fun i w c hw => ?_)
    · rw [gI_sR, gI_sR, h.2.1]; simp
    · rw [gR_ne (by omega), gR_ne (by omega)]; exact h.2.2.1
    · funext b; rw [gR_ne (by omega), gR_ne (by omega)]
    · refine ⟨?_, by (try dsimp only); split <;> (try split) <;> omega⟩
      (try dsimp only)
      by_cases c1 : j = plc P v
      · rw [if_pos c1, ln_lt (by omega), gR_ne (by omega), c1, gR_eq]
      · rw [if_neg c1]
        by_cases c2 : j = 24
        · rw [if_pos c2, c2]
          show (if 24 < 24 then _ else gR _ 3 0) = _
          rw [if_neg (by omega), gR_eq]
        · rw [if_neg c2, ln_lt (by omega), gR_ne (by omega), gR_ne (by omega), ln_lt (by omega)]
    · (try dsimp only at e)
      (repeat' (split at e)) <;> omega
    · (try dsimp only)
      rw [List.getElem?_set] at hw
      by_cases c1 : plc P v = i
      · rw [if_pos c1, if_pos hlt] at hw
        simp at hw
        rw [if_pos c1.symm, ← hw.1, ← hw.2]
        exact hC
      · rw [if_neg c1] at hw
        have hi := (List.getElem?_eq_some_iff.mp hw).1
        rw [if_neg (fun h9 => c1 h9.symm), if_neg (by omega)]
        exact h.2.2.2.2.2 i w c hw
  · rw [if_neg hlt]
    exact ⟨fun _ => ins (fun h9 => hlt h9.2), fun h0 => absurd rfl h0⟩
end PC2
