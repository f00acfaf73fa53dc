/-! the reference's loop does expressions as the mathematical parser does -/
section YS
variable {A0 : Mem} {T : Nat → Int32} {n lo : Nat} {ag ex : Nat → Int32} {K : Int32 → Mem → Prop} {on : Bool} {bg : Int32} {p op fu ins m0 : Nat} {κ σ : List Int32} {A : Mem} {Sp : PS}
/-- what is so wherever an operand is wanted -/
def eSB (T : Nat → Int32) (on : Bool) (m0 p op ins : Nat) (σ : List Int32) : Prop := m0 ≤ op + 1 ∧ op ≤ 6 ∧ ins ≤ op ∧ op ≤ ins + 1 ∧ (on = true → op = ins) ∧ 1 ≤ p ∧ MK ins σ
abbrev eGB (A0 : Mem) (n lo : Nat) (ag ex : Nat → Int32) (K : Int32 → Mem → Prop) (on : Bool) (bg : Int32) (op ins p : Nat) (κ σ : List Int32) : Nat → List SOp → Prop := fun p' os => ∀ A' fu', 62 ≤ fu' + p' → p < p' → EX A0 n lo ag ex p' op (κ ++ enc os) σ A' → (κ ++ enc os).length + σ.length ≤ 2 * p' + 1 → eLP K on bg fu' σ ins 0 0 A'
abbrev eGX (A0 : Mem) (n : Nat) (K : Int32 → Mem → Prop) : Nat → Prop := fun q => ∀ r A', MBd A0 n q 130 A' → K r A'
theorem isM_iN {c : Int32} (h : isM c = true) : ∃ d : Nat, d < 3 ∧ c - 80 = iN d ∧ 110 + c - 80 = iN (110 + d) := by
  unfold isM at h
  simp only [Bool.and_eq_true, decide_eq_true_eq] at h
  have h0 : (0 : Int32) ≤ c := Int32.le_trans (by decide) h.1
  have e := iN_of h0
  have hc := Int32.toNatClampNeg_lt c
  generalize c.toNatClampNeg = m at *
  subst e
  rw [show (80 : Int32) = iN 80 from rfl, show (82 : Int32) = iN 82 from rfl, iN_le (by omega) (by omega), iN_le (by omega) (by omega)] at h
  refine ⟨m - 80, by omega, ?_, ?_⟩
  · rw [show (80 : Int32) = iN 80 from rfl, iN_sub (by omega)]
  · rw [show (80 : Int32) = iN 80 from rfl, show (110 : Int32) = iN 110 from rfl, iN_add, iN_sub (by omega)]
    congr 1
    omega
theorem isF_iN {c : Int32} (h : isF c = true) : ∃ d : Nat, d < 3 ∧ c - 65 = iN d ∧ 104 + c - 65 = iN (104 + d) := by
  unfold isF at h
  simp only [Bool.and_eq_true, decide_eq_true_eq] at h
  have h0 : (0 : Int32) ≤ c := Int32.le_trans (by decide) h.1
  have e := iN_of h0
  have hc := Int32.toNatClampNeg_lt c
  generalize c.toNatClampNeg = m at *
  subst e
  rw [show (65 : Int32) = iN 65 from rfl, show (67 : Int32) = iN 67 from rfl, iN_le (by omega) (by omega), iN_le (by omega) (by omega)] at h
  refine ⟨m - 65, by omega, ?_, ?_⟩
  · rw [show (65 : Int32) = iN 65 from rfl, iN_sub (by omega)]
  · rw [show (65 : Int32) = iN 65 from rfl, show (104 : Int32) = iN 104 from rfl, iN_add, iN_sub (by omega)]
    congr 1
    omega
theorem y_bracketB {q b : Nat} {K : Mem → Prop} (h : MBd A0 n q b A) (k : ∀ A', MBd A0 n q b A' → K A') : wp_Mo_bracket 250 A K := by
  have go : ∀ A1, MBd A0 n q b A1 → wp_Mo_bracket_c14 K 250 A1 := fun A1 h1 =>
    ⟨rfl, ⟨rfl, y_takeB h1 ⟨fun h => (by cases h), fun _ => ⟨fun _ => k _ (MBd_7 h1), fun h7 => absurd h7 (MBd_ne (MBd_7 h1))⟩⟩⟩⟩
  exact ⟨rfl, fun _ => go A h, fun _ => go _ (MBd_7 h)⟩
theorem yE_part (hB : MB0 A0 T n) (hH : HM A0 T n lo ag ex K on bg m0 Sp) (hS : eSB T on m0 p op ins σ) (hfu : 62 ≤ fu + (p + 1)) (h : EX A0 n lo ag ex p op κ σ A) (hl : κ.length + σ.length ≤ 2 * p)
    (kk : OKP (ePart T n on Sp p op) (eGB A0 n lo ag ex K on bg op ins p κ σ) (eGX A0 n K)) :
    wp_Mo_expression_c88 (wp_Mo_expression_c16 K fu) K 250 (bI on) bg (iN σ.length) (iN ins) 1 0 (if ins = 0 then 1 else 0) (bI on) 250 A := by
  obtain ⟨hm0, hop, hins, hins2, hon, hp1, hMK⟩ := hS
  obtain ⟨hF, hp, h4, h5, h5', h7, hsl⟩ := yE_f h
  have hn := hB.2.1
  -- bad ends
  have kb : ∀ q r A', MBd A0 n q (κ.length + 3) A' → eGX A0 n K q → (¬ r = 0 → kd 250 = 9 ∧ wp_Mo_bracket 250 A' (fun (A36 : Mem) => kd (gR A36 250 15) = 51 ∧ vp_in (iN σ.length) (al (gR A36 250 15)) ∧ wp_Mo_expression_c16 K fu 250 (bI on) bg (iN σ.length + 1) (iN ins + 1) 1 1 (sI A36 (gR A36 250 15) (Int32.toNatClampNeg (iN σ.length)) r))) ∧ (r = 0 → wp_Mo_expression_c16 K fu 250 (bI on) bg (iN σ.length) (iN ins) 0 0 A') := by
    intro q r A' hb kx
    refine ⟨fun _ => ⟨rfl, y_bracketB hb (fun A2 h2 => ?_)⟩, fun _ => yE_bad hB hb (by omega) (by omega) (by omega) kx⟩
    have hW := (FrM_n hB h2.1).2.2.2
    rw [hW.1 15 (by omega) (by omega), iN_cl (by omega), iN_1, iN_1]
    refine ⟨rfl, iN_in (m := 64) (by omega) (by omega), yE_bad (b := κ.length + 3) (q := q) hB ?_ (by omega) (by omega) (by omega) kx⟩
    obtain ⟨hF, hq, h4, h7, c, hc, h6⟩ := h2
    exact ⟨FrM_I hF (by omega), hq, by rw [gI_ne (by omega)]; exact h4, by rw [gI_ne (by omega)]; exact h7, c, hc, by rw [gI_ne (by omega)]; exact h6⟩
  -- a simple bracket behind a mark
  have kbr : ∀ (m : Int32) (p1 : Nat) (κ1 : List Int32) (A' : Mem) (ys : List SOp), 100 ≤ m → m ≤ 109 → p ≤ p1 → EX A0 n lo ag ex p1 op κ1 σ A' → κ1.length + σ.length ≤ 2 * p1 + 1 → (∀ os, κ1 ++ enc os ++ clM m = κ ++ enc (ys ++ os ++ (if m = 100 then [] else if 104 ≤ m then [(13, m - 104, 0)] else [((m.toNatClampNeg - 92), 0, 0)]))) → OKP (bnd (dBr T n Sp p1 op) fun p2 os => .ok (p2, ys ++ os ++ (if m = 100 then [] else if 104 ≤ m then [(13, m - 104, 0)] else [((m.toNatClampNeg - 92), 0, 0)]))) (eGB A0 n lo ag ex K on bg op ins p κ σ) (eGX A0 n K) → (¬ m = 0 → kd 250 = 9 ∧ wp_Mo_bracket 250 A' (fun (A36 : Mem) => kd (gR A36 250 15) = 51 ∧ vp_in (iN σ.length) (al (gR A36 250 15)) ∧ wp_Mo_expression_c16 K fu 250 (bI on) bg (iN σ.length + 1) (iN ins + 1) 1 1 (sI A36 (gR A36 250 15) (Int32.toNatClampNeg (iN σ.length)) m))) ∧ (m = 0 → wp_Mo_expression_c16 K fu 250 (bI on) bg (iN σ.length) (iN ins) 0 0 A') := by
    intro m p1 κ1 A' ys hm hm2 hp1 hX hl1 he kk1
    refine ⟨fun _ => ⟨rfl, yE_br hB hH hm0 hop hins hins2 hon hm hm2 (by omega) hX hl1 ?_⟩, fun h0 => by rw [h0] at hm; exact absurd hm (by decide)⟩
    rw [OKP_bnd] at kk1
    refine OKP_mono kk1 (fun p2 os k2 A2 fu2 hfu2 hlt hX2 hl2 => ?_) (fun q kb => kb)
    rw [he os] at hX2 hl2
    exact k2 A2 fu2 hfu2 (by omega) hX2 hl2
  refine ⟨rfl, yE_pm hB hon hop h hl (fun hd => ?_) (fun h40 h6 r A1 h1 => kb p r A1 h1 ?_) (fun h40 h6 => ?_) (fun hM h6 r A1 h1 => kb p r A1 h1 ?_) (fun hM h6 A1 h1 => ?_) (fun m w hmw hnm h6 => ?_) (fun hF hN h6 => ?_) (fun nD n40 nM hnm => ?_)⟩
  · -- a numeral
    unfold ePart at kk
    rw [if_pos hd, OKP_bnd] at kk
    refine OKP_mono kk (fun p1 v k1 A1 hlt h1 => ⟨fun h => absurd rfl h, fun _ => k1 A1 fu (by omega) hlt ?_ ?_⟩) (fun q kx r A1 h1 => kb q r A1 h1 kx)
    · simpa [enc, eO] using h1
    · simp [enc, eO]; omega
  · unfold ePart at kk
    rw [if_neg (by rw [h40]; decide), if_pos h40] at kk
    unfold dBr at kk
    rw [if_pos h6] at kk
    exact kk
  · unfold ePart at kk
    rw [if_neg (by rw [h40]; decide), if_pos h40] at kk
    refine kbr 100 p κ A [] (by decide) (by decide) (Nat.le_refl _) h (by omega) (fun os => by simp [clM]) ?_
    rw [OKP_bnd]
    exact OKP_mono kk (fun p1 os k1 => by simpa [OKP] using k1) (fun q kb => kb)
  · unfold ePart at kk
    have nD : ¬ isD (chr T n p) = true := by
      intro hd; unfold isD at hd; unfold isM at hM
      simp only [Bool.and_eq_true, decide_eq_true_eq] at hd hM
      exact absurd (Int32.le_trans hM.1 hd.2) (by decide)
    rw [if_neg nD, if_neg (by intro h; rw [h] at hM; exact absurd hM (by decide)), if_pos hM] at kk
    unfold dEl at kk
    rw [if_pos h6] at kk
    exact kk
  · unfold ePart at kk
    have nD : ¬ isD (chr T n p) = true := by
      intro hd; unfold isD at hd; unfold isM at hM
      simp only [Bool.and_eq_true, decide_eq_true_eq] at hd hM
      exact absurd (Int32.le_trans hM.1 hd.2) (by decide)
    rw [if_neg nD, if_neg (by intro h; rw [h] at hM; exact absurd hM (by decide)), if_pos hM] at kk
    unfold dEl at kk
    obtain ⟨d, hd, e1, e2⟩ := isM_iN hM
    rw [if_neg (by omega), e1] at kk
    rw [e2]
    refine ⟨fun _ => ⟨rfl, yE_mt hB hH hd hm0 h6 hins hins2 hon (by omega) h1 (by omega) (OKP_mono kk (fun p' os k A' fu' g1 g2 => k A' fu' g1 (by omega)) (fun q kb => kb))⟩, fun h0 => ?_⟩
    rw [show (0 : Int32) = iN 0 from rfl, iN_eq (by omega) (by omega)] at h0
    omega
  · -- ABS, INT, SGN
    have hl65 : isD (chr T n p) = false ∧ chr T n p ≠ 40 ∧ isM (chr T n p) = false ∧ 100 ≤ m ∧ m ≤ 109 := by
      rcases hmw with ⟨rfl, e, -⟩ | ⟨rfl, e, -⟩ | ⟨rfl, e, -⟩ <;> rw [e] <;> decide
    unfold ePart at kk
    rw [if_neg (by rw [hl65.1]; decide), if_neg hl65.2.1, if_neg (by rw [hl65.2.2.1]; decide), if_pos hnm] at kk
    unfold dCall at kk
    rw [if_neg (by omega)] at kk
    have fin : ∀ o : Nat, m = iN (o + 92) → (o = 9 ∨ o = 10 ∨ o = 11) → OKP (bnd (pWd T n w (p + 1)) fun p1 _ => bnd (dBr T n Sp p1 op) fun p2 os => .ok (p2, os ++ [(o, 0, 0)])) (eGB A0 n lo ag ex K on bg op ins p κ σ) (eGX A0 n K) → OKP (pWd T n w (p + 1)) (fun p1 _ => ∀ A', p + 1 ≤ p1 → EX A0 n lo ag ex p1 op κ σ A' → (¬ m = 0 → kd 250 = 9 ∧ wp_Mo_bracket 250 A' (fun (A36 : Mem) => kd (gR A36 250 15) = 51 ∧ vp_in (iN σ.length) (al (gR A36 250 15)) ∧ wp_Mo_expression_c16 K fu 250 (bI on) bg (iN σ.length + 1) (iN ins + 1) 1 1 (sI A36 (gR A36 250 15) (Int32.toNatClampNeg (iN σ.length)) m))) ∧ (m = 0 → wp_Mo_expression_c16 K fu 250 (bI on) bg (iN σ.length) (iN ins) 0 0 A')) (fun q => ∀ r A', MBd A0 n q (κ.length + 3) A' → (¬ r = 0 → kd 250 = 9 ∧ wp_Mo_bracket 250 A' (fun (A36 : Mem) => kd (gR A36 250 15) = 51 ∧ vp_in (iN σ.length) (al (gR A36 250 15)) ∧ wp_Mo_expression_c16 K fu 250 (bI on) bg (iN σ.length + 1) (iN ins + 1) 1 1 (sI A36 (gR A36 250 15) (Int32.toNatClampNeg (iN σ.length)) r))) ∧ (r = 0 → wp_Mo_expression_c16 K fu 250 (bI on) bg (iN σ.length) (iN ins) 0 0 A')) := by
      intro o hmo ho kk2
      rw [OKP_bnd] at kk2
      refine OKP_mono kk2 (fun p1 _ k1 A1 hp1 h1 => ?_) (fun q kx r A1 h1 => kb q r A1 h1 kx)
      have hcase : (¬ m = 100 ∧ ¬ 104 ≤ m ∧ m.toNatClampNeg - 92 = o ∧ 9 + m - 101 = iN o ∧ eO (o, 0, 0) = [iN o]) := by
        subst hmo
        rcases ho with rfl | rfl | rfl <;> decide +kernel
      refine kbr m p1 κ A1 [] hl65.2.2.2.1 hl65.2.2.2.2 (by omega) h1 (by omega) (fun os => ?_) ?_
      · rw [if_neg hcase.1, if_neg hcase.2.1, hcase.2.2.1]
        simp only [clM, if_neg hcase.1, if_neg hcase.2.1, hcase.2.2.2.1, List.nil_append, enc_app]
        simp [enc, hcase.2.2.2.2]
      · rw [if_neg hcase.1, if_neg hcase.2.1, hcase.2.2.1]
        exact k1
    rcases hmw with ⟨rfl, e, rfl⟩ | ⟨rfl, e, rfl⟩ | ⟨rfl, e, rfl⟩
    · rw [if_pos e] at kk
      exact fin 9 rfl (Or.inl rfl) kk
    · rw [if_neg (by rw [e]; decide), if_pos e] at kk
      exact fin 10 rfl (Or.inr (Or.inl rfl)) kk
    · rw [if_neg (by rw [e]; decide), if_neg (by rw [e]; decide), if_pos e] at kk
      exact fin 11 rfl (Or.inr (Or.inr rfl)) kk
  · -- FN
    have hnm : pNm2 T n on op p = true := by
      unfold pNm2
      rw [hF, if_neg (by decide), if_pos rfl, hN]; rfl
    unfold ePart at kk
    rw [if_neg (by rw [hF]; decide), if_neg (by rw [hF]; decide), if_neg (by rw [hF]; decide), if_pos hnm] at kk
    unfold dCall at kk
    rw [if_neg (by omega), if_neg (by rw [hF]; decide), if_neg (by rw [hF]; decide), if_neg (by rw [hF]; decide), pWd, if_pos hN, pWd, bnd_ok] at kk
    refine ⟨fun hf A1 h1 => ?_, fun hf r A1 h1 => kb (p + 2) r A1 h1 ?_⟩
    · have hf' : isF (chr T n (p + 1 + 1)) = true := hf
      rw [if_neg (by rw [hf']; decide)] at kk
      obtain ⟨d, hd, e1, e2⟩ := isF_iN hf
      have e1' : chr T n (p + 1 + 1) - 65 = iN d := e1
      rw [e1'] at kk
      rw [e2]
      rw [e1] at h1
      have hc : ∀ d, d < 3 → 100 ≤ iN (104 + d) ∧ iN (104 + d) ≤ 109 ∧ ¬ iN (104 + d) = 100 ∧ 104 ≤ iN (104 + d) ∧ ¬ 110 ≤ iN (104 + d) ∧ iN (104 + d) - 104 = iN d := by decide +kernel
      obtain ⟨c1, c2, c3, c4, c5, c6⟩ := hc d hd
      refine kbr (iN (104 + d)) (p + 3) _ A1 [(12, iN d, 0)] c1 c2 (by omega) h1 (by simp; omega) (fun os => ?_) ?_
      · rw [if_neg c3, if_pos c4, c6]
        simp only [clM, if_neg c3, if_pos c4, if_neg c5, c6]
        simp [enc, eO]
      · rw [if_neg c3, if_pos c4, c6]
        exact kk
    · have hf' : isF (chr T n (p + 1 + 1)) = false := hf
      rw [if_pos hf'] at kk
      exact kk
  · -- a VARIABLE, or nothing
    unfold ePart at kk
    rw [if_neg (by rw [nD]; decide), if_neg n40, if_neg (by rw [nM]; decide)] at kk
    by_cases hb : pNm2 T n on op p = true
    · have h6 : op = 6 := by
        rcases hnm with h6 | h6
        · omega
        · rw [hb] at h6; cases h6
      rw [if_pos hb] at kk
      unfold dCall at kk
      rw [if_pos (by omega)] at kk
      have hc : (chr T n p = 65 ∨ chr T n p = 70 ∨ chr T n p = 73 ∨ chr T n p = 83) ∧ (chr T n (p + 1) = 66 ∨ chr T n (p + 1) = 78 ∨ chr T n (p + 1) = 71) := by
        unfold pNm2 at hb
        by_cases c65 : chr T n p = 65
        · rw [if_pos c65] at hb; exact ⟨Or.inl c65, Or.inl (of_decide_eq_true hb)⟩
        · rw [if_neg c65] at hb
          by_cases c70 : chr T n p = 70
          · rw [if_pos c70] at hb; exact ⟨Or.inr (Or.inl c70), Or.inr (Or.inl (of_decide_eq_true hb))⟩
          · rw [if_neg c70] at hb
            by_cases c73 : chr T n p = 73
            · rw [if_pos c73] at hb; exact ⟨Or.inr (Or.inr (Or.inl c73)), Or.inr (Or.inl (of_decide_eq_true hb))⟩
            · rw [if_neg c73] at hb
              by_cases c83 : chr T n p = 83
              · rw [if_pos c83] at hb
                simp only [Bool.and_eq_true] at hb
                exact ⟨Or.inr (Or.inr (Or.inr c83)), Or.inr (Or.inr (of_decide_eq_true hb.1))⟩
              · rw [if_neg c83] at hb; cases hb
      have hv : isV (chr T n p) = true := by rcases hc.1 with h | h | h | h <;> rw [h] <;> decide
      have hno : nop T n 1 (p + 1) := by
        unfold nop
        rcases hc.2 with h | h | h <;> rw [h] <;> decide
      have h4441 : chr T n (p + 1) ≠ 44 ∧ chr T n (p + 1) ≠ 41 := by rcases hc.2 with h | h | h <;> rw [h] <;> decide
      refine ⟨fun _ A1 h1 => ⟨fun h => absurd rfl h, fun _ => ?_⟩, fun h => by rw [hv] at h; cases h⟩
      rcases hMK with h0 | ⟨σ', m, π, e, hm, hπ⟩
      · omega
      · obtain ⟨ins, rfl⟩ : ∃ i, ins = i + 1 := ⟨ins - 1, by omega⟩
        subst h6
        subst e
        exact yE_close (op := 5) hB (by omega) hm (by omega) h1 hπ hno (by simp at hl ⊢; omega) (fun h => absurd h h4441.1) (fun h => absurd h h4441.2) (fun _ _ => kk)
    · rw [if_neg hb] at kk
      refine ⟨fun hv A1 h1 => ⟨fun h => absurd rfl h, fun _ => ?_⟩, fun hv r A1 h1 => kb p r A1 h1 ?_⟩
      · rw [if_pos hv] at kk
        refine kk A1 fu (by omega) (by omega) (by simpa [enc, eO] using h1) ?_
        simp [enc, eO]; omega
      · rw [if_neg (by rw [hv]; decide)] at kk
        exact kk
end YS
