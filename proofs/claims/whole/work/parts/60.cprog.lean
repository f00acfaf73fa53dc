/-! the class's program: lines in order, and rows for lines to come -/
/-- the row of place i; 24 is the parser's own -/
def ln (A : Mem) (i : Nat) : Nat := if i < 24 then gR A 7 i else gR A 3 0
/-- the row L shows the line d of number v -/
def CLv (A : Mem) (L : Nat) (v : Int32) (d : LDT) : Prop := ∃ (s : Nat → Int32) (q : Nat → Nat), LG v d s q ∧
  ((∀ k, k ≠ 9 → k ≠ 12 → k ≠ 14 → gI A L k = s k) ∧ gR A L 2 = q 2 ∧ gR A L 7 = q 7) ∧
  (gI A L 9 = iN (cNu d).length ∧ (cNu d).length ≤ 6 ∧ lsI (gI A (L + 30)) (cNu d)) ∧
  (gI A L 12 = iN (cOs d.2.2.2.2.1).length ∧ (cOs d.2.2.2.2.1).length ≤ 60 ∧ lsI (fun k => (gI A (L + 60) k, gI A (L + 90) k)) (cOs d.2.2.2.2.1)) ∧
  (gI A L 14 = iN (cEn 0 d.2.2.2.2.1).length ∧ (cEn 0 d.2.2.2.2.1).length ≤ 3 ∧ lsI (gI A (L + 120)) (cEn 0 d.2.2.2.2.1))
theorem CLv_cg {A B : Mem} {L : Nat} {v : Int32} {d : LDT} (h : CLv A L v d) (e0 : gI B L = gI A L) (e1 : gI B (L + 30) = gI A (L + 30)) (e2 : gI B (L + 60) = gI A (L + 60)) (e3 : gI B (L + 90) = gI A (L + 90)) (e4 : gI B (L + 120) = gI A (L + 120)) (e5 : gR B L = gR A L) : CLv B L v d := by
  unfold CLv
  rw [e0, e1, e2, e3, e4, e5]
  exact h
theorem CLv_of {A0 A : Mem} {T : Nat → Int32} {n L p : Nat} {v : Int32} {d : LDT} (h : CGood A0 T n L p v d A) : CLv A L v d := by
  obtain ⟨o, s, q, hv, hl⟩ := h
  have hle : (cOs d.2.2.2.2.1).length ≤ 60 := by have := VP_len hv; have := VP_n hv; omega
  exact ⟨s, q, hl, hv.2.2.1, hv.2.2.2.1, ⟨hv.2.2.2.2.1.1, hle, hv.2.2.2.2.1.2.2⟩, hv.2.2.2.2.2⟩
abbrev PT := List (Int32 × LDT)
def PC (A : Mem) (P : PT) : Prop := P.length ≤ 24 ∧ gI A 6 0 = iN P.length ∧ gR A 6 1 = 7 ∧ (∀ i, i < 25 → 100 ≤ ln A i ∧ ln A i < 125) ∧ (∀ i j, i < 25 → j < 25 → ln A i = ln A j → i = j) ∧ ∀ i v d, P[i]? = some (v, d) → CLv A (ln A i) v d
/-- the place of the line of number v -/
def fnd : PT → Int32 → Nat → Option Nat
  | [], _, _ => none
  | e :: r, v, i => if e.1 = v then some i else fnd r v (i + 1)
/-- how many lines have a lesser number than v -/
def plc : PT → Int32 → Nat
  | [], _ => 0
  | e :: r, v => if v ≤ e.1 then 0 else plc r v + 1
def nbr (P : PT) (i : Nat) : Int32 := match P[i]? with
  | some e => e.1
  | none => -1
section PCs
variable {A : Mem} {P : PT}
theorem CLv_num {L : Nat} {v : Int32} {d : LDT} (h : CLv A L v d) : gI A L 0 = v := by
  obtain ⟨s, q, hl, hs, -⟩ := h
  rw [hs.1 0 (by omega) (by omega) (by omega)]
  exact hl.1.1
theorem ln_lt {i : Nat} (hi : i < 24) : ln A i = gR A 7 i := by unfold ln; rw [if_pos hi]
theorem c_lineAt {i : Nat} {K : Nat → Mem → Prop} (h : PC A P) (hi : i < 1000) (k : K (if i < P.length then ln A i else 0) A) : wp_Pr_lineAt 6 (iN i) A K := by
  obtain ⟨h1, h2, h3, h4, h5, h6⟩ := h
  unfold wp_Pr_lineAt
  rw [h2, h3, show (0 : Int32) = iN 0 from rfl, iN_lt (by omega) (by omega), iN_le (by omega) (by omega), show Int32.ofNat (al 7) = iN 24 from rfl, iN_le (by omega) (by omega), iN_cl (by omega)]
  refine ⟨fun h => by omega, fun _ => ⟨rfl, fun h => ?_, fun h => ⟨rfl, fun h' => by omega, fun h' => ⟨iN_in (m := 24) (by omega) (by omega), ?_⟩⟩⟩⟩
  · rw [if_neg (by omega)] at k; exact k
  · rw [if_pos (by omega), ln_lt (by omega)] at k; exact k
theorem c_lineAtN {K : Nat → Mem → Prop} (k : K 0 A) : wp_Pr_lineAt 6 (-1) A K := ⟨fun _ => k, fun h => absurd (by decide) h⟩
theorem c_numberOf {i : Nat} {K : Int32 → Mem → Prop} (h : PC A P) (hi : i < 1000) (k : K (nbr P i) A) : wp_Pr_numberOf 6 (iN i) A K := by
  refine ⟨rfl, c_lineAt h hi ?_⟩
  unfold nbr at k
  by_cases hl : i < P.length
  · rw [if_pos hl]
    rw [List.getElem?_eq_getElem hl] at k
    have hr := h.2.2.2.1 i (by have := h.1; omega)
    refine ⟨fun _ => ⟨kdL hr.1 hr.2, ?_⟩, fun h0 => by omega⟩
    rw [CLv_num (h.2.2.2.2.2 i _ _ (List.getElem?_eq_getElem hl))]
    exact k
  · rw [if_neg hl]
    rw [List.getElem?_eq_none (by omega)] at k
    exact ⟨fun h => absurd rfl h, fun _ => k⟩
theorem c_numberOfN {K : Int32 → Mem → Prop} (k : K (-1) A) : wp_Pr_numberOf 6 (-1) A K := ⟨rfl, c_lineAtN ⟨fun h => absurd rfl h, fun _ => k⟩⟩
theorem nbr_drop {i : Nat} (hi : i < P.length) : P.drop i = (P[i]) :: P.drop (i + 1) ∧ nbr P i = (P[i]).1 := by
  refine ⟨List.drop_eq_getElem_cons hi, ?_⟩
  unfold nbr
  rw [List.getElem?_eq_getElem hi]
theorem c_find {v : Int32} {K : Int32 → Mem → Prop} (h : PC A P) (k : K (match fnd P v 0 with | some i => iN i | none => -1) A) : wp_Pr_find 6 v A K := by
  have lp : ∀ (j i fu : Nat), i + j = P.length → j < fu → K (match fnd (P.drop i) v i with | some i => iN i | none => -1) A → wp_Pr_find_c2 K fu 6 v (iN i) A := by
    intro j
    induction j with
    | zero =>
      intro i fu hi hfu k
      obtain ⟨fu, rfl⟩ : ∃ g, fu = g + 1 := ⟨fu - 1, by omega⟩
      have := h.1
      rw [List.drop_eq_nil_of_le (by omega)] at k
      unfold wp_Pr_find_c2
      rw [h.2.1, iN_le (by omega) (by omega)]
      exact ⟨rfl, fun _ => k, fun h => absurd (show P.length ≤ i by omega) h⟩
    | succ j ih =>
      intro i fu hi hfu k
      obtain ⟨fu, rfl⟩ : ∃ g, fu = g + 1 := ⟨fu - 1, by omega⟩
      have := h.1
      obtain ⟨e1, e2⟩ := nbr_drop (P := P) (i := i) (by omega)
      rw [e1, fnd] at k
      unfold wp_Pr_find_c2
      rw [h.2.1, iN_le (by omega) (by omega)]
      refine ⟨rfl, fun h => by omega, fun _ => c_numberOf h (by omega) ?_⟩
      rw [e2, iN_1]
      refine ⟨fun hne => ?_, fun he => ?_⟩
      · rw [if_neg hne] at k
        exact ih (i + 1) fu (by omega) (by omega) k
      · rw [if_pos he] at k
        exact k
  exact ⟨P.length + 1, lp P.length 0 _ (by omega) (by omega) (by simpa using k)⟩
theorem plc_le (P : PT) (v : Int32) : plc P v ≤ P.length := by
  induction P with
  | nil => exact Nat.le_refl _
  | cons e r ih =>
    unfold plc
    split
    · exact Nat.zero_le _
    · simp only [List.length_cons]; omega
theorem c_placeFor {v : Int32} {K : Int32 → Mem → Prop} (h : PC A P) (k : K (iN (plc P v)) A) : wp_Pr_placeFor 6 v A K := by
  have lp : ∀ (j i fu : Nat), i + j = P.length → j < fu → K (iN (i + plc (P.drop i) v)) A → wp_Pr_placeFor_c2 K fu 6 v (iN i) A := by
    intro j
    induction j with
    | zero =>
      intro i fu hi hfu k
      obtain ⟨fu, rfl⟩ : ∃ g, fu = g + 1 := ⟨fu - 1, by omega⟩
      have := h.1
      rw [List.drop_eq_nil_of_le (by omega)] at k
      unfold wp_Pr_placeFor_c2
      rw [h.2.1, iN_le (by omega) (by omega)]
      exact ⟨rfl, fun _ => k, fun h => absurd (show P.length ≤ i by omega) h⟩
    | succ j ih =>
      intro i fu hi hfu k
      obtain ⟨fu, rfl⟩ : ∃ g, fu = g + 1 := ⟨fu - 1, by omega⟩
      have := h.1
      obtain ⟨e1, e2⟩ := nbr_drop (P := P) (i := i) (by omega)
      rw [e1, plc] at k
      unfold wp_Pr_placeFor_c2
      rw [h.2.1, iN_le (by omega) (by omega)]
      refine ⟨rfl, fun h => by omega, fun _ => c_numberOf h (by omega) ?_⟩
      rw [e2, iN_1]
      refine ⟨fun hle => ?_, fun hnl => ?_⟩
      · rw [if_pos hle] at k
        exact k
      · rw [if_neg hnl] at k
        exact ih (i + 1) fu (by omega) (by omega) (by rw [show i + 1 + plc (P.drop (i + 1)) v = i + (plc (P.drop (i + 1)) v + 1) by omega]; exact k)
  exact ⟨P.length + 1, lp P.length 0 _ (by omega) (by omega) (by simpa using k)⟩
end PCs
