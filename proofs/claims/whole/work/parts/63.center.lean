/-! the class's enter -/
section CE
variable {A : Mem} {P : PT}
theorem PC_FrC {A' : Mem} (h : PC A P) (hF : FrC A (ln A 24) A') : PC A' P := by
  have hr := h.2.2.2.1 24 (by omega)
  have hln : ∀ j, j < 25 → ln A' j = ln A j := fun j hj => by
    unfold ln
    by_cases hj24 : j < 24
    · rw [if_pos hj24, if_pos hj24, hF.2.2.1 7 j (by omega)]
    · rw [if_neg hj24, if_neg hj24, hF.2.2.1 3 0 (by omega)]
  refine ⟨h.1, ?_, ?_, fun i hi => ?_, fun i j hi hj e => ?_, fun i v d hp => ?_⟩
  · rw [hF.2.2.2 6 (by omega) (by omega) (by omega) (by omega) (by omega) (by omega) (by omega)]; exact h.2.1
  · rw [hF.2.2.1 6 1 (by omega)]; exact h.2.2.1
  · rw [hln i hi]; exact h.2.2.2.1 i hi
  · rw [hln i hi, hln j hj] at e; exact h.2.2.2.2.1 i j hi hj e
  · have hi : i < 24 := by have := (List.getElem?_eq_some_iff.mp hp).1; have := h.1; omega
    have hri := h.2.2.2.1 i (by omega)
    have hne : ln A i ≠ ln A 24 := fun e => by have := h.2.2.2.2.1 i 24 (by omega) (by omega) e; omega
    rw [hln i (by omega)]
    have g : ∀ o, o = ln A i ∨ o = ln A i + 30 ∨ o = ln A i + 60 ∨ o = ln A i + 90 ∨ o = ln A i + 120 → gI A' o = gI A o := fun o ho => hF.2.2.2 o (by omega) (by omega) (by omega) (by omega) (by omega) (by omega) (by omega)
    refine CLv_cg (h.2.2.2.2.2 i v d hp) (g _ (by omega)) (g _ (by omega)) (g _ (by omega)) (g _ (by omega)) (g _ (by omega)) ?_
    funext k
    exact hF.2.2.1 _ k (by omega)
theorem PC_1 {k : Nat} {v : Int32} (h : PC A P) : PC (sI A 1 k v) P := by
  refine ⟨h.1, ?_, h.2.2.1, h.2.2.2.1, h.2.2.2.2.1, fun i w d hp => ?_⟩
  · rw [gI_row (by omega)]; exact h.2.1
  · have hi : i < 25 := by have := (List.getElem?_eq_some_iff.mp hp).1; have := h.1; omega
    have hri := h.2.2.2.1 i hi
    exact CLv_cg (h.2.2.2.2.2 i w d hp) (gI_row (by show ln A i ≠ 1; omega)) (gI_row (by show ln A i + 30 ≠ 1; omega)) (gI_row (by show ln A i + 60 ≠ 1; omega)) (gI_row (by show ln A i + 90 ≠ 1; omega)) (gI_row (by show ln A i + 120 ≠ 1; omega)) rfl
theorem CLv_1 {L k : Nat} {v w : Int32} {d : LDT} (h : CLv A L w d) (hL : 100 ≤ L) : CLv (sI A 1 k v) L w d :=
  CLv_cg h (gI_row (by omega)) (gI_row (by omega)) (gI_row (by omega)) (gI_row (by omega)) (gI_row (by omega)) rfl
theorem eFr_C {A' : Mem} {L : Nat} (hL : 100 ≤ L) (hL2 : L < 125) (h : FrC A L A') : eFr A A' :=
  ⟨h.1, h.2.1, fun o h1 h2 h3 h4 h5 => h.2.2.2 o h3 h4 (by omega) (by omega) (by omega) (by omega) (by omega), fun o ho => h.2.2.2 o (by omega) (by omega) (by omega) (by omega) (by omega) (by omega) (by omega), fun o k h1 h2 h3 => h.2.2.1 o k (by omega)⟩
theorem eFr_1 {A' : Mem} {k : Nat} {v : Int32} (h : eFr A A') : eFr A (sI A' 1 k v) :=
  ⟨h.1, h.2.1, fun o h1 h2 h3 h4 h5 => (gI_row h2).trans (h.2.2.1 o h1 h2 h3 h4 h5), fun o ho => (gI_row (by omega)).trans (h.2.2.2.1 o ho), h.2.2.2.2⟩
theorem eFr_P {B C : Mem} (h : eFr A B) (hP : FrP B C) : eFr A C :=
  ⟨hP.2.2.1.trans h.1, hP.2.2.2.1.trans h.2.1, fun o h1 h2 h3 h4 h5 => (hP.1 o h5).trans (h.2.2.1 o h1 h2 h3 h4 h5), fun o ho => (hP.1 o (by omega)).trans (h.2.2.2.1 o ho), fun o k h1 h2 h3 => (congrFun (hP.2.2.2.2 o h1) k).trans (h.2.2.2.2 o k h1 h2 h3)⟩
theorem eFr_30 {B : Mem} {v : Nat} (h : eFr A B) : eFr A (sR B 3 0 v) :=
  ⟨h.1, h.2.1, h.2.2.1, h.2.2.2.1, fun o k h1 h2 h3 => (gR_ne (by omega)).trans (h.2.2.2.2 o k h1 h2 h3)⟩
/-- the line of the typed characters -/
abbrev lnT (tl : List Int32) : Nat → Int32 := fun k => (blk (fun k => tl.getD k 0) tl.length).getD k 0
abbrev lnN (tl : List Int32) : Nat := (blk (fun k => tl.getD k 0) tl.length).length
/-- what stands typed -/
def TC (A : Mem) (tl : List Int32) : Prop := tl.length ≤ 60 ∧ gI A 1 1 = iN tl.length ∧ (∀ k, k < tl.length → gI A 2 k = tl.getD k 0) ∧ ∀ k, k < tl.length → 0 ≤ tl.getD k 0 ∧ tl.getD k 0 ≤ 127
theorem c_enter {tl : List Int32} {K : Int32 → Mem → Prop} {KX : Nat → Mem → Prop} (hW : WC A) (hP : PC A P) (hT : TC A tl)
    (k : match pLine (lnT tl) (lnN tl) with
      | .error q => ∀ A', eFr A A' → PC A' P → gI A' 1 1 = iN 0 → gI A' 1 2 = iN q → KX 0 A'
      | .ok (_, (v, none)) => (match remS P v with
        | some P' => ∀ A', eFr A A' → PC A' P' → gI A' 1 1 = iN 0 → gI A' 1 2 = -1 → K (iN P'.length) A'
        | none => ∀ A', eFr A A' → PC A' P → gI A' 1 1 = iN 0 → gI A' 1 2 = -1 → KX 2 A')
      | .ok (_, (v, some d)) => (match putS P v d with
        | some P' => ∀ A', eFr A A' → PC A' P' → gI A' 1 1 = iN 0 → gI A' 1 2 = -1 → K (iN P'.length) A'
        | none => ∀ A', eFr A A' → PC A' P → gI A' 1 1 = iN 0 → gI A' 1 2 = -1 → KX 1 A')) : wp_BM_enter 1 A K KX := by
  obtain ⟨⟨a1, a2, a3, a4⟩, ⟨b1, b2, b3, b4, b5, b6⟩, -, -, -, f⟩ := id hW
  obtain ⟨t1, t2, t3, t4⟩ := hT
  have hr := hP.2.2.2.1 24 (by omega)
  have hL := f _ hr.1 hr.2
  have h30 : gR A 3 0 = ln A 24 := rfl
  have hWP : WP A (ln A 24) := ⟨hr.1, hr.2, h30, a4, hL.1, hL.2.1, hL.2.2.1, hL.2.2.2⟩
  unfold wp_BM_enter
  rw [a2, a1, t2]
  refine ⟨rfl, rfl, x_takeApart hWP t1 t3 t4 ?_⟩
  cases hp : pLine (lnT tl) (lnN tl) with
  | error q =>
    rw [hp] at k
    intro A2 hf
    have hPC := PC_FrC hP hf.1
    have hFr := eFr_C hr.1 hr.2 hf.1
    have g13 : gR A2 1 3 = 3 := (hFr.2.2.2.2 1 3 (by omega) (by omega) (by omega)).trans a2
    refine ⟨fun _ => ?_, fun h => (by cases h)⟩
    rw [gR_sI, g13]
    refine ⟨rfl, fun h => (by cases h), fun _ => k _ (eFr_1 (eFr_1 hFr)) (PC_1 (PC_1 hPC)) ?_ ?_⟩
    · rw [gI_ne (by omega), gI_eq]; rfl
    · rw [gI_eq, gI_ne (by omega)]; exact hf.2.2.1
  | ok z =>
    obtain ⟨p', v, od⟩ := z
    rw [hp] at k
    intro A2 hc
    -- what both ends have
    have hFC : FrC A (ln A 24) A2 := by
      cases od with
      | none => exact hc.1
      | some d => obtain ⟨o, s, q, hv, -⟩ := hc.1; exact hv.1.1
    have hPC := PC_FrC hP hFC
    have hFr := eFr_C hr.1 hr.2 hFC
    have hln : ln A2 24 = ln A 24 := hFC.2.2.1 3 0 (by omega)
    have g13 : gR A2 1 3 = 3 := (hFr.2.2.2.2 1 3 (by omega) (by omega) (by omega)).trans a2
    have g14 : gR A2 1 4 = 5 := (hFr.2.2.2.2 1 4 (by omega) (by omega) (by omega)).trans a3
    have g50 : gR A2 5 0 = 6 := (hFr.2.2.2.2 5 0 (by omega) (by omega) (by omega)).trans b1
    have g30 : gR A2 3 0 = ln A 24 := hln
    have hPB := PC_1 (k := 2) (v := -1) (PC_1 (k := 1) (v := 0) hPC)
    have hFB : eFr A (sI (sI A2 1 1 0) 1 2 (-1)) := eFr_1 (eFr_1 hFr)
    have hB1 : gI (sI (sI A2 1 1 0) 1 2 (-1)) 1 1 = iN 0 := by rw [gI_ne (by omega), gI_eq]; rfl
    have hB2 : gI (sI (sI A2 1 1 0) 1 2 (-1)) 1 2 = -1 := gI_eq
    have row : ∀ o, o ≠ 1 → gI (sI (sI A2 1 1 0) 1 2 (-1)) o = gI A2 o := fun o ho => by rw [gI_row ho, gI_row ho]
    have gr : gR (sI (sI A2 1 1 0) 1 2 (-1)) = gR A2 := rfl
    refine ⟨fun h => (by cases h), fun _ => ⟨fun _ => ?_, fun h => (by cases h)⟩⟩
    rw [gr, g13, g14, g50, g30, row _ (by omega)]
    refine ⟨rfl, kdL hr.1 hr.2, ?_⟩
    generalize hBB : sI (sI A2 1 1 0) 1 2 (-1) = B at *
    cases od with
    | none =>
      have hc1 : gI A2 (ln A 24) 1 = 1 := hc.2.2
      have hc0 : gI A2 (ln A 24) 0 = v := hc.2.1
      rw [hc1]
      refine ⟨fun h => absurd h (by decide), fun _ => ⟨rfl, rfl, ?_⟩⟩
      rw [hc0]
      refine c_remove hPB ?_
      simp only at k
      cases hrm : remS P v with
      | none =>
        rw [hrm] at k
        exact ⟨fun h => (by cases h), fun _ => k B hFB hPB hB1 hB2⟩
      | some P' =>
        rw [hrm] at k
        intro A' hFP hP'
        have g := eFr_P hFB hFP
        refine ⟨fun _ => ?_, fun h => (by cases h)⟩
        rw [g.2.2.2.2 1 4 (by omega) (by omega) (by omega), a3, g.2.2.2.2 5 0 (by omega) (by omega) (by omega), b1, hP'.2.1]
        exact ⟨rfl, rfl, k A' g hP' (by rw [hFP.1 1 (by omega)]; exact hB1) (by rw [hFP.1 1 (by omega)]; exact hB2)⟩
    | some d =>
      have hc1 : gI A2 (ln A 24) 1 = 0 := hc.2
      rw [hc1]
      refine ⟨fun _ => ⟨rfl, rfl, ?_⟩, fun h => absurd rfl h⟩
      have hlB : ln B 24 = ln A 24 := by
        have : ln B 24 = gR B 3 0 := rfl
        rw [this, gr, g30]
      have hCB : CLv B (ln B 24) v d := by
        rw [hlB, ← hBB]
        exact CLv_1 (CLv_1 (CLv_of hc.1) hr.1) hr.1
      rw [← hlB]
      refine c_put hPB hCB ?_
      simp only at k
      cases hpt : putS P v d with
      | none =>
        rw [hpt] at k
        exact ⟨fun h => absurd rfl h, fun _ => k B hFB hPB hB1 hB2⟩
      | some P' =>
        rw [hpt] at k
        intro A' r hr0 hFP hP'
        have g := eFr_P hFB hFP
        have g' : eFr A (sR A' 3 0 r) := eFr_30 g
        refine ⟨fun _ => ?_, fun h => absurd h hr0⟩
        rw [g.2.2.2.2 1 3 (by omega) (by omega) (by omega), a2, g'.2.2.2.2 1 4 (by omega) (by omega) (by omega), a3, g'.2.2.2.2 5 0 (by omega) (by omega) (by omega), b1, hP'.2.1]
        exact ⟨rfl, rfl, rfl, k _ g' hP' (by rw [gI_sR, hFP.1 1 (by omega)]; exact hB1) (by rw [gI_sR, hFP.1 1 (by omega)]; exact hB2)⟩
end CE
