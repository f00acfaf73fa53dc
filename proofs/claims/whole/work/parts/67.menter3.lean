/-! the reference's enter, from its beginning -/
theorem gt_some {l : List Int32} {j : Nat} (h : j < l.length) : l[j]? = some (l.getD j 0) := by simp [List.getD, h]
theorem pLN_pos {T : Nat → Int32} {n p : Nat} : OKP (pLN T n p) (fun _ v => 0 < v) (fun _ => True) := by
  unfold pLN
  split
  · trivial
  · rename_i h1
    split
    · split
      · assumption
      · trivial
    · rename_i h2
      split
      · split
        · assumption
        · trivial
      · rename_i h3
        split
        · trivial
        · rename_i hz
          have h1 : isD (chr T n p) = true := by simpa using h1
          have h2 : isD (chr T n (p + 1)) = true := by simpa using h2
          have h3 : isD (chr T n (p + 2)) = true := by simpa using h3
          obtain ⟨d1, hd1, ec1⟩ := dig_iN h1
          obtain ⟨d2, hd2, ec2⟩ := dig_iN h2
          obtain ⟨d3, hd3, ec3⟩ := dig_iN h3
          have r1 : chr T n p - 48 = iN d1 := by
            rw [ec1, show (48 : Int32) = iN 48 from rfl, iN_sub (by omega)]
            congr 1
          rw [r1, ec2, ec3, dig_step, dig_step, show (0 : Int32) = iN 0 from rfl, iN_eq (by omega) (by omega)] at hz
          show 0 < _
          rw [r1, ec2, ec3, dig_step, dig_step, show (0 : Int32) = iN 0 from rfl, iN_lt (by omega) (by omega)]
          omega
section MG9
variable {A : Mem} {P : PT} {sl : List Nat}
def TMd (A : Mem) (tl : List Int32) : Prop := tl.length ≤ 60 ∧ gI A 250 1 = iN tl.length ∧ (∀ k, k < tl.length → gI A 251 k = tl.getD k 0) ∧ ∀ k, k < tl.length → 0 ≤ tl.getD k 0 ∧ tl.getD k 0 ≤ 127
/-- the loop that leaves blanks out keeps this -/
def BlM (A A1 : Mem) (f : Nat → Int32) (i : Nat) : Prop :=
  (∀ o, o ≠ 250 → o ≠ 252 → gI A1 o = gI A o) ∧ gD A1 = gD A ∧ gL A1 = gL A ∧ gR A1 = gR A ∧ (∀ k, k ≠ 2 → gI A1 250 k = gI A 250 k) ∧ gI A1 250 2 = iN (blk f i).length ∧ lsI (gI A1 252) (blk f i)
theorem m_enter {tl : List Int32} {K : Int32 → Mem → Prop} (hW : MW A) (hs : Psr P) (hl24 : P.length ≤ 24) (hP : PMs A P sl) (hT : TMd A tl)
    (k : match pLine (lnT tl) (lnN tl) with
      | .error q => ∀ A'', mFr A A'' → PMs A'' P sl → gI A'' 250 1 = iN 0 → gI A'' 250 3 = iN q → gI A'' 250 0 = 1 → ∀ r, K r A''
      | .ok (_, (v, none)) => (match remS P v with
        | some P' => ∀ A'' sl', mFr A A'' → PMs A'' P' sl' → gI A'' 250 1 = iN 0 → gI A'' 250 3 = -1 → gI A'' 250 0 = 0 → K (iN P'.length) A''
        | none => ∀ A'', mFr A A'' → PMs A'' P sl → gI A'' 250 1 = iN 0 → gI A'' 250 3 = -1 → gI A'' 250 0 = 2 → ∀ r, K r A'')
      | .ok (_, (v, some d)) => (match putS P v d with
        | some P' => ∀ A'' sl', mFr A A'' → PMs A'' P' sl' → gI A'' 250 1 = iN 0 → gI A'' 250 3 = -1 → gI A'' 250 0 = 0 → K (iN P'.length) A''
        | none => ∀ A'', mFr A A'' → PMs A'' P sl → gI A'' 250 1 = iN 0 → gI A'' 250 3 = -1 → gI A'' 250 0 = 3 → ∀ r, K r A'')) : wp_Mo_enter 250 A K := by
  obtain ⟨t1, t2, t3, t4⟩ := hT
  -- behind the loop
  have fin : ∀ A1 fu, BlM A A1 (fun k => tl.getD k 0) tl.length → wp_Mo_enter_c7 K (fu + 1) 250 (iN tl.length) A1 := by
    intro A1 fu hb
    obtain ⟨b1, b2, b3, b4, b5, b6, b7⟩ := hb
    have hblk := blk_len (fun k => tl.getD k 0) tl.length
    have hW1 : MW A1 := by unfold MW; rw [b4]; exact hW
    refine ⟨rfl, fun _ => ?_, fun h => absurd (show gI A1 250 1 ≤ iN tl.length by rw [b5 1 (by omega), t2]; exact Int32.le_refl _) h⟩
    generalize hB : sI (sI (sI (sI (sI (sI A1 250 1 0) 250 4 0) 250 5 0) 250 6 0) 250 7 0) 250 3 (-1) = B
    have row : ∀ o, o ≠ 250 → gI B o = gI A1 o := fun o ho => by rw [← hB, gI_row ho, gI_row ho, gI_row ho, gI_row ho, gI_row ho, gI_row ho]
    have cel : ∀ j, j ≠ 1 → j ≠ 3 → j ≠ 4 → j ≠ 5 → j ≠ 6 → j ≠ 7 → gI B 250 j = gI A1 250 j := fun j h1 h3 h4 h5 h6 h7 => by
      rw [← hB, gI_ne (Or.inr h3), gI_ne (Or.inr h7), gI_ne (Or.inr h6), gI_ne (Or.inr h5), gI_ne (Or.inr h4), gI_ne (Or.inr h1)]
    have e1 : gI B 250 1 = 0 := by rw [← hB, gI_ne (by omega), gI_ne (by omega), gI_ne (by omega), gI_ne (by omega), gI_ne (by omega), gI_eq]
    have e3 : gI B 250 3 = -1 := by rw [← hB, gI_eq]
    have e4 : gI B 250 4 = iN 0 := by rw [← hB, gI_ne (by omega), gI_ne (by omega), gI_ne (by omega), gI_ne (by omega), gI_eq]; rfl
    have e5 : gI B 250 5 = iN 0 := by rw [← hB, gI_ne (by omega), gI_ne (by omega), gI_ne (by omega), gI_eq]; rfl
    have e6 : gI B 250 6 = iN 0 := by rw [← hB, gI_ne (by omega), gI_ne (by omega), gI_eq]; rfl
    have e7 : gI B 250 7 = 0 := by rw [← hB, gI_ne (by omega), gI_eq]
    have gD' : gD B = gD A1 := by rw [← hB]; rfl
    have gL' : gL B = gL A1 := by rw [← hB]; rfl
    have gR' : gR B = gR A1 := by rw [← hB]; rfl
    have hBse : ∀ s, Bse A (sI B 253 24 s) := fun s => ⟨gD'.trans b2, gL'.trans b3, gR'.trans b4, fun o h1 h2 h3 h4 => by rw [gI_row h3, row o h1]; exact b1 o h1 h2, fun j hj => ⟨by rw [gI_ne (Or.inr hj), row 253 (by omega), b1 253 (by omega) (by omega)], by rw [gI_row (by omega), row 254 (by omega), b1 254 (by omega) (by omega)]⟩, fun j hj => by rw [gI_row (by omega), cel j (by omega) (by omega) (by omega) (by omega) (by omega) (by omega)]; exact b5 j (by omega), by rw [gI_row (by omega)]; exact e1, by rw [gI_row (by omega)]; exact e3⟩
    have hM0 : MB0 B (lnT tl) (lnN tl) := by
      refine ⟨by unfold MW; rw [gR']; exact hW1, by show (blk _ _).length ≤ 60; omega, ?_, fun j hj => ⟨?_, ?_⟩⟩
      · rw [cel 2 (by omega) (by omega) (by omega) (by omega) (by omega) (by omega)]; exact b6
      · rw [row 252 (by omega)]
        refine b7 j _ ?_
        exact gt_some hj
      · obtain ⟨c, hc, he⟩ := blk_mem (fun k => tl.getD k 0) tl.length (c := lnT tl j) (by
          show (blk _ _).getD j 0 ∈ _
          rw [List.getD_eq_getElem?_getD, List.getElem?_eq_getElem hj]
          exact List.getElem_mem hj)
        rw [← he]
        exact (t4 c hc).1
    have hG0 : MG B (lnN tl) 0 (gI B 258) 0 ((0, [], fun j => gI B 255 (192 + j), fun j => gI B 256 (96 + j)) : MT) B := ⟨⟨rfl, rfl, rfl, fun _ _ _ _ _ _ _ => rfl⟩, Nat.zero_le _, Nat.le_refl _, e4, e5, Nat.zero_le _, e6, e7, lsI_nil _, fun _ _ => rfl, fun _ _ => rfl, rfl⟩
    refine y_ln hM0 (w := 0) (e := 0) (st := .ok (0, ((0, [], fun j => gI B 255 (192 + j), fun j => gI B 256 (96 + j)) : MT))) ⟨hG0, by simp⟩ (fun r A3 h3 => ?_)
    rw [bnd_ok] at h3
    have gB10 : gR B 250 10 = 253 := by rw [gR', hW1.1 10 (by omega) (by omega)]
    rw [gB10, show (24 : Int32) = iN 24 from rfl, iN_cl (by omega)]
    refine ⟨rfl, iN_in (m := 25) (by omega) (by omega), fun A7 hA7 => ?_⟩
    unfold pLine at k
    cases hp : pLN (lnT tl) (lnN tl) 0 with
    | error q =>
      rw [hp] at h3 k
      have hb3 : MBd (sI B 253 24 r) (lnN tl) q 130 A7 := by subst hA7; exact MBd_b3 h3
      have hb7 := MBd_ne hb3
      have c : wp_Mo_enter_c140 K 250 0 A7 := c140_bad (hBse r) hP hb3 (fun A'' a1 a2 a3 a4 a5 r' => k A'' a1 a2 a3 a4 a5 r')
      exact ⟨fun _ => ⟨fun h => absurd rfl h, fun _ => ⟨fun _ => c, fun h => absurd h hb7⟩⟩, fun h => absurd h hb7⟩
    | ok z =>
      obtain ⟨p1, v⟩ := z
      rw [hp] at h3 k
      obtain ⟨⟨hG3, hl3⟩, hr⟩ := h3
      have hr : r = v := hr
      subst hr
      have hv : 0 < r := by
        have := pLN_pos (T := lnT tl) (n := lnN tl) (p := 0)
        rw [hp] at this
        exact this
      have hp1 : 1 ≤ p1 := by
        have := pLN_gt (T := lnT tl) (n := lnN tl) (p := 0)
        rw [hp] at this
        exact this
      have hG7 : MG (sI B 253 24 r) (lnN tl) 1 (gI B 258) p1 ((0, [], fun j => gI B 255 (192 + j), fun j => gI B 256 (96 + j)) : MT) A7 := by
        subst hA7
        exact MG_lo (MG_b3 hG3) hp1
      have hM7 : MB0 (sI B 253 24 r) (lnT tl) (lnN tl) := by
        refine ⟨hM0.1, hM0.2.1, ?_, fun j hj => ?_⟩
        · rw [gI_row (by omega)]; exact hM0.2.2.1
        · rw [gI_row (by omega)]; exact hM0.2.2.2 j hj
      have e2 := (FrM_n hM7 hG7.1).1
      have hn60 := hM0.2.1
      have hpn := hG7.2.1
      have k : match (if p1 = lnN tl then (.ok (p1, r, none) : PR (Int32 × Option LDT)) else bnd (pKw (lnT tl) (lnN tl) p1) fun p1 k => bnd (pRest (lnT tl) (lnN tl) k p1) fun p2 d => if p2 = lnN tl then .ok (p2, r, some d) else .error p2) with
        | .error q => ∀ A'', mFr A A'' → PMs A'' P sl → gI A'' 250 1 = iN 0 → gI A'' 250 3 = iN q → gI A'' 250 0 = 1 → ∀ r, K r A''
        | .ok (_, (v, none)) => (match remS P v with
          | some P' => ∀ A'' sl', mFr A A'' → PMs A'' P' sl' → gI A'' 250 1 = iN 0 → gI A'' 250 3 = -1 → gI A'' 250 0 = 0 → K (iN P'.length) A''
          | none => ∀ A'', mFr A A'' → PMs A'' P sl → gI A'' 250 1 = iN 0 → gI A'' 250 3 = -1 → gI A'' 250 0 = 2 → ∀ r, K r A'')
        | .ok (_, (v, some d)) => (match putS P v d with
          | some P' => ∀ A'' sl', mFr A A'' → PMs A'' P' sl' → gI A'' 250 1 = iN 0 → gI A'' 250 3 = -1 → gI A'' 250 0 = 0 → K (iN P'.length) A''
          | none => ∀ A'', mFr A A'' → PMs A'' P sl → gI A'' 250 1 = iN 0 → gI A'' 250 3 = -1 → gI A'' 250 0 = 3 → ∀ r, K r A'') := k
      refine ⟨fun h7 => absurd (MG_e hG7) h7, fun _ => ?_⟩
      rw [hG7.2.2.2.1, e2, iN_eq (by omega) (by omega)]
      refine ⟨fun hne => ⟨fun h => absurd rfl h, fun _ => ⟨fun h7 => absurd (MG_e hG7) h7, fun _ => ?_⟩⟩, fun heq => ⟨fun _ => ?_, fun h => absurd h (by decide)⟩⟩
      · rw [if_neg hne] at k
        refine z_statement hM7 (Nat.le_refl _) hG7 ?_
        have er : (bnd (pKw (lnT tl) (lnN tl) p1) fun p1 k => bnd (pRest (lnT tl) (lnN tl) k p1) fun p2 d => if p2 = lnN tl then (.ok (p2, r, some d) : PR (Int32 × Option LDT)) else .error p2) = bnd (bnd (pKw (lnT tl) (lnN tl) p1) fun p1 k => bnd (pRest (lnT tl) (lnN tl) k p1) (chk (lnN tl))) fun p2 d => .ok (p2, r, some d) := by
          rw [bnd_as]
          congr 1; funext p1 k
          rw [bnd_as]
          congr 1; funext p2 d
          unfold chk
          split <;> rfl
        rw [er] at k
        cases hst : (bnd (pKw (lnT tl) (lnN tl) p1) fun p1 k => bnd (pRest (lnT tl) (lnN tl) k p1) (chk (lnN tl))) with
        | error q =>
          rw [hst] at k
          intro s A' hb
          have hBs2 : Bse A (sI (sI B 253 24 r) 254 24 s) := by
            obtain ⟨c1, c2, c3, c4, c5, c6, c7, c8⟩ := hBse r
            exact ⟨c1, c2, c3, fun o h1 h2 h3 h4 => by rw [gI_row h4]; exact c4 o h1 h2 h3 h4, fun j hj => ⟨by rw [gI_row (by omega)]; exact (c5 j hj).1, by rw [gI_ne (Or.inr hj)]; exact (c5 j hj).2⟩, fun j hj => by rw [gI_row (by omega)]; exact c6 j hj, by rw [gI_row (by omega)]; exact c7, by rw [gI_row (by omega)]; exact c8⟩
          exact c140_bad hBs2 hP hb k
        | ok z2 =>
          obtain ⟨p2, d⟩ := z2
          rw [hst] at k
          intro A' hM
          have hBs2 : Bse A (sI (sI B 253 24 r) 254 24 (iN d.1)) := by
            obtain ⟨c1, c2, c3, c4, c5, c6, c7, c8⟩ := hBse r
            exact ⟨c1, c2, c3, fun o h1 h2 h3 h4 => by rw [gI_row h4]; exact c4 o h1 h2 h3 h4, fun j hj => ⟨by rw [gI_row (by omega)]; exact (c5 j hj).1, by rw [gI_ne (Or.inr hj)]; exact (c5 j hj).2⟩, fun j hj => by rw [gI_row (by omega)]; exact c6 j hj, by rw [gI_row (by omega)]; exact c7, by rw [gI_row (by omega)]; exact c8⟩
          exact c140_st hW hBs2 hs hP hl24 hv (by rw [gI_row (by omega), gI_eq]) gI_eq hM k
      · rw [if_pos heq] at k
        exact c140_rem hW (hBse r) hs hP hv gI_eq hG7 k
  -- the loop
  have lp : ∀ (j i fu : Nat) (A1 : Mem), i + j = tl.length → j < fu → BlM A A1 (fun k => tl.getD k 0) i → wp_Mo_enter_c7 K fu 250 (iN i) A1 := by
    intro j
    induction j with
    | zero =>
      intro i fu A1 hi hfu hb
      obtain ⟨fu, rfl⟩ : ∃ g, fu = g + 1 := ⟨fu - 1, by omega⟩
      obtain rfl : i = tl.length := by omega
      exact fin A1 fu hb
    | succ j ih =>
      intro i fu A1 hi hfu hb
      obtain ⟨fu, rfl⟩ : ∃ g, fu = g + 1 := ⟨fu - 1, by omega⟩
      have hb' := hb
      obtain ⟨b1, b2, b3, b4, b5, b6, b7⟩ := hb
      have hlen := blk_len (fun k => tl.getD k 0) i
      have hc : gI A1 251 i = tl.getD i 0 := by rw [b1 251 (by omega) (by omega)]; exact t3 i (by omega)
      have h2 := t4 i (by omega)
      unfold wp_Mo_enter_c7
      rw [b5 1 (by omega), t2, iN_le (by omega) (by omega), b4, hW.1 8 (by omega) (by omega), hW.1 9 (by omega) (by omega), iN_cl (by omega), show 243 + 8 = 251 from rfl, show 243 + 9 = 252 from rfl, hc, b6, iN_cl (by omega), nar_char h2.1 h2.2, iN_1]
      refine ⟨rfl, fun h => by omega, fun _ => ⟨rfl, iN_in (m := 60) (by omega) (by omega), fun hb => ⟨rfl, iN_in (m := 60) (by omega) (by omega), fun A15 hA => ?_⟩, fun hb => ?_⟩⟩
      · subst hA
        refine ih (i + 1) fu _ (by omega) (by omega) ?_
        have e : blk (fun k => tl.getD k 0) (i + 1) = blk (fun k => tl.getD k 0) i ++ [tl.getD i 0] := by rw [blk_s, if_neg hb]
        refine ⟨fun o h3 h4 => ?_, b2, b3, b4, fun k h3 => ?_, ?_, ?_⟩
        · rw [gI_row h3, gI_row h4]; exact b1 o h3 h4
        · rw [gI_ne (Or.inr h3), gI_row (by omega)]; exact b5 k h3
        · rw [gI_eq, gI_ne (by omega), b6, iN_1, e]
          simp
        · rw [e, gI_row (by omega)]
          exact lsI_push b7 (fun k hk => gI_ne (by omega)) gI_eq
      · refine ih (i + 1) fu A1 (by omega) (by omega) ?_
        have e : blk (fun k => tl.getD k 0) (i + 1) = blk (fun k => tl.getD k 0) i := by rw [blk_s, if_pos hb, List.append_nil]
        unfold BlM
        rw [e]
        exact hb'
  refine ⟨rfl, tl.length + 1, lp tl.length 0 (tl.length + 1) _ (by omega) (by omega) ⟨fun o h3 h4 => gI_row h3, rfl, rfl, rfl, fun k h => gI_ne (Or.inr h), ?_, ?_⟩⟩
  · rw [gI_eq]; rfl
  · exact lsI_nil _
end MG9
