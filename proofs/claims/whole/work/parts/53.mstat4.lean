/-! the reference's parser: IF, ON, FOR, DATA, DEF, MAT -/
section YX3
variable {A0 : Mem} {T : Nat → Int32} {n lo w e : Nat} {A : Mem} {p : Nat} {ag ex : Nat → Int32}
theorem MSx_ok {x : MT} {q : Nat} (h : MSx A0 n lo w e (.ok (q, x)) A) : ∃ wt, MG A0 n lo wt q x A ∧ x.2.1.length ≤ 2 * q + min w 2 := h
theorem z_cond99 {st : PR MT} {r : Int32} {K : Mem → Prop} (hB : MB0 A0 T n) (hlo : 1 ≤ lo) (h : MSx A0 n lo 0 1 st A) (hop : opS st 0) (k : ∀ A', MSx A0 n lo 0 2 (bnd st fun p x => bnd (dSum T n false 8 p x.1) fun p1 os => bnd (pWd T n [84, 72, 69, 78] p1) fun p2 _ => bnd (pLN T n p2) fun p3 v => .ok (p3, (x.1, x.2.1 ++ enc os ++ [14], us (us x.2.2.1 1 r) 0 v, us x.2.2.2 1 (iN x.2.1.length)))) A' → K A') : wp_Mo_condition_c99 K 250 r A := by
  refine ⟨rfl, z_setArgC hB h (j := 1) (by omega) (fun A1 h1 => z_expr (on := false) hB hlo h1 (fun p' x' hx => ?_) (by omega) (fun r2 A2 h2 => z_setExpr hB h2 (j := 1) (by omega) (fun A3 h3 => z_tw1 (i := 17) hB h3 (by omega) rfl (fun r4 A4 h4 => z_ln hB h4 (fun r5 A5 h5 => z_setArg hB h5 (j := 0) (by omega) (fun A6 h6 => k A6 ?_))))))⟩
  · obtain ⟨p1, a1, e1, hx⟩ := bnd_inv hx
    cases hx
    have := hop _ _ e1
    exact ⟨by show a1.1 ≤ 1; omega, fun h => by cases h⟩
  · simp only [bnd_as, bnd_ok, fE, eSum_off] at h6
    exact h6
theorem z_condB {q : Nat} {r : Int32} {K : Mem → Prop} (hB : MB0 A0 T n) (hlo : 1 ≤ lo) (h : MBd A0 n q 131 A) (k : ∀ A', MBd A0 n q 132 A' → K A') : wp_Mo_condition_c99 K 250 r A :=
  z_cond99 (st := .error q) hB hlo ⟨fun _ => 0, h⟩ (fun p x h => by cases h) (fun A' h => k A' h.choose_spec)
theorem z_cond {K : Mem → Prop} (hB : MB0 A0 T n) (hlo : 1 ≤ lo) (h : MSx A0 n lo 0 0 (.ok (p, (0, [], ag, ex))) A) (kk : OKP (pRest T n 2 p) (KG A0 n lo K) (KB A0 n K)) : wp_Mo_condition 250 A K := by
  refine ⟨rfl, z_expr (on := false) hB hlo h (fun p' x' hx => by cases hx; exact ⟨Nat.zero_le _, fun h => by cases h⟩) (by omega) (fun r1 A1 h1 => z_setExpr hB h1 (j := 0) (by omega) (fun A2 h2 => ?_))⟩
  simp only [bnd_as, bnd_ok, fE, eSum_off] at h2
  simp only [pRest, OKP_bnd] at kk
  refine MSx_case h2 kk (fun p1 os h2 kk => ?_) (fun q hb kb => ?_)
  · obtain ⟨wt, hG, hl⟩ := MSx_ok h2
    have fin : ∀ (r : Int32) (p2 : Nat) A3, p1 < p2 → MG A0 n lo wt p2 ((0, [] ++ enc os ++ [14], ag, us ex 0 (iN ([] : List Int32).length)) : MT) A3 → OKP (bnd (dSum T n false 8 p2 0) fun p3 f => bnd (pWd T n [84, 72, 69, 78] p3) fun p4 _ => bnd (pLN T n p4) fun p5 v => .ok (p5, 2, 0, r, [v], [os, f], [])) (KG A0 n lo K) (KB A0 n K) → wp_Mo_condition_c99 K 250 r A3 := by
      intro r p2 A3 hp2 hG3 k3
      refine z_cond99 hB hlo (st := .ok (p2, ((0, [] ++ enc os ++ [14], ag, us ex 0 (iN ([] : List Int32).length)) : MT))) ⟨wt, hG3, by simp at hl ⊢; omega⟩ opS_ok (fun A4 h4 => ?_)
      simp only [bnd_ok] at h4
      simp only [OKP_bnd] at k3
      refine MSx_case h4 k3 (fun p3 f h4 k3 => MSx_case h4 k3 (fun p4 _ h4 k3 => MSx_case h4 k3 (fun p5 v h4 k3 => k3 A4 (MFin_mk hB h4 (fun hl => ?_))) (kbE (by omega))) (kbE (by omega))) (kbE (by omega))
      refine ⟨v, os, f, rfl, rfl, by simp [us], by simp [us], ?_, ?_⟩
      · exact cdAt_mk (a := []) (c := enc f ++ [14]) (by simp) (by simp [us]) hl
      · exact cdAt_mk (a := enc os ++ [14]) (c := []) (by simp) (by simp [us]) hl
    have fin0 : ∀ (r : Int32) (p2 : Nat) A3, 0 ≤ r → p1 < p2 → MG A0 n lo wt p2 ((0, [] ++ enc os ++ [14], ag, us ex 0 (iN ([] : List Int32).length)) : MT) A3 → OKP (bnd (dSum T n false 8 p2 0) fun p3 f => bnd (pWd T n [84, 72, 69, 78] p3) fun p4 _ => bnd (pLN T n p4) fun p5 v => .ok (p5, 2, 0, r, [v], [os, f], [])) (KG A0 n lo K) (KB A0 n K) → wp_Mo_condition_c89 K 250 r A3 := fun r p2 A3 h0 hp2 hG3 k3 => ⟨fun _ => fin r p2 A3 hp2 hG3 k3, fun h => absurd h0 h⟩
    unfold pRel at kk
    refine y_take hB hG (by decide) (fun c61 A3 h3 => ⟨fun h => (by cases h), fun _ => ?_⟩) (fun c61 => ⟨fun _ => y_take hB hG (by decide) (fun c60 A3 h3 => ⟨fun h => (by cases h), fun _ => y_take hB h3 (by decide) (fun d61 A4 h4 => ⟨fun h => (by cases h), fun _ => ?_⟩) (fun d61 => ⟨fun _ => y_take hB h3 (by decide) (fun d62 A4 h4 => ⟨fun h => (by cases h), fun _ => ?_⟩) (fun d62 => ⟨fun _ => ?_, fun h => (by cases h)⟩), fun h => (by cases h)⟩)⟩) (fun c60 => ⟨fun _ => y_take hB hG (by decide) (fun c62 A3 h3 => ⟨fun h => (by cases h), fun _ => y_take hB h3 (by decide) (fun d61 A4 h4 => ⟨fun h => (by cases h), fun _ => ?_⟩) (fun d61 => ⟨fun _ => ?_, fun h => (by cases h)⟩)⟩) (fun c62 => ⟨fun _ => ⟨fun h => absurd h (by decide), fun _ => ⟨rfl, ?_⟩⟩, fun h => (by cases h)⟩), fun h => (by cases h)⟩), fun h => (by cases h)⟩)
    · rw [if_neg (by rw [c61]; decide), if_pos c61] at kk
      exact fin0 0 _ A3 (by decide) (by omega) h3 (by simp only [OKP_bnd]; exact kk)
    · rw [if_pos c60, if_pos d61] at kk
      exact fin0 3 _ A4 (by decide) (by omega) h4 (by simp only [OKP_bnd]; exact kk)
    · rw [if_pos c60, if_neg d61, if_pos d62] at kk
      exact fin0 5 _ A4 (by decide) (by omega) h4 (by simp only [OKP_bnd]; exact kk)
    · rw [if_pos c60, if_neg d61, if_neg d62] at kk
      exact fin0 1 _ A3 (by decide) (by omega) h3 (by simp only [OKP_bnd]; exact kk)
    · rw [if_neg c60, if_neg c61, if_pos c62, if_pos d61] at kk
      exact fin0 4 _ A4 (by decide) (by omega) h4 (by simp only [OKP_bnd]; exact kk)
    · rw [if_neg c60, if_neg c61, if_pos c62, if_neg d61] at kk
      exact fin0 2 _ A3 (by decide) (by omega) h3 (by simp only [OKP_bnd]; exact kk)
    · rw [if_neg c60, if_neg c61, if_neg c62] at kk
      refine z_condB hB hlo (q := p1) (MG_bad hG (by have := hG.2.1; have := hB.2.1; omega)) (fun A4 h4 => kk A4 (MBd_mono h4 (by omega)))
  · have hb' : MBd A0 n q 131 A2 := hb
    have hb7 := MBd_7 hb'
    refine y_takeB hb' ⟨fun _ => y_takeB hb' ⟨fun _ => y_takeB hb' ⟨fun _ => ⟨fun h => absurd h (by decide), fun _ => ⟨rfl, z_condB hB hlo hb7 (fun A4 h4 => kb A4 (MBd_mono h4 (by omega)))⟩⟩, fun h => (by cases h)⟩, fun h => (by cases h)⟩, fun h => (by cases h)⟩
/-- FOR, before the test for the line's end -/
def pGro2 (T : Nat → Int32) (n p : Nat) : PR (List (List SOp)) :=
  if chr T n p = 83 then bnd (pWd T n [83, 84, 69, 80] p) fun p1 _ => bnd (dSum T n false 8 p1 0) fun p2 e => .ok (p2, [e]) else .ok (p, [])
def pFor2 (T : Nat → Int32) (n p : Nat) : PR LDT := bnd (pVar T n p) fun p1 a => bnd (pCh T n 61 p1) fun p2 _ => bnd (dSum T n false 8 p2 0) fun p3 e => bnd (pWd T n [84, 79] p3) fun p4 _ => bnd (dSum T n false 8 p4 0) fun p5 f => bnd (pGro2 T n p5) fun p6 g => .ok (p6, 7, a, 0, [], [e, f] ++ g, [])
theorem z_loop {K : Mem → Prop} (hB : MB0 A0 T n) (hlo : 1 ≤ lo) (h : MSx A0 n lo 0 0 (.ok (p, (0, [], ag, ex))) A) (kk : OKP (pFor2 T n p) (KG A0 n lo K) (KB A0 n K)) : wp_Mo_loop 250 A K := by
  refine ⟨rfl, z_var hB h (fun r1 A1 h1 => z_setArg hB h1 (j := 0) (by omega) (fun A2 h2 => z_need hB h2 (by decide) (fun A3 h3 => ?_)))⟩
  simp only [bnd_as, bnd_ok] at h3
  refine z_expr (on := false) hB hlo h3 (fun p' x' hx => ?_) (by omega) (fun r4 A4 h4 => z_setExpr hB h4 (j := 0) (by omega) (fun A5 h5 => z_tw1 (i := 18) hB h5 (by omega) rfl (fun r6 A6 h6 => ?_)))
  · obtain ⟨p1, a1, e1, hx⟩ := bnd_inv hx
    obtain ⟨p2, a2, e2, hx⟩ := bnd_inv hx
    cases hx
    exact ⟨Nat.zero_le _, fun h => by cases h⟩
  · simp only [bnd_as, bnd_ok, fE, eSum_off] at h6
    refine z_expr (on := false) hB hlo h6 (fun p' x' hx => ?_) (by omega) (fun r7 A7 h7 => z_setExpr hB h7 (j := 1) (by omega) (fun A8 h8 => z_setArgC hB h8 (j := 1) (by omega) (fun A9 h9 => ?_)))
    · obtain ⟨p1, a1, e1, hx⟩ := bnd_inv hx
      obtain ⟨p2, a2, e2, hx⟩ := bnd_inv hx
      obtain ⟨p3, a3, e3, hx⟩ := bnd_inv hx
      obtain ⟨p4, a4, e4, hx⟩ := bnd_inv hx
      cases hx
      exact ⟨Nat.zero_le _, fun h => by cases h⟩
    · simp only [bnd_as, bnd_ok, fE, eSum_off] at h9
      simp only [pFor2, OKP_bnd] at kk
      have bad : ∀ q, MBd A0 n q (130 + 2) A9 → KB A0 n K q → (¬ gI A9 250 7 = 0 → K A9) ∧ (gI A9 250 7 = 0 → wp_Mo_look 250 A9 (fun (r16 : Int32) (A15 : Mem) => ((r16 = 83 → wp_Mo_takeWord 250 19 19 A15 (fun (r18 : Int32) (A17 : Mem) => wp_Mo_setArg 250 1 1 A17 (fun (A19 : Mem) => wp_Mo_expression 250 0 A19 (fun (r21 : Int32) (A20 : Mem) => wp_Mo_setExpr 250 2 r21 A20 (fun (A22 : Mem) => K A22))))) ∧ (¬ r16 = 83 → K A15)))) := fun q hb kb => ⟨fun _ => kb A9 (MBd_mono hb (by omega)), fun h => absurd h (MBd_ne hb)⟩
      refine MSx_case h9 kk (fun p1 a h kk => MSx_case h kk (fun p2 _ h kk => MSx_case h kk (fun p3 os h kk => MSx_case h kk (fun p4 _ h kk => MSx_case h kk (fun p5 os2 h kk => ?_) bad) bad) bad) bad) bad
      obtain ⟨wt, hG, hl⟩ := MSx_ok h
      refine ⟨fun h7 => absurd (MG_e hG) h7, fun _ => y_look hB hG ?_⟩
      rw [lk_eq hB (by decide)]
      refine ⟨fun c83 => ?_, fun c83 => ?_⟩
      · simp only [pGro2, if_pos c83, OKP_bnd] at kk
        refine z_tw1 (i := 19) hB h (by omega) rfl (fun r10 A10 h10 => z_setArgC hB h10 (j := 1) (r := 1) (by omega) (fun A11 h11 => ?_))
        simp only [bnd_as, bnd_ok] at h11
        refine z_expr (on := false) hB hlo h11 (fun p' x' hx => ?_) (by omega) (fun r12 A12 h12 => z_setExpr hB h12 (j := 2) (by omega) (fun A13 h13 => ?_))
        · obtain ⟨p1, a1, e1, hx⟩ := bnd_inv hx
          cases hx
          exact ⟨Nat.zero_le _, fun h => by cases h⟩
        · simp only [bnd_as, bnd_ok, fE, eSum_off] at h13
          refine MSx_case h13 kk (fun p6 _ h kk => MSx_case h kk (fun p7 os3 h kk => kk A13 (MFin_mk hB h (fun hl => ?_))) (kbE (by omega))) (kbE (by omega))
          refine ⟨by simp [us], Or.inr ⟨os, os2, os3, rfl, by simp [us], ?_, ?_, ?_⟩⟩
          · exact cdAt_mk (a := []) (c := enc os2 ++ [14] ++ (enc os3 ++ [14])) (by simp) (by simp [us]) hl
          · exact cdAt_mk (a := enc os ++ [14]) (c := enc os3 ++ [14]) (by simp) (by simp [us]) hl
          · exact cdAt_mk (a := enc os ++ [14] ++ (enc os2 ++ [14])) (c := []) (by simp) (by simp [us]) hl
      · simp only [pGro2, if_neg c83] at kk
        refine kk A9 (MFin_mk hB h (fun hl => ?_))
        refine ⟨by simp [us], Or.inl ⟨os, os2, rfl, by simp [us], ?_, ?_⟩⟩
        · exact cdAt_mk (a := []) (c := enc os2 ++ [14]) (by simp) (by simp [us]) hl
        · exact cdAt_mk (a := enc os ++ [14]) (c := []) (by simp) (by simp [us]) hl
theorem MG_arg {wt : Nat → Int32} {x : MT} {j : Nat} {v : Int32} (h : MG A0 n lo wt p x A) : MG A0 n lo wt p (x.1, x.2.1, us x.2.2.1 j v, x.2.2.2) (sI A 255 (192 + j) v) := by
  obtain ⟨hF, hp, hlo, h4, h5, h5', h6, h7, h57, hag, hex, hwt⟩ := h
  refine ⟨FrM_I hF (by omega), hp, hlo, ?_, ?_, h5', ?_, ?_, ?_, fun i hi => ?_, fun i hi => ?_, ?_⟩
  · rw [gI_ne (by omega)]; exact h4
  · rw [gI_ne (by omega)]; exact h5
  · rw [gI_ne (by omega)]; exact h6
  · rw [gI_ne (by omega)]; exact h7
  · rw [gI_row (by omega)]; exact h57
  · show gI (sI A 255 (192 + j) v) 255 (192 + i) = us x.2.2.1 j v i
    by_cases hij : i = j
    · subst hij
      rw [us_eq]
      exact gI_eq
    · rw [us_ne hij, gI_ne (by omega)]; exact hag i hi
  · rw [gI_ne (by omega)]; exact hex i hi
  · rw [gI_row (by omega)]; exact hwt
theorem MBd_arg {q b j : Nat} {v : Int32} (h : MBd A0 n q b A) : MBd A0 n q b (sI A 255 (192 + j) v) := by
  obtain ⟨hF, hq, h4, h7, c, hc, h6⟩ := h
  exact ⟨FrM_I hF (by omega), hq, by rw [gI_ne (by omega)]; exact h4, by rw [gI_ne (by omega)]; exact h7, c, hc, by rw [gI_ne (by omega)]; exact h6⟩
theorem w_setArg {j : Nat} {r : Int32} {K : Mem → Prop} (hB : MB0 A0 T n) (hF : FrM A0 A) (hj : j < 8) (k : K (sI A 255 (192 + j) r)) : wp_Mo_setArg 250 (iN j) r A K := by
  have hW := (FrM_n hB hF).2.2.2
  unfold wp_Mo_setArg
  rw [hW.1 12 (by omega) (by omega), show (192 : Int32) = iN 192 from rfl, iN_add, iN_cl (by omega)]
  exact ⟨rfl, rfl, iN_in (m := 200) (by omega) (by omega), k⟩
theorem pCon_ok : OKP (pCon T n p) (fun p1 c => p < p1 ∧ p1 ≤ n ∧ (c.1 = 0 ∨ c.1 = 1) ∧ c.2.2 ≤ 3) (fun _ => True) := by
  unfold pCon
  split
  · rw [OKP_bnd]
    exact OKP_mono pNum_gt (fun p1 v h => ⟨by omega, h.2.1, Or.inr rfl, h.2.2⟩) (fun _ h => h)
  · rw [OKP_bnd]
    exact OKP_mono pNum_gt (fun p1 v h => ⟨h.1, h.2.1, Or.inl rfl, h.2.2⟩) (fun _ h => h)
theorem z_numbers {K : Mem → Prop} (hB : MB0 A0 T n) (h : MSx A0 n lo 0 0 (.ok (p, (0, [], ag, ex))) A) (kk : OKP (pRest T n 10 p) (KG A0 n lo K) (KB A0 n K)) : wp_Mo_numbers 250 A K := by
  obtain ⟨wt0, hG0, hl0⟩ := MSx_ok h
  have h6 : gI A 250 6 = iN 0 := hG0.2.2.2.2.2.2.1
  have hn := hB.2.1
  unfold wp_Mo_numbers
  rw [h6]
  simp only [pRest, OKP_bnd, pCons] at kk
  -- the ends
  have eB : ∀ q A' r, MBd A0 n q 145 A' → KB A0 n K q → wp_Mo_setArg 250 (iN 0) r A' K := fun q A' r hb kb => w_setArg hB hb.1 (by omega) (kb _ (MBd_arg hb))
  have eG : ∀ (q : Nat) (cs : List (Int32 × Int32 × Nat)) (wt : Nat → Int32) A', cs.length ≤ 6 → (encC cs).length ≤ 150 → MG A0 n lo wt q ((0, encC cs, ag, us ex 0 (iN 0)) : MT) A' → KG A0 n lo K q (10, 0, 0, [], [], cs) → wp_Mo_setArg 250 (iN 0) (iN cs.length) A' K := fun q cs wt A' hcs hlen hG kg =>
    w_setArg hB hG.1 (by omega) (kg _ ⟨wt, _, MG_arg hG, hlen, by simp [us], hcs, 0, by omega, by simp [us], by simp⟩)
  -- a turn
  have st : ∀ (k fu q : Nat) (cs : List (Int32 × Int32 × Nat)) (wt : Nat → Int32) A', cs.length + k + 1 = 6 → (encC cs).length = 4 * cs.length → MG A0 n lo wt q ((0, encC cs, ag, us ex 0 (iN 0)) : MT) A' → OKP (bnd (pCon T n q) fun p1 v => pConL T n k p1 (cs ++ [v])) (fun p1 cs => KG A0 n lo K p1 (10, 0, 0, [], [], cs)) (KB A0 n K) →
      (∀ (p1 : Nat) (c : Int32 × Int32 × Nat) (wt2 : Nat → Int32) A2, 1 ≤ k → MG A0 n lo wt2 (p1 + 1) ((0, encC (cs ++ [c]), ag, us ex 0 (iN 0)) : MT) A2 → OKP (bnd (pCon T n (p1 + 1)) fun p2 v => pConL T n (k - 1) p2 (cs ++ [c] ++ [v])) (fun p1 cs => KG A0 n lo K p1 (10, 0, 0, [], [], cs)) (KB A0 n K) → wp_Mo_numbers_c11 K fu 250 (iN (cs.length + 1)) A2) → wp_Mo_numbers_c11 K (fu + 1) 250 (iN cs.length) A' := by
    intro k fu q cs wt A' hk hlen hG kk next
    -- behind the sign
    have c39 : ∀ (sg : Int32) (q1 : Nat) A2, MG A0 n lo wt q1 ((0, encC cs, ag, us ex 0 (iN 0)) : MT) A2 → OKP (bnd (pNum T n q1) fun p1 v => pConL T n k p1 (cs ++ [(sg, v.1, v.2)])) (fun p1 cs => KG A0 n lo K p1 (10, 0, 0, [], [], cs)) (KB A0 n K) → wp_Mo_numbers_c39 (wp_Mo_numbers_c11 K fu) K 250 (iN cs.length) sg 250 A2 := by
      intro sg q1 A2 hG2 k2
      rw [OKP_bnd] at k2
      refine ⟨rfl, y_make hB hG2 (by show (encC cs).length < 160; omega) (fun A3 hG3 => ⟨rfl, y_num hB hG3 (by simp; omega) (OKP_mono k2 (fun p1 v k3 A4 hG4 => ?_) (fun q kb A4 hb4 => ?_))⟩)⟩
      · have ee : encC cs ++ [sg] ++ [0, v.1, iN v.2] = encC (cs ++ [(sg, v.1, v.2)]) := by simp [encC]
        have hG5 : MG A0 n lo wt p1 ((0, encC (cs ++ [(sg, v.1, v.2)]), ag, us ex 0 (iN 0)) : MT) A4 := by
          have := hG4
          simp only at this
          rw [ee] at this
          exact this
        have hl5 : (encC (cs ++ [(sg, v.1, v.2)])).length ≤ 150 := by simp [encC] at hlen ⊢; omega
        have e1 : (cs ++ [(sg, v.1, v.2)]).length = cs.length + 1 := by simp
        rw [iN_1, show (6 : Int32) = iN 6 from rfl, iN_eq (by omega) (by omega)]
        refine ⟨fun h6 => ?_, fun h6 => y_take hB hG5 (by decide) (fun hc A5 hG6 => ⟨fun _ => ?_, fun h => (by cases h)⟩) (fun hc => ⟨fun h => (by cases h), fun _ => ?_⟩)⟩
        · obtain rfl : k = 0 := by omega
          rw [← e1]
          exact eG p1 _ wt A4 (by simp; omega) hl5 hG5 k3
        · obtain ⟨k, rfl⟩ : ∃ g, k = g + 1 := ⟨k - 1, by omega⟩
          unfold pConL at k3
          rw [if_pos hc] at k3
          exact next p1 _ wt A5 (by omega) hG6 k3
        · obtain ⟨k, rfl⟩ : ∃ g, k = g + 1 := ⟨k - 1, by omega⟩
          unfold pConL at k3
          rw [if_neg hc] at k3
          rw [← e1]
          exact eG p1 _ wt A4 (by simp; omega) hl5 hG5 k3
      · have hb5 : MBd A0 n q 145 A4 := MBd_mono hb4 (by simp; omega)
        exact ⟨fun _ => eB q A4 _ hb5 kb, fun _ => y_takeB hb5 ⟨fun h => (by cases h), fun _ => eB q A4 _ hb5 kb⟩⟩
    refine ⟨rfl, fun h7 => absurd (MG_e hG) h7, fun _ => ⟨fun h6 => ?_, fun _ => y_take hB hG (by decide) (fun hc A2 hG2 => ⟨fun h => (by cases h), fun _ => c39 1 _ A2 hG2 ?_⟩) (fun hc => ⟨fun _ => c39 0 _ A' hG ?_, fun h => (by cases h)⟩)⟩⟩
    · rw [show (6 : Int32) = iN 6 from rfl, iN_le (by omega) (by omega)] at h6
      omega
    · unfold pCon at kk
      rw [if_pos hc, bnd_as] at kk
      exact kk
    · unfold pCon at kk
      rw [if_neg hc, bnd_as] at kk
      exact kk
  -- the loop
  have lp : ∀ (k fu q : Nat) (cs : List (Int32 × Int32 × Nat)) (wt : Nat → Int32) A', cs.length + k + 1 = 6 → k < fu → (encC cs).length = 4 * cs.length → MG A0 n lo wt q ((0, encC cs, ag, us ex 0 (iN 0)) : MT) A' → OKP (bnd (pCon T n q) fun p1 v => pConL T n k p1 (cs ++ [v])) (fun p1 cs => KG A0 n lo K p1 (10, 0, 0, [], [], cs)) (KB A0 n K) → wp_Mo_numbers_c11 K fu 250 (iN cs.length) A' := by
    intro k
    induction k with
    | zero =>
      intro fu q cs wt A' hk hfu hlen hG kk
      obtain ⟨fu, rfl⟩ : ∃ g, fu = g + 1 := ⟨fu - 1, by omega⟩
      exact st 0 fu q cs wt A' hk hlen hG kk (fun p1 c wt2 A2 hc hG2 k2 => absurd hc (by omega))
    | succ k ih =>
      intro fu q cs wt A' hk hfu hlen hG kk
      obtain ⟨fu, rfl⟩ : ∃ g, fu = g + 1 := ⟨fu - 1, by omega⟩
      refine st (k + 1) fu q cs wt A' hk hlen hG kk (fun p1 c wt2 A2 hc hG2 k2 => ?_)
      have e : (cs ++ [c]).length = cs.length + 1 := by simp
      rw [← e]
      refine ih fu (p1 + 1) (cs ++ [c]) wt2 A2 (by simp; omega) (by omega) (by simp [encC] at hlen ⊢; omega) hG2 k2
  refine ⟨rfl, z_setExpr hB (j := 0) (lo := lo) (w := 0) (e := 0) (st := .ok (p, (iN 0, (0, [], ag, ex)))) ⟨wt0, ⟨hG0, hl0⟩, rfl⟩ (by omega) (fun A1 h1 => ⟨7, ?_⟩)⟩
  obtain ⟨wt, hG, hl⟩ := MSx_ok h1
  refine lp 5 7 p [] wt A1 rfl (by omega) rfl hG ?_
  simp only [OKP_bnd]
  exact kk
end YX3
