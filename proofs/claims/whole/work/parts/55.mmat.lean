/-! the reference's parser: MAT -/
theorem mw_pf : ∀ i, i < 28 → ∀ j, j < 28 → i ≠ j → (mwL.getD i []).isPrefixOf (mwL.getD j []) = false := by decide +kernel
section YX5
variable {A0 : Mem} {T : Nat → Int32} {n lo w e : Nat} {A : Mem} {p : Nat} {ag ex : Nat → Int32}
theorem ag1_of {wt : Nat → Int32} {x : MT} (hB : MB0 A0 T n) (h : MG A0 n lo wt p x A) : kd (gR A 250 12) = 51 ∧ vp_in 193 (al (gR A 250 12)) ∧ gI A (gR A 250 12) (Int32.toNatClampNeg 193) = x.2.2.1 1 := by
  have hW := (FrM_n hB h.1).2.2.2
  rw [hW.1 12 (by omega) (by omega), show (193 : Int32) = iN 193 from rfl, iN_cl (by omega)]
  exact ⟨rfl, iN_in (m := 200) (by omega) (by omega), h.2.2.2.2.2.2.2.2.2.1 1 (by omega)⟩
theorem ag1_B {q b : Nat} (hB : MB0 A0 T n) (h : MBd A0 n q b A) : kd (gR A 250 12) = 51 ∧ vp_in 193 (al (gR A 250 12)) := by
  have hW := (FrM_n hB h.1).2.2.2
  rw [hW.1 12 (by omega) (by omega), show (193 : Int32) = iN 193 from rfl]
  exact ⟨rfl, iN_in (m := 200) (by omega) (by omega)⟩
theorem z_c138 {st : PR MT} {v : Int32} {K : Mem → Prop} (hB : MB0 A0 T n) (h : MSx A0 n lo 0 0 st A) (k : ∀ A', MSx A0 n lo 0 0 (bnd st fun p x => if v ≤ 5 then .ok (p, (x.1, x.2.1, us x.2.2.1 1 v, x.2.2.2)) else bnd (pMt T n p) fun p1 m => .ok (p1, (x.1, x.2.1, us (us x.2.2.1 1 v) 3 m, x.2.2.2))) A' → K A') : wp_Mo_mat_c138 K 250 v 1 250 A := by
  refine ⟨rfl, z_setArgC hB h (j := 1) (r := v) (by omega) (fun A1 h1 => ⟨rfl, ?_⟩)⟩
  cases st with
  | error q =>
    have hb : MBd A0 n q 130 A1 := h1.choose_spec
    have h9 := ag1_B hB hb
    refine ⟨h9.1, h9.2, fun _ => k A1 ⟨fun _ => 0, hb⟩, fun _ => z_mat hB (lo := lo) (w := 0) (e := 0) (st := .error q) ⟨fun _ => 0, hb⟩ (fun r A2 h2 => z_setArg hB h2 (j := 3) (by omega) (fun A3 h3 => k A3 ?_))⟩
    exact h3
  | ok z =>
    obtain ⟨p, x⟩ := z
    simp only [bnd_ok] at h1 k
    obtain ⟨wt, hG, hl⟩ := MSx_ok h1
    have h9 := ag1_of hB hG
    have e1 : us x.2.2.1 1 v 1 = v := us_eq
    rw [h9.2.2]
    show _ ∧ _ ∧ (us x.2.2.1 1 v 1 ≤ 5 → _) ∧ (¬ us x.2.2.1 1 v 1 ≤ 5 → _)
    rw [e1]
    refine ⟨h9.1, h9.2.1, fun h5 => ?_, fun h5 => z_mat hB h1 (fun r A2 h2 => z_setArg hB h2 (j := 3) (by omega) (fun A3 h3 => k A3 ?_))⟩
    · rw [if_pos h5] at k
      exact k A1 h1
    · rw [if_neg h5]
      simp only [bnd_as, bnd_ok] at h3
      exact h3
theorem z_matS {K : Mem → Prop} (hB : MB0 A0 T n) (hlo : 1 ≤ lo) (h : MSx A0 n lo 0 0 (.ok (p, (0, [], ag, ex))) A) (kk : OKP (pRest T n 14 p) (KG A0 n lo K) (KB A0 n K)) : wp_Mo_mat 250 A K := by
  refine ⟨rfl, z_mat hB h (fun r1 A1 h1 => z_setArg hB h1 (j := 0) (by omega) (fun A2 h2 => z_need hB h2 (by decide) (fun A3 h3 => ?_)))⟩
  simp only [bnd_as, bnd_ok] at h3
  simp only [pRest, OKP_bnd] at kk
  refine MSx_case h3 kk (fun p1 a h3 kk => MSx_case h3 kk (fun p2 _ h3 kk => ?_) (fun q hb kb => y_lookB hB hb (fun r => ⟨fun h => absurd h (MBd_ne hb), fun _ => kb A3 (MBd_mono hb (by omega))⟩))) (fun q hb kb => y_lookB hB hb (fun r => ⟨fun h => absurd h (MBd_ne hb), fun _ => kb A3 (MBd_mono hb (by omega))⟩))
  obtain ⟨wt, hG, hl⟩ := MSx_ok h3
  unfold pSrc at kk
  refine y_look hB hG ⟨fun _ => ⟨fun c40 => y_isM ?_, fun c40 => ?_⟩, fun h7 => absurd (MG_e hG) h7⟩
  · rw [lk_eq hB (by decide)] at c40
    rw [if_neg c40] at kk
    rw [lk_isM]
    refine ⟨fun nM => ?_, fun hM => ?_⟩
    · refine y_takeWord (a := 20) (b := 23) hB (show MS A0 n lo wt 0 0 (.ok (p2, ((0, [], us ag 0 a, ex) : MT))) A3 from ⟨hG, hl⟩) (by omega) (by omega) (fun i _ h1 j _ h2 h3 => mw_pf i (by omega) j (by omega) h3) (fun r4 A4 h4 => z_setArg hB (MSVx_f (fun v => v - 20) ⟨wt, h4⟩) (j := 1) (by omega) (fun A5 h5 => ?_))
      simp only [bnd_as, bnd_ok, kwMat] at h5
      have bT : ∀ q A', MBd A0 n q 130 A' → KB A0 n K q → kd (gR A' 250 12) = 51 ∧ vp_in 193 (al (gR A' 250 12)) ∧ ((gI A' (gR A' 250 12) (Int32.toNatClampNeg 193) = 3 → wp_Mo_need 250 40 A' (fun (A15 : Mem) => wp_Mo_matrix 250 A15 (fun (r17 : Int32) (A16 : Mem) => wp_Mo_setArg 250 2 r17 A16 (fun (A18 : Mem) => wp_Mo_need 250 41 A18 (fun (A19 : Mem) => K A19))))) ∧ (¬ gI A' (gR A' 250 12) (Int32.toNatClampNeg 193) = 3 → K A')) := by
        intro q A' hb kb
        have h9 := ag1_B hB hb
        refine ⟨h9.1, h9.2, fun _ => ?_, fun _ => kb A' (MBd_mono hb (by omega))⟩
        exact z_need hB (lo := lo) (w := 0) (e := 0) (st := .error q) ⟨fun _ => 0, hb⟩ (by decide) (fun A6 h6 => z_mat hB h6 (fun r7 A7 h7 => z_setArg hB h7 (j := 2) (by omega) (fun A8 h8 => z_need hB h8 (by decide) (fun A9 h9 => kb A9 (MBd_mono (h9.choose_spec : MBd A0 n q 130 A9) (by omega))))))
      have gT : ∀ (q : Nat) (v : Int32) A', v ≠ 3 → (v = 0 ∨ v = 1 ∨ v = 2) → MSx A0 n lo 0 0 (.ok (q, ((0, [], us (us ag 0 a) 1 v, ex) : MT))) A' → KG A0 n lo K q (14, a, v, [], [], []) → kd (gR A' 250 12) = 51 ∧ vp_in 193 (al (gR A' 250 12)) ∧ ((gI A' (gR A' 250 12) (Int32.toNatClampNeg 193) = 3 → wp_Mo_need 250 40 A' (fun (A15 : Mem) => wp_Mo_matrix 250 A15 (fun (r17 : Int32) (A16 : Mem) => wp_Mo_setArg 250 2 r17 A16 (fun (A18 : Mem) => wp_Mo_need 250 41 A18 (fun (A19 : Mem) => K A19))))) ∧ (¬ gI A' (gR A' 250 12) (Int32.toNatClampNeg 193) = 3 → K A')) := by
        intro q v A' hv3 hv h kg
        obtain ⟨wt, hG, hl⟩ := MSx_ok h
        have h9 := ag1_of hB hG
        have e1 : us (us ag 0 a) 1 v 1 = v := us_eq
        refine ⟨h9.1, h9.2.1, fun h3 => ?_, fun _ => kg A' (MFin_mk hB h (fun hl => ⟨by simp [us], by simp [us], Or.inl ⟨rfl, hv⟩⟩))⟩
        rw [h9.2.2] at h3
        exact absurd (e1.symm.trans h3) hv3
      by_cases c67 : chr T n p2 = 67
      · rw [if_pos c67] at h5 kk
        simp only [bnd_as, bnd_ok, OKP_bnd] at h5 kk
        exact MSx_case h5 kk (fun p3 _ h kk => gT p3 1 A5 (by decide) (by decide) h kk) (fun q hb kb => bT q A5 hb kb)
      · rw [if_neg c67] at h5 kk
        by_cases c73 : chr T n p2 = 73
        · rw [if_pos c73] at h5 kk
          simp only [bnd_as, bnd_ok, OKP_bnd] at h5 kk
          exact MSx_case h5 kk (fun p3 _ h kk => gT p3 2 A5 (by decide) (by decide) h kk) (fun q hb kb => bT q A5 hb kb)
        · rw [if_neg c73] at h5 kk
          by_cases c84 : chr T n p2 = 84
          · rw [if_pos c84] at h5 kk
            have e2 : ∀ q, pWd T n [84, 82, 78, 40] q = bnd (pWd T n [84, 82, 78] q) fun p1 _ => pCh T n 40 p1 := fun q => pWd_snoc T n [84, 82, 78] 40 q
            simp only [bnd_as, bnd_ok, OKP_bnd, e2] at h5 kk
            refine MSx_case h5 kk (fun p3 _ h kk => ?_) (fun q hb kb => bT q A5 hb kb)
            obtain ⟨wt, hG, hl⟩ := MSx_ok h
            have h9 := ag1_of hB hG
            have e1 : us (us ag 0 a) 1 (iN 23 - 20) 1 = 3 := us_eq
            refine ⟨h9.1, h9.2.1, fun _ => z_need hB h (by decide) (fun A6 h6 => z_mat hB h6 (fun r7 A7 h7 => z_setArg hB h7 (j := 2) (by omega) (fun A8 h8 => z_need hB h8 (by decide) (fun A9 h9 => ?_)))), fun h3 => ?_⟩
            · simp only [bnd_as, bnd_ok] at h9
              refine MSx_case h9 kk (fun p4 _ h kk => MSx_case h kk (fun p5 m h kk => MSx_case h kk (fun p6 _ h kk => kk A9 (MFin_mk hB h (fun hl => ?_))) (kbE (by omega))) (kbE (by omega))) (kbE (by omega))
              exact ⟨by simp [us], by simp [us]; decide, Or.inr (Or.inl ⟨m, rfl, by simp [us], Or.inl rfl⟩)⟩
            · rw [h9.2.2] at h3
              exact absurd e1 h3
          · rw [if_neg c84] at h5 kk
            by_cases c90 : chr T n p2 = 90
            · rw [if_pos c90] at h5 kk
              simp only [bnd_as, bnd_ok, OKP_bnd] at h5 kk
              exact MSx_case h5 kk (fun p3 _ h kk => gT p3 0 A5 (by decide) (by decide) h kk) (fun q hb kb => bT q A5 hb kb)
            · rw [if_neg c90] at h5 kk
              have eM : pMt T n p2 = .error p2 := by unfold pMt; rw [if_neg (by rw [nM]; decide)]
              rw [eM] at kk
              exact bT p2 A5 h5.choose_spec kk
    · have nc : ∀ c : Int32, isM c = false → chr T n p2 ≠ c := fun c hc h => by rw [h, hc] at hM; cases hM
      rw [if_neg (nc 67 (by decide)), if_neg (nc 73 (by decide)), if_neg (nc 84 (by decide)), if_neg (nc 90 (by decide))] at kk
      refine z_mat hB h3 (fun r4 A4 h4 => z_setArg hB h4 (j := 2) (by omega) (fun A5 h5 => ?_))
      simp only [bnd_as, bnd_ok] at h5
      have eM : pMt T n p2 = .ok (p2 + 1, chr T n p2 - 80) := by unfold pMt; rw [if_pos hM]
      rw [eM] at h5 kk
      simp only [bnd_ok] at h5 kk
      generalize hm : chr T n p2 - 80 = m at *
      obtain ⟨wt5, hG5, hl5⟩ := MSx_ok h5
      have two : ∀ (v : Int32) (A' : Mem) wt', (v = 6 ∨ v = 7 ∨ v = 8) → MG A0 n lo wt' (p2 + 1 + 1) ((0, [], us (us ag 0 a) 2 m, ex) : MT) A' → OKP (bnd (pMt T n (p2 + 1 + 1)) fun p3 m2 => .ok (p3, v, [m, m2], ([] : List (List SOp)))) (fun p3 r => KG A0 n lo K p3 (14, a, r.1, r.2.1, r.2.2, [])) (KB A0 n K) → wp_Mo_mat_c138 K 250 v 1 250 A' := by
        intro v A' wt' hv hG6 k6
        refine z_c138 hB (st := .ok (p2 + 1 + 1, ((0, [], us (us ag 0 a) 2 m, ex) : MT))) ⟨wt', hG6, by simp⟩ (fun A7 h7 => ?_)
        rw [bnd_ok, if_neg (by rcases hv with rfl | rfl | rfl <;> decide)] at h7
        rw [OKP_bnd] at k6
        refine MSx_case h7 k6 (fun p7 m2 h kk => kk A7 (MFin_mk hB h (fun hl => ?_))) (kbE (by omega))
        exact ⟨by simp [us], by simp [us], Or.inr (Or.inr (Or.inr ⟨m, m2, rfl, by simp [us], by simp [us], hv⟩))⟩
      refine y_take hB hG5 (by decide) (fun c43 A6 h6 => ⟨fun h => (by cases h), fun _ => ?_⟩) (fun c43 => ⟨fun _ => y_take hB hG5 (by decide) (fun c45 A6 h6 => ⟨fun h => (by cases h), fun _ => ?_⟩) (fun c45 => ⟨fun _ => y_take hB hG5 (by decide) (fun c42 A6 h6 => ⟨fun h => (by cases h), fun _ => ?_⟩) (fun c42 => ⟨fun _ => ?_, fun h => (by cases h)⟩), fun h => (by cases h)⟩), fun h => (by cases h)⟩)
      · rw [if_neg (by rw [c43]; decide), if_pos c43] at kk
        exact two 6 A6 _ (Or.inl rfl) h6 kk
      · rw [if_neg (by rw [c45]; decide), if_neg c43, if_pos c45] at kk
        exact two 7 A6 _ (Or.inr (Or.inl rfl)) h6 kk
      · rw [if_pos c42] at kk
        exact two 8 A6 _ (Or.inr (Or.inr rfl)) h6 kk
      · rw [if_neg c42, if_neg c43, if_neg c45] at kk
        refine z_c138 hB h5 (fun A7 h7 => ?_)
        rw [bnd_ok, if_pos (by decide)] at h7
        refine kk A7 (MFin_mk hB h7 (fun hl => ?_))
        exact ⟨by simp [us], by simp [us], Or.inr (Or.inl ⟨m, rfl, by simp [us], Or.inr rfl⟩)⟩
  · rw [lk_eq hB (by decide)] at c40
    rw [if_pos c40] at kk
    refine z_bracket hB h3 (fun A4 h4 => ?_)
    rw [bnd_ok, if_neg (by show ¬ 6 ≤ 0; omega)] at h4
    refine z_expr (on := false) hB hlo h4 (fun p' x' hx => ?_) (by omega) (fun r5 A5 h5 => z_setExpr hB h5 (j := 0) (by omega) (fun A6 h6 => z_shut hB h6 (fun p' x' hx => ?_) (fun A7 h7 => z_need hB h7 (by decide) (fun A8 h8 => z_setArgC hB h8 (j := 1) (r := 4) (by omega) (fun A9 h9 => z_mat hB h9 (fun r10 A10 h10 => z_setArg hB h10 (j := 2) (by omega) (fun A11 h11 => ?_)))))))
    · obtain ⟨p1, a1, e1, hx⟩ := bnd_inv hx
      cases hx
      exact ⟨Nat.le_refl _, fun h => by cases h⟩
    · simp only [bnd_as, bnd_ok, fE] at hx
      obtain ⟨p1, a1, e1, hx⟩ := bnd_inv hx
      obtain ⟨p2, a2, e2, hx⟩ := bnd_inv hx
      cases hx
      exact Nat.le_refl _
    · simp only [bnd_as, bnd_ok, fE, eSum_off] at h11
      simp only [OKP_bnd] at kk
      have e2 : ∀ q, pWd T n [41, 42] q = bnd (pCh T n 41 q) fun p1 _ => pCh T n 42 p1 := fun q => pWd_snoc T n [41] 42 q
      simp only [e2, OKP_bnd] at kk
      refine MSx_case h11 kk (fun p3 _ h kk => MSx_case h kk (fun p4 os h kk => MSx_case h kk (fun p5 _ h kk => MSx_case h kk (fun p6 _ h kk => MSx_case h kk (fun p7 m h kk => kk A11 (MFin_mk hB h (fun hl => ?_))) (kbE (by omega))) (kbE (by omega))) (kbE (by omega))) (kbE (by omega))) (kbE (by omega))
      exact ⟨by simp [us], by simp [us], Or.inr (Or.inr (Or.inl ⟨m, os, rfl, by simp [us], rfl, rfl, cdAt_mk (a := []) (c := []) (by simp) (by simp [us]) hl⟩))⟩
end YX5
