section IN4
variable {A A' A1 A'' : Mem} {P P' : PT} {sl sl' : List Nat} {tl : List Int32}
/-- behind an enter -/
theorem inv_ent (h0 : Inv0 P sl A) (hf : eFr A A') (e1R : gR A1 = gR A') (e1I : gI A1 = gI A') (e1D : gD A1 = gD A') (hg : mFr A1 A'') (hp : PC A' P') (hm : PMs A'' P' sl') (hs : Psr P') (hl : PLd P') (z1 : gI A' 1 1 = iN 0) (z2 : gI A'' 250 1 = iN 0) (he : gI A' 1 2 = gI A'' 250 3) : Inv A'' := by
  obtain ⟨⟨w1, w2⟩, -, ⟨ho, vm, st, ft, hev⟩, hr⟩ := h0
  obtain ⟨f1, f2, f3, f4, f5⟩ := hf
  obtain ⟨g1, g2, g3, g4, g5, g6, g7⟩ := hg
  have eR : gR A'' = gR A' := g3.trans e1R
  have eD : gD A'' = gD A := g1.trans (e1D.trans f1)
  have eI : ∀ o, o < 250 → gI A'' o = gI A' o := fun o ho => (g4 o ho).trans (by rw [e1I])
  have eI2 : ∀ o, o < 100 → o ≠ 1 → o ≠ 3 → o ≠ 4 → o ≠ 6 → gI A'' o = gI A o := fun o a b c d e => (eI o (by omega)).trans (f3 o a b c d e)
  have eI3 : ∀ o, 259 ≤ o → gI A'' o = gI A o := fun o ho => (g6 o ho).trans (by rw [e1I]; exact f4 o (by omega))
  have e250 : ∀ k, 8 ≤ k → gI A'' 250 k = gI A 250 k := fun k hk => (g7 k hk).trans (by rw [e1I, f4 250 (by omega)])
  have hWC : WC A'' := by
    have := WC_of w1 f5
    unfold WC
    rw [eR]
    exact this
  have hMW : MW A'' := by
    obtain ⟨m1, m2⟩ := w2
    unfold MW
    rw [eR]
    refine ⟨fun j a b => ?_, fun j a b => ?_⟩
    · rw [f5 250 j (by omega) (by omega) (by omega)]; exact m1 j a b
    · rw [f5 250 j (by omega) (by omega) (by omega)]; exact m2 j a b
  have hPC : PC A'' P' := by
    obtain ⟨p1, p2, p3, p4, p5, p6⟩ := hp
    have eln : ∀ i, ln A'' i = ln A' i := fun i => by unfold ln; rw [eR]
    refine ⟨p1, by rw [eI 6 (by omega)]; exact p2, by rw [eR]; exact p3, fun i hi => by rw [eln]; exact p4 i hi, fun i j hi hj => by rw [eln, eln]; exact p5 i j hi hj, fun i v d hp => ?_⟩
    rw [eln]
    have hl := (List.getElem?_eq_some_iff.mp hp).1
    have hr' := p4 i (by omega)
    exact CLv_cg (p6 i v d hp) (eI _ (by omega)) (eI _ (by omega)) (eI _ (by omega)) (eI _ (by omega)) (eI _ (by omega)) (by rw [eR])
  refine ⟨[], P', sl', ⟨⟨by simp, by rw [eI 1 (by omega)]; exact z1, fun k hk => absurd hk (Nat.not_lt_zero k), fun k hk => absurd hk (Nat.not_lt_zero k)⟩, ⟨by simp, z2, fun k hk => absurd hk (Nat.not_lt_zero k), fun k hk => absurd hk (Nat.not_lt_zero k)⟩, by rw [eI 1 (by omega)]; exact he⟩, ⟨hWC, hMW⟩, ⟨hPC, hm, hs, hl⟩, ⟨by rw [eD]; exact ho, vm, st, ft, ?_⟩, ?_⟩
  · obtain ⟨-, ⟨b1, b2, b3, b4, b5, b6⟩, c1, c2, c3⟩ := hev
    exact ⟨⟨rfl, rfl, fun _ _ _ _ => rfl, fun _ _ _ _ => rfl, fun _ _ _ _ => rfl⟩, ⟨by rw [eD]; exact b1, (e250 27 (by omega)).trans b2, b3, (e250 24 (by omega)).trans b4, b5, trivial⟩, (e250 25 (by omega)).trans c1, c2, by rw [eD]; exact c3⟩
  · unfold InvR
    rw [eD, eI2 5 (by omega) (by omega) (by omega) (by omega) (by omega), eI2 20 (by omega) (by omega) (by omega) (by omega) (by omega), eI3 269 (by omega), eI3 270 (by omega), e250 16 (by omega), e250 17 (by omega), e250 18 (by omega), e250 21 (by omega), e250 22 (by omega), e250 23 (by omega), e250 26 (by omega)]
    refine ⟨hr.1, hr.2.1, hr.2.2.1, fun m hm => ?_⟩
    rw [eI2 (12 + m) (by omega) (by omega) (by omega) (by omega) (by omega)]
    exact hr.2.2.2 m hm
theorem t_enter (h : Inv A) : wp_La_enter A (fun k A1 => wp_Mo_enter 250 A1 (fun b A2 => wp_Mo_thrown 250 A2 (fun t A3 => t = k ∧ (k = 0 → gL A3 28 0 = b.toInt64) ∧ Inv A3))) := by
  obtain ⟨tl, P, sl, ⟨ht, hu, he⟩, h0⟩ := h
  have h0' := h0
  obtain ⟨⟨w1, w2⟩, ⟨pc, pm, ps, pl⟩, -, -⟩ := h0'
  have hl24 := pc.1
  -- the reference stands in A' as it stood in A
  have mw : ∀ {A' : Mem}, eFr A A' → MW A' := fun hf => by
    obtain ⟨m1, m2⟩ := w2
    exact ⟨fun j a b => by rw [hf.2.2.2.2 250 j (by omega) (by omega) (by omega)]; exact m1 j a b, fun j a b => by rw [hf.2.2.2.2 250 j (by omega) (by omega) (by omega)]; exact m2 j a b⟩
  have ms : ∀ {A' : Mem}, eFr A A' → PMs A' P sl := fun hf => PMs_cg pm (fun k _ => by rw [hf.2.2.2.1 253 (by omega)]) (fun k _ => by rw [hf.2.2.2.1 254 (by omega)]) (fun k _ => by rw [hf.2.2.2.1 255 (by omega)]) (fun k _ => by rw [hf.2.2.2.1 256 (by omega)]) (fun k _ => by rw [hf.2.2.2.1 257 (by omega)])
  have tm : ∀ {A' : Mem}, eFr A A' → TMd A' tl := fun hf => by
    unfold TMd
    rw [hf.2.2.2.1 250 (by omega), hf.2.2.2.1 251 (by omega)]
    exact hu
  unfold wp_La_enter
  refine c_enter w1 pc ht ?_
  cases hp : pLine (lnT tl) (lnN tl) with
  | error q =>
    intro A' f1 f2 f3 f4
    refine Or.inl ⟨rfl, m_enter (mw f1) ps hl24 (ms f1) (tm f1) ?_⟩
    rw [hp]
    intro A'' g1 g2 g3 g4 g5 r
    exact ⟨rfl, g5, fun q => absurd q (by decide), inv_ent h0 f1 rfl rfl rfl g1 f2 g2 ps pl f3 g3 (f4.trans g4.symm)⟩
  | ok z =>
    obtain ⟨p, v, od⟩ := z
    cases od with
    | none =>
      have key : ∀ x, remS P v = x → _ := fun x hx => hx
      show (match remS P v with
        | some P' => ∀ A', eFr A A' → PC A' P' → gI A' 1 1 = iN 0 → gI A' 1 2 = -1 → _
        | none => ∀ A', eFr A A' → PC A' P → gI A' 1 1 = iN 0 → gI A' 1 2 = -1 → _)
      cases hr : remS P v with
      | none =>
        intro A' f1 f2 f3 f4
        refine Or.inr (Or.inl ⟨rfl, m_enter (mw f1) ps hl24 (ms f1) (tm f1) ?_⟩)
        rw [hp]
        dsimp only
        rw [hr]
        intro A'' g1 g2 g3 g4 g5 r
        exact ⟨rfl, g5, fun q => absurd q (by decide), inv_ent h0 f1 rfl rfl rfl g1 f2 g2 ps pl f3 g3 (f4.trans g4.symm)⟩
      | some P' =>
        intro A' f1 f2 f3 f4
        refine m_enter (A := sL A' 28 0 (Int32.toInt64 (iN P'.length))) (show MW A' from mw f1) ps hl24 (show PMs A' P sl from ms f1) (show TMd A' tl from tm f1) ?_
        rw [hp]
        dsimp only
        rw [hr]
        intro A'' sl' g1 g2 g3 g4 g5
        refine ⟨rfl, g5, fun _ => ?_, inv_ent h0 f1 (A1 := sL A' 28 0 (Int32.toInt64 (iN P'.length))) rfl rfl rfl g1 f2 g2 (Psr_rem ps hr) (PLd_rem pl hr) f3 g3 (f4.trans g4.symm)⟩
        rw [g1.2.1]; exact gL_eq
    | some d =>
      have hI := pLine_I hp
      show (match putS P v d with
        | some P' => ∀ A', eFr A A' → PC A' P' → gI A' 1 1 = iN 0 → gI A' 1 2 = -1 → _
        | none => ∀ A', eFr A A' → PC A' P → gI A' 1 1 = iN 0 → gI A' 1 2 = -1 → _)
      cases hr : putS P v d with
      | none =>
        intro A' f1 f2 f3 f4
        refine Or.inr (Or.inr ⟨rfl, m_enter (mw f1) ps hl24 (ms f1) (tm f1) ?_⟩)
        rw [hp]
        dsimp only
        rw [hr]
        intro A'' g1 g2 g3 g4 g5 r
        exact ⟨rfl, g5, fun q => absurd q (by decide), inv_ent h0 f1 rfl rfl rfl g1 f2 g2 ps pl f3 g3 (f4.trans g4.symm)⟩
      | some P' =>
        intro A' f1 f2 f3 f4
        refine m_enter (A := sL A' 28 0 (Int32.toInt64 (iN P'.length))) (show MW A' from mw f1) ps hl24 (show PMs A' P sl from ms f1) (show TMd A' tl from tm f1) ?_
        rw [hp]
        dsimp only
        rw [hr]
        intro A'' sl' g1 g2 g3 g4 g5
        refine ⟨rfl, g5, fun _ => ?_, inv_ent h0 f1 (A1 := sL A' 28 0 (Int32.toInt64 (iN P'.length))) rfl rfl rfl g1 f2 g2 (Psr_put ps hI.1 hr) (PLd_put pl hI.2 hr) f3 g3 (f4.trans g4.symm)⟩
        rw [g1.2.1]; exact gL_eq
/-- behind a run -/
theorem inv_run {R : RS × Nat × Nat × Int32} {dat : List UInt64} (ht : TC A tl) (hu : TMd A tl) (he : gI A 1 2 = gI A 250 3) (h0 : Inv0 P sl A) (hc : CF A dat R (gI A 5 10) A') (e1R : gR A1 = gR A') (e1I : gI A1 = gI A') (e1D : gD A1 = gD A') (hm : MF A1 sl dat R (gI A1 250 26) A'') : Inv A'' ∧ gI A'' 250 0 = iN R.2.1 ∧ gL A'' = gL A1 := by
  obtain ⟨⟨w1, w2⟩, ⟨pc, pm, ps, pl⟩, -, ⟨⟨-, -, r3, -⟩, -⟩⟩ := h0
  obtain ⟨q, ⟨hF, ⟨q8, q9, q10, -⟩, hv, hM, -, hlo, hrt, hda, hpr, -⟩, c8, c9, c10⟩ := hc
  obtain ⟨A2, q', hMR, m16, m17, m26, m21, eA⟩ := hm
  obtain ⟨hF', ⟨k16, k17, k26⟩, ⟨vm, st, hev, hvr⟩, hmm, -, hlo', hrt', hda', hpr'⟩ := hMR
  have eR : gR A'' = gR A' := by rw [eA]; exact hF'.2.1.trans e1R
  have eI : ∀ o, o < 250 → gI A'' o = gI A' o := fun o ho => by
    rw [eA, gI_row (by omega), hF'.2.2.1 o (by omega) (by omega), e1I]
  have eI2 : ∀ o, 251 ≤ o → o < 268 → gI A'' o = gI A o := fun o h1 h2 => by
    rw [eA, gI_row (by omega), hF'.2.2.1 o (by omega) (by omega), e1I, hF.2.1 o (by omega) (by omega) (by omega) (by omega) (by omega) (by omega) (by omega)]
  have e250 : ∀ k, 1 ≤ k → k < 16 → gI A'' 250 k = gI A 250 k := fun k h1 h2 => by
    rw [eA, gI_ne (Or.inr (by omega)), hF'.2.2.2.1 k h2, e1I, hF.2.1 250 (by omega) (by omega) (by omega) (by omega) (by omega) (by omega) (by omega)]
  have e2 : ∀ k, 16 ≤ k → gI A'' 250 k = gI A2 250 k := fun k hk => by rw [eA, gI_ne (Or.inr (by omega))]
  have eD : gD A'' = gD A2 := by rw [eA]; rfl
  have eD1 : ∀ o, o < 259 → gD A'' o = gD A' o := fun o ho => by rw [eD, hF'.2.2.2.2 o (Or.inl ho), e1D]
  have hWA := WC_R w1 hF
  have hPA := PC_R pc hF
  obtain ⟨v1, v2⟩ := CvS_ok hv
  have e26 : gI A1 250 26 = gI A 250 26 := by rw [e1I, hF.2.1 250 (by omega) (by omega) (by omega) (by omega) (by omega) (by omega) (by omega)]
  obtain ⟨t1, t2, t3, t4⟩ := ht
  obtain ⟨u1, u2, u3, u4⟩ := hu
  have eln : ∀ i, ln A'' i = ln A' i := fun i => by unfold ln; rw [eR]
  have i1 : gI A'' 1 = gI A 1 := (eI 1 (by omega)).trans (hF.2.1 1 (by omega) (by omega) (by omega) (by omega) (by omega) (by omega) (by omega))
  refine ⟨⟨tl, P, sl, ⟨⟨t1, by rw [i1]; exact t2, by rw [eI 2 (by omega), hF.2.1 2 (by omega) (by omega) (by omega) (by omega) (by omega) (by omega) (by omega)]; exact t3, t4⟩, ⟨u1, (e250 1 (by omega) (by omega)).trans u2, by rw [eI2 251 (by omega) (by omega)]; exact u3, u4⟩, by rw [i1, e250 3 (by omega) (by omega)]; exact he⟩, ⟨by unfold WC; rw [eR]; exact hWA, ?_⟩, ⟨?_, ?_, ps, pl⟩, ⟨by rw [eD1 9 (by omega), v1]; exact v2, vm, st, R.2.1, ?_⟩, ?_⟩, by rw [eA, gI_eq], by rw [eA]; exact hF'.1⟩
  · unfold MW
    rw [eR, hF.2.2.2.2.1 250 (by omega) (by omega)]
    exact w2
  · obtain ⟨p1, p2, p3, p4, p5, p6⟩ := hPA
    refine ⟨p1, by rw [eI 6 (by omega)]; exact p2, by rw [eR]; exact p3, fun i hi => by rw [eln]; exact p4 i hi, fun i j hi hj => by rw [eln, eln]; exact p5 i j hi hj, fun i v d hp => ?_⟩
    rw [eln]
    have hl := (List.getElem?_eq_some_iff.mp hp).1
    have hr' := p4 i (by omega)
    exact CLv_cg (p6 i v d hp) (eI _ (by omega)) (eI _ (by omega)) (eI _ (by omega)) (eI _ (by omega)) (eI _ (by omega)) (by rw [eR])
  · exact PMs_cg pm (fun k _ => by rw [eI2 253 (by omega) (by omega)]) (fun k _ => by rw [eI2 254 (by omega) (by omega)]) (fun k _ => by rw [eI2 255 (by omega) (by omega)]) (fun k _ => by rw [eI2 256 (by omega) (by omega)]) (fun k _ => by rw [eI2 257 (by omega) (by omega)])
  · obtain ⟨-, ⟨b1, b2, b3, b4, b5, b6⟩, c1, c2, c3⟩ := hev
    exact ⟨⟨rfl, rfl, fun _ _ _ _ => rfl, fun _ _ _ _ => rfl, fun _ _ _ _ => rfl⟩, ⟨by rw [eD]; exact b1, (e2 27 (by omega)).trans b2, b3, (e2 24 (by omega)).trans b4, b5, trivial⟩, (e2 25 (by omega)).trans c1, c2, by rw [eD]; exact c3⟩
  · refine ⟨⟨?_, ?_, ?_, ?_, ?_, ?_⟩, ⟨(rPn R.1).length, ?_, ?_, hpr.2.1, fun k hk h40 => ?_⟩, fun i hi => ?_, fun m hm3 => ⟨rMr R.1 m, rMc R.1 m, ?_⟩⟩
    · rw [eI 5 (by omega), e2 16 (by omega), q8, c8, k16, m16]
    · rw [eI 5 (by omega), e2 17 (by omega), q9, c9, k17, m17]
    · rw [eI 5 (by omega), e2 26 (by omega), q10, c10, k26, m26, e26, r3]
    · rw [eI 20 (by omega), e2 23 (by omega), hlo.1, hlo'.1]
    · rw [eI 5 (by omega), e2 22 (by omega), hrt.1, hrt'.1]
    · rw [eI 5 (by omega), e2 21 (by omega), hda.1, hda.2.2.1, m21, iN_sub hda.2.2.2.1]
    · rw [eI 5 (by omega)]; exact hpr.1
    · rw [e2 18 (by omega)]; exact hpr'.1
    · have hx : (rPn R.1)[k]? = some (rPn R.1)[k] := List.getElem?_eq_getElem hk
      have h1 := hpr.2.2 k _ hx
      have h2 := hpr'.2.2 k _ hx
      rw [eD1 25 (by omega), h1.1 h40, eD]
      exact ⟨h2.1 h40, h1.2⟩
    · rw [eD1 9 (by omega), v1, eD, hev.2.1.1]
      exact (hvr i hi).1
    · obtain ⟨a1, a2, a3, a4, a5⟩ := hM.1 m hm3
      obtain ⟨b1, b2, b3, b4, b5⟩ := hmm m hm3
      have e3 : ∀ o, 268 ≤ o → gI A'' o = gI A2 o := fun o ho => by rw [eA, gI_row (by omega)]
      rw [eI (12 + m) (by omega), e3 269 (by omega), e3 270 (by omega)]
      refine ⟨a1, a2, b1, b2, a3, a4, fun i j hi hj => ?_⟩
      rw [eD1 (16 + m) (by omega), hM.2.1 m (i * 6 + j) hm3 (by omega), eD]
      exact b5 i j hi hj
theorem rai : ∀ f, f < 7 → tb1302.getD (Int32.toNatClampNeg (nI (1200 + f - 1200))) 0 = iN f := by decide +kernel
theorem n_raise {f : Nat} {K : Mem → Prop} {KX : Nat → Mem → Prop} (hf : f < 7) (k0 : f = 0 → K A) (k1 : f ≠ 0 → KX (f - 1) A) : wp_BM_raise (1200 + f) A K KX := by
  unfold wp_BM_raise
  rw [rai f hf]
  refine ⟨⟨by omega, by omega⟩, by rw [Nat.add_sub_cancel_left]; exact iN_in (a := f) (m := 7) hf (by omega), ?_⟩
  rcases (by omega : f = 0 ∨ f = 1 ∨ f = 2 ∨ f = 3 ∨ f = 4 ∨ f = 5 ∨ f = 6) with e | e | e | e | e | e | e <;> subst e
  · exact ⟨fun q => absurd q (by decide), fun q => absurd q (by decide), fun q => absurd q (by decide), fun q => absurd q (by decide), fun q => absurd q (by decide), fun q => absurd q (by decide), fun _ _ _ _ _ _ => k0 rfl⟩
  · exact ⟨fun _ => k1 (by decide), fun q => absurd q (by decide), fun q => absurd q (by decide), fun q => absurd q (by decide), fun q => absurd q (by decide), fun q => absurd q (by decide), fun q => absurd rfl q⟩
  · exact ⟨fun q => absurd q (by decide), fun _ => k1 (by decide), fun q => absurd q (by decide), fun q => absurd q (by decide), fun q => absurd q (by decide), fun q => absurd q (by decide), fun _ q => absurd rfl q⟩
  · exact ⟨fun q => absurd q (by decide), fun q => absurd q (by decide), fun _ => k1 (by decide), fun q => absurd q (by decide), fun q => absurd q (by decide), fun q => absurd q (by decide), fun _ _ q => absurd rfl q⟩
  · exact ⟨fun q => absurd q (by decide), fun q => absurd q (by decide), fun q => absurd q (by decide), fun _ => k1 (by decide), fun q => absurd q (by decide), fun q => absurd q (by decide), fun _ _ _ q => absurd rfl q⟩
  · exact ⟨fun q => absurd q (by decide), fun q => absurd q (by decide), fun q => absurd q (by decide), fun q => absurd q (by decide), fun _ => k1 (by decide), fun q => absurd q (by decide), fun _ _ _ _ q => absurd rfl q⟩
  · exact ⟨fun q => absurd q (by decide), fun q => absurd q (by decide), fun q => absurd q (by decide), fun q => absurd q (by decide), fun q => absurd q (by decide), fun _ => k1 (by decide), fun _ _ _ _ _ q => absurd rfl q⟩
theorem t_run (h : Inv A) : wp_La_run A (fun k A1 => wp_Mo_run 250 A1 (fun b A2 => wp_Mo_thrown 250 A2 (fun t A3 => t = k ∧ (k = 0 → gL A3 28 0 = b.toInt64) ∧ Inv A3))) := by
  obtain ⟨tl, P, sl, ⟨ht, hu, he⟩, h0⟩ := h
  have h0' := h0
  obtain ⟨⟨w1, w2⟩, ⟨pc, pm, ps, pl⟩, ⟨ho, vm, st, ft, hev⟩, -⟩ := h0'
  have hl24 := pc.1
  have g4 : gR A 1 4 = 5 := w1.1.2.2.1
  have hG := PGx_of pc pl
  -- the reference's run, wherever the class's ended
  have ref : ∀ (A' A1 : Mem) (k : Int32) (K : Int32 → Mem → Prop), CF A (datS P) (rnS P (datS P) 300 0 (-1) (s0R A)) (gI A 5 10) A' → gR A1 = gR A' → gI A1 = gI A' → gD A1 = gD A' → k = iN (rnS P (datS P) 300 0 (-1) (s0R A)).2.1 → (k = 0 → gL A1 28 0 = (iN (rnS P (datS P) 300 0 (-1) (s0R A)).2.2.1).toInt64) → wp_Mo_run 250 A1 (fun b A2 => wp_Mo_thrown 250 A2 (fun t A3 => t = k ∧ (k = 0 → gL A3 28 0 = b.toInt64) ∧ Inv A3)) := by
    intro A' A1 k K hc e1 e2 e3 hk hL
    have hF := hc.choose_spec.1.1
    have f7 : (rnS P (datS P) 300 0 (-1) (s0R A)).2.1 < 7 := by
      obtain ⟨tt, htt, -⟩ := hc.choose_spec.1.2.2.1
      exact htt.2.1.2.2
    have r250 : ∀ o, 250 ≤ o → gI A1 o = gI A o := fun o ho => by rw [e2, hF.2.1 o (by omega) (by omega) (by omega) (by omega) (by omega) (by omega) (by omega)]
    have d250 : ∀ o, 28 ≤ o → gD A1 o = gD A o := fun o ho => by rw [e3, hF.2.2.2.2.2.2 o ho]
    have hW1 : MW A1 := by unfold MW; rw [e1, hF.2.2.2.2.1 250 (by omega) (by omega)]; exact w2
    have hP1 : PMs A1 P sl := PMs_cg pm (fun k _ => by rw [r250 253 (by omega)]) (fun k _ => by rw [r250 254 (by omega)]) (fun k _ => by rw [r250 255 (by omega)]) (fun k _ => by rw [r250 256 (by omega)]) (fun k _ => by rw [r250 257 (by omega)])
    have hE1 : ∃ vm st ft, EvM A1 vm st [] ft A1 := by
      obtain ⟨-, ⟨b1, b2, b3, b4, b5, b6⟩, c1, c2, c3⟩ := hev
      exact ⟨vm, st, ft, ⟨rfl, rfl, fun _ _ _ _ => rfl, fun _ _ _ _ => rfl, fun _ _ _ _ => rfl⟩, ⟨by rw [d250 260 (by omega)]; exact b1, by rw [r250 250 (by omega)]; exact b2, b3, by rw [r250 250 (by omega)]; exact b4, b5, trivial⟩, by rw [r250 250 (by omega)]; exact c1, c2, by rw [d250 261 (by omega)]; exact c3⟩
    refine r_run (va := fun k => if k < 26 then FP.dconst0 else gD A 9 k) hW1 ps hP1 hl24 pl hG hE1 (fun i hi => if_pos hi) (fun R hR A'' hm => ?_)
    have hR : R = rnS P (datS P) 300 0 (-1) (s0R A) := hR
    rw [← hR] at hc hk hL f7
    obtain ⟨hI, h00, hLL⟩ := inv_run ht hu he h0 hc e1 e2 e3 hm
    refine ⟨rfl, h00.trans hk.symm, fun q => ?_, hI⟩
    have f0 : R.2.1 = 0 := by
      rw [hk, show (0 : Int32) = iN 0 from rfl, iN_eq (by omega) (by omega)] at q
      exact q
    rw [if_pos f0, hLL]
    exact hL q
  unfold wp_La_run wp_BM_run
  rw [g4]
  refine ⟨rfl, rfl, c_execute w1 pc pl ho (fun A' hc => ?_)⟩
  have hc' := hc
  obtain ⟨q, hCR, c8, c9, c10⟩ := hc'
  have f7 : (rnS P (datS P) 300 0 (-1) (s0R A)).2.1 < 7 := by
    obtain ⟨tt, htt, -⟩ := hCR.2.2.1
    exact htt.2.1.2.2
  refine n_raise f7 (fun f0 => ⟨rfl, ?_⟩) (fun f0 => ?_)
  · rw [show gR A' 1 4 = 5 from (WC_R w1 hCR.1).1.2.2.1]
    refine ⟨rfl, ref A' _ 0 (fun _ _ => True) hc rfl rfl rfl (by rw [f0]; rfl) (fun _ => ?_)⟩
    rw [hCR.2.1.1, c8]
    exact gL_eq
  · have go : ∀ i, i = (rnS P (datS P) 300 0 (-1) (s0R A)).2.1 - 1 → (∀ j, j = i + 1 → wp_Mo_run 250 A' (fun b A2 => wp_Mo_thrown 250 A2 (fun t A3 => t = iN j ∧ (iN j = 0 → gL A3 28 0 = b.toInt64) ∧ Inv A3))) := fun i hi j hj => ref A' A' (iN j) (fun _ _ => True) hc rfl rfl rfl (by congr 1; omega) (fun q => by
      rw [show (0 : Int32) = iN 0 from rfl, iN_eq (by omega) (by omega)] at q
      omega)
    generalize hi : (rnS P (datS P) 300 0 (-1) (s0R A)).2.1 - 1 = i at go
    have h6 : i < 6 := by omega
    rcases (by omega : i = 0 ∨ i = 1 ∨ i = 2 ∨ i = 3 ∨ i = 4 ∨ i = 5) with e | e | e | e | e | e <;> subst e
    · exact Or.inl ⟨rfl, go 0 rfl 1 rfl⟩
    · exact Or.inr (Or.inl ⟨rfl, go 1 rfl 2 rfl⟩)
    · exact Or.inr (Or.inr (Or.inl ⟨rfl, go 2 rfl 3 rfl⟩))
    · exact Or.inr (Or.inr (Or.inr (Or.inl ⟨rfl, go 3 rfl 4 rfl⟩)))
    · exact Or.inr (Or.inr (Or.inr (Or.inr (Or.inl ⟨rfl, go 4 rfl 5 rfl⟩))))
    · exact Or.inr (Or.inr (Or.inr (Or.inr (Or.inr ⟨rfl, go 5 rfl 6 rfl⟩))))
end IN4
