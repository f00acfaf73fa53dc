/-! the class's parser: whole lines -/
/-- the class's numbers of a line: those gone to, sizes, matrices; or the constants -/
def cNu (d : LDT) : List Int32 := if d.1 = 10 then d.2.2.2.2.2.map cCon else d.2.2.2.1
/-- is the target an element -/
def isEl (d : LDT) : Bool := (d.1 == 0 || d.1 == 9) && decide (26 ≤ d.2.1)
/-- the line's numbers s and references q are those of the line d of this number -/
def LG (num : Int32) (d : LDT) (s : Nat → Int32) (q : Nat → Nat) : Prop :=
  (s 0 = num ∧ s 1 = 0) ∧ q 2 = 1000 + d.1 ∧ s 4 = (if isEl d then 1 else 0) ∧
  ((d.1 = 0 ∨ d.1 = 7 ∨ d.1 = 8 ∨ d.1 = 9 ∨ d.1 = 12 ∨ d.1 = 13 ∨ d.1 = 14) → s 3 = (if isEl d then d.2.1 - 26 else d.2.1)) ∧
  (d.1 = 13 → s 5 = d.2.2.1) ∧ (d.1 = 2 → s 6 = cRel d.2.2.1) ∧ (d.1 = 14 → q 7 = cForm d.2.2.1)
theorem rk1 : ∀ k, k < 17 → (tb1300.getD (Int32.toNatClampNeg (nI (1000 + k - 1000))) 0 = 1 → k = 0) ∧ (tb1300.getD (Int32.toNatClampNeg (nI (1000 + k - 1000))) 0 = 2 → k = 1) ∧ (tb1300.getD (Int32.toNatClampNeg (nI (1000 + k - 1000))) 0 = 3 → k = 2) ∧ (tb1300.getD (Int32.toNatClampNeg (nI (1000 + k - 1000))) 0 = 4 → k = 3) ∧ (tb1300.getD (Int32.toNatClampNeg (nI (1000 + k - 1000))) 0 = 5 → k = 4) ∧ (tb1300.getD (Int32.toNatClampNeg (nI (1000 + k - 1000))) 0 = 6 → k = 5) ∧ (tb1300.getD (Int32.toNatClampNeg (nI (1000 + k - 1000))) 0 = 7 → k = 7) ∧ (tb1300.getD (Int32.toNatClampNeg (nI (1000 + k - 1000))) 0 = 8 → k = 8) := by decide +kernel
theorem rk2 : ∀ k, k < 17 → (tb1300.getD (Int32.toNatClampNeg (nI (1000 + k - 1000))) 0 = 9 → k = 9) ∧ (tb1300.getD (Int32.toNatClampNeg (nI (1000 + k - 1000))) 0 = 10 → k = 10) ∧ (tb1300.getD (Int32.toNatClampNeg (nI (1000 + k - 1000))) 0 = 11 → k = 12) ∧ (tb1300.getD (Int32.toNatClampNeg (nI (1000 + k - 1000))) 0 = 12 → k = 13) ∧ (tb1300.getD (Int32.toNatClampNeg (nI (1000 + k - 1000))) 0 = 13 → k = 14) ∧ (tb1300.getD (Int32.toNatClampNeg (nI (1000 + k - 1000))) 0 = 14 → k = 15) := by decide +kernel
theorem rk3a : ∀ k, k < 17 → (tb1300.getD (Int32.toNatClampNeg (nI (1000 + k - 1000))) 0 = 1 ∨ tb1300.getD (Int32.toNatClampNeg (nI (1000 + k - 1000))) 0 = 2 ∨ tb1300.getD (Int32.toNatClampNeg (nI (1000 + k - 1000))) 0 = 3 ∨ tb1300.getD (Int32.toNatClampNeg (nI (1000 + k - 1000))) 0 = 4 ∨ tb1300.getD (Int32.toNatClampNeg (nI (1000 + k - 1000))) 0 = 5 ∨ tb1300.getD (Int32.toNatClampNeg (nI (1000 + k - 1000))) 0 = 6 ∨ tb1300.getD (Int32.toNatClampNeg (nI (1000 + k - 1000))) 0 = 7 ∨ tb1300.getD (Int32.toNatClampNeg (nI (1000 + k - 1000))) 0 = 8 ∨ tb1300.getD (Int32.toNatClampNeg (nI (1000 + k - 1000))) 0 = 9 ∨ tb1300.getD (Int32.toNatClampNeg (nI (1000 + k - 1000))) 0 = 10 ∨ tb1300.getD (Int32.toNatClampNeg (nI (1000 + k - 1000))) 0 = 11 ∨ tb1300.getD (Int32.toNatClampNeg (nI (1000 + k - 1000))) 0 = 12 ∨ tb1300.getD (Int32.toNatClampNeg (nI (1000 + k - 1000))) 0 = 13 ∨ tb1300.getD (Int32.toNatClampNeg (nI (1000 + k - 1000))) 0 = 14) ∨ (k = 6 ∨ k = 11 ∨ k = 16) := by decide +kernel
theorem rk3 (k : Nat) (hk : k < 17) : ¬ tb1300.getD (Int32.toNatClampNeg (nI (1000 + k - 1000))) 0 = 1 → ¬ tb1300.getD (Int32.toNatClampNeg (nI (1000 + k - 1000))) 0 = 2 → ¬ tb1300.getD (Int32.toNatClampNeg (nI (1000 + k - 1000))) 0 = 3 → ¬ tb1300.getD (Int32.toNatClampNeg (nI (1000 + k - 1000))) 0 = 4 → ¬ tb1300.getD (Int32.toNatClampNeg (nI (1000 + k - 1000))) 0 = 5 → ¬ tb1300.getD (Int32.toNatClampNeg (nI (1000 + k - 1000))) 0 = 6 → ¬ tb1300.getD (Int32.toNatClampNeg (nI (1000 + k - 1000))) 0 = 7 → ¬ tb1300.getD (Int32.toNatClampNeg (nI (1000 + k - 1000))) 0 = 8 → ¬ tb1300.getD (Int32.toNatClampNeg (nI (1000 + k - 1000))) 0 = 9 → ¬ tb1300.getD (Int32.toNatClampNeg (nI (1000 + k - 1000))) 0 = 10 → ¬ tb1300.getD (Int32.toNatClampNeg (nI (1000 + k - 1000))) 0 = 11 → ¬ tb1300.getD (Int32.toNatClampNeg (nI (1000 + k - 1000))) 0 = 12 → ¬ tb1300.getD (Int32.toNatClampNeg (nI (1000 + k - 1000))) 0 = 13 → ¬ tb1300.getD (Int32.toNatClampNeg (nI (1000 + k - 1000))) 0 = 14 → k = 6 ∨ k = 11 ∨ k = 16 := by
  intro h1 h2 h3 h4 h5 h6 h7 h8 h9 h10 h11 h12 h13 h14
  rcases rk3a k hk with (h | h | h | h | h | h | h | h | h | h | h | h | h | h) | h
  · exact absurd h h1
  · exact absurd h h2
  · exact absurd h h3
  · exact absurd h h4
  · exact absurd h h5
  · exact absurd h h6
  · exact absurd h h7
  · exact absurd h h8
  · exact absurd h h9
  · exact absurd h h10
  · exact absurd h h11
  · exact absurd h h12
  · exact absurd h h13
  · exact absurd h h14
  · exact h
theorem rk4 : ∀ k, k < 17 → vp_in (nI (1000 + k - 1000)) 17 := by
  intro k hk
  rw [show 1000 + k - 1000 = k by omega]
  exact iN_in hk (by omega)
section VPl
variable {A0 : Mem} {T : Nat → Int32} {n L sl p op : Nat} {s : Nat → Int32} {q : Nat → Nat} {ops : List (Int32 × Int32)} {nu en : List Int32} {A : Mem}
/-- what the class's parser shows behind a line's statement -/
def CGood (A0 : Mem) (T : Nat → Int32) (n L p : Nat) (num : Int32) (d : LDT) (A : Mem) : Prop := ∃ (o : Nat) (s : Nat → Int32) (q : Nat → Nat), VP A0 T n L 0 p o s q (cOs d.2.2.2.2.1) (cNu d) (cEn 0 d.2.2.2.2.1) A ∧ LG num d s q
theorem isV_lt26 {c : Int32} (h : isV c = true) : ¬ 26 ≤ c - 65 := by
  unfold isV at h
  simp only [Bool.and_eq_true, decide_eq_true_eq] at h
  have h0 : (0 : Int32) ≤ c := Int32.le_trans (by decide) h.1.1
  have e := iN_of h0
  have hc := Int32.toNatClampNeg_lt c
  generalize c.toNatClampNeg = m at *
  subst e
  have h1 := h.1
  rw [show (65 : Int32) = iN 65 from rfl, show (90 : Int32) = iN 90 from rfl, iN_le (by omega) (by omega), iN_le (by omega) (by omega)] at h1
  rw [show (65 : Int32) = iN 65 from rfl, show (26 : Int32) = iN 26 from rfl, iN_sub (by omega), iN_le (by omega) (by omega)]
  omega
theorem isM_el {c : Int32} (h : isM c = true) : 26 ≤ 26 + (c - 80) ∧ 26 + (c - 80) - 26 = c - 80 ∧ ¬ 26 ≤ c - 80 := by
  unfold isM at h
  simp only [Bool.and_eq_true, decide_eq_true_eq] at h
  have h0 : (0 : Int32) ≤ c := Int32.le_trans (by decide) h.1
  have e := iN_of h0
  have hc := Int32.toNatClampNeg_lt c
  generalize c.toNatClampNeg = m at *
  subst e
  rw [show (80 : Int32) = iN 80 from rfl, show (82 : Int32) = iN 82 from rfl, iN_le (by omega) (by omega), iN_le (by omega) (by omega)] at h
  rw [show (80 : Int32) = iN 80 from rfl, show (26 : Int32) = iN 26 from rfl, iN_sub (by omega), iN_add, iN_sub (by omega), iN_le (by omega) (by omega), iN_le (by omega) (by omega)]
  exact ⟨by omega, by congr 1; omega, by omega⟩
theorem pVar_ok : OKP (pVar T n p) (fun _ a => ¬ 26 ≤ a) (fun _ => True) := by
  unfold pVar
  split
  · exact isV_lt26 ‹_›
  · trivial
theorem pTgt_ok : OKP (pTgt T n p) (fun _ t => (isM (chr T n p) = true → t.1 = 26 + (chr T n p - 80)) ∧ (isM (chr T n p) = false → ¬ 26 ≤ t.1) ∧ t.2.length ≤ 2) (fun _ => True) := by
  unfold pTgt
  by_cases hm : isM (chr T n p) = true
  · rw [if_pos hm, OKP_bnd]
    have hT : ∀ {α : Type} (r : PR α), OKP r (fun _ _ => True) (fun _ => True) := fun r => by cases r <;> trivial
    refine OKP_mono (hT _) (fun _ _ _ => ?_) (fun _ h => h)
    rw [OKP_bnd]
    refine OKP_mono (hT _) (fun _ _ _ => ?_) (fun _ h => h)
    rw [OKP_bnd]
    refine OKP_mono (hT _) (fun _ _ _ => ?_) (fun _ h => h)
    rw [OKP_bnd]
    refine OKP_mono (hT _) (fun _ _ _ => ?_) (fun _ h => h)
    rw [OKP_bnd]
    refine OKP_mono (hT _) (fun _ _ _ => ?_) (fun _ h => h)
    exact ⟨fun _ => rfl, fun h => absurd (hm.symm.trans h) (by decide), by simp⟩
  · rw [if_neg hm, OKP_bnd]
    exact OKP_mono pVar_ok (fun _ _ h => ⟨fun h2 => absurd h2 hm, fun _ => h, by simp⟩) (fun _ h => h)
/-- the line's letter and element flag behind a target -/
theorem tgt_LG {num : Int32} {t : Int32 × List (List SOp)} {k : Nat} {r : LDT} (hs0 : s 0 = num ∧ s 1 = 0) (hk : k = 0 ∨ k = 9) (h : (isM (chr T n p) = true → t.1 = 26 + (chr T n p - 80)) ∧ (isM (chr T n p) = false → ¬ 26 ≤ t.1)) (hq : q 2 = 1000 + k) (hr : r.1 = k ∧ r.2.1 = t.1) : LG num r (us (us s 4 (if isM (chr T n p) then 1 else 0)) 3 (if isM (chr T n p) then chr T n p - 80 else t.1)) q := by
  have hel : isEl r = isM (chr T n p) := by
    unfold isEl
    rw [hr.1, hr.2]
    have : (k == 0 || k == 9) = true := by rcases hk with rfl | rfl <;> rfl
    rw [this, Bool.true_and]
    cases hm : isM (chr T n p)
    · exact decide_eq_false (h.2 hm)
    · rw [h.1 hm]
      exact decide_eq_true (isM_el hm).1
  refine ⟨?_, by rw [hr.1]; exact hq, ?_, fun _ => ?_, fun h9 => ?_, fun h9 => ?_, fun h9 => ?_⟩
  · exact ⟨(us_ne (by omega)).trans ((us_ne (by omega)).trans hs0.1), (us_ne (by omega)).trans ((us_ne (by omega)).trans hs0.2)⟩
  · rw [us_ne (by omega), us_eq, hel]
  · rw [us_eq, hel, hr.2]
    cases hm : isM (chr T n p)
    · rfl
    · rw [h.1 hm]
      exact (isM_el hm).2.1.symm
  · omega
  · omega
  · omega
theorem x_rest {K : Bool → Mem → Prop} {k : Nat} {num : Int32} (hk : k < 17) (hq : q 2 = 1000 + k) (hs0 : s 0 = num ∧ s 1 = 0) (hs4 : s 4 = 0) (hv : VP A0 T n L sl p 0 s q [] [] [] A) (kk : OKP (pRest T n k p) (fun p' d => ∀ A', CGood A0 T n L p' num d A' → K true A') (fun q' => ∀ A', VF A0 L q' A' → K false A')) : wp_Pa_rest 3 A K := by
  have h1 : 1000 ≤ q 2 := by omega
  have h2 : q 2 < 1017 := by omega
  have st : gR A L 2 = 1000 + k := hv.2.2.1.2.1.trans hq
  obtain ⟨a1, a2, a3, a4, a5, a6, a7, a8⟩ := rk1 k hk
  obtain ⟨a9, a10, a11, a12, a13, a14⟩ := rk2 k hk
  have hve := VP_sl hv (Nat.zero_le sl)
  have hn := VP_n hv
  unfold wp_Pa_rest
  rw [(VP_3 hv).2.2.2.1, st]
  refine ⟨rfl, (VP_3 hv).2.2.2.2, ⟨by omega, by omega⟩, rk4 k hk, fun h => ?_, fun h => ?_, fun h => ?_, fun h => ?_, fun h => ?_, fun h => ?_, fun h => ?_, fun h => ?_, fun h => ?_, fun h => ?_, fun h => ?_, fun h => ?_, fun h => ?_, fun h => ?_, fun b1 b2 b3 b4 b5 b6 b7 b8 b9 b10 b11 b12 b13 b14 => ?_⟩
  · obtain rfl := a1 h
    have h3 : false = decide (q 2 = 1004) := by rw [hq]; decide
    simp only [pRest, OKP_bnd] at kk
    refine x_target h1 h2 h3 hve (OKP_mono (OKP_and kk pTgt_ok) (fun p1 t k1 A1 hv1 _ => good_end (x_skp hv1 (by decide) (OKP_mono k1.1 (fun p2 _ k2 A2 hv2 => good_end ?_) (fun q' kb A' hf => bad_end (kb A' hf))))) (fun q' kb A' hf => bad_end (kb.1 A' hf)))
    have hlen : (cEn 0 t.2).length < 3 := by
      have := k1.2.2.2
      rw [cEn_len]
      omega
    refine x_expr h1 h2 h3 hlen hv2 (OKP_mono k2 (fun p3 e k3 A3 hv3 => good_end (k3 A3 ⟨0, _, _, ?_, tgt_LG hs0 (Or.inl rfl) ⟨k1.2.1, k1.2.2.1⟩ hq ⟨rfl, rfl⟩⟩)) (fun q' kb A' hf => bad_end (kb A' hf)))
    have e1 : cOs (t.2 ++ [e]) = cOs t.2 ++ List.map cOp e := by simp [cOs]
    have e2 : cEn 0 (t.2 ++ [e]) = cEn 0 t.2 ++ [iN ((cOs t.2).length + e.length)] := by
      rw [cEn_app, Nat.zero_add]
      simp only [cEn, cOs, List.length_map]
    show VP A0 T n L 0 p3 0 _ q (cOs (t.2 ++ [e])) [] (cEn 0 (t.2 ++ [e])) A3
    rw [e1, e2]
    exact hv3
  · obtain rfl := a2 h
    have h3 : false = decide (q 2 = 1004) := by rw [hq]; decide
    simp only [pRest, OKP_bnd] at kk
    refine x_expr h1 h2 h3 (by simp) hve (OKP_mono kk (fun p1 e k1 A1 hv1 => k1 A1 ⟨0, _, _, ?_, ⟨hs0, hq, hs4, fun h => (by simp at h), fun h => (by simp at h), fun h => (by simp at h), fun h => (by simp at h)⟩⟩) (fun q' kb A' hf => kb A' hf))
    simpa [cOs, cNu, cEn] using hv1
  · obtain rfl := a3 h
    have h3 : false = decide (q 2 = 1004) := by rw [hq]; decide
    simp only [pRest, OKP_bnd] at kk
    refine x_expr h1 h2 h3 (by simp) hve (OKP_mono kk (fun p1 e k1 A1 hv1 => good_end (x_relation hv1 (OKP_mono k1 (fun p2 r k2 A2 hv2 => good_end (x_expr h1 h2 h3 (by simp) hv2 (OKP_mono k2 (fun p3 f k3 A3 hv3 => good_end (x_word (x := 6) (by omega) rfl hv3 (OKP_mono k3 (fun p4 _ k4 A4 hv4 => good_end (x_jump (by simp) hv4 (OKP_mono k4 (fun p5 v k5 A5 hv5 => good_end (k5 A5 ⟨0, us s 6 (cRel r), q, ?_, ⟨?_, hq, ?_, fun h => (by simp at h), fun h => (by simp at h), fun _ => us_eq, fun h => (by simp at h)⟩⟩)) (fun q' kb A' hf => bad_end (kb A' hf))))) (fun q' kb A' hf => bad_end (kb A' hf))))) (fun q' kb A' hf => bad_end (kb A' hf))))) (fun q' kb A' hf => bad_end (kb A' hf))))) (fun q' kb A' hf => bad_end (kb A' hf)))
    · simpa [cOs, cNu, cEn] using hv5
    · exact ⟨(us_ne (by omega)).trans hs0.1, (us_ne (by omega)).trans hs0.2⟩
    · rw [us_ne (by omega)]; exact hs4
  · obtain rfl := a4 h
    simp only [pRest, OKP_bnd] at kk
    refine x_jump (by simp) hve (OKP_mono kk (fun p1 v k1 A1 hv1 => k1 A1 ⟨0, _, _, ?_, ⟨hs0, hq, hs4, fun h => (by simp at h), fun h => (by simp at h), fun h => (by simp at h), fun h => (by simp at h)⟩⟩) (fun q' kb A' hf => kb A' hf))
    simpa [cOs, cNu, cEn] using hv1
  · obtain rfl := a5 h
    have h3 : true = decide (q 2 = 1004) := by rw [hq]; decide
    simp only [pRest, OKP_bnd] at kk
    refine x_expr h1 h2 h3 (by simp) hve (OKP_mono kk (fun p1 e k1 A1 hv1 => good_end (x_word (x := 7) (by omega) rfl hv1 (OKP_mono k1 (fun p2 _ k2 A2 hv2 => good_end (x_jumps hv2 (OKP_mono k2 (fun p3 vs k3 A3 hv3 => good_end (k3 A3 ⟨0, _, _, ?_, ⟨hs0, hq, hs4, fun h => (by simp at h), fun h => (by simp at h), fun h => (by simp at h), fun h => (by simp at h)⟩⟩)) (fun q' kb A' hf => bad_end (kb A' hf))))) (fun q' kb A' hf => bad_end (kb A' hf))))) (fun q' kb A' hf => bad_end (kb A' hf)))
    simpa [cOs, cNu, cEn] using hv3
  · obtain rfl := a6 h
    simp only [pRest, OKP_bnd] at kk
    refine x_jump (by simp) hve (OKP_mono kk (fun p1 v k1 A1 hv1 => k1 A1 ⟨0, _, _, ?_, ⟨hs0, hq, hs4, fun h => (by simp at h), fun h => (by simp at h), fun h => (by simp at h), fun h => (by simp at h)⟩⟩) (fun q' kb A' hf => kb A' hf))
    simpa [cOs, cNu, cEn] using hv1
  · obtain rfl := a7 h
    have h3 : false = decide (q 2 = 1004) := by rw [hq]; decide
    simp only [pRest, OKP_bnd] at kk
    refine x_simple hve (OKP_mono kk (fun p1 a k1 A1 hv1 => good_end (x_skp hv1 (by decide) (OKP_mono k1 (fun p2 _ k2 A2 hv2 => good_end (x_expr h1 h2 h3 (by simp) hv2 (OKP_mono k2 (fun p3 e k3 A3 hv3 => good_end (x_word (x := 8) (by omega) rfl hv3 (OKP_mono k3 (fun p4 _ k4 A4 hv4 => good_end (x_expr h1 h2 h3 (by simp) hv4 (OKP_mono k4 (fun p5 f k5 A5 hv5 => good_end (x_growth h1 h2 h3 (by simp) hv5 (OKP_mono k5 (fun p6 g k6 A6 hv6 => good_end (k6 A6 ⟨0, us s 3 a, q, ?_, ⟨?_, hq, ?_, fun _ => us_eq, fun h => (by simp at h), fun h => (by simp at h), fun h => (by simp at h)⟩⟩)) (fun q' kb A' hf => bad_end (kb A' hf))))) (fun q' kb A' hf => bad_end (kb A' hf))))) (fun q' kb A' hf => bad_end (kb A' hf))))) (fun q' kb A' hf => bad_end (kb A' hf))))) (fun q' kb A' hf => bad_end (kb A' hf))))) (fun q' kb A' hf => bad_end (kb A' hf)))
    · simpa [cOs, cNu, cEn] using hv6
    · exact ⟨(us_ne (by omega)).trans hs0.1, (us_ne (by omega)).trans hs0.2⟩
    · rw [us_ne (by omega)]; exact hs4
  · obtain rfl := a8 h
    simp only [pRest, OKP_bnd] at kk
    refine x_simple hve (OKP_mono kk (fun p1 a k1 A1 hv1 => k1 A1 ⟨0, us s 3 a, q, ?_, ⟨?_, hq, ?_, fun _ => us_eq, fun h => (by simp at h), fun h => (by simp at h), fun h => (by simp at h)⟩⟩) (fun q' kb A' hf => kb A' hf))
    · simpa [cOs, cNu, cEn] using hv1
    · exact ⟨(us_ne (by omega)).trans hs0.1, (us_ne (by omega)).trans hs0.2⟩
    · rw [us_ne (by omega)]; exact hs4
  · obtain rfl := a9 h
    have h3 : false = decide (q 2 = 1004) := by rw [hq]; decide
    simp only [pRest, OKP_bnd] at kk
    refine x_target h1 h2 h3 hve (OKP_mono (OKP_and kk pTgt_ok) (fun p1 t k1 A1 hv1 _ => k1.1 A1 ⟨0, _, _, ?_, tgt_LG hs0 (Or.inr rfl) ⟨k1.2.1, k1.2.2.1⟩ hq ⟨rfl, rfl⟩⟩) (fun q' kb A' hf => kb.1 A' hf))
    simpa [cOs, cNu, cEn] using hv1
  · obtain rfl := a10 h
    simp only [pRest, OKP_bnd] at kk
    refine x_cons hve (OKP_mono kk (fun p1 cs k1 A1 hv1 => k1 A1 ⟨0, _, _, ?_, ⟨hs0, hq, hs4, fun h => (by simp at h), fun h => (by simp at h), fun h => (by simp at h), fun h => (by simp at h)⟩⟩) (fun q' kb A' hf => kb A' hf))
    simpa [cOs, cNu, cEn] using hv1
  · obtain rfl := a11 h
    simp only [pRest, OKP_bnd] at kk
    refine x_matrix hve (OKP_mono kk (fun p1 a k1 A1 hv1 => good_end (x_skp hv1 (by decide) (OKP_mono k1 (fun p2 _ k2 A2 hv2 => good_end (x_extent (by simp) hv2 (OKP_mono k2 (fun p3 r k3 A3 hv3 => good_end (x_skp hv3 (by decide) (OKP_mono k3 (fun p4 _ k4 A4 hv4 => good_end (x_extent (by simp) hv4 (OKP_mono k4 (fun p5 c k5 A5 hv5 => good_end (x_skp hv5 (by decide) (OKP_mono k5 (fun p6 _ k6 A6 hv6 => good_end (k6 A6 ⟨0, us s 3 a, q, ?_, ⟨?_, hq, ?_, fun _ => us_eq, fun h => (by simp at h), fun h => (by simp at h), fun h => (by simp at h)⟩⟩)) (fun q' kb A' hf => bad_end (kb A' hf))))) (fun q' kb A' hf => bad_end (kb A' hf))))) (fun q' kb A' hf => bad_end (kb A' hf))))) (fun q' kb A' hf => bad_end (kb A' hf))))) (fun q' kb A' hf => bad_end (kb A' hf))))) (fun q' kb A' hf => bad_end (kb A' hf)))
    · simpa [cOs, cNu, cEn] using hv6
    · exact ⟨(us_ne (by omega)).trans hs0.1, (us_ne (by omega)).trans hs0.2⟩
    · rw [us_ne (by omega)]; exact hs4
  · obtain rfl := a12 h
    have h3 : false = decide (q 2 = 1004) := by rw [hq]; decide
    simp only [pRest, OKP_bnd] at kk
    refine x_function hve (OKP_mono kk (fun p1 b k1 A1 hv1 => good_end (x_skp hv1 (by decide) (OKP_mono k1 (fun p2 _ k2 A2 hv2 => good_end (x_simple hv2 (OKP_mono k2 (fun p3 a k3 A3 hv3 => good_end (x_skp hv3 (by decide) (OKP_mono k3 (fun p4 _ k4 A4 hv4 => good_end (x_skp hv4 (by decide) (OKP_mono k4 (fun p5 _ k5 A5 hv5 => good_end (x_expr h1 h2 h3 (by simp) hv5 (OKP_mono k5 (fun p6 e k6 A6 hv6 => good_end (k6 A6 ⟨0, us (us s 5 b) 3 a, q, ?_, ⟨?_, hq, ?_, fun _ => us_eq, fun _ => ?_, fun h => (by simp at h), fun h => (by simp at h)⟩⟩)) (fun q' kb A' hf => bad_end (kb A' hf))))) (fun q' kb A' hf => bad_end (kb A' hf))))) (fun q' kb A' hf => bad_end (kb A' hf))))) (fun q' kb A' hf => bad_end (kb A' hf))))) (fun q' kb A' hf => bad_end (kb A' hf))))) (fun q' kb A' hf => bad_end (kb A' hf)))
    · simpa [cOs, cNu, cEn] using hv6
    · exact ⟨(us_ne (by omega)).trans ((us_ne (by omega)).trans hs0.1), (us_ne (by omega)).trans ((us_ne (by omega)).trans hs0.2)⟩
    · rw [us_ne (by omega), us_ne (by omega)]; exact hs4
    · rw [us_ne (by omega), us_eq]
  · obtain rfl := a13 h
    have h3 : false = decide (q 2 = 1004) := by rw [hq]; decide
    simp only [pRest, OKP_bnd] at kk
    refine x_matrix hve (OKP_mono kk (fun p1 a k1 A1 hv1 => good_end (x_skp hv1 (by decide) (OKP_mono k1 (fun p2 _ k2 A2 hv2 => good_end (x_source h1 h2 h3 hv2 (OKP_mono k2 (fun p3 r k3 A3 o' hv3 => good_end (k3 A3 ⟨o', us s 3 a, us q 7 (cForm r.1), ?_, ⟨?_, ?_, ?_, fun _ => us_eq, fun h => (by simp at h), fun h => (by simp at h), fun _ => us_eq⟩⟩)) (fun q' kb A' hf => bad_end (kb A' hf))))) (fun q' kb A' hf => bad_end (kb A' hf))))) (fun q' kb A' hf => bad_end (kb A' hf)))
    · simpa [cOs, cNu, cEn] using hv3
    · exact ⟨(us_ne (by omega)).trans hs0.1, (us_ne (by omega)).trans hs0.2⟩
    · rw [us_ne (by omega)]; exact hq
    · rw [us_ne (by omega)]; exact hs4
  · obtain rfl := a14 h
    simp only [pRest] at kk
    refine ⟨rfl, ?_⟩
    rw [(VP_3 hv).2.1]
    refine kk _ ⟨0, s, q, ?_, ⟨hs0, hq, hs4, fun h => (by simp at h), fun h => (by simp at h), fun h => (by simp at h), fun h => (by simp at h)⟩⟩
    have := VP_len hv
    exact VP_p hve (by omega) (by simp)
  · have ok : ∀ j, (j = 6 ∨ j = 11 ∨ j = 16) → (LG num (j, 0, 0, [], [], []) s q ↔ q 2 = 1000 + j) := by
      intro j hj
      refine ⟨fun h => h.2.1, fun h => ⟨hs0, h, ?_, fun h => ?_, fun h => ?_, fun h => ?_, fun h => ?_⟩⟩
      · rw [hs4]
        rcases hj with rfl | rfl | rfl <;> rfl
      all_goals (exfalso; simp only at h; omega)
    rcases rk3 k hk b1 b2 b3 b4 b5 b6 b7 b8 b9 b10 b11 b12 b13 b14 with rfl | rfl | rfl
    · exact kk A ⟨0, s, q, by simpa [cOs, cNu, cEn] using hve, (ok 6 (by omega)).mpr hq⟩
    · exact kk A ⟨0, s, q, by simpa [cOs, cNu, cEn] using hve, (ok 11 (by omega)).mpr hq⟩
    · exact kk A ⟨0, s, q, by simpa [cOs, cNu, cEn] using hve, (ok 16 (by omega)).mpr hq⟩
end VPl
