/-! every turn from the invariant keeps it -/
theorem vin0 {n : Nat} (h : 0 < n) : vp_in 0 n := iN_in (a := 0) h (by omega)
theorem eqLn {k b : Int32} {A : Mem} : (fun (t : Int32) (A9 : Mem) => ((t = k → ((¬ k = 0 → Inv A9) ∧ (k = 0 → kd 28 = 54 ∧ vp_in 0 (al 28) ∧ (((lg_cmp (gL A9 28 (Int32.toNatClampNeg 0)) (Int32.toInt64 b)) = 0 → Inv A9) ∧ (¬ (lg_cmp (gL A9 28 (Int32.toNatClampNeg 0)) (Int32.toInt64 b)) = 0 → False))))) ∧ (¬ t = k → False))) = fun t A3 => t = k ∧ (k = 0 → gL A3 28 0 = b.toInt64) ∧ Inv A3 := by
  funext t A9
  refine propext ⟨fun h => ?_, fun h => ⟨fun _ => ⟨fun _ => h.2.2, fun q => ⟨rfl, vin0 (by decide), fun _ => h.2.2, fun hn => hn (lg0.mpr (h.2.1 q))⟩⟩, fun q => q h.1⟩⟩
  have ht : t = k := by
    by_cases e : t = k
    · exact e
    · exact (h.2 e).elim
  obtain ⟨h1, h2⟩ := h.1 ht
  refine ⟨ht, fun q => ?_, ?_⟩
  · by_cases e : lg_cmp (gL A9 28 (Int32.toNatClampNeg 0)) (Int32.toInt64 b) = 0
    · exact lg0.mp e
    · exact ((h2 q).2.2.2 e).elim
  · by_cases q : k = 0
    · by_cases e : lg_cmp (gL A9 28 (Int32.toNatClampNeg 0)) (Int32.toInt64 b) = 0
      · exact (h2 q).2.2.1 e
      · exact ((h2 q).2.2.2 e).elim
    · exact h1 q
theorem eqDn {k : Int32} {b : UInt64} : (fun (t : Int32) (A50 : Mem) => ((t = k → ((¬ k = 0 → Inv A50) ∧ (k = 0 → kd 29 = 53 ∧ vp_in 0 (al 29) ∧ (((Op.cmpValue (FP.dcmp (gD A50 29 (Int32.toNatClampNeg 0)) b) .l) = 0 → Inv A50) ∧ (¬ (Op.cmpValue (FP.dcmp (gD A50 29 (Int32.toNatClampNeg 0)) b) .l) = 0 → (((Op.cmpValue (FP.dcmp (gD A50 29 (Int32.toNatClampNeg 0)) (gD A50 29 (Int32.toNatClampNeg 0))) .l) = 0 → False) ∧ (¬ (Op.cmpValue (FP.dcmp (gD A50 29 (Int32.toNatClampNeg 0)) (gD A50 29 (Int32.toNatClampNeg 0))) .l) = 0 → ((¬ (Op.cmpValue (FP.dcmp b b) .l) = 0 → Inv A50) ∧ ((Op.cmpValue (FP.dcmp b b) .l) = 0 → False))))))))) ∧ (¬ t = k → False))) = fun t A3 => t = k ∧ (k = 0 → DDd (gD A3 29 0) b) ∧ Inv A3 := by
  funext t A9
  have e0 : Int32.toNatClampNeg 0 = 0 := rfl
  rw [e0]
  refine propext ⟨fun h => ?_, fun h => ⟨fun _ => ⟨fun _ => h.2.2, fun q => ⟨rfl, vin0 (by decide), fun _ => h.2.2, fun hn => ⟨fun hx => ?_, fun hx => ⟨fun _ => h.2.2, fun hb => ?_⟩⟩⟩⟩, fun q => q h.1⟩⟩
  · have ht : t = k := by
      by_cases e : t = k
      · exact e
      · exact (h.2 e).elim
    obtain ⟨h1, h2⟩ := h.1 ht
    by_cases q : k = 0
    · obtain ⟨-, -, h3, h4⟩ := h2 q
      by_cases e : Op.cmpValue (FP.dcmp (gD A9 29 0) b) .l = 0
      · exact ⟨ht, fun _ => Or.inl e, h3 e⟩
      · obtain ⟨h5, h6⟩ := h4 e
        by_cases ex : Op.cmpValue (FP.dcmp (gD A9 29 0) (gD A9 29 0)) .l = 0
        · exact (h5 ex).elim
        · obtain ⟨h7, h8⟩ := h6 ex
          by_cases eb : Op.cmpValue (FP.dcmp b b) .l = 0
          · exact (h8 eb).elim
          · exact ⟨ht, fun _ => Or.inr ⟨ex, eb⟩, h7 eb⟩
    · exact ⟨ht, fun q' => absurd q' q, h1 q⟩
  · rcases h.2.1 q with g | g
    · exact hn g
    · exact g.1 hx
  · rcases h.2.1 q with g | g
    · exact hn g
    · exact g.2 hb
theorem eqEn {r : Int32} : (fun (b : Int32) (A25 : Mem) => ((r = b → Inv A25) ∧ (¬ r = b → False))) = fun b A2 => r = b ∧ Inv A2 := by
  funext b A2
  refine propext ⟨fun h => ?_, fun h => ⟨fun _ => h.2, fun q => q h.1⟩⟩
  by_cases e : r = b
  · exact ⟨e, h.1 e⟩
  · exact (h.2 e).elim
theorem k250 : kd 250 = 9 := rfl
theorem turn_ok {L : Nat} {zs : Nat → Int32} {i : Int32} {A : Mem} (h : Inv A) (h0 : vp_in i L) (h1 : vp_in (i + 1) L) (h2 : vp_in (i + 2) L) (h3 : vp_in (i + 3) L) : wp_turn L zs i A Inv := by
  have q0 : vp_in i L = True := eq_true h0
  have q1 : vp_in (i + 1) L = True := eq_true h1
  have q2 : vp_in (i + 2) L = True := eq_true h2
  have q3 : vp_in (i + 3) L = True := eq_true h3
  have q4 : (kd 250 = 9) = True := eq_true k250
  have q5 : (kd 1 = 1) = True := eq_true rfl
  unfold wp_turn
  simp only [q0, q1, q2, q3, q4, q5, true_and]
  refine ⟨fun _ => ?_, fun _ => ?_, fun _ => ?_, fun _ => ?_, fun _ => ?_, fun _ => ?_, fun _ => ?_, fun _ => ?_, fun _ => ?_, fun _ => ?_, fun _ _ _ _ _ _ _ _ _ _ => h⟩
  · have := t_type (z := zs (Int32.toNatClampNeg (i + 1))) h
    simp only [← eqLn (A := A)] at this
    exact this
  · have := t_enter h
    simp only [← eqLn (A := A)] at this
    exact this
  · have := t_errorAt h
    simp only [← eqEn] at this
    exact this
  · have := t_wipe h
    simp only [← eqEn] at this
    exact this
  · have := t_run h
    simp only [← eqLn (A := A)] at this
    exact this
  · have := t_printed (z := zs (Int32.toNatClampNeg (i + 1))) h
    simp only [← eqDn] at this
    exact this
  · have := t_variable (z := zs (Int32.toNatClampNeg (i + 1))) h
    simp only [← eqDn] at this
    exact this
  · have := t_element (z1 := zs (Int32.toNatClampNeg (i + 1))) (z2 := zs (Int32.toNatClampNeg (i + 2))) (z3 := zs (Int32.toNatClampNeg (i + 3))) h
    simp only [← eqDn] at this
    exact this
  · have := t_at h
    simp only [← eqEn] at this
    exact this
  · have := t_count (z := zs (Int32.toNatClampNeg (i + 1))) h
    simp only [← eqEn] at this
    exact this
