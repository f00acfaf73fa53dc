/-- an operation's answer in the reference, next to the class's -/
def oKm (A : Mem) (o : Option UInt64) (K : UInt64 → Mem → Prop) : Prop := (∀ r r', o = some r → dz r r' → okd r' → K r' A) ∧ (o = none → K FP.dconst0 (sI A 250 27 4))
section MAR
variable {A : Mem} {K : UInt64 → Mem → Prop}
theorem oKm_of {o o' : Option UInt64} (h : dzO o o') (k : oKm A o K) : (∀ r', o' = some r' → okd r' → K r' A) ∧ (o' = none → K FP.dconst0 (sI A 250 27 4)) := by
  rcases h with ⟨h1, h2⟩ | ⟨x, y, h1, h2, h3, h4⟩
  · exact ⟨fun r' hr => (by rw [h2] at hr; cases hr), fun _ => k.2 h1⟩
  · refine ⟨fun r' hr ho => ?_, fun hr => (by rw [h2] at hr; cases hr)⟩
    rw [h2] at hr
    have hr := Option.some.inj hr
    exact k.1 x r' h1 (by rw [← hr]; exact h3) ho
theorem m_kept {x : UInt64} (hx : FP.Core.dIsNaN x = false) (k1 : ∀ r, kpF x = some r → okd r → K r A) (k2 : kpF x = none → K FP.dconst0 (sI A 250 27 4)) : wp_Mo_kept 250 x A K := by
  unfold wp_Mo_kept
  rw [fk_hi hx, fk_lo hx]
  have e := okd_key x
  refine ⟨fun h => ⟨rfl, k2 (kpF_no (fun q => by have := (e.mp q).1; omega))⟩, fun h => ⟨fun h' => ?_, fun h' => ⟨rfl, k2 (kpF_no (fun q => h' (e.mp q).2))⟩⟩⟩
  have ho := e.mpr ⟨by omega, h'⟩
  exact k1 x (kpF_ok ho) ho
theorem m_divided {x y : UInt64} (hx : okd x) (hy : okd y) (k1 : ∀ r, dvF x y = some r → okd r → K r A) (k2 : dvF x y = none → K FP.dconst0 (sI A 250 27 4)) : wp_Mo_divided 250 x y A K := by
  unfold wp_Mo_divided
  rw [fk_0eq hy, fk_zero]
  unfold dvF at k1 k2
  refine ⟨fun hz => ?_, fun hz => ?_⟩
  · rw [if_neg hz] at k1 k2
    have hz' : ¬ FP.Core.DZero y := fun q => hz ((fk_zero y).mp q)
    exact ⟨vfn_div hx hy hz', rfl, m_kept (FP.Core.ddiv_out (okd_nn hx) (okd_fin hy) hz') k1 k2⟩
  · rw [if_pos hz] at k2
    exact ⟨rfl, k2 rfl⟩
theorem i32_nn {v : Int32} : 0 ≤ v ↔ 0 ≤ v.toInt := by rw [Int32.le_iff_toInt_le]; exact Iff.rfl
/-- the exponent's sign is the double's -/
theorem fz_sgn {y : UInt64} (hy : okd y) (h : FP.Core.dkey (FP.i2d (FP.d2i y)) = FP.Core.dkey y) : 0 ≤ FP.d2i y ↔ 0 ≤ FP.Core.dkey y := by
  rw [← h, ← fk_0nn (okd_i2d _) (op := .g), fk_0nn (okd_i2d _), i32_nn]
  have e := FP.Core.dcmp_int (FP.Core.i2d_int (FP.d2i y)) (FP.Core.i2d_int 0)
  have e2 := fz_ck (okd_i2d (FP.d2i y)) (okd_i2d 0)
  rw [show FP.dcmp (FP.i2d (FP.d2i y)) (FP.i2d 0) = some (compare (FP.d2i y).toInt (0 : Int32).toInt) from e] at e2
  have e3 := Option.some.inj e2
  rw [show FP.Core.dkey (FP.i2d 0) = 0 by decide +kernel, FP.Core.compare_ite, FP.Core.compare_ite, show (0 : Int32).toInt = 0 from rfl] at e3
  by_cases h1 : (FP.d2i y).toInt < 0
  · rw [if_pos h1] at e3
    by_cases h2 : FP.Core.dkey (FP.i2d (FP.d2i y)) < 0
    · omega
    · rw [if_neg h2] at e3
      split at e3 <;> cases e3
  · rw [if_neg h1] at e3
    by_cases h2 : FP.Core.dkey (FP.i2d (FP.d2i y)) < 0
    · rw [if_pos h2] at e3
      split at e3 <;> cases e3
    · omega
theorem m_pow82F {x5 : Int32} (hf : gI A 250 27 ≠ 0) (k : K FP.dconst0 A) : wp_Mo_power_c82 K 250 x5 FP.dconst0 A :=
  ⟨fun _ => k, fun _ => ⟨rfl, fun _ => k, fun h => absurd h hf⟩⟩
theorem m_powLoop {x y : UInt64} {N : Nat} (hx : okd x) (hN : N ≤ 20) {x5 : Int32} (h5 : x5.toInt.natAbs = N) (hsg : 0 ≤ x5 ↔ 0 ≤ FP.Core.dkey y) (h0 : gI A 250 27 = 0)  :
    ∀ (j i fu : Nat) (a : UInt64), i + j = N → j + 1 < fu → okd a → (∀ r, (pwL x j a).bind (pwE y) = some r → okd r → K r A) → ((pwL x j a).bind (pwE y) = none → K FP.dconst0 (sI A 250 27 4)) → wp_Mo_power_c41 K fu 250 x x5 a (iN i) A := by
  have hab : (0 ≤ x5 → x5 = iN N) ∧ (¬ 0 ≤ x5 → -x5 = iN N) := by
    rw [i32_nn]
    refine ⟨fun h => Int32.toInt.inj ?_, fun h => Int32.toInt.inj ?_⟩
    · rw [iN_toInt (by omega)]; omega
    · rw [iN_toInt (by omega), Int32.toInt_neg, Int.bmod_eq_of_le (by omega) (by omega)]; omega
  intro j
  induction j with
  | zero =>
    intro i fu a hi hfu ha k1 k2
    obtain ⟨fu, rfl⟩ : ∃ g, fu = g + 1 := ⟨fu - 1, by omega⟩
    have k1 : ∀ r, pwE y a = some r → okd r → K r A := k1
    have k2 : pwE y a = none → K FP.dconst0 (sI A 250 27 4) := k2
    unfold pwE at k1 k2
    have fin : wp_Mo_power_c82 K 250 x5 a A := by
      unfold wp_Mo_power_c82
      refine ⟨fun h => ?_, fun h => ⟨rfl, fun q => absurd h0 q, fun _ => ?_⟩⟩
      · rw [if_pos (hsg.mp h)] at k1
        exact k1 a rfl ha
      · rw [if_neg (fun q => h (hsg.mpr q))] at k1 k2
        exact m_divided okd_1 ha k1 k2
    unfold wp_Mo_power_c41
    refine ⟨fun h => ?_, fun h => ?_⟩
    · rw [hab.1 h] at fin ⊢
      unfold wp_Mo_power_c56
      rw [iN_le (by omega) (by omega)]
      exact ⟨fun _ => fin, fun q => by omega⟩
    · rw [hab.2 h]
      unfold wp_Mo_power_c56
      rw [iN_le (by omega) (by omega)]
      exact ⟨fun _ => fin, fun q => by omega⟩
  | succ j ih =>
    intro i fu a hi hfu ha k1 k2
    obtain ⟨fu, rfl⟩ : ∃ g, fu = g + 2 := ⟨fu - 2, by omega⟩
    rw [show pwL x (j + 1) a = (kpF (FP.dmul a x)).bind (pwL x j) from rfl] at k1 k2
    have step : vf_n64 (FP.dmul a x) ∧ wp_Mo_kept 250 (FP.dmul a x) A (fun (r7 : UInt64) (A6 : Mem) => wp_Mo_power_c41 K (fu + 1) 250 x x5 r7 (iN i + 1) A6) := by
      refine ⟨vfn_mul ha hx, m_kept (FP.Core.dmul_out (okd_fin ha) (okd_fin hx)) (fun r hr ho => ?_) (fun hr => ?_)⟩
      · rw [hr] at k1 k2
        rw [iN_1]
        exact ih (i + 1) (fu + 1) r (by omega) (by omega) ho k1 k2
      · rw [hr] at k2
        have k2 := k2 rfl
        have hf : gI (sI A 250 27 4) 250 27 ≠ 0 := by rw [gI_eq]; decide
        unfold wp_Mo_power_c41
        have both : ∀ s0 s1, wp_Mo_power_c56 (wp_Mo_power_c41 K fu) K 250 x x5 FP.dconst0 (iN i + 1) s0 s1 (sI A 250 27 4) := fun s0 s1 =>
          ⟨fun _ => m_pow82F hf k2, fun _ => ⟨rfl, fun _ => m_pow82F hf k2, fun h => absurd h hf⟩⟩
        exact ⟨fun _ => both _ _, fun _ => both _ _⟩
    unfold wp_Mo_power_c41
    refine ⟨fun h => ?_, fun h => ?_⟩
    · have e := hab.1 h
      unfold wp_Mo_power_c56
      refine ⟨fun q => ?_, fun _ => ⟨rfl, fun q => absurd h0 q, fun _ => step⟩⟩
      rw [e, iN_le (by omega) (by omega)] at q
      omega
    · have e := hab.2 h
      unfold wp_Mo_power_c56
      refine ⟨fun q => ?_, fun _ => ⟨rfl, fun q => absurd h0 q, fun _ => step⟩⟩
      rw [e, iN_le (by omega) (by omega)] at q
      omega
theorem m_power {x y : UInt64} (hx : okd x) (hy : okd y) (h0 : gI A 250 27 = 0) (k1 : ∀ r, pwF x y = some r → okd r → K r A) (k2 : pwF x y = none → K FP.dconst0 (sI A 250 27 4)) : wp_Mo_power 250 x y A K := by
  unfold wp_Mo_power
  rw [fk_neg (okd_nn hy) fz_nnm20, fk_pos (okd_nn hy) fz_nn20, fk_eq (okd_nn (okd_l2d (fz_d2l hy))) (okd_nn hy)]
  unfold pwF at k1 k2
  refine ⟨fun h1 => ?_, fun h1 => ⟨fun h2 => ?_, fun h2 => ?_⟩⟩
  · rw [if_pos h1] at k2
    exact ⟨rfl, k2 rfl⟩
  · rw [if_neg h1, if_pos h2] at k2
    exact ⟨rfl, k2 rfl⟩
  · rw [fz_whole h1 h2]
    rw [if_neg h1, if_neg h2] at k1 k2
    refine ⟨fun h3 => ?_, fun h3 => ?_⟩
    · rw [if_pos h3] at k1 k2
      have hs := (fz_small h1 h2).2
      exact ⟨_ + 2, m_powLoop hx hs rfl (fz_sgn hy h3) h0 _ 0 _ _ (by omega) (Nat.lt_succ_self _) okd_1 k1 k2⟩
    · rw [if_neg h3] at k2
      exact ⟨rfl, k2 rfl⟩
theorem m_one {j : Nat} {x x' : UInt64} (hj : j = 3 ∨ j = 9 ∨ j = 10 ∨ j = 11) (hd : dz x x') (hx : okd x) {f : UInt64 → UInt64} (hf : f = if j = 3 then FP.dneg else if j = 9 then szF else if j = 10 then flF else sgF)
    (k : ∀ r', dz (f x) r' → okd r' → K r' A) : wp_Mo_one 250 (if j = 3 then 8 else iN j) x' A K := by
  have hx' := dz_okd hd hx
  unfold wp_Mo_one
  rcases hj with e | e | e | e <;> subst e
  · rw [hf] at k
    exact ⟨fun q => absurd rfl q, fun _ => k _ (dz_neg hd) (okd_neg hx')⟩
  · rw [hf] at k
    have k := k _ (dz_sz hd) (okd_sz hx')
    refine ⟨fun _ => ⟨fun q => absurd rfl q, fun _ => ?_⟩, fun q => absurd q (by decide)⟩
    rw [fk_0nn hx']
    unfold szF at k
    exact ⟨fun h => by rw [if_pos h] at k; exact k, fun h => by rw [if_neg h] at k; exact k⟩
  · rw [hf] at k
    have k := k _ (Or.inl (dz_fl hd)) (okd_fl hx')
    refine ⟨fun _ => ⟨fun _ => ⟨fun q => absurd rfl q, fun _ => ⟨rfl, ?_⟩⟩, fun q => absurd q (by decide)⟩, fun q => absurd q (by decide)⟩
    unfold wp_Mo_floor
    rw [fk_np (okd_nn (okd_l2d (fz_d2l hx'))) (okd_nn hx')]
    unfold flF at k
    exact ⟨fun h => by rw [if_pos h] at k; exact k, fun h => by rw [if_neg h] at k; exact k⟩
  · rw [hf] at k
    have k := k _ (Or.inl (dz_sg hd)) (okd_sg x')
    refine ⟨fun _ => ⟨fun _ => ⟨fun _ => ?_, fun q => absurd q (by decide)⟩, fun q => absurd q (by decide)⟩, fun q => absurd q (by decide)⟩
    rw [fk_0nn hx', fk_0np hx']
    unfold sgF at k
    refine ⟨fun h => ?_, fun h => by rw [if_neg h] at k; exact k⟩
    rw [if_pos h] at k
    exact ⟨fun h => by rw [if_pos h] at k; exact k, fun h => by rw [if_neg h] at k; exact k⟩
theorem m_fin {o o' : Option UInt64} (h : dzO o o') (k : oKm A o K) : (∀ r', o' = some r' → okd r' → K r' A) ∧ (o' = none → K FP.dconst0 (sI A 250 27 4)) := oKm_of h k
theorem m_two {x x' y y' : UInt64} (h0 : gI A 250 27 = 0) (hd : dz x x') (hx : okd x) (he : dz y y') (hy : okd y) {j : Nat} (hj : 4 ≤ j) (hj2 : j ≤ 8)
    (k : oKm A (if j = 4 then kpF (FP.dadd x y) else if j = 5 then kpF (FP.dsub x y) else if j = 6 then kpF (FP.dmul x y) else if j = 7 then dvF x y else pwF x y) K) : wp_Mo_two 250 (iN (j - 1)) x' y' A K := by
  have hx' := dz_okd hd hx
  have hy' := dz_okd he hy
  unfold wp_Mo_two
  rcases (by omega : j = 4 ∨ j = 5 ∨ j = 6 ∨ j = 7 ∨ j = 8) with e | e | e | e | e <;> subst e
  · rw [if_pos rfl] at k
    have k := m_fin (dzO_kp (dz_add hx hy hd he)) k
    exact ⟨fun q => absurd rfl q, fun _ => ⟨vfn_add hx' hy', rfl, m_kept (FP.Core.dadd_out (okd_nn hx') (okd_fin hy')) k.1 k.2⟩⟩
  · rw [if_neg (by decide), if_pos rfl] at k
    have k := m_fin (dzO_kp (dz_sub hx hy hd he)) k
    exact ⟨fun _ => ⟨fun q => absurd rfl q, fun _ => ⟨vfn_sub hx' hy', rfl, m_kept (FP.Core.dsub_out (okd_nn hx') (okd_fin hy')) k.1 k.2⟩⟩, fun q => absurd q (by decide)⟩
  · rw [if_neg (by decide), if_neg (by decide), if_pos rfl] at k
    have k := m_fin (dzO_kp (dz_mul hx hy hd he)) k
    exact ⟨fun _ => ⟨fun _ => ⟨fun q => absurd rfl q, fun _ => ⟨vfn_mul hx' hy', rfl, m_kept (FP.Core.dmul_out (okd_fin hx') (okd_fin hy')) k.1 k.2⟩⟩, fun q => absurd q (by decide)⟩, fun q => absurd q (by decide)⟩
  · rw [if_neg (by decide), if_neg (by decide), if_neg (by decide), if_pos rfl] at k
    have k := m_fin (dzO_dv hx hy hd he) k
    exact ⟨fun _ => ⟨fun _ => ⟨fun _ => ⟨fun q => absurd rfl q, fun _ => ⟨rfl, m_divided hx' hy' k.1 k.2⟩⟩, fun q => absurd q (by decide)⟩, fun q => absurd q (by decide)⟩, fun q => absurd q (by decide)⟩
  · rw [if_neg (by decide), if_neg (by decide), if_neg (by decide), if_neg (by decide)] at k
    have k := m_fin (dzO_pw hx hd he) k
    exact ⟨fun _ => ⟨fun _ => ⟨fun _ => ⟨fun _ => ⟨rfl, m_power hx' hy' h0 k.1 k.2⟩, fun q => absurd q (by decide)⟩, fun q => absurd q (by decide)⟩, fun q => absurd q (by decide)⟩, fun q => absurd q (by decide)⟩
end MAR
