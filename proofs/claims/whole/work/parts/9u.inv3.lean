section IN3
variable {A A' A1 A'' : Mem} {P P' : PT} {sl sl' : List Nat} {tl : List Int32}
def vrI (z : Int32) (n : Nat) : Prop := n < 26 ∧ z = iN n ∧ ¬ (15 ≤ n ∧ n ≤ 17)
theorem vrI_no {z : Int32} (h : z < 0 ∨ 26 ≤ z) : ¬ ∃ n, vrI z n := by
  rintro ⟨n, h1, h2, -⟩
  rw [h2, show (0 : Int32) = iN 0 from rfl, show (26 : Int32) = iN 26 from rfl, iN_lt (by omega) (by omega), iN_le (by omega) (by omega)] at h
  omega
theorem vrI_no2 {n : Nat} (hn : n < 26) (h : 15 ≤ n ∧ n ≤ 17) : ¬ ∃ m, vrI (iN n) m := by
  rintro ⟨m, h1, h2, h3⟩
  rw [iN_eq (by omega) (by omega)] at h2
  omega
theorem c_variable {z : Int32} {K : UInt64 → Mem → Prop} {KX : Nat → Mem → Prop} (hW : WC A) (k1 : ∀ n, vrI z n → K (gD A 9 n) A) (k0 : (¬ ∃ n, vrI z n) → KX 0 A) : wp_BM_variable 1 z A K KX := by
  have g4 : gR A 1 4 = 5 := hW.1.2.2.1
  have g51 : gR A 5 1 = 8 := hW.2.1.2.1
  have g81 : gR A 8 1 = 9 := hW.2.2.1.1
  unfold wp_BM_variable
  refine ⟨fun hn => k0 (vrI_no (Or.inl hn)), fun hn => ⟨fun h26 => k0 (vrI_no (Or.inr h26)), fun h26 => ?_⟩⟩
  have hz0 : 0 ≤ z := Int32.not_lt.mp hn
  have ez := iN_of hz0
  have hzl := Int32.toNatClampNeg_lt z
  rw [ez, show (26 : Int32) = iN 26 from rfl, iN_le (by omega) (by omega)] at h26
  generalize z.toNatClampNeg = n at ez h26
  subst ez
  have tr : ¬ (15 ≤ n ∧ n ≤ 17) → kd 1 = 1 ∧ kd (gR A 1 4) = 4 ∧ kd (gR A (gR A 1 4) 1) = 6 ∧ wp_Ca_get (gR A (gR A 1 4) 1) (iN n) A (fun r6 A5 => K r6 A5) := fun hg => by
    rw [g4, g51]
    unfold wp_Ca_get
    rw [g81, show Int32.ofNat (al 9) = iN 26 from rfl, show (0 : Int32) = iN 0 from rfl, iN_lt (by omega) (by omega), iN_le (by omega) (by omega), iN_cl (by omega)]
    exact ⟨rfl, rfl, rfl, fun q => by omega, fun _ => ⟨rfl, rfl, fun q => by omega, fun _ => ⟨iN_in (m := 26) (by omega) (by omega), k1 n ⟨by omega, rfl, hg⟩⟩⟩⟩
  unfold wp_BM_isVariable
  rw [show (65 : Int32) = iN 65 from rfl, iN_add, show (90 : Int32) = iN 90 from rfl, show (80 : Int32) = iN 80 from rfl, show (82 : Int32) = iN 82 from rfl, iN_lt (by omega) (by omega), iN_lt (by omega) (by omega), iN_lt (by omega) (by omega), iN_le (by omega) (by omega)]
  refine ⟨fun q => by omega, fun _ => ⟨fun q => by omega, fun _ => ⟨fun q => ⟨fun _ => tr (by omega), fun q => (by cases q)⟩, fun q => ⟨fun q' => ⟨fun q => (by cases q), fun _ => k0 (vrI_no2 (by omega) (by omega))⟩, fun q' => ⟨fun _ => tr (by omega), fun q => (by cases q)⟩⟩⟩⟩⟩
theorem m_variable {z : Int32} {K : UInt64 → Mem → Prop} (hW : MW A) (k1 : ∀ n, vrI z n → K (gD A 260 n) (sI A 250 0 0)) (k0 : (¬ ∃ n, vrI z n) → K FP.dconst0 (sI A 250 0 1)) : wp_Mo_variable1 250 z A K := by
  have m29 : gR A 250 29 = 260 := hW.2 29 (by omega) (by omega)
  unfold wp_Mo_variable1
  refine ⟨fun hn => ⟨rfl, k0 (vrI_no (Or.inl hn))⟩, fun hn => ⟨fun h26 => ⟨rfl, k0 (vrI_no (Or.inr ?_))⟩, fun h26 => ⟨rfl, ?_⟩⟩⟩
  · have hz0 : 0 ≤ z := Int32.not_lt.mp hn
    have ez := iN_of hz0
    have hzl := Int32.toNatClampNeg_lt z
    rw [ez, show (25 : Int32) = iN 25 from rfl, iN_lt (by omega) (by omega)] at h26
    rw [ez, show (26 : Int32) = iN 26 from rfl, iN_le (by omega) (by omega)]
    omega
  · have hz0 : 0 ≤ z := Int32.not_lt.mp hn
    have ez := iN_of hz0
    have hzl := Int32.toNatClampNeg_lt z
    rw [ez, show (25 : Int32) = iN 25 from rfl, iN_lt (by omega) (by omega)] at h26
    generalize z.toNatClampNeg = n at ez h26
    subst ez
    unfold wp_Mo_isMatrix
    rw [show (65 : Int32) = iN 65 from rfl, iN_add, show (80 : Int32) = iN 80 from rfl, show (82 : Int32) = iN 82 from rfl, iN_lt (by omega) (by omega), iN_lt (by omega) (by omega)]
    have tr : ¬ (15 ≤ n ∧ n ≤ 17) → kd (gR (sI A 250 0 0) 250 29) = 53 ∧ vp_in (iN n) (al (gR (sI A 250 0 0) 250 29)) ∧ K (gD (sI A 250 0 0) (gR (sI A 250 0 0) 250 29) n) (sI A 250 0 0) := fun hg => by
      rw [show gR (sI A 250 0 0) 250 29 = 260 from m29]
      exact ⟨rfl, iN_in (m := 26) (by omega) (by omega), k1 n ⟨by omega, rfl, hg⟩⟩
    exact ⟨fun q => ⟨fun _ => tr (by omega), fun q => (by cases q)⟩, fun q => ⟨fun q' => ⟨fun _ => tr (by omega), fun q => (by cases q)⟩, fun q' => ⟨fun q => (by cases q), fun _ => k0 (vrI_no2 (by omega) (by omega))⟩⟩⟩
theorem t_variable {z : Int32} (h : Inv A) : wp_La_variable z A (fun k A1 => wp_Mo_variable1 250 z A1 (fun b A2 => wp_Mo_thrown 250 A2 (fun t A3 => t = k ∧ (k = 0 → DDd (gD A3 29 0) b) ∧ Inv A3))) := by
  have h' := h
  obtain ⟨tl, P, sl, -, ⟨⟨w1, w2⟩, -, ⟨ho, -⟩, -, -, hv, -⟩⟩ := h'
  refine c_variable w1 (fun n hn => ?_) (fun hn => ⟨rfl, ?_⟩)
  · refine m_variable w2 (fun m hm => ⟨rfl, gI_eq, fun _ => DDz ?_, Inv_c (Inv_D h)⟩) (fun hno => absurd ⟨n, hn⟩ hno)
    have e : m = n := by
      have := hm.2.1.symm.trans hn.2.1
      rw [iN_eq (by have := hm.1; omega) (by have := hn.1; omega)] at this
      exact this
    show dz (gD (sD A 29 0 (gD A 9 n)) 29 0) (gD (sD A 29 0 (gD A 9 n)) 260 m) ∧ okd (gD (sD A 29 0 (gD A 9 n)) 29 0)
    rw [gD_eq, gD_ne (Or.inl (by omega)), e]
    exact ⟨hv n hn.1, ho n⟩
  · exact m_variable w2 (fun m hm => absurd ⟨m, hm⟩ hn) (fun _ => ⟨rfl, gI_eq, fun q => absurd q (by decide), Inv_c h⟩)
def elI (z1 z2 z3 : Int32) (r c : Nat → Nat) (m i j : Nat) : Prop := m < 3 ∧ z1 = iN m ∧ z2 = iN (i + 1) ∧ z3 = iN (j + 1) ∧ i < r m ∧ j < c m
theorem mt_case {z : Int32} : (z < 0 ∨ ¬ z ≤ 2) ∨ ∃ m, m < 3 ∧ z = iN m := by
  by_cases hn : z < 0
  · exact Or.inl (Or.inl hn)
  · by_cases h2 : z ≤ 2
    · have hz0 : 0 ≤ z := Int32.not_lt.mp hn
      have ez := iN_of hz0
      have hzl := Int32.toNatClampNeg_lt z
      rw [ez, show (2 : Int32) = iN 2 from rfl, iN_le (by omega) (by omega)] at h2
      exact Or.inr ⟨_, by omega, ez⟩
    · exact Or.inl (Or.inr h2)
theorem mt_no {z : Int32} {m : Nat} (hm : m < 3) (e : z = iN m) : ¬ z < 0 ∧ z ≤ 2 := by
  rw [e, show (0 : Int32) = iN 0 from rfl, show (2 : Int32) = iN 2 from rfl, iN_lt (by omega) (by omega), iN_le (by omega) (by omega)]
  omega
theorem c_element {z1 z2 z3 : Int32} {r c : Nat → Nat} {K : UInt64 → Mem → Prop} {KX : Nat → Mem → Prop} (hW : WC A) (hs : ∀ m, m < 3 → gI A (12 + m) 0 = iN (r m) ∧ gI A (12 + m) 1 = iN (c m) ∧ r m ≤ 6 ∧ c m ≤ 6) (k1 : ∀ m i j, elI z1 z2 z3 r c m i j → K (gD A (16 + m) (i * 6 + j)) A) (k0 : (z1 < 0 ∨ ¬ z1 ≤ 2) → KX 0 A) (k4 : ∀ m, m < 3 → z1 = iN m → (¬ ∃ i j, elI z1 z2 z3 r c m i j) → KX 4 A) : wp_BM_element 1 z1 z2 z3 A K KX := by
  have g4 : gR A 1 4 = 5 := hW.1.2.2.1
  have g51 : gR A 5 1 = 8 := hW.2.1.2.1
  unfold wp_BM_element
  rw [g4, g51]
  rcases mt_case (z := z1) with hb | ⟨m, hm, e⟩
  · refine ⟨fun q => k0 (Or.inl q), fun hn => ⟨fun q => ?_, fun q => k0 (Or.inr q)⟩⟩
    rcases hb with hb | hb
    · exact absurd hb hn
    · exact absurd q hb
  · obtain ⟨n1, n2⟩ := mt_no hm e
    refine ⟨fun q => absurd q n1, fun _ => ⟨fun _ => ⟨rfl, rfl, rfl, ?_⟩, fun q => absurd n2 q⟩⟩
    have hmat : wp_Ca_matrixAt 8 z1 A (fun r4 A3 => kd r4 = 7 ∧ wp_Mx_placeOf r4 (Int32.toInt64 z2) (Int32.toInt64 z3) A3 (fun r7 A6 => ((0 ≤ r7 → wp_Mx_get r4 r7 A6 (fun r10 A9 => K r10 A9)) ∧ (¬ 0 ≤ r7 → KX 4 A6)))) ↔ (kd (12 + m) = 7 ∧ wp_Mx_placeOf (12 + m) (Int32.toInt64 z2) (Int32.toInt64 z3) A (fun r7 A6 => ((0 ≤ r7 → wp_Mx_get (12 + m) r7 A6 (fun r10 A9 => K r10 A9)) ∧ (¬ 0 ≤ r7 → KX 4 A6)))) := by
      unfold wp_Ca_matrixAt
      rw [hW.2.2.1.2.1, hW.2.2.1.2.2.1, hW.2.2.1.2.2.2.1, e]
      rcases (by omega : m = 0 ∨ m = 1 ∨ m = 2) with e | e | e <;> subst e
      · exact ⟨fun q => (q.2 (by decide)).2, fun q => ⟨fun q' => absurd (show iN 0 = 0 from rfl) q', fun _ => ⟨rfl, q⟩⟩⟩
      · exact ⟨fun q => ((q.1 (by decide)).2 rfl).2, fun q => ⟨fun _ => ⟨fun q' => absurd (show iN 1 = 1 from rfl) q', fun _ => ⟨rfl, q⟩⟩, fun q' => absurd q' (by decide)⟩⟩
      · exact ⟨fun q => ((q.1 (by decide)).1 (by decide)).2, fun q => ⟨fun _ => ⟨fun _ => ⟨rfl, q⟩, fun q' => absurd q' (by decide)⟩, fun q' => absurd q' (by decide)⟩⟩
    rw [hmat]
    obtain ⟨s1, s2, s3, s4⟩ := hs m hm
    refine ⟨(kd_m4 (by omega)).1, n_placeOf (kd_m4 (by omega)).1 s1 s2 s3 s4 ?_⟩
    unfold plM
    rw [Int32.toInt_toInt64, Int32.toInt_toInt64]
    by_cases hin : 1 ≤ z2.toInt ∧ z2.toInt ≤ r m ∧ 1 ≤ z3.toInt ∧ z3.toInt ≤ c m
    · rw [if_pos hin]
      have e2 : z2 = iN (z2.toInt.toNat - 1 + 1) := Int32.toInt.inj (by rw [iN_toInt (by omega)]; omega)
      have e3 : z3 = iN (z3.toInt.toNat - 1 + 1) := Int32.toInt.inj (by rw [iN_toInt (by omega)]; omega)
      refine ⟨fun _ => n_get hm (WC_m hW hm) (by omega) (k1 m (z2.toInt.toNat - 1) (z3.toInt.toNat - 1) ⟨hm, e, e2, e3, by omega, by omega⟩), fun q => absurd ?_ q⟩
      show iN 0 ≤ iN _
      rw [iN_le (by omega) (by omega)]
      omega
    · rw [if_neg hin]
      refine ⟨fun q => absurd q (by decide), fun _ => k4 m hm e ?_⟩
      rintro ⟨i, j, -, -, e2, e3, hi, hj⟩
      apply hin
      rw [e2, e3, iN_toInt (by omega), iN_toInt (by omega)]
      omega
theorem m_element {z1 z2 z3 : Int32} {r c : Nat → Nat} {K : UInt64 → Mem → Prop} (hW : MW A) (hs : ∀ m, m < 3 → gI A 269 m = iN (r m) ∧ gI A 270 m = iN (c m) ∧ r m ≤ 6 ∧ c m ≤ 6) (k1 : ∀ m i j, elI z1 z2 z3 r c m i j → K (gD A 266 (m * 36 + (i * 6 + j))) (sI A 250 0 0)) (k0 : (z1 < 0 ∨ ¬ z1 ≤ 2) → K FP.dconst0 (sI A 250 0 1)) (k4 : ∀ m, m < 3 → z1 = iN m → (¬ ∃ i j, elI z1 z2 z3 r c m i j) → K FP.dconst0 (sI A 250 0 2)) : wp_Mo_element 250 z1 z2 z3 A K := by
  have e38 : gR A 250 38 = 269 := hW.2 38 (by omega) (by omega)
  have e39 : gR A 250 39 = 270 := hW.2 39 (by omega) (by omega)
  have e35 : gR A 250 35 = 266 := hW.2 35 (by omega) (by omega)
  have bad : ∀ cd : Int32, cd ≠ 0 → K FP.dconst0 (sI A 250 0 cd) → wp_Mo_element_c49 K 250 z1 z2 z3 cd 250 A := fun cd hcd hk => by
    unfold wp_Mo_element_c49
    rw [gI_eq]
    exact ⟨rfl, rfl, fun _ => hk, fun q => absurd q hcd⟩
  unfold wp_Mo_element
  rcases mt_case (z := z1) with hb | ⟨m, hm, e⟩
  · refine ⟨fun q => bad 1 (by decide) (k0 (Or.inl q)), fun hn => ⟨fun q => ?_, fun q => bad 1 (by decide) (k0 (Or.inr q))⟩⟩
    rcases hb with hb | hb
    · exact absurd hb hn
    · exact absurd q hb
  · obtain ⟨n1, n2⟩ := mt_no hm e
    obtain ⟨s1, s2, s3, s4⟩ := hs m hm
    have no : ¬ (1 ≤ z2.toInt ∧ z2.toInt ≤ r m ∧ 1 ≤ z3.toInt ∧ z3.toInt ≤ c m) → K FP.dconst0 (sI A 250 0 2) := fun hin => k4 m hm e (by
      rintro ⟨i, j, -, -, e2, e3, hi, hj⟩
      apply hin
      rw [e2, e3, iN_toInt (by omega), iN_toInt (by omega)]
      omega)
    have t1 : ∀ z : Int32, (z < 1) = (z.toInt < 1) := fun z => propext Int32.lt_iff_toInt_lt
    have t2 : ∀ (z : Int32) (n : Nat), n ≤ 6 → (iN n < z) = ((n : Int) < z.toInt) := fun z n hn => by
      rw [propext Int32.lt_iff_toInt_lt, iN_toInt (by omega)]
    have t3 : ∀ (z : Int32) (n : Nat), n ≤ 6 → (z ≤ iN n) = (z.toInt ≤ (n : Int)) := fun z n hn => by
      rw [propext Int32.le_iff_toInt_le, iN_toInt (by omega)]
    refine ⟨fun q => absurd q n1, fun _ => ⟨fun _ => ?_, fun q => absurd n2 q⟩⟩
    rw [e38, e39, e, iN_cl (show m < 2147483648 by omega), s1, s2, t1, t1, t2 _ _ s3, t3 _ _ s4]
    rw [← e]
    have two := fun hin => bad 2 (by decide) (no hin)
    refine ⟨fun q => two (by omega), fun q2 => ⟨rfl, rfl, by rw [e]; exact iN_in (m := 3) hm (by omega), fun q => two (by omega), fun q2b => ⟨fun q => two (by omega), fun q3 => ⟨rfl, by rw [e]; exact iN_in (m := 3) hm (by omega), fun q3b => ?_, fun q => two (by omega)⟩⟩⟩⟩
    have e2 : z2 = iN (z2.toInt.toNat - 1 + 1) := Int32.toInt.inj (by rw [iN_toInt (by omega)]; omega)
    have e3 : z3 = iN (z3.toInt.toNat - 1 + 1) := Int32.toInt.inj (by rw [iN_toInt (by omega)]; omega)
    have kk := k1 m (z2.toInt.toNat - 1) (z3.toInt.toNat - 1) ⟨hm, e, e2, e3, by omega, by omega⟩
    have b1 : z2.toInt.toNat - 1 < 6 := by omega
    have b2 : z3.toInt.toNat - 1 < 6 := by omega
    generalize z2.toInt.toNat - 1 = i at e2 kk b1
    generalize z3.toInt.toNat - 1 = j at e3 kk b2
    unfold wp_Mo_element_c49
    rw [gI_eq, show gR (sI A 250 0 0) 250 35 = 266 from e35, e, e2, e3, iN_s1 (by omega), show (36 : Int32) = iN 36 from rfl, show (6 : Int32) = iN 6 from rfl, iN_mul, iN_mul, iN_add, iN_add, iN_s1 (by omega), iN_cl (by omega), Nat.add_sub_cancel, show m * 36 + i * 6 + (j + 1) - 1 = m * 36 + (i * 6 + j) by omega]
    exact ⟨rfl, rfl, fun q => absurd rfl q, fun _ => ⟨rfl, iN_in (m := 108) (by omega) (by omega), kk⟩⟩
theorem t_element {z1 z2 z3 : Int32} (h : Inv A) : wp_La_element z1 z2 z3 A (fun k A1 => wp_Mo_element 250 z1 z2 z3 A1 (fun b A2 => wp_Mo_thrown 250 A2 (fun t A3 => t = k ∧ (k = 0 → DDd (gD A3 29 0) b) ∧ Inv A3))) := by
  have h' := h
  obtain ⟨tl, P, sl, -, ⟨⟨w1, w2⟩, -, -, -, -, -, hm⟩⟩ := h'
  have hr : ∃ r c : Nat → Nat, ∀ m, m < 3 → gI A (12 + m) 0 = iN (r m) ∧ gI A (12 + m) 1 = iN (c m) ∧ gI A 269 m = iN (r m) ∧ gI A 270 m = iN (c m) ∧ r m ≤ 6 ∧ c m ≤ 6 ∧ ∀ i j, i < r m → j < c m → dz (gD A (16 + m) (i * 6 + j)) (gD A 266 (m * 36 + (i * 6 + j))) ∧ okd (gD A (16 + m) (i * 6 + j)) := by
    obtain ⟨r0, c0, h0⟩ := hm 0 (by omega)
    obtain ⟨r1, c1, h1⟩ := hm 1 (by omega)
    obtain ⟨r2, c2, h2⟩ := hm 2 (by omega)
    refine ⟨fun m => if m = 0 then r0 else if m = 1 then r1 else r2, fun m => if m = 0 then c0 else if m = 1 then c1 else c2, fun m hm3 => ?_⟩
    rcases (by omega : m = 0 ∨ m = 1 ∨ m = 2) with e | e | e <;> subst e
    · exact h0
    · exact h1
    · exact h2
  obtain ⟨r, c, hrc⟩ := hr
  have s1 : ∀ m, m < 3 → gI A (12 + m) 0 = iN (r m) ∧ gI A (12 + m) 1 = iN (c m) ∧ r m ≤ 6 ∧ c m ≤ 6 := fun m hm => ⟨(hrc m hm).1, (hrc m hm).2.1, (hrc m hm).2.2.2.2.1, (hrc m hm).2.2.2.2.2.1⟩
  have s2 : ∀ m, m < 3 → gI A 269 m = iN (r m) ∧ gI A 270 m = iN (c m) ∧ r m ≤ 6 ∧ c m ≤ 6 := fun m hm => ⟨(hrc m hm).2.2.1, (hrc m hm).2.2.2.1, (hrc m hm).2.2.2.2.1, (hrc m hm).2.2.2.2.2.1⟩
  have nb : ∀ {m i j : Nat}, elI z1 z2 z3 r c m i j → ¬ (z1 < 0 ∨ ¬ z1 ≤ 2) := fun he hb => by
    obtain ⟨n1, n2⟩ := mt_no he.1 he.2.1
    rcases hb with hb | hb
    · exact n1 hb
    · exact hb n2
  refine c_element w1 s1 (fun m i j he => ?_) (fun hb => Or.inl ⟨rfl, ?_⟩) (fun m hm3 e hno => Or.inr ⟨rfl, ?_⟩)
  · refine m_element (A := sD A 29 0 (gD A (16 + m) (i * 6 + j))) w2 s2 (fun m' i' j' he' => ⟨rfl, gI_eq, fun _ => DDz ?_, Inv_c (Inv_D h)⟩) (fun hb => absurd hb (nb he)) (fun m' hm' e' hno => ?_)
    · have s := s1 m he.1
      have s' := s1 m' he'.1
      have em : m' = m := by
        have := he'.2.1.symm.trans he.2.1
        rw [iN_eq (by have := he'.1; omega) (by have := he.1; omega)] at this
        exact this
      subst em
      have hi := he.2.2.2.2.1
      have hj := he.2.2.2.2.2
      have hi' := he'.2.2.2.2.1
      have hj' := he'.2.2.2.2.2
      have ei : i' = i := by
        have := he'.2.2.1.symm.trans he.2.2.1
        rw [iN_eq (by omega) (by omega)] at this
        omega
      have ej : j' = j := by
        have := he'.2.2.2.1.symm.trans he.2.2.2.1
        rw [iN_eq (by omega) (by omega)] at this
        omega
      subst ei
      subst ej
      show dz (gD (sD A 29 0 (gD A (16 + m') (i' * 6 + j'))) 29 0) (gD (sD A 29 0 (gD A (16 + m') (i' * 6 + j'))) 266 (m' * 36 + (i' * 6 + j'))) ∧ okd (gD (sD A 29 0 (gD A (16 + m') (i' * 6 + j'))) 29 0)
      rw [gD_eq, gD_ne (Or.inl (by omega))]
      exact (hrc m' he.1).2.2.2.2.2.2 i' j' hi hj
    · have em : m' = m := by
        have := e'.symm.trans he.2.1
        rw [iN_eq (by omega) (by have := he.1; omega)] at this
        exact this
      subst em
      exact absurd ⟨i, j, he⟩ hno
  · exact m_element w2 s2 (fun m i j he => absurd hb (nb he)) (fun _ => ⟨rfl, gI_eq, fun q => absurd q (by decide), Inv_c h⟩) (fun m hm3 e _ => by
      obtain ⟨n1, n2⟩ := mt_no hm3 e
      rcases hb with hb | hb
      · exact absurd hb n1
      · exact absurd n2 hb)
  · exact m_element w2 s2 (fun m' i j he => by
      have em : m' = m := by
        have := he.2.1.symm.trans e
        rw [iN_eq (by have := he.1; omega) (by omega)] at this
        exact this
      subst em
      exact absurd ⟨i, j, he⟩ hno) (fun hb => by
      obtain ⟨n1, n2⟩ := mt_no hm3 e
      rcases hb with hb | hb
      · exact absurd hb n1
      · exact absurd n2 hb) (fun m' _ _ _ => ⟨rfl, gI_eq, fun q => absurd q (by decide), Inv_c h⟩)
end IN3
