/-! the class's parser: numbers and expressions -/
section VPn
variable {A0 : Mem} {T : Nat → Int32} {n L sl p op : Nat} {s : Nat → Int32} {q : Nat → Nat} {ops : List (Int32 × Int32)} {nu en : List Int32} {A : Mem}
theorem isD_lt (h : isD (chr T n p) = true) : p < n := by
  unfold chr at h
  split at h
  · assumption
  · exact absurd h (by decide)
theorem isM_lt (h : isM (chr T n p) = true) : p < n := by
  unfold chr at h
  split at h
  · assumption
  · exact absurd h (by decide)
theorem isV_lt (h : isV (chr T n p) = true) : p < n := by
  unfold chr at h
  split at h
  · assumption
  · exact absurd h (by decide)
theorem isF_lt (h : isF (chr T n p) = true) : p < n := by
  unfold chr at h
  split at h
  · assumption
  · exact absurd h (by decide)
theorem VP_len (h : VP A0 T n L sl p op s q ops nu en A) : ops.length + sl ≤ p := h.2.2.2.2.1.2.1
theorem VP_n (h : VP A0 T n L sl p op s q ops nu en A) : n ≤ 60 ∧ p ≤ n ∧ op ≤ 6 := ⟨h.2.1.1, h.2.1.2.1, h.2.1.2.2.2.2.2.2⟩
theorem VP_3 (h : VP A0 T n L sl p op s q ops nu en A) : gI A 3 1 = iN p ∧ gI A 3 3 = iN n ∧ gI A 3 4 = iN op ∧ gR A 3 0 = L ∧ kd L = 3 := ⟨h.2.1.2.2.2.1, h.2.1.2.2.2.2.1, h.2.1.2.2.2.2.2.1, h.1.2.2.2.1, kdL h.1.2.1 h.1.2.2.1⟩
/-- one place on, with the value set -/
theorem VP_nv {v w : Int32} (h : VP A0 T n L sl p op s q ops nu en A) (hp : p < n) : VP A0 T n L (sl + 1) (p + 1) op s q ops nu en (sI (sI A 3 5 v) 3 1 (gI (sI A 3 5 v) 3 1 + 1)) ∧ gI (sI (sI A 3 5 v) 3 1 w) 3 5 = v := by
  have h2 := VP_len h
  refine ⟨?_, ?_⟩
  · rw [gI_ne (by omega), (VP_3 h).1, iN_1]
    exact VP_p (VP_v h) (by omega) (by omega)
  · rw [gI_ne (by omega), gI_eq]
/-- one place on -/
theorem VP_on (h : VP A0 T n L sl p op s q ops nu en A) (hp : p < n) : VP A0 T n L (sl + 1) (p + 1) op s q ops nu en (sI A 3 1 (gI A 3 1 + 1)) := by
  have h2 := VP_len h
  rw [(VP_3 h).1, iN_1]
  exact VP_p h (by omega) (by omega)
theorem i32_nle (a b : Int32) : (¬ a ≤ b) = (b < a) := by
  rw [Int32.lt_iff_toInt_lt, Int32.le_iff_toInt_le]
  exact propext (by omega)
theorem ln_step {k m : Nat} {v : Int32} {K : Bool → Mem → Prop} (hk : k < 3) (hv : VP A0 T n L sl p op s q ops nu en A) (hval : gI A 3 5 = v) (h0 : isD (chr T n p) = false → (0 < v → K true A) ∧ (¬ 0 < v → K false A)) (h1 : isD (chr T n p) = true → ∀ A', VP A0 T n L sl (p + 1) op s q ops nu en A' → gI A' 3 5 = v * 10 + chr T n p - 48 → wp_Pa_lineNumber_c7 K m 3 (iN (k + 1)) A') : wp_Pa_lineNumber_c7 K (m + 1) 3 (iN k) A := by
  unfold wp_Pa_lineNumber_c7
  refine ⟨fun h => ?_, fun _ => ⟨rfl, x_next hv (x_isDigit ⟨fun hd => ?_, fun hd => x_next hv ⟨fun _ A10 hA => ?_, fun h => ?_⟩⟩)⟩⟩
  · rw [show (3 : Int32) = iN 3 from rfl, iN_lt (by omega) (by omega)] at h
    omega
  · rw [hval]
    exact ⟨fun h => (h0 hd).2 (by rw [← i32_nle]; exact fun h2 => h2 h), fun h => (h0 hd).1 (by rw [← i32_nle]; exact h)⟩
  · subst hA
    have h2 := VP_nv (v := (gI A 3 5 * 10 + chr T n p) - 48) (w := gI (sI A 3 5 ((gI A 3 5 * 10 + chr T n p) - 48)) 3 1 + 1) hv (isD_lt hd)
    rw [iN_1]
    exact h1 hd _ (VP_sl h2.1 (by omega)) (h2.2.trans (by rw [hval]))
  · rw [show (3 : Int32) = iN 3 from rfl, iN_eq (by omega) (by omega)] at h
    omega
theorem ln_3 {m : Nat} {v : Int32} {K : Bool → Mem → Prop} (hv : VP A0 T n L sl p op s q ops nu en A) (hval : gI A 3 5 = v) (hv0 : 0 ≤ v) (hv1 : v ≤ 99) (h0 : isD (chr T n p) = false → (0 < v → K true A) ∧ (¬ 0 < v → K false A)) (h1 : isD (chr T n p) = true → (v * 10 + chr T n p - 48 = 0 → K false A) ∧ (¬ v * 10 + chr T n p - 48 = 0 → 0 < v * 10 + chr T n p - 48 → ∀ A', VP A0 T n L sl (p + 1) op s q ops nu en A' → gI A' 3 5 = v * 10 + chr T n p - 48 → K true A')) (hpos : isD (chr T n p) = true → ¬ v * 10 + chr T n p - 48 = 0 → 0 < v * 10 + chr T n p - 48) : wp_Pa_lineNumber_c7 K (m + 2) 3 (iN 3) A := by
  unfold wp_Pa_lineNumber_c7
  refine ⟨fun h => ?_, fun _ => ⟨rfl, x_next hv (x_isDigit ⟨fun hd => ?_, fun hd => x_next hv ⟨fun h => absurd rfl h, fun _ => ⟨fun hz A10 hA => ?_, fun hz => ?_⟩⟩⟩)⟩⟩
  · rw [show (3 : Int32) = iN 3 from rfl, iN_lt (by omega) (by omega)] at h
    omega
  · rw [hval]
    exact ⟨fun h => (h0 hd).2 (by rw [← i32_nle]; exact fun h2 => h2 h), fun h => (h0 hd).1 (by rw [← i32_nle]; exact h)⟩
  · subst hA
    have h2 := VP_nv (v := (gI A 3 5 * 10 + chr T n p) - 48) (w := gI (sI A 3 5 ((gI A 3 5 * 10 + chr T n p) - 48)) 3 1 + 1) hv (isD_lt hd)
    rw [hval] at hz h2 ⊢
    unfold wp_Pa_lineNumber_c7
    have hp := hpos hd hz
    refine ⟨fun _ => ⟨rfl, fun h => ?_, fun _ => (h1 hd).2 hz hp _ (VP_sl h2.1 (by omega)) h2.2⟩, fun h => absurd (show (3 : Int32) < iN 3 + 1 by decide) h⟩
    rw [h2.2] at h
    rw [← i32_nle] at hp
    exact absurd h hp
  · rw [hval] at hz
    exact (h1 hd).1 hz
theorem dig_iN {c : Int32} (h : isD c = true) : ∃ d : Nat, d < 10 ∧ c = iN (d + 48) := by
  unfold isD at h
  simp only [Bool.and_eq_true, decide_eq_true_eq] at h
  have h0 : (0 : Int32) ≤ c := Int32.le_trans (by decide) h.1
  have e := iN_of h0
  rw [e, show (48 : Int32) = iN 48 from rfl, show (57 : Int32) = iN 57 from rfl, iN_le (by omega) (Int32.toNatClampNeg_lt c), iN_le (Int32.toNatClampNeg_lt c) (by omega)] at h
  exact ⟨c.toNatClampNeg - 48, by omega, by rw [show c.toNatClampNeg - 48 + 48 = c.toNatClampNeg by omega]; exact e⟩
theorem dig_step {a d : Nat} : iN a * 10 + iN (d + 48) - 48 = iN (a * 10 + d) := by
  rw [show (10 : Int32) = iN 10 from rfl, show (48 : Int32) = iN 48 from rfl, iN_mul, iN_add, iN_sub (by omega)]
  congr 1
theorem x_lineNumber {K : Bool → Mem → Prop} (hv : VP A0 T n L sl p op s q ops nu en A) (k : OKP (pLN T n p) (fun p' v => ∀ A', VP A0 T n L sl p' op s q ops nu en A' → gI A' 3 5 = v → K true A') (fun q' => ∀ A', VF A0 L q' A' → K false A')) : wp_Pa_lineNumber 3 A K := by
  refine ⟨rfl, 4, ?_⟩
  unfold pLN at k
  refine ln_step (k := 1) (by omega) (VP_v hv) gI_eq (fun h0 => ?_) (fun h1 A1 hv1 e1 => ?_)
  · rw [if_pos h0] at k
    exact ⟨fun h => absurd h (by decide), fun _ => k _ (VP_F (VP_v hv))⟩
  · rw [if_neg (by rw [h1]; decide)] at k
    obtain ⟨d1, hd1, ec1⟩ := dig_iN h1
    have q1 : (0 : Int32) * 10 + chr T n p - 48 = chr T n p - 48 := by rw [show (0 : Int32) * 10 = 0 from rfl, Int32.zero_add]
    have r1 : chr T n p - 48 = iN d1 := by rw [← q1, ec1]; exact (dig_step (a := 0)).trans (by congr 1; omega)
    rw [q1] at e1
    refine ln_step (k := 2) (by omega) hv1 e1 (fun h0 => ?_) (fun h2 A2 hv2 e2 => ?_)
    · rw [if_pos h0] at k
      split at k
      · exact ⟨fun _ => k _ hv1 e1, fun h => absurd ‹_› h⟩
      · exact ⟨fun h => absurd h ‹_›, fun _ => k _ (VP_F hv1)⟩
    · rw [if_neg (by rw [h2]; decide)] at k
      obtain ⟨d2, hd2, ec2⟩ := dig_iN h2
      have r2 : (chr T n p - 48) * 10 + chr T n (p + 1) - 48 = iN (d1 * 10 + d2) := by rw [r1, ec2]; exact dig_step
      refine ln_3 (m := 0) hv2 e2 ?_ ?_ (fun h0 => ?_) (fun h3 => ⟨fun hz => ?_, fun hz hp A3 hv3 e3 => ?_⟩) (fun h3 hz => ?_)
      · rw [r2, show (0 : Int32) = iN 0 from rfl, iN_le (by omega) (by omega)]; omega
      · rw [r2, show (99 : Int32) = iN 99 from rfl, iN_le (by omega) (by omega)]; omega
      · rw [if_pos h0] at k
        split at k
        · exact ⟨fun _ => k _ hv2 e2, fun h => absurd ‹_› h⟩
        · exact ⟨fun h => absurd h ‹_›, fun _ => k _ (VP_F hv2)⟩
      · rw [if_neg (by rw [h3]; decide), if_pos hz] at k
        exact k _ (VP_F hv2)
      · rw [if_neg (by rw [h3]; decide), if_neg hz] at k
        exact k _ hv3 e3
      · obtain ⟨d3, hd3, ec3⟩ := dig_iN h3
        rw [ec3, r2, dig_step] at hz ⊢
        rw [show (0 : Int32) = iN 0 from rfl, iN_eq (by omega) (by omega)] at hz
        rw [show (0 : Int32) = iN 0 from rfl, iN_lt (by omega) (by omega)]
        omega
theorem pDg_nd {k p c : Nat} {v : Int32} (h : isD (chr T n p) = false) : pDg T n k p v c = (p, v, c) := by
  cases k with
  | zero => rfl
  | succ k => unfold pDg; rw [h]; rfl
theorem num_19 {K : Bool → Mem → Prop} : ∀ (k m p i c : Nat) (v : Int32) (A : Mem), i + k = 6 → k ≤ m → VP A0 T n L sl p op s q ops nu en A → gI A 3 5 = v → (∀ A', VP A0 T n L sl (pDg T n k p v c).1 op s q ops nu en A' → gI A' 3 5 = (pDg T n k p v c).2.1 → wp_Pa_numeral_c70 K 3 A') → wp_Pa_numeral_c19 K (m + 1) 3 (iN i) A := by
  intro k
  induction k with
  | zero =>
    intro m p i c v A hi hm hv e k
    unfold wp_Pa_numeral_c19
    refine ⟨fun _ => k A hv e, fun h => ?_⟩
    rw [show (6 : Int32) = iN 6 from rfl, iN_le (by omega) (by omega)] at h
    omega
  | succ k ih =>
    intro m p i c v A hi hm hv e kk
    obtain ⟨m, rfl⟩ : ∃ m', m = m' + 1 := ⟨m - 1, by omega⟩
    unfold wp_Pa_numeral_c19
    refine ⟨fun h => ?_, fun _ => ⟨rfl, x_next hv (x_isDigit ⟨fun hd => ?_, fun hd => x_next hv (fun A13 hA => ?_)⟩)⟩⟩
    · rw [show (6 : Int32) = iN 6 from rfl, iN_le (by omega) (by omega)] at h
      omega
    · rw [pDg_nd hd] at kk
      exact kk A hv e
    · subst hA
      have h2 := VP_nv (v := (gI A 3 5 * 10 + chr T n p) - 48) (w := gI (sI A 3 5 ((gI A 3 5 * 10 + chr T n p) - 48)) 3 1 + 1) hv (isD_lt hd)
      unfold pDg at kk
      rw [hd, if_pos rfl] at kk
      rw [iN_1]
      refine ih m (p + 1) (i + 1) (c + 1) (v * 10 + chr T n p - 48) _ (by omega) (by omega) (VP_sl h2.1 (by omega)) (h2.2.trans (by rw [e])) kk
theorem num_0 {K : Bool → Mem → Prop} {b : Int32} (hp : p ≤ n) (hb : ¬ b = 0 → isD (chr T n p) = false) : ∀ (k m i : Nat) (v : Int32) (A : Mem), i + k = 3 → k ≤ m → VP A0 T n L sl p op s q ops nu en A → gI A 3 5 = v → (∀ A', VP A0 T n L sl p op s q ops nu en A' → gI A' 3 5 = tn k v → K true A') → wp_Pa_numeral_c95 K (m + 1) 3 b (iN i) A := by
  intro k
  induction k with
  | zero =>
    intro m i v A hi hm hv e k
    unfold wp_Pa_numeral_c95
    refine ⟨fun _ => k A hv e, fun h => ?_⟩
    rw [show (3 : Int32) = iN 3 from rfl, iN_le (by omega) (by omega)] at h
    omega
  | succ k ih =>
    intro m i v A hi hm hv e kk
    obtain ⟨m, rfl⟩ : ∃ m', m = m' + 1 := ⟨m - 1, by omega⟩
    have st : wp_Pa_numeral_c119 (wp_Pa_numeral_c95 K (m + 1)) K 3 b (iN i) 0 A := by
      refine ⟨rfl, fun _ => ⟨rfl, rfl, fun _ => ?_, fun h => absurd rfl h⟩, fun h => absurd rfl h⟩
      rw [gI_ne (by omega), (VP_3 hv).1, Int32.add_zero, Int32.add_zero, e, iN_1]
      exact ih m (i + 1) (v * 10) _ (by omega) (by omega) (VP_p (VP_v hv) hp (VP_len hv)) (by rw [gI_ne (by omega), gI_eq]) kk
    unfold wp_Pa_numeral_c95
    refine ⟨fun h => ?_, fun _ => ⟨fun _ => st, fun hb1 => ⟨rfl, x_next hv (x_isDigit ⟨fun hd => st, fun hd => ?_⟩)⟩⟩⟩
    · rw [show (3 : Int32) = iN 3 from rfl, iN_le (by omega) (by omega)] at h
      omega
    · rw [hb hb1] at hd
      cases hd
theorem pDg_ge : ∀ (k p c : Nat) (v : Int32), c ≤ (pDg T n k p v c).2.2 ∧ (pDg T n k p v c).2.2 ≤ c + k ∧ p ≤ (pDg T n k p v c).1 ∧ (p ≤ n → (pDg T n k p v c).1 ≤ n) ∧ (pDg T n k p v c).1 - p = (pDg T n k p v c).2.2 - c := by
  intro k
  induction k with
  | zero => intro p c v; exact ⟨Nat.le_refl _, Nat.le_refl _, Nat.le_refl _, id, by simp [pDg]⟩
  | succ k ih =>
    intro p c v
    unfold pDg
    split
    · have h := ih (p + 1) (c + 1) (v * 10 + chr T n p - 48)
      have hp := isD_lt ‹_›
      refine ⟨by omega, by omega, by omega, fun _ => h.2.2.2.1 hp, by omega⟩
    · exact ⟨Nat.le_refl _, by simp, Nat.le_refl _, id, by simp⟩
theorem num_95 {K : Bool → Mem → Prop} : ∀ (k m p i c : Nat) (v : Int32) (A : Mem), i + k = 3 → k ≤ m → VP A0 T n L sl p op s q ops nu en A → gI A 3 5 = v → (∀ A', VP A0 T n L sl (pDg T n k p v c).1 op s q ops nu en A' → gI A' 3 5 = tn (k - ((pDg T n k p v c).2.2 - c)) (pDg T n k p v c).2.1 → K true A') → wp_Pa_numeral_c95 K (m + 1) 3 1 (iN i) A := by
  intro k
  induction k with
  | zero =>
    intro m p i c v A hi hm hv e kk
    unfold wp_Pa_numeral_c95
    refine ⟨fun _ => kk A hv (by simpa [pDg, tn] using e), fun h => ?_⟩
    rw [show (3 : Int32) = iN 3 from rfl, iN_le (by omega) (by omega)] at h
    omega
  | succ k ih =>
    intro m p i c v A hi hm hv e kk
    by_cases hd : isD (chr T n p) = true
    · obtain ⟨m, rfl⟩ : ∃ m', m = m' + 1 := ⟨m - 1, by omega⟩
      unfold wp_Pa_numeral_c95
      refine ⟨fun h => ?_, fun _ => ⟨fun h => absurd h (by decide), fun _ => ⟨rfl, x_next hv (x_isDigit ⟨fun h => ?_, fun _ => ⟨rfl, fun h => absurd h (by decide), fun _ => x_next hv ⟨rfl, rfl, fun h => absurd h (by decide), fun _ => ?_⟩⟩⟩)⟩⟩⟩
      · rw [show (3 : Int32) = iN 3 from rfl, iN_le (by omega) (by omega)] at h
        omega
      · rw [hd] at h
        cases h
      · have hg := pDg_ge (T := T) (n := n) k (p + 1) (c + 1) (v * 10 + chr T n p - 48)
        unfold pDg at kk
        rw [hd, if_pos rfl] at kk
        have ev : gI A 3 5 * 10 + (chr T n p - 48) = v * 10 + chr T n p - 48 := by rw [e, Int32.sub_eq_add_neg, Int32.sub_eq_add_neg, Int32.add_assoc]
        rw [ev]
        have h2 := VP_nv (v := v * 10 + chr T n p - 48) (w := gI (sI A 3 5 (v * 10 + chr T n p - 48)) 3 1 + 1) hv (isD_lt hd)
        rw [iN_1]
        refine ih m (p + 1) (i + 1) (c + 1) (v * 10 + chr T n p - 48) _ (by omega) (by omega) (VP_sl h2.1 (by omega)) h2.2 (fun A' h3 h4 => kk A' h3 ?_)
        rw [h4]
        congr 1
        omega
    · have hd' : isD (chr T n p) = false := by simpa using hd
      rw [pDg_nd hd'] at kk
      exact num_0 (b := 1) (p := p) (VP_n hv).2.1 (fun _ => hd') (k + 1) m i v A hi hm hv e (fun A' h1 h2 => kk A' h1 (by simpa using h2))
theorem x_skip0 {c : Int32} {K : Bool → Mem → Prop} (h : VP A0 T n L sl p op s q ops nu en A) (h0 : c ≠ -1) (k : OKP (pCh T n c p) (fun p' _ => ∀ A', VP A0 T n L (sl + 1) p' op s q ops nu en A' → gI A' 3 5 = gI A 3 5 → K true A') (fun _ => K false A)) : wp_Pa_skip 3 c A K := by
  have h' := h
  obtain ⟨⟨hF, hW⟩, ⟨hn, hp, hT, h31, h33, h34, hop⟩, hs, hN, hO, hE⟩ := h
  unfold wp_Pa_skip
  unfold pCh chr at k
  rw [h31, h33, iN_le (by omega) (by omega), hW.2.2.2.1]
  refine ⟨rfl, fun h1 => ?_, fun h1 => ⟨rfl, iN_in (m := 60) (by omega) (by omega), ?_⟩⟩
  · rw [if_neg (show ¬ p < n by omega), if_neg (Ne.symm h0)] at k; exact k
  · rw [if_pos (show p < n by omega)] at k
    rw [iN_cl (by omega), hT p (by omega), iN_1]
    refine ⟨fun h2 => ?_, fun h2 => ?_⟩
    · rw [if_pos h2] at k
      have h9 : ops.length + sl ≤ p := hO.2.1
      exact k _ (VP_p h' (by omega) (by omega)) (gI_ne (by omega))
    · rw [if_neg h2] at k; exact k
theorem x_numeral {K : Bool → Mem → Prop} (hv : VP A0 T n L sl p op s q ops nu en A) (k : OKP (pNum T n p) (fun p' v => ∀ A', VP A0 T n L sl p' op s q ops nu en A' → gI A' 3 5 = th v.1 v.2 → K true A') (fun q' => ∀ A', VF A0 L q' A' → K false A')) : wp_Pa_numeral 3 A K := by
  unfold pNum at k
  refine ⟨rfl, x_next hv (x_isDigit ⟨fun hd => ⟨7, ?_⟩, fun hd => ?_⟩)⟩
  · rw [if_neg (by rw [hd]; decide)] at k
    refine num_19 6 6 p 0 0 0 _ rfl (by omega) (VP_v hv) gI_eq (fun A1 hv1 e1 => ?_)
    generalize (pDg T n 6 p 0 0).1 = p1 at *
    generalize (pDg T n 6 p 0 0).2.1 = v1 at *
    refine ⟨rfl, x_skip0 hv1 (by decide) ?_⟩
    by_cases hc : chr T n p1 = 46
    · rw [if_pos hc] at k
      rw [pCh_ok hc]
      intro A2 hv2 e35
      refine ⟨fun h => absurd h (by decide), fun _ => x_next hv2 (x_isDigit ⟨fun hd2 => ⟨4, ?_⟩, fun hd2 => ?_⟩)⟩
      · rw [if_neg (by rw [hd2]; decide)] at k
        have e2 : gI A2 3 5 = v1 := e35.trans e1
        refine num_95 3 3 (p1 + 1) 0 0 v1 A2 rfl (by omega) (VP_sl hv2 (by omega)) e2 (fun A3 hv3 e3 => k A3 hv3 ?_)
        rw [e3]
        unfold th
        congr 1
      · rw [if_pos hd2] at k
        exact k A2 (VP_F hv2)
    · rw [if_neg hc] at k
      rw [pCh_no hc]
      refine ⟨fun _ => ⟨4, ?_⟩, fun h => absurd h (by decide)⟩
      exact num_0 (b := 0) (p := p1) (VP_n hv1).2.1 (fun h => absurd rfl h) 3 3 0 v1 A1 rfl (by omega) hv1 e1 k
  · rw [if_pos hd] at k
    exact k A (VP_F hv)
end VPn
