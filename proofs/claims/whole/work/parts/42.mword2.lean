/-! the reference's parser: words as the mathematical parser has them; line numbers; codes; numerals -/
section YX
variable {A0 : Mem} {T : Nat → Int32} {wt : Nat → Int32} {n lo w p e : Nat} {x : MT} {A : Mem}
theorem kw_cases : ∀ (R : List (List Int32)) (k m : Nat), (∃ idx, ∃ h : idx < R.length, pSh T n R[idx] p = (R[idx]).length ∧ pKwL T n p R k m = .ok (p + (R[idx]).length, k + idx)) ∨ ((∀ w ∈ R, pSh T n w p ≠ w.length) ∧ ∃ M, pKwL T n p R k m = .error (p + M) ∧ m ≤ M ∧ (∀ w ∈ R, pSh T n w p ≤ M) ∧ (M = m ∨ ∃ w ∈ R, pSh T n w p = M)) := by
  intro R
  induction R with
  | nil => intro k m; exact Or.inr ⟨fun w h => by simp at h, m, rfl, Nat.le_refl _, fun w h => by simp at h, Or.inl rfl⟩
  | cons w r ih =>
    intro k m
    unfold pKwL
    by_cases hw : pSh T n w p = w.length
    · rw [if_pos hw]
      exact Or.inl ⟨0, by simp, hw, rfl⟩
    · rw [if_neg hw]
      rcases ih (k + 1) (max m (pSh T n w p)) with ⟨idx, hi, h1, h2⟩ | ⟨h1, M, h2, h3, h4, h5⟩
      · exact Or.inl ⟨idx + 1, by simpa using hi, by simpa using h1, by rw [h2]; simp; omega⟩
      · refine Or.inr ⟨fun v hv => ?_, M, h2, by omega, fun v hv => ?_, ?_⟩
        · rcases List.mem_cons.mp hv with rfl | hv
          · exact hw
          · exact h1 v hv
        · rcases List.mem_cons.mp hv with rfl | hv
          · omega
          · exact h4 v hv
        · rcases h5 with h5 | ⟨v, hv, h5⟩
          · by_cases hm : m ≤ pSh T n w p
            · exact Or.inr ⟨w, List.mem_cons_self, by omega⟩
            · exact Or.inl (by omega)
          · exact Or.inr ⟨v, List.mem_cons_of_mem _ hv, h5⟩
theorem pSh_pre : ∀ (w v : List Int32) (p : Nat), pSh T n w p = w.length → pSh T n v p = v.length → w.length ≤ v.length → w.isPrefixOf v = true := by
  intro w
  induction w with
  | nil => intro v p _ _ _; rfl
  | cons c r ih =>
    intro v p h1 h2 h3
    cases v with
    | nil => simp at h3
    | cons d s =>
      unfold pSh at h1 h2
      split at h1
      · rename_i hc
        split at h2
        · rename_i hd
          have e : c = d := hc.symm.trans hd
          simp only [List.isPrefixOf, Bool.and_eq_true]
          refine ⟨by simp [e], ih s (p + 1) ?_ ?_ (by simpa using h3)⟩
          · simpa using h1
          · simpa using h2
        · simp at h2
      · simp at h1
theorem pWd_sh : ∀ (w : List Int32) (p : Nat), pWd T n w p = if pSh T n w p = w.length then .ok (p + w.length, ()) else .error (p + pSh T n w p) := by
  intro w
  induction w with
  | nil => intro p; rfl
  | cons c r ih =>
    intro p
    unfold pWd pSh
    by_cases hc : chr T n p = c
    · rw [if_pos hc, if_pos hc, ih]
      by_cases h : pSh T n r (p + 1) = r.length
      · rw [if_pos h, if_pos (by simp [h])]
        simp [Nat.add_comm, Nat.add_left_comm]
      · rw [if_neg h, if_neg (by simpa using h)]
        congr 1
        omega
    · rw [if_neg hc, if_neg hc, if_neg (by simp)]
      rfl
def mwR (a b : Nat) : List (List Int32) := (mwL.drop a).take (b + 1 - a)
theorem mwR_get {a b i : Nat} (hb : b < 28) (h : i < (mwR a b).length) : (mwR a b)[i] = mwL.getD (a + i) [] ∧ a + i ≤ b := by
  have hl : mwL.length = 28 := rfl
  have h2 : i < b + 1 - a := by simp [mwR] at h; omega
  refine ⟨?_, by omega⟩
  simp only [mwR, List.getElem_take, List.getElem_drop]
  simp [List.getD, show a + i < mwL.length by omega]
theorem mwR_mem {a b i : Nat} (hb : b < 28) (h1 : a ≤ i) (h2 : i ≤ b) : mwL.getD i [] ∈ mwR a b := by
  have hl : mwL.length = 28 := rfl
  have h : i - a < (mwR a b).length := by simp [mwR]; omega
  have := (mwR_get hb h).1
  rw [show a + (i - a) = i by omega] at this
  rw [← this]
  exact List.getElem_mem h
theorem pSh_bd (hB : MB0 A0 T n) (w : List Int32) (hw : ∀ c ∈ w, 0 ≤ c) (hp : p ≤ n) : p + pSh T n w p ≤ n := (pSh_le w p hw).2 hp
theorem mw_nn : ∀ i, i < 28 → ∀ c ∈ mwL.getD i [], 0 ≤ c := by decide +kernel
theorem y_takeWord {st : PR MT} {a b : Nat} {K : Int32 → Mem → Prop} (hB : MB0 A0 T n) (h : MS A0 n lo wt w e st A) (hb : b < 28) (hab : a ≤ b) (hpf : ∀ i, a ≤ i → i ≤ b → ∀ j, a ≤ j → j ≤ b → i ≠ j → (mwL.getD i []).isPrefixOf (mwL.getD j []) = false) (k : ∀ r A', MSV A0 n lo wt 0 e (bnd st fun p x => bnd (pKwL T n p (mwR a b) a 0) fun p1 k => .ok (p1, (iN k, x))) r A' → K r A') : wp_Mo_takeWord 250 (iN a) (iN b) A K := by
  cases st with
  | error q => exact ⟨1, rfl, fun _ => k _ _ h, fun h7 => absurd h7 (MBd_ne h)⟩
  | ok y =>
    obtain ⟨p, x⟩ := y
    have hn := hB.2.1
    have hp := h.1.2.1
    have hlo := h.1.2.2.1
    rcases kw_cases (T := T) (n := n) (p := p) (mwR a b) a 0 with ⟨idx, hi, h1, h2⟩ | ⟨h1, M, h2, h3, h4, h5⟩
    · obtain ⟨e1, e2⟩ := mwR_get hb hi
      rw [e1] at h1 h2
      have hbd := pSh_bd hB (mwL.getD (a + idx) []) (mw_nn _ (by omega)) hp
      have hl0 := (mw_len (a + idx) (by omega)).2
      refine y_tw_hit hB h.1 hb (i0 := a + idx) ⟨by omega, e2, h1⟩ (fun i ⟨g1, g2, g3⟩ => ?_) (k _ _ ?_)
      · by_cases hne : i = a + idx
        · exact hne
        · rcases Nat.le_total (mwL.getD i []).length (mwL.getD (a + idx) []).length with hle | hle
          · have := pSh_pre _ _ _ g3 h1 hle
            rw [hpf i g1 g2 (a + idx) (by omega) e2 hne] at this
            cases this
          · have := pSh_pre _ _ _ h1 g3 hle
            rw [hpf (a + idx) (by omega) e2 i g1 g2 (Ne.symm hne)] at this
            cases this
      · simp only [bnd, h2]
        exact ⟨⟨MG_4 h.1 (by omega) (by omega), by have h9 : x.2.1.length ≤ 2 * p + min w 2 := h.2; show x.2.1.length ≤ 2 * _ + min 0 2; omega⟩, rfl⟩
    · have hMn : p + M ≤ n := by
        rcases h5 with h5 | ⟨w, hw, h5⟩
        · omega
        · obtain ⟨i, hi, rfl⟩ := List.mem_iff_getElem.mp hw
          obtain ⟨e1, e2⟩ := mwR_get hb hi
          rw [e1] at h5
          have hbd := pSh_bd hB (mwL.getD (a + i) []) (mw_nn _ (by omega)) hp
          omega
      refine y_tw_none hB h.1 hb hab (M := M) (fun i ⟨g1, g2, g3⟩ => h1 _ (mwR_mem hb g1 g2) g3) ?_ (fun i g1 g2 => h4 _ (mwR_mem hb g1 g2)) ?_ (k _ _ ?_)
      · rcases h5 with h5 | ⟨w, hw, h5⟩
        · omega
        · obtain ⟨i, hi, rfl⟩ := List.mem_iff_getElem.mp hw
          obtain ⟨e1, e2⟩ := mwR_get hb hi
          have hl := mw_len (a + i) (by omega)
          have := pSh_len (T := T) (n := n) (mwL.getD (a + i) []) p
          rw [e1] at h5
          omega
      · rcases h5 with h5 | ⟨w, hw, h5⟩
        · exact Or.inl h5
        · obtain ⟨i, hi, rfl⟩ := List.mem_iff_getElem.mp hw
          obtain ⟨e1, e2⟩ := mwR_get hb hi
          rw [e1] at h5
          exact Or.inr ⟨a + i, by omega, e2, h5⟩
      · simp only [bnd, h2]
        exact MG_bad (MG_4 (lo' := lo) h.1 hMn (by omega)) (MS_len hB h.1 h.2)
/-- one word -/
theorem y_tw1 {st : PR MT} {i w' : Nat} {w : List Int32} {K : Int32 → Mem → Prop} (hB : MB0 A0 T n) (h : MS A0 n lo wt w' e st A) (hi : i < 28) (hw : mwL.getD i [] = w) (k : ∀ r A', MS A0 n lo wt 0 e (bnd st fun p x => bnd (pWd T n w p) fun p1 _ => .ok (p1, x)) A' → K r A') : wp_Mo_takeWord 250 (iN i) (iN i) A K := by
  refine y_takeWord hB h hi (Nat.le_refl _) (fun a h1 h2 b h3 h4 h5 => by omega) (fun r A' h1 => k r A' ?_)
  have e1 : mwR i i = [w] := by
    have hl : mwL.length = 28 := rfl
    unfold mwR
    rw [List.drop_eq_getElem_cons (by omega), show i + 1 - i = 1 by omega, List.take_succ_cons, List.take_zero, ← hw]
    simp [List.getD, show i < mwL.length by omega]
  rw [e1] at h1
  cases st with
  | error q => exact h1
  | ok y =>
    obtain ⟨p, x⟩ := y
    by_cases hh : pSh T n w p = w.length
    · simp only [bnd, pKwL, if_pos hh] at h1
      simp only [bnd, pWd_sh, if_pos hh]
      exact h1.1
    · simp only [bnd, pKwL, if_neg hh, Nat.zero_max] at h1
      simp only [bnd, pWd_sh, if_neg hh]
      exact h1
theorem isD_digit {c : Int32} (h : isD c = true) : c ≠ -1 := by rintro rfl; exact absurd h (by decide)
theorem y_ln_step {k m : Nat} {v : Int32} {K : Int32 → Mem → Prop} (hk : k < 3) (hB : MB0 A0 T n) (h : MG A0 n lo wt p x A) (hz : k = 2 → v = 0 → chr T n p ≠ 48) (h0 : isD (chr T n p) = false → (v = 0 → K v (sI A 250 7 1)) ∧ (¬ v = 0 → K v A)) (h1 : isD (chr T n p) = true → ∀ A', MG A0 n lo wt (p + 1) x A' → wp_Mo_lineNumber_c13 K m 250 (v * 10 + chr T n p - 48) (iN (k + 1)) A') : wp_Mo_lineNumber_c13 K (m + 1) 250 v (iN k) A := by
  have st : isD (chr T n p) = true → ∀ A', A' = A → wp_Mo_lineNumber_c43 (wp_Mo_lineNumber_c13 K m) K 250 v (iN k) A' := fun hd A' e => by
    subst e
    refine ⟨rfl, y_look hB h ?_⟩
    rw [lk_chr (isD_lt hd), iN_1]
    exact h1 hd _ (MG_on h (isD_lt hd))
  unfold wp_Mo_lineNumber_c13
  refine ⟨fun h3 => ?_, fun _ => ⟨rfl, y_isD hB h ⟨fun hd => ⟨fun hv => (h0 hd).2 hv, fun hv => (h0 hd).1 hv⟩, fun hd => ⟨fun _ => st hd _ rfl, fun h2 => ⟨fun _ => st hd _ rfl, fun hv => y_look hB h ?_⟩⟩⟩⟩⟩
  · rw [show (3 : Int32) = iN 3 from rfl, iN_le (by omega) (by omega)] at h3
    omega
  · rw [show (2 : Int32) = iN 2 from rfl, iN_eq (by omega) (by omega)] at h2
    rw [lk_eq hB (by decide)]
    exact ⟨fun h48 => absurd h48 (hz h2 hv), fun _ => st hd _ rfl⟩
theorem y_ln {st : PR MT} {K : Int32 → Mem → Prop} (hB : MB0 A0 T n) (h : MS A0 n lo wt w e st A) (k : ∀ r A', MSV A0 n lo wt 0 e (bnd st fun p x => bnd (pLN T n p) fun p1 a => .ok (p1, (a, x))) r A' → K r A') : wp_Mo_lineNumber 250 A K := by
  cases st with
  | error q => exact ⟨rfl, fun h7 => absurd h7 (MBd_ne h), fun _ => k _ _ h⟩
  | ok y =>
    obtain ⟨p, x⟩ := y
    have bad : ∀ q A', MG A0 n lo wt q x A' → p ≤ q → pLN T n p = .error q → ∀ r, K r (sI A' 250 7 1) := fun q A' hA hpq hl r => k _ _ (by
      simp only [bnd, hl]
      exact MG_bad hA (by have h9 : x.2.1.length ≤ 2 * p + min w 2 := h.2; have := h.1.2.1; have := hB.2.1; omega))
    have good : ∀ q v A', MG A0 n lo wt q x A' → p < q → pLN T n p = .ok (q, v) → K v A' := fun q v A' hA hpq hl => k _ _ (by
      simp only [bnd, hl]
      exact ⟨⟨hA, by have h9 : x.2.1.length ≤ 2 * p + min w 2 := h.2; show x.2.1.length ≤ 2 * _ + min 0 2; omega⟩, rfl⟩)
    refine ⟨rfl, fun _ => ⟨4, ?_⟩, fun h7 => absurd (MG_e h.1) h7⟩
    refine y_ln_step (k := 0) (by omega) hB h.1 (fun h => by omega) (fun h0 => ⟨fun _ => bad p A h.1 (Nat.le_refl _) (by unfold pLN; rw [if_pos h0]) _, fun hv => absurd rfl hv⟩) (fun h1 A1 hA1 => ?_)
    obtain ⟨d1, hd1, ec1⟩ := dig_iN h1
    have q1 : (0 : Int32) * 10 + chr T n p - 48 = chr T n p - 48 := by rw [show (0 : Int32) * 10 = 0 from rfl, Int32.zero_add]
    have r1 : chr T n p - 48 = iN d1 := by rw [← q1, ec1]; exact (dig_step (a := 0)).trans (by congr 1; omega)
    rw [q1]
    have c1 : ¬ isD (chr T n p) = false := by rw [h1]; decide
    have z1 : (0 < chr T n p - 48) = ¬ (chr T n p - 48 = 0) := by
      rw [r1, show (0 : Int32) = iN 0 from rfl, iN_lt (by omega) (by omega), iN_eq (by omega) (by omega)]
      exact propext (by omega)
    refine y_ln_step (k := 1) (by omega) hB hA1 (fun h => by omega) (fun h0 => ⟨fun hv => bad _ A1 hA1 (by omega) ?_ _, fun hv => good _ _ A1 hA1 (by omega) ?_⟩) (fun h2 A2 hA2 => ?_)
    · unfold pLN; rw [if_neg c1, if_pos h0, if_neg (by rw [z1]; simpa using hv)]
    · unfold pLN; rw [if_neg c1, if_pos h0, if_pos (by rw [z1]; exact hv)]
    obtain ⟨d2, hd2, ec2⟩ := dig_iN h2
    have r2 : (chr T n p - 48) * 10 + chr T n (p + 1) - 48 = iN (d1 * 10 + d2) := by rw [r1, ec2]; exact dig_step
    have c2 : ¬ isD (chr T n (p + 1)) = false := by rw [h2]; decide
    have z2 : (0 < (chr T n p - 48) * 10 + chr T n (p + 1) - 48) = ¬ ((chr T n p - 48) * 10 + chr T n (p + 1) - 48 = 0) := by
      rw [r2, show (0 : Int32) = iN 0 from rfl, iN_lt (by omega) (by omega), iN_eq (by omega) (by omega)]
      exact propext (by omega)
    have e2 : p + 1 + 1 = p + 2 := rfl
    by_cases hz : (chr T n p - 48) * 10 + chr T n (p + 1) - 48 = 0 ∧ chr T n (p + 2) = 48
    · rw [hz.1]
      have hd3 : isD (chr T n (p + 2)) = true := by rw [hz.2]; decide
      refine ⟨fun h => absurd h (by decide), fun _ => ⟨rfl, y_isD hB hA2 ⟨fun hd => absurd (show isD (chr T n (p + 1 + 1)) = true from hd3) (by rw [hd]; decide), fun _ => ⟨fun h => absurd rfl h, fun _ => ⟨fun h => absurd rfl h, fun _ => y_look hB hA2 ?_⟩⟩⟩⟩⟩
      rw [lk_eq hB (by decide)]
      refine ⟨fun _ => ⟨fun h => absurd rfl h, fun _ => bad _ A2 hA2 (by omega) ?_ _⟩, fun h => absurd hz.2 h⟩
      unfold pLN
      rw [if_neg c1, if_neg c2, if_neg (by rw [hd3]; decide), hz.1, hz.2, if_pos (by decide)]
    · refine y_ln_step (k := 2) (by omega) hB hA2 (fun _ hv h48 => hz ⟨hv, h48⟩) (fun h0 => ⟨fun hv => bad _ A2 hA2 (by omega) ?_ _, fun hv => good _ _ A2 hA2 (by omega) ?_⟩) (fun h3 A3 hA3 => ?_)
      · unfold pLN; rw [if_neg c1, if_neg c2, if_pos (show isD (chr T n (p + 2)) = false from h0), if_neg (by rw [z2]; simpa using hv)]
      · unfold pLN; rw [if_neg c1, if_neg c2, if_pos (show isD (chr T n (p + 2)) = false from h0), if_pos (by rw [z2]; exact hv)]
      · have h3' : isD (chr T n (p + 2)) = true := h3
        obtain ⟨d3, hd3, ec3⟩ := dig_iN h3'
        have hv3 : ¬ ((chr T n p - 48) * 10 + chr T n (p + 1) - 48) * 10 + chr T n (p + 2) - 48 = 0 := by
          intro h9
          rw [ec3, r2, dig_step, show (0 : Int32) = iN 0 from rfl, iN_eq (by omega) (by omega)] at h9
          refine hz ⟨?_, ?_⟩
          · rw [r2, show (0 : Int32) = iN 0 from rfl]; congr 1; omega
          · rw [ec3, show (48 : Int32) = iN 48 from rfl]; congr 1; omega
        refine ⟨fun _ => ⟨fun _ => good _ _ A3 hA3 (by omega) ?_, fun h9 => absurd h9 hv3⟩, fun h => absurd (show (3 : Int32) ≤ iN (2 + 1) by decide) h⟩
        unfold pLN; rw [if_neg c1, if_neg c2, if_neg (by rw [h3']; decide), if_neg hv3]
end YX
