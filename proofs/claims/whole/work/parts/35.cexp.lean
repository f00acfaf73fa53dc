/-! the class's parser: expressions -/
/-- a call for an inner sum, and the mathematical one -/
def HSm (m0 : Nat) (A0 : Mem) (T : Nat → Int32) (n L : Nat) (on : Bool) (S : Nat → Mem → (Bool → Mem → Prop) → Prop) (Sp : PS) : Prop :=
  ∀ (sl p op : Nat) (s : Nat → Int32) (q : Nat → Nat) (ops : List (Int32 × Int32)) (nu en : List Int32) (A : Mem) (K : Bool → Mem → Prop), m0 ≤ op → 1000 ≤ q 2 → q 2 < 1017 → on = decide (q 2 = 1004) → VP A0 T n L sl p op s q ops nu en A →
    OKP (Sp p op) (fun p' os => ∀ A', VP A0 T n L sl p' op s q (ops ++ os.map cOp) nu en A' → K true A') (fun q' => ∀ A', VF A0 L q' A' → K false A') → S 3 A K
section VPe
variable {m0 : Nat} {A0 : Mem} {T : Nat → Int32} {n L sl p op : Nat} {s : Nat → Int32} {q : Nat → Nat} {ops : List (Int32 × Int32)} {nu en : List Int32} {A : Mem} {on : Bool} {S : Nat → Mem → (Bool → Mem → Prop) → Prop} {Sp : PS}
theorem x_br {K : Bool → Mem → Prop} (hS : HSm m0 A0 T n L on S Sp) (hm0 : m0 ≤ op + 1) (h1 : 1000 ≤ q 2) (h2 : q 2 < 1017) (h3 : on = decide (q 2 = 1004)) (hv : VP A0 T n L sl p op s q ops nu en A) (k : OKP (dBr T n Sp p op) (fun p' os => ∀ A', VP A0 T n L sl p' op s q (ops ++ os.map cOp) nu en A' → K true A') (fun q' => ∀ A', VF A0 L q' A' → K false A')) : wp_Pa_bracketed S 3 A K := by
  refine ⟨rfl, x_open hv ?_⟩
  unfold dBr at k
  split at k
  · rw [if_pos ‹_›]
    exact fun A' hf => ⟨fun _ => k A' hf, fun h => absurd h (by decide)⟩
  · rw [if_neg ‹_›]
    rw [OKP_bnd] at k
    refine OKP_mono k (fun p1 _ k1 A1 hv1 => ⟨fun h => absurd h (by decide), fun _ => ?_⟩) (fun q' kb A' hf => ⟨fun _ => kb A' hf, fun h => absurd h (by decide)⟩)
    rw [OKP_bnd] at k1
    refine hS _ _ _ _ _ _ _ _ _ _ hm0 h1 h2 h3 hv1 (OKP_mono k1 (fun p2 os k2 A2 hv2 => ⟨fun h => absurd h (by decide), fun _ => ?_⟩) (fun q' kb A' hf => ⟨fun _ => kb A' hf, fun h => absurd h (by decide)⟩))
    rw [OKP_bnd] at k2
    exact x_close hv2 (OKP_mono k2 (fun p3 _ k3 A3 hv3 => ⟨fun h => absurd h (by decide), fun _ => k3 A3 (VP_sl hv3 (by omega))⟩) (fun q' kb A' hf => ⟨fun _ => kb A' hf, fun h => absurd h (by decide)⟩))
theorem chr_lt0 {c : Int32} (h : chr T n p = c) (h0 : c ≠ -1) : p < n := chr_lt h0 h
theorem x_el {K : Bool → Mem → Prop} (hS : HSm m0 A0 T n L on S Sp) (hm0 : m0 ≤ op + 1) (h1 : 1000 ≤ q 2) (h2 : q 2 < 1017) (h3 : on = decide (q 2 = 1004)) (hm : isM (chr T n p) = true) (hv : VP A0 T n L sl p op s q ops nu en A) (k : OKP (dEl T n Sp p op) (fun p' os => ∀ A', VP A0 T n L sl p' op s q (ops ++ os.map cOp) nu en A' → K true A') (fun q' => ∀ A', VF A0 L q' A' → K false A')) : wp_Pa_matrixElement S 3 (chr T n p - 80) A K := by
  have hn := VP_n hv
  unfold wp_Pa_matrixElement
  unfold dEl at k
  rw [(VP_3 hv).2.2.1, show (6 : Int32) = iN 6 from rfl, iN_lt (by omega) (by omega)]
  refine ⟨rfl, fun h6 => ?_, fun h6 => ?_⟩
  · rw [if_neg (by omega), OKP_bnd] at k
    refine x_open (VP_on hv (isM_lt hm)) ?_
    rw [if_neg (by omega)]
    refine OKP_mono k (fun p1 _ k1 A1 hv1 => ⟨fun h => absurd h (by decide), fun _ => ?_⟩) (fun q' kb A' hf => ⟨fun _ => kb A' hf, fun h => absurd h (by decide)⟩)
    rw [OKP_bnd] at k1
    refine hS _ _ _ _ _ _ _ _ _ _ hm0 h1 h2 h3 hv1 (OKP_mono k1 (fun p2 os k2 A2 hv2 => ⟨fun h => absurd h (by decide), fun _ => ?_⟩) (fun q' kb A' hf => ⟨fun _ => kb A' hf, fun h => absurd h (by decide)⟩))
    rw [OKP_bnd] at k2
    refine x_skp hv2 (by decide) (OKP_mono k2 (fun p3 _ k3 A3 hv3 => ⟨fun h => absurd h (by decide), fun _ => ?_⟩) (fun q' kb A' hf => ⟨fun _ => kb A' hf, fun h => absurd h (by decide)⟩))
    rw [OKP_bnd] at k3
    refine hS _ _ _ _ _ _ _ _ _ _ hm0 h1 h2 h3 hv3 (OKP_mono k3 (fun p4 qs k4 A4 hv4 => ⟨fun h => absurd h (by decide), fun _ => ?_⟩) (fun q' kb A' hf => ⟨fun _ => kb A' hf, fun h => absurd h (by decide)⟩))
    rw [OKP_bnd] at k4
    refine x_close hv4 (OKP_mono k4 (fun p5 _ k5 A5 hv5 => ⟨fun h => absurd h (by decide), fun _ => x_oper (sl := sl) (VP_sl hv5 (by omega)) (fun A6 hv6 => ⟨fun h => absurd h (by decide), fun _ => k5 A6 ?_⟩)⟩) (fun q' kb A' hf => ⟨fun _ => kb A' hf, fun h => absurd h (by decide)⟩))
    have e : ops ++ List.map cOp (os ++ qs ++ [(2, chr T n p - 80, 0)]) = ops ++ List.map cOp os ++ List.map cOp qs ++ [(2, chr T n p - 80)] := by simp [cOp]; rfl
    rw [e]
    exact hv6
  · rw [if_pos (by omega)] at k
    exact k A (VP_F hv)
theorem x_name {K : Bool → Mem → Prop} (h1 : 1000 ≤ q 2) (h2 : q 2 < 1017) (h3 : on = decide (q 2 = 1004)) (hv : VP A0 T n L sl p op s q ops nu en A) (k : K (pNm T n on op p) A) : wp_Pa_beginsName 3 A K := by
  have hn := VP_n hv
  have st := hv.2.2.1.2.1
  have h4 := (VP_3 hv).2.2.1
  unfold pNm at k
  refine ⟨rfl, x_next hv ⟨fun e => ?_, fun e => ?_, fun e => ?_, fun e => ?_, fun e1 e2 e3 e4 => ?_⟩⟩
  · rw [e, if_pos rfl] at k
    refine x_behind (d := 1) hv (by omega) ⟨fun h => ?_, fun h => ?_⟩
    · rw [decide_eq_false h] at k; exact k
    · rw [decide_eq_true h] at k; exact k
  · rw [e, if_neg (by decide), if_pos rfl] at k
    refine x_behind (d := 1) hv (by omega) ⟨fun h => ?_, fun h => ?_⟩
    · rw [decide_eq_false h] at k; exact k
    · rw [decide_eq_true h] at k; exact k
  · rw [e, if_neg (by decide), if_neg (by decide), if_pos rfl] at k
    refine x_behind (d := 1) hv (by omega) ⟨fun h => ?_, fun h => ?_⟩
    · rw [decide_eq_false h] at k; exact k
    · rw [decide_eq_true h] at k; exact k
  · rw [e, if_neg (by decide), if_neg (by decide), if_neg (by decide), if_pos rfl] at k
    refine x_behind (d := 1) hv (by omega) ⟨fun h => ?_, fun h => ?_⟩
    · rw [decide_eq_false h] at k; exact k
    · rw [decide_eq_true h, Bool.true_and] at k
      rw [(VP_3 hv).2.2.2.1, st, h4, show (0 : Int32) = iN 0 from rfl, iN_lt (by omega) (by omega)]
      refine ⟨(VP_3 hv).2.2.2.2, Or.inl ⟨h1, h2⟩, fun h5 => ?_, fun h5 => ⟨fun h6 => ?_, fun h6 => x_behind (d := 2) hv (by omega) ⟨fun h7 => ?_, fun h7 => ?_⟩⟩⟩
      · rw [h3, decide_eq_false h5] at k; simpa using k
      · rw [decide_eq_true h6] at k; simpa using k
      · rw [h3, decide_eq_true h5, decide_eq_false h6, decide_eq_false h7] at k; simpa using k
      · rw [decide_eq_true h7] at k; simpa using k
  · rw [if_neg e1, if_neg e2, if_neg e3, if_neg e4] at k
    exact k
theorem x_abs {K : Bool → Mem → Prop} {x : Nat} {w : List Int32} {o : Nat} (hx : x < 44) (hw : bytS.getD x [] = w) (ho : o ≠ 0) (hS : HSm m0 A0 T n L on S Sp) (hm0 : m0 ≤ op + 1) (h1 : 1000 ≤ q 2) (h2 : q 2 < 1017) (h3 : on = decide (q 2 = 1004)) (hv : VP A0 T n L (sl + 1) p op s q ops nu en A) (k : OKP (bnd (pWd T n w p) fun p1 _ => bnd (dBr T n Sp p1 op) fun p2 os => .ok (p2, os ++ [(o, 0, 0)])) (fun p' os => ∀ A', VP A0 T n L sl p' op s q (ops ++ os.map cOp) nu en A' → K true A') (fun q' => ∀ A', VF A0 L q' A' → K false A')) : wp_Pa_word 3 (2000 + x) A (fun (r3 : Bool) (A2 : Mem) => ((r3 = false → K false A2) ∧ (r3 = true → wp_Pa_bracketed S 3 A2 (fun (r5 : Bool) (A4 : Mem) => ((r5 = false → K false A4) ∧ (r5 = true → wp_Pa_operation 3 (iN o) 0 A4 (fun (r7 : Bool) (A6 : Mem) => ((r7 = false → K false A6) ∧ (r7 = true → K true A6))))))))) := by
  rw [OKP_bnd] at k
  refine x_word hx hw hv (OKP_mono k (fun p1 _ k1 A1 hv1 => ⟨fun h => absurd h (by decide), fun _ => ?_⟩) (fun q' kb A' hf => ⟨fun _ => kb A' hf, fun h => absurd h (by decide)⟩))
  rw [OKP_bnd] at k1
  refine x_br hS hm0 h1 h2 h3 hv1 (OKP_mono k1 (fun p2 os k2 A2 hv2 => ⟨fun h => absurd h (by decide), fun _ => x_oper hv2 (fun A3 hv3 => ⟨fun h => absurd h (by decide), fun _ => k2 A3 ?_⟩)⟩) (fun q' kb A' hf => ⟨fun _ => kb A' hf, fun h => absurd h (by decide)⟩))
  have e : ops ++ List.map cOp (os ++ [(o, 0, 0)]) = ops ++ List.map cOp os ++ [(iN o, 0)] := by simp [cOp, ho]
  rw [e]
  exact hv3
theorem x_callD {K : Bool → Mem → Prop} (hS : HSm m0 A0 T n L on S Sp) (hm0 : m0 ≤ op + 1) (h1 : 1000 ≤ q 2) (h2 : q 2 < 1017) (h3 : on = decide (q 2 = 1004)) (hv : VP A0 T n L (sl + 1) p op s q ops nu en A) (k : OKP (if isF (chr T n p) = false then .error p else bnd (dBr T n Sp (p + 1) op) fun p2 os => .ok (p2, (12, chr T n p - 65, 0) :: os ++ [(13, chr T n p - 65, 0)])) (fun p' os => ∀ A', VP A0 T n L sl p' op s q (ops ++ os.map cOp) nu en A' → K true A') (fun q' => ∀ A', VF A0 L q' A' → K false A')) : wp_Pa_callDefined S 3 (chr T n p) A K := by
  refine x_isFunction ⟨fun hf => ?_, fun hf => ?_⟩
  · rw [if_neg (by rw [hf]; decide), OKP_bnd] at k
    refine ⟨rfl, x_oper (VP_on hv (isF_lt hf)) (fun A1 hv1 => ⟨fun h => absurd h (by decide), fun _ => ?_⟩)⟩
    refine x_br hS hm0 h1 h2 h3 hv1 (OKP_mono k (fun p2 os k2 A2 hv2 => ⟨fun h => absurd h (by decide), fun _ => x_oper hv2 (fun A3 hv3 => ⟨fun h => absurd h (by decide), fun _ => k2 A3 ?_⟩)⟩) (fun q' kb A' hf => ⟨fun _ => kb A' hf, fun h => absurd h (by decide)⟩))
    have e : ops ++ List.map cOp ((12, chr T n p - 65, 0) :: os ++ [(13, chr T n p - 65, 0)]) = ops ++ [(12, chr T n p - 65)] ++ List.map cOp os ++ [(13, chr T n p - 65)] := by simp [cOp]; exact ⟨rfl, rfl⟩
    rw [e]
    exact hv3
  · rw [if_pos hf] at k
    exact k A (VP_F hv)
theorem x_call {K : Bool → Mem → Prop} (hS : HSm m0 A0 T n L on S Sp) (hm0 : m0 ≤ op + 1) (h1 : 1000 ≤ q 2) (h2 : q 2 < 1017) (h3 : on = decide (q 2 = 1004)) (hp : p < n) (hv : VP A0 T n L sl p op s q ops nu en A) (k : OKP (dCall T n Sp p op) (fun p' os => ∀ A', VP A0 T n L sl p' op s q (ops ++ os.map cOp) nu en A' → K true A') (fun q' => ∀ A', VF A0 L q' A' → K false A')) : wp_Pa_call S 3 (chr T n p) A K := by
  have hn := VP_n hv
  have hv1 := VP_on hv hp
  unfold wp_Pa_call
  unfold dCall at k
  rw [(VP_3 hv1).2.2.1, show (6 : Int32) = iN 6 from rfl, iN_lt (by omega) (by omega)]
  refine ⟨rfl, fun h6 => ?_, fun h6 => ?_⟩
  · rw [if_neg (by omega)] at k
    refine ⟨fun e => ?_, fun e => ?_, fun e => ?_, fun e1 e2 e3 => ?_⟩
    · rw [if_pos e] at k
      exact x_abs (x := 2) (o := 9) (by omega) rfl (by omega) hS hm0 h1 h2 h3 hv1 k
    · rw [if_neg (by rw [e]; decide), if_pos e] at k
      exact x_abs (x := 3) (o := 10) (by omega) rfl (by omega) hS hm0 h1 h2 h3 hv1 k
    · rw [if_neg (by rw [e]; decide), if_neg (by rw [e]; decide), if_pos e] at k
      exact x_abs (x := 4) (o := 11) (by omega) rfl (by omega) hS hm0 h1 h2 h3 hv1 k
    · rw [if_neg e1, if_neg e2, if_neg e3, OKP_bnd] at k
      refine x_word (x := 5) (by omega) rfl hv1 (OKP_mono k (fun p1 _ k1 A1 hv1 => ⟨fun h => absurd h (by decide), fun _ => x_next hv1 (x_callD hS hm0 h1 h2 h3 hv1 (OKP_mono k1 (fun p2 os k2 A2 hv2 => ⟨fun h => absurd h (by decide), fun _ => k2 A2 hv2⟩) (fun q' kb A' hf => ⟨fun _ => kb A' hf, fun h => absurd h (by decide)⟩)))⟩) (fun q' kb A' hf => ⟨fun _ => kb A' hf, fun h => absurd h (by decide)⟩))
  · rw [if_pos (by omega)] at k
    exact k _ (VP_F hv1)
theorem pNm_lt (h : pNm T n on op p = true) : p < n := by
  unfold pNm at h
  by_cases hp : p < n
  · exact hp
  · have e : chr T n p = -1 := by unfold chr; rw [if_neg hp]
    rw [e, if_neg (by decide), if_neg (by decide), if_neg (by decide), if_neg (by decide)] at h
    cases h
theorem pNum_gt : OKP (pNum T n p) (fun p' v => p < p' ∧ p' ≤ n ∧ v.2 ≤ 3) (fun _ => True) := by
  unfold pNum
  by_cases hd : isD (chr T n p) = true
  · have hl := isD_lt hd
    have h6 : p < (pDg T n 6 p 0 0).1 ∧ (pDg T n 6 p 0 0).1 ≤ n := by
      unfold pDg
      rw [hd, if_pos rfl]
      have h := pDg_ge (T := T) (n := n) 5 (p + 1) (0 + 1) (0 * 10 + chr T n p - 48)
      exact ⟨h.2.2.1, h.2.2.2.1 hl⟩
    rw [if_neg (by rw [hd]; decide)]
    split
    · split
      · trivial
      · rename_i hc hd2
        have hl2 := chr_lt0 hc (by decide)
        have h := pDg_ge (T := T) (n := n) 3 ((pDg T n 6 p 0 0).1 + 1) 0 (pDg T n 6 p 0 0).2.1
        exact ⟨by omega, h.2.2.2.1 hl2, by omega⟩
    · exact ⟨h6.1, h6.2, by simp⟩
  · rw [if_pos (by simpa using hd)]
    trivial
theorem VP_up {sl' : Nat} (h : VP A0 T n L sl p op s q ops nu en A) (h2 : ops.length + sl' ≤ p) : VP A0 T n L sl' p op s q ops nu en A :=
  ⟨h.1, h.2.1, h.2.2.1, h.2.2.2.1, ⟨h.2.2.2.2.1.1, h2, h.2.2.2.2.1.2.2⟩, h.2.2.2.2.2⟩
theorem x_part {K : Bool → Mem → Prop} (hS : HSm m0 A0 T n L on S Sp) (hm0 : m0 ≤ op + 1) (h1 : 1000 ≤ q 2) (h2 : q 2 < 1017) (h3 : on = decide (q 2 = 1004)) (hv : VP A0 T n L sl p op s q ops nu en A) (k : OKP (dPart T n on Sp p op) (fun p' os => ∀ A', VP A0 T n L sl p' op s q (ops ++ os.map cOp) nu en A' → K true A') (fun q' => ∀ A', VF A0 L q' A' → K false A')) : wp_Pa_part S 3 A K := by
  unfold dPart at k
  refine ⟨rfl, x_next hv (x_isDigit ⟨fun hd => ⟨fun e40 => ?_, fun e40 => ?_⟩, fun hd => ?_⟩)⟩
  · rw [if_neg (by rw [hd]; decide), if_neg e40] at k
    refine x_isMatrix ⟨fun hm => ?_, fun hm => ?_⟩
    · rw [if_neg (by rw [hm]; decide)] at k
      refine x_name h1 h2 h3 hv ⟨fun hb => ?_, fun hb => ?_⟩
      · rw [if_neg (by rw [hb]; decide)] at k
        refine x_isVariable ⟨fun hx => ?_, fun hx => ?_⟩
        · rw [if_pos hx] at k
          refine x_oper (VP_on hv (isV_lt hx)) (fun A1 hv1 => k A1 hv1)
        · rw [if_neg (by rw [hx]; decide)] at k
          exact k A (VP_F hv)
      · rw [if_pos hb] at k
        exact x_call hS hm0 h1 h2 h3 (pNm_lt hb) hv k
    · rw [if_pos hm] at k
      exact x_el hS hm0 h1 h2 h3 hm hv k
  · rw [if_neg (by rw [hd]; decide), if_pos e40] at k
    exact x_br hS hm0 h1 h2 h3 hv k
  · rw [if_pos hd, OKP_bnd] at k
    refine x_numeral hv (OKP_mono (OKP_and k pNum_gt) (fun p1 v k1 A1 hv1 e1 => ⟨fun h => absurd h (by decide), fun _ => ?_⟩) (fun q' kb A' hf => ⟨fun _ => kb.1 A' hf, fun h => absurd h (by decide)⟩))
    rw [e1]
    exact x_oper (VP_up hv1 (by have := VP_len hv; omega)) (fun A2 hv2 => ⟨fun h => absurd h (by decide), fun _ => k1.1 A2 hv2⟩)
theorem x_pow_c7 {K : Bool → Mem → Prop} (hS : HSm m0 A0 T n L on S Sp) (hm0 : m0 ≤ op + 1) (h1 : 1000 ≤ q 2) (h2 : q 2 < 1017) (h3 : on = decide (q 2 = 1004)) : ∀ (k m p i : Nat) (acc : List SOp) (A : Mem), i + k = 60 → k ≤ m → VP A0 T n L sl p op s q (ops ++ acc.map cOp) nu en A → OKP (dPowL T n on Sp k p op acc) (fun p' os => ∀ A', VP A0 T n L sl p' op s q (ops ++ os.map cOp) nu en A' → K true A') (fun q' => ∀ A', VF A0 L q' A' → K false A') → wp_Pa_power_c7 S K (m + 2) 3 1 (iN i) A := by
  intro k
  induction k with
  | zero =>
    intro m p i acc A hi hm hv kk
    unfold wp_Pa_power_c7
    refine ⟨fun _ => ⟨Or.inr rfl, kk A hv⟩, fun h => ?_⟩
    rw [show (60 : Int32) = iN 60 from rfl, iN_le (by omega) (by omega)] at h
    omega
  | succ k ih =>
    intro m p i acc A hi hm hv kk
    obtain ⟨m, rfl⟩ : ∃ m', m = m' + 1 := ⟨m - 1, by omega⟩
    unfold wp_Pa_power_c7
    refine ⟨fun h => ?_, fun _ => ⟨fun h => absurd h (by decide), fun _ => ⟨rfl, x_skip hv (by decide) ?_⟩⟩⟩
    · rw [show (60 : Int32) = iN 60 from rfl, iN_le (by omega) (by omega)] at h
      omega
    · unfold dPowL at kk
      by_cases hc : chr T n p = 94
      · rw [if_pos hc, OKP_bnd] at kk
        rw [pCh_ok hc]
        intro A1 hv1
        refine ⟨fun h => absurd h (by decide), fun _ => x_part hS hm0 h1 h2 h3 hv1 (OKP_mono kk (fun p1 os k1 A2 hv2 => ⟨fun h => absurd h (by decide), fun _ => x_oper hv2 (fun A3 hv3 => ⟨fun h => absurd h (by decide), fun _ => ?_⟩)⟩) (fun q' kb A' hf => ⟨fun _ => ?_, fun h => absurd h (by decide)⟩))⟩
        · rw [iN_1]
          have e : ops ++ List.map cOp (acc ++ os ++ [(8, 0, 0)]) = ops ++ List.map cOp acc ++ List.map cOp os ++ [(8, 0)] := by simp [cOp]; rfl
          exact ih m p1 (i + 1) _ A3 (by omega) (by omega) (by rw [e]; exact hv3) k1
        · unfold wp_Pa_power_c7
          exact ⟨fun _ => ⟨Or.inl rfl, kb A' hf⟩, fun _ => ⟨fun _ => ⟨Or.inl rfl, kb A' hf⟩, fun h => absurd rfl h⟩⟩
      · rw [if_neg hc] at kk
        rw [pCh_no hc]
        exact ⟨fun _ => ⟨Or.inr rfl, kk A hv⟩, fun h => absurd h (by decide)⟩
theorem pow_c7_0 {K : Bool → Mem → Prop} {m : Nat} {x2 : Int32} (k : K false A) : wp_Pa_power_c7 S K (m + 1) 3 0 x2 A := ⟨fun _ => ⟨Or.inl rfl, k⟩, fun _ => ⟨fun _ => ⟨Or.inl rfl, k⟩, fun h => absurd rfl h⟩⟩
theorem x_pow {K : Bool → Mem → Prop} (hS : HSm m0 A0 T n L on S Sp) (hm0 : m0 ≤ op + 1) (h1 : 1000 ≤ q 2) (h2 : q 2 < 1017) (h3 : on = decide (q 2 = 1004)) (hv : VP A0 T n L sl p op s q ops nu en A) (k : OKP (dPow T n on Sp p op) (fun p' os => ∀ A', VP A0 T n L sl p' op s q (ops ++ os.map cOp) nu en A' → K true A') (fun q' => ∀ A', VF A0 L q' A' → K false A')) : wp_Pa_power S 3 A K := by
  unfold dPow at k
  rw [OKP_bnd] at k
  exact ⟨rfl, x_part hS hm0 h1 h2 h3 hv (OKP_mono k (fun p1 os k1 A1 hv1 => ⟨62, x_pow_c7 hS hm0 h1 h2 h3 60 60 p1 0 os A1 rfl (by omega) hv1 k1⟩) (fun q' kb A' hf => ⟨1, pow_c7_0 (kb A' hf)⟩))⟩
theorem pr_c7_0 {K : Bool → Mem → Prop} {m : Nat} {x2 : Int32} (k : K false A) : wp_Pa_product_c7 S K (m + 1) 3 0 x2 A := ⟨fun _ => ⟨Or.inl rfl, k⟩, fun _ => ⟨fun _ => ⟨Or.inl rfl, k⟩, fun h => absurd rfl h⟩⟩
theorem x_pr_c51 {K : Bool → Mem → Prop} {J : Nat → Int32 → Int32 → Mem → Prop} {i o : Nat} {acc : List SOp} {f : Nat → List SOp → PR (List SOp)} (ho : o ≠ 0) (hp : p < n) (hS : HSm m0 A0 T n L on S Sp) (hm0 : m0 ≤ op + 1) (h1 : 1000 ≤ q 2) (h2 : q 2 < 1017) (h3 : on = decide (q 2 = 1004)) (hv : VP A0 T n L sl p op s q (ops ++ acc.map cOp) nu en A)
    (kk : OKP (bnd (dPow T n on Sp (p + 1) op) fun p1 os => f p1 (acc ++ os ++ [(o, 0, 0)])) (fun p' os => ∀ A', VP A0 T n L sl p' op s q (ops ++ os.map cOp) nu en A' → K true A') (fun q' => ∀ A', VF A0 L q' A' → K false A'))
    (hJ0 : ∀ A' x, K false A' → J 3 0 x A') (hJ1 : ∀ p1 ac A', VP A0 T n L sl p1 op s q (ops ++ List.map cOp ac) nu en A' → OKP (f p1 ac) (fun p' os => ∀ A', VP A0 T n L sl p' op s q (ops ++ os.map cOp) nu en A' → K true A') (fun q' => ∀ A', VF A0 L q' A' → K false A') → J 3 1 (iN (i + 1)) A') : wp_Pa_product_c51 S J K 3 (iN i) (iN o) A := by
  rw [OKP_bnd] at kk
  refine ⟨rfl, x_pow hS hm0 h1 h2 h3 (VP_on hv hp) (OKP_mono kk (fun p1 os k1 A2 hv2 => ⟨fun h => absurd h (by decide), fun _ => x_oper hv2 (fun A3 hv3 => ⟨fun h => absurd h (by decide), fun _ => ?_⟩)⟩) (fun q' kb A' hf => ⟨fun _ => hJ0 A' _ (kb A' hf), fun h => absurd h (by decide)⟩))⟩
  rw [iN_1]
  have e : ops ++ List.map cOp (acc ++ os ++ [(o, 0, 0)]) = ops ++ List.map cOp acc ++ List.map cOp os ++ [(iN o, 0)] := by simp [cOp, ho]
  exact hJ1 p1 _ A3 (by rw [e]; exact hv3) k1
theorem x_pr_c7 {K : Bool → Mem → Prop} (hS : HSm m0 A0 T n L on S Sp) (hm0 : m0 ≤ op + 1) (h1 : 1000 ≤ q 2) (h2 : q 2 < 1017) (h3 : on = decide (q 2 = 1004)) : ∀ (k m p i : Nat) (acc : List SOp) (A : Mem), i + k = 60 → k ≤ m → VP A0 T n L sl p op s q (ops ++ acc.map cOp) nu en A → OKP (dPrL T n on Sp k p op acc) (fun p' os => ∀ A', VP A0 T n L sl p' op s q (ops ++ os.map cOp) nu en A' → K true A') (fun q' => ∀ A', VF A0 L q' A' → K false A') → wp_Pa_product_c7 S K (m + 2) 3 1 (iN i) A := by
  intro k
  induction k with
  | zero =>
    intro m p i acc A hi hm hv kk
    unfold wp_Pa_product_c7
    refine ⟨fun _ => ⟨Or.inr rfl, kk A hv⟩, fun h => ?_⟩
    rw [show (60 : Int32) = iN 60 from rfl, iN_le (by omega) (by omega)] at h
    omega
  | succ k ih =>
    intro m p i acc A hi hm hv kk
    obtain ⟨m, rfl⟩ : ∃ m', m = m' + 1 := ⟨m - 1, by omega⟩
    unfold wp_Pa_product_c7
    unfold dPrL at kk
    refine ⟨fun h => ?_, fun _ => ⟨fun h => absurd h (by decide), fun _ => ⟨rfl, x_next hv ⟨fun e => x_next hv ⟨fun h => absurd e h, fun _ => ?_⟩, fun e => x_next hv ⟨fun e2 => ?_, fun e2 => x_next hv ⟨fun _ => ?_, fun h => absurd h e⟩⟩⟩⟩⟩⟩
    · rw [show (60 : Int32) = iN 60 from rfl, iN_le (by omega) (by omega)] at h
      omega
    · rw [if_pos (Or.inl e), if_pos e] at kk
      exact x_pr_c51 (o := 6) (f := fun p1 ac => dPrL T n on Sp k p1 op ac) (by omega) (chr_lt0 e (by decide)) hS hm0 h1 h2 h3 hv kk (fun A' x h => pr_c7_0 h) (fun p1 ac A' hv' k' => ih m p1 (i + 1) ac A' (by omega) (by omega) hv' k')
    · rw [if_neg (by rintro (h | h); exact e h; exact e2 h)] at kk
      exact ⟨Or.inr rfl, kk A hv⟩
    · rw [if_pos (Or.inr e2), if_neg e] at kk
      exact x_pr_c51 (o := 7) (f := fun p1 ac => dPrL T n on Sp k p1 op ac) (by omega) (chr_lt0 e2 (by decide)) hS hm0 h1 h2 h3 hv kk (fun A' x h => pr_c7_0 h) (fun p1 ac A' hv' k' => ih m p1 (i + 1) ac A' (by omega) (by omega) hv' k')
theorem x_pr {K : Bool → Mem → Prop} (hS : HSm m0 A0 T n L on S Sp) (hm0 : m0 ≤ op + 1) (h1 : 1000 ≤ q 2) (h2 : q 2 < 1017) (h3 : on = decide (q 2 = 1004)) (hv : VP A0 T n L sl p op s q ops nu en A) (k : OKP (dPr T n on Sp p op) (fun p' os => ∀ A', VP A0 T n L sl p' op s q (ops ++ os.map cOp) nu en A' → K true A') (fun q' => ∀ A', VF A0 L q' A' → K false A')) : wp_Pa_product S 3 A K := by
  unfold dPr at k
  rw [OKP_bnd] at k
  exact ⟨rfl, x_pow hS hm0 h1 h2 h3 hv (OKP_mono k (fun p1 os k1 A1 hv1 => ⟨62, x_pr_c7 hS hm0 h1 h2 h3 60 60 p1 0 os A1 rfl (by omega) hv1 k1⟩) (fun q' kb A' hf => ⟨1, pr_c7_0 (kb A' hf)⟩))⟩
theorem sum_c35_0 {K : Bool → Mem → Prop} {m : Nat} {x2 : Int32} (k : K false A) : wp_Pa_sumB_c35 S K (m + 1) 3 0 x2 A := ⟨fun _ => ⟨Or.inl rfl, k⟩, fun _ => ⟨fun _ => ⟨Or.inl rfl, k⟩, fun h => absurd rfl h⟩⟩
theorem x_sum_c77 {K : Bool → Mem → Prop} {J : Nat → Int32 → Int32 → Mem → Prop} {i o : Nat} {acc : List SOp} {f : Nat → List SOp → PR (List SOp)} (ho : o ≠ 0) (hp : p < n) (hS : HSm m0 A0 T n L on S Sp) (hm0 : m0 ≤ op + 1) (h1 : 1000 ≤ q 2) (h2 : q 2 < 1017) (h3 : on = decide (q 2 = 1004)) (hv : VP A0 T n L sl p op s q (ops ++ acc.map cOp) nu en A)
    (kk : OKP (bnd (dPr T n on Sp (p + 1) op) fun p1 os => f p1 (acc ++ os ++ [(o, 0, 0)])) (fun p' os => ∀ A', VP A0 T n L sl p' op s q (ops ++ os.map cOp) nu en A' → K true A') (fun q' => ∀ A', VF A0 L q' A' → K false A'))
    (hJ0 : ∀ A' x, K false A' → J 3 0 x A') (hJ1 : ∀ p1 ac A', VP A0 T n L sl p1 op s q (ops ++ List.map cOp ac) nu en A' → OKP (f p1 ac) (fun p' os => ∀ A', VP A0 T n L sl p' op s q (ops ++ os.map cOp) nu en A' → K true A') (fun q' => ∀ A', VF A0 L q' A' → K false A') → J 3 1 (iN (i + 1)) A') : wp_Pa_sumB_c77 S J K 3 (iN i) (iN o) A := by
  rw [OKP_bnd] at kk
  refine ⟨rfl, x_pr hS hm0 h1 h2 h3 (VP_on hv hp) (OKP_mono kk (fun p1 os k1 A2 hv2 => ⟨fun h => absurd h (by decide), fun _ => x_oper hv2 (fun A3 hv3 => ⟨fun h => absurd h (by decide), fun _ => ?_⟩)⟩) (fun q' kb A' hf => ⟨fun _ => hJ0 A' _ (kb A' hf), fun h => absurd h (by decide)⟩))⟩
  rw [iN_1]
  have e : ops ++ List.map cOp (acc ++ os ++ [(o, 0, 0)]) = ops ++ List.map cOp acc ++ List.map cOp os ++ [(iN o, 0)] := by simp [cOp, ho]
  exact hJ1 p1 _ A3 (by rw [e]; exact hv3) k1
theorem x_sum_c35 {K : Bool → Mem → Prop} (hS : HSm m0 A0 T n L on S Sp) (hm0 : m0 ≤ op + 1) (h1 : 1000 ≤ q 2) (h2 : q 2 < 1017) (h3 : on = decide (q 2 = 1004)) : ∀ (k m p i : Nat) (acc : List SOp) (A : Mem), i + k = 60 → k ≤ m → VP A0 T n L sl p op s q (ops ++ acc.map cOp) nu en A → OKP (dSumL T n on Sp k p op acc) (fun p' os => ∀ A', VP A0 T n L sl p' op s q (ops ++ os.map cOp) nu en A' → K true A') (fun q' => ∀ A', VF A0 L q' A' → K false A') → wp_Pa_sumB_c35 S K (m + 2) 3 1 (iN i) A := by
  intro k
  induction k with
  | zero =>
    intro m p i acc A hi hm hv kk
    unfold wp_Pa_sumB_c35
    refine ⟨fun _ => ⟨Or.inr rfl, kk A hv⟩, fun h => ?_⟩
    rw [show (60 : Int32) = iN 60 from rfl, iN_le (by omega) (by omega)] at h
    omega
  | succ k ih =>
    intro m p i acc A hi hm hv kk
    obtain ⟨m, rfl⟩ : ∃ m', m = m' + 1 := ⟨m - 1, by omega⟩
    unfold wp_Pa_sumB_c35
    unfold dSumL at kk
    refine ⟨fun h => ?_, fun _ => ⟨fun h => absurd h (by decide), fun _ => ⟨rfl, x_next hv ⟨fun e => x_next hv ⟨fun h => absurd e h, fun _ => ?_⟩, fun e => x_next hv ⟨fun e2 => ?_, fun e2 => x_next hv ⟨fun _ => ?_, fun h => absurd h e⟩⟩⟩⟩⟩⟩
    · rw [show (60 : Int32) = iN 60 from rfl, iN_le (by omega) (by omega)] at h
      omega
    · rw [if_pos (Or.inl e), if_pos e] at kk
      exact x_sum_c77 (o := 4) (f := fun p1 ac => dSumL T n on Sp k p1 op ac) (by omega) (chr_lt0 e (by decide)) hS hm0 h1 h2 h3 hv kk (fun A' x h => sum_c35_0 h) (fun p1 ac A' hv' k' => ih m p1 (i + 1) ac A' (by omega) (by omega) hv' k')
    · rw [if_neg (by rintro (h | h); exact e h; exact e2 h)] at kk
      exact ⟨Or.inr rfl, kk A hv⟩
    · rw [if_pos (Or.inr e2), if_neg e] at kk
      exact x_sum_c77 (o := 5) (f := fun p1 ac => dSumL T n on Sp k p1 op ac) (by omega) (chr_lt0 e2 (by decide)) hS hm0 h1 h2 h3 hv kk (fun A' x h => sum_c35_0 h) (fun p1 ac A' hv' k' => ih m p1 (i + 1) ac A' (by omega) (by omega) hv' k')
theorem x_sumB {K : Bool → Mem → Prop} (hS : HSm m0 A0 T n L on S Sp) (hm0 : m0 ≤ op + 1) (h1 : 1000 ≤ q 2) (h2 : q 2 < 1017) (h3 : on = decide (q 2 = 1004)) (hv : VP A0 T n L sl p op s q ops nu en A) (k : OKP (dSumB T n on Sp p op) (fun p' os => ∀ A', VP A0 T n L sl p' op s q (ops ++ os.map cOp) nu en A' → K true A') (fun q' => ∀ A', VF A0 L q' A' → K false A')) : wp_Pa_sumB S 3 A K := by
  unfold dSumB at k
  refine ⟨rfl, x_skip hv (by decide) ?_⟩
  by_cases hc : chr T n p = 45
  · rw [if_pos hc, OKP_bnd] at k
    rw [pCh_ok hc]
    refine fun A1 hv1 => x_pr hS hm0 h1 h2 h3 hv1 (OKP_mono k (fun p1 os k1 A2 hv2 => ⟨fun h => absurd h (by decide), fun _ => ⟨fun h => absurd h (by decide), fun _ => x_oper hv2 (fun A3 hv3 => ⟨fun h => absurd h (by decide), fun _ => ⟨62, ?_⟩⟩)⟩⟩) (fun q' kb A' hf => ⟨fun _ => ⟨1, sum_c35_0 (kb A' hf)⟩, fun h => absurd h (by decide)⟩))
    have e : ops ++ List.map cOp (os ++ [(3, 0, 0)]) = ops ++ List.map cOp os ++ [(3, 0)] := by simp [cOp]; rfl
    exact x_sum_c35 hS hm0 h1 h2 h3 60 60 p1 0 _ A3 rfl (by omega) (by rw [e]; exact hv3) k1
  · rw [if_neg hc, OKP_bnd] at k
    rw [pCh_no hc]
    exact x_pr hS hm0 h1 h2 h3 hv (OKP_mono k (fun p1 os k1 A2 hv2 => ⟨fun h => absurd h (by decide), fun _ => ⟨fun _ => ⟨62, x_sum_c35 hS hm0 h1 h2 h3 60 60 p1 0 _ A2 rfl (by omega) hv2 k1⟩, fun h => absurd h (by decide)⟩⟩) (fun q' kb A' hf => ⟨fun _ => ⟨1, sum_c35_0 (kb A' hf)⟩, fun h => absurd h (by decide)⟩))
theorem x_sum : ∀ d, HSm (8 - d) A0 T n L on (wp_Pa_sum d) (dSum T n on d) := by
  intro d
  induction d with
  | zero => exact fun sl p op s q ops nu en A K h0 h1 h2 h3 hv k => absurd (VP_n hv).2.2 (by omega)
  | succ d ih => exact fun sl p op s q ops nu en A K h0 h1 h2 h3 hv k => x_sumB ih (by omega) h1 h2 h3 hv k
/-- one whole expression: its operations are added, and its end is noted (also behind a failure) -/
theorem x_expr {K : Bool → Mem → Prop} (h1 : 1000 ≤ q 2) (h2 : q 2 < 1017) (h3 : on = decide (q 2 = 1004)) (h4 : en.length < 3) (hv : VP A0 T n L sl p op s q ops nu en A) (k : OKP (dSum T n on 8 p op) (fun p' os => ∀ A', VP A0 T n L sl p' op s q (ops ++ os.map cOp) nu (en ++ [iN (ops.length + os.length)]) A' → K true A') (fun q' => ∀ A', VF A0 L q' A' → K false A')) : wp_Pa_expression 3 A K := by
  refine ⟨rfl, x_sum 8 sl p op s q ops nu en A _ (by omega) h1 h2 h3 hv (OKP_mono k (fun p1 os k1 A1 hv1 => ?_) (fun q' kb A' hf => ?_))⟩
  · rw [(VP_3 hv1).2.2.2.1]
    refine ⟨(VP_3 hv1).2.2.2.2, x_endExpr hv1 h4 (fun A2 hv2 => k1 A2 ?_)⟩
    have e : (ops ++ List.map cOp os).length = ops.length + os.length := by simp
    rw [e] at hv2
    exact hv2
  · obtain ⟨hF, hW, h31, e, he, h14⟩ := hf
    obtain ⟨hL, hL2, w30, w32, w8, w10, w11, w13⟩ := hW
    have k12 := kdL120 hL hL2
    rw [w30]
    refine ⟨kdL hL hL2, kdL hL hL2, ?_⟩
    rw [w13, k12.1, k12.2, h14, iN_cl (by omega), show Int32.ofNat 3 = iN 3 from rfl, iN_le (by omega) (by omega)]
    refine ⟨rfl, fun h => kb _ ⟨hF, ⟨hL, hL2, w30, w32, w8, w10, w11, w13⟩, h31, e, he, h14⟩, fun h => ⟨iN_in (by omega) (by omega), fun A4 hA => kb _ ?_⟩⟩
    subst hA
    refine ⟨FrC_I (FrC_I hF (by omega)) (by omega), ⟨hL, hL2, w30, w32, w8, w10, w11, w13⟩, ?_, e + 1, by omega, ?_⟩
    · rw [gI_ne (by omega), gI_ne (by omega), h31]
    · rw [gI_eq, gI_ne (by omega), h14, iN_1]
end VPe
