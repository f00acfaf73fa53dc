/-! the class's parser: what its small methods do -/
theorem wS_ok0 : ∀ x, x < 44 → (bytS.getD x []).length = lenS.getD x 0 ∧ lenS.getD x 0 < 60 ∧ ((Int32.ofNat (lenS.getD x 0)) >>> ((0 : Int32) &&& 31)) = iN (lenS.getD x 0) := by decide +kernel
theorem wS_ok (x : Nat) (h : x < 44) : isS (2000 + x) ∧ isSB (2000 + x + 100) ∧ (bytS.getD x []).length = lenS.getD x 0 ∧ lenS.getD x 0 < 60 ∧ ((Int32.ofNat (lenS.getD x 0)) >>> ((0 : Int32) &&& 31)) = iN (lenS.getD x 0) := ⟨⟨by omega, by omega⟩, ⟨by omega, by omega⟩, wS_ok0 x h⟩
theorem wS_ch : ∀ x, x < 44 → ∀ k, k < lenS.getD x 0 → (Int32.toUInt32 (((bytS.getD x []).getD k 0) &&& 255) % 65536).toInt32 = (bytS.getD x []).getD k 0 ∧ (0 ≤ (bytS.getD x []).getD k 0) := by decide +kernel
theorem wS_nar : ∀ x, x < 44 → ∀ k, k < lenS.getD x 0 → narrow .char (.int ((bytS.getD x []).getD k 0)) = .int ((bytS.getD x []).getD k 0) := by decide +kernel
theorem gtD {l : List Int32} {i : Nat} (h : i < l.length) : l[i] = l.getD i 0 := by simp [List.getD, h]
section RD
variable {A : Mem}
theorem x_len {x : Nat} {K : Int32 → Mem → Prop} (h : x < 44) (k : K (iN (lenS.getD x 0)) A) : wp_JS_length (2000 + x) A K := by
  obtain ⟨h1, h2, h3, h4, h5⟩ := wS_ok x h
  refine ⟨h1, h2, fun h => absurd h (by decide), fun _ => ⟨h1, ?_⟩⟩
  dsimp only
  rw [show 2000 + x + 100 - 2100 = x by omega, h5]
  exact k
theorem x_charAt {x i : Nat} {K : Int32 → Mem → Prop} (h : x < 44) (hi : i < lenS.getD x 0) (k : K ((bytS.getD x []).getD i 0) A) : wp_JS_charAt (2000 + x) (iN i) A K := by
  obtain ⟨h1, h2, h3, h4, h5⟩ := wS_ok x h
  refine ⟨h1, fun h => absurd h (by decide), fun _ => ⟨h1, fun h => absurd rfl h, fun _ => ?_⟩⟩
  refine ⟨fun h => absurd h (by decide), fun _ => ⟨h2, fun r => ?_⟩⟩
  rw [show 2000 + x + 100 - 2100 = x by omega, show Int32.ofNat (lenS.getD x 0) = iN (lenS.getD x 0) from rfl]
  refine ⟨fun h6 => ?_, fun _ => ⟨fun _ => ⟨iN_in hi (by omega), ?_⟩, fun h6 => ?_⟩⟩
  · rw [show (0 : Int32) = iN 0 from rfl, iN_lt (by omega) (by omega)] at h6
    omega
  · rw [iN_cl (by omega), (wS_ch x h i hi).1]
    exact ⟨wS_nar x h i hi, wS_nar x h i hi, k⟩
  · rw [iN_lt (by omega) (by omega)] at h6
    exact absurd hi h6
theorem i32_lt (a b : Int32) : (a < b) = ¬ (b ≤ a) := by
  rw [Int32.lt_iff_toInt_lt, Int32.le_iff_toInt_le]
  exact propext (by omega)
theorem x_isDigit {c : Int32} {K : Bool → Mem → Prop} (k : K (isD c) A) : wp_BM_isDigit c A K := by
  unfold wp_BM_isDigit
  unfold isD at k
  simp only [i32_lt, Decidable.not_not]
  by_cases h1 : 48 ≤ c <;> by_cases h2 : c ≤ 57 <;> simp [h1, h2] at k ⊢ <;> exact k
theorem x_isMatrix {c : Int32} {K : Bool → Mem → Prop} (k : K (isM c) A) : wp_BM_isMatrix c A K := by
  unfold wp_BM_isMatrix
  unfold isM at k
  simp only [i32_lt, Decidable.not_not]
  by_cases h1 : 80 ≤ c <;> by_cases h2 : c ≤ 82 <;> simp [h1, h2] at k ⊢ <;> exact k
theorem x_isFunction {c : Int32} {K : Bool → Mem → Prop} (k : K (isF c) A) : wp_BM_isFunction c A K := by
  unfold wp_BM_isFunction
  unfold isF at k
  simp only [i32_lt, Decidable.not_not]
  by_cases h1 : 65 ≤ c <;> by_cases h2 : c ≤ 67 <;> simp [h1, h2] at k ⊢ <;> exact k
theorem x_isVariable {c : Int32} {K : Bool → Mem → Prop} (k : K (isV c) A) : wp_BM_isVariable c A K := by
  unfold wp_BM_isVariable
  unfold isV isM at k
  simp only [i32_lt, Decidable.not_not]
  by_cases h1 : 65 ≤ c <;> by_cases h2 : c ≤ 90 <;> by_cases h3 : 80 ≤ c <;> by_cases h4 : c ≤ 82 <;> simp [h1, h2, h3, h4] at k ⊢ <;> exact k
end RD
section VPr
variable {A0 : Mem} {T : Nat → Int32} {n L sl p op : Nat} {s : Nat → Int32} {q : Nat → Nat} {ops : List (Int32 × Int32)} {nu en : List Int32} {A : Mem}
theorem x_next {K : Int32 → Mem → Prop} (h : VP A0 T n L sl p op s q ops nu en A) (k : K (chr T n p) A) : wp_Pa_next 3 A K := by
  obtain ⟨⟨hF, hW⟩, ⟨hn, hp, hT, h31, h33, h34, hop⟩, hs, hN, hO, hE⟩ := h
  unfold wp_Pa_next
  unfold chr at k
  rw [h31, h33, iN_le (by omega) (by omega), hW.2.2.2.1]
  refine ⟨rfl, fun h1 => ?_, fun h1 => ⟨rfl, iN_in (m := 60) (by omega) (by omega), ?_⟩⟩
  · rw [if_neg (by omega)] at k; exact k
  · rw [if_pos (by omega)] at k
    rw [iN_cl (by omega), hT p (by omega)]; exact k
theorem x_behind {d : Nat} {K : Int32 → Mem → Prop} (h : VP A0 T n L sl p op s q ops nu en A) (hd : d < 100) (k : K (chr T n (p + d)) A) : wp_Pa_behind 3 (iN d) A K := by
  obtain ⟨⟨hF, hW⟩, ⟨hn, hp, hT, h31, h33, h34, hop⟩, hs, hN, hO, hE⟩ := h
  unfold wp_Pa_behind
  unfold chr at k
  rw [h31, h33, iN_add, iN_le (by omega) (by omega), hW.2.2.2.1]
  refine ⟨rfl, fun h1 => ?_, fun h1 => ⟨rfl, iN_in (m := 60) (by omega) (by omega), ?_⟩⟩
  · rw [if_neg (by omega)] at k; exact k
  · rw [if_pos (by omega)] at k
    rw [iN_cl (by omega), hT _ (by omega)]; exact k
theorem chr_lt {c : Int32} (h0 : c ≠ -1) (h : chr T n p = c) : p < n := by
  unfold chr at h
  split at h
  · assumption
  · exact absurd h.symm h0
theorem x_skip {c : Int32} {K : Bool → Mem → Prop} (h : VP A0 T n L sl p op s q ops nu en A) (h0 : c ≠ -1) (k : OKP (pCh T n c p) (fun p' _ => ∀ A', VP A0 T n L (sl + 1) p' op s q ops nu en A' → K true A') (fun _ => K false A)) : wp_Pa_skip 3 c A K := by
  have h' := h
  obtain ⟨⟨hF, hW⟩, ⟨hn, hp, hT, h31, h33, h34, hop⟩, hs, hN, hO, hE⟩ := h
  unfold wp_Pa_skip
  unfold pCh chr at k
  rw [h31, h33, iN_le (by omega) (by omega), hW.2.2.2.1]
  refine ⟨rfl, fun h1 => ?_, fun h1 => ⟨rfl, iN_in (m := 60) (by omega) (by omega), ?_⟩⟩
  · rw [if_neg (show ¬ p < n by omega), if_neg (Ne.symm h0)] at k; exact k
  · rw [if_pos (show p < n by omega)] at k
    rw [iN_cl (by omega), hT p (by omega), iN_1]
    refine ⟨fun h2 => ?_, fun h2 => ?_⟩
    · rw [if_pos h2] at k
      have h9 : ops.length + sl ≤ p := hO.2.1
      exact k _ (VP_p h' (by omega) (by omega))
    · rw [if_neg h2] at k; exact k
theorem pCh_ok {c : Int32} (h : chr T n p = c) : pCh T n c p = .ok (p + 1, ()) := by unfold pCh; rw [if_pos h]
theorem pCh_no {c : Int32} (h : ¬ chr T n p = c) : pCh T n c p = .error p := by unfold pCh; rw [if_neg h]
/-- a skip whose slack isn't wanted -/
theorem x_skp {c : Int32} {K : Bool → Mem → Prop} (h : VP A0 T n L sl p op s q ops nu en A) (h0 : c ≠ -1) (k : OKP (pCh T n c p) (fun p' _ => ∀ A', VP A0 T n L sl p' op s q ops nu en A' → K true A') (fun q => ∀ A', VF A0 L q A' → K false A')) : wp_Pa_skip 3 c A K := by
  refine x_skip h h0 ?_
  by_cases hc : chr T n p = c
  · rw [pCh_ok hc] at k ⊢
    exact fun A' hv => k A' (VP_sl hv (by omega))
  · rw [pCh_no hc] at k ⊢
    exact k A (VP_F h)
theorem x_word_c2 {x : Nat} {K : Bool → Mem → Prop} (hx : x < 44) : ∀ (m i p : Nat) (A : Mem) , m + i = lenS.getD x 0 → VP A0 T n L sl p op s q ops nu en A → OKP (pWd T n ((bytS.getD x []).drop i) p) (fun p' _ => ∀ A', VP A0 T n L sl p' op s q ops nu en A' → K true A') (fun q => ∀ A', VF A0 L q A' → K false A') → wp_Pa_word_c2 K (m + 1) 3 (2000 + x) (iN i) A := by
  obtain ⟨h1, h2, h3, h4, h5⟩ := wS_ok x hx
  intro m
  induction m with
  | zero =>
    intro i p A hm hv k
    unfold wp_Pa_word_c2
    refine ⟨h1, x_len hx ⟨fun _ => ?_, fun h => ?_⟩⟩
    · rw [List.drop_eq_nil_of_le (by omega)] at k
      exact k A hv
    · rw [iN_le (by omega) (by omega)] at h
      omega
  | succ m ih =>
    intro i p A hm hv k
    unfold wp_Pa_word_c2
    refine ⟨h1, x_len hx ⟨fun h => ?_, fun _ => x_charAt hx (by omega) ⟨rfl, ?_⟩⟩⟩
    · rw [iN_le (by omega) (by omega)] at h
      omega
    · have hb := (wS_ch x hx i (by omega)).2
      rw [List.drop_eq_getElem_cons (by omega), pWd, gtD] at k
      refine x_skip hv ?_ ?_
      · intro h9
        rw [h9] at hb
        exact absurd hb (by decide)
      · by_cases hc : chr T n p = (bytS.getD x []).getD i 0
        · rw [if_pos hc] at k
          rw [pCh_ok hc]
          intro A' hv'
          refine ⟨fun _ => ?_, fun h => absurd h (by decide)⟩
          rw [iN_1]
          exact ih (i + 1) (p + 1) A' (by omega) (VP_sl hv' (by omega)) k
        · rw [if_neg hc] at k
          rw [pCh_no hc]
          exact ⟨fun h => absurd h (by decide), fun _ => k A (VP_F hv)⟩
theorem x_word {x : Nat} {w : List Int32} {K : Bool → Mem → Prop} (hx : x < 44) (hw : bytS.getD x [] = w) (h : VP A0 T n L sl p op s q ops nu en A) (k : OKP (pWd T n w p) (fun p' _ => ∀ A', VP A0 T n L sl p' op s q ops nu en A' → K true A') (fun q => ∀ A', VF A0 L q A' → K false A')) : wp_Pa_word 3 (2000 + x) A K := by
  subst hw
  exact ⟨lenS.getD x 0 + 1, x_word_c2 hx (lenS.getD x 0) 0 p A (by omega) h (by simpa using k)⟩
theorem x_open {K : Bool → Mem → Prop} (h : VP A0 T n L sl p op s q ops nu en A) (k : OKP (if 6 ≤ op then .error p else pCh T n 40 p) (fun p' _ => ∀ A', VP A0 T n L (sl + 1) p' (op + 1) s q ops nu en A' → K true A') (fun q => ∀ A', VF A0 L q A' → K false A')) : wp_Pa_openBracket 3 A K := by
  have h34 := h.2.1.2.2.2.2.2.1
  have hop := h.2.1.2.2.2.2.2.2
  unfold wp_Pa_openBracket
  rw [h34, show (6 : Int32) = iN 6 from rfl, iN_le (by omega) (by omega)]
  refine ⟨rfl, fun h1 => ?_, fun h1 => x_skip h (by decide) ?_⟩
  · rw [if_pos h1] at k
    exact k A (VP_F h)
  · rw [if_neg h1] at k
    by_cases hc : chr T n p = 40
    · rw [pCh_ok hc] at k ⊢
      intro A' hv
      refine ⟨fun _ => ?_, fun h => absurd h (by decide)⟩
      rw [hv.2.1.2.2.2.2.2.1, iN_1]
      exact k _ (VP_op hv (by omega))
    · rw [pCh_no hc] at k ⊢
      exact ⟨fun h => absurd h (by decide), fun _ => k A (VP_F h)⟩
theorem x_close {K : Bool → Mem → Prop} (h : VP A0 T n L sl p (op + 1) s q ops nu en A) (k : OKP (pCh T n 41 p) (fun p' _ => ∀ A', VP A0 T n L (sl + 1) p' op s q ops nu en A' → K true A') (fun q => ∀ A', VF A0 L q A' → K false A')) : wp_Pa_closeBracket 3 A K := by
  have hop := h.2.1.2.2.2.2.2.2
  unfold wp_Pa_closeBracket
  refine ⟨rfl, x_skip h (by decide) ?_⟩
  by_cases hc : chr T n p = 41
  · rw [pCh_ok hc] at k ⊢
    intro A' hv
    refine ⟨fun _ => ?_, fun h => absurd h (by decide)⟩
    rw [hv.2.1.2.2.2.2.2.1, iN_s1 (by omega), show op + 1 - 1 = op by omega]
    exact k _ (VP_op hv (by omega))
  · rw [pCh_no hc] at k ⊢
    exact ⟨fun h => absurd h (by decide), fun _ => k A (VP_F h)⟩
theorem x_oper {a b : Int32} {K : Bool → Mem → Prop} (h : VP A0 T n L (sl + 1) p op s q ops nu en A) (k : ∀ A', VP A0 T n L sl p op s q (ops ++ [(a, b)]) nu en A' → K true A') : wp_Pa_operation 3 a b A K := by
  have hW := h.1.2
  unfold wp_Pa_operation
  rw [hW.2.2.1]
  exact ⟨rfl, kdL hW.1 hW.2.1, x_addOp h k⟩
end VPr
