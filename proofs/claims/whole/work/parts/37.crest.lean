/-! the class's parser: statements -/
def cEn : Nat → List (List SOp) → List Int32
  | _, [] => []
  | a, e :: r => iN (a + e.length) :: cEn (a + e.length) r
theorem cEn_app : ∀ (es fs : List (List SOp)) (a : Nat), cEn a (es ++ fs) = cEn a es ++ cEn (a + es.flatten.length) fs := by
  intro es
  induction es with
  | nil => intro fs a; simp [cEn]
  | cons e r ih =>
    intro fs a
    simp only [List.cons_append, cEn, ih, List.flatten_cons, List.length_append, Nat.add_assoc]
theorem cEn_len : ∀ (es : List (List SOp)) (a : Nat), (cEn a es).length = es.length := by
  intro es
  induction es with
  | nil => intro a; rfl
  | cons e r ih => intro a; simp [cEn, ih]
/-- the operations and ends of the expressions es, one behind another -/
abbrev cOs (es : List (List SOp)) : List (Int32 × Int32) := es.flatten.map cOp
def cRel (b : Int32) : Int32 := if b = 0 then 2 else if b = 1 then 1 else if b = 2 then 4 else if b = 3 then 3 else if b = 4 then 6 else 5
def cForm (b : Int32) : Nat := if b = 0 then 1100 else if b = 1 then 1101 else if b = 2 then 1102 else if b = 3 then 1107 else if b = 4 then 1108 else if b = 5 then 1103 else if b = 6 then 1104 else if b = 7 then 1105 else 1106
def cCon (c : Int32 × Int32 × Nat) : Int32 := if c.1 = 1 then -(th c.2.1 c.2.2) else th c.2.1 c.2.2
section VPc
variable {A0 : Mem} {T : Nat → Int32} {n L sl p op : Nat} {s : Nat → Int32} {q : Nat → Nat} {ops : List (Int32 × Int32)} {nu en : List Int32} {A : Mem}
/-- the failing end of a wp of the form 'false: K false; true: go on' -/
theorem bad_end {P Q : Prop} (h : Q) : (false = false → Q) ∧ (false = true → P) := ⟨fun _ => h, fun h => (by cases h)⟩
theorem good_end {P Q : Prop} (h : Q) : (true = false → P) ∧ (true = true → Q) := ⟨fun h => (by cases h), fun _ => h⟩
theorem good_end2 {P Q : Prop} (h : Q) : (true = true → Q) ∧ (true = false → P) := ⟨fun _ => h, fun h => (by cases h)⟩
theorem bad_end2 {P Q : Prop} (h : Q) : (false = true → P) ∧ (false = false → Q) := ⟨fun h => (by cases h), fun _ => h⟩
theorem x_letter {K : Bool → Mem → Prop} {x : Int32} {j : Nat} (hj : j = 3 ∨ j = 5) (hp : p < n) (hv : VP A0 T n L sl p op s q ops nu en A) (k : ∀ A', VP A0 T n L sl (p + 1) op (us s j x) q ops nu en A' → K true A') : kd (gR A 3 0) = 3 ∧ K true (sI (sI A (gR A 3 0) j x) 3 1 ((gI (sI A (gR A 3 0) j x) 3 1) + 1)) := by
  rw [(VP_3 hv).2.2.2.1]
  exact ⟨(VP_3 hv).2.2.2.2, k _ (VP_sl (VP_on (VP_s hv (by omega) (by omega) (by omega)) hp) (by omega))⟩
theorem x_matrix {K : Bool → Mem → Prop} (hv : VP A0 T n L sl p op s q ops nu en A) (k : OKP (pMt T n p) (fun p' a => ∀ A', VP A0 T n L sl p' op (us s 3 a) q ops nu en A' → K true A') (fun q' => ∀ A', VF A0 L q' A' → K false A')) : wp_Pa_matrix 3 A K := by
  unfold pMt at k
  refine ⟨rfl, x_next hv (x_isMatrix ⟨fun h => x_next hv (x_letter (Or.inl rfl) (isM_lt h) hv ?_), fun h => ?_⟩)⟩
  · rw [if_pos h] at k; exact k
  · rw [if_neg (by rw [h]; decide)] at k; exact k A (VP_F hv)
theorem x_simple {K : Bool → Mem → Prop} (hv : VP A0 T n L sl p op s q ops nu en A) (k : OKP (pVar T n p) (fun p' a => ∀ A', VP A0 T n L sl p' op (us s 3 a) q ops nu en A' → K true A') (fun q' => ∀ A', VF A0 L q' A' → K false A')) : wp_Pa_simple 3 A K := by
  unfold pVar at k
  refine ⟨rfl, x_next hv (x_isVariable ⟨fun h => x_next hv (x_letter (Or.inl rfl) (isV_lt h) hv ?_), fun h => ?_⟩)⟩
  · rw [if_pos h] at k; exact k
  · rw [if_neg (by rw [h]; decide)] at k; exact k A (VP_F hv)
theorem x_function {K : Bool → Mem → Prop} (hv : VP A0 T n L sl p op s q ops nu en A) (k : OKP (pFn T n p) (fun p' a => ∀ A', VP A0 T n L sl p' op (us s 5 a) q ops nu en A' → K true A') (fun q' => ∀ A', VF A0 L q' A' → K false A')) : wp_Pa_function 3 A K := by
  unfold pFn at k
  refine ⟨rfl, x_next hv (x_isFunction ⟨fun h => x_next hv (x_letter (Or.inr rfl) (isF_lt h) hv ?_), fun h => ?_⟩)⟩
  · rw [if_pos h] at k; exact k
  · rw [if_neg (by rw [h]; decide)] at k; exact k A (VP_F hv)
theorem x_operand {K : Bool → Mem → Prop} (h6 : nu.length < 6) (hv : VP A0 T n L sl p op s q ops nu en A) (k : OKP (pMt T n p) (fun p' a => ∀ A', VP A0 T n L sl p' op s q ops (nu ++ [a]) en A' → K true A') (fun q' => ∀ A', VF A0 L q' A' → K false A')) : wp_Pa_operand 3 A K := by
  unfold pMt at k
  refine ⟨rfl, x_next hv (x_isMatrix ⟨fun h => x_next hv ?_, fun h => ?_⟩)⟩
  · rw [if_pos h] at k
    rw [(VP_3 hv).2.2.2.1]
    exact ⟨(VP_3 hv).2.2.2.2, x_addNum hv h6 (fun A1 hv1 e1 => k _ (VP_sl (VP_on hv1 (isM_lt h)) (by omega)))⟩
  · rw [if_neg (by rw [h]; decide)] at k; exact k A (VP_F hv)
theorem x_extent {K : Bool → Mem → Prop} (h6 : nu.length < 6) (hv : VP A0 T n L sl p op s q ops nu en A) (k : OKP (pExt T n p) (fun p' a => ∀ A', VP A0 T n L sl p' op s q ops (nu ++ [a]) en A' → K true A') (fun q' => ∀ A', VF A0 L q' A' → K false A')) : wp_Pa_extent 3 A K := by
  unfold pExt at k
  refine ⟨rfl, x_next hv ⟨fun h => ?_, fun h => ⟨fun h2 => ?_, fun h2 => ?_⟩⟩⟩
  · rw [if_pos h] at k; exact k A (VP_F hv)
  · rw [if_neg h, if_pos h2] at k
    have hp : p < n := by
      by_cases hp : p < n
      · exact hp
      · exact absurd (show chr T n p - 48 < 1 by unfold chr; rw [if_neg hp]; decide) h
    rw [(VP_3 hv).2.2.2.1]
    exact ⟨(VP_3 hv).2.2.2.2, x_addNum hv h6 (fun A1 hv1 e1 => k _ (VP_sl (VP_on hv1 hp) (by omega)))⟩
  · rw [if_neg h, if_neg h2] at k; exact k A (VP_F hv)
theorem x_jump {K : Bool → Mem → Prop} (h6 : nu.length < 6) (hv : VP A0 T n L sl p op s q ops nu en A) (k : OKP (pLN T n p) (fun p' a => ∀ A', VP A0 T n L sl p' op s q ops (nu ++ [a]) en A' → K true A') (fun q' => ∀ A', VF A0 L q' A' → K false A')) : wp_Pa_jump 3 A K := by
  refine ⟨rfl, x_lineNumber hv (OKP_mono k (fun p1 v k1 A1 hv1 e1 => good_end2 ?_) (fun q' kb A' hf => bad_end2 (kb A' hf)))⟩
  rw [(VP_3 hv1).2.2.2.1, e1]
  exact ⟨(VP_3 hv1).2.2.2.2, x_addNum hv1 h6 (fun A2 hv2 e2 => k1 A2 hv2)⟩
theorem jumps_0 {K : Bool → Mem → Prop} {m : Nat} {x2 : Int32} (k : K false A) : wp_Pa_jumps_c7 K (m + 1) 3 0 x2 A := ⟨fun _ => ⟨Or.inl rfl, k⟩, fun _ => ⟨fun _ => ⟨Or.inl rfl, k⟩, fun h => absurd rfl h⟩⟩
theorem x_jumps_c7 {K : Bool → Mem → Prop} : ∀ (k m p i : Nat) (nu : List Int32) (A : Mem), i + k = 4 → nu.length = i → k ≤ m → VP A0 T n L sl p op s q ops nu en A → OKP (pJmpL T n k p nu) (fun p' vs => ∀ A', VP A0 T n L sl p' op s q ops vs en A' → K true A') (fun q' => ∀ A', VF A0 L q' A' → K false A') → wp_Pa_jumps_c7 K (m + 2) 3 1 (iN i) A := by
  intro k
  induction k with
  | zero =>
    intro m p i nu A hi hl hm hv kk
    unfold wp_Pa_jumps_c7
    refine ⟨fun _ => ⟨Or.inr rfl, kk A hv⟩, fun h => ?_⟩
    rw [show (4 : Int32) = iN 4 from rfl, iN_le (by omega) (by omega)] at h
    omega
  | succ k ih =>
    intro m p i nu A hi hl hm hv kk
    obtain ⟨m, rfl⟩ : ∃ m', m = m' + 1 := ⟨m - 1, by omega⟩
    unfold wp_Pa_jumps_c7
    refine ⟨fun h => ?_, fun _ => ⟨fun h => absurd h (by decide), fun _ => ⟨rfl, x_skip hv (by decide) ?_⟩⟩⟩
    · rw [show (4 : Int32) = iN 4 from rfl, iN_le (by omega) (by omega)] at h
      omega
    · unfold pJmpL at kk
      by_cases hc : chr T n p = 44
      · rw [if_pos hc, OKP_bnd] at kk
        rw [pCh_ok hc]
        intro A1 hv1
        refine good_end (x_jump (by omega) (VP_sl hv1 (Nat.le_succ sl)) (OKP_mono kk (fun p1 v k1 A2 hv2 => ?_) (fun q' kb A' hf => jumps_0 (kb A' hf))))
        rw [iN_1]
        exact ih m p1 (i + 1) _ A2 (by omega) (by simp; omega) (by omega) hv2 k1
      · rw [if_neg hc] at kk
        rw [pCh_no hc]
        exact bad_end ⟨Or.inr rfl, kk A hv⟩
theorem x_jumps {K : Bool → Mem → Prop} (hv : VP A0 T n L sl p op s q ops [] en A) (k : OKP (pJmps T n p) (fun p' vs => ∀ A', VP A0 T n L sl p' op s q ops vs en A' → K true A') (fun q' => ∀ A', VF A0 L q' A' → K false A')) : wp_Pa_jumps 3 A K := by
  unfold pJmps at k
  rw [OKP_bnd] at k
  exact ⟨rfl, x_jump (by simp) hv (OKP_mono k (fun p1 v k1 A1 hv1 => ⟨5, x_jumps_c7 3 3 p1 1 [v] A1 rfl rfl (by omega) hv1 k1⟩) (fun q' kb A' hf => ⟨1, jumps_0 (kb A' hf)⟩))⟩
theorem x_constant {K : Bool → Mem → Prop} (h6 : nu.length < 6) (hv : VP A0 T n L sl p op s q ops nu en A) (k : OKP (pCon T n p) (fun p' c => ∀ A', VP A0 T n L sl p' op s q ops (nu ++ [cCon c]) en A' → K true A') (fun q' => ∀ A', VF A0 L q' A' → K false A')) : wp_Pa_constant 3 A K := by
  unfold pCon at k
  refine ⟨rfl, x_skip hv (by decide) ?_⟩
  by_cases hc : chr T n p = 45
  · rw [if_pos hc, OKP_bnd] at k
    rw [pCh_ok hc]
    refine fun A1 hv1 => x_numeral (VP_sl hv1 (Nat.le_succ sl)) (OKP_mono k (fun p1 v k1 A2 hv2 e2 => good_end2 (good_end ?_)) (fun q' kb A' hf => bad_end2 (kb A' hf)))
    rw [(VP_3 hv2).2.2.2.1, e2]
    exact ⟨(VP_3 hv2).2.2.2.2, x_addNum hv2 h6 (fun A3 hv3 e3 => k1 A3 hv3)⟩
  · rw [if_neg hc, OKP_bnd] at k
    rw [pCh_no hc]
    refine x_numeral hv (OKP_mono k (fun p1 v k1 A2 hv2 e2 => good_end2 ⟨fun _ => ?_, fun h => by cases h⟩) (fun q' kb A' hf => bad_end2 (kb A' hf)))
    rw [(VP_3 hv2).2.2.2.1, e2]
    exact ⟨(VP_3 hv2).2.2.2.2, x_addNum hv2 h6 (fun A3 hv3 e3 => k1 A3 hv3)⟩
theorem cons_0 {K : Bool → Mem → Prop} {m : Nat} {x2 : Int32} (k : K false A) : wp_Pa_constants_c7 K (m + 1) 3 0 x2 A := ⟨fun _ => ⟨Or.inl rfl, k⟩, fun _ => ⟨fun _ => ⟨Or.inl rfl, k⟩, fun h => absurd rfl h⟩⟩
theorem x_cons_c7 {K : Bool → Mem → Prop} : ∀ (k m p i : Nat) (cs : List (Int32 × Int32 × Nat)) (A : Mem), i + k = 6 → cs.length = i → k ≤ m → VP A0 T n L sl p op s q ops (cs.map cCon) en A → OKP (pConL T n k p cs) (fun p' vs => ∀ A', VP A0 T n L sl p' op s q ops (vs.map cCon) en A' → K true A') (fun q' => ∀ A', VF A0 L q' A' → K false A') → wp_Pa_constants_c7 K (m + 2) 3 1 (iN i) A := by
  intro k
  induction k with
  | zero =>
    intro m p i cs A hi hl hm hv kk
    unfold wp_Pa_constants_c7
    refine ⟨fun _ => ⟨Or.inr rfl, kk A hv⟩, fun h => ?_⟩
    rw [show (6 : Int32) = iN 6 from rfl, iN_le (by omega) (by omega)] at h
    omega
  | succ k ih =>
    intro m p i cs A hi hl hm hv kk
    obtain ⟨m, rfl⟩ : ∃ m', m = m' + 1 := ⟨m - 1, by omega⟩
    unfold wp_Pa_constants_c7
    refine ⟨fun h => ?_, fun _ => ⟨fun h => absurd h (by decide), fun _ => ⟨rfl, x_skip hv (by decide) ?_⟩⟩⟩
    · rw [show (6 : Int32) = iN 6 from rfl, iN_le (by omega) (by omega)] at h
      omega
    · unfold pConL at kk
      by_cases hc : chr T n p = 44
      · rw [if_pos hc, OKP_bnd] at kk
        rw [pCh_ok hc]
        intro A1 hv1
        refine good_end (x_constant (by simp; omega) (VP_sl hv1 (Nat.le_succ sl)) (OKP_mono kk (fun p1 v k1 A2 hv2 => ?_) (fun q' kb A' hf => cons_0 (kb A' hf))))
        rw [iN_1]
        exact ih m p1 (i + 1) _ A2 (by omega) (by simp; omega) (by omega) (by simpa using hv2) k1
      · rw [if_neg hc] at kk
        rw [pCh_no hc]
        exact bad_end ⟨Or.inr rfl, kk A hv⟩
theorem x_cons {K : Bool → Mem → Prop} (hv : VP A0 T n L sl p op s q ops [] en A) (k : OKP (pCons T n p) (fun p' vs => ∀ A', VP A0 T n L sl p' op s q ops (vs.map cCon) en A' → K true A') (fun q' => ∀ A', VF A0 L q' A' → K false A')) : wp_Pa_constants 3 A K := by
  unfold pCons at k
  rw [OKP_bnd] at k
  exact ⟨rfl, x_constant (by simp) hv (OKP_mono k (fun p1 v k1 A1 hv1 => ⟨7, x_cons_c7 5 5 p1 1 [v] A1 rfl rfl (by omega) hv1 k1⟩) (fun q' kb A' hf => ⟨1, cons_0 (kb A' hf)⟩))⟩
theorem x_target {K : Bool → Mem → Prop} (h1 : 1000 ≤ q 2) (h2 : q 2 < 1017) (h3 : false = decide (q 2 = 1004)) (hv : VP A0 T n L sl p 0 s q [] nu [] A) (k : OKP (pTgt T n p) (fun p' t => ∀ A', VP A0 T n L sl p' 0 (us (us s 4 (if isM (chr T n p) then 1 else 0)) 3 (if isM (chr T n p) then chr T n p - 80 else t.1)) q (cOs t.2) nu (cEn 0 t.2) A' → (isM (chr T n p) = true → t.1 = 26 + (chr T n p - 80)) → K true A') (fun q' => ∀ A', VF A0 L q' A' → K false A')) : wp_Pa_target 3 A K := by
  unfold pTgt at k
  have hv1 : ∀ b, VP A0 T n L sl p 0 (us s 4 (bI b)) q [] nu [] (sI A L 4 (bI b)) := fun b => VP_s hv (by omega) (by omega) (by omega)
  refine ⟨rfl, x_next hv (x_isMatrix ?_)⟩
  rw [(VP_3 hv).2.2.2.1, (VP_3 (hv1 _)).2.2.2.1, gI_eq]
  refine ⟨(VP_3 hv).2.2.2.2, (VP_3 hv).2.2.2.2, fun hm => ?_, fun hm => ?_⟩
  · have hm' : isM (chr T n p) = true := by
      cases h : isM (chr T n p)
      · rw [h] at hm; exact absurd rfl hm
      · rfl
    rw [if_pos hm', OKP_bnd] at k
    refine x_matrix (hv1 _) ?_
    unfold pMt
    rw [if_pos hm']
    intro A1 hv2
    refine good_end (x_open hv2 ?_)
    rw [if_neg (by omega)]
    refine OKP_mono k (fun p1 _ k1 A3 hv3 => good_end ?_) (fun q' kb A' hf => bad_end (kb A' hf))
    rw [OKP_bnd] at k1
    refine x_expr h1 h2 h3 (by simp) (VP_sl hv3 (Nat.le_succ sl)) (OKP_mono k1 (fun p2 e k2 A4 hv4 => good_end ?_) (fun q' kb A' hf => bad_end (kb A' hf)))
    rw [OKP_bnd] at k2
    refine x_skp hv4 (by decide) (OKP_mono k2 (fun p3 _ k3 A5 hv5 => good_end ?_) (fun q' kb A' hf => bad_end (kb A' hf)))
    rw [OKP_bnd] at k3
    refine x_expr h1 h2 h3 (by simp) hv5 (OKP_mono k3 (fun p4 f k4 A6 hv6 => good_end ?_) (fun q' kb A' hf => bad_end (kb A' hf)))
    rw [OKP_bnd] at k4
    refine x_close hv6 (OKP_mono k4 (fun p5 _ k5 A7 hv7 => good_end (k5 A7 ?_ (fun _ => rfl))) (fun q' kb A' hf => bad_end (kb A' hf)))
    rw [hm']
    have hv8 := VP_sl hv7 (Nat.le_succ sl)
    rw [hm'] at hv8
    simpa [cOs, cEn, bI] using hv8
  · have hm' : isM (chr T n p) = false := by
      cases h : isM (chr T n p)
      · rfl
      · rw [h] at hm; exact absurd hm (by decide)
    rw [if_neg (by rw [hm']; decide), OKP_bnd] at k
    refine x_simple (hv1 _) (OKP_mono k (fun p1 a k1 A1 hv2 => k1 A1 ?_ (fun h => by rw [hm'] at h; cases h)) (fun q' kb A' hf => kb A' hf))
    rw [hm'] at hv2 ⊢
    simpa [cOs, cEn, bI] using hv2
theorem x_rel96 {K : Bool → Mem → Prop} {x w : Int32} (hw : w = x + 4) (hv : VP A0 T n L sl p op (us s 6 x) q ops nu en A) (k1 : p < n → chr T n p = 62 → ∀ A', VP A0 T n L sl (p + 1) op (us s 6 w) q ops nu en A' → K true A') (k0 : chr T n p ≠ 62 → K true A) : wp_Pa_relation_c96 K 3 60 A := by
  refine ⟨fun h => absurd rfl h, fun _ => ⟨rfl, x_skip hv (by decide) ?_⟩⟩
  by_cases hc : chr T n p = 62
  · rw [pCh_ok hc]
    intro A1 hv1
    refine good_end ?_
    rw [(VP_3 hv1).2.2.2.1]
    refine ⟨(VP_3 hv1).2.2.2.2, k1 (chr_lt0 hc (by decide)) hc _ ?_⟩
    have h6 : gI A1 L 6 = x := by
      have := hv1.2.2.1.1 6 (by omega) (by omega) (by omega)
      rw [us_eq] at this
      exact this
    have h7 := VP_s (k := 6) (v := w) (VP_sl hv1 (Nat.le_succ sl)) (by omega) (by omega) (by omega)
    rw [h6, ← hw]
    have e : us (us s 6 x) 6 w = us s 6 w := by
      funext j
      unfold us
      split <;> rfl
    rw [e] at h7
    exact h7
  · rw [pCh_no hc]
    exact bad_end (k0 hc)
theorem us_us {α : Type} {f : Nat → α} {k : Nat} {v w : α} : us (us f k v) k w = us f k w := by
  funext j
  unfold us
  split <;> rfl
theorem x_rel40 {K : Bool → Mem → Prop} {c x : Int32} (hx : x ≠ 0) (hp : p < n) (hv : VP A0 T n L sl p op s q ops nu en A) (k61 : c = 61 → ∀ A', VP A0 T n L sl (p + 1) op (us s 6 x) q ops nu en A' → K true A') (kE : c ≠ 61 → chr T n (p + 1) = 61 → ∀ A', VP A0 T n L sl (p + 2) op (us s 6 (x + 2)) q ops nu en A' → K true A') (kN : c ≠ 61 → chr T n (p + 1) ≠ 61 → ∀ A', VP A0 T n L sl (p + 1) op (us s 6 x) q ops nu en A' → wp_Pa_relation_c96 K 3 c A') : wp_Pa_relation_c40 K 3 c x (gR A 3 0) A := by
  rw [(VP_3 hv).2.2.2.1]
  have hv1 := VP_s (k := 6) (v := x) hv (by omega) (by omega) (by omega)
  have hv2 := VP_sl (VP_on hv1 hp) (Nat.le_succ sl)
  unfold wp_Pa_relation_c40
  rw [(VP_3 hv1).2.2.2.1, gI_eq]
  refine ⟨(VP_3 hv).2.2.2.2, rfl, (VP_3 hv).2.2.2.2, fun _ => ⟨fun e => ?_, fun e => x_skip hv2 (by decide) ?_⟩, fun h => absurd h hx⟩
  · exact ⟨fun _ => k61 e _ hv2, fun h => absurd (e.symm.trans h) (by decide)⟩
  · by_cases hc : chr T n (p + 1) = 61
    · rw [pCh_ok hc]
      intro A3 hv3
      refine good_end ?_
      have h6 : gI A3 L 6 = x := by
        have := hv3.2.2.1.1 6 (by omega) (by omega) (by omega)
        rw [us_eq] at this
        exact this
      rw [(VP_3 hv3).2.2.2.1, h6]
      have h7 := VP_s (k := 6) (v := x + 2) (VP_sl hv3 (Nat.le_succ sl)) (by omega) (by omega) (by omega)
      rw [us_us] at h7
      exact ⟨(VP_3 hv3).2.2.2.2, kE e hc _ h7⟩
    · rw [pCh_no hc]
      exact bad_end (kN e hc _ hv2)
theorem x_relation {K : Bool → Mem → Prop} (hv : VP A0 T n L sl p op s q ops nu en A) (k : OKP (pRel T n p) (fun p' b => ∀ A', VP A0 T n L sl p' op (us s 6 (cRel b)) q ops nu en A' → K true A') (fun q' => ∀ A', VF A0 L q' A' → K false A')) : wp_Pa_relation 3 A K := by
  unfold pRel at k
  refine ⟨rfl, x_next hv ⟨fun e60 => ⟨fun e61 => ⟨fun e62 => ?_, fun e62 => ?_⟩, fun e61 => ?_⟩, fun e60 => ?_⟩⟩
  · rw [if_neg e60, if_neg e61, if_neg e62] at k
    have hv1 := VP_s (k := 6) (v := 0) hv (by omega) (by omega) (by omega)
    rw [(VP_3 hv).2.2.2.1]
    unfold wp_Pa_relation_c40
    rw [(VP_3 hv1).2.2.2.1, gI_eq]
    refine ⟨(VP_3 hv).2.2.2.2, rfl, (VP_3 hv).2.2.2.2, fun h => absurd rfl h, fun _ => k _ (VP_F hv1)⟩
  · rw [if_neg e60, if_neg e61, if_pos e62] at k
    rw [e62]
    refine x_rel40 (by decide) (chr_lt0 e62 (by decide)) hv (fun h => absurd h (by decide)) (fun _ e A1 hv1 => ?_) (fun _ e A1 hv1 => ?_)
    · rw [if_pos e] at k; exact k A1 hv1
    · rw [if_neg e] at k
      exact ⟨fun _ => k A1 hv1, fun h => absurd h (by decide)⟩
  · rw [if_neg e60, if_pos e61] at k
    rw [e61]
    exact x_rel40 (by decide) (chr_lt0 e61 (by decide)) hv (fun _ A1 hv1 => k A1 hv1) (fun h => absurd rfl h) (fun h => absurd rfl h)
  · rw [if_pos e60] at k
    rw [e60]
    refine x_rel40 (by decide) (chr_lt0 e60 (by decide)) hv (fun h => absurd h (by decide)) (fun _ e A1 hv1 => ?_) (fun _ e A1 hv1 => ?_)
    · rw [if_pos e] at k; exact k A1 hv1
    · rw [if_neg e] at k
      refine x_rel96 (w := 5) (by decide) hv1 (fun _ e2 A2 hv2 => ?_) (fun e2 => ?_)
      · rw [if_pos e2] at k; exact k A2 hv2
      · rw [if_neg e2] at k; exact k A1 hv1
theorem x_growth {K : Bool → Mem → Prop} (h1 : 1000 ≤ q 2) (h2 : q 2 < 1017) (h3 : false = decide (q 2 = 1004)) (h4 : en.length < 3) (hv : VP A0 T n L sl p 0 s q ops nu en A) (k : OKP (pGro T n p) (fun p' g => ∀ A', VP A0 T n L sl p' 0 s q (ops ++ cOs g) nu (en ++ cEn ops.length g) A' → K true A') (fun q' => ∀ A', VF A0 L q' A' → K false A')) : wp_Pa_growth 3 A K := by
  have hn := VP_n hv
  unfold pGro at k
  unfold wp_Pa_growth
  rw [(VP_3 hv).1, (VP_3 hv).2.1, iN_eq (by omega) (by omega)]
  refine ⟨rfl, fun e => ?_, fun e => ?_⟩
  · rw [if_pos e] at k
    exact k A (by simpa [cOs, cEn] using hv)
  · rw [if_neg e, OKP_bnd] at k
    refine x_word (x := 9) (by omega) rfl hv (OKP_mono k (fun p1 _ k1 A1 hv1 => good_end ?_) (fun q' kb A' hf => bad_end (kb A' hf)))
    rw [OKP_bnd] at k1
    refine x_expr h1 h2 h3 h4 hv1 (OKP_mono k1 (fun p2 f k2 A2 hv2 => good_end (k2 A2 ?_)) (fun q' kb A' hf => bad_end (kb A' hf)))
    simpa [cOs, cEn] using hv2
theorem x_form {v : Nat} {K : Bool → Mem → Prop} (hv : VP A0 T n L sl p op s q ops nu en A) (k : ∀ A', VP A0 T n L sl p op s (us q 7 v) ops nu en A' → K true A') : wp_Pa_form 3 v A K := by
  unfold wp_Pa_form
  rw [(VP_3 hv).2.2.2.1]
  exact ⟨rfl, (VP_3 hv).2.2.2.2, k _ (VP_q hv (Or.inr rfl))⟩
theorem x_second {K : Bool → Mem → Prop} {m : Int32} (hq : q 7 = 1103) (hv : VP A0 T n L sl p op s q ops [m] en A) (k : OKP (if chr T n p = 42 then bnd (pMt T n (p + 1)) fun p2 m2 => .ok (p2, (8 : Int32), [m, m2], ([] : List (List SOp)))
    else if chr T n p = 43 then bnd (pMt T n (p + 1)) fun p2 m2 => .ok (p2, 6, [m, m2], [])
    else if chr T n p = 45 then bnd (pMt T n (p + 1)) fun p2 m2 => .ok (p2, 7, [m, m2], [])
    else .ok (p, 5, [m], [])) (fun p' r => ∀ A', VP A0 T n L sl p' op s (us q 7 (cForm r.1)) (ops ++ cOs r.2.2) r.2.1 (en ++ cEn 0 r.2.2) A' → K true A') (fun q' => ∀ A', VF A0 L q' A' → K false A')) : wp_Pa_secondOperand 3 A K := by
  have go : ∀ (v : Nat) (b : Int32), cForm b = v → p < n → OKP (bnd (pMt T n (p + 1)) fun p2 m2 => .ok (p2, b, [m, m2], ([] : List (List SOp)))) (fun p' r => ∀ A', VP A0 T n L sl p' op s (us q 7 (cForm r.1)) (ops ++ cOs r.2.2) r.2.1 (en ++ cEn 0 r.2.2) A' → K true A') (fun q' => ∀ A', VF A0 L q' A' → K false A') → kd (gR A 3 0) = 3 ∧ wp_Pa_operand 3 (sI (sR A (gR A 3 0) 7 v) 3 1 ((gI (sR A (gR A 3 0) 7 v) 3 1) + 1)) (fun (r6 : Bool) (A5 : Mem) => K r6 A5) := by
    intro v b hb hp kk
    rw [OKP_bnd] at kk
    rw [(VP_3 hv).2.2.2.1]
    refine ⟨(VP_3 hv).2.2.2.2, x_operand (by simp) (VP_on (VP_q (k := 7) (v := v) hv (Or.inr rfl)) hp) (OKP_mono kk (fun p1 a k1 A1 hv1 => k1 A1 ?_) (fun q' kb A' hf => kb A' hf))⟩
    have h5 := VP_sl hv1 (Nat.le_succ sl)
    simpa [cOs, cEn, hb] using h5
  refine ⟨rfl, x_next hv ⟨fun e => ?_, fun e => ?_, fun e => ?_, fun e => ?_, fun e1 e2 e3 e4 => ?_⟩⟩
  · rw [if_pos e] at k
    exact go 1106 8 (by decide) (chr_lt0 e (by decide)) k
  · rw [if_neg (by rw [e]; decide), if_pos e] at k
    exact go 1104 6 (by decide) (chr_lt0 e (by decide)) k
  · rw [if_neg (by rw [e]; decide), if_neg (by rw [e]; decide), if_neg (by rw [e]; decide)] at k
    refine k A ?_
    have e7 : us q 7 (cForm 5) = q := by
      funext j
      unfold us
      split
      · rename_i h; rw [h, hq]; decide
      · rfl
    rw [e7]
    simpa [cOs, cEn] using hv
  · rw [if_neg (by rw [e]; decide), if_neg (by rw [e]; decide), if_pos e] at k
    exact go 1105 7 (by decide) (chr_lt0 e (by decide)) k
  · rw [if_neg e1, if_neg e2, if_neg e4] at k
    refine k A ?_
    have e7 : us q 7 (cForm 5) = q := by
      funext j
      unfold us
      split
      · rename_i h; rw [h, hq]; decide
      · rfl
    rw [e7]
    simpa [cOs, cEn] using hv
theorem x_source {K : Bool → Mem → Prop} (h1 : 1000 ≤ q 2) (h2 : q 2 < 1017) (h3 : false = decide (q 2 = 1004)) (hv : VP A0 T n L sl p 0 s q [] [] [] A) (k : OKP (pSrc T n p) (fun p' r => ∀ A' o', VP A0 T n L sl p' o' s (us q 7 (cForm r.1)) (cOs r.2.2) r.2.1 (cEn 0 r.2.2) A' → K true A') (fun q' => ∀ A', VF A0 L q' A' → K false A')) : wp_Pa_source 3 A K := by
  unfold pSrc at k
  refine ⟨rfl, x_next hv ⟨fun e => ?_, fun e => ?_, fun e => ?_, fun e => ?_, fun e => ?_, fun e1 e2 e3 e4 e5 => ?_⟩⟩
  · rw [if_pos e, OKP_bnd] at k
    refine x_form hv (fun A1 hv1 => good_end (x_open hv1 ?_))
    rw [if_neg (by omega)]
    refine OKP_mono k (fun p1 _ k1 A2 hv2 => good_end ?_) (fun q' kb A' hf => bad_end (kb A' hf))
    rw [OKP_bnd] at k1
    refine x_expr (by rw [us_ne (by omega)]; exact h1) (by rw [us_ne (by omega)]; exact h2) (by rw [us_ne (by omega)]; exact h3) (by simp) (VP_sl hv2 (Nat.le_succ sl)) (OKP_mono k1 (fun p2 f k2 A3 hv3 => good_end ?_) (fun q' kb A' hf => bad_end (kb A' hf)))
    rw [OKP_bnd] at k2
    refine x_word (x := 14) (by omega) rfl hv3 (OKP_mono k2 (fun p3 _ k3 A4 hv4 => good_end ?_) (fun q' kb A' hf => bad_end (kb A' hf)))
    rw [OKP_bnd] at k3
    refine x_operand (by simp) hv4 (OKP_mono k3 (fun p4 m k4 A5 hv5 => good_end (k4 A5 1 ?_)) (fun q' kb A' hf => bad_end (kb A' hf)))
    simpa [cOs, cEn, cForm] using hv5
  · rw [if_neg (by rw [e]; decide), if_pos e, OKP_bnd] at k
    refine x_form hv (fun A1 hv1 => good_end (x_word (x := 11) (by omega) rfl hv1 (OKP_mono k (fun p1 _ k1 A2 hv2 => good_end (k1 A2 0 ?_)) (fun q' kb A' hf => bad_end (kb A' hf)))))
    simpa [cOs, cEn, cForm] using hv2
  · rw [if_neg (by rw [e]; decide), if_neg (by rw [e]; decide), if_pos e, OKP_bnd] at k
    refine x_form hv (fun A1 hv1 => good_end (x_word (x := 12) (by omega) rfl hv1 (OKP_mono k (fun p1 _ k1 A2 hv2 => good_end (k1 A2 0 ?_)) (fun q' kb A' hf => bad_end (kb A' hf)))))
    simpa [cOs, cEn, cForm] using hv2
  · rw [if_neg (by rw [e]; decide), if_neg (by rw [e]; decide), if_neg (by rw [e]; decide), if_pos e, OKP_bnd] at k
    refine x_form hv (fun A1 hv1 => good_end (x_word (x := 13) (by omega) rfl hv1 (OKP_mono k (fun p1 _ k1 A2 hv2 => good_end ?_) (fun q' kb A' hf => bad_end (kb A' hf)))))
    rw [OKP_bnd] at k1
    refine x_operand (by simp) hv2 (OKP_mono k1 (fun p2 m k2 A3 hv3 => good_end ?_) (fun q' kb A' hf => bad_end (kb A' hf)))
    rw [OKP_bnd] at k2
    refine x_skp hv3 (by decide) (OKP_mono k2 (fun p3 _ k3 A4 hv4 => good_end (k3 A4 0 ?_)) (fun q' kb A' hf => bad_end (kb A' hf)))
    simpa [cOs, cEn, cForm] using hv4
  · rw [if_neg (by rw [e]; decide), if_neg (by rw [e]; decide), if_neg (by rw [e]; decide), if_neg (by rw [e]; decide), if_pos e, OKP_bnd] at k
    refine x_form hv (fun A1 hv1 => good_end (x_word (x := 10) (by omega) rfl hv1 (OKP_mono k (fun p1 _ k1 A2 hv2 => good_end (k1 A2 0 ?_)) (fun q' kb A' hf => bad_end (kb A' hf)))))
    simpa [cOs, cEn, cForm] using hv2
  · rw [if_neg e1, if_neg e2, if_neg e3, if_neg e4, if_neg e5, OKP_bnd] at k
    refine x_form hv (fun A1 hv1 => good_end (x_operand (by simp) hv1 (OKP_mono k (fun p1 m k1 A2 hv2 => good_end ?_) (fun q' kb A' hf => bad_end (kb A' hf)))))
    refine x_second us_eq hv2 (OKP_mono k1 (fun p2 r k2 A3 hv3 => good_end (k2 A3 0 ?_)) (fun q' kb A' hf => bad_end (kb A' hf)))
    rw [us_us] at hv3
    simpa using hv3
end VPc
