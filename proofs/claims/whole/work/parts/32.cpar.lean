/-! the class's parser: what its cells show while a line is taken apart -/
def tn : Nat → Int32 → Int32
  | 0, v => v
  | j + 1, v => tn j (v * 10)
def th (v : Int32) (k : Nat) : Int32 := tn (3 - k) v
def cOp (x : SOp) : Int32 × Int32 := (iN x.1, if x.1 = 0 then th x.2.1 x.2.2 else x.2.1)
theorem kdL {L : Nat} (h : 100 ≤ L) (h2 : L < 125) : kd L = 3 := by
  unfold kd
  rw [if_neg (by omega), if_neg (by omega), if_pos (by omega)]
theorem kdL30 {L : Nat} (h : 100 ≤ L) (h2 : L < 125) : kd (L + 30) = 51 ∧ al (L + 30) = 6 := by
  unfold kd al
  rw [if_neg (by omega), if_neg (by omega), if_neg (by omega), if_neg (by omega), if_pos (by omega), if_neg (by omega), if_neg (by omega), if_pos (by omega)]
  exact ⟨rfl, rfl⟩
theorem kdL60 {L : Nat} (h : 100 ≤ L) (h2 : L < 125) : kd (L + 60) = 51 ∧ al (L + 60) = 60 := by
  unfold kd al
  rw [if_neg (by omega), if_neg (by omega), if_neg (by omega), if_neg (by omega), if_neg (by omega), if_neg (by omega), if_pos (by omega), if_neg (by omega), if_neg (by omega), if_neg (by omega), if_pos (by omega)]
  exact ⟨rfl, rfl⟩
theorem kdL90 {L : Nat} (h : 100 ≤ L) (h2 : L < 125) : kd (L + 90) = 51 ∧ al (L + 90) = 60 := by
  unfold kd al
  rw [if_neg (by omega), if_neg (by omega), if_neg (by omega), if_neg (by omega), if_neg (by omega), if_neg (by omega), if_neg (by omega), if_neg (by omega), if_pos (by omega), if_neg (by omega), if_neg (by omega), if_neg (by omega), if_pos (by omega)]
  exact ⟨rfl, rfl⟩
theorem kdL120 {L : Nat} (h : 100 ≤ L) (h2 : L < 125) : kd (L + 120) = 51 ∧ al (L + 120) = 3 := by
  unfold kd al
  rw [if_neg (by omega), if_neg (by omega), if_neg (by omega), if_neg (by omega), if_neg (by omega), if_neg (by omega), if_neg (by omega), if_neg (by omega), if_neg (by omega), if_neg (by omega), if_pos (by omega), if_neg (by omega), if_neg (by omega), if_neg (by omega), if_neg (by omega), if_pos (by omega)]
  exact ⟨rfl, rfl⟩
/-- what the parser may change: its own numbers, its text, the line at L -/
def FrC (A0 : Mem) (L : Nat) (A : Mem) : Prop := gD A = gD A0 ∧ gL A = gL A0 ∧ (∀ o k, ¬ (o = L ∧ (k = 2 ∨ k = 7)) → gR A o k = gR A0 o k) ∧ ∀ o, o ≠ 3 → o ≠ 4 → o ≠ L → o ≠ L + 30 → o ≠ L + 60 → o ≠ L + 90 → o ≠ L + 120 → gI A o = gI A0 o
/-- the references of the parser and of the line at L -/
def WP (A : Mem) (L : Nat) : Prop := 100 ≤ L ∧ L < 125 ∧ gR A 3 0 = L ∧ gR A 3 2 = 4 ∧ gR A L 8 = L + 30 ∧ gR A L 10 = L + 60 ∧ gR A L 11 = L + 90 ∧ gR A L 13 = L + 120
/-- the parser at place p with op brackets open, over the characters T of length n; s and q: the line's numbers and references; ops, nu, en: its operations, numbers and ends; sl: how many places are to spare -/
def VP (A0 : Mem) (T : Nat → Int32) (n L : Nat) (sl p op : Nat) (s : Nat → Int32) (q : Nat → Nat) (ops : List (Int32 × Int32)) (nu : List Int32) (en : List Int32) (A : Mem) : Prop :=
  (FrC A0 L A ∧ WP A L) ∧
  (n ≤ 60 ∧ p ≤ n ∧ (∀ k, k < n → gI A 4 k = T k) ∧ gI A 3 1 = iN p ∧ gI A 3 3 = iN n ∧ gI A 3 4 = iN op ∧ op ≤ 6) ∧
  ((∀ k, k ≠ 9 → k ≠ 12 → k ≠ 14 → gI A L k = s k) ∧ gR A L 2 = q 2 ∧ gR A L 7 = q 7) ∧
  (gI A L 9 = iN nu.length ∧ nu.length ≤ 6 ∧ lsI (gI A (L + 30)) nu) ∧
  (gI A L 12 = iN ops.length ∧ ops.length + sl ≤ p ∧ lsI (fun k => (gI A (L + 60) k, gI A (L + 90) k)) ops) ∧
  (gI A L 14 = iN en.length ∧ en.length ≤ 3 ∧ lsI (gI A (L + 120)) en)
/-- the parser behind a failure at place q -/
def VF (A0 : Mem) (L q : Nat) (A : Mem) : Prop := FrC A0 L A ∧ WP A L ∧ gI A 3 1 = iN q ∧ ∃ e, e ≤ 3 ∧ gI A L 14 = iN e
section VPs
variable {A0 : Mem} {T : Nat → Int32} {n L sl p op : Nat} {s : Nat → Int32} {q : Nat → Nat} {ops : List (Int32 × Int32)} {nu en : List Int32} {A : Mem}
theorem FrC_I {o k : Nat} {v : Int32} (h : FrC A0 L A) (ho : o = 3 ∨ o = 4 ∨ o = L ∨ o = L + 30 ∨ o = L + 60 ∨ o = L + 90 ∨ o = L + 120) : FrC A0 L (sI A o k v) :=
  ⟨h.1, h.2.1, h.2.2.1, fun a h1 h2 h3 h4 h5 h6 h7 => (gI_row (by omega)).trans (h.2.2.2 a h1 h2 h3 h4 h5 h6 h7)⟩
theorem FrC_R {k v : Nat} (h : FrC A0 L A) (hk : k = 2 ∨ k = 7) : FrC A0 L (sR A L k v) :=
  ⟨h.1, h.2.1, fun a b hab => (gR_ne (by omega)).trans (h.2.2.1 a b hab), h.2.2.2⟩
theorem VP_F (h : VP A0 T n L sl p op s q ops nu en A) : VF A0 L p A := ⟨h.1.1, h.1.2, h.2.1.2.2.2.1, en.length, h.2.2.2.2.2.2.1, h.2.2.2.2.2.1⟩
theorem VP_sl {sl' : Nat} (h : VP A0 T n L sl p op s q ops nu en A) (h2 : sl' ≤ sl) : VP A0 T n L sl' p op s q ops nu en A :=
  ⟨h.1, h.2.1, h.2.2.1, h.2.2.2.1, ⟨h.2.2.2.2.1.1, by have := h.2.2.2.2.1.2.1; omega, h.2.2.2.2.1.2.2⟩, h.2.2.2.2.2⟩
theorem VP_p {sl' p' : Nat} (h : VP A0 T n L sl p op s q ops nu en A) (h1 : p' ≤ n) (h2 : ops.length + sl' ≤ p') : VP A0 T n L sl' p' op s q ops nu en (sI A 3 1 (iN p')) := by
  obtain ⟨⟨hF, hW⟩, ⟨hn, hp, hT, h31, h33, h34, hop⟩, hs, hN, hO, hE⟩ := h
  have hL := hW.1
  have e : ∀ a, a ≠ 3 → gI (sI A 3 1 (iN p')) a = gI A a := fun a ha => gI_row ha
  refine ⟨⟨FrC_I hF (Or.inl rfl), hW⟩, ⟨hn, h1, fun k hk => ?_, gI_eq, ?_, ?_, hop⟩, ?_, ?_, ?_, ?_⟩
  · rw [e 4 (by omega)]; exact hT k hk
  · rw [gI_ne (by omega)]; exact h33
  · rw [gI_ne (by omega)]; exact h34
  · rw [e L (by omega)]; exact hs
  · rw [e L (by omega), e (L + 30) (by omega)]; exact hN
  · rw [e L (by omega), e (L + 60) (by omega), e (L + 90) (by omega)]; exact ⟨hO.1, h2, hO.2.2⟩
  · rw [e L (by omega), e (L + 120) (by omega)]; exact hE
theorem VP_op {op' : Nat} (h : VP A0 T n L sl p op s q ops nu en A) (h1 : op' ≤ 6) : VP A0 T n L sl p op' s q ops nu en (sI A 3 4 (iN op')) := by
  obtain ⟨⟨hF, hW⟩, ⟨hn, hp, hT, h31, h33, h34, hop⟩, hs, hN, hO, hE⟩ := h
  have hL := hW.1
  have e : ∀ a, a ≠ 3 → gI (sI A 3 4 (iN op')) a = gI A a := fun a ha => gI_row ha
  refine ⟨⟨FrC_I hF (Or.inl rfl), hW⟩, ⟨hn, hp, fun k hk => ?_, ?_, ?_, gI_eq, h1⟩, ?_, ?_, ?_, ?_⟩
  · rw [e 4 (by omega)]; exact hT k hk
  · rw [gI_ne (by omega)]; exact h31
  · rw [gI_ne (by omega)]; exact h33
  · rw [e L (by omega)]; exact hs
  · rw [e L (by omega), e (L + 30) (by omega)]; exact hN
  · rw [e L (by omega), e (L + 60) (by omega), e (L + 90) (by omega)]; exact hO
  · rw [e L (by omega), e (L + 120) (by omega)]; exact hE
theorem VP_v {v : Int32} (h : VP A0 T n L sl p op s q ops nu en A) : VP A0 T n L sl p op s q ops nu en (sI A 3 5 v) := by
  obtain ⟨⟨hF, hW⟩, ⟨hn, hp, hT, h31, h33, h34, hop⟩, hs, hN, hO, hE⟩ := h
  have hL := hW.1
  have e : ∀ a, a ≠ 3 → gI (sI A 3 5 v) a = gI A a := fun a ha => gI_row ha
  refine ⟨⟨FrC_I hF (Or.inl rfl), hW⟩, ⟨hn, hp, fun k hk => ?_, ?_, ?_, ?_, hop⟩, ?_, ?_, ?_, ?_⟩
  · rw [e 4 (by omega)]; exact hT k hk
  · rw [gI_ne (by omega)]; exact h31
  · rw [gI_ne (by omega)]; exact h33
  · rw [gI_ne (by omega)]; exact h34
  · rw [e L (by omega)]; exact hs
  · rw [e L (by omega), e (L + 30) (by omega)]; exact hN
  · rw [e L (by omega), e (L + 60) (by omega), e (L + 90) (by omega)]; exact hO
  · rw [e L (by omega), e (L + 120) (by omega)]; exact hE
theorem VP_s {k : Nat} {v : Int32} (h : VP A0 T n L sl p op s q ops nu en A) (h9 : k ≠ 9) (h12 : k ≠ 12) (h14 : k ≠ 14) : VP A0 T n L sl p op (us s k v) q ops nu en (sI A L k v) := by
  obtain ⟨⟨hF, hW⟩, ⟨hn, hp, hT, h31, h33, h34, hop⟩, hs, hN, hO, hE⟩ := h
  have hL := hW.1
  have e : ∀ a, a ≠ L → gI (sI A L k v) a = gI A a := fun a ha => gI_row ha
  refine ⟨⟨FrC_I hF (by omega), hW⟩, ⟨hn, hp, fun k hk => ?_, ?_, ?_, ?_, hop⟩, ⟨fun j h1 h2 h3 => ?_, hs.2⟩, ⟨?_, hN.2.1, ?_⟩, ⟨?_, hO.2.1, ?_⟩, ⟨?_, hE.2.1, ?_⟩⟩
  · rw [e 4 (by omega)]; exact hT k hk
  · rw [e 3 (by omega)]; exact h31
  · rw [e 3 (by omega)]; exact h33
  · rw [e 3 (by omega)]; exact h34
  · by_cases hj : j = k
    · subst hj
      rw [gI_eq, us_eq]
    · rw [gI_ne (Or.inr hj), us_ne hj]
      exact hs.1 j h1 h2 h3
  · rw [gI_ne (by omega)]; exact hN.1
  · rw [e (L + 30) (by omega)]; exact hN.2.2
  · rw [gI_ne (by omega)]; exact hO.1
  · rw [e (L + 60) (by omega), e (L + 90) (by omega)]; exact hO.2.2
  · rw [gI_ne (by omega)]; exact hE.1
  · rw [e (L + 120) (by omega)]; exact hE.2.2
theorem VP_q {k v : Nat} (h : VP A0 T n L sl p op s q ops nu en A) (hk : k = 2 ∨ k = 7) : VP A0 T n L sl p op s (us q k v) ops nu en (sR A L k v) := by
  obtain ⟨⟨hF, hW⟩, hP, hs, hN, hO, hE⟩ := h
  have hL := hW.1
  refine ⟨⟨FrC_R hF hk, hW.1, hW.2.1, ?_, ?_, ?_, ?_, ?_, ?_⟩, hP, ⟨hs.1, ?_, ?_⟩, hN, hO, hE⟩
  · rw [gR_ne (by omega)]; exact hW.2.2.1
  · rw [gR_ne (by omega)]; exact hW.2.2.2.1
  · rw [gR_ne (by omega)]; exact hW.2.2.2.2.1
  · rw [gR_ne (by omega)]; exact hW.2.2.2.2.2.1
  · rw [gR_ne (by omega)]; exact hW.2.2.2.2.2.2.1
  · rw [gR_ne (by omega)]; exact hW.2.2.2.2.2.2.2
  · rcases hk with rfl | rfl
    · rw [gR_eq, us_eq]
    · rw [gR_ne (by omega), us_ne (by omega)]; exact hs.2.1
  · rcases hk with rfl | rfl
    · rw [gR_ne (by omega), us_ne (by omega)]; exact hs.2.2
    · rw [gR_eq, us_eq]
theorem x_addOp {a b : Int32} {K : Mem → Prop} (h : VP A0 T n L (sl + 1) p op s q ops nu en A) (k : ∀ A', VP A0 T n L sl p op s q (ops ++ [(a, b)]) nu en A' → K A') : wp_Li_addOperation L a b A K := by
  obtain ⟨⟨hF, hW⟩, ⟨hn, hp, hT, h31, h33, h34, hop⟩, hs, hN, hO, hE⟩ := h
  obtain ⟨hL, hL2, w30, w32, w8, w10, w11, w13⟩ := hW
  have k60 := kdL60 hL hL2
  have k90 := kdL90 hL hL2
  have hlt : ops.length < 60 := by have := hO.2.1; omega
  unfold wp_Li_addOperation
  rw [w10, k60.1, k60.2, hO.1, iN_cl (by omega), show Int32.ofNat 60 = iN 60 from rfl, iN_le (by omega) (by omega)]
  refine ⟨kdL hL hL2, rfl, fun h1 => by omega, fun _ => ⟨iN_in hlt (by omega), ?_⟩⟩
  rw [gR_sI, w11, k90.1, k90.2, gI_ne (by omega), hO.1, iN_cl (by omega)]
  refine ⟨rfl, iN_in hlt (by omega), fun A6 hA6 => k _ ?_⟩
  subst hA6
  have e : ∀ a', a' ≠ L → a' ≠ L + 60 → a' ≠ L + 90 → ∀ v, gI (sI (sI (sI A (L + 60) ops.length a) (L + 90) ops.length b) L 12 v) a' = gI A a' := fun a' h1 h2 h3 v => by
    rw [gI_row h1, gI_row h3, gI_row h2]
  have eL : ∀ j, j ≠ 12 → ∀ v, gI (sI (sI (sI A (L + 60) ops.length a) (L + 90) ops.length b) L 12 v) L j = gI A L j := fun j h1 v => by
    rw [gI_ne (Or.inr h1), gI_row (by omega), gI_row (by omega)]
  refine ⟨⟨FrC_I (FrC_I (FrC_I hF (by omega)) (by omega)) (by omega), hL, hL2, w30, w32, w8, w10, w11, w13⟩, ⟨hn, hp, fun k hk => ?_, ?_, ?_, ?_, hop⟩, ⟨fun j h1 h2 h3 => ?_, hs.2⟩, ⟨?_, hN.2.1, ?_⟩, ⟨?_, ?_, ?_⟩, ⟨?_, hE.2.1, ?_⟩⟩
  · rw [e 4 (by omega) (by omega) (by omega)]; exact hT k hk
  · rw [e 3 (by omega) (by omega) (by omega)]; exact h31
  · rw [e 3 (by omega) (by omega) (by omega)]; exact h33
  · rw [e 3 (by omega) (by omega) (by omega)]; exact h34
  · rw [eL j h2]; exact hs.1 j h1 h2 h3
  · rw [eL 9 (by omega)]; exact hN.1
  · rw [e (L + 30) (by omega) (by omega) (by omega)]; exact hN.2.2
  · rw [gI_eq, gI_ne (by omega), gI_ne (by omega), hO.1, iN_1]
    simp
  · have := hO.2.1
    simp
    omega
  · refine lsI_push hO.2.2 (fun j hj => ?_) ?_
    · rw [gI_row (show L + 60 ≠ L by omega), gI_row (show L + 90 ≠ L by omega), gI_row (show L + 60 ≠ L + 90 by omega), gI_ne (by omega), gI_ne (by omega), gI_ne (by omega)]
    · rw [gI_row (show L + 60 ≠ L by omega), gI_row (show L + 90 ≠ L by omega), gI_row (show L + 60 ≠ L + 90 by omega), gI_eq, gI_eq]
  · rw [eL 14 (by omega)]; exact hE.1
  · rw [e (L + 120) (by omega) (by omega) (by omega)]; exact hE.2.2
theorem x_addNum {v : Int32} {K : Mem → Prop} (h : VP A0 T n L sl p op s q ops nu en A) (h6 : nu.length < 6) (k : ∀ A', VP A0 T n L sl p op s q ops (nu ++ [v]) en A' → gI A' 3 = gI A 3 → K A') : wp_Li_addNumber L v A K := by
  obtain ⟨⟨hF, hW⟩, ⟨hn, hp, hT, h31, h33, h34, hop⟩, hs, hN, hO, hE⟩ := h
  obtain ⟨hL, hL2, w30, w32, w8, w10, w11, w13⟩ := hW
  have k30 := kdL30 hL hL2
  unfold wp_Li_addNumber
  rw [w8, k30.1, k30.2, hN.1, iN_cl (by omega), show Int32.ofNat 6 = iN 6 from rfl, iN_le (by omega) (by omega)]
  refine ⟨kdL hL hL2, rfl, fun h1 => by omega, fun _ => ⟨iN_in h6 (by omega), fun A4 hA4 => k _ ?_ ?_⟩⟩
  · subst hA4
    have e : ∀ a', a' ≠ L → a' ≠ L + 30 → ∀ w, gI (sI (sI A (L + 30) nu.length v) L 9 w) a' = gI A a' := fun a' h1 h2 w => by
      rw [gI_row h1, gI_row h2]
    have eL : ∀ j, j ≠ 9 → ∀ w, gI (sI (sI A (L + 30) nu.length v) L 9 w) L j = gI A L j := fun j h1 w => by
      rw [gI_ne (Or.inr h1), gI_row (by omega)]
    refine ⟨⟨FrC_I (FrC_I hF (by omega)) (by omega), hL, hL2, w30, w32, w8, w10, w11, w13⟩, ⟨hn, hp, fun k hk => ?_, ?_, ?_, ?_, hop⟩, ⟨fun j h1 h2 h3 => ?_, hs.2⟩, ⟨?_, ?_, ?_⟩, ⟨?_, hO.2.1, ?_⟩, ⟨?_, hE.2.1, ?_⟩⟩
    · rw [e 4 (by omega) (by omega)]; exact hT k hk
    · rw [e 3 (by omega) (by omega)]; exact h31
    · rw [e 3 (by omega) (by omega)]; exact h33
    · rw [e 3 (by omega) (by omega)]; exact h34
    · rw [eL j h1]; exact hs.1 j h1 h2 h3
    · rw [gI_eq, gI_ne (by omega), hN.1, iN_1]
      simp
    · simp; omega
    · refine lsI_push hN.2.2 (fun j hj => ?_) ?_
      · rw [gI_row (show L + 30 ≠ L by omega), gI_ne (by omega)]
      · rw [gI_row (show L + 30 ≠ L by omega), gI_eq]
    · rw [eL 12 (by omega)]; exact hO.1
    · rw [e (L + 60) (by omega) (by omega), e (L + 90) (by omega) (by omega)]; exact hO.2.2
    · rw [eL 14 (by omega)]; exact hE.1
    · rw [e (L + 120) (by omega) (by omega)]; exact hE.2.2
  · subst hA4
    rw [gI_row (by omega), gI_row (by omega)]
theorem x_endExpr {K : Mem → Prop} (h : VP A0 T n L sl p op s q ops nu en A) (h3 : en.length < 3) (k : ∀ A', VP A0 T n L sl p op s q ops nu (en ++ [iN ops.length]) A' → K A') : wp_Li_endExpression L A K := by
  obtain ⟨⟨hF, hW⟩, ⟨hn, hp, hT, h31, h33, h34, hop⟩, hs, hN, hO, hE⟩ := h
  obtain ⟨hL, hL2, w30, w32, w8, w10, w11, w13⟩ := hW
  have k12 := kdL120 hL hL2
  unfold wp_Li_endExpression
  rw [w13, k12.1, k12.2, hE.1, iN_cl (by omega), show Int32.ofNat 3 = iN 3 from rfl, iN_le (by omega) (by omega)]
  refine ⟨kdL hL hL2, rfl, fun h1 => by omega, fun _ => ⟨iN_in h3 (by omega), fun A4 hA4 => k _ ?_⟩⟩
  subst hA4
  have e : ∀ a', a' ≠ L → a' ≠ L + 120 → ∀ v w, gI (sI (sI A (L + 120) en.length v) L 14 w) a' = gI A a' := fun a' h1 h2 v w => by
    rw [gI_row h1, gI_row h2]
  have eL : ∀ j, j ≠ 14 → ∀ v w, gI (sI (sI A (L + 120) en.length v) L 14 w) L j = gI A L j := fun j h1 v w => by
    rw [gI_ne (Or.inr h1), gI_row (by omega)]
  refine ⟨⟨FrC_I (FrC_I hF (by omega)) (by omega), hL, hL2, w30, w32, w8, w10, w11, w13⟩, ⟨hn, hp, fun k hk => ?_, ?_, ?_, ?_, hop⟩, ⟨fun j h1 h2 h3 => ?_, hs.2⟩, ⟨?_, hN.2.1, ?_⟩, ⟨?_, hO.2.1, ?_⟩, ⟨?_, ?_, ?_⟩⟩
  · rw [e 4 (by omega) (by omega)]; exact hT k hk
  · rw [e 3 (by omega) (by omega)]; exact h31
  · rw [e 3 (by omega) (by omega)]; exact h33
  · rw [e 3 (by omega) (by omega)]; exact h34
  · rw [eL j h3]; exact hs.1 j h1 h2 h3
  · rw [eL 9 (by omega)]; exact hN.1
  · rw [e (L + 30) (by omega) (by omega)]; exact hN.2.2
  · rw [eL 12 (by omega)]; exact hO.1
  · rw [e (L + 60) (by omega) (by omega), e (L + 90) (by omega) (by omega)]; exact hO.2.2
  · rw [gI_eq, gI_ne (by omega), hE.1, iN_1]
    simp
  · simp; omega
  · refine lsI_push hE.2.2 (fun j hj => ?_) ?_
    · rw [gI_row (show L + 120 ≠ L by omega), gI_ne (by omega)]
    · rw [gI_row (show L + 120 ≠ L by omega), gI_eq, hO.1]
end VPs
