/-! the reference's parser: what its cells show; its small methods -/
/-- the references of the reference -/
def MW (A : Mem) : Prop := (∀ j, 8 ≤ j → j ≤ 15 → gR A 250 j = 243 + j) ∧ ∀ j, 28 ≤ j → j ≤ 44 → gR A 250 j = 231 + j
/-- the memory at the start of a parse -/
def MB0 (A0 : Mem) (T : Nat → Int32) (n : Nat) : Prop := MW A0 ∧ n ≤ 60 ∧ gI A0 250 2 = iN n ∧ (∀ k, k < n → gI A0 252 k = T k ∧ 0 ≤ T k)
/-- what the reference's parser may change -/
def FrM (A0 A : Mem) : Prop := gD A = gD A0 ∧ gL A = gL A0 ∧ gR A = gR A0 ∧ ∀ o k, ¬ (o = 250 ∧ 4 ≤ k ∧ k ≤ 7) → ¬ (o = 255 ∧ 192 ≤ k) → ¬ (o = 256 ∧ 96 ≤ k) → ¬ (o = 257 ∧ 3840 ≤ k) → o ≠ 258 → gI A o k = gI A0 o k
/-- brackets that are open, codes, arguments, expressions' starts -/
abbrev MT := Nat × List Int32 × (Nat → Int32) × (Nat → Int32)
/-- a good state, at place p -/
def MG (A0 : Mem) (n lo : Nat) (wt : Nat → Int32) (p : Nat) (x : MT) (A : Mem) : Prop :=
  FrM A0 A ∧ p ≤ n ∧ lo ≤ p ∧ gI A 250 4 = iN p ∧ gI A 250 5 = iN x.1 ∧ x.1 ≤ 6 ∧ gI A 250 6 = iN x.2.1.length ∧ gI A 250 7 = 0 ∧ lsI (fun j => gI A 257 (3840 + j)) x.2.1 ∧ (∀ k, k < 8 → gI A 255 (192 + k) = x.2.2.1 k) ∧ (∀ k, k < 4 → gI A 256 (96 + k) = x.2.2.2 k) ∧ gI A 258 = wt
/-- a bad state, at place q, of at most b codes -/
def MBd (A0 : Mem) (n q b : Nat) (A : Mem) : Prop := FrM A0 A ∧ q ≤ n ∧ gI A 250 4 = iN q ∧ gI A 250 7 = 1 ∧ ∃ c, c ≤ b ∧ gI A 250 6 = iN c
theorem MBd_mono {A0 : Mem} {n q b b' : Nat} {A : Mem} (h : MBd A0 n q b A) (hb : b ≤ b') : MBd A0 n q b' A := ⟨h.1, h.2.1, h.2.2.1, h.2.2.2.1, h.2.2.2.2.choose, by have := h.2.2.2.2.choose_spec.1; omega, h.2.2.2.2.choose_spec.2⟩
section YA
variable {A0 : Mem} {T : Nat → Int32} {wt : Nat → Int32} {n lo p : Nat} {x : MT} {A : Mem}
theorem FrM_I {o k : Nat} {v : Int32} (h : FrM A0 A) (ho : (o = 250 ∧ 4 ≤ k ∧ k ≤ 7) ∨ (o = 255 ∧ 192 ≤ k) ∨ (o = 256 ∧ 96 ≤ k) ∨ (o = 257 ∧ 3840 ≤ k) ∨ o = 258) : FrM A0 (sI A o k v) :=
  ⟨h.1, h.2.1, h.2.2.1, fun a b h1 h2 h3 h4 h5 => (gI_ne (by omega)).trans (h.2.2.2 a b h1 h2 h3 h4 h5)⟩
theorem FrM_n (hB : MB0 A0 T n) (h : FrM A0 A) : gI A 250 2 = iN n ∧ gR A 250 9 = 252 ∧ (∀ k, k < n → gI A 252 k = T k) ∧ MW A := by
  refine ⟨?_, ?_, fun k hk => ?_, ?_⟩
  · rw [h.2.2.2 250 2 (by omega) (by omega) (by omega) (by omega) (by omega)]; exact hB.2.2.1
  · rw [h.2.2.1]; exact hB.1.1 9 (by omega) (by omega)
  · rw [h.2.2.2 252 k (by omega) (by omega) (by omega) (by omega) (by omega)]; exact (hB.2.2.2 k hk).1
  · unfold MW; rw [h.2.2.1]; exact hB.1
/-- look's answer: 0 behind the end -/
def lk0 (T : Nat → Int32) (n p : Nat) : Int32 := if p < n then T p else 0
theorem lk_eq {c : Int32} (hB : MB0 A0 T n) (h0 : 0 < c) : (lk0 T n p = c) = (chr T n p = c) := by
  have := hB
  unfold lk0 chr
  split
  · rfl
  · refine propext ⟨fun h => ?_, fun h => ?_⟩
    · rw [← h] at h0; exact absurd h0 (by decide)
    · rw [← h] at h0; exact absurd h0 (by decide)
theorem lk_isD : isD (lk0 T n p) = isD (chr T n p) := by unfold lk0 chr; split <;> rfl
theorem lk_isM : isM (lk0 T n p) = isM (chr T n p) := by unfold lk0 chr; split <;> rfl
theorem lk_isV : isV (lk0 T n p) = isV (chr T n p) := by unfold lk0 chr; split <;> rfl
theorem lk_isF : isF (lk0 T n p) = isF (chr T n p) := by unfold lk0 chr; split <;> rfl
theorem lk_chr (h : p < n) : lk0 T n p = chr T n p := by unfold lk0 chr; rw [if_pos h, if_pos h]
theorem lk_nn (hB : MB0 A0 T n) : 0 ≤ lk0 T n p := by
  unfold lk0
  split
  · exact (hB.2.2.2 p ‹_›).2
  · decide
theorem y_look0 {q : Nat} {K : Int32 → Mem → Prop} (hB : MB0 A0 T n) (hF : FrM A0 A) (hq : q ≤ n) (h4 : gI A 250 4 = iN q) (k : K (lk0 T n q) A) : wp_Mo_look 250 A K := by
  obtain ⟨h2, h9, hT, -⟩ := FrM_n hB hF
  have hn := hB.2.1
  unfold wp_Mo_look
  unfold lk0 at k
  rw [h2, h4, h9, iN_le (by omega) (by omega)]
  refine ⟨rfl, fun h => ?_, fun h => ⟨rfl, iN_in (m := 60) (by omega) (by omega), ?_⟩⟩
  · rw [if_neg (by omega)] at k; exact k
  · rw [if_pos (by omega)] at k
    rw [iN_cl (by omega), hT q (by omega)]; exact k
theorem y_look {K : Int32 → Mem → Prop} (hB : MB0 A0 T n) (h : MG A0 n lo wt p x A) (k : K (lk0 T n p) A) : wp_Mo_look 250 A K := y_look0 hB h.1 h.2.1 h.2.2.2.1 k
theorem y_lookB {q b : Nat} {K : Int32 → Mem → Prop} (hB : MB0 A0 T n) (h : MBd A0 n q b A) (k : ∀ r, K r A) : wp_Mo_look 250 A K := y_look0 hB h.1 h.2.1 h.2.2.1 (k _)
theorem y_lookAt {d : Nat} {K : Int32 → Mem → Prop} (hB : MB0 A0 T n) (h : MG A0 n lo wt p x A) (hd : d < 100) (k : K (lk0 T n (p + d)) A) : wp_Mo_lookAt 250 (iN d) A K := by
  obtain ⟨h2, h9, hT, -⟩ := FrM_n hB h.1
  have hn := hB.2.1
  have hp := h.2.1
  unfold wp_Mo_lookAt
  unfold lk0 at k
  rw [h2, h.2.2.2.1, h9, iN_add, iN_le (by omega) (by omega)]
  refine ⟨rfl, fun h => ?_, fun h => ⟨rfl, iN_in (m := 60) (by omega) (by omega), ?_⟩⟩
  · rw [if_neg (by omega)] at k; exact k
  · rw [if_pos (by omega)] at k
    rw [iN_cl (by omega), hT _ (by omega)]; exact k
theorem y_isD {K : Bool → Mem → Prop} (hB : MB0 A0 T n) (h : MG A0 n lo wt p x A) (k : K (isD (chr T n p)) A) : wp_Mo_isDigit 250 A K := by
  refine ⟨rfl, y_look hB h ?_⟩
  rw [← lk_isD] at k
  unfold isD at k
  simp only [i32_lt, Decidable.not_not]
  refine ⟨fun h1 => ?_, fun h1 => y_look hB h ⟨fun h2 => ?_, fun h2 => ?_⟩⟩
  · simpa [h1] using k
  · simpa [h1, h2] using k
  · simpa [h1, h2] using k
theorem y_isM {c : Int32} {K : Bool → Mem → Prop} (k : K (isM c) A) : wp_Mo_isMatrix 250 c A K := x_isMatrix k
theorem MG_4 {p' lo' : Nat} (h : MG A0 n lo wt p x A) (h1 : p' ≤ n) (h2 : lo' ≤ p') : MG A0 n lo' wt p' x (sI A 250 4 (iN p')) := by
  obtain ⟨hF, hp, hlo, h4, h5, h5', h6, h7, h57, hag, hex, hwt⟩ := h
  have e : ∀ a, a ≠ 250 → gI (sI A 250 4 (iN p')) a = gI A a := fun a ha => gI_row ha
  refine ⟨FrM_I hF (by omega), h1, h2, gI_eq, ?_, h5', ?_, ?_, ?_, ?_, ?_, ?_⟩
  · rw [gI_ne (by omega)]; exact h5
  · rw [gI_ne (by omega)]; exact h6
  · rw [gI_ne (by omega)]; exact h7
  · rw [e 257 (by omega)]; exact h57
  · rw [e 255 (by omega)]; exact hag
  · rw [e 256 (by omega)]; exact hex
  · rw [e 258 (by omega)]; exact hwt
theorem MG_5 {o : Nat} (h : MG A0 n lo wt p x A) (h1 : o ≤ 6) : MG A0 n lo wt p (o, x.2) (sI A 250 5 (iN o)) := by
  obtain ⟨hF, hp, hlo, h4, h5, h5', h6, h7, h57, hag, hex, hwt⟩ := h
  have e : ∀ a, a ≠ 250 → gI (sI A 250 5 (iN o)) a = gI A a := fun a ha => gI_row ha
  refine ⟨FrM_I hF (by omega), hp, hlo, ?_, gI_eq, h1, ?_, ?_, ?_, ?_, ?_, ?_⟩
  · rw [gI_ne (by omega)]; exact h4
  · rw [gI_ne (by omega)]; exact h6
  · rw [gI_ne (by omega)]; exact h7
  · rw [e 257 (by omega)]; exact h57
  · rw [e 255 (by omega)]; exact hag
  · rw [e 256 (by omega)]; exact hex
  · rw [e 258 (by omega)]; exact hwt
theorem MG_on (h : MG A0 n lo wt p x A) (h1 : p < n) : MG A0 n lo wt (p + 1) x (sI A 250 4 (gI A 250 4 + 1)) := by
  rw [h.2.2.2.1, iN_1]
  exact MG_4 h (by omega) (by have := h.2.2.1; omega)
/-- the state goes bad here -/
theorem MG_bad {b : Nat} (h : MG A0 n lo wt p x A) (hb : x.2.1.length ≤ b) : MBd A0 n p b (sI A 250 7 1) :=
  ⟨FrM_I h.1 (by omega), h.2.1, by rw [gI_ne (by omega)]; exact h.2.2.2.1, gI_eq, x.2.1.length, hb, by rw [gI_ne (by omega)]; exact h.2.2.2.2.2.2.1⟩
theorem MBd_7 {q b : Nat} (h : MBd A0 n q b A) : MBd A0 n q b (sI A 250 7 1) :=
  ⟨FrM_I h.1 (by omega), h.2.1, by rw [gI_ne (by omega)]; exact h.2.2.1, gI_eq, h.2.2.2.2.choose, h.2.2.2.2.choose_spec.1, by rw [gI_ne (by omega)]; exact h.2.2.2.2.choose_spec.2⟩
theorem MBd_ne {q b : Nat} (h : MBd A0 n q b A) : ¬ gI A 250 7 = 0 := by rw [h.2.2.2.1]; decide
theorem MG_e (h : MG A0 n lo wt p x A) : gI A 250 7 = 0 := h.2.2.2.2.2.2.2.1
theorem y_take {c : Int32} {K : Bool → Mem → Prop} (hB : MB0 A0 T n) (h : MG A0 n lo wt p x A) (h0 : 0 < c) (k1 : chr T n p = c → ∀ A', MG A0 n lo wt (p + 1) x A' → K true A') (k0 : chr T n p ≠ c → K false A) : wp_Mo_take 250 c A K := by
  refine ⟨rfl, fun h7 => absurd (MG_e h) h7, fun _ => y_look hB h ?_⟩
  rw [lk_eq hB h0]
  exact ⟨fun e => k1 e _ (MG_on h (chr_lt0 e (by rintro rfl; exact absurd h0 (by decide)))), k0⟩
theorem y_takeB {c : Int32} {q b : Nat} {K : Bool → Mem → Prop} (h : MBd A0 n q b A) (k0 : K false A) : wp_Mo_take 250 c A K :=
  ⟨rfl, fun _ => k0, fun h7 => absurd h7 (MBd_ne h)⟩
/-- a state, good or bad -/
def MS (A0 : Mem) (n lo : Nat) (wt : Nat → Int32) (w e : Nat) (st : PR MT) (A : Mem) : Prop := match st with
  | .ok (p, x) => MG A0 n lo wt p x A ∧ x.2.1.length ≤ 2 * p + min w 2
  | .error q => MBd A0 n q (130 + e) A
/-- a state with a value -/
def MSV (A0 : Mem) (n lo : Nat) (wt : Nat → Int32) (w e : Nat) (st : PR (Int32 × MT)) (r : Int32) (A : Mem) : Prop := match st with
  | .ok (p, v) => (MG A0 n lo wt p v.2 A ∧ v.2.2.1.length ≤ 2 * p + min w 2) ∧ r = v.1
  | .error q => MBd A0 n q (130 + e) A
end YA
section YB
variable {A0 : Mem} {T : Nat → Int32} {wt : Nat → Int32} {n lo w e : Nat} {st : PR MT} {A : Mem}
theorem MS_up {e' : Nat} (h : MS A0 n lo wt w e st A) (he : e ≤ e') : MS A0 n lo wt w e' st A := by
  cases st with
  | ok x => exact h
  | error q => exact MBd_mono h (by omega)
theorem MSV_up {e' : Nat} {st : PR (Int32 × MT)} {r : Int32} (h : MSV A0 n lo wt w e st r A) (he : e ≤ e') : MSV A0 n lo wt w e' st r A := by
  cases st with
  | ok x => exact h
  | error q => exact MBd_mono h (by omega)
theorem MS_V (v : Int32) (h : MS A0 n lo wt w e st A) : MSV A0 n lo wt w e (bnd st fun p x => .ok (p, (v, x))) v A := by
  cases st with
  | ok x => exact ⟨h, rfl⟩
  | error q => exact h
theorem MSV_f {st : PR (Int32 × MT)} {r : Int32} (f : Int32 → Int32) (h : MSV A0 n lo wt w e st r A) : MSV A0 n lo wt w e (bnd st fun p v => .ok (p, (f v.1, v.2))) (f r) A := by
  cases st with
  | ok x => exact ⟨h.1, congrArg f h.2⟩
  | error q => exact h
theorem MS_len {p : Nat} {x : MT} (hB : MB0 A0 T n) (h : MG A0 n lo wt p x A) (hl : x.2.1.length ≤ 2 * p + min w 2) : x.2.1.length ≤ 130 + e := by
  have := h.2.1
  have := hB.2.1
  omega
theorem y_need {c : Int32} {K : Mem → Prop} (hB : MB0 A0 T n) (h : MS A0 n lo wt w e st A) (h0 : 0 < c) (k : ∀ A', MS A0 n lo wt 0 e (bnd st fun p x => bnd (pCh T n c p) fun p1 _ => .ok (p1, x)) A' → K A') : wp_Mo_need 250 c A K := by
  cases st with
  | ok x =>
    obtain ⟨p, x⟩ := x
    refine ⟨rfl, y_take hB h.1 h0 (fun hc A1 h1 => ⟨fun _ => k A1 ?_, fun h => by cases h⟩) (fun hc => ⟨fun h => (by cases h), fun _ => k _ ?_⟩)⟩
    · simp only [bnd, pCh_ok hc]
      exact ⟨h1, by have h9 : x.2.1.length ≤ 2 * p + min w 2 := h.2; show x.2.1.length ≤ 2 * (p + 1) + min 0 2; omega⟩
    · simp only [bnd, pCh_no hc]
      exact MG_bad h.1 (MS_len hB h.1 h.2)
  | error q => exact ⟨rfl, y_takeB h ⟨fun h => (by cases h), fun _ => k _ (MBd_7 h)⟩⟩
theorem y_var {K : Int32 → Mem → Prop} (hB : MB0 A0 T n) (h : MS A0 n lo wt w e st A) (k : ∀ r A', MSV A0 n lo wt 0 e (bnd st fun p x => bnd (pVar T n p) fun p1 a => .ok (p1, (a, x))) r A' → K r A') : wp_Mo_variable0 250 A K := by
  cases st with
  | ok x =>
    obtain ⟨p, x⟩ := x
    have bad : isV (lk0 T n p) = false → K 0 (sI A 250 7 1) := fun hv => k _ _ (by
      rw [lk_isV] at hv
      simp only [bnd, pVar, hv, Bool.false_eq_true, if_false]
      exact MG_bad h.1 (MS_len hB h.1 h.2))
    refine ⟨rfl, y_look hB h.1 ⟨fun h7 => absurd (MG_e h.1) h7, fun _ => ?_⟩⟩
    simp only [i32_lt, Decidable.not_not]
    refine ⟨fun h1 => bad ?_, fun h1 => ⟨fun h2 => bad ?_, fun h2 => y_isM ⟨fun h3 => ?_, fun h3 => bad ?_⟩⟩⟩
    · simp [isV, h1]
    · simp [isV, h2]
    · have hv : isV (lk0 T n p) = true := by simp [isV, h1, h2, h3]
      have hv' := hv
      rw [lk_isV] at hv'
      have hp := isV_lt hv'
      refine k _ _ ?_
      simp only [bnd, pVar, hv', if_true]
      exact ⟨⟨MG_on h.1 hp, by have h9 : x.2.1.length ≤ 2 * p + min w 2 := h.2; show x.2.1.length ≤ 2 * (p + 1) + min 0 2; omega⟩, by rw [lk_chr hp]⟩
    · simp [isV, h3]
  | error q => exact ⟨rfl, y_lookB hB h (fun r => ⟨fun _ => k _ _ (MBd_7 h), fun h7 => absurd h7 (MBd_ne h)⟩)⟩
theorem y_mat {K : Int32 → Mem → Prop} (hB : MB0 A0 T n) (h : MS A0 n lo wt w e st A) (k : ∀ r A', MSV A0 n lo wt 0 e (bnd st fun p x => bnd (pMt T n p) fun p1 a => .ok (p1, (a, x))) r A' → K r A') : wp_Mo_matrix 250 A K := by
  cases st with
  | ok x =>
    obtain ⟨p, x⟩ := x
    refine ⟨rfl, y_look hB h.1 ⟨fun h7 => absurd (MG_e h.1) h7, fun _ => y_isM ⟨fun h3 => ?_, fun h3 => ?_⟩⟩⟩
    · rw [lk_isM] at h3
      have hp := isM_lt h3
      refine k _ _ ?_
      simp only [bnd, pMt, h3, if_true]
      exact ⟨⟨MG_on h.1 hp, by have h9 : x.2.1.length ≤ 2 * p + min w 2 := h.2; show x.2.1.length ≤ 2 * (p + 1) + min 0 2; omega⟩, by rw [lk_chr hp]⟩
    · rw [lk_isM] at h3
      refine k _ _ ?_
      simp only [bnd, pMt, h3, Bool.false_eq_true, if_false]
      exact MG_bad h.1 (MS_len hB h.1 h.2)
  | error q => exact ⟨rfl, y_lookB hB h (fun r => ⟨fun _ => k _ _ (MBd_7 h), fun h7 => absurd h7 (MBd_ne h)⟩)⟩
theorem ext_lk (hB : MB0 A0 T n) (p : Nat) : (lk0 T n p < 49) = (chr T n p - 48 < 1) ∧ (¬ chr T n p - 48 < 1 → (lk0 T n p ≤ 54) = (chr T n p - 48 ≤ 6)) := by
  by_cases hp : p < n
  · have h0 := (hB.2.2.2 p hp).2
    have e : chr T n p = T p := by unfold chr; rw [if_pos hp]
    rw [lk_chr hp, e]
    have e2 := iN_of h0
    have hc := Int32.toNatClampNeg_lt (T p)
    generalize (T p).toNatClampNeg = m at *
    rw [e2]
    by_cases h48 : 48 ≤ m
    · rw [show (48 : Int32) = iN 48 from rfl, show (49 : Int32) = iN 49 from rfl, show (1 : Int32) = iN 1 from rfl, show (54 : Int32) = iN 54 from rfl, show (6 : Int32) = iN 6 from rfl, iN_sub h48, iN_lt (by omega) (by omega), iN_lt (by omega) (by omega), iN_le (by omega) (by omega), iN_le (by omega) (by omega)]
      exact ⟨propext (by omega), fun _ => propext (by omega)⟩
    · have : ∀ m, m < 48 → iN m < 49 ∧ iN m - 48 < 1 := by decide +kernel
      have h9 := this m (by omega)
      exact ⟨propext ⟨fun _ => h9.2, fun _ => h9.1⟩, fun h => absurd h9.2 h⟩
  · have e : chr T n p = -1 := by unfold chr; rw [if_neg hp]
    have e2 : lk0 T n p = 0 := by unfold lk0; rw [if_neg hp]
    rw [e, e2]
    exact ⟨propext ⟨fun _ => by decide, fun _ => by decide⟩, fun h => absurd (by decide) h⟩
theorem y_one {K : Int32 → Mem → Prop} (hB : MB0 A0 T n) (h : MS A0 n lo wt w e st A) (k : ∀ r A', MSV A0 n lo wt 0 e (bnd st fun p x => bnd (pExt T n p) fun p1 a => .ok (p1, (a, x))) r A' → K r A') : wp_Mo_oneToSix 250 A K := by
  cases st with
  | ok x =>
    obtain ⟨p, x⟩ := x
    have hx := ext_lk hB p
    refine ⟨rfl, y_look hB h.1 ⟨fun h7 => absurd (MG_e h.1) h7, fun _ => ⟨fun h1 => k _ _ ?_, fun h1 => ⟨fun h2 => k _ _ ?_, fun h2 => k _ _ ?_⟩⟩⟩⟩
    · rw [hx.1] at h1
      simp only [bnd, pExt, h1, if_true]
      exact MG_bad h.1 (MS_len hB h.1 h.2)
    · rw [hx.1] at h1
      rw [hx.2 h1] at h2
      have hp : p < n := by
        by_cases hp : p < n
        · exact hp
        · exact absurd (show chr T n p - 48 < 1 by unfold chr; rw [if_neg hp]; decide) h1
      simp only [bnd, pExt, h1, h2, if_true, if_false]
      exact ⟨⟨MG_on h.1 hp, by have h9 : x.2.1.length ≤ 2 * p + min w 2 := h.2; show x.2.1.length ≤ 2 * (p + 1) + min 0 2; omega⟩, by rw [lk_chr hp]⟩
    · rw [hx.1] at h1
      rw [hx.2 h1] at h2
      simp only [bnd, pExt, h1, h2, if_false]
      exact MG_bad h.1 (MS_len hB h.1 h.2)
  | error q => exact ⟨rfl, y_lookB hB h (fun r => ⟨fun _ => k _ _ (MBd_7 h), fun h7 => absurd h7 (MBd_ne h)⟩)⟩
theorem y_setArg {st : PR (Int32 × MT)} {r : Int32} {j : Nat} {K : Mem → Prop} (hB : MB0 A0 T n) (h : MSV A0 n lo wt w e st r A) (hj : j < 8) (k : ∀ A', MS A0 n lo wt w e (bnd st fun p v => .ok (p, (v.2.1, v.2.2.1, us v.2.2.2.1 j v.1, v.2.2.2.2))) A' → K A') : wp_Mo_setArg 250 (iN j) r A K := by
  have hF : FrM A0 A := by
    cases st with
    | ok x => exact h.1.1.1
    | error q => exact h.1
  have hW := (FrM_n hB hF).2.2.2
  unfold wp_Mo_setArg
  rw [hW.1 12 (by omega) (by omega), show (192 : Int32) = iN 192 from rfl, iN_add, iN_cl (by omega)]
  refine ⟨rfl, rfl, iN_in (m := 200) (by omega) (by omega), k _ ?_⟩
  cases st with
  | ok x =>
    obtain ⟨p, v, x⟩ := x
    obtain ⟨⟨⟨hF, hp, hlo, h4, h5, h5', h6, h7, h57, hag, hex, hwt⟩, hl⟩, rfl⟩ := h
    refine ⟨⟨FrM_I hF (by omega), hp, hlo, ?_, ?_, h5', ?_, ?_, ?_, fun i hi => ?_, fun i hi => ?_, ?_⟩, hl⟩
    · rw [gI_ne (by omega)]; exact h4
    · rw [gI_ne (by omega)]; exact h5
    · rw [gI_ne (by omega)]; exact h6
    · rw [gI_ne (by omega)]; exact h7
    · rw [gI_row (by omega)]; exact h57
    · by_cases hij : i = j
      · subst hij
        exact gI_eq.trans us_eq.symm
      · show _ = us _ j _ i
        rw [us_ne hij, show 243 + 12 = 255 from rfl, gI_ne (by omega)]; exact hag i hi
    · rw [gI_ne (by omega)]; exact hex i hi
    · rw [gI_row (by omega)]; exact hwt
  | error q =>
    obtain ⟨hF, hq, h4, h7, c, hc, h6⟩ := h
    exact ⟨FrM_I hF (by omega), hq, by rw [gI_ne (by omega)]; exact h4, by rw [gI_ne (by omega)]; exact h7, c, hc, by rw [gI_ne (by omega)]; exact h6⟩
theorem y_setExpr {st : PR (Int32 × MT)} {r : Int32} {j : Nat} {K : Mem → Prop} (hB : MB0 A0 T n) (h : MSV A0 n lo wt w e st r A) (hj : j < 4) (k : ∀ A', MS A0 n lo wt w e (bnd st fun p v => .ok (p, (v.2.1, v.2.2.1, v.2.2.2.1, us v.2.2.2.2 j v.1))) A' → K A') : wp_Mo_setExpr 250 (iN j) r A K := by
  have hF : FrM A0 A := by
    cases st with
    | ok x => exact h.1.1.1
    | error q => exact h.1
  have hW := (FrM_n hB hF).2.2.2
  unfold wp_Mo_setExpr
  rw [hW.1 13 (by omega) (by omega), show (96 : Int32) = iN 96 from rfl, iN_add, iN_cl (by omega)]
  refine ⟨rfl, rfl, iN_in (m := 100) (by omega) (by omega), k _ ?_⟩
  cases st with
  | ok x =>
    obtain ⟨p, v, x⟩ := x
    obtain ⟨⟨⟨hF, hp, hlo, h4, h5, h5', h6, h7, h57, hag, hex, hwt⟩, hl⟩, rfl⟩ := h
    refine ⟨⟨FrM_I hF (by omega), hp, hlo, ?_, ?_, h5', ?_, ?_, ?_, fun i hi => ?_, fun i hi => ?_, ?_⟩, hl⟩
    · rw [gI_ne (by omega)]; exact h4
    · rw [gI_ne (by omega)]; exact h5
    · rw [gI_ne (by omega)]; exact h6
    · rw [gI_ne (by omega)]; exact h7
    · rw [gI_row (by omega)]; exact h57
    · rw [gI_ne (by omega)]; exact hag i hi
    · by_cases hij : i = j
      · subst hij
        exact gI_eq.trans us_eq.symm
      · show _ = us _ j _ i
        rw [us_ne hij, show 243 + 13 = 256 from rfl, gI_ne (by omega)]; exact hex i hi
    · rw [gI_row (by omega)]; exact hwt
  | error q =>
    obtain ⟨hF, hq, h4, h7, c, hc, h6⟩ := h
    exact ⟨FrM_I hF (by omega), hq, by rw [gI_ne (by omega)]; exact h4, by rw [gI_ne (by omega)]; exact h7, c, hc, by rw [gI_ne (by omega)]; exact h6⟩
theorem y_bracket {K : Mem → Prop} (hB : MB0 A0 T n) (h : MS A0 n lo wt w e st A) (k : ∀ A', MS A0 n lo wt 0 e (bnd st fun p x => if 6 ≤ x.1 then .error p else bnd (pCh T n 40 p) fun p1 _ => .ok (p1, (x.1 + 1, x.2))) A' → K A') : wp_Mo_bracket 250 A K := by
  cases st with
  | ok x =>
    obtain ⟨p, x⟩ := x
    have h56 := h.1.2.2.2.2.2.1
    unfold wp_Mo_bracket
    rw [h.1.2.2.2.2.1, show (6 : Int32) = iN 6 from rfl, iN_eq (by omega) (by omega)]
    refine ⟨rfl, fun h6 => ⟨rfl, ?_⟩, fun h6 => ⟨rfl, ?_⟩⟩
    · simp only [bnd, if_neg (show ¬ 6 ≤ x.1 by omega)] at k
      refine y_need hB h (by decide) (fun A1 h1 => ?_)
      simp only [bnd] at h1
      by_cases hc : chr T n p = 40
      · simp only [pCh_ok hc] at h1 k
        refine ⟨fun h7 => absurd (MG_e h1.1) h7, fun _ => ?_⟩
        rw [h1.1.2.2.2.2.1, iN_1]
        exact k _ ⟨MG_5 h1.1 (by omega), h1.2⟩
      · simp only [pCh_no hc] at h1 k
        exact ⟨fun _ => k A1 h1, fun h7 => absurd h7 (MBd_ne h1)⟩
    · simp only [bnd, if_pos (show 6 ≤ x.1 by omega)] at k
      have hb : MBd A0 n p (130 + e) (sI A 250 7 1) := MG_bad h.1 (MS_len hB h.1 h.2)
      exact ⟨rfl, y_takeB hb ⟨fun h => (by cases h), fun _ => ⟨fun _ => k _ (MBd_7 hb), fun h7 => absurd h7 (MBd_ne (MBd_7 hb))⟩⟩⟩
  | error q =>
    have go : ∀ A1, MBd A0 n q (130 + e) A1 → wp_Mo_bracket_c14 K 250 A1 := fun A1 h1 =>
      ⟨rfl, ⟨rfl, y_takeB h1 ⟨fun h => (by cases h), fun _ => ⟨fun _ => k _ (MBd_7 h1), fun h7 => absurd h7 (MBd_ne (MBd_7 h1))⟩⟩⟩⟩
    exact ⟨rfl, fun _ => go A h, fun _ => go _ (MBd_7 h)⟩
theorem y_shut {K : Mem → Prop} (hB : MB0 A0 T n) (h : MS A0 n lo wt w e st A) (ho : ∀ p x, st = .ok (p, x) → 1 ≤ x.1) (k : ∀ A', MS A0 n lo wt 0 e (bnd st fun p x => bnd (pCh T n 41 p) fun p1 _ => .ok (p1, (x.1 - 1, x.2))) A' → K A') : wp_Mo_shut 250 A K := by
  refine ⟨rfl, y_need hB h (by decide) (fun A1 h1 => ?_)⟩
  cases st with
  | ok x =>
    obtain ⟨p, x⟩ := x
    have h1o := ho p x rfl
    have h56 := h.1.2.2.2.2.2.1
    simp only [bnd] at h1 k
    by_cases hc : chr T n p = 41
    · simp only [pCh_ok hc] at h1 k
      refine ⟨fun h7 => absurd (MG_e h1.1) h7, fun _ => ?_⟩
      rw [h1.1.2.2.2.2.1, iN_s1 h1o]
      exact k _ ⟨MG_5 h1.1 (by omega), h1.2⟩
    · simp only [pCh_no hc] at h1 k
      exact ⟨fun _ => k A1 h1, fun h7 => absurd h7 (MBd_ne h1)⟩
  | error q => exact ⟨fun _ => k A1 h1, fun h7 => absurd h7 (MBd_ne h1)⟩
end YB
