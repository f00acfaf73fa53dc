/-! the reference's parser: words, line numbers, numerals -/
def mwL : List (List Int32) := [[76, 69, 84], [80, 82, 73, 78, 84], [73, 70], [71, 79, 84, 79], [79, 78], [71, 79, 83, 85, 66], [82, 69, 84, 85, 82, 78], [70, 79, 82], [78, 69, 88, 84], [82, 69, 65, 68], [68, 65, 84, 65], [82, 69, 83, 84, 79, 82, 69], [68, 73, 77], [68, 69, 70], [77, 65, 84], [82, 69, 77], [69, 78, 68], [84, 72, 69, 78], [84, 79], [83, 84, 69, 80], [90, 69, 82], [67, 79, 78], [73, 68, 78], [84, 82, 78], [65, 66, 83], [73, 78, 84], [83, 71, 78], [70, 78]]
def mwV : List Int64 := [4998484, 344977919572, 18758, 1196381263, 20302, 306273539394, 90457721098830, 4607826, 1313167444, 1380270404, 1145132097, 23157172289360453, 4475213, 4474182, 5062996, 5391693, 4542020, 1414022478, 21583, 1398031696, 5915986, 4411214, 4801614, 5526094, 4276819, 4804180, 5457742, 17998]
section YW
variable {A0 : Mem} {T : Nat → Int32} {wt : Nat → Int32} {n lo p e : Nat} {x : MT} {A : Mem}
theorem iN_ne {i j : Nat} (h : ¬ iN i = iN j) : i ≠ j := fun h2 => h (by rw [h2])
theorem y_word {i : Nat} {K : Int64 → Mem → Prop} (hi : i < 28) (k : K (mwV.getD i 0) A) : wp_Mo_word 250 (iN i) A K := by
  have g : ∀ j, j < 28 → iN i = iN j → i = j := fun j hj h => by rwa [iN_eq (by omega) (by omega)] at h
  unfold wp_Mo_word
  refine ⟨fun h => ?_, fun h => ?_, fun h => ?_, fun h => ?_, fun h => ?_, fun h => ?_, fun h => ?_, fun h => ?_, fun h => ?_, fun h => ?_, fun h => ?_, fun h => ?_, fun h => ?_, fun h => ?_, fun h => ?_, fun h => ?_, fun h => ?_, fun h => ?_, fun h => ?_, fun h => ?_, fun h => ?_, fun h => ?_, fun h => ?_, fun h => ?_, fun h => ?_, fun h => ?_, fun h => ?_, fun h0 h1 h2 h3 h4 h5 h6 h7 h8 h9 h10 h11 h12 h13 h14 h15 h16 h17 h18 h19 h20 h21 h22 h23 h24 h25 h26 => ?_⟩
  · obtain rfl := g 0 (by omega) h; exact k
  · obtain rfl := g 1 (by omega) h; exact k
  · obtain rfl := g 2 (by omega) h; exact k
  · obtain rfl := g 3 (by omega) h; exact k
  · obtain rfl := g 4 (by omega) h; exact k
  · obtain rfl := g 5 (by omega) h; exact k
  · obtain rfl := g 6 (by omega) h; exact k
  · obtain rfl := g 7 (by omega) h; exact k
  · obtain rfl := g 8 (by omega) h; exact k
  · obtain rfl := g 9 (by omega) h; exact k
  · obtain rfl := g 10 (by omega) h; exact k
  · obtain rfl := g 11 (by omega) h; exact k
  · obtain rfl := g 12 (by omega) h; exact k
  · obtain rfl := g 13 (by omega) h; exact k
  · obtain rfl := g 14 (by omega) h; exact k
  · obtain rfl := g 15 (by omega) h; exact k
  · obtain rfl := g 16 (by omega) h; exact k
  · obtain rfl := g 17 (by omega) h; exact k
  · obtain rfl := g 18 (by omega) h; exact k
  · obtain rfl := g 19 (by omega) h; exact k
  · obtain rfl := g 20 (by omega) h; exact k
  · obtain rfl := g 21 (by omega) h; exact k
  · obtain rfl := g 22 (by omega) h; exact k
  · obtain rfl := g 23 (by omega) h; exact k
  · obtain rfl := g 24 (by omega) h; exact k
  · obtain rfl := g 25 (by omega) h; exact k
  · obtain rfl := g 26 (by omega) h; exact k
  · have e27 : i = 27 := by
      have n0 := iN_ne (j := 0) h0
      have n1 := iN_ne (j := 1) h1
      have n2 := iN_ne (j := 2) h2
      have n3 := iN_ne (j := 3) h3
      have n4 := iN_ne (j := 4) h4
      have n5 := iN_ne (j := 5) h5
      have n6 := iN_ne (j := 6) h6
      have n7 := iN_ne (j := 7) h7
      have n8 := iN_ne (j := 8) h8
      have n9 := iN_ne (j := 9) h9
      have n10 := iN_ne (j := 10) h10
      have n11 := iN_ne (j := 11) h11
      have n12 := iN_ne (j := 12) h12
      have n13 := iN_ne (j := 13) h13
      have n14 := iN_ne (j := 14) h14
      have n15 := iN_ne (j := 15) h15
      have n16 := iN_ne (j := 16) h16
      have n17 := iN_ne (j := 17) h17
      have n18 := iN_ne (j := 18) h18
      have n19 := iN_ne (j := 19) h19
      have n20 := iN_ne (j := 20) h20
      have n21 := iN_ne (j := 21) h21
      have n22 := iN_ne (j := 22) h22
      have n23 := iN_ne (j := 23) h23
      have n24 := iN_ne (j := 24) h24
      have n25 := iN_ne (j := 25) h25
      have n26 := iN_ne (j := 26) h26
      omega
    subst e27; exact k
def ltF : Nat → Int32 → Int64 → Option Int32
  | 0, _, _ => none
  | n + 1, c, w => if lg_cmp w 0 = 0 then some c else ltF n (c + 1) (w >>> (Int32.toInt64 8 &&& 63))
theorem ltF_ok {K : Int32 → Mem → Prop} {r : Int32} : ∀ (m : Nat) (c : Int32) (w : Int64), ltF m c w = some r → K r A → wp_Mo_letters_c5 K m c w A := by
  intro m
  induction m with
  | zero => intro c w h; cases h
  | succ m ih =>
    intro c w h k
    unfold ltF at h
    unfold wp_Mo_letters_c5
    refine ⟨fun h0 => ?_, fun h0 => ?_⟩
    · rw [if_pos h0] at h
      cases h
      exact k
    · rw [if_neg h0] at h
      exact ih _ _ h k
theorem ltF_all : ∀ i, i < 28 → ltF 10 0 (mwV.getD i 0) = some (iN (mwL.getD i []).length) := by decide +kernel
theorem y_letters {i : Nat} {K : Int32 → Mem → Prop} (hi : i < 28) (k : K (iN (mwL.getD i []).length) A) : wp_Mo_letters 250 (mwV.getD i 0) A K := ⟨10, ltF_ok 10 0 _ (ltF_all i hi) k⟩
theorem mw_ch : ∀ i, i < 28 → ∀ k, k < (mwL.getD i []).length → ((mwV.getD i 0) >>> (Int32.toInt64 (8 * (((iN (mwL.getD i []).length) - 1) - (iN k))) &&& 63)) &&& 255 = Int32.toInt64 ((mwL.getD i []).getD k 0) ∧ 0 < (mwL.getD i []).getD k 0 := by decide +kernel
theorem mw_len : ∀ i, i < 28 → (mwL.getD i []).length < 10 ∧ 0 < (mwL.getD i []).length := by decide +kernel
theorem lg0 {a b : Int64} : (lg_cmp a b = 0) = (a = b) := by
  unfold lg_cmp
  refine propext ⟨fun h => ?_, fun h => ?_⟩
  · split at h
    · exact absurd h (by decide)
    · split at h
      · assumption
      · exact absurd h (by decide)
  · rw [if_neg (by rw [h]; exact fun h2 => absurd h2 (by rw [gt_iff_lt, Int64.lt_iff_toInt_lt]; omega)), if_pos h]
theorem toI64_inj {a b : Int32} : (Int32.toInt64 a = Int32.toInt64 b) = (a = b) := by
  refine propext ⟨fun h => ?_, fun h => by rw [h]⟩
  have h1 := congrArg Int64.toInt h
  rw [Int32.toInt_toInt64, Int32.toInt_toInt64] at h1
  exact Int32.toInt_inj.mp h1
theorem pSh_step : ∀ (w : List Int32) (k p : Nat), k ≤ pSh T n w p → k < w.length → (k < pSh T n w p ↔ chr T n (p + k) = w.getD k 0) := by
  intro w
  induction w with
  | nil => intro k p _ h; simp at h
  | cons c r ih =>
    intro k p h hk
    unfold pSh at h ⊢
    cases k with
    | zero =>
      by_cases hc : chr T n p = c
      · simp [hc]
      · simp [hc]
    | succ k =>
      by_cases hc : chr T n p = c
      · rw [if_pos hc] at h ⊢
        have := ih k (p + 1) (by omega) (by simpa using hk)
        rw [show p + 1 + k = p + (k + 1) by omega] at this
        constructor
        · intro h2
          have := this.mp (by omega)
          simpa using this
        · intro h2
          have := this.mpr (by simpa using h2)
          omega
      · rw [if_neg hc] at h
        omega
theorem pSh_len (w : List Int32) (p : Nat) : pSh T n w p ≤ w.length := by
  induction w generalizing p with
  | nil => exact Nat.le_refl _
  | cons c r ih =>
    unfold pSh
    split
    · have := ih (p + 1); simp only [List.length_cons]; omega
    · exact Nat.zero_le _
theorem y_begins_c24 {i m : Nat} {K : Bool → Mem → Prop} (hB : MB0 A0 T n) (h : MG A0 n lo wt p x A) (hi : i < 28) (hm : m ≤ (mwL.getD i []).length) : ∀ (j k fu : Nat), k + j = m → j < fu → k ≤ pSh T n (mwL.getD i []) p → K (decide (m ≤ pSh T n (mwL.getD i []) p)) A → wp_Mo_begins_c24 K fu 250 (iN m) (mwV.getD i 0) (iN (mwL.getD i []).length) (iN k) A := by
  have hl := mw_len i hi
  intro j
  induction j with
  | zero =>
    intro k fu hk hfu hs kk
    obtain ⟨fu, rfl⟩ : ∃ g, fu = g + 1 := ⟨fu - 1, by omega⟩
    unfold wp_Mo_begins_c24
    rw [iN_le (by omega) (by omega)]
    refine ⟨fun _ => ?_, fun h2 => absurd (show m ≤ k by omega) h2⟩
    rw [decide_eq_true (by omega)] at kk
    exact kk
  | succ j ih =>
    intro k fu hk hfu hs kk
    obtain ⟨fu, rfl⟩ : ∃ g, fu = g + 1 := ⟨fu - 1, by omega⟩
    have hc := mw_ch i hi k (by omega)
    have hst := pSh_step (T := T) (n := n) (mwL.getD i []) k p hs (by omega)
    unfold wp_Mo_begins_c24
    rw [iN_le (by omega) (by omega)]
    refine ⟨fun h2 => by omega, fun _ => ⟨rfl, y_lookAt hB h (by omega) ?_⟩⟩
    rw [hc.1, lg0, toI64_inj, eq_comm, lk_eq hB hc.2, iN_1]
    refine ⟨fun h2 => ?_, fun h2 => ?_⟩
    · exact ih (k + 1) fu (by omega) (by omega) (hst.mpr h2) kk
    · rw [decide_eq_false (by have := mt hst.mp h2; omega)] at kk
      exact kk
theorem y_begins {i m : Nat} {K : Bool → Mem → Prop} (hB : MB0 A0 T n) (h : MG A0 n lo wt p x A) (hi : i < 28) (hm : m < 100) (k : K (decide (m ≤ pSh T n (mwL.getD i []) p)) A) : wp_Mo_begins 250 (iN i) (iN m) A K := by
  have hl := mw_len i hi
  have hs := pSh_len (T := T) (n := n) (mwL.getD i []) p
  refine ⟨rfl, y_word hi (y_letters hi ?_)⟩
  rw [iN_le (by omega) (by omega)]
  refine ⟨fun hle => ⟨m + 1, y_begins_c24 hB h hi hle m 0 (m + 1) (by omega) (by omega) (Nat.zero_le _) k⟩, fun hle => ?_⟩
  rw [decide_eq_false (by omega)] at k
  exact k
/-- the words from a to b at m letters: none of m letters is whole -/
theorem tw_none {a b m : Nat} {J : Nat → Int32 → Int32 → Int32 → Mem → Prop} {K : Int32 → Mem → Prop} (hB : MB0 A0 T n) (h : MG A0 n lo wt p x A) (hb : b < 28) (hm : 1 ≤ m) (hm2 : m < 100) (hno : ∀ i, a ≤ i → i ≤ b → m ≤ pSh T n (mwL.getD i []) p → (mwL.getD i []).length ≠ m)
    (k1 : (∃ i, a ≤ i ∧ i ≤ b ∧ m ≤ pSh T n (mwL.getD i []) p) → J 250 (iN a) (iN b) (iN (m + 1)) A) (k0 : (∀ i, a ≤ i → i ≤ b → ¬ m ≤ pSh T n (mwL.getD i []) p) → J 250 (iN a) (iN b) (iN (m + 1)) (sI (sI A 250 4 (iN (p + (m - 1)))) 250 7 1)) :
    ∀ (j i fu : Nat) (f : Int32), i + j = b + 1 → a ≤ i → j < fu → (¬ f = 0 → ∃ i, a ≤ i ∧ i ≤ b ∧ m ≤ pSh T n (mwL.getD i []) p) → (f = 0 → ∀ i', a ≤ i' → i' < i → ¬ m ≤ pSh T n (mwL.getD i' []) p) → wp_Mo_takeWord_c15 J K fu 250 (iN a) (iN b) (iN m) f (iN i) A := by
  intro j
  induction j with
  | zero =>
    intro i fu f hi ha hfu hf1 hf0
    obtain ⟨fu, rfl⟩ : ∃ g, fu = g + 1 := ⟨fu - 1, by omega⟩
    unfold wp_Mo_takeWord_c15
    rw [iN_lt (by omega) (by omega), iN_1, iN_s1 hm, h.2.2.2.1, iN_add]
    exact ⟨fun _ => ⟨fun hf => k1 (hf1 hf), fun hf => ⟨rfl, k0 (fun i' h1 h2 => hf0 hf i' h1 (by omega))⟩⟩, fun h2 => absurd (show b < i by omega) h2⟩
  | succ j ih =>
    intro i fu f hi ha hfu hf1 hf0
    obtain ⟨fu, rfl⟩ : ∃ g, fu = g + 1 := ⟨fu - 1, by omega⟩
    have hl := mw_len i (by omega)
    unfold wp_Mo_takeWord_c15
    rw [iN_lt (by omega) (by omega)]
    refine ⟨fun h2 => by omega, fun _ => ⟨rfl, y_begins hB h (by omega) hm2 ⟨fun h2 => y_word (by omega) (y_letters (by omega) ⟨fun _ => ?_, fun h3 => ?_⟩), fun h2 => ?_⟩⟩⟩
    · rw [iN_1]
      exact ih (i + 1) fu 1 (by omega) (by omega) (by omega) (fun _ => ⟨i, ha, by omega, of_decide_eq_true h2⟩) (fun h4 => absurd h4 (by decide))
    · rw [iN_eq (by omega) (by omega)] at h3
      exact absurd h3 (hno i ha (by omega) (of_decide_eq_true h2))
    · rw [iN_1]
      refine ih (i + 1) fu f (by omega) (by omega) (by omega) hf1 (fun h4 i' h5 h6 => ?_)
      by_cases h7 : i' = i
      · subst h7; exact of_decide_eq_false h2
      · exact hf0 h4 i' h5 (by omega)
theorem tw_hit {a b m i0 : Nat} {J : Nat → Int32 → Int32 → Int32 → Mem → Prop} {K : Int32 → Mem → Prop} (hB : MB0 A0 T n) (h : MG A0 n lo wt p x A) (hb : b < 28) (hm2 : m < 100) (h0a : a ≤ i0) (h0b : i0 ≤ b) (h0 : (mwL.getD i0 []).length = m ∧ pSh T n (mwL.getD i0 []) p = m) (hno : ∀ i, a ≤ i → i < i0 → m ≤ pSh T n (mwL.getD i []) p → (mwL.getD i []).length ≠ m) (k : K (iN i0) (sI A 250 4 (iN (p + m)))) :
    ∀ (j i fu : Nat) (f : Int32), i + j = i0 → a ≤ i → j < fu → wp_Mo_takeWord_c15 J K fu 250 (iN a) (iN b) (iN m) f (iN i) A := by
  intro j
  induction j with
  | zero =>
    intro i fu f hi ha hfu
    obtain ⟨fu, rfl⟩ : ∃ g, fu = g + 1 := ⟨fu - 1, by omega⟩
    obtain rfl : i = i0 := by omega
    unfold wp_Mo_takeWord_c15
    rw [iN_lt (by omega) (by omega)]
    refine ⟨fun h2 => by omega, fun _ => ⟨rfl, y_begins hB h (by omega) hm2 ⟨fun h2 => y_word (by omega) (y_letters (by omega) ⟨fun h3 => ?_, fun h3 => ?_⟩), fun h2 => ?_⟩⟩⟩
    · rw [h0.1] at h3; exact absurd rfl h3
    · rw [h.2.2.2.1, iN_add]; exact k
    · exact absurd (show m ≤ _ by rw [h0.2]; exact Nat.le_refl _) (of_decide_eq_false h2)
  | succ j ih =>
    intro i fu f hi ha hfu
    obtain ⟨fu, rfl⟩ : ∃ g, fu = g + 1 := ⟨fu - 1, by omega⟩
    have hl := mw_len i (by omega)
    unfold wp_Mo_takeWord_c15
    rw [iN_lt (by omega) (by omega)]
    refine ⟨fun h2 => by omega, fun _ => ⟨rfl, y_begins hB h (by omega) hm2 ⟨fun h2 => y_word (by omega) (y_letters (by omega) ⟨fun _ => ?_, fun h3 => ?_⟩), fun h2 => ?_⟩⟩⟩
    · rw [iN_1]
      exact ih (i + 1) fu 1 (by omega) (by omega) (by omega)
    · rw [iN_eq (by omega) (by omega)] at h3
      exact absurd h3 (hno i ha (by omega) (of_decide_eq_true h2))
    · rw [iN_1]
      exact ih (i + 1) fu f (by omega) (by omega) (by omega)
/-- which of the words a .. b stands here whole -/
def twF (T : Nat → Int32) (n p : Nat) (a b i : Nat) : Prop := a ≤ i ∧ i ≤ b ∧ pSh T n (mwL.getD i []) p = (mwL.getD i []).length
theorem y_tw_hit {a b i0 : Nat} {K : Int32 → Mem → Prop} (hB : MB0 A0 T n) (h : MG A0 n lo wt p x A) (hb : b < 28) (h0 : twF T n p a b i0) (hun : ∀ i, twF T n p a b i → i = i0) (k : K (iN i0) (sI A 250 4 (iN (p + (mwL.getD i0 []).length)))) : wp_Mo_takeWord 250 (iN a) (iN b) A K := by
  have hl := mw_len i0 (by have := h0.2.1; omega)
  have go : ∀ (j m fu : Nat), m + j = (mwL.getD i0 []).length → 1 ≤ m → j < fu → wp_Mo_takeWord_c2 K fu 250 (iN a) (iN b) (iN m) A := by
    intro j
    induction j with
    | zero =>
      intro m fu hm h1 hfu
      obtain ⟨fu, rfl⟩ : ∃ g, fu = g + 1 := ⟨fu - 1, by omega⟩
      obtain rfl : m = (mwL.getD i0 []).length := by omega
      refine ⟨rfl, fun h7 => absurd (MG_e h) h7, fun _ => ⟨i0 + 2, ?_⟩⟩
      refine tw_hit hB h hb (by omega) h0.1 h0.2.1 ⟨rfl, h0.2.2⟩ (fun i h2 h3 h4 h5 => ?_) k (i0 - a) a (i0 + 2) 0 (by have := h0.1; omega) (Nat.le_refl _) (by omega)
      have := pSh_len (T := T) (n := n) (mwL.getD i []) p
      have := hun i ⟨h2, by have := h0.2.1; omega, by omega⟩
      omega
    | succ j ih =>
      intro m fu hm h1 hfu
      obtain ⟨fu, rfl⟩ : ∃ g, fu = g + 1 := ⟨fu - 1, by omega⟩
      refine ⟨rfl, fun h7 => absurd (MG_e h) h7, fun _ => ⟨b + 3, ?_⟩⟩
      refine tw_none hB h hb h1 (by omega) (fun i h2 h3 h4 h5 => ?_) (fun _ => ih (m + 1) fu (by omega) (by omega) (by omega)) (fun h2 => absurd (show m ≤ _ by rw [h0.2.2]; omega) (h2 i0 h0.1 h0.2.1)) (b + 1 - a) a (b + 3) 0 (by have := h0.1; have := h0.2.1; omega) (Nat.le_refl _) (by omega) (fun h2 => absurd rfl h2) (fun _ i' h2 h3 => by omega)
      have := pSh_len (T := T) (n := n) (mwL.getD i []) p
      have := hun i ⟨h2, h3, by omega⟩
      subst this
      omega
  exact ⟨_, go ((mwL.getD i0 []).length - 1) 1 ((mwL.getD i0 []).length) (by omega) (Nat.le_refl _) (by omega)⟩
theorem y_tw_none {a b M : Nat} {K : Int32 → Mem → Prop} (hB : MB0 A0 T n) (h : MG A0 n lo wt p x A) (hb : b < 28) (hab : a ≤ b) (hno : ∀ i, ¬ twF T n p a b i) (hM : M < 50) (hle : ∀ i, a ≤ i → i ≤ b → pSh T n (mwL.getD i []) p ≤ M) (hex : M = 0 ∨ ∃ i, a ≤ i ∧ i ≤ b ∧ pSh T n (mwL.getD i []) p = M) (k : K (-1) (sI (sI A 250 4 (iN (p + M))) 250 7 1)) : wp_Mo_takeWord 250 (iN a) (iN b) A K := by
  have nh : ∀ m i, a ≤ i → i ≤ b → m ≤ pSh T n (mwL.getD i []) p → (mwL.getD i []).length ≠ m := fun m i h2 h3 h4 h5 => by
    have := pSh_len (T := T) (n := n) (mwL.getD i []) p
    exact hno i ⟨h2, h3, by omega⟩
  have go : ∀ (j m fu : Nat), m + j = M + 1 → 1 ≤ m → j + 1 < fu → wp_Mo_takeWord_c2 K fu 250 (iN a) (iN b) (iN m) A := by
    intro j
    induction j with
    | zero =>
      intro m fu hm h1 hfu
      obtain ⟨fu, rfl⟩ : ∃ g, fu = g + 2 := ⟨fu - 2, by omega⟩
      refine ⟨rfl, fun h7 => absurd (MG_e h) h7, fun _ => ⟨b + 3, ?_⟩⟩
      refine tw_none hB h hb h1 (by omega) (nh m) (fun ⟨i, h2, h3, h4⟩ => absurd (hle i h2 h3) (by omega)) (fun _ => ?_) (b + 1 - a) a (b + 3) 0 (by omega) (Nat.le_refl _) (by omega) (fun h2 => absurd rfl h2) (fun _ i' h2 h3 => by omega)
      refine ⟨rfl, fun _ => ?_, fun h7 => absurd h7 (by rw [gI_eq]; decide)⟩
      rw [show m - 1 = M by omega]
      exact k
    | succ j ih =>
      intro m fu hm h1 hfu
      obtain ⟨fu, rfl⟩ : ∃ g, fu = g + 1 := ⟨fu - 1, by omega⟩
      refine ⟨rfl, fun h7 => absurd (MG_e h) h7, fun _ => ⟨b + 3, ?_⟩⟩
      refine tw_none hB h hb h1 (by omega) (nh m) (fun _ => ih (m + 1) fu (by omega) (by omega) (by omega)) (fun h2 => ?_) (b + 1 - a) a (b + 3) 0 (by omega) (Nat.le_refl _) (by omega) (fun h2 => absurd rfl h2) (fun _ i' h2 h3 => by omega)
      rcases hex with h3 | ⟨i, h3, h4, h5⟩
      · omega
      · exact absurd (show m ≤ _ by rw [h5]; omega) (h2 i h3 h4)
  exact ⟨M + 2, go M 1 (M + 2) (by omega) (Nat.le_refl _) (by omega)⟩
end YW
