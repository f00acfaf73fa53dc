/-! the reference's program: slots in any order -/
/-- slot k shows the line d -/
def MSlot (A : Mem) (k : Nat) (d : LDT) : Prop := gI A 254 k = iN d.1 ∧ ∃ (κ : List Int32) (ag ex : Nat → Int32), MLd d κ ag ex ∧ (∀ i, i < 8 → gI A 255 (k * 8 + i) = ag i) ∧ (∀ i, i < 4 → gI A 256 (k * 4 + i) = ex i + iN (k * 160)) ∧ κ.length ≤ 150 ∧ lsI (fun j => gI A 257 (k * 160 + j)) κ
/-- sl: the slots of the lines, in the lines' order -/
def PMs (A : Mem) (P : PT) (sl : List Nat) : Prop := sl.length = P.length ∧ sl.Nodup ∧ (∀ k ∈ sl, k < 24) ∧ (∀ k, k < 24 → k ∉ sl → gI A 253 k = 0) ∧ ∀ (i k : Nat) (v : Int32) (d : LDT), sl[i]? = some k → P[i]? = some (v, d) → gI A 253 k = v ∧ MSlot A k d
theorem MSlot_cg {A B : Mem} {k : Nat} {d : LDT} (h : MSlot A k d) (e4 : gI B 254 k = gI A 254 k) (e5 : ∀ i, i < 8 → gI B 255 (k * 8 + i) = gI A 255 (k * 8 + i)) (e6 : ∀ i, i < 4 → gI B 256 (k * 4 + i) = gI A 256 (k * 4 + i)) (e7 : ∀ j, j < 160 → gI B 257 (k * 160 + j) = gI A 257 (k * 160 + j)) : MSlot B k d := by
  obtain ⟨h1, κ, ag, ex, h2, h3, h4, h5, h6⟩ := h
  exact ⟨e4.trans h1, κ, ag, ex, h2, fun i hi => (e5 i hi).trans (h3 i hi), fun i hi => (e6 i hi).trans (h4 i hi), h5, lsI_cg h6 (fun j hj => e7 j (by omega))⟩
theorem PMs_cg {A B : Mem} {P : PT} {sl : List Nat} (h : PMs A P sl) (e3 : ∀ k, k < 24 → gI B 253 k = gI A 253 k) (e4 : ∀ k, k < 24 → gI B 254 k = gI A 254 k) (e5 : ∀ i, i < 192 → gI B 255 i = gI A 255 i) (e6 : ∀ i, i < 96 → gI B 256 i = gI A 256 i) (e7 : ∀ j, j < 3840 → gI B 257 j = gI A 257 j) : PMs B P sl := by
  obtain ⟨h1, h2, h3, h4, h5⟩ := h
  refine ⟨h1, h2, h3, fun k hk hn => (e3 k hk).trans (h4 k hk hn), fun i k v d hi hp => ?_⟩
  have hk : k < 24 := h3 k (List.mem_of_getElem? hi)
  obtain ⟨g1, g2⟩ := h5 i k v d hi hp
  exact ⟨(e3 k hk).trans g1, MSlot_cg g2 (e4 k hk) (fun i hi => e5 _ (by omega)) (fun i hi => e6 _ (by omega)) (fun j hj => e7 _ (by omega))⟩
section MP1
variable {A : Mem} {P : PT} {sl : List Nat}
theorem y_slot {v : Int32} {K : Int32 → Mem → Prop} (hW : MW A) (k1 : ∀ k, k < 24 → gI A 253 k = v → (∀ j, j < k → gI A 253 j ≠ v) → K (iN k) A) (k0 : (∀ k, k < 24 → gI A 253 k ≠ v) → K (-1) A) : wp_Mo_slotOf 250 v A K := by
  have lp : ∀ (j i fu : Nat), i + j = 24 → j < fu → (∀ k, k < i → gI A 253 k ≠ v) → wp_Mo_slotOf_c2 K fu 250 v (iN i) A := by
    intro j
    induction j with
    | zero =>
      intro i fu hi hfu hn
      obtain ⟨fu, rfl⟩ : ∃ g, fu = g + 1 := ⟨fu - 1, by omega⟩
      unfold wp_Mo_slotOf_c2
      rw [show (24 : Int32) = iN 24 from rfl, iN_le (by omega) (by omega)]
      exact ⟨fun _ => k0 (fun k hk => hn k (by omega)), fun h => absurd (show 24 ≤ i by omega) h⟩
    | succ j ih =>
      intro i fu hi hfu hn
      obtain ⟨fu, rfl⟩ : ∃ g, fu = g + 1 := ⟨fu - 1, by omega⟩
      unfold wp_Mo_slotOf_c2
      rw [show (24 : Int32) = iN 24 from rfl, iN_le (by omega) (by omega), hW.1 10 (by omega) (by omega), iN_cl (by omega), iN_1]
      refine ⟨fun h => by omega, fun _ => ⟨rfl, rfl, iN_in (m := 25) (by omega) (by omega), fun hne => ?_, fun he => k1 i (by omega) he hn⟩⟩
      refine ih (i + 1) fu (by omega) (by omega) (fun k hk => ?_)
      by_cases h9 : k = i
      · rw [h9]; exact hne
      · exact hn k (by omega)
  exact ⟨25, lp 24 0 25 rfl (by omega) (fun k hk => by omega)⟩
/-- how many slots are used, of the first i -/
def cnt (A : Mem) : Nat → Nat
  | 0 => 0
  | i + 1 => cnt A i + if gI A 253 i = 0 then 0 else 1
theorem cnt_le (A : Mem) (i : Nat) : cnt A i ≤ i := by
  induction i with
  | zero => exact Nat.le_refl _
  | succ i ih => unfold cnt; split <;> omega
theorem y_lines0 {K : Int32 → Mem → Prop} (hW : MW A) (k : K (iN (cnt A 24)) A) : wp_Mo_lines 250 A K := by
  have lp : ∀ (j i fu : Nat), i + j = 24 → j < fu → wp_Mo_lines_c4 K fu 250 (iN (cnt A i)) (iN i) A := by
    intro j
    induction j with
    | zero =>
      intro i fu hi hfu
      obtain ⟨fu, rfl⟩ : ∃ g, fu = g + 1 := ⟨fu - 1, by omega⟩
      obtain rfl : i = 24 := by omega
      exact ⟨fun _ => k, fun h => absurd (show (24 : Int32) ≤ iN 24 by decide) h⟩
    | succ j ih =>
      intro i fu hi hfu
      obtain ⟨fu, rfl⟩ : ∃ g, fu = g + 1 := ⟨fu - 1, by omega⟩
      unfold wp_Mo_lines_c4
      rw [show (24 : Int32) = iN 24 from rfl, iN_le (by omega) (by omega), hW.1 10 (by omega) (by omega), iN_cl (by omega), iN_1, iN_1]
      have := ih (i + 1) fu (by omega) (by omega)
      unfold cnt at this
      refine ⟨fun h => by omega, fun _ => ⟨rfl, rfl, iN_in (m := 25) (by omega) (by omega), fun h0 => ?_, fun h0 => ?_⟩⟩
      · rw [if_pos h0] at this; exact this
      · rw [if_neg h0] at this; exact this
  exact ⟨25, lp 24 0 25 rfl (by omega)⟩
theorem cnt_filter (A : Mem) (i : Nat) : cnt A i = ((List.range i).filter (fun k => decide (gI A 253 k ≠ 0))).length := by
  induction i with
  | zero => rfl
  | succ i ih =>
    unfold cnt
    rw [List.range_succ, List.filter_append, List.length_append, ih]
    congr 1
    by_cases h : gI A 253 i = 0 <;> simp [h]
theorem cnt_P (h : PMs A P sl) (hpos : ∀ e ∈ P, e.1 ≠ 0) : cnt A 24 = P.length := by
  obtain ⟨h1, h2, h3, h4, h5⟩ := h
  rw [cnt_filter, ← h1]
  refine List.Perm.length_eq ((List.perm_ext_iff_of_nodup (List.Nodup.sublist List.filter_sublist List.nodup_range) h2).mpr (fun k => ?_))
  rw [List.mem_filter, List.mem_range]
  constructor
  · rintro ⟨hk, hn⟩
    by_cases hm : k ∈ sl
    · exact hm
    · exact absurd (h4 k hk hm) (by simpa using hn)
  · intro hm
    refine ⟨h3 k hm, ?_⟩
    obtain ⟨i, hi, rfl⟩ := List.mem_iff_getElem.mp hm
    have hp : i < P.length := by omega
    have := h5 i sl[i] (P[i]).1 (P[i]).2 (List.getElem?_eq_getElem hi) (List.getElem?_eq_getElem hp)
    rw [this.1]
    simpa using hpos _ (List.getElem_mem hp)
theorem y_lines {K : Int32 → Mem → Prop} (hW : MW A) (h : PMs A P sl) (hpos : ∀ e ∈ P, e.1 ≠ 0) (k : K (iN P.length) A) : wp_Mo_lines 250 A K :=
  y_lines0 hW (by rw [cnt_P h hpos]; exact k)
/-- copyTo: what changes -/
def CpR (k : Nat) (A A' : Mem) : Prop := gD A' = gD A ∧ gL A' = gL A ∧ gR A' = gR A ∧ (∀ o, o ≠ 253 → o ≠ 254 → o ≠ 255 → o ≠ 256 → o ≠ 257 → gI A' o = gI A o) ∧ (∀ j, gI A' 253 j = if j = k then gI A 253 24 else gI A 253 j) ∧ (∀ j, gI A' 254 j = if j = k then gI A 254 24 else gI A 254 j) ∧ (∀ j, ¬ (k * 8 ≤ j ∧ j < k * 8 + 8) → gI A' 255 j = gI A 255 j) ∧ (∀ i, i < 8 → gI A' 255 (k * 8 + i) = gI A 255 (192 + i)) ∧ (∀ j, ¬ (k * 4 ≤ j ∧ j < k * 4 + 4) → gI A' 256 j = gI A 256 j) ∧ (∀ i, i < 4 → gI A' 256 (k * 4 + i) = gI A 256 (96 + i) + iN (k * 160))
theorem cp_101 {K : Mem → Prop} {k c : Nat} {A0 : Mem} (hk : k < 24) (hc : c ≤ 160) (hW : MW A0) (h6 : gI A0 250 6 = iN c) (kk : ∀ A', gD A' = gD A0 → gL A' = gL A0 → gR A' = gR A0 → (∀ o, o ≠ 257 → gI A' o = gI A0 o) → (∀ j, ¬ (k * 160 ≤ j ∧ j < k * 160 + c) → gI A' 257 j = gI A0 257 j) → (∀ i, i < c → gI A' 257 (k * 160 + i) = gI A0 257 (3840 + i)) → K A') : ∀ (m i fu : Nat) (A : Mem), i + m = c → m < fu → gD A = gD A0 → gL A = gL A0 → gR A = gR A0 → (∀ o, o ≠ 257 → gI A o = gI A0 o) → (∀ j, gI A 257 j = if k * 160 ≤ j ∧ j < k * 160 + i then gI A0 257 (3840 + (j - k * 160)) else gI A0 257 j) → wp_Mo_copyTo_c101 K fu 250 (iN k) (iN i) A := by
  intro m
  induction m with
  | zero =>
    intro i fu A hi hfu hD hL hR hI h7
    obtain ⟨fu, rfl⟩ : ∃ g, fu = g + 1 := ⟨fu - 1, by omega⟩
    unfold wp_Mo_copyTo_c101
    rw [hI 250 (by omega), h6, iN_le (by omega) (by omega)]
    refine ⟨rfl, fun _ => kk A hD hL hR hI (fun j hj => by rw [h7, if_neg (by omega)]) (fun j hj => by rw [h7, if_pos (by omega), show k * 160 + j - k * 160 = j by omega]), fun h => by omega⟩
  | succ m ih =>
    intro i fu A hi hfu hD hL hR hI h7
    obtain ⟨fu, rfl⟩ : ∃ g, fu = g + 1 := ⟨fu - 1, by omega⟩
    unfold wp_Mo_copyTo_c101
    rw [hI 250 (by omega), h6, iN_le (by omega) (by omega), hR, hW.1 14 (by omega) (by omega), show (3840 : Int32) = iN 3840 from rfl, show (160 : Int32) = iN 160 from rfl, iN_add, iN_mul, iN_add, iN_cl (show 3840 + i < 2147483648 by omega), iN_cl (show k * 160 + i < 2147483648 by omega), iN_1]
    refine ⟨rfl, fun h => by omega, fun _ => ⟨rfl, iN_in (m := 4000) (by omega) (by omega), iN_in (m := 4000) (by omega) (by omega), fun A22 hA => ?_⟩⟩
    subst hA
    have e1 : gI A 257 (3840 + i) = gI A0 257 (3840 + i) := by rw [h7, if_neg (by omega)]
    refine ih (i + 1) fu _ (by omega) (by omega) hD hL hR (fun o ho => by rw [gI_row (by omega)]; exact hI o ho) (fun j => ?_)
    rw [show 243 + 14 = 257 from rfl, e1]
    by_cases hj : j = k * 160 + i
    · rw [hj, gI_eq, if_pos (by omega), show k * 160 + i - k * 160 = i by omega]
    · rw [gI_ne (Or.inr hj), h7 j]
      by_cases h9 : k * 160 ≤ j ∧ j < k * 160 + i
      · rw [if_pos h9, if_pos (by omega)]
      · rw [if_neg h9, if_neg (by omega)]
theorem cp_63 {K : Mem → Prop} {k : Nat} {A0 : Mem} (hk : k < 24) (hW : MW A0) (kk : ∀ A', gD A' = gD A0 → gL A' = gL A0 → gR A' = gR A0 → (∀ o, o ≠ 256 → gI A' o = gI A0 o) → (∀ j, ¬ (k * 4 ≤ j ∧ j < k * 4 + 4) → gI A' 256 j = gI A0 256 j) → (∀ i, i < 4 → gI A' 256 (k * 4 + i) = gI A0 256 (96 + i) + iN (k * 160)) → ∃ n9, wp_Mo_copyTo_c101 K n9 250 (iN k) 0 A') : ∀ (m i fu : Nat) (A : Mem), i + m = 4 → m < fu → gD A = gD A0 → gL A = gL A0 → gR A = gR A0 → (∀ o, o ≠ 256 → gI A o = gI A0 o) → (∀ j, gI A 256 j = if k * 4 ≤ j ∧ j < k * 4 + i then gI A0 256 (96 + (j - k * 4)) + iN (k * 160) else gI A0 256 j) → wp_Mo_copyTo_c63 K fu 250 (iN k) (iN i) A := by
  intro m
  induction m with
  | zero =>
    intro i fu A hi hfu hD hL hR hI h7
    obtain ⟨fu, rfl⟩ : ∃ g, fu = g + 1 := ⟨fu - 1, by omega⟩
    obtain rfl : i = 4 := by omega
    exact ⟨fun _ => kk A hD hL hR hI (fun j hj => by rw [h7, if_neg (by omega)]) (fun j hj => by rw [h7, if_pos (by omega), show k * 4 + j - k * 4 = j by omega]), fun h => absurd (show (4 : Int32) ≤ iN 4 by decide) h⟩
  | succ m ih =>
    intro i fu A hi hfu hD hL hR hI h7
    obtain ⟨fu, rfl⟩ : ∃ g, fu = g + 1 := ⟨fu - 1, by omega⟩
    unfold wp_Mo_copyTo_c63
    rw [hR, hW.1 13 (by omega) (by omega), show (4 : Int32) = iN 4 from rfl, show (96 : Int32) = iN 96 from rfl, show (160 : Int32) = iN 160 from rfl, iN_le (by omega) (by omega), iN_add, iN_mul, iN_mul, iN_add, iN_cl (show 96 + i < 2147483648 by omega), iN_cl (show k * 4 + i < 2147483648 by omega), iN_1]
    refine ⟨fun h => by omega, fun _ => ⟨rfl, rfl, iN_in (m := 100) (by omega) (by omega), iN_in (m := 100) (by omega) (by omega), fun A22 hA => ?_⟩⟩
    subst hA
    have e1 : gI A 256 (96 + i) = gI A0 256 (96 + i) := by rw [h7, if_neg (by omega)]
    refine ih (i + 1) fu _ (by omega) (by omega) hD hL hR (fun o ho => by rw [gI_row (by omega)]; exact hI o ho) (fun j => ?_)
    rw [show 243 + 13 = 256 from rfl, e1]
    by_cases hj : j = k * 4 + i
    · rw [hj, gI_eq, if_pos (by omega), show k * 4 + i - k * 4 = i by omega]
    · rw [gI_ne (Or.inr hj), h7 j]
      by_cases h9 : k * 4 ≤ j ∧ j < k * 4 + i
      · rw [if_pos h9, if_pos (by omega)]
      · rw [if_neg h9, if_neg (by omega)]
theorem cp_28 {K : Mem → Prop} {k : Nat} {A0 : Mem} (hk : k < 24) (hW : MW A0) (kk : ∀ A', gD A' = gD A0 → gL A' = gL A0 → gR A' = gR A0 → (∀ o, o ≠ 255 → gI A' o = gI A0 o) → (∀ j, ¬ (k * 8 ≤ j ∧ j < k * 8 + 8) → gI A' 255 j = gI A0 255 j) → (∀ i, i < 8 → gI A' 255 (k * 8 + i) = gI A0 255 (192 + i)) → ∃ n9, wp_Mo_copyTo_c63 K n9 250 (iN k) 0 A') : ∀ (m i fu : Nat) (A : Mem), i + m = 8 → m < fu → gD A = gD A0 → gL A = gL A0 → gR A = gR A0 → (∀ o, o ≠ 255 → gI A o = gI A0 o) → (∀ j, gI A 255 j = if k * 8 ≤ j ∧ j < k * 8 + i then gI A0 255 (192 + (j - k * 8)) else gI A0 255 j) → wp_Mo_copyTo_c28 K fu 250 (iN k) (iN i) A := by
  intro m
  induction m with
  | zero =>
    intro i fu A hi hfu hD hL hR hI h7
    obtain ⟨fu, rfl⟩ : ∃ g, fu = g + 1 := ⟨fu - 1, by omega⟩
    obtain rfl : i = 8 := by omega
    exact ⟨fun _ => kk A hD hL hR hI (fun j hj => by rw [h7, if_neg (by omega)]) (fun j hj => by rw [h7, if_pos (by omega), show k * 8 + j - k * 8 = j by omega]), fun h => absurd (show (8 : Int32) ≤ iN 8 by decide) h⟩
  | succ m ih =>
    intro i fu A hi hfu hD hL hR hI h7
    obtain ⟨fu, rfl⟩ : ∃ g, fu = g + 1 := ⟨fu - 1, by omega⟩
    unfold wp_Mo_copyTo_c28
    rw [hR, hW.1 12 (by omega) (by omega), show (8 : Int32) = iN 8 from rfl, show (192 : Int32) = iN 192 from rfl, iN_le (by omega) (by omega), iN_add, iN_mul, iN_add, iN_cl (show 192 + i < 2147483648 by omega), iN_cl (show k * 8 + i < 2147483648 by omega), iN_1]
    have e1 : gI A 255 (192 + i) = gI A0 255 (192 + i) := by rw [h7, if_neg (by omega)]
    refine ⟨fun h => by omega, fun _ => ⟨rfl, rfl, iN_in (m := 200) (by omega) (by omega), iN_in (m := 200) (by omega) (by omega), ?_⟩⟩
    refine ih (i + 1) fu _ (by omega) (by omega) hD hL hR (fun o ho => by rw [gI_row (by omega)]; exact hI o ho) (fun j => ?_)
    rw [show 243 + 12 = 255 from rfl, e1]
    by_cases hj : j = k * 8 + i
    · rw [hj, gI_eq, if_pos (by omega), show k * 8 + i - k * 8 = i by omega]
    · rw [gI_ne (Or.inr hj), h7 j]
      by_cases h9 : k * 8 ≤ j ∧ j < k * 8 + i
      · rw [if_pos h9, if_pos (by omega)]
      · rw [if_neg h9, if_neg (by omega)]
theorem y_copyTo {K : Mem → Prop} {k c : Nat} (hk : k < 24) (hc : c ≤ 160) (hW : MW A) (h6 : gI A 250 6 = iN c) (kk : ∀ A', CpR k A A' → (∀ j, ¬ (k * 160 ≤ j ∧ j < k * 160 + c) → gI A' 257 j = gI A 257 j) → (∀ i, i < c → gI A' 257 (k * 160 + i) = gI A 257 (3840 + i)) → K A') : wp_Mo_copyTo 250 (iN k) A K := by
  unfold wp_Mo_copyTo
  rw [hW.1 10 (by omega) (by omega), show (24 : Int32) = iN 24 from rfl, iN_cl (by omega), iN_cl (by omega), gR_sI, hW.1 11 (by omega) (by omega)]
  refine ⟨rfl, rfl, iN_in (m := 25) (by omega) (by omega), iN_in (m := 25) (by omega) (by omega), rfl, iN_in (m := 25) (by omega) (by omega), iN_in (m := 25) (by omega) (by omega), fun A8 hA => ?_⟩
  have hW8 : MW A8 := by subst hA; exact hW
  have r3 : ∀ j, gI A8 253 j = if j = k then gI A 253 24 else gI A 253 j := fun j => by
    subst hA
    rw [gI_row (by omega)]
    by_cases hj : j = k
    · rw [hj, gI_eq, if_pos rfl]
    · rw [gI_ne (Or.inr hj), if_neg hj]
  have r4 : ∀ j, gI A8 254 j = if j = k then gI A 254 24 else gI A 254 j := fun j => by
    subst hA
    rw [show 243 + 11 = 254 from rfl]
    by_cases hj : j = k
    · rw [hj, gI_eq, if_pos rfl, gI_row (by omega)]
    · rw [gI_ne (Or.inr hj), if_neg hj, gI_row (by omega)]
  have ro : ∀ o, o ≠ 253 → o ≠ 254 → gI A8 o = gI A o := fun o h1 h2 => by
    subst hA
    rw [gI_row h2, gI_row h1]
  have rD : gD A8 = gD A := by subst hA; rfl
  have rL : gL A8 = gL A := by subst hA; rfl
  have rR : gR A8 = gR A := by subst hA; rfl
  refine ⟨9, cp_28 hk hW8 (fun A9 d1 l1 g1 i1 n1 a1 => ⟨5, cp_63 hk (by unfold MW; rw [g1]; exact hW8) (fun A10 d2 l2 g2 i2 n2 a2 => ⟨c + 1, cp_101 hk hc (by unfold MW; rw [g2, g1]; exact hW8) (by rw [i2 250 (by omega), i1 250 (by omega), ro 250 (by omega) (by omega)]; exact h6) (fun A11 d3 l3 g3 i3 n3 a3 => kk A11 ⟨?_, ?_, ?_, fun o h3 h4 h5 h6 h7 => ?_, fun j => ?_, fun j => ?_, fun j hj => ?_, fun j hj => ?_, fun j hj => ?_, fun j hj => ?_⟩ (fun j hj => ?_) (fun j hj => ?_)) c 0 (c + 1) A10 (by omega) (by omega) rfl rfl rfl (fun _ _ => rfl) (fun j => by rw [if_neg (by omega)])⟩) 4 0 5 A9 rfl (by omega) rfl rfl rfl (fun _ _ => rfl) (fun j => by rw [if_neg (by omega)])⟩) 8 0 9 A8 rfl (by omega) rfl rfl rfl (fun _ _ => rfl) (fun j => by rw [if_neg (by omega)])⟩
  · rw [d3, d2, d1, rD]
  · rw [l3, l2, l1, rL]
  · rw [g3, g2, g1, rR]
  · rw [i3 o h7, i2 o h6, i1 o h5, ro o h3 h4]
  · rw [i3 253 (by omega), i2 253 (by omega), i1 253 (by omega)]; exact r3 j
  · rw [i3 254 (by omega), i2 254 (by omega), i1 254 (by omega)]; exact r4 j
  · rw [i3 255 (by omega), i2 255 (by omega), n1 j hj, ro 255 (by omega) (by omega)]
  · rw [i3 255 (by omega), i2 255 (by omega), a1 j hj, ro 255 (by omega) (by omega)]
  · rw [i3 256 (by omega), n2 j hj, i1 256 (by omega), ro 256 (by omega) (by omega)]
  · rw [i3 256 (by omega), a2 j hj, i1 256 (by omega), ro 256 (by omega) (by omega)]
  · rw [n3 j hj, i2 257 (by omega), i1 257 (by omega), ro 257 (by omega) (by omega)]
  · rw [a3 j hj, i2 257 (by omega), i1 257 (by omega), ro 257 (by omega) (by omega)]
end MP1
