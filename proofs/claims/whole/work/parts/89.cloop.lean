/-! the class's loops -/
/-- a loop: its variable, its line's place, its limit, its step -/
abbrev LoT := Nat × Nat × UInt64 × UInt64
def LoA (A : Mem) (lp : List LoT) : Prop := gI A 20 0 = iN lp.length ∧ lp.length ≤ 6 ∧ ∀ (k : Nat) (e : LoT), lp[k]? = some e → gI A 21 k = iN e.1 ∧ e.1 < 26 ∧ gI A 22 k = iN e.2.1 ∧ e.2.1 < 24 ∧ gD A 23 k = e.2.2.1 ∧ okd e.2.2.1 ∧ gD A 24 k = e.2.2.2 ∧ okd e.2.2.2
def lfi : List LoT → Nat → Nat → Option Nat
  | [], _, _ => none
  | e :: r, v, k => if e.1 = v then some k else lfi r v (k + 1)
theorem lfi_lt : ∀ (lp : List LoT) (v k j : Nat), lfi lp v k = some j → k ≤ j ∧ j < k + lp.length
  | [], v, k, j, h => by cases h
  | e :: r, v, k, j, h => by
    unfold lfi at h
    split at h
    · have := Option.some.inj h
      simp only [List.length_cons]; omega
    · have := lfi_lt r v (k + 1) j h
      simp only [List.length_cons]; omega
section CLO
variable {A : Mem} {lp : List LoT}
theorem l_find {v : Nat} {K : Int32 → Mem → Prop} (hW : WC A) (h : LoA A lp) (hv : v < 26) (k : K (match lfi lp v 0 with | some j => iN j | none => -1) A) : wp_Lo_find 20 (iN v) A K := by
  obtain ⟨h0, h6, hr⟩ := h
  have e1 := hW.2.2.2.2.1.1
  have go : ∀ (j i fu : Nat), i + j = lp.length → j < fu → K (match lfi (lp.drop i) v i with | some j => iN j | none => -1) A → wp_Lo_find_c2 K fu 20 (iN v) (iN i) A := by
    intro j
    induction j with
    | zero =>
      intro i fu hi hfu k
      obtain ⟨fu, rfl⟩ : ∃ g, fu = g + 1 := ⟨fu - 1, by omega⟩
      rw [List.drop_eq_nil_of_le (by omega)] at k
      unfold wp_Lo_find_c2
      rw [h0, iN_le (by omega) (by omega)]
      exact ⟨rfl, fun _ => k, fun q => by omega⟩
    | succ j ih =>
      intro i fu hi hfu k
      obtain ⟨fu, rfl⟩ : ∃ g, fu = g + 1 := ⟨fu - 1, by omega⟩
      have hi2 : i < lp.length := by omega
      rw [List.drop_eq_getElem_cons hi2] at k
      have hh := hr i _ (List.getElem?_eq_getElem hi2)
      unfold lfi at k
      unfold wp_Lo_find_c2
      rw [h0, e1, iN_le (by omega) (by omega), show Int32.ofNat (al 21) = iN 6 from rfl, iN_le (by omega) (by omega), iN_cl (a := i) (by omega), hh.1, iN_1, iN_eq (by omega) (by omega)]
      refine ⟨rfl, fun q => by omega, fun _ => ⟨rfl, fun q => by omega, fun _ => ⟨iN_in (m := 6) (by omega) (by omega), fun q => ?_, fun q => ?_⟩⟩⟩
      · rw [if_neg q] at k
        exact ih (i + 1) fu (by omega) (by omega) k
      · rw [if_pos q] at k
        exact k
  exact ⟨lp.length + 1, go lp.length 0 _ (by omega) (by omega) (by simpa using k)⟩
theorem l_limit {j : Nat} {e : LoT} {K : UInt64 → Mem → Prop} (hW : WC A) (h : LoA A lp) (hj : lp[j]? = some e) (k : K e.2.2.1 A) : wp_Lo_limitOf 20 (iN j) A K := by
  obtain ⟨h0, h6, hr⟩ := h
  have hl := (List.getElem?_eq_some_iff.mp hj).1
  unfold wp_Lo_limitOf
  rw [hW.2.2.2.2.1.2.2.1, show Int32.ofNat (al 23) = iN 6 from rfl, show (0 : Int32) = iN 0 from rfl, iN_lt (by omega) (by omega), iN_le (by omega) (by omega), iN_cl (by omega), (hr j e hj).2.2.2.2.1]
  exact ⟨fun q => by omega, fun _ => ⟨rfl, rfl, fun q => by omega, fun _ => ⟨iN_in (m := 6) (by omega) (by omega), k⟩⟩⟩
theorem l_step {j : Nat} {e : LoT} {K : UInt64 → Mem → Prop} (hW : WC A) (h : LoA A lp) (hj : lp[j]? = some e) (k : K e.2.2.2 A) : wp_Lo_stepOf 20 (iN j) A K := by
  obtain ⟨h0, h6, hr⟩ := h
  have hl := (List.getElem?_eq_some_iff.mp hj).1
  unfold wp_Lo_stepOf
  rw [hW.2.2.2.2.1.2.2.2, show Int32.ofNat (al 24) = iN 6 from rfl, show (0 : Int32) = iN 0 from rfl, iN_lt (by omega) (by omega), iN_le (by omega) (by omega), iN_cl (by omega), (hr j e hj).2.2.2.2.2.2.1]
  exact ⟨fun q => by omega, fun _ => ⟨rfl, rfl, fun q => by omega, fun _ => ⟨iN_in (m := 6) (by omega) (by omega), k⟩⟩⟩
/-- loops from a place on are dropped -/
theorem LoA_cut {j : Nat} (h : LoA A lp) (hj : j ≤ lp.length) : LoA (sI A 20 0 (iN j)) (lp.take j) := by
  obtain ⟨h0, h6, hr⟩ := h
  refine ⟨?_, by rw [List.length_take]; omega, fun k e hk => ?_⟩
  · rw [gI_eq, List.length_take, Nat.min_eq_left hj]
  · have hk2 : k < j := by
      have := (List.getElem?_eq_some_iff.mp hk).1
      rw [List.length_take] at this; omega
    rw [List.getElem?_take_of_lt hk2] at hk
    obtain ⟨g1, g2, g3, g4, g5⟩ := hr k e hk
    exact ⟨(gI_ne (Or.inl (by omega))).trans g1, g2, (gI_ne (Or.inl (by omega))).trans g3, g4, g5⟩
/-- what adding a loop leaves -/
def loAdd (A : Mem) (n : Nat) (e : LoT) : Mem := sI (sD (sD (sI (sI A 21 n (iN e.1)) 22 n (iN e.2.1)) 23 n e.2.2.1) 24 n e.2.2.2) 20 0 (iN (n + 1))
theorem LoA_add {e : LoT} (h : LoA A lp) (hl : lp.length < 6) (h1 : e.1 < 26) (h2 : e.2.1 < 24) (h3 : okd e.2.2.1) (h4 : okd e.2.2.2) : LoA (loAdd A lp.length e) (lp ++ [e]) := by
  obtain ⟨h0, h6, hr⟩ := h
  refine ⟨?_, by rw [List.length_append, List.length_singleton]; omega, fun k x hk => ?_⟩
  · unfold loAdd
    rw [gI_eq, List.length_append, List.length_singleton]
  · unfold loAdd
    rw [gI_ne (Or.inl (by omega)), gI_ne (Or.inl (by omega)), gI_sD, gI_sD, gD_sI]
    by_cases hk2 : k < lp.length
    · rw [List.getElem?_append_left hk2] at hk
      obtain ⟨g1, g2, g3, g4, g5, g6, g7, g8⟩ := hr k x hk
      refine ⟨?_, g2, ?_, g4, ?_, g6, ?_, g8⟩
      · rw [gI_ne (Or.inl (by omega)), gI_ne (Or.inr (by omega))]; exact g1
      · rw [gI_ne (Or.inr (by omega)), gI_ne (Or.inl (by omega))]; exact g3
      · rw [gD_ne (Or.inl (by omega)), gD_ne (Or.inr (by omega))]; exact g5
      · rw [gD_ne (Or.inr (by omega)), gD_ne (Or.inl (by omega))]; exact g7
    · have hk3 := (List.getElem?_eq_some_iff.mp hk).1
      rw [List.length_append, List.length_singleton] at hk3
      have hk4 : k = lp.length := by omega
      subst hk4
      rw [List.getElem?_append_right (Nat.le_refl _), Nat.sub_self] at hk
      have hx : e = x := Option.some.inj hk
      subst hx
      refine ⟨?_, h1, ?_, h2, ?_, h3, ?_, h4⟩
      · rw [gI_ne (Or.inl (by omega)), gI_eq]
      · rw [gI_eq]
      · rw [gD_ne (Or.inl (by omega)), gD_eq]
      · rw [gD_eq]
theorem l_place {j : Nat} {e : LoT} {K : Int32 → Mem → Prop} (hW : WC A) (h : LoA A lp) (hj : lp[j]? = some e) (k : K (iN e.2.1) A) : wp_Lo_placeOf 20 (iN j) A K := by
  obtain ⟨h0, h6, hr⟩ := h
  have hl := (List.getElem?_eq_some_iff.mp hj).1
  unfold wp_Lo_placeOf
  rw [hW.2.2.2.2.1.2.1, show Int32.ofNat (al 22) = iN 6 from rfl, show (0 : Int32) = iN 0 from rfl, iN_lt (by omega) (by omega), iN_le (by omega) (by omega), iN_cl (by omega), (hr j e hj).2.2.1]
  exact ⟨fun q => by omega, fun _ => ⟨rfl, rfl, fun q => by omega, fun _ => ⟨iN_in (m := 6) (by omega) (by omega), k⟩⟩⟩
theorem l_add {e : LoT} {K : Bool → Mem → Prop} (hW : WC A) (h : LoA A lp) (k1 : lp.length < 6 → K true (loAdd A lp.length e)) (k2 : lp.length = 6 → K false A) : wp_Lo_add 20 (iN e.1) (iN e.2.1) e.2.2.1 e.2.2.2 A K := by
  obtain ⟨h0, h6, hr⟩ := h
  obtain ⟨e1, e2, e3, e4⟩ := hW.2.2.2.2.1
  unfold wp_Lo_add
  rw [e1, h0, show Int32.ofNat (al 21) = iN 6 from rfl, iN_lt (by omega) (by omega), iN_cl (a := lp.length) (by omega)]
  rw [show gR (sI A 21 lp.length (iN e.1)) 20 2 = 22 from e2, show gI (sI A 21 lp.length (iN e.1)) 20 0 = iN lp.length from (gI_ne (Or.inl (by omega))).trans h0, iN_cl (a := lp.length) (by omega)]
  refine ⟨rfl, rfl, fun hl => ⟨iN_in (m := 6) hl (by omega), rfl, iN_in (m := 6) hl (by omega), fun A6 e6 => ?_⟩, fun hl => k2 (by omega)⟩
  have r0 : gI A6 20 0 = iN lp.length := by rw [e6, gI_ne (Or.inl (by omega)), gI_ne (Or.inl (by omega))]; exact h0
  have rR : gR A6 = gR A := by rw [e6]; rfl
  rw [rR, e3, r0, iN_cl (a := lp.length) (by omega)]
  rw [show gR (sD A6 23 lp.length e.2.2.1) 20 4 = 24 from (congrFun (congrFun rR 20) 4).trans e4, show gI (sD A6 23 lp.length e.2.2.1) 20 0 = iN lp.length from r0, iN_cl (a := lp.length) (by omega)]
  refine ⟨rfl, iN_in (m := 6) hl (by omega), rfl, iN_in (m := 6) hl (by omega), fun A11 e11 => ?_⟩
  rw [show gI A11 20 0 = iN lp.length by rw [e11]; exact r0, iN_1, e11, e6]
  exact k1 hl
end CLO
