/-! the reference's enter -/
/-- numbers above 0, in order -/
def Psr (P : PT) : Prop := (∀ e ∈ P, 0 < e.1) ∧ P.Pairwise (fun a b => a.1 < b.1)
theorem plc_eq : ∀ (P : PT) (v : Int32) (i : Nat) (d : LDT), P.Pairwise (fun a b => a.1 < b.1) → P[i]? = some (v, d) → plc P v = i := by
  intro P
  induction P with
  | nil => intro v i d _ h; simp at h
  | cons e r ih =>
    intro v i d hs h
    rw [List.pairwise_cons] at hs
    unfold plc
    cases i with
    | zero =>
      simp at h
      rw [h, if_pos (Int32.le_refl v)]
    | succ i =>
      rw [List.getElem?_cons_succ] at h
      have hm := hs.1 _ (List.mem_of_getElem? h)
      have hm : e.1 < v := hm
      rw [if_neg (by rw [i32_nle]; exact hm), ih v i d hs.2 h]
theorem fnd_none : ∀ (P : PT) (v : Int32) (i : Nat), fnd P v i = none → ∀ e ∈ P, e.1 ≠ v := by
  intro P
  induction P with
  | nil => intro v i _ e he; simp at he
  | cons e r ih =>
    intro v i h x hx
    unfold fnd at h
    split at h
    · cases h
    · rcases List.mem_cons.mp hx with rfl | hx
      · assumption
      · exact ih v (i + 1) h x hx
theorem fnd_get (P : PT) (v : Int32) {i : Nat} (h : fnd P v 0 = some i) : ∃ hi : i < P.length, (P[i]).1 = v := by
  obtain ⟨-, h2, h3⟩ := fnd_some P v 0 i h
  have hi : i < P.length := by omega
  refine ⟨hi, ?_⟩
  have := nbr_lt (P := P) hi
  rw [Nat.sub_zero] at h3
  rw [← this]
  exact h3
section ME
variable {A : Mem} {P : PT} {sl : List Nat}
/-- what a call of the reference that changes lines may change -/
def mFr (A A' : Mem) : Prop := gD A' = gD A ∧ gL A' = gL A ∧ gR A' = gR A ∧ (∀ o, o < 250 → gI A' o = gI A o) ∧ gI A' 251 = gI A 251 ∧ (∀ o, 259 ≤ o → gI A' o = gI A o) ∧ ∀ k, 8 ≤ k → gI A' 250 k = gI A 250 k
theorem slot_lt (h : PMs A P sl) {v : Int32} (hv : 0 < v) {k : Nat} (hk : k < 24) (he : gI A 253 k = v) : ∃ (i : Nat) (d : LDT), sl[i]? = some k ∧ P[i]? = some (v, d) := by
  obtain ⟨h1, h2, h3, h4, h5⟩ := h
  have hm : k ∈ sl := by
    by_cases hm : k ∈ sl
    · exact hm
    · rw [h4 k hk hm] at he
      rw [← he] at hv
      exact absurd hv (by decide)
  obtain ⟨i, hi, rfl⟩ := List.mem_iff_getElem.mp hm
  have hp : i < P.length := by omega
  have := h5 i sl[i] (P[i]).1 (P[i]).2 (List.getElem?_eq_getElem hi) (List.getElem?_eq_getElem hp)
  refine ⟨i, (P[i]).2, List.getElem?_eq_getElem hi, ?_⟩
  rw [List.getElem?_eq_getElem hp, ← he, this.1]
theorem slot_of (h : PMs A P sl) {i : Nat} (hi : i < P.length) : ∃ k, sl[i]? = some k ∧ k < 24 ∧ gI A 253 k = (P[i]).1 := by
  obtain ⟨h1, h2, h3, h4, h5⟩ := h
  have hs : i < sl.length := by omega
  refine ⟨sl[i], List.getElem?_eq_getElem hs, h3 _ (List.getElem_mem hs), ?_⟩
  exact (h5 i sl[i] (P[i]).1 (P[i]).2 (List.getElem?_eq_getElem hs) (List.getElem?_eq_getElem hi)).1
theorem MG_lo {A0 : Mem} {n lo lo' p : Nat} {wt : Nat → Int32} {x : MT} (h : MG A0 n lo wt p x A) (hl : lo' ≤ p) : MG A0 n lo' wt p x A := ⟨h.1, h.2.1, hl, h.2.2.2⟩
theorem FrM_b3 {A0 : Mem} {s : Int32} (hF : FrM A0 A) : FrM (sI A0 253 24 s) (sI A 253 24 s) := by
  refine ⟨hF.1, hF.2.1, hF.2.2.1, fun o k h1 h2 h3 h4 h5 => ?_⟩
  by_cases ho : o = 253 ∧ k = 24
  · obtain ⟨rfl, rfl⟩ := ho
    rw [gI_eq, gI_eq]
  · rw [gI_ne (by omega), gI_ne (by omega)]
    exact hF.2.2.2 o k h1 h2 h3 h4 h5
theorem MG_b3 {A0 : Mem} {n lo p : Nat} {wt : Nat → Int32} {x : MT} {s : Int32} (h : MG A0 n lo wt p x A) : MG (sI A0 253 24 s) n lo wt p x (sI A 253 24 s) := by
  obtain ⟨hF, hp, hlo, h4, h5, h5', h6, h7, h57, hag, hex, hwt⟩ := h
  have e : ∀ a, a ≠ 253 → gI (sI A 253 24 s) a = gI A a := fun a ha => gI_row ha
  refine ⟨FrM_b3 hF, hp, hlo, ?_, ?_, h5', ?_, ?_, ?_, ?_, ?_, ?_⟩
  · rw [e 250 (by omega)]; exact h4
  · rw [e 250 (by omega)]; exact h5
  · rw [e 250 (by omega)]; exact h6
  · rw [e 250 (by omega)]; exact h7
  · rw [e 257 (by omega)]; exact h57
  · rw [e 255 (by omega)]; exact hag
  · rw [e 256 (by omega)]; exact hex
  · rw [e 258 (by omega)]; exact hwt
theorem MBd_b3 {A0 : Mem} {n q b : Nat} {s : Int32} (h : MBd A0 n q b A) : MBd (sI A0 253 24 s) n q b (sI A 253 24 s) := by
  obtain ⟨hF, hq, h4, h7, c, hc, h6⟩ := h
  have e : ∀ a, a ≠ 253 → gI (sI A 253 24 s) a = gI A a := fun a ha => gI_row ha
  exact ⟨FrM_b3 hF, hq, by rw [e 250 (by omega)]; exact h4, by rw [e 250 (by omega)]; exact h7, c, hc, by rw [e 250 (by omega)]; exact h6⟩
/-- what the base of a parse keeps of the memory before the call -/
def Bse (A B : Mem) : Prop := gD B = gD A ∧ gL B = gL A ∧ gR B = gR A ∧ (∀ o, o ≠ 250 → o ≠ 252 → o ≠ 253 → o ≠ 254 → gI B o = gI A o) ∧ (∀ j, j ≠ 24 → gI B 253 j = gI A 253 j ∧ gI B 254 j = gI A 254 j) ∧ (∀ k, 8 ≤ k → gI B 250 k = gI A 250 k) ∧ gI B 250 1 = 0 ∧ gI B 250 3 = -1
theorem mFr_B {B A' : Mem} (hB : Bse A B) (hF : FrM B A') : mFr A A' ∧ gI A' 250 1 = 0 ∧ gI A' 250 3 = -1 := by
  obtain ⟨b1, b2, b3, b4, b5, b6, b7, b8⟩ := hB
  obtain ⟨f1, f2, f3, f4⟩ := hF
  refine ⟨⟨f1.trans b1, f2.trans b2, f3.trans b3, fun o ho => ?_, ?_, fun o ho => ?_, fun k hk => ?_⟩, ?_, ?_⟩
  · funext k; rw [f4 o k (by omega) (by omega) (by omega) (by omega) (by omega), b4 o (by omega) (by omega) (by omega) (by omega)]
  · funext k; rw [f4 251 k (by omega) (by omega) (by omega) (by omega) (by omega), b4 251 (by omega) (by omega) (by omega) (by omega)]
  · funext k; rw [f4 o k (by omega) (by omega) (by omega) (by omega) (by omega), b4 o (by omega) (by omega) (by omega) (by omega)]
  · rw [f4 250 k (by omega) (by omega) (by omega) (by omega) (by omega)]; exact b6 k hk
  · rw [f4 250 1 (by omega) (by omega) (by omega) (by omega) (by omega)]; exact b7
  · rw [f4 250 3 (by omega) (by omega) (by omega) (by omega) (by omega)]; exact b8
theorem PMs_B {B A' : Mem} (h : PMs A P sl) (hB : Bse A B) (hF : FrM B A') : PMs A' P sl := by
  obtain ⟨b1, b2, b3, b4, b5, b6, b7, b8⟩ := hB
  obtain ⟨f1, f2, f3, f4⟩ := hF
  refine PMs_cg h (fun k hk => ?_) (fun k hk => ?_) (fun k hk => ?_) (fun k hk => ?_) (fun k hk => ?_)
  · rw [f4 253 k (by omega) (by omega) (by omega) (by omega) (by omega)]; exact (b5 k (by omega)).1
  · rw [f4 254 k (by omega) (by omega) (by omega) (by omega) (by omega)]; exact (b5 k (by omega)).2
  · rw [f4 255 k (by omega) (by omega) (by omega) (by omega) (by omega), b4 255 (by omega) (by omega) (by omega) (by omega)]
  · rw [f4 256 k (by omega) (by omega) (by omega) (by omega) (by omega), b4 256 (by omega) (by omega) (by omega) (by omega)]
  · rw [f4 257 k (by omega) (by omega) (by omega) (by omega) (by omega), b4 257 (by omega) (by omega) (by omega) (by omega)]
theorem mFr_0 {A' : Mem} {k : Nat} {v : Int32} (h : mFr A A') (hk : k < 8) : mFr A (sI A' 250 k v) :=
  ⟨h.1, h.2.1, h.2.2.1, fun o ho => (gI_row (by omega)).trans (h.2.2.2.1 o ho), (gI_row (by omega)).trans h.2.2.2.2.1, fun o ho => (gI_row (by omega)).trans (h.2.2.2.2.2.1 o ho), fun j hj => (gI_ne (by omega)).trans (h.2.2.2.2.2.2 j hj)⟩
theorem PMs_0 {k : Nat} {v : Int32} (h : PMs A P sl) : PMs (sI A 250 k v) P sl :=
  PMs_cg h (fun _ _ => by rw [gI_ne (by omega)]) (fun _ _ => by rw [gI_ne (by omega)]) (fun _ _ => by rw [gI_ne (by omega)]) (fun _ _ => by rw [gI_ne (by omega)]) (fun _ _ => by rw [gI_ne (by omega)])
theorem c140_bad {B A' : Mem} {n q b : Nat} {K : Int32 → Mem → Prop} {x1 : Int32} (hBs : Bse A B) (hP : PMs A P sl) (h : MBd B n q b A') (k : ∀ A'', mFr A A'' → PMs A'' P sl → gI A'' 250 1 = iN 0 → gI A'' 250 3 = iN q → gI A'' 250 0 = 1 → ∀ r, K r A'') : wp_Mo_enter_c140 K 250 x1 A' := by
  obtain ⟨g1, g2, g3⟩ := mFr_B hBs h.1
  refine ⟨rfl, fun h7 => absurd h7 (MBd_ne h), fun _ => ⟨rfl, k _ (mFr_0 (mFr_0 g1 (by omega)) (by omega)) (PMs_0 (PMs_0 (PMs_B hP hBs h.1))) ?_ ?_ gI_eq _⟩⟩
  · rw [gI_ne (by omega), gI_ne (by omega)]; exact g2
  · rw [gI_ne (by omega), gI_eq]; exact h.2.2.1
end ME
