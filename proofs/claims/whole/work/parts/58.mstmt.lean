/-! the reference's parser: statement -/
theorem OKP_tr {α : Type} {r : PR α} {g : Nat → α → Prop} (h : ∀ p a, g p a) : OKP r g (fun _ => True) := by
  cases r with
  | error q => trivial
  | ok z => exact h _ _
def chk {α : Type} (n : Nat) : Nat → α → PR α := fun p2 d => if p2 = n then .ok (p2, d) else .error p2
section YY
variable {A0 : Mem} {T : Nat → Int32} {wt : Nat → Int32} {n lo : Nat} {A : Mem} {p : Nat} {ag ex : Nat → Int32}
theorem pFor_eq (p : Nat) : bnd (pFor2 T n p) (chk n) = bnd (pRest T n 7 p) (chk n) := by
  unfold pFor2
  simp only [pRest, bnd_as]
  congr 1; funext p1 a
  congr 1; funext p2 _
  congr 1; funext p3 e
  congr 1; funext p4 _
  congr 1; funext p5 f
  unfold pGro2 pGro
  by_cases hn : p5 = n
  · have hc : chr T n p5 ≠ 83 := by
      unfold chr
      rw [if_neg (by omega)]
      decide
    rw [if_neg hc, if_pos hn]
  · rw [if_neg hn]
    by_cases hc : chr T n p5 = 83
    · rw [if_pos hc]
    · rw [if_neg hc, pWd, if_neg hc]
      simp only [bnd_ok, bnd_er, chk, if_neg hn]
theorem MG_base {x : MT} {s : Int32} (h : MG A0 n lo wt p x A) : MG (sI A0 254 24 s) n lo wt p x (sI A 254 24 s) := by
  obtain ⟨hF, hp, hlo, h4, h5, h5', h6, h7, h57, hag, hex, hwt⟩ := h
  have e : ∀ a, a ≠ 254 → gI (sI A 254 24 s) a = gI A a := fun a ha => gI_row ha
  refine ⟨⟨hF.1, hF.2.1, hF.2.2.1, fun o k h1 h2 h3 h4 h5 => ?_⟩, hp, hlo, ?_, ?_, h5', ?_, ?_, ?_, ?_, ?_, ?_⟩
  · by_cases ho : o = 254 ∧ k = 24
    · obtain ⟨rfl, rfl⟩ := ho
      rw [gI_eq, gI_eq]
    · rw [gI_ne (by omega), gI_ne (by omega)]
      exact hF.2.2.2 o k h1 h2 h3 h4 h5
  · rw [e 250 (by omega)]; exact h4
  · rw [e 250 (by omega)]; exact h5
  · rw [e 250 (by omega)]; exact h6
  · rw [e 250 (by omega)]; exact h7
  · rw [e 257 (by omega)]; exact h57
  · rw [e 255 (by omega)]; exact hag
  · rw [e 256 (by omega)]; exact hex
  · rw [e 258 (by omega)]; exact hwt
theorem MBd_base {q b : Nat} {s : Int32} (h : MBd A0 n q b A) : MBd (sI A0 254 24 s) n q b (sI A 254 24 s) := by
  obtain ⟨hF, hq, h4, h7, c, hc, h6⟩ := h
  have e : ∀ a, a ≠ 254 → gI (sI A 254 24 s) a = gI A a := fun a ha => gI_row ha
  refine ⟨⟨hF.1, hF.2.1, hF.2.2.1, fun o k h1 h2 h3 h4 h5 => ?_⟩, hq, ?_, ?_, c, hc, ?_⟩
  · by_cases ho : o = 254 ∧ k = 24
    · obtain ⟨rfl, rfl⟩ := ho
      rw [gI_eq, gI_eq]
    · rw [gI_ne (by omega), gI_ne (by omega)]
      exact hF.2.2.2 o k h1 h2 h3 h4 h5
  · rw [e 250 (by omega)]; exact h4
  · rw [e 250 (by omega)]; exact h7
  · rw [e 250 (by omega)]; exact h6
theorem MB0_base {s : Int32} (h : MB0 A0 T n) : MB0 (sI A0 254 24 s) T n := by
  refine ⟨h.1, h.2.1, ?_, fun k hk => ?_⟩
  · rw [gI_row (by omega)]; exact h.2.2.1
  · rw [gI_row (by omega)]; exact h.2.2.2 k hk
theorem c175_ok {K : Mem → Prop} {k : Nat} (hk : k < 17) (hk2 : k ≠ 15) (hB : MB0 A0 T n) {d : LDT} (h : MFin A0 n lo p d A) (k1 : p = n → K A) (k0 : p ≠ n → ∀ A', MBd A0 n p 150 A' → K A') : wp_Mo_statement_c175 K 250 (iN k) A := by
  obtain ⟨wt, x, hG, hl, hd⟩ := h
  have hn := hB.2.1
  have hp := hG.2.1
  have h2 := (FrM_n hB hG.1).1
  refine ⟨fun _ => ⟨rfl, ?_⟩, fun h15 => ?_⟩
  · rw [h2, hG.2.2.2.1, iN_le (by omega) (by omega)]
    exact ⟨fun h => k1 (by omega), fun h => k0 (by omega) _ (MG_bad hG (by omega))⟩
  · rw [show (15 : Int32) = iN 15 from rfl, iN_eq (by omega) (by omega)] at h15
    exact absurd h15 hk2
theorem c175_bad {K : Mem → Prop} {k q : Nat} (hk : k < 17) (hk2 : k ≠ 15) (h : MBd A0 n q 145 A) (k0 : ∀ A', MBd A0 n q 150 A' → K A') : wp_Mo_statement_c175 K 250 (iN k) A := by
  have h' := MBd_mono h (show 145 ≤ 150 by omega)
  refine ⟨fun _ => ⟨rfl, fun _ => k0 _ h', fun _ => k0 _ (MBd_7 h')⟩, fun h15 => ?_⟩
  rw [show (15 : Int32) = iN 15 from rfl, iN_eq (by omega) (by omega)] at h15
  exact absurd h15 hk2
theorem sk {P Q : Prop} {k j : Nat} (hk : k < 17) (hj : j < 20) (hne : k ≠ j) (h : P) : (¬ iN k = iN j → P) ∧ (iN k = iN j → Q) := ⟨fun _ => h, fun h9 => by rw [iN_eq (by omega) (by omega)] at h9; exact absurd h9 hne⟩
theorem sk' {P Q : Prop} {k j : Nat} (hk : k < 17) (hj : j < 20) (hne : k ≠ j) (h : P) : (iN k = iN j → Q) ∧ (¬ iN k = iN j → P) := ⟨fun h9 => by rw [iN_eq (by omega) (by omega)] at h9; exact absurd h9 hne, fun _ => h⟩
theorem c155_sk {K : Mem → Prop} {k : Nat} (hk : k < 17) (h1 : k ≠ 13) (h2 : k ≠ 14) (h : wp_Mo_statement_c175 K 250 (iN k) A) : wp_Mo_statement_c155 K 250 (iN k) A := sk hk (j := 13) (by omega) h1 (sk hk (j := 14) (by omega) h2 h)
theorem c135_sk {K : Mem → Prop} {k : Nat} (hk : k < 17) (h1 : k ≠ 10) (h2 : k ≠ 12) (h : wp_Mo_statement_c155 K 250 (iN k) A) : wp_Mo_statement_c135 K 250 (iN k) A := sk hk (j := 10) (by omega) h1 (sk hk (j := 12) (by omega) h2 h)
theorem c110_sk {K : Mem → Prop} {k : Nat} (hk : k < 17) (h1 : k ≠ 8) (h2 : k ≠ 9) (h : wp_Mo_statement_c135 K 250 (iN k) A) : wp_Mo_statement_c110 K 250 (iN k) A := sk hk (j := 8) (by omega) h1 (sk hk (j := 9) (by omega) h2 h)
theorem c91_sk {K : Mem → Prop} {k : Nat} (hk : k < 17) (h1 : k ≠ 4) (h2 : k ≠ 7) (h : wp_Mo_statement_c110 K 250 (iN k) A) : wp_Mo_statement_c91 K 250 (iN k) A := sk hk (j := 4) (by omega) h1 (sk hk (j := 7) (by omega) h2 h)
theorem c72_sk {K : Mem → Prop} {k : Nat} (hk : k < 17) (h1 : k ≠ 3) (h2 : k ≠ 5) (h : wp_Mo_statement_c91 K 250 (iN k) A) : wp_Mo_statement_c72 K 250 (iN k) A := sk' hk (j := 3) (by omega) h1 (sk hk (j := 5) (by omega) h2 h)
theorem c48_sk {K : Mem → Prop} {k : Nat} (hk : k < 17) (h1 : k ≠ 1) (h2 : k ≠ 2) (h : wp_Mo_statement_c72 K 250 (iN k) A) : wp_Mo_statement_c48 K 250 (iN k) A := sk hk (j := 1) (by omega) h1 (sk hk (j := 2) (by omega) h2 h)
end YY
