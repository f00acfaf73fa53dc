/-! the reference's expressions: the mathematical ones, with its own test for a function's name -/
section SPE
variable (T : Nat → Int32) (n : Nat)
def pNm2 (on : Bool) (op p : Nat) : Bool :=
  let c := chr T n p
  if c = 65 then decide (chr T n (p + 1) = 66)
  else if c = 70 then decide (chr T n (p + 1) = 78)
  else if c = 73 then decide (chr T n (p + 1) = 78)
  else if c = 83 then decide (chr T n (p + 1) = 71) && (!on || decide (0 < op) || !decide (chr T n (p + 2) = 79))
  else false
def ePart (on : Bool) (S : PS) (p op : Nat) : PR (List SOp) :=
  if isD (chr T n p) then bnd (pNum T n p) fun p1 v => .ok (p1, [(0, v.1, v.2)])
  else if chr T n p = 40 then dBr T n S p op
  else if isM (chr T n p) then dEl T n S p op
  else if pNm2 T n on op p then dCall T n S p op
  else if isV (chr T n p) then .ok (p + 1, [(1, chr T n p - 65, 0)])
  else .error p
def ePowL (on : Bool) (S : PS) : Nat → Nat → Nat → List SOp → PR (List SOp)
  | 0, p, _, acc => .ok (p, acc)
  | k + 1, p, op, acc => if chr T n p = 94 then bnd (ePart T n on S (p + 1) op) fun p1 os => ePowL on S k p1 op (acc ++ os ++ [(8, 0, 0)]) else .ok (p, acc)
def ePow (on : Bool) (S : PS) (p op : Nat) : PR (List SOp) := bnd (ePart T n on S p op) fun p1 os => ePowL T n on S 60 p1 op os
def ePrL (on : Bool) (S : PS) : Nat → Nat → Nat → List SOp → PR (List SOp)
  | 0, p, _, acc => .ok (p, acc)
  | k + 1, p, op, acc => if chr T n p = 42 ∨ chr T n p = 47 then bnd (ePow T n on S (p + 1) op) fun p1 os => ePrL on S k p1 op (acc ++ os ++ [(if chr T n p = 42 then 6 else 7, 0, 0)]) else .ok (p, acc)
def ePr (on : Bool) (S : PS) (p op : Nat) : PR (List SOp) := bnd (ePow T n on S p op) fun p1 os => ePrL T n on S 60 p1 op os
def eSumL (on : Bool) (S : PS) : Nat → Nat → Nat → List SOp → PR (List SOp)
  | 0, p, _, acc => .ok (p, acc)
  | k + 1, p, op, acc => if chr T n p = 43 ∨ chr T n p = 45 then bnd (ePr T n on S (p + 1) op) fun p1 os => eSumL on S k p1 op (acc ++ os ++ [(if chr T n p = 43 then 4 else 5, 0, 0)]) else .ok (p, acc)
def eSumB (on : Bool) (S : PS) (p op : Nat) : PR (List SOp) :=
  if chr T n p = 45 then bnd (ePr T n on S (p + 1) op) fun p1 os => eSumL T n on S 60 p1 op (os ++ [(3, 0, 0)])
  else bnd (ePr T n on S p op) fun p1 os => eSumL T n on S 60 p1 op os
def eSum (on : Bool) : Nat → PS
  | 0, p, _ => .error p
  | d + 1, p, op => eSumB T n on (eSum on d) p op
end SPE
/-- the reference's codes of an operation -/
def eO (x : SOp) : List Int32 := match x.1 with
  | 0 => [0, x.2.1, iN x.2.2]
  | 1 => [1, x.2.1]
  | 2 => [2, x.2.1]
  | 3 => [8]
  | 4 => [3]
  | 5 => [4]
  | 6 => [5]
  | 7 => [6]
  | 8 => [7]
  | 9 => [9]
  | 10 => [10]
  | 11 => [11]
  | 12 => [12, x.2.1]
  | _ => [13, x.2.1]
def enc (os : List SOp) : List Int32 := os.flatMap eO
theorem enc_app (a b : List SOp) : enc (a ++ b) = enc a ++ enc b := by simp [enc]
/-- the codes behind a bracket of mark m -/
def clM (m : Int32) : List Int32 := if m = 100 then [] else if 104 ≤ m then (if 110 ≤ m then [2, m - 120] else [13, m - 104]) else [9 + m - 101]
/-- no operator of rank r or more stands at p -/
def nop (T : Nat → Int32) (n r p : Nat) : Prop := chr T n p ≠ 94 ∧ (r ≤ 2 → chr T n p ≠ 42 ∧ chr T n p ≠ 47) ∧ (r ≤ 1 → chr T n p ≠ 43 ∧ chr T n p ≠ 45)
def EX (A0 : Mem) (n lo : Nat) (ag ex : Nat → Int32) (p op : Nat) (κ σ : List Int32) (A : Mem) : Prop := ∃ wt, MG A0 n lo wt p (op, κ, ag, ex) A ∧ lsI wt σ ∧ σ.length ≤ p
abbrev eLP (K : Int32 → Mem → Prop) (on : Bool) (bg : Int32) (fu : Nat) (σ : List Int32) (ins : Nat) (x5 x6 : Int32) (A : Mem) : Prop := wp_Mo_expression_c16 K fu 250 (bI on) bg (iN σ.length) (iN ins) x5 x6 A
section YE
variable {A0 : Mem} {T : Nat → Int32} {n lo : Nat} {ag ex : Nat → Int32} {K : Int32 → Mem → Prop} {on : Bool} {bg : Int32} {p op fu ins : Nat} {κ σ : List Int32} {A : Mem}
theorem yE_bad {q b m : Nat} {x1 x2 x4 x5 x6 : Int32} (hB : MB0 A0 T n) (h : MBd A0 n q b A) (hfu : 1 ≤ fu) (hm : m ≤ 64) (hb : b + m + 1 ≤ 130) (k : ∀ r A', MBd A0 n q 130 A' → K r A') : wp_Mo_expression_c16 K fu 250 x1 x2 (iN m) x4 x5 x6 A := by
  obtain ⟨fu, rfl⟩ : ∃ g, fu = g + 1 := ⟨fu - 1, by omega⟩
  refine ⟨rfl, fun _ => ⟨m + 1, y_settleB hB m b (m + 1) A (by omega) hm (by omega) h (fun r A1 h1 => y_makeB hB h1 (by omega) (fun A2 h2 => k _ A2 (MBd_mono h2 (by omega))))⟩, fun h7 => absurd h7 (MBd_ne h)⟩
theorem yE_push {v : Int32} (h : EX A0 n lo ag ex p op κ σ A) (hl : σ.length < p) : EX A0 n lo ag ex p op κ (σ ++ [v]) (sI A 258 σ.length v) := by
  obtain ⟨wt, ⟨hF, hp, hlo, h4, h5, h5', h6, h7, h57, hag, hex, hwt⟩, hs, hs2⟩ := h
  refine ⟨gI (sI A 258 σ.length v) 258, ⟨FrM_I hF (by omega), hp, hlo, ?_, ?_, h5', ?_, ?_, ?_, ?_, ?_, rfl⟩, ?_, by simp; omega⟩
  · rw [gI_ne (by omega)]; exact h4
  · rw [gI_ne (by omega)]; exact h5
  · rw [gI_ne (by omega)]; exact h6
  · rw [gI_ne (by omega)]; exact h7
  · rw [gI_row (by omega)]; exact h57
  · rw [gI_row (by omega)]; exact hag
  · rw [gI_row (by omega)]; exact hex
  · refine lsI_push hs (fun j hj => ?_) gI_eq
    rw [gI_ne (by omega), hwt]
theorem yE_set {m v : Int32} (h : EX A0 n lo ag ex p op κ (σ ++ [m]) A) : EX A0 n lo ag ex p op κ (σ ++ [v]) (sI A 258 σ.length v) := by
  obtain ⟨wt, ⟨hF, hp, hlo, h4, h5, h5', h6, h7, h57, hag, hex, hwt⟩, hs, hs2⟩ := h
  have hs2' : σ.length + 1 ≤ p := by simpa using hs2
  refine ⟨gI (sI A 258 σ.length v) 258, ⟨FrM_I hF (by omega), hp, hlo, ?_, ?_, h5', ?_, ?_, ?_, ?_, ?_, rfl⟩, ?_, by simpa using hs2'⟩
  · rw [gI_ne (by omega)]; exact h4
  · rw [gI_ne (by omega)]; exact h5
  · rw [gI_ne (by omega)]; exact h6
  · rw [gI_ne (by omega)]; exact h7
  · rw [gI_row (by omega)]; exact h57
  · rw [gI_row (by omega)]; exact hag
  · rw [gI_row (by omega)]; exact hex
  · refine lsI_push (f := wt) (fun j y hj => hs j y ?_) (fun j hj => ?_) gI_eq
    · rw [List.getElem?_append_left (List.getElem?_eq_some_iff.mp hj).1]; exact hj
    · rw [gI_ne (by omega), hwt]
theorem yE_pop {τ : List Int32} (h : EX A0 n lo ag ex p op κ (σ ++ τ) A) : EX A0 n lo ag ex p op κ σ A := by
  obtain ⟨wt, hG, hs, hs2⟩ := h
  refine ⟨wt, hG, fun j y hj => hs j y ?_, by simp at hs2; omega⟩
  rw [List.getElem?_append_left (List.getElem?_eq_some_iff.mp hj).1]; exact hj
theorem yE_4 {p' : Nat} (h : EX A0 n lo ag ex p op κ σ A) (h1 : p ≤ p') (h2 : p' ≤ n) : EX A0 n lo ag ex p' op κ σ (sI A 250 4 (iN p')) := by
  obtain ⟨wt, hG, hs, hs2⟩ := h
  exact ⟨wt, MG_4 hG h2 (by have := hG.2.2.1; omega), hs, by omega⟩
theorem yE_on (h : EX A0 n lo ag ex p op κ σ A) (h1 : p < n) : EX A0 n lo ag ex (p + 1) op κ σ (sI A 250 4 (gI A 250 4 + 1)) := by
  obtain ⟨wt, hG, hs, hs2⟩ := h
  exact ⟨wt, MG_on hG h1, hs, by omega⟩
theorem yE_5 {o : Nat} (h : EX A0 n lo ag ex p op κ σ A) (h1 : o ≤ 6) : EX A0 n lo ag ex p o κ σ (sI A 250 5 (iN o)) := by
  obtain ⟨wt, hG, hs, hs2⟩ := h
  exact ⟨wt, MG_5 hG h1, hs, hs2⟩
theorem yE_f (h : EX A0 n lo ag ex p op κ σ A) : FrM A0 A ∧ p ≤ n ∧ gI A 250 4 = iN p ∧ gI A 250 5 = iN op ∧ op ≤ 6 ∧ gI A 250 7 = 0 ∧ σ.length ≤ p := by
  obtain ⟨wt, hG, hs, hs2⟩ := h
  exact ⟨hG.1, hG.2.1, hG.2.2.2.1, hG.2.2.2.2.1, hG.2.2.2.2.2.1, MG_e hG, hs2⟩
theorem yE_badAt {b : Nat} (h : EX A0 n lo ag ex p op κ σ A) (hb : κ.length ≤ b) : MBd A0 n p b (sI A 250 7 1) := by
  obtain ⟨wt, hG, hs, hs2⟩ := h
  exact MG_bad hG hb
theorem yE_make {v : Int32} {K : Mem → Prop} (hB : MB0 A0 T n) (h : EX A0 n lo ag ex p op κ σ A) (hl : κ.length < 160) (k : ∀ A', EX A0 n lo ag ex p op (κ ++ [v]) σ A' → K A') : wp_Mo_make 250 v A K := by
  obtain ⟨wt, hG, hs, hs2⟩ := h
  exact y_make hB hG hl (fun A1 h1 => k A1 ⟨wt, h1, hs, hs2⟩)
theorem yE_settle {r : Nat} {π : List Int32} {K : Int32 → Mem → Prop} (hB : MB0 A0 T n) (h : EX A0 n lo ag ex p op κ (σ ++ π) A) (hr : r < 4) (hs : stp r σ) (hl : κ.length + π.length < 160) (hπ : ∀ o ∈ π, ¬ 100 ≤ o ∧ r ≤ rk o) (k : ∀ A', EX A0 n lo ag ex p op (κ ++ π.reverse) σ A' → K (iN σ.length) A') : wp_Mo_settle 250 (iN (σ ++ π).length) (iN r) A K := by
  obtain ⟨wt, hG, hs1, hs2⟩ := h
  have h60 := hG.2.1
  have hn := hB.2.1
  have hs3 : σ.length + π.length ≤ p := by simpa using hs2
  refine ⟨π.length + 1, y_settle hB hr hs (by omega) π.length π (op, κ, ag, ex) (π.length + 1) A rfl (by omega) (by omega) hl hs1 hπ hG (fun A1 h1 => k A1 ⟨wt, h1, ?_, by omega⟩)⟩
  intro j y hj
  refine hs1 j y ?_
  rw [List.getElem?_append_left (List.getElem?_eq_some_iff.mp hj).1]; exact hj
theorem yE_look {K : Int32 → Mem → Prop} (hB : MB0 A0 T n) (h : EX A0 n lo ag ex p op κ σ A) (k : K (lk0 T n p) A) : wp_Mo_look 250 A K := by
  obtain ⟨wt, hG, hs, hs2⟩ := h
  exact y_look hB hG k
/-- the operators -/
def opC (c : Int32) : Int32 := if c = 43 then 3 else if c = 45 then 4 else if c = 42 then 5 else if c = 47 then 6 else if c = 94 then 7 else 0
theorem y_operator {c : Int32} {K : Int32 → Mem → Prop} (k : K (opC c) A) : wp_Mo_operator 250 c A K := by
  unfold opC at k
  refine ⟨fun h1 => ⟨fun h2 => ⟨fun h3 => ⟨fun h4 => ⟨fun h5 => ?_, fun h5 => ?_⟩, fun h4 => ?_⟩, fun h3 => ?_⟩, fun h2 => ?_⟩, fun h1 => ?_⟩
  · rw [if_neg h1, if_neg h2, if_neg h3, if_neg h4, if_neg h5] at k; exact k
  · rw [if_neg h1, if_neg h2, if_neg h3, if_neg h4, if_pos h5] at k; exact k
  · rw [if_neg h1, if_neg h2, if_neg h3, if_pos h4] at k; exact k
  · rw [if_neg h1, if_neg h2, if_pos h3] at k; exact k
  · rw [if_neg h1, if_pos h2] at k; exact k
  · rw [if_pos h1] at k; exact k
theorem opC_nop (hB : MB0 A0 T n) (h : nop T n 1 p) : opC (lk0 T n p) = 0 := by
  unfold opC
  rw [if_neg, if_neg, if_neg, if_neg, if_neg]
  · rw [lk_eq hB (by decide)]; exact h.1
  · rw [lk_eq hB (by decide)]; exact (h.2.1 (by omega)).2
  · rw [lk_eq hB (by decide)]; exact (h.2.1 (by omega)).1
  · rw [lk_eq hB (by decide)]; exact (h.2.2 (by omega)).2
  · rw [lk_eq hB (by decide)]; exact (h.2.2 (by omega)).1
theorem yE_closeM {m : Int32} {K : Mem → Prop} (hB : MB0 A0 T n) (h : EX A0 n lo ag ex p op κ σ A) (hl : κ.length + 1 < 160) (k : ∀ A', EX A0 n lo ag ex p op (κ ++ clM m) σ A' → K A') : wp_Mo_closeMark 250 m A K := by
  unfold clM at k
  refine ⟨fun h1 => ⟨fun h2 => ⟨fun h3 => ⟨rfl, ?_⟩, fun h3 => ⟨rfl, ?_⟩⟩, fun h2 => ⟨rfl, ?_⟩⟩, fun h1 => ?_⟩
  · rw [if_neg h1, if_pos h2, if_pos h3] at k
    exact yE_make hB h (by omega) (fun A1 h1 => yE_make hB h1 (by simp; omega) (fun A2 h2 => k A2 (by simpa using h2)))
  · rw [if_neg h1, if_pos h2, if_neg h3] at k
    exact yE_make hB h (by omega) (fun A1 h1 => yE_make hB h1 (by simp; omega) (fun A2 h2 => k A2 (by simpa using h2)))
  · rw [if_neg h1, if_neg h2] at k
    exact yE_make hB h (by omega) (fun A1 h1 => k A1 h1)
  · rw [if_pos h1] at k
    exact k A (by simpa using h)
theorem clM_len (m : Int32) : (clM m).length ≤ 2 := by
  unfold clM
  split
  · simp
  · split
    · split <;> simp
    · simp
theorem i32_lt100 {m : Int32} (h : 100 ≤ m) : stp 1 (σ ++ [m]) := by
  intro o ho
  rw [List.getLast?_append, List.getLast?_singleton] at ho
  simp at ho
  subst ho
  exact Or.inl h
/-- the end of what a bracket holds -/
theorem yE_close {m : Int32} {π : List Int32} (hB : MB0 A0 T n) (hins : ins ≤ op) (hm : 100 ≤ m) (hfu : 62 ≤ fu + p) (h : EX A0 n lo ag ex p (op + 1) κ ((σ ++ [m]) ++ π) A) (hπ : ∀ o ∈ π, ¬ 100 ≤ o ∧ 1 ≤ rk o) (hno : nop T n 1 p) (hl : κ.length + ((σ ++ [m]) ++ π).length ≤ 2 * p + 1)
    (kc : chr T n p = 44 → ¬ m ≤ 109 → ¬ 120 ≤ m → ∀ A' fu', 62 ≤ fu' + (p + 1) → EX A0 n lo ag ex (p + 1) (op + 1) (κ ++ π.reverse) (σ ++ [m + 10]) A' → eLP K on bg fu' (σ ++ [m + 10]) (ins + 1) 1 1 A')
    (kb : chr T n p = 41 → (m < 110 ∨ ¬ m ≤ 119) → ∀ A' fu', 62 ≤ fu' + (p + 1) → EX A0 n lo ag ex (p + 1) op (κ ++ π.reverse ++ clM m) σ A' → eLP K on bg fu' σ ins 0 0 A')
    (kx : (chr T n p = 44 → m ≤ 109 ∨ 120 ≤ m) → (chr T n p = 41 → ¬ m < 110 ∧ m ≤ 119) → ∀ r A', MBd A0 n p 130 A' → K r A') : eLP K on bg fu ((σ ++ [m]) ++ π) (ins + 1) 0 0 A := by
  obtain ⟨hF, hp, h4, h5, h5', h7, hsl⟩ := yE_f h
  have hn := hB.2.1
  have hsl' : σ.length + 1 + π.length ≤ p := by simp at hsl; omega
  have hl' : κ.length + (σ.length + 1 + π.length) ≤ 2 * p + 1 := by simp at hl; omega
  obtain ⟨fu, rfl⟩ : ∃ g, fu = g + 1 := ⟨fu - 1, by omega⟩
  refine ⟨rfl, fun h => absurd h7 h, fun _ => yE_look hB h ⟨fun _ => y_operator ?_, fun h => absurd rfl h⟩⟩
  rw [opC_nop hB hno]
  refine ⟨fun _ => ⟨fun _ => yE_settle (r := 1) hB h (by omega) (i32_lt100 hm) (by omega) hπ (fun A1 h1 => ?_), fun h0 => ?_⟩, fun h0 => absurd (by decide) h0⟩
  · have hW := (FrM_n hB (yE_f h1).1).2.2.2
    have hlen : (σ ++ [m]).length = σ.length + 1 := by simp
    have hv : gI A1 258 σ.length = m := by
      obtain ⟨wt, hG, hs, hs2⟩ := h1
      rw [hG.2.2.2.2.2.2.2.2.2.2.2]
      exact hs _ _ (by simp)
    rw [hlen, iN_s1 (by omega), show σ.length + 1 - 1 = σ.length by omega, hW.1 15 (by omega) (by omega), iN_cl (by omega), show 243 + 15 = 258 from rfl, hv]
    have c232 : (chr T n p = 44 → m ≤ 109 ∨ 120 ≤ m) → wp_Mo_expression_c232 (wp_Mo_expression_c16 K fu) K 250 (bI on) bg (iN (σ.length + 1)) (iN (ins + 1)) 0 0 (lk0 T n p) m A1 := by
      intro h44
      have hbad : (chr T n p = 41 → ¬ m < 110 ∧ m ≤ 119) → wp_Mo_expression_c278 K 250 bg (iN (σ.length + 1)) A1 := by
        intro h41
        refine ⟨rfl, σ.length + 2, y_settleB hB (σ.length + 1) (κ ++ π.reverse).length (σ.length + 2) _ (by omega) (by omega) (by simp; omega) (yE_badAt h1 (Nat.le_refl _)) (fun r A2 h2 => y_makeB hB h2 (by simp; omega) (fun A3 h3 => kx h44 h41 _ A3 (MBd_mono h3 (by simp; omega))))⟩
      have hgood : chr T n p = 41 → (m < 110 ∨ ¬ m ≤ 119) → wp_Mo_expression_c253 (wp_Mo_expression_c16 K fu) K 250 (bI on) bg (iN (σ.length + 1)) (iN (ins + 1)) 0 0 m A1 := by
        intro h41 hm2
        refine ⟨rfl, yE_closeM hB (yE_pop h1) (by simp; omega) (fun A2 h2 => ?_)⟩
        obtain ⟨g1, g2, g3, g4, g5, g6, g7⟩ := yE_f h2
        rw [g4, iN_s1 (by omega), iN_m1 (by omega), iN_m1 (by omega), show op + 1 - 1 = op by omega, show σ.length + 1 - 1 = σ.length by omega, show ins + 1 - 1 = ins by omega]
        exact kb h41 hm2 _ fu (by omega) (yE_on (yE_5 h2 (by omega)) (chr_lt0 h41 (by decide)))
      unfold wp_Mo_expression_c232
      rw [lk_eq hB (by decide)]
      refine ⟨fun h41 => hbad (fun h => absurd h h41), fun h41 => ⟨fun h110 => hgood h41 (Or.inl h110), fun h110 => ⟨fun h119 => hbad (fun _ => ⟨h110, h119⟩), fun h119 => hgood h41 (Or.inr h119)⟩⟩⟩
    rw [lk_eq hB (by decide)]
    refine ⟨rfl, iN_in (m := 64) (by omega) (by omega), fun h44 => c232 (fun h => absurd h h44), fun h44 => ⟨fun h109 => c232 (fun _ => Or.inl h109), fun h109 => ⟨fun h120 => c232 (fun _ => Or.inr h120), fun h120 A14 hA => ?_⟩⟩⟩
    subst hA
    have h2 := yE_on (yE_set (v := m + 10) h1) (chr_lt0 h44 (by decide))
    have := kc h44 h109 h120 _ fu (by omega) h2
    have hlen2 : (σ ++ [m + 10]).length = σ.length + 1 := by simp
    unfold eLP at this
    rw [hlen2] at this
    exact this
  · rw [show (0 : Int32) = iN 0 from rfl, iN_eq (by omega) (by omega)] at h0
    omega
end YE
