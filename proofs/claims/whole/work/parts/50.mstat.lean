/-! the reference's parser: statements, what they leave -/
theorem bnd_as {α β γ : Type} {r : PR α} {f : Nat → α → PR β} {g : Nat → β → PR γ} : bnd (bnd r f) g = bnd r (fun p a => bnd (f p a) g) := by cases r <;> rfl
/-- without ON the reference's test for a name is the class's -/
theorem pNm2_off (T : Nat → Int32) (n op p : Nat) : pNm2 T n false op p = pNm T n false op p := by
  unfold pNm2 pNm
  simp
theorem ePart_off (T : Nat → Int32) (n : Nat) (S : PS) (p op : Nat) : ePart T n false S p op = dPart T n false S p op := by
  unfold ePart dPart
  rw [pNm2_off]
theorem ePowL_off (T : Nat → Int32) (n : Nat) (S : PS) : ∀ k p op acc, ePowL T n false S k p op acc = dPowL T n false S k p op acc := by
  intro k
  induction k with
  | zero => intro p op acc; rfl
  | succ k ih =>
    intro p op acc
    unfold ePowL dPowL
    simp only [ePart_off, ih]
theorem ePow_off (T : Nat → Int32) (n : Nat) (S : PS) (p op : Nat) : ePow T n false S p op = dPow T n false S p op := by
  unfold ePow dPow
  simp only [ePart_off, ePowL_off]
theorem ePrL_off (T : Nat → Int32) (n : Nat) (S : PS) : ∀ k p op acc, ePrL T n false S k p op acc = dPrL T n false S k p op acc := by
  intro k
  induction k with
  | zero => intro p op acc; rfl
  | succ k ih =>
    intro p op acc
    unfold ePrL dPrL
    simp only [ePow_off, ih]
theorem ePr_off (T : Nat → Int32) (n : Nat) (S : PS) (p op : Nat) : ePr T n false S p op = dPr T n false S p op := by
  unfold ePr dPr
  simp only [ePow_off, ePrL_off]
theorem eSumL_off (T : Nat → Int32) (n : Nat) (S : PS) : ∀ k p op acc, eSumL T n false S k p op acc = dSumL T n false S k p op acc := by
  intro k
  induction k with
  | zero => intro p op acc; rfl
  | succ k ih =>
    intro p op acc
    unfold eSumL dSumL
    simp only [ePr_off, ih]
theorem eSumB_off (T : Nat → Int32) (n : Nat) (S : PS) (p op : Nat) : eSumB T n false S p op = dSumB T n false S p op := by
  unfold eSumB dSumB
  simp only [ePr_off, eSumL_off]
theorem eSum_off (T : Nat → Int32) (n : Nat) : ∀ d, eSum T n false d = dSum T n false d := by
  intro d
  induction d with
  | zero => funext p op; rfl
  | succ d ih =>
    funext p op
    unfold eSum dSum
    rw [ih, eSumB_off]
/-- where the codes of an expression begin -/
def cdAt (κ : List Int32) (v : Int32) (os : List SOp) : Prop := ∃ k, k < 160 ∧ v = iN k ∧ (enc os ++ [14]) <+: κ.drop k
/-- the reference's codes of the constants of DATA -/
def encC (cs : List (Int32 × Int32 × Nat)) : List Int32 := cs.flatMap (fun c => [c.1, 0, c.2.1, iN c.2.2])
/-- arguments, expressions and codes are those of the line -/
def MLd (d : LDT) (κ : List Int32) (ag ex : Nat → Int32) : Prop := match d.1 with
  | 0 => ag 0 = d.2.1 ∧ ((26 ≤ d.2.1 ∧ ∃ e f g, d.2.2.2.2.1 = [e, f, g] ∧ cdAt κ (ex 0) e ∧ cdAt κ (ex 1) f ∧ cdAt κ (ex 2) g) ∨ (¬ 26 ≤ d.2.1 ∧ ∃ g, d.2.2.2.2.1 = [g] ∧ cdAt κ (ex 2) g))
  | 1 => ∃ e, d.2.2.2.2.1 = [e] ∧ cdAt κ (ex 0) e
  | 2 => ∃ v e f, d.2.2.2.1 = [v] ∧ d.2.2.2.2.1 = [e, f] ∧ ag 0 = v ∧ ag 1 = d.2.2.1 ∧ cdAt κ (ex 0) e ∧ cdAt κ (ex 1) f
  | 3 => ∃ v, d.2.2.2.1 = [v] ∧ ag 0 = v
  | 4 => (∃ e, d.2.2.2.2.1 = [e] ∧ cdAt κ (ex 0) e) ∧ ag 0 = iN d.2.2.2.1.length ∧ d.2.2.2.1.length ≤ 4 ∧ lsI (fun k => ag (k + 1)) d.2.2.2.1
  | 5 => ∃ v, d.2.2.2.1 = [v] ∧ ag 0 = v
  | 7 => ag 0 = d.2.1 ∧ ((∃ e f, d.2.2.2.2.1 = [e, f] ∧ ag 1 = 0 ∧ cdAt κ (ex 0) e ∧ cdAt κ (ex 1) f) ∨ ∃ e f g, d.2.2.2.2.1 = [e, f, g] ∧ ag 1 = 1 ∧ cdAt κ (ex 0) e ∧ cdAt κ (ex 1) f ∧ cdAt κ (ex 2) g)
  | 8 => ag 0 = d.2.1
  | 9 => ag 0 = d.2.1 ∧ ((26 ≤ d.2.1 ∧ ∃ e f, d.2.2.2.2.1 = [e, f] ∧ cdAt κ (ex 0) e ∧ cdAt κ (ex 1) f) ∨ (¬ 26 ≤ d.2.1 ∧ d.2.2.2.2.1 = []))
  | 10 => ag 0 = iN d.2.2.2.2.2.length ∧ d.2.2.2.2.2.length ≤ 6 ∧ ∃ k, k < 160 ∧ ex 0 = iN k ∧ encC d.2.2.2.2.2 <+: κ.drop k
  | 12 => ag 0 = d.2.1 ∧ ∃ r c, d.2.2.2.1 = [r, c] ∧ ag 1 = r ∧ ag 2 = c
  | 13 => ag 0 = d.2.2.1 ∧ ag 1 = d.2.1 ∧ ∃ e, d.2.2.2.2.1 = [e] ∧ cdAt κ (ex 0) e
  | 14 => ag 0 = d.2.1 ∧ ag 1 = d.2.2.1 ∧ ((d.2.2.2.1 = [] ∧ (d.2.2.1 = 0 ∨ d.2.2.1 = 1 ∨ d.2.2.1 = 2)) ∨ (∃ m, d.2.2.2.1 = [m] ∧ ag 2 = m ∧ (d.2.2.1 = 3 ∨ d.2.2.1 = 5)) ∨ (∃ m e, d.2.2.2.1 = [m] ∧ ag 2 = m ∧ d.2.2.1 = 4 ∧ d.2.2.2.2.1 = [e] ∧ cdAt κ (ex 0) e) ∨ ∃ m m2, d.2.2.2.1 = [m, m2] ∧ ag 2 = m ∧ ag 3 = m2 ∧ (d.2.2.1 = 6 ∨ d.2.2.1 = 7 ∨ d.2.2.1 = 8))
  | _ => True
section YV
variable {A0 : Mem} {T : Nat → Int32} {n lo w e : Nat} {st : PR MT} {A : Mem}
theorem MSx_case {α : Type} {P : Prop} {r : PR α} {f : Nat → α → PR MT} {g : Nat → α → Prop} {b : Nat → Prop} (h : MSx A0 n lo w e (bnd r f) A) (kk : OKP r g b) (hg : ∀ p a, MSx A0 n lo w e (f p a) A → g p a → P) (hb : ∀ q, MBd A0 n q (130 + e) A → b q → P) : P := by
  cases r with
  | error q => exact hb q h.choose_spec kk
  | ok z => exact hg z.1 z.2 h kk
theorem z_need {c : Int32} {K : Mem → Prop} (hB : MB0 A0 T n) (h : MSx A0 n lo w e st A) (h0 : 0 < c) (k : ∀ A', MSx A0 n lo 0 e (bnd st fun p x => bnd (pCh T n c p) fun p1 _ => .ok (p1, x)) A' → K A') : wp_Mo_need 250 c A K :=
  h.elim fun wt h => y_need hB h h0 (fun A' h' => k A' ⟨wt, h'⟩)
theorem z_var {K : Int32 → Mem → Prop} (hB : MB0 A0 T n) (h : MSx A0 n lo w e st A) (k : ∀ r A', MSVx A0 n lo 0 e (bnd st fun p x => bnd (pVar T n p) fun p1 a => .ok (p1, (a, x))) r A' → K r A') : wp_Mo_variable0 250 A K :=
  h.elim fun wt h => y_var hB h (fun r A' h' => k r A' ⟨wt, h'⟩)
theorem z_mat {K : Int32 → Mem → Prop} (hB : MB0 A0 T n) (h : MSx A0 n lo w e st A) (k : ∀ r A', MSVx A0 n lo 0 e (bnd st fun p x => bnd (pMt T n p) fun p1 a => .ok (p1, (a, x))) r A' → K r A') : wp_Mo_matrix 250 A K :=
  h.elim fun wt h => y_mat hB h (fun r A' h' => k r A' ⟨wt, h'⟩)
theorem z_one {K : Int32 → Mem → Prop} (hB : MB0 A0 T n) (h : MSx A0 n lo w e st A) (k : ∀ r A', MSVx A0 n lo 0 e (bnd st fun p x => bnd (pExt T n p) fun p1 a => .ok (p1, (a, x))) r A' → K r A') : wp_Mo_oneToSix 250 A K :=
  h.elim fun wt h => y_one hB h (fun r A' h' => k r A' ⟨wt, h'⟩)
theorem z_ln {K : Int32 → Mem → Prop} (hB : MB0 A0 T n) (h : MSx A0 n lo w e st A) (k : ∀ r A', MSVx A0 n lo 0 e (bnd st fun p x => bnd (pLN T n p) fun p1 a => .ok (p1, (a, x))) r A' → K r A') : wp_Mo_lineNumber 250 A K :=
  h.elim fun wt h => y_ln hB h (fun r A' h' => k r A' ⟨wt, h'⟩)
theorem z_setArg {st : PR (Int32 × MT)} {r : Int32} {j : Nat} {K : Mem → Prop} (hB : MB0 A0 T n) (h : MSVx A0 n lo w e st r A) (hj : j < 8) (k : ∀ A', MSx A0 n lo w e (bnd st fun p v => .ok (p, (v.2.1, v.2.2.1, us v.2.2.2.1 j v.1, v.2.2.2.2))) A' → K A') : wp_Mo_setArg 250 (iN j) r A K :=
  h.elim fun wt h => y_setArg hB h hj (fun A' h' => k A' ⟨wt, h'⟩)
theorem z_setExpr {st : PR (Int32 × MT)} {r : Int32} {j : Nat} {K : Mem → Prop} (hB : MB0 A0 T n) (h : MSVx A0 n lo w e st r A) (hj : j < 4) (k : ∀ A', MSx A0 n lo w e (bnd st fun p v => .ok (p, (v.2.1, v.2.2.1, v.2.2.2.1, us v.2.2.2.2 j v.1))) A' → K A') : wp_Mo_setExpr 250 (iN j) r A K :=
  h.elim fun wt h => y_setExpr hB h hj (fun A' h' => k A' ⟨wt, h'⟩)
theorem z_setArgC {r : Int32} {j : Nat} {K : Mem → Prop} (hB : MB0 A0 T n) (h : MSx A0 n lo w e st A) (hj : j < 8) (k : ∀ A', MSx A0 n lo w e (bnd st fun p x => .ok (p, (x.1, x.2.1, us x.2.2.1 j r, x.2.2.2))) A' → K A') : wp_Mo_setArg 250 (iN j) r A K :=
  h.elim fun wt h => z_setArg hB ⟨wt, MS_V r h⟩ hj (fun A' h' => k A' (by rw [bnd_as] at h'; exact h'))
theorem z_bracket {K : Mem → Prop} (hB : MB0 A0 T n) (h : MSx A0 n lo w e st A) (k : ∀ A', MSx A0 n lo 0 e (bnd st fun p x => if 6 ≤ x.1 then .error p else bnd (pCh T n 40 p) fun p1 _ => .ok (p1, (x.1 + 1, x.2))) A' → K A') : wp_Mo_bracket 250 A K :=
  h.elim fun wt h => y_bracket hB h (fun A' h' => k A' ⟨wt, h'⟩)
theorem z_shut {K : Mem → Prop} (hB : MB0 A0 T n) (h : MSx A0 n lo w e st A) (ho : ∀ p x, st = .ok (p, x) → 1 ≤ x.1) (k : ∀ A', MSx A0 n lo 0 e (bnd st fun p x => bnd (pCh T n 41 p) fun p1 _ => .ok (p1, (x.1 - 1, x.2))) A' → K A') : wp_Mo_shut 250 A K :=
  h.elim fun wt h => y_shut hB h ho (fun A' h' => k A' ⟨wt, h'⟩)
theorem z_tw1 {i : Nat} {v : List Int32} {K : Int32 → Mem → Prop} (hB : MB0 A0 T n) (h : MSx A0 n lo w e st A) (hi : i < 28) (hw : mwL.getD i [] = v) (k : ∀ r A', MSx A0 n lo 0 e (bnd st fun p x => bnd (pWd T n v p) fun p1 _ => .ok (p1, x)) A' → K r A') : wp_Mo_takeWord 250 (iN i) (iN i) A K :=
  h.elim fun wt h => y_tw1 hB h hi hw (fun r A' h' => k r A' ⟨wt, h'⟩)
theorem z_expr {on : Bool} {K : Int32 → Mem → Prop} (hB : MB0 A0 T n) (hlo : 1 ≤ lo) (h : MSx A0 n lo 0 e st A) (hop : ∀ p x, st = .ok (p, x) → x.1 ≤ 1 ∧ (on = true → x.1 = 0)) (he : e ≤ 20) (k : ∀ r A', MSVx A0 n lo 2 (e + 1) (bnd st (fE T n on)) r A' → K r A') : wp_Mo_expression 250 (bI on) A K :=
  h.elim fun wt h => y_expr hB hlo h hop he k
theorem MSx_up {e' : Nat} (h : MSx A0 n lo w e st A) (he : e ≤ e') : MSx A0 n lo w e' st A := h.elim fun wt h => ⟨wt, MS_up h he⟩
theorem MSVx_f {st : PR (Int32 × MT)} {r : Int32} (f : Int32 → Int32) (h : MSVx A0 n lo w e st r A) : MSVx A0 n lo w e (bnd st fun p v => .ok (p, (f v.1, v.2))) (f r) A := h.elim fun wt h => ⟨wt, MSV_f f h⟩
theorem bnd_inv {α β : Type} {r : PR α} {f : Nat → α → PR β} {z : Nat × β} (h : bnd r f = .ok z) : ∃ p a, r = .ok (p, a) ∧ f p a = .ok z := by
  cases r with
  | error q => cases h
  | ok y => exact ⟨y.1, y.2, rfl, h⟩
/-- open brackets of a state -/
def opS (st : PR MT) (j : Nat) : Prop := ∀ p x, st = .ok (p, x) → x.1 = j
theorem opS_bnd {α : Type} {st : PR α} {f : Nat → α → PR MT} {j : Nat} (h : ∀ p x, st = .ok (p, x) → opS (f p x) j) : opS (bnd st f) j := by
  intro p x hx
  cases st with
  | error q => cases hx
  | ok z => exact h z.1 z.2 rfl p x hx
theorem opS_ok {p : Nat} {x : MT} : opS (.ok (p, x)) x.1 := fun p' x' h => by cases h; rfl
end YV
