/-! the reference's parser: parts of expressions -/
theorem bnd_ok {α β : Type} {p : Nat} {a : α} {f : Nat → α → PR β} : bnd (.ok (p, a)) f = f p a := rfl
theorem bnd_er {α β : Type} {q : Nat} {f : Nat → α → PR β} : bnd (.error q) f = .error q := rfl
/-- a mark waits, if a bracket is open -/
def MK (ins : Nat) (σ : List Int32) : Prop := ins = 0 ∨ ∃ (σ' : List Int32) (m : Int32) (π : List Int32), σ = (σ' ++ [m]) ++ π ∧ 100 ≤ m ∧ ∀ o ∈ π, ¬ 100 ≤ o ∧ 1 ≤ rk o
theorem MK_op {ins : Nat} {σ τ : List Int32} (h : MK ins σ) (hτ : ∀ o ∈ τ, ¬ 100 ≤ o ∧ 1 ≤ rk o) : MK ins (σ ++ τ) := by
  rcases h with h | ⟨σ', m, π, e, hm, hπ⟩
  · exact Or.inl h
  · refine Or.inr ⟨σ', m, π ++ τ, by rw [e, List.append_assoc], hm, fun o ho => ?_⟩
    rcases List.mem_append.mp ho with h1 | h1
    · exact hπ o h1
    · exact hτ o h1
theorem MK_mark {ins : Nat} {σ : List Int32} {m : Int32} (hm : 100 ≤ m) : MK ins (σ ++ [m]) := Or.inr ⟨σ, m, [], by simp, hm, fun o h => by simp at h⟩
section YP
variable {A0 : Mem} {T : Nat → Int32} {n lo : Nat} {ag ex : Nat → Int32} {K : Int32 → Mem → Prop} {on : Bool} {bg : Int32} {p op fu ins : Nat} {κ σ : List Int32} {A : Mem}
theorem yE_mark {m : Int32} (hB : MB0 A0 T n) (hop : op ≤ 6) (hins : ins ≤ op) (hm : m ≠ 0) (hfu : 62 ≤ fu + (p + 1)) (h : EX A0 n lo ag ex p op κ σ A) (hl : κ.length + σ.length ≤ 2 * p + 1)
    (kx : (6 ≤ op ∨ chr T n p ≠ 40) → ∀ r A', MBd A0 n p 130 A' → K r A') (ki : op < 6 → chr T n p = 40 → ∀ A', EX A0 n lo ag ex (p + 1) (op + 1) κ (σ ++ [m]) A' → eLP K on bg fu (σ ++ [m]) (ins + 1) 1 1 A') :
    wp_Mo_bracket 250 A (fun (A36 : Mem) => kd (gR A36 250 15) = 51 ∧ vp_in (iN σ.length) (al (gR A36 250 15)) ∧ wp_Mo_expression_c16 K fu 250 (bI on) bg (iN σ.length + 1) (iN ins + 1) 1 1 (sI A36 (gR A36 250 15) (Int32.toNatClampNeg (iN σ.length)) m)) := by
  obtain ⟨wt, hG, hs, hs2⟩ := h
  have hn := hB.2.1
  have hp := hG.2.1
  have hlo := hG.2.2.1
  have goB : (6 ≤ op ∨ chr T n p ≠ 40) → ∀ A', MBd A0 n p κ.length A' → kd (gR A' 250 15) = 51 ∧ vp_in (iN σ.length) (al (gR A' 250 15)) ∧ wp_Mo_expression_c16 K fu 250 (bI on) bg (iN σ.length + 1) (iN ins + 1) 1 1 (sI A' (gR A' 250 15) (Int32.toNatClampNeg (iN σ.length)) m) := by
    intro hx A' hb
    have hW := (FrM_n hB hb.1).2.2.2
    rw [hW.1 15 (by omega) (by omega), iN_cl (by omega), iN_1, iN_1]
    refine ⟨rfl, iN_in (m := 64) (by omega) (by omega), yE_bad (b := κ.length) (q := p) hB ?_ (by omega) (by omega) (by omega) (kx hx)⟩
    obtain ⟨hF, hq, h4, h7, c, hc, h6⟩ := hb
    exact ⟨FrM_I hF (by omega), hq, by rw [gI_ne (by omega)]; exact h4, by rw [gI_ne (by omega)]; exact h7, c, hc, by rw [gI_ne (by omega)]; exact h6⟩
  unfold wp_Mo_bracket
  rw [hG.2.2.2.2.1, show (6 : Int32) = iN 6 from rfl, iN_eq (by show op < _; omega) (by omega)]
  refine ⟨rfl, fun h6 => ⟨rfl, rfl, y_take hB hG (by decide) (fun hc A1 h1 => ⟨fun _ => ⟨fun h7 => absurd (MG_e h1) h7, fun _ => ?_⟩, fun h => (by cases h)⟩) (fun hc => ⟨fun h => (by cases h), fun _ => ?_⟩)⟩, fun h6 => ⟨rfl, ?_⟩⟩
  · have h6' : ¬ op = 6 := h6
    have hX : EX A0 n lo ag ex (p + 1) op κ σ A1 := ⟨wt, h1, hs, by omega⟩
    have hX2 := yE_push (v := m) (yE_5 (o := op + 1) hX (by omega)) (by omega)
    have hW := (FrM_n hB h1.1).2.2.2
    dsimp only
    rw [gR_sI, hW.1 15 (by omega) (by omega), h1.2.2.2.2.1, iN_1, iN_cl (by omega), iN_1, iN_1]
    have := ki (by omega) hc _ hX2
    have hlen : (σ ++ [m]).length = σ.length + 1 := by simp
    unfold eLP at this
    rw [hlen] at this
    exact ⟨rfl, iN_in (m := 64) (by omega) (by omega), this⟩
  · have hb : MBd A0 n p κ.length (sI A 250 7 1) := MG_bad hG (Nat.le_refl _)
    exact ⟨fun _ => goB (Or.inr hc) _ hb, fun h7 => absurd h7 (MBd_ne hb)⟩
  · have h6' : op = 6 := h6
    have hb : MBd A0 n p κ.length (sI A 250 7 1) := MG_bad hG (Nat.le_refl _)
    exact ⟨rfl, y_takeB hb ⟨fun h => (by cases h), fun _ => ⟨fun _ => goB (Or.inl (by omega)) _ (MBd_7 hb), fun h7 => absurd h7 (MBd_ne (MBd_7 hb))⟩⟩⟩
/-- the loop of the reference does an inner sum as the mathematical parser does -/
def HM (A0 : Mem) (T : Nat → Int32) (n lo : Nat) (ag ex : Nat → Int32) (K : Int32 → Mem → Prop) (on : Bool) (bg : Int32) (m0 : Nat) (Sp : PS) : Prop :=
  ∀ (p op ins fu : Nat) (κ σ : List Int32) (A : Mem), m0 ≤ op → op ≤ 6 → ins ≤ op → op ≤ ins + 1 → (on = true → op = ins) → 1 ≤ p → MK ins σ → 62 ≤ fu + p → EX A0 n lo ag ex p op κ σ A → κ.length + σ.length ≤ 2 * p → stp 1 σ →
    OKP (Sp p op) (fun p' os => ∀ (κ' π : List Int32) (A' : Mem) (fu' : Nat), 62 ≤ fu' + p' → p < p' → EX A0 n lo ag ex p' op κ' (σ ++ π) A' → κ' ++ π.reverse = κ ++ enc os → (∀ o ∈ π, ¬ 100 ≤ o ∧ 1 ≤ rk o) → nop T n 1 p' → κ'.length + (σ ++ π).length ≤ 2 * p' + 1 → eLP K on bg fu' (σ ++ π) ins 0 0 A') (fun q => ∀ r A', MBd A0 n q 130 A' → K r A') →
    eLP K on bg fu σ ins 1 1 A
/-- a bracket of a mark other than a MATRIX's -/
theorem yE_br {m : Int32} {m0 : Nat} {Sp : PS} (hB : MB0 A0 T n) (hH : HM A0 T n lo ag ex K on bg m0 Sp) (hm0 : m0 ≤ op + 1) (hop : op ≤ 6) (hins : ins ≤ op) (hins2 : op ≤ ins + 1) (hon : on = true → op = ins) (hm : 100 ≤ m) (hm2 : m ≤ 109) (hfu : 62 ≤ fu + (p + 1)) (h : EX A0 n lo ag ex p op κ σ A) (hl : κ.length + σ.length ≤ 2 * p + 1)
    (kk : OKP (dBr T n Sp p op) (fun p' os => ∀ A' fu', 62 ≤ fu' + p' → p < p' → EX A0 n lo ag ex p' op (κ ++ enc os ++ clM m) σ A' → (κ ++ enc os ++ clM m).length + σ.length ≤ 2 * p' + 1 → eLP K on bg fu' σ ins 0 0 A') (fun q => ∀ r A', MBd A0 n q 130 A' → K r A')) :
    wp_Mo_bracket 250 A (fun (A36 : Mem) => kd (gR A36 250 15) = 51 ∧ vp_in (iN σ.length) (al (gR A36 250 15)) ∧ wp_Mo_expression_c16 K fu 250 (bI on) bg (iN σ.length + 1) (iN ins + 1) 1 1 (sI A36 (gR A36 250 15) (Int32.toNatClampNeg (iN σ.length)) m)) := by
  have hmne : m ≠ 0 := by rintro rfl; exact absurd hm (by decide)
  have hsl := (yE_f h).2.2.2.2.2.2
  unfold dBr at kk
  refine yE_mark hB hop hins hmne hfu h hl (fun hx => ?_) (fun h6 hc A1 h1 => ?_)
  · by_cases h6 : 6 ≤ op
    · rw [if_pos h6] at kk; exact kk
    · rw [if_neg h6] at kk
      rw [pCh_no (hx.resolve_left h6)] at kk; exact kk
  · rw [if_neg (by omega), pCh_ok hc] at kk
    rw [bnd_ok, OKP_bnd] at kk
    refine hH (p + 1) (op + 1) (ins + 1) fu κ (σ ++ [m]) A1 hm0 (by omega) (by omega) (by omega) (fun h => by have := hon h; omega) (by omega) (MK_mark hm) hfu h1 (by simp; omega) (i32_lt100 hm) (OKP_mono kk (fun p2 os k2 κ' π A2 fu2 hfu2 hp2 h2 he hπ hno hl2 => ?_) (fun q' kb => kb))
    rw [OKP_bnd] at k2
    have hlen : κ'.length + π.length = κ.length + (enc os).length := by
      have := congrArg List.length he
      simpa using this
    have hcl := clM_len m
    refine yE_close hB hins hm hfu2 h2 hπ hno hl2 (fun _ h109 _ => absurd hm2 h109) (fun h41 _ A3 fu3 hfu3 h3 => ?_) (fun _ h41 => ?_)
    · rw [pCh_ok h41] at k2
      rw [he] at h3
      refine k2 A3 fu3 hfu3 (by omega) h3 ?_
      simp at hl2 ⊢
      omega
    · by_cases hc41 : chr T n p2 = 41
      · exact absurd (show m < 110 by rw [Int32.lt_iff_toInt_lt]; rw [Int32.le_iff_toInt_le] at hm2; have e1 : (109 : Int32).toInt = 109 := rfl; have e2 : (110 : Int32).toInt = 110 := rfl; omega) (h41 hc41).1
      · rw [pCh_no hc41] at k2
        exact k2
end YP
