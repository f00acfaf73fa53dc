/-! the reference's parser: whole expressions -/
section YU
variable {A0 : Mem} {T : Nat → Int32} {n lo w e : Nat} {wt : Nat → Int32} {st : PR MT} {A : Mem} {on : Bool}
/-- a state, whatever waits -/
def MSx (A0 : Mem) (n lo w e : Nat) (st : PR MT) (A : Mem) : Prop := ∃ wt, MS A0 n lo wt w e st A
def MSVx (A0 : Mem) (n lo w e : Nat) (st : PR (Int32 × MT)) (r : Int32) (A : Mem) : Prop := ∃ wt, MSV A0 n lo wt w e st r A
/-- what an expression adds -/
def fE (T : Nat → Int32) (n : Nat) (on : Bool) (p : Nat) (x : MT) : PR (Int32 × MT) := bnd (eSum T n on 8 p x.1) fun p1 os => .ok (p1, (iN x.2.1.length, (x.1, x.2.1 ++ enc os ++ [14], x.2.2)))
theorem y_expr {K : Int32 → Mem → Prop} (hB : MB0 A0 T n) (hlo : 1 ≤ lo) (h : MS A0 n lo wt 0 e st A) (hop : ∀ p x, st = .ok (p, x) → x.1 ≤ 1 ∧ (on = true → x.1 = 0)) (he : e ≤ 20) (k : ∀ r A', MSVx A0 n lo 2 (e + 1) (bnd st (fE T n on)) r A' → K r A') : wp_Mo_expression 250 (bI on) A K := by
  have hn := hB.2.1
  cases st with
  | error q =>
    obtain ⟨hF, hq, h4, h7, c, hc, h6⟩ := h
    refine ⟨rfl, 1, rfl, fun _ => ⟨1, y_settleB (q := q) (b := 130 + e) hB 0 1 A (by omega) (by omega) (by omega) ⟨hF, hq, h4, h7, c, hc, h6⟩ (fun r A1 h1 => y_makeB hB h1 (by omega) (fun A2 h2 => k _ A2 ⟨wt, ?_⟩))⟩, fun h => absurd h (by rw [h7]; decide)⟩
    exact MBd_mono h2 (by omega)
  | ok y =>
    obtain ⟨p, op, κ, ag, ex⟩ := y
    obtain ⟨ho1, ho2⟩ := hop p _ rfl
    have hl : κ.length ≤ 2 * p := h.2
    have hp := h.1.2.1
    have hlp := h.1.2.2.1
    have h6 : gI A 250 6 = iN κ.length := h.1.2.2.2.2.2.2.1
    refine ⟨rfl, 62, ?_⟩
    rw [h6]
    have hX : EX A0 n lo ag ex p op κ [] A := ⟨wt, h.1, lsI_nil _, by simp⟩
    have := yE_sum (K := K) (on := on) (bg := iN κ.length) hB 8 p op 0 62 κ [] A (by omega) (show op ≤ 6 by have : op ≤ 1 := ho1; omega) (by omega) (show op ≤ 0 + 1 from ho1) ho2 (by omega) (Or.inl rfl) (by omega) hX (by simpa using hl) (by intro o ho; simp at ho) ?_
    · exact this
    · cases hs : eSum T n on 8 p op with
      | error q =>
        intro r A1 h1
        refine k r A1 ⟨wt, ?_⟩
        simp only [bnd, fE, hs]
        exact MBd_mono h1 (by omega)
      | ok z =>
        obtain ⟨p1, os⟩ := z
        intro κ' π A1 fu' hfu' hp1 hX1 he1 hπ hno hl1
        obtain ⟨hF, hp', h4, h5, h5', h7, hsl⟩ := yE_f hX1
        have hlen : κ'.length + π.length = κ.length + (enc os).length := by
          have := congrArg List.length he1
          simpa using this
        rw [List.nil_append] at hX1 hl1 hsl ⊢
        obtain ⟨fu', rfl⟩ : ∃ g, fu' = g + 1 := ⟨fu' - 1, by omega⟩
        refine ⟨rfl, fun h => absurd h7 h, fun _ => yE_look hB hX1 ⟨fun _ => y_operator ?_, fun h => absurd rfl h⟩⟩
        rw [opC_nop hB hno]
        refine ⟨fun _ => ⟨fun h => absurd rfl h, fun _ => ?_⟩, fun h => absurd (by decide) h⟩
        have := yE_settle (r := 1) (σ := []) (π := π) (K := fun (r16 : Int32) (A15 : Mem) => wp_Mo_make 250 14 A15 (fun (A17 : Mem) => K (iN κ.length) A17)) hB hX1 (by omega) (by intro o ho; simp at ho) (by omega) hπ (fun A2 hX2 => yE_make hB hX2 (by simp only [List.length_append, List.length_reverse]; omega) (fun A3 hX3 => ?_))
        · exact this
        · obtain ⟨wt3, hG3, -, -⟩ := hX3
          rw [he1] at hG3
          refine k _ A3 ⟨wt3, ?_⟩
          simp only [bnd, fE, hs]
          refine ⟨⟨hG3, ?_⟩, rfl⟩
          simp at hl1 ⊢
          omega
end YU
