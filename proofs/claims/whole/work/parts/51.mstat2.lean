/-! the reference's parser: each statement -/
section YX1
variable {A0 : Mem} {T : Nat → Int32} {n lo w e : Nat} {A : Mem} {p : Nat} {ag ex : Nat → Int32}
/-- the state behind a target -/
def tgX (t : Int32 × List (List SOp)) (ag ex : Nat → Int32) : MT := match t.2 with
  | [a, b] => (0, enc a ++ [14] ++ (enc b ++ [14]), us ag 0 t.1, us (us ex 0 (iN 0)) 1 (iN (enc a ++ [14]).length))
  | _ => (0, [], us ag 0 t.1, ex)
theorem fE_op {on : Bool} {p : Nat} {x : MT} {j : Nat} (h : x.1 = j) : ∀ p' v, fE T n on p x = .ok (p', v) → v.2.1 = j := by
  intro p' v hv
  unfold fE at hv
  cases hs : eSum T n on 8 p x.1 with
  | error q => rw [hs] at hv; cases hv
  | ok z => rw [hs] at hv; cases hv; exact h
theorem z_target {K : Mem → Prop} (hB : MB0 A0 T n) (hlo : 1 ≤ lo) (h : MSx A0 n lo 0 0 (.ok (p, (0, [], ag, ex))) A) (k : ∀ A', MSx A0 n lo 0 2 (bnd (pTgt T n p) fun p1 t => .ok (p1, tgX t ag ex)) A' → K A') : wp_Mo_target 250 A K := by
  obtain ⟨wt, hh⟩ := h
  refine ⟨rfl, y_look hB hh.1 (y_isM ?_)⟩
  rw [lk_isM]
  refine ⟨fun hm => z_mat hB ⟨wt, hh⟩ (fun r1 A1 h1 => ?_), fun hm => z_var hB ⟨wt, hh⟩ (fun r1 A1 h1 => z_setArg hB h1 (j := 0) (by omega) (fun A2 h2 => k A2 (MSx_up (e := 0) ?_ (by omega))))⟩
  · simp only [bnd_ok] at h1
    refine z_setArg hB (MSVx_f (fun v => 26 + v) h1) (j := 0) (by omega) (fun A2 h2 => z_bracket hB h2 (fun A3 h3 => ?_))
    simp only [bnd_as, bnd_ok] at h3
    have e0 : pMt T n p = .ok (p + 1, chr T n p - 80) := by unfold pMt; rw [if_pos hm]
    rw [e0] at h3
    simp only [bnd_ok] at h3
    rw [if_neg (by omega)] at h3
    have o3 : opS (bnd (pCh T n 40 (p + 1)) fun p1 _ => .ok (p1, ((0 + 1, ([] : List Int32), us ag 0 (26 + (chr T n p - 80)), ex) : MT))) 1 := opS_bnd (fun p' x' _ => opS_ok)
    refine z_expr (on := false) hB hlo h3 (fun p' x' hx => ⟨by rw [o3 p' x' hx]; exact Nat.le_refl _, fun h => by cases h⟩) (by omega) (fun r4 A4 h4 => z_setExpr hB h4 (j := 0) (by omega) (fun A5 h5 => z_need hB h5 (by decide) (fun A6 h6 => ?_)))
    simp only [bnd_as, bnd_ok, fE, eSum_off] at h6
    refine z_expr (on := false) hB hlo h6 (fun p' x' hx => ?_) (by omega) (fun r7 A7 h7 => z_setExpr hB h7 (j := 1) (by omega) (fun A8 h8 => z_shut hB h8 (fun p' x' hx => ?_) (fun A9 h9 => ?_)))
    · obtain ⟨p1, a1, e1, hx⟩ := bnd_inv hx
      obtain ⟨p2, a2, e2, hx⟩ := bnd_inv hx
      obtain ⟨p3, a3, e3, hx⟩ := bnd_inv hx
      cases hx
      exact ⟨Nat.le_refl _, fun h => by cases h⟩
    · simp only [bnd_as, bnd_ok, fE, eSum_off] at hx
      obtain ⟨p1, a1, e1, hx⟩ := bnd_inv hx
      obtain ⟨p2, a2, e2, hx⟩ := bnd_inv hx
      obtain ⟨p3, a3, e3, hx⟩ := bnd_inv hx
      obtain ⟨p4, a4, e4, hx⟩ := bnd_inv hx
      cases hx
      exact Nat.le_refl _
    · refine k A9 ?_
      unfold pTgt
      rw [if_pos hm]
      simp only [bnd_as, bnd_ok, fE, eSum_off] at h9 ⊢
      simpa [tgX] using h9
  · simp only [bnd_ok, bnd_as] at h2
    unfold pTgt
    rw [if_neg (by rw [hm]; decide)]
    simpa [bnd_as, bnd_ok, tgX] using h2
end YX1
