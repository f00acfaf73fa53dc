/-! the reference's parser: each statement and what it leaves -/
theorem cdAt_mk {κ a c : List Int32} {v : Int32} {os : List SOp} (h : κ = a ++ (enc os ++ [14]) ++ c) (hv : v = iN a.length) (hl : κ.length < 160) : cdAt κ v os := by
  refine ⟨a.length, ?_, hv, ?_⟩
  · rw [h] at hl; simp at hl; omega
  · rw [h, List.append_assoc, List.drop_left]
    exact List.prefix_append _ _
theorem pTgt_sh {T : Nat → Int32} {n p : Nat} : OKP (pTgt T n p) (fun _ t => (26 ≤ t.1 ∧ ∃ a b, t.2 = [a, b]) ∨ (¬ 26 ≤ t.1 ∧ t.2 = [])) (fun _ => True) := by
  unfold pTgt
  by_cases hm : isM (chr T n p) = true
  · rw [if_pos hm, OKP_bnd]
    have hT : ∀ {α : Type} (r : PR α), OKP r (fun _ _ => True) (fun _ => True) := fun r => by cases r <;> trivial
    refine OKP_mono (hT _) (fun _ _ _ => ?_) (fun _ h => h)
    rw [OKP_bnd]
    refine OKP_mono (hT _) (fun _ _ _ => ?_) (fun _ h => h)
    rw [OKP_bnd]
    refine OKP_mono (hT _) (fun _ _ _ => ?_) (fun _ h => h)
    rw [OKP_bnd]
    refine OKP_mono (hT _) (fun _ _ _ => ?_) (fun _ h => h)
    rw [OKP_bnd]
    refine OKP_mono (hT _) (fun _ _ _ => ?_) (fun _ h => h)
    exact Or.inl ⟨(isM_el hm).1, _, _, rfl⟩
  · rw [if_neg hm, OKP_bnd]
    exact OKP_mono pVar_ok (fun _ _ h => Or.inr ⟨h, rfl⟩) (fun _ h => h)
section YX2
variable {A0 : Mem} {T : Nat → Int32} {n lo w e : Nat} {A : Mem} {p : Nat} {ag ex : Nat → Int32}
def MFin (A0 : Mem) (n lo p : Nat) (d : LDT) (A : Mem) : Prop := ∃ wt x, MG A0 n lo wt p x A ∧ x.2.1.length ≤ 150 ∧ MLd d x.2.1 x.2.2.1 x.2.2.2
theorem MFin_mk {x : MT} {d : LDT} (hB : MB0 A0 T n) (h : MSx A0 n lo w e (.ok (p, x)) A) (hd : x.2.1.length < 160 → MLd d x.2.1 x.2.2.1 x.2.2.2) : MFin A0 n lo p d A := by
  obtain ⟨wt, h1, h2⟩ := h
  have := h1.2.1
  have := hB.2.1
  exact ⟨wt, x, h1, by omega, hd (by omega)⟩
abbrev KG (A0 : Mem) (n lo : Nat) (K : Mem → Prop) : Nat → LDT → Prop := fun p1 d => ∀ A', MFin A0 n lo p1 d A' → K A'
abbrev KB (A0 : Mem) (n : Nat) (K : Mem → Prop) : Nat → Prop := fun q => ∀ A', MBd A0 n q 145 A' → K A'
theorem kbE {K : Mem → Prop} {e : Nat} (he : e ≤ 15) : ∀ q, MBd A0 n q (130 + e) A → KB A0 n K q → K A := fun q h k => k A (MBd_mono h (by omega))
theorem z_print {K : Mem → Prop} (hB : MB0 A0 T n) (hlo : 1 ≤ lo) (h : MSx A0 n lo 0 0 (.ok (p, (0, [], ag, ex))) A) (kk : OKP (pRest T n 1 p) (KG A0 n lo K) (KB A0 n K)) : wp_Mo_expression 250 0 A (fun (r14 : Int32) (A13 : Mem) => wp_Mo_setExpr 250 0 r14 A13 K) := by
  refine z_expr (on := false) hB hlo h (fun p' x' hx => by cases hx; exact ⟨Nat.zero_le _, fun h => by cases h⟩) (by omega) (fun r1 A1 h1 => z_setExpr hB h1 (j := 0) (by omega) (fun A2 h2 => ?_))
  simp only [bnd_as, bnd_ok, fE, eSum_off] at h2
  simp only [pRest, OKP_bnd] at kk
  refine MSx_case h2 kk (fun p1 os h2 kk => kk A2 (MFin_mk hB h2 (fun hl => ⟨os, rfl, cdAt_mk (a := []) (c := []) (by simp) (by simp [us]) hl⟩))) (kbE (by omega))
theorem z_let {K : Mem → Prop} (hB : MB0 A0 T n) (hlo : 1 ≤ lo) (h : MSx A0 n lo 0 0 (.ok (p, (0, [], ag, ex))) A) (kk : OKP (pRest T n 0 p) (KG A0 n lo K) (KB A0 n K)) : wp_Mo_target 250 A (fun (A6 : Mem) => wp_Mo_need 250 61 A6 (fun (A7 : Mem) => wp_Mo_expression 250 0 A7 (fun (r9 : Int32) (A8 : Mem) => wp_Mo_setExpr 250 2 r9 A8 K))) := by
  refine z_target hB hlo h (fun A1 h1 => z_need hB h1 (by decide) (fun A2 h2 => ?_))
  simp only [bnd_as, bnd_ok] at h2
  refine z_expr (on := false) hB hlo h2 (fun p' x' hx => ?_) (by omega) (fun r3 A3 h3 => z_setExpr hB h3 (j := 2) (by omega) (fun A4 h4 => ?_))
  · obtain ⟨p1, a1, e1, hx⟩ := bnd_inv hx
    obtain ⟨p2, a2, e2, hx⟩ := bnd_inv hx
    cases hx
    refine ⟨?_, fun h => by cases h⟩
    unfold tgX
    split <;> exact Nat.zero_le _
  · simp only [bnd_as, bnd_ok, fE, eSum_off] at h4
    simp only [pRest, OKP_bnd] at kk
    refine MSx_case h4 (OKP_and kk pTgt_sh) (fun p1 t h4 kk => ?_) (fun q hb kb => kbE (by omega) q hb kb.1)
    obtain ⟨kk, hsh⟩ := kk
    obtain ⟨t1, t2⟩ := t
    rcases hsh with ⟨h26, a, b, rfl⟩ | ⟨h26, rfl⟩
    · simp only [tgX] at h4
      refine MSx_case h4 kk (fun p2 _ h4 k2 => MSx_case h4 k2 (fun p3 os h4 k3 => k3 A4 (MFin_mk hB h4 (fun hl => ?_))) (kbE (by omega))) (kbE (by omega))
      refine ⟨by simp [us], Or.inl ⟨h26, a, b, os, rfl, ?_, ?_, ?_⟩⟩
      · exact cdAt_mk (a := []) (c := enc b ++ [14] ++ (enc os ++ [14])) (by simp) (by simp [us]) hl
      · exact cdAt_mk (a := enc a ++ [14]) (c := enc os ++ [14]) (by simp) (by simp [us]) hl
      · exact cdAt_mk (a := enc a ++ [14] ++ (enc b ++ [14])) (c := []) (by simp) (by simp [us]) hl
    · simp only [tgX] at h4
      refine MSx_case h4 kk (fun p2 _ h4 k2 => MSx_case h4 k2 (fun p3 os h4 k3 => k3 A4 (MFin_mk hB h4 (fun hl => ?_))) (kbE (by omega))) (kbE (by omega))
      refine ⟨by simp [us], Or.inr ⟨h26, os, rfl, ?_⟩⟩
      exact cdAt_mk (a := []) (c := []) (by simp) (by simp [us]) hl
theorem z_read {K : Mem → Prop} (hB : MB0 A0 T n) (hlo : 1 ≤ lo) (h : MSx A0 n lo 0 0 (.ok (p, (0, [], ag, ex))) A) (kk : OKP (pRest T n 9 p) (KG A0 n lo K) (KB A0 n K)) : wp_Mo_target 250 A K := by
  refine z_target hB hlo h (fun A1 h1 => ?_)
  simp only [pRest, OKP_bnd] at kk
  refine MSx_case h1 (OKP_and kk pTgt_sh) (fun p1 t h4 kk => ?_) (fun q hb kb => kbE (by omega) q hb kb.1)
  obtain ⟨kk, hsh⟩ := kk
  obtain ⟨t1, t2⟩ := t
  rcases hsh with ⟨h26, a, b, rfl⟩ | ⟨h26, rfl⟩
  · simp only [tgX] at h4
    refine kk A1 (MFin_mk hB h4 (fun hl => ⟨by simp [us], Or.inl ⟨h26, a, b, rfl, ?_, ?_⟩⟩))
    · exact cdAt_mk (a := []) (c := enc b ++ [14]) (by simp) (by simp [us]) hl
    · exact cdAt_mk (a := enc a ++ [14]) (c := []) (by simp) (by simp [us]) hl
  · simp only [tgX] at h4
    exact kk A1 (MFin_mk hB h4 (fun hl => ⟨by simp [us], Or.inr ⟨h26, rfl⟩⟩))
theorem z_goto {K : Mem → Prop} {kd : Nat} (hkd : kd = 3 ∨ kd = 5) (hB : MB0 A0 T n) (h : MSx A0 n lo 0 0 (.ok (p, (0, [], ag, ex))) A) (kk : OKP (pRest T n kd p) (KG A0 n lo K) (KB A0 n K)) : wp_Mo_lineNumber 250 A (fun (r19 : Int32) (A18 : Mem) => wp_Mo_setArg 250 0 r19 A18 K) := by
  refine z_ln hB h (fun r1 A1 h1 => z_setArg hB h1 (j := 0) (by omega) (fun A2 h2 => ?_))
  simp only [bnd_as, bnd_ok] at h2
  rcases hkd with rfl | rfl
  · simp only [pRest, OKP_bnd] at kk
    exact MSx_case h2 kk (fun p1 v h2 kk => kk A2 (MFin_mk hB h2 (fun hl => ⟨v, rfl, by simp [us]⟩))) (kbE (by omega))
  · simp only [pRest, OKP_bnd] at kk
    exact MSx_case h2 kk (fun p1 v h2 kk => kk A2 (MFin_mk hB h2 (fun hl => ⟨v, rfl, by simp [us]⟩))) (kbE (by omega))
theorem z_next {K : Mem → Prop} (hB : MB0 A0 T n) (h : MSx A0 n lo 0 0 (.ok (p, (0, [], ag, ex))) A) (kk : OKP (pRest T n 8 p) (KG A0 n lo K) (KB A0 n K)) : wp_Mo_variable0 250 A (fun (r34 : Int32) (A33 : Mem) => wp_Mo_setArg 250 0 r34 A33 K) := by
  refine z_var hB h (fun r1 A1 h1 => z_setArg hB h1 (j := 0) (by omega) (fun A2 h2 => ?_))
  simp only [bnd_as, bnd_ok] at h2
  simp only [pRest, OKP_bnd] at kk
  exact MSx_case h2 kk (fun p1 v h2 kk => kk A2 (MFin_mk hB h2 (fun hl => by simp [MLd, us]))) (kbE (by omega))
theorem z_dim {K : Mem → Prop} (hB : MB0 A0 T n) (h : MSx A0 n lo 0 0 (.ok (p, (0, [], ag, ex))) A) (kk : OKP (pRest T n 12 p) (KG A0 n lo K) (KB A0 n K)) : wp_Mo_dim 250 A K := by
  refine ⟨rfl, z_mat hB h (fun r1 A1 h1 => z_setArg hB h1 (j := 0) (by omega) (fun A2 h2 => z_need hB h2 (by decide) (fun A3 h3 => z_one hB h3 (fun r4 A4 h4 => z_setArg hB h4 (j := 1) (by omega) (fun A5 h5 => z_need hB h5 (by decide) (fun A6 h6 => z_one hB h6 (fun r7 A7 h7 => z_setArg hB h7 (j := 2) (by omega) (fun A8 h8 => z_need hB h8 (by decide) (fun A9 h9 => ?_)))))))))⟩
  simp only [bnd_as, bnd_ok] at h9
  simp only [pRest, OKP_bnd] at kk
  refine MSx_case h9 kk (fun p1 a h kk => MSx_case h kk (fun p2 _ h kk => MSx_case h kk (fun p3 r h kk => MSx_case h kk (fun p4 _ h kk => MSx_case h kk (fun p5 c h kk => MSx_case h kk (fun p6 _ h kk => kk A9 (MFin_mk hB h (fun hl => ?_))) (kbE (by omega))) (kbE (by omega))) (kbE (by omega))) (kbE (by omega))) (kbE (by omega))) (kbE (by omega))
  exact ⟨by simp [us], r, c, rfl, by simp [us], by simp [us]⟩
end YX2
