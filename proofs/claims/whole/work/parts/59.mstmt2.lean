/-! the reference's parser: statement, whole -/
theorem kd_bnd {α : Type} {r : PR α} {f : Nat → α → PR LDT} {k : Nat} (h : ∀ p a, OKP (f p a) (fun _ d => d.1 = k) (fun _ => True)) : OKP (bnd r f) (fun _ d => d.1 = k) (fun _ => True) := by
  rw [OKP_bnd]
  exact OKP_tr h
theorem pRest_kind (T : Nat → Int32) (n p : Nat) : ∀ k, k < 17 → OKP (pRest T n k p) (fun _ d => d.1 = k) (fun _ => True)
  | 0, _ => kd_bnd fun _ _ => kd_bnd fun _ _ => kd_bnd fun _ _ => rfl
  | 1, _ => kd_bnd fun _ _ => rfl
  | 2, _ => kd_bnd fun _ _ => kd_bnd fun _ _ => kd_bnd fun _ _ => kd_bnd fun _ _ => kd_bnd fun _ _ => rfl
  | 3, _ => kd_bnd fun _ _ => rfl
  | 4, _ => kd_bnd fun _ _ => kd_bnd fun _ _ => kd_bnd fun _ _ => rfl
  | 5, _ => kd_bnd fun _ _ => rfl
  | 6, _ => rfl
  | 7, _ => kd_bnd fun _ _ => kd_bnd fun _ _ => kd_bnd fun _ _ => kd_bnd fun _ _ => kd_bnd fun _ _ => kd_bnd fun _ _ => rfl
  | 8, _ => kd_bnd fun _ _ => rfl
  | 9, _ => kd_bnd fun _ _ => rfl
  | 10, _ => kd_bnd fun _ _ => rfl
  | 11, _ => rfl
  | 12, _ => kd_bnd fun _ _ => kd_bnd fun _ _ => kd_bnd fun _ _ => kd_bnd fun _ _ => kd_bnd fun _ _ => kd_bnd fun _ _ => rfl
  | 13, _ => kd_bnd fun _ _ => kd_bnd fun _ _ => kd_bnd fun _ _ => kd_bnd fun _ _ => kd_bnd fun _ _ => kd_bnd fun _ _ => rfl
  | 14, _ => kd_bnd fun _ _ => kd_bnd fun _ _ => kd_bnd fun _ _ => rfl
  | 15, _ => rfl
  | 16, _ => rfl
  | k + 17, h => absurd h (by omega)
section YZ
variable {A0 : Mem} {T : Nat → Int32} {wt : Nat → Int32} {n lo : Nat} {A : Mem} {p : Nat} {ag ex : Nat → Int32}
/-- what is asked of the end of a statement -/
abbrev SG (A0 : Mem) (n lo : Nat) (K : Mem → Prop) : Nat → LDT → Prop := fun p2 d => ∀ A', MFin (sI A0 254 24 (iN d.1)) n lo p2 d A' → K A'
abbrev sBd (A0 : Mem) (n : Nat) (K : Mem → Prop) : Nat → Prop := fun q => ∀ s A', MBd (sI A0 254 24 s) n q 150 A' → K A'
theorem fin_ok {K : Mem → Prop} {k : Nat} {r : PR LDT} (hk : k < 17) (hk2 : k ≠ 15) (hB : MB0 (sI A0 254 24 (iN k)) T n) (hr : OKP r (fun _ d => d.1 = k) (fun _ => True)) (kk : OKP (bnd r (chk n)) (SG A0 n lo K) (sBd A0 n K)) : OKP r (KG (sI A0 254 24 (iN k)) n lo (fun A' => wp_Mo_statement_c175 K 250 (iN k) A')) (KB (sI A0 254 24 (iN k)) n (fun A' => wp_Mo_statement_c175 K 250 (iN k) A')) := by
  rw [OKP_bnd] at kk
  refine OKP_mono (OKP_and kk hr) (fun p2 d h A' hM => ?_) (fun q h A' hb => c175_bad hk hk2 hb (fun A2 h2 => h.1 _ A2 h2))
  obtain ⟨h1, h2⟩ := h
  refine c175_ok hk hk2 hB hM (fun e => ?_) (fun e A2 hb => ?_)
  · unfold chk at h1
    rw [if_pos e] at h1
    have h1 : ∀ A', MFin (sI A0 254 24 (iN d.1)) n lo p2 d A' → K A' := h1
    rw [h2] at h1
    exact h1 A' hM
  · unfold chk at h1
    rw [if_neg e] at h1
    exact h1 _ A2 hb
theorem fin_mono {K K' : Mem → Prop} {A1 : Mem} {r : PR LDT} (h : OKP r (KG A1 n lo K) (KB A1 n K)) (hk : ∀ A', K A' → K' A') : OKP r (KG A1 n lo K') (KB A1 n K') :=
  OKP_mono h (fun p2 d h A' hM => hk A' (h A' hM)) (fun q h A' hb => hk A' (h A' hb))
theorem z_statement {K : Mem → Prop} (hB0 : MB0 A0 T n) (hlo : 1 ≤ lo) (h0 : MG A0 n lo wt p (0, [], ag, ex) A) (kk0 : OKP (bnd (pKw T n p) fun p1 k => bnd (pRest T n k p1) (chk n)) (SG A0 n lo K) (sBd A0 n K)) : wp_Mo_statement 250 A K := by
  rw [kw_rel, OKP_bnd] at kk0
  refine ⟨rfl, y_takeWord (a := 0) (b := 16) (w := 0) (e := 0) hB0 (show MS A0 n lo wt 0 0 (.ok (p, ((0, [], ag, ex) : MT))) A from ⟨h0, by simp⟩) (by omega) (by omega) (fun i _ h1 j _ h2 h3 => mw_pf i (by omega) j (by omega) h3) (fun r A1 h1 => ?_)⟩
  rw [bnd_ok] at h1
  have hkk := kw_cases (T := T) (n := n) (p := p) (mwR 0 16) 0 0
  cases hr : pKwL T n p (mwR 0 16) 0 0 with
  | error q =>
    rw [hr] at h1 kk0
    have hb : MBd A0 n q 130 A1 := h1
    have hW := (FrM_n hB0 hb.1).2.2.2
    rw [hW.1 11 (by omega) (by omega), show (24 : Int32) = iN 24 from rfl, iN_cl (by omega)]
    have hb2 : MBd (sI A0 254 24 r) n q 130 (sI A1 254 24 r) := MBd_base hb
    exact ⟨rfl, iN_in (m := 25) (by omega) (by omega), fun h7 => absurd h7 (MBd_ne hb2), fun _ => kk0 r _ (MBd_mono hb2 (by omega))⟩
  | ok z =>
    obtain ⟨p1, k⟩ := z
    have hk : k < 17 := by
      rcases hkk with ⟨idx, hi, h2, h3⟩ | ⟨h2, M, h3, -⟩
      · rw [hr] at h3
        cases h3
        have := (mwR_get (a := 0) (b := 16) (by omega) hi).2
        omega
      · rw [hr] at h3; cases h3
    rw [hr] at h1 kk0
    obtain ⟨⟨hG1, hl1⟩, hr1⟩ := h1
    have hr1 : r = iN k := hr1
    subst hr1
    have hW := (FrM_n hB0 hG1.1).2.2.2
    rw [hW.1 11 (by omega) (by omega), show (24 : Int32) = iN 24 from rfl, iN_cl (by omega)]
    have hB : MB0 (sI A0 254 24 (iN k)) T n := MB0_base hB0
    have hG : MG (sI A0 254 24 (iN k)) n lo wt p1 ((0, [], ag, ex) : MT) (sI A1 254 24 (iN k)) := MG_base hG1
    have kk : OKP (kwG T n (fun p1 k => bnd (pRest T n k p1) (chk n)) p1 k) (SG A0 n lo K) (sBd A0 n K) := kk0
    clear kk0 hr hkk
    refine ⟨rfl, iN_in (m := 25) (by omega) (by omega), fun _ => ?_, fun h7 => absurd (MG_e hG) h7⟩
    generalize hA2 : sI A1 254 24 (iN k) = A2 at *
    have hS : MSx (sI A0 254 24 (iN k)) n lo 0 0 (.ok (p1, ((0, [], ag, ex) : MT))) A2 := ⟨wt, hG, by simp⟩
    dsimp only [kwG] at kk
    -- the chains behind
    have e72 : ∀ A', k ≠ 3 → k ≠ 5 → k ≠ 4 → k ≠ 7 → k ≠ 8 → k ≠ 9 → k ≠ 10 → k ≠ 12 → k ≠ 13 → k ≠ 14 → wp_Mo_statement_c175 K 250 (iN k) A' → wp_Mo_statement_c72 K 250 (iN k) A' := fun A' h3 h5 h4 h7 h8 h9 h10 h12 h13 h14 h => c72_sk hk h3 h5 (c91_sk hk h4 h7 (c110_sk hk h8 h9 (c135_sk hk h10 h12 (c155_sk hk h13 h14 h))))
    match k, hk with
    | 0, _ =>
      rw [if_neg (by omega)] at kk
      refine ⟨fun h => absurd rfl h, fun _ => z_let hB hlo hS (fin_mono (fin_ok (by omega) (by omega) hB (pRest_kind T n p1 0 (by omega)) kk) (fun A' h => c48_sk (by omega) (by omega) (by omega) (e72 A' (by omega) (by omega) (by omega) (by omega) (by omega) (by omega) (by omega) (by omega) (by omega) (by omega) h)))⟩
    | 1, _ =>
      rw [if_neg (by omega)] at kk
      refine ⟨fun _ => ⟨fun h => absurd rfl h, fun _ => ⟨rfl, z_print hB hlo hS (fin_mono (fin_ok (by omega) (by omega) hB (pRest_kind T n p1 1 (by omega)) kk) (fun A' h => sk (k := 1) (by omega) (j := 2) (by omega) (by omega) (e72 A' (by omega) (by omega) (by omega) (by omega) (by omega) (by omega) (by omega) (by omega) (by omega) (by omega) h)))⟩⟩, fun h => absurd h (by decide)⟩
    | 2, _ =>
      rw [if_neg (by omega)] at kk
      refine ⟨fun _ => ⟨fun _ => ⟨fun h => absurd rfl h, fun _ => ⟨rfl, z_cond hB hlo hS (fin_mono (fin_ok (by omega) (by omega) hB (pRest_kind T n p1 2 (by omega)) kk) (fun A' h => e72 A' (by omega) (by omega) (by omega) (by omega) (by omega) (by omega) (by omega) (by omega) (by omega) (by omega) h))⟩⟩, fun h => absurd h (by decide)⟩, fun h => absurd h (by decide)⟩
    | 3, _ =>
      rw [if_neg (by omega)] at kk
      refine ⟨fun _ => c48_sk (by omega) (by omega) (by omega) ⟨fun _ => ⟨rfl, z_goto (Or.inl rfl) hB hS (fin_mono (fin_ok (by omega) (by omega) hB (pRest_kind T n p1 3 (by omega)) kk) (fun A' h => c91_sk (by omega) (by omega) (by omega) (c110_sk (by omega) (by omega) (by omega) (c135_sk (by omega) (by omega) (by omega) (c155_sk (by omega) (by omega) (by omega) h)))))⟩, fun h => absurd rfl h⟩, fun h => absurd h (by decide)⟩
    | 4, _ =>
      rw [if_neg (by omega), ← pOn_eq] at kk
      have hkind : OKP (pOn2 T n p1) (fun _ d => d.1 = 4) (fun _ => True) := by rw [pOn_eq]; exact pRest_kind T n p1 4 (by omega)
      refine ⟨fun _ => c48_sk (by omega) (by omega) (by omega) (c72_sk (by omega) (by omega) (by omega) ⟨fun h => absurd rfl h, fun _ => ⟨rfl, z_choice hB hlo hS (fin_mono (fin_ok (by omega) (by omega) hB hkind kk) (fun A' h => sk (k := 4) (by omega) (j := 7) (by omega) (by omega) (c110_sk (by omega) (by omega) (by omega) (c135_sk (by omega) (by omega) (by omega) (c155_sk (by omega) (by omega) (by omega) h)))))⟩⟩), fun h => absurd h (by decide)⟩
    | 5, _ =>
      rw [if_neg (by omega)] at kk
      refine ⟨fun _ => c48_sk (by omega) (by omega) (by omega) ⟨fun h => absurd h (by decide), fun _ => ⟨fun h => absurd rfl h, fun _ => ⟨rfl, z_goto (Or.inr rfl) hB hS (fin_mono (fin_ok (by omega) (by omega) hB (pRest_kind T n p1 5 (by omega)) kk) (fun A' h => c91_sk (by omega) (by omega) (by omega) (c110_sk (by omega) (by omega) (by omega) (c135_sk (by omega) (by omega) (by omega) (c155_sk (by omega) (by omega) (by omega) h)))))⟩⟩⟩, fun h => absurd h (by decide)⟩
    | 6, _ =>
      rw [if_neg (by omega)] at kk
      have := fin_ok (k := 6) (by omega) (by omega) hB (pRest_kind T n p1 6 (by omega)) kk
      exact ⟨fun _ => c48_sk (by omega) (by omega) (by omega) (e72 A2 (by omega) (by omega) (by omega) (by omega) (by omega) (by omega) (by omega) (by omega) (by omega) (by omega) (this A2 (MFin_mk hB hS (fun _ => trivial)))), fun h => absurd h (by decide)⟩
    | 7, _ =>
      rw [if_neg (by omega), ← pFor_eq] at kk
      have hkind : OKP (pFor2 T n p1) (fun _ d => d.1 = 7) (fun _ => True) := kd_bnd fun _ _ => kd_bnd fun _ _ => kd_bnd fun _ _ => kd_bnd fun _ _ => kd_bnd fun _ _ => kd_bnd fun _ _ => rfl
      refine ⟨fun _ => c48_sk (by omega) (by omega) (by omega) (c72_sk (by omega) (by omega) (by omega) ⟨fun _ => ⟨fun h => absurd rfl h, fun _ => ⟨rfl, z_loop hB hlo hS (fin_mono (fin_ok (by omega) (by omega) hB hkind kk) (fun A' h => c110_sk (by omega) (by omega) (by omega) (c135_sk (by omega) (by omega) (by omega) (c155_sk (by omega) (by omega) (by omega) h))))⟩⟩, fun h => absurd h (by decide)⟩), fun h => absurd h (by decide)⟩
    | 8, _ =>
      rw [if_neg (by omega)] at kk
      refine ⟨fun _ => c48_sk (by omega) (by omega) (by omega) (c72_sk (by omega) (by omega) (by omega) (c91_sk (by omega) (by omega) (by omega) ⟨fun h => absurd rfl h, fun _ => ⟨rfl, z_next hB hS (fin_mono (fin_ok (by omega) (by omega) hB (pRest_kind T n p1 8 (by omega)) kk) (fun A' h => sk (k := 8) (by omega) (j := 9) (by omega) (by omega) (c135_sk (by omega) (by omega) (by omega) (c155_sk (by omega) (by omega) (by omega) h))))⟩⟩)), fun h => absurd h (by decide)⟩
    | 9, _ =>
      rw [if_neg (by omega)] at kk
      refine ⟨fun _ => c48_sk (by omega) (by omega) (by omega) (c72_sk (by omega) (by omega) (by omega) (c91_sk (by omega) (by omega) (by omega) ⟨fun _ => ⟨fun h => absurd rfl h, fun _ => ⟨rfl, z_read hB hlo hS (fin_mono (fin_ok (by omega) (by omega) hB (pRest_kind T n p1 9 (by omega)) kk) (fun A' h => c135_sk (by omega) (by omega) (by omega) (c155_sk (by omega) (by omega) (by omega) h)))⟩⟩, fun h => absurd h (by decide)⟩)), fun h => absurd h (by decide)⟩
    | 10, _ =>
      rw [if_neg (by omega)] at kk
      refine ⟨fun _ => c48_sk (by omega) (by omega) (by omega) (c72_sk (by omega) (by omega) (by omega) (c91_sk (by omega) (by omega) (by omega) (c110_sk (by omega) (by omega) (by omega) ⟨fun h => absurd rfl h, fun _ => ⟨rfl, z_numbers hB hS (fin_mono (fin_ok (by omega) (by omega) hB (pRest_kind T n p1 10 (by omega)) kk) (fun A' h => sk (k := 10) (by omega) (j := 12) (by omega) (by omega) (c155_sk (by omega) (by omega) (by omega) h)))⟩⟩))), fun h => absurd h (by decide)⟩
    | 11, _ =>
      rw [if_neg (by omega)] at kk
      have := fin_ok (k := 11) (by omega) (by omega) hB (pRest_kind T n p1 11 (by omega)) kk
      exact ⟨fun _ => c48_sk (by omega) (by omega) (by omega) (e72 A2 (by omega) (by omega) (by omega) (by omega) (by omega) (by omega) (by omega) (by omega) (by omega) (by omega) (this A2 (MFin_mk hB hS (fun _ => trivial)))), fun h => absurd h (by decide)⟩
    | 12, _ =>
      rw [if_neg (by omega)] at kk
      refine ⟨fun _ => c48_sk (by omega) (by omega) (by omega) (c72_sk (by omega) (by omega) (by omega) (c91_sk (by omega) (by omega) (by omega) (c110_sk (by omega) (by omega) (by omega) ⟨fun _ => ⟨fun h => absurd rfl h, fun _ => ⟨rfl, z_dim hB hS (fin_mono (fin_ok (by omega) (by omega) hB (pRest_kind T n p1 12 (by omega)) kk) (fun A' h => c155_sk (by omega) (by omega) (by omega) h))⟩⟩, fun h => absurd h (by decide)⟩))), fun h => absurd h (by decide)⟩
    | 13, _ =>
      rw [if_pos rfl, ← bnd_as] at kk
      have hkind : OKP (bnd (pWd T n [70, 78] p1) fun p2 _ => pRest T n 13 p2) (fun _ d => d.1 = 13) (fun _ => True) := kd_bnd fun p _ => pRest_kind T n p 13 (by omega)
      refine ⟨fun _ => c48_sk (by omega) (by omega) (by omega) (c72_sk (by omega) (by omega) (by omega) (c91_sk (by omega) (by omega) (by omega) (c110_sk (by omega) (by omega) (by omega) (c135_sk (by omega) (by omega) (by omega) ⟨fun h => absurd rfl h, fun _ => ⟨rfl, z_def hB hlo hS (fin_mono (fin_ok (by omega) (by omega) hB hkind kk) (fun A' h => sk (k := 13) (by omega) (j := 14) (by omega) (by omega) h))⟩⟩)))), fun h => absurd h (by decide)⟩
    | 14, _ =>
      rw [if_neg (by omega)] at kk
      refine ⟨fun _ => c48_sk (by omega) (by omega) (by omega) (c72_sk (by omega) (by omega) (by omega) (c91_sk (by omega) (by omega) (by omega) (c110_sk (by omega) (by omega) (by omega) (c135_sk (by omega) (by omega) (by omega) ⟨fun _ => ⟨fun h => absurd rfl h, fun _ => ⟨rfl, z_matS hB hlo hS (fin_ok (by omega) (by omega) hB (pRest_kind T n p1 14 (by omega)) kk)⟩⟩, fun h => absurd h (by decide)⟩)))), fun h => absurd h (by decide)⟩
    | 15, _ =>
      rw [if_neg (by omega)] at kk
      have hn := hB.2.1
      have hp := hG.2.1
      have hlp := hG.2.2.1
      refine ⟨fun _ => c48_sk (by omega) (by omega) (by omega) (e72 A2 (by omega) (by omega) (by omega) (by omega) (by omega) (by omega) (by omega) (by omega) (by omega) (by omega) ⟨fun h => absurd rfl h, fun _ => ⟨rfl, ?_⟩⟩), fun h => absurd h (by decide)⟩
      have h2 := (FrM_n hB hG.1).1
      rw [h2, gI_ne (by omega), h2, gI_eq]
      refine ⟨fun _ => ?_, fun h => absurd (Int32.le_refl _) h⟩
      have e15 : pRest T n 15 p1 = .ok (n, 15, 0, 0, [], [], []) := rfl
      rw [e15, bnd_ok] at kk
      unfold chk at kk
      rw [if_pos rfl] at kk
      have kk : ∀ A', MFin (sI A0 254 24 (iN 15)) n lo n (15, 0, 0, [], [], []) A' → K A' := kk
      exact kk _ ⟨wt, _, MG_4 hG (Nat.le_refl _) (by omega), by simp, trivial⟩
    | 16, _ =>
      rw [if_neg (by omega)] at kk
      have := fin_ok (k := 16) (by omega) (by omega) hB (pRest_kind T n p1 16 (by omega)) kk
      exact ⟨fun _ => c48_sk (by omega) (by omega) (by omega) (e72 A2 (by omega) (by omega) (by omega) (by omega) (by omega) (by omega) (by omega) (by omega) (by omega) (by omega) (this A2 (MFin_mk hB hS (fun _ => trivial)))), fun h => absurd h (by decide)⟩
    | k + 17, h => exact absurd h (by omega)
end YZ
