/-! the reference's parser: ON, DEF, MAT -/
theorem pLN_gt {T : Nat → Int32} {n p : Nat} : OKP (pLN T n p) (fun p1 _ => p < p1) (fun _ => True) := by
  unfold pLN
  split
  · trivial
  · split
    · split
      · exact Nat.lt_succ_self p
      · trivial
    · split
      · split
        · show p < p + 2; omega
        · trivial
      · split
        · trivial
        · show p < p + 3; omega
section YX4
variable {A0 : Mem} {T : Nat → Int32} {n lo w e : Nat} {A : Mem} {p : Nat} {ag ex : Nat → Int32}
def pOn2 (T : Nat → Int32) (n p : Nat) : PR LDT := bnd (eSum T n true 8 p 0) fun p1 e => bnd (pWd T n [71, 79, 84, 79] p1) fun p2 _ => bnd (pJmps T n p2) fun p3 vs => .ok (p3, 4, 0, 0, vs, [e], [])
theorem z_choice {K : Mem → Prop} (hB : MB0 A0 T n) (hlo : 1 ≤ lo) (h : MSx A0 n lo 0 0 (.ok (p, (0, [], ag, ex))) A) (kk : OKP (pOn2 T n p) (KG A0 n lo K) (KB A0 n K)) : wp_Mo_choice 250 A K := by
  refine ⟨rfl, z_expr (on := true) hB hlo h (fun p' x' hx => by cases hx; exact ⟨Nat.zero_le _, fun _ => rfl⟩) (by omega) (fun r1 A1 h1 => z_setExpr hB h1 (j := 0) (by omega) (fun A2 h2 => z_tw1 (i := 3) hB h2 (by omega) rfl (fun r3 A3 h3 => ?_)))⟩
  simp only [bnd_as, bnd_ok, fE] at h3
  simp only [pOn2, OKP_bnd] at kk
  have eB : ∀ q A' r, MBd A0 n q 145 A' → KB A0 n K q → wp_Mo_setArg 250 (iN 0) r A' K := fun q A' r hb kb => w_setArg hB hb.1 (by omega) (kb _ (MBd_arg hb))
  have lB : ∀ q, MBd A0 n q (130 + 1) A3 → KB A0 n K q → ∃ n9, wp_Mo_choice_c19 K n9 250 0 A3 := fun q hb kb => ⟨1, rfl, fun _ => eB q A3 _ (MBd_mono hb (by omega)) kb, fun h => absurd h (MBd_ne hb)⟩
  refine MSx_case h3 kk (fun p1 os h3 kk => MSx_case h3 kk (fun p2 _ h3 kk => ?_) lB) lB
  obtain ⟨wt, hG, hl⟩ := MSx_ok h3
  have hn := hB.2.1
  have hpn := hG.2.1
  have hlE : (enc os).length + 1 ≤ 145 := by simp at hl; omega
  -- a turn: nu is what was parsed
  have stp1 : ∀ (k fu q : Nat) (nu : List Int32) (g : Nat → Int32) (A' : Mem), nu.length + k + 1 = 4 → p2 ≤ q → lsI (fun k => g (k + 1)) nu → MG A0 n lo wt q ((0, [] ++ enc os ++ [14], g, us ex 0 (iN ([] : List Int32).length)) : MT) A' → OKP (bnd (pLN T n q) fun p1 v => pJmpL T n k p1 (nu ++ [v])) (fun p3 vs => KG A0 n lo K p3 (4, 0, 0, vs, [os], [])) (KB A0 n K) →
      (∀ (q2 : Nat) (v : Int32) (g2 : Nat → Int32) A2, 1 ≤ k → p2 ≤ q2 → lsI (fun k => g2 (k + 1)) (nu ++ [v]) → MG A0 n lo wt q2 ((0, [] ++ enc os ++ [14], g2, us ex 0 (iN ([] : List Int32).length)) : MT) A2 → OKP (bnd (pLN T n q2) fun p1 v2 => pJmpL T n (k - 1) p1 (nu ++ [v] ++ [v2])) (fun p3 vs => KG A0 n lo K p3 (4, 0, 0, vs, [os], [])) (KB A0 n K) → wp_Mo_choice_c19 K fu 250 (iN (nu ++ [v]).length) A2) → wp_Mo_choice_c19 K (fu + 1) 250 (iN nu.length) A' := by
    intro k fu q nu g A' hk hq hls hG' kk next
    rw [OKP_bnd] at kk
    have eG : ∀ (q : Nat) (vs : List Int32) (g : Nat → Int32) A', vs.length ≤ 4 → lsI (fun k => g (k + 1)) vs → MG A0 n lo wt q ((0, [] ++ enc os ++ [14], g, us ex 0 (iN ([] : List Int32).length)) : MT) A' → KG A0 n lo K q (4, 0, 0, vs, [os], []) → wp_Mo_setArg 250 (iN 0) (iN vs.length) A' K := fun q vs g A' hvs hls hG kg =>
      w_setArg hB hG.1 (by omega) (kg _ ⟨wt, _, MG_arg hG, by simp; omega, ⟨os, rfl, cdAt_mk (a := []) (c := []) (by simp) (by simp [us]) (by simp; omega)⟩, by simp [us], hvs, fun j y hj => by simpa [us] using hls j y hj⟩)
    refine ⟨rfl, fun h7 => absurd (MG_e hG') h7, fun _ => ⟨fun h4 => ?_, fun _ => y_ln hB (w := 2) (e := 1) (st := .ok (q, ((0, [] ++ enc os ++ [14], g, us ex 0 (iN ([] : List Int32).length)) : MT))) ⟨hG', by simp at hl ⊢; omega⟩ (fun r A1 h1 => ?_)⟩⟩
    · rw [show (4 : Int32) = iN 4 from rfl, iN_le (by omega) (by omega)] at h4
      omega
    · rw [bnd_ok] at h1
      rw [iN_1, show (4 : Int32) = iN 4 from rfl, iN_eq (by omega) (by omega)]
      cases hp : pLN T n q with
      | error q1 =>
        rw [hp] at h1 kk
        have hb : MBd A0 n q1 145 A1 := MBd_mono h1 (by omega)
        have hb2 : MBd A0 n q1 145 (sI A1 255 (192 + (nu.length + 1)) r) := MBd_arg hb
        exact w_setArg hB hb.1 (by omega) ⟨fun _ => eB q1 _ _ hb2 kk, fun _ => y_takeB hb2 ⟨fun h => (by cases h), fun _ => eB q1 _ _ hb2 kk⟩⟩
      | ok z =>
        obtain ⟨q1, v⟩ := z
        rw [hp] at h1 kk
        obtain ⟨⟨hG1, hl1⟩, rfl⟩ := h1
        have hqq : q < q1 := by
          have := pLN_gt (T := T) (n := n) (p := q)
          rw [hp] at this
          exact this
        have kk : OKP (pJmpL T n k q1 (nu ++ [r])) _ _ := kk
        have hG2 := MG_arg (j := nu.length + 1) (v := r) hG1
        have hls2 : lsI (fun k => us g (nu.length + 1) r (k + 1)) (nu ++ [r]) := by
          refine lsI_push hls (fun j hj => us_ne (by omega)) us_eq
        refine w_setArg hB hG1.1 (by omega) ⟨fun h4 => ?_, fun h4 => y_take hB hG2 (by decide) (fun hc A5 hG6 => ⟨fun _ => ?_, fun h => (by cases h)⟩) (fun hc => ⟨fun h => (by cases h), fun _ => ?_⟩)⟩
        · obtain rfl : k = 0 := by omega
          have := eG q1 (nu ++ [r]) _ _ (by simp; omega) hls2 hG2 kk
          rw [show (nu ++ [r]).length = nu.length + 1 by simp] at this
          exact this
        · obtain ⟨k, rfl⟩ : ∃ g, k = g + 1 := ⟨k - 1, by omega⟩
          unfold pJmpL at kk
          rw [if_pos hc] at kk
          have := next (q1 + 1) r _ A5 (by omega) (by omega) hls2 hG6 kk
          simpa using this
        · obtain ⟨k, rfl⟩ : ∃ g, k = g + 1 := ⟨k - 1, by omega⟩
          unfold pJmpL at kk
          rw [if_neg hc] at kk
          have := eG q1 (nu ++ [r]) _ _ (by simp; omega) hls2 hG2 kk
          rw [show (nu ++ [r]).length = nu.length + 1 by simp] at this
          exact this
  have lp : ∀ (k fu q : Nat) (nu : List Int32) (g : Nat → Int32) (A' : Mem), nu.length + k + 1 = 4 → p2 ≤ q → k < fu → lsI (fun k => g (k + 1)) nu → MG A0 n lo wt q ((0, [] ++ enc os ++ [14], g, us ex 0 (iN ([] : List Int32).length)) : MT) A' → OKP (bnd (pLN T n q) fun p1 v => pJmpL T n k p1 (nu ++ [v])) (fun p3 vs => KG A0 n lo K p3 (4, 0, 0, vs, [os], [])) (KB A0 n K) → wp_Mo_choice_c19 K fu 250 (iN nu.length) A' := by
    intro k
    induction k with
    | zero =>
      intro fu q nu g A' hk hq hfu hls hG kk
      obtain ⟨fu, rfl⟩ : ∃ g, fu = g + 1 := ⟨fu - 1, by omega⟩
      exact stp1 0 fu q nu g A' hk hq hls hG kk (fun q2 v g2 A2 h1 => absurd h1 (by omega))
    | succ k ih =>
      intro fu q nu g A' hk hq hfu hls hG kk
      obtain ⟨fu, rfl⟩ : ∃ g, fu = g + 1 := ⟨fu - 1, by omega⟩
      exact stp1 (k + 1) fu q nu g A' hk hq hls hG kk (fun q2 v g2 A2 h1 h2 h3 h4 h5 => ih fu q2 (nu ++ [v]) g2 A2 (by simp; omega) h2 (by omega) h3 h4 h5)
  refine ⟨5, lp 3 5 p2 [] ag A3 rfl (Nat.le_refl _) (by omega) (lsI_nil _) hG ?_⟩
  simp only [OKP_bnd]
  simp only [pJmps, OKP_bnd] at kk
  exact kk
theorem z_def {K : Mem → Prop} (hB : MB0 A0 T n) (hlo : 1 ≤ lo) (h : MSx A0 n lo 0 0 (.ok (p, (0, [], ag, ex))) A) (kk : OKP (bnd (pWd T n [70, 78] p) fun p1 _ => pRest T n 13 p1) (KG A0 n lo K) (KB A0 n K)) : wp_Mo_def 250 A K := by
  refine ⟨rfl, z_tw1 (i := 27) hB h (by omega) rfl (fun r1 A1 h1 => ?_)⟩
  simp only [bnd_ok] at h1
  -- behind the function's letter
  have c51 : ∀ (st : PR MT) (x1 : Int32) A2, MSx A0 n lo 0 0 st A2 → opS st 0 → (∀ A', MSx A0 n lo 2 1 (bnd st fun p x => bnd (pCh T n 40 p) fun p1 _ => bnd (pVar T n p1) fun p2 a => bnd (pCh T n 41 p2) fun p3 _ => bnd (pCh T n 61 p3) fun p4 _ => bnd (dSum T n false 8 p4 x.1) fun p5 os => .ok (p5, (x.1, x.2.1 ++ enc os ++ [14], us (us x.2.2.1 0 (x1 - 65)) 1 a, us x.2.2.2 0 (iN x.2.1.length)))) A' → K A') → wp_Mo_def_c51 K 250 x1 A2 := by
    intro st x1 A2 h2 hop k
    refine ⟨rfl, z_setArgC hB h2 (j := 0) (by omega) (fun A3 h3 => z_need hB h3 (by decide) (fun A4 h4 => z_var hB h4 (fun r5 A5 h5 => z_setArg hB h5 (j := 1) (by omega) (fun A6 h6 => z_need hB h6 (by decide) (fun A7 h7 => z_need hB h7 (by decide) (fun A8 h8 => z_expr (on := false) hB hlo h8 (fun p' x' hx => ?_) (by omega) (fun r9 A9 h9 => z_setExpr hB h9 (j := 0) (by omega) (fun A10 h10 => k A10 ?_))))))))⟩
    · simp only [bnd_as, bnd_ok] at hx
      obtain ⟨p1, a1, e1, hx⟩ := bnd_inv hx
      obtain ⟨p2, a2, e2, hx⟩ := bnd_inv hx
      obtain ⟨p3, a3, e3, hx⟩ := bnd_inv hx
      obtain ⟨p4, a4, e4, hx⟩ := bnd_inv hx
      obtain ⟨p5, a5, e5, hx⟩ := bnd_inv hx
      cases hx
      have := hop _ _ e1
      exact ⟨by show a1.1 ≤ 1; omega, fun h => by cases h⟩
    · simp only [bnd_as, bnd_ok, fE, eSum_off] at h10
      exact h10
  simp only [OKP_bnd] at kk
  refine MSx_case h1 kk (fun p1 _ h1 kk => ?_) (fun q hb kb => ?_)
  · obtain ⟨wt, hG, hl⟩ := MSx_ok h1
    simp only [pRest, OKP_bnd] at kk
    have nf := lk_isF (T := T) (n := n) (p := p1)
    have bad : isF (chr T n p1) = false → wp_Mo_def_c51 K 250 (lk0 T n p1) (sI A1 250 7 1) := by
      intro hf
      have hb : MBd A0 n p1 130 (sI A1 250 7 1) := MG_bad hG (by simp)
      unfold pFn at kk
      rw [if_neg (by rw [hf]; decide)] at kk
      refine c51 (.error p1) _ _ ⟨wt, hb⟩ (fun p x h => by cases h) (fun A' h => ?_)
      exact kbE (e := 1) (by omega) p1 h.choose_spec kk
    refine y_look hB hG ?_
    simp only [i32_lt, Decidable.not_not]
    refine ⟨fun h65 => bad (by rw [← nf]; simp [isF, h65]), fun h65 => ⟨fun h67 => ⟨fun h7 => absurd (MG_e hG) h7, fun _ => ?_⟩, fun h67 => bad (by rw [← nf]; simp [isF, h67])⟩⟩
    have hf : isF (chr T n p1) = true := by rw [← nf]; simp [isF, h65, h67]
    have hp1 := isF_lt hf
    unfold pFn at kk
    rw [if_pos hf] at kk
    rw [lk_chr hp1]
    refine c51 (.ok (p1 + 1, ((0, [], ag, ex) : MT))) _ _ ⟨wt, MG_on hG hp1, by simp⟩ opS_ok (fun A' h => ?_)
    simp only [bnd_ok] at h
    have kk : OKP (pCh T n 40 (p1 + 1)) _ _ := kk
    refine MSx_case h kk (fun p2 _ h kk => MSx_case h kk (fun p3 a h kk => MSx_case h kk (fun p4 _ h kk => MSx_case h kk (fun p5 _ h kk => MSx_case h kk (fun p6 os h kk => kk A' (MFin_mk hB h (fun hl => ?_))) (kbE (by omega))) (kbE (by omega))) (kbE (by omega))) (kbE (by omega))) (kbE (by omega))
    exact ⟨by simp [us], by simp [us], os, rfl, cdAt_mk (a := []) (c := []) (by simp) (by simp [us]) hl⟩
  · have hb' : MBd A0 n q 130 A1 := hb
    have c : ∀ x1 A2, MBd A0 n q 130 A2 → wp_Mo_def_c51 K 250 x1 A2 := fun x1 A2 hb2 => c51 (.error q) _ _ ⟨fun _ => 0, hb2⟩ (fun p x h => by cases h) (fun A' h => kbE (e := 1) (by omega) q h.choose_spec kb)
    exact y_lookB hB hb' (fun r => ⟨fun _ => c _ _ (MBd_7 hb'), fun _ => ⟨fun _ => ⟨fun _ => c _ _ hb', fun h => absurd h (MBd_ne hb')⟩, fun _ => c _ _ (MBd_7 hb')⟩⟩)
/-- the four forms of MAT that have a word -/
theorem kwMat (T : Nat → Int32) (n p : Nat) : pKwL T n p (mwR 20 23) 20 0 =
    (if chr T n p = 67 then bnd (pWd T n [67, 79, 78] p) fun p1 _ => .ok (p1, 21)
    else if chr T n p = 73 then bnd (pWd T n [73, 68, 78] p) fun p1 _ => .ok (p1, 22)
    else if chr T n p = 84 then bnd (pWd T n [84, 82, 78] p) fun p1 _ => .ok (p1, 23)
    else if chr T n p = 90 then bnd (pWd T n [90, 69, 82] p) fun p1 _ => .ok (p1, 20)
    else .error p) := by
  have e : mwR 20 23 = [[90, 69, 82], [67, 79, 78], [73, 68, 78], [84, 82, 78]] := rfl
  rw [e]
  simp only [pWd_sh]
  have z : ∀ (c : Int32) (r : List Int32), chr T n p ≠ c → pSh T n (c :: r) p = 0 := fun c r h => by unfold pSh; rw [if_neg h]
  by_cases c67 : chr T n p = 67
  · rw [if_pos c67]
    simp only [pKwL, z 90 _ (by rw [c67]; decide), z 73 _ (by rw [c67]; decide), z 84 _ (by rw [c67]; decide)]
    simp only [show ¬ (0 = ([90, 69, 82] : List Int32).length) by decide, show ¬ (0 = ([73, 68, 78] : List Int32).length) by decide, show ¬ (0 = ([84, 82, 78] : List Int32).length) by decide, if_false]
    split <;> simp [bnd]
  · rw [if_neg c67]
    by_cases c73 : chr T n p = 73
    · rw [if_pos c73]
      simp only [pKwL, z 90 _ (by rw [c73]; decide), z 67 _ (by rw [c73]; decide), z 84 _ (by rw [c73]; decide)]
      simp only [show ¬ (0 = ([90, 69, 82] : List Int32).length) by decide, show ¬ (0 = ([67, 79, 78] : List Int32).length) by decide, show ¬ (0 = ([84, 82, 78] : List Int32).length) by decide, if_false]
      split <;> simp [bnd]
    · rw [if_neg c73]
      by_cases c84 : chr T n p = 84
      · rw [if_pos c84]
        simp only [pKwL, z 90 _ (by rw [c84]; decide), z 67 _ (by rw [c84]; decide), z 73 _ (by rw [c84]; decide)]
        simp only [show ¬ (0 = ([90, 69, 82] : List Int32).length) by decide, show ¬ (0 = ([67, 79, 78] : List Int32).length) by decide, show ¬ (0 = ([73, 68, 78] : List Int32).length) by decide, if_false]
        split <;> simp [bnd]
      · rw [if_neg c84]
        by_cases c90 : chr T n p = 90
        · rw [if_pos c90]
          simp only [pKwL, z 84 _ (by rw [c90]; decide), z 67 _ (by rw [c90]; decide), z 73 _ (by rw [c90]; decide)]
          simp only [show ¬ (0 = ([84, 82, 78] : List Int32).length) by decide, show ¬ (0 = ([67, 79, 78] : List Int32).length) by decide, show ¬ (0 = ([73, 68, 78] : List Int32).length) by decide, if_false]
          split <;> simp [bnd]
        · rw [if_neg c90]
          simp only [pKwL, z 84 _ c84, z 67 _ c67, z 73 _ c73, z 90 _ c90]
          simp
theorem pWd_snoc (T : Nat → Int32) (n : Nat) : ∀ (w : List Int32) (c : Int32) (p : Nat), pWd T n (w ++ [c]) p = bnd (pWd T n w p) fun p1 _ => pCh T n c p1 := by
  intro w
  induction w with
  | nil => intro c p; rfl
  | cons d r ih =>
    intro c p
    show (if chr T n p = d then pWd T n (r ++ [c]) (p + 1) else .error p) = bnd (if chr T n p = d then pWd T n r (p + 1) else .error p) _
    split
    · exact ih c (p + 1)
    · rfl
end YX4
