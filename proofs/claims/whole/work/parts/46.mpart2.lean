/-! the reference's parser: parts of expressions, all of them -/
theorem i_le109 {m : Int32} (h : m ≤ 109) : m < 110 := by
  rw [Int32.lt_iff_toInt_lt]
  rw [Int32.le_iff_toInt_le] at h
  have e1 : (109 : Int32).toInt = 109 := rfl
  have e2 : (110 : Int32).toInt = 110 := rfl
  omega
section YQ
variable {A0 : Mem} {T : Nat → Int32} {n lo : Nat} {ag ex : Nat → Int32} {K : Int32 → Mem → Prop} {on : Bool} {bg : Int32} {p op fu ins : Nat} {κ σ : List Int32} {A : Mem}
theorem yE_mt {d : Nat} {m0 : Nat} {Sp : PS} (hB : MB0 A0 T n) (hH : HM A0 T n lo ag ex K on bg m0 Sp) (hd : d < 3) (hm0 : m0 ≤ op + 1) (hop : op < 6) (hins : ins ≤ op) (hins2 : op ≤ ins + 1) (hon : on = true → op = ins) (hfu : 62 ≤ fu + (p + 1)) (h : EX A0 n lo ag ex p op κ σ A) (hl : κ.length + σ.length ≤ 2 * p + 1)
    (kk : OKP (bnd (pCh T n 40 p) fun p1 _ => bnd (Sp p1 (op + 1)) fun p2 os => bnd (pCh T n 44 p2) fun p3 _ => bnd (Sp p3 (op + 1)) fun p4 qs => bnd (pCh T n 41 p4) fun p5 _ => .ok (p5, os ++ qs ++ [(2, iN d, 0)])) (fun p' os => ∀ A' fu', 62 ≤ fu' + p' → p < p' → EX A0 n lo ag ex p' op (κ ++ enc os) σ A' → (κ ++ enc os).length + σ.length ≤ 2 * p' + 1 → eLP K on bg fu' σ ins 0 0 A') (fun q => ∀ r A', MBd A0 n q 130 A' → K r A')) :
    wp_Mo_bracket 250 A (fun (A36 : Mem) => kd (gR A36 250 15) = 51 ∧ vp_in (iN σ.length) (al (gR A36 250 15)) ∧ wp_Mo_expression_c16 K fu 250 (bI on) bg (iN σ.length + 1) (iN ins + 1) 1 1 (sI A36 (gR A36 250 15) (Int32.toNatClampNeg (iN σ.length)) (iN (110 + d)))) := by
  have c : ∀ d, d < 3 → (iN (110 + d) ≠ 0 ∧ 100 ≤ iN (110 + d) ∧ 100 ≤ iN (110 + d) + 10 ∧ ¬ iN (110 + d) ≤ 109 ∧ ¬ 120 ≤ iN (110 + d) ∧ ¬ iN (110 + d) < 110 ∧ iN (110 + d) ≤ 119) ∧ (¬ iN (110 + d) + 10 ≤ 119 ∧ 120 ≤ iN (110 + d) + 10 ∧ clM (iN (110 + d) + 10) = [2, iN d]) := by decide +kernel
  obtain ⟨⟨c1, c2, c3, c4, c5, c5', c5''⟩, c6, c7, c8⟩ := c d hd
  have hsl := (yE_f h).2.2.2.2.2.2
  refine yE_mark hB (by omega) hins c1 hfu h hl (fun hx => ?_) (fun h6 hc A1 h1 => ?_)
  · rw [pCh_no (hx.resolve_left (by omega))] at kk; exact kk
  · rw [pCh_ok hc, bnd_ok, OKP_bnd] at kk
    refine hH (p + 1) (op + 1) (ins + 1) fu κ (σ ++ [iN (110 + d)]) A1 hm0 (by omega) (by omega) (by omega) (fun h => by have := hon h; omega) (by omega) (MK_mark c2) hfu h1 (by simp; omega) (i32_lt100 c2) (OKP_mono kk (fun p2 os k2 κ' π A2 fu2 hfu2 hp2 h2 he hπ hno hl2 => ?_) (fun q' kb => kb))
    have hlen : κ'.length + π.length = κ.length + (enc os).length := by
      have := congrArg List.length he
      simpa using this
    refine yE_close hB hins c2 hfu2 h2 hπ hno hl2 (fun h44 _ _ A3 fu3 hfu3 h3 => ?_) (fun h41 hm => ?_) (fun h44 h41 => ?_)
    · rw [pCh_ok h44, bnd_ok, OKP_bnd] at k2
      rw [he] at h3
      have hsl3 := (yE_f h3).2.2.2.2.2.2
      refine hH (p2 + 1) (op + 1) (ins + 1) fu3 _ (σ ++ [iN (110 + d) + 10]) A3 hm0 (by omega) (by omega) (by omega) (fun h => by have := hon h; omega) (by omega) (MK_mark c3) hfu3 h3 (by simp at hl2 ⊢; omega) (i32_lt100 c3) (OKP_mono k2 (fun p4 qs k4 κ4 π4 A4 fu4 hfu4 hp4 h4 he4 hπ4 hno4 hl4 => ?_) (fun q' kb => kb))
      have hlen4 : κ4.length + π4.length = (κ ++ enc os).length + (enc qs).length := by
        have := congrArg List.length he4
        simp at this ⊢
        omega
      refine yE_close hB hins c3 hfu4 h4 hπ4 hno4 hl4 (fun h44' _ h120 => absurd c7 h120) (fun h41' _ A5 fu5 hfu5 h5 => ?_) (fun _ h41' => ?_)
      · rw [pCh_ok h41', bnd_ok] at k4
        rw [he4, c8] at h5
        have ee : κ ++ enc (os ++ qs ++ [(2, iN d, 0)]) = κ ++ enc os ++ enc qs ++ [2, iN d] := by simp [enc_app, enc, eO]
        refine k4 A5 fu5 hfu5 (by omega) (by rw [ee]; exact h5) ?_
        rw [ee]
        simp at hl4 hlen4 ⊢
        omega
      · by_cases hc41 : chr T n p4 = 41
        · exact absurd (h41' hc41).2 c6
        · rw [pCh_no hc41] at k4
          exact k4
    · rcases hm with hm | hm
      · exact absurd hm c5'
      · exact absurd c5'' hm
    · by_cases hc44 : chr T n p2 = 44
      · rcases h44 hc44 with h9 | h9
        · exact absurd h9 c4
        · exact absurd h9 c5
      · rw [pCh_no hc44] at k2
        exact k2
/-- a variable's letter -/
theorem yE_var {K : Int32 → Mem → Prop} (hB : MB0 A0 T n) (h : EX A0 n lo ag ex p op κ σ A) (k1 : isV (chr T n p) = true → ∀ A', EX A0 n lo ag ex (p + 1) op κ σ A' → K (chr T n p - 65) A') (k0 : isV (chr T n p) = false → ∀ A', MBd A0 n p κ.length A' → K 0 A') : wp_Mo_variable0 250 A K := by
  obtain ⟨wt, hG, hs, hs2⟩ := h
  have bad : isV (lk0 T n p) = false → K 0 (sI A 250 7 1) := fun hv => k0 (by rw [← lk_isV]; exact hv) _ (MG_bad hG (Nat.le_refl _))
  refine ⟨rfl, y_look hB hG ⟨fun h7 => absurd (MG_e hG) h7, fun _ => ?_⟩⟩
  simp only [i32_lt, Decidable.not_not]
  refine ⟨fun h1 => bad (by simp [isV, h1]), fun h1 => ⟨fun h2 => bad (by simp [isV, h2]), fun h2 => y_isM ⟨fun h3 => ?_, fun h3 => bad (by simp [isV, h3])⟩⟩⟩
  have hv : isV (lk0 T n p) = true := by simp [isV, h1, h2, h3]
  rw [lk_isV] at hv
  have hp := isV_lt hv
  rw [lk_chr hp]
  exact k1 hv _ ⟨wt, MG_on hG hp, hs, by omega⟩
theorem yE_tw1 {i : Nat} {w : List Int32} {K : Int32 → Mem → Prop} (hB : MB0 A0 T n) (h : EX A0 n lo ag ex p op κ σ A) (hi : i < 28) (hw : mwL.getD i [] = w) (k : OKP (pWd T n w p) (fun p1 _ => ∀ r A', p + w.length ≤ p1 → EX A0 n lo ag ex p1 op κ σ A' → K r A') (fun q => ∀ r A', MBd A0 n q κ.length A' → K r A')) : wp_Mo_takeWord 250 (iN i) (iN i) A K := by
  obtain ⟨wt, hG, hs, hs2⟩ := h
  have hn := hB.2.1
  have hp := hG.2.1
  have hlo := hG.2.2.1
  have hl := mw_len i hi
  have hbd := pSh_bd hB (mwL.getD i []) (mw_nn i hi) hp
  have hpl := pSh_len (T := T) (n := n) (mwL.getD i []) p
  rw [pWd_sh] at k
  rw [← hw] at k
  by_cases hh : pSh T n (mwL.getD i []) p = (mwL.getD i []).length
  · rw [if_pos hh] at k
    refine y_tw_hit hB hG hi (i0 := i) ⟨Nat.le_refl _, Nat.le_refl _, hh⟩ (fun j hj => by have := hj.1; have := hj.2.1; omega) ?_
    exact k _ _ (Nat.le_refl _) ⟨wt, MG_4 hG (by omega) (by omega), hs, by omega⟩
  · rw [if_neg hh] at k
    refine y_tw_none hB hG hi (Nat.le_refl _) (M := pSh T n (mwL.getD i []) p) (fun j hj => ?_) (by omega) (fun j h1 h2 => by rw [show j = i by omega]; exact Nat.le_refl _) (Or.inr ⟨i, Nat.le_refl _, Nat.le_refl _, rfl⟩) (k _ _ ?_)
    · obtain rfl : j = i := by have := hj.1; have := hj.2.1; omega
      exact hh hj.2.2
    · exact MG_bad (x := (op, κ, ag, ex)) (MG_4 (lo' := lo) hG hbd (by omega)) (Nat.le_refl _)
/-- what partMark does -/
theorem yE_pm {Kp : Int32 → Mem → Prop} (hB : MB0 A0 T n) (hon : on = true → op = ins) (hop : op ≤ 6) (h : EX A0 n lo ag ex p op κ σ A) (hl : κ.length + σ.length ≤ 2 * p)
    (k_dig : isD (chr T n p) = true → OKP (pNum T n p) (fun p' v => ∀ A', p < p' → EX A0 n lo ag ex p' op (κ ++ [0, v.1, iN v.2]) σ A' → Kp 0 A') (fun q => ∀ r A', MBd A0 n q (κ.length + 3) A' → Kp r A'))
    (k_40f : chr T n p = 40 → 6 ≤ op → ∀ r A', MBd A0 n p (κ.length + 3) A' → Kp r A')
    (k_40 : chr T n p = 40 → op < 6 → Kp 100 A)
    (k_Mf : isM (chr T n p) = true → 6 ≤ op → ∀ r A', MBd A0 n p (κ.length + 3) A' → Kp r A')
    (k_M : isM (chr T n p) = true → op < 6 → ∀ A', EX A0 n lo ag ex (p + 1) op κ σ A' → Kp (110 + chr T n p - 80) A')
    (k_w : ∀ m w, ((m = 101 ∧ chr T n p = 65 ∧ w = [66, 83]) ∨ (m = 102 ∧ chr T n p = 73 ∧ w = [78, 84]) ∨ (m = 103 ∧ chr T n p = 83 ∧ w = [71, 78])) → pNm2 T n on op p = true → op < 6 → OKP (pWd T n w (p + 1)) (fun p1 _ => ∀ A', p + 1 ≤ p1 → EX A0 n lo ag ex p1 op κ σ A' → Kp m A') (fun q => ∀ r A', MBd A0 n q (κ.length + 3) A' → Kp r A'))
    (k_F : chr T n p = 70 → chr T n (p + 1) = 78 → op < 6 → (isF (chr T n (p + 2)) = true → ∀ A', EX A0 n lo ag ex (p + 3) op (κ ++ [12, chr T n (p + 2) - 65]) σ A' → Kp (104 + chr T n (p + 2) - 65) A') ∧ (isF (chr T n (p + 2)) = false → ∀ r A', MBd A0 n (p + 2) (κ.length + 3) A' → Kp r A'))
    (k_V : isD (chr T n p) = false → chr T n p ≠ 40 → isM (chr T n p) = false → (6 ≤ op ∨ pNm2 T n on op p = false) → (isV (chr T n p) = true → ∀ A', EX A0 n lo ag ex (p + 1) op (κ ++ [1, chr T n p - 65]) σ A' → Kp 0 A') ∧ (isV (chr T n p) = false → ∀ r A', MBd A0 n p (κ.length + 3) A' → Kp r A')) :
    wp_Mo_partMark 250 (bI on) (if ins = 0 then 1 else 0) A Kp := by
  obtain ⟨hF, hp, h4, h5, h5', h7, hsl⟩ := yE_f h
  have hn := hB.2.1
  have up : ∀ {q b A'}, MBd A0 n q b A' → b ≤ κ.length + 3 → MBd A0 n q (κ.length + 3) A' := fun h hb => MBd_mono h hb
  have hh := h
  obtain ⟨wt, hG, hs, hs2⟩ := hh
  refine ⟨rfl, y_look hB hG (y_lookAt (d := 1) hB hG (by omega) ?_)⟩
  -- the end that takes a VARIABLE
  have vEnd : isD (chr T n p) = false → chr T n p ≠ 40 → isM (chr T n p) = false → (6 ≤ op ∨ pNm2 T n on op p = false) → wp_Mo_variable0 250 A (fun (r32 : Int32) (A31 : Mem) => wp_Mo_make 250 1 A31 (fun (A34 : Mem) => wp_Mo_make 250 r32 A34 (fun (A35 : Mem) => Kp 0 A35))) := by
    intro a1 a2 a3 a4
    have kv := k_V a1 a2 a3 a4
    refine yE_var hB h (fun hv A1 h1 => yE_make hB h1 (by omega) (fun A2 h2 => yE_make hB h2 (by simp; omega) (fun A3 h3 => kv.1 hv A3 (by simpa using h3)))) (fun hv A1 h1 => ?_)
    exact y_makeB hB h1 (by omega) (fun A2 h2 => y_makeB hB h2 (by omega) (fun A3 h3 => kv.2 hv 0 A3 (up h3 (by omega))))
  have dg : (¬ lk0 T n p < 48 → 57 < lk0 T n p → isD (chr T n p) = false) ∧ (lk0 T n p < 48 → isD (chr T n p) = false) ∧ (¬ lk0 T n p < 48 → ¬ 57 < lk0 T n p → isD (chr T n p) = true) := by
    rw [← lk_isD]
    unfold isD
    simp only [i32_lt, Decidable.not_not]
    refine ⟨fun _ h => by simp [h], fun h => by simp [h], fun h1 h2 => by simp [h1, h2]⟩
  rw [h5, show (6 : Int32) = iN 6 from rfl, iN_le (by omega) (by omega)]
  -- behind the tests for brackets, matrices, digits
  have go : ∀ s0 : Int32, (s0 = 0 ↔ 6 ≤ op) → chr T n p ≠ 40 → isM (chr T n p) = false → isD (chr T n p) = false → wp_Mo_partMark_c107 Kp 250 (bI on) (if ins = 0 then 1 else 0) (lk0 T n p) (lk0 T n (p + 1)) s0 A := by
    intro s0 hs0 n40 nM nD
    have v0 : 6 ≤ op → wp_Mo_variable0 250 A (fun (r32 : Int32) (A31 : Mem) => wp_Mo_make 250 1 A31 (fun (A34 : Mem) => wp_Mo_make 250 r32 A34 (fun (A35 : Mem) => Kp 0 A35))) := fun h6 => vEnd nD n40 nM (Or.inl h6)
    have c215 : (¬ s0 = 0 → (chr T n p = 70 ∧ chr T n (p + 1) = 78) ∨ pNm2 T n on op p = false) → wp_Mo_partMark_c215 Kp 250 (lk0 T n p) (lk0 T n (p + 1)) s0 A := by
      intro hcase
      refine ⟨fun h0 => ⟨rfl, v0 (hs0.mp h0)⟩, fun h0 => ⟨fun hF => ⟨rfl, vEnd nD n40 nM (Or.inr ?_)⟩, fun hF => ⟨fun hN => ⟨rfl, vEnd nD n40 nM (Or.inr ?_)⟩, fun hN => ⟨rfl, ?_⟩⟩⟩⟩
      · rw [lk_eq hB (by decide)] at hF
        rcases hcase h0 with hc | hc
        · exact absurd hc.1 hF
        · exact hc
      · rw [lk_eq hB (by decide)] at hN
        rcases hcase h0 with hc | hc
        · exact absurd hc.2 hN
        · exact hc
      · rw [lk_eq hB (by decide)] at hF hN
        have hop6 : op < 6 := by
          by_cases h6 : 6 ≤ op
          · exact absurd (hs0.mpr h6) h0
          · omega
        have hp2 := chr_lt0 hN (by decide)
        have kf := k_F hF hN hop6
        rw [h4, show (2 : Int32) = iN 2 from rfl, iN_add]
        have h2 := yE_4 h (show p ≤ p + 2 by omega) (by omega)
        refine yE_look hB h2 ?_
        have c281b : isF (chr T n (p + 2)) = false → ∀ A', MBd A0 n (p + 2) κ.length A' → wp_Mo_partMark_c281 Kp 250 (lk0 T n (p + 2)) A' := fun hf A' hb =>
          ⟨rfl, y_makeB hB hb (by omega) (fun A2 h3 => y_makeB hB h3 (by omega) (fun A3 h4 => kf.2 hf _ A3 (up h4 (by omega))))⟩
        simp only [i32_lt, Decidable.not_not]
        have nf : isF (lk0 T n (p + 2)) = isF (chr T n (p + 2)) := lk_isF
        refine ⟨fun h65 => c281b (by rw [← nf]; simp [isF, h65]) _ (yE_badAt h2 (Nat.le_refl _)), fun h65 => ⟨fun h67 => ?_, fun h67 => c281b (by rw [← nf]; simp [isF, h67]) _ (yE_badAt h2 (Nat.le_refl _))⟩⟩
        have hf : isF (chr T n (p + 2)) = true := by rw [← nf]; simp [isF, h65, h67]
        have hp3 := isF_lt hf
        rw [lk_chr hp3]
        refine ⟨rfl, yE_make hB (yE_on h2 hp3) (by omega) (fun A2 h3 => yE_make hB h3 (by simp; omega) (fun A3 h4 => kf.1 hf A3 (by simpa using h4)))⟩
    have c167 : (¬ s0 = 0 → chr T n p ≠ 65 ∨ chr T n (p + 1) ≠ 66) → (¬ s0 = 0 → chr T n p ≠ 73 ∨ chr T n (p + 1) ≠ 78) → wp_Mo_partMark_c167 Kp 250 (bI on) (if ins = 0 then 1 else 0) (lk0 T n p) (lk0 T n (p + 1)) s0 A := by
      intro hA hI
      have nmF : (chr T n p ≠ 83 ∨ chr T n (p + 1) ≠ 71 ∨ (on = true ∧ op = 0 ∧ chr T n (p + 2) = 79)) → ¬ s0 = 0 → (chr T n p = 70 ∧ chr T n (p + 1) = 78) ∨ pNm2 T n on op p = false := by
        intro hS h0
        unfold pNm2
        by_cases c65 : chr T n p = 65
        · rw [if_pos c65]; exact Or.inr (decide_eq_false ((hA h0).resolve_left (fun h => h c65)))
        · rw [if_neg c65]
          by_cases c70 : chr T n p = 70
          · rw [if_pos c70]
            by_cases c78 : chr T n (p + 1) = 78
            · exact Or.inl ⟨c70, c78⟩
            · exact Or.inr (decide_eq_false c78)
          · rw [if_neg c70]
            by_cases c73 : chr T n p = 73
            · rw [if_pos c73]; exact Or.inr (decide_eq_false ((hI h0).resolve_left (fun h => h c73)))
            · rw [if_neg c73]
              by_cases c83 : chr T n p = 83
              · rw [if_pos c83]
                rcases hS with h | h | ⟨h1, h2, h3⟩
                · exact absurd c83 h
                · rw [decide_eq_false h]; exact Or.inr rfl
                · rw [h1, h2, h3]; exact Or.inr (by simp)
              · rw [if_neg c83]; exact Or.inr rfl
      have tw : ¬ s0 = 0 → chr T n p = 83 → chr T n (p + 1) = 71 → (on = true → op = 0 → chr T n (p + 2) ≠ 79) → wp_Mo_takeWord 250 26 26 A (fun (r21 : Int32) (A20 : Mem) => Kp 103 A20) := by
        intro h0 hS hG' hO
        have hop6 : op < 6 := by
          by_cases h6 : 6 ≤ op
          · exact absurd (hs0.mpr h6) h0
          · omega
        have nm : pNm2 T n on op p = true := by
          unfold pNm2
          rw [hS, if_neg (by decide), if_neg (by decide), if_neg (by decide), if_pos rfl, hG']
          cases on with
          | false => simp
          | true =>
            by_cases h9 : op = 0
            · simp [hO rfl h9]
            · simp; exact Or.inl (by omega)
        have kw := k_w 103 [71, 78] (Or.inr (Or.inr ⟨rfl, hS, rfl⟩)) nm hop6
        refine yE_tw1 (i := 26) (w := [83, 71, 78]) hB h (by omega) rfl ?_
        rw [pWd, if_pos hS]
        exact OKP_mono kw (fun p1 _ k1 r A' hp1 hX => k1 A' (by simp at hp1; omega) hX) (fun q kb r A' hb => kb 103 A' (up hb (by omega)))
      refine ⟨fun h0 => c215 (fun h => absurd h0 h), fun h0 => ⟨fun h83 => ?_, fun h83 => ⟨fun h71 => ?_, fun h71 => ?_⟩⟩⟩
      · rw [lk_eq hB (by decide)] at h83
        exact c215 (nmF (Or.inl h83))
      · rw [lk_eq hB (by decide)] at h71
        exact c215 (nmF (Or.inr (Or.inl h71)))
      · rw [lk_eq hB (by decide)] at h83 h71
        refine ⟨fun hof => ⟨rfl, tw h0 h83 h71 (fun h => by rw [h] at hof; exact absurd hof (by decide))⟩, fun hof => ?_⟩
        have hont : on = true := by
          cases on with
          | true => rfl
          | false => exact absurd rfl hof
        have hoi := hon hont
        refine ⟨fun hi0 => ⟨rfl, tw h0 h83 h71 (fun _ h9 => ?_)⟩, fun hi0 => ⟨rfl, y_lookAt (d := 2) hB hG (by omega) ?_⟩⟩
        · exfalso
          rw [if_pos (by omega)] at hi0
          exact absurd hi0 (by decide)
        · have hi : ins = 0 := by
            by_cases h9 : ins = 0
            · exact h9
            · rw [if_neg h9] at hi0; exact absurd rfl hi0
          rw [lk_eq hB (by decide)]
          exact ⟨fun h79 => c215 (nmF (Or.inr (Or.inr ⟨hont, by omega, h79⟩))), fun h79 => tw h0 h83 h71 (fun _ _ => h79)⟩
    have tw2 : ∀ (i : Nat) (m c1 c2 c3 : Int32), (m = 101 ∧ c1 = 65 ∧ c2 = 66 ∧ c3 = 83 ∧ i = 24) ∨ (m = 102 ∧ c1 = 73 ∧ c2 = 78 ∧ c3 = 84 ∧ i = 25) → ¬ s0 = 0 → chr T n p = c1 → chr T n (p + 1) = c2 → wp_Mo_takeWord 250 (iN i) (iN i) A (fun (r21 : Int32) (A20 : Mem) => Kp m A20) := by
      intro i m c1 c2 c3 hcs h0 e1 e2
      have hop6 : op < 6 := by
        by_cases h6 : 6 ≤ op
        · exact absurd (hs0.mpr h6) h0
        · omega
      have nm : pNm2 T n on op p = true := by
        unfold pNm2
        rcases hcs with ⟨-, rfl, rfl, -, -⟩ | ⟨-, rfl, rfl, -, -⟩
        · rw [e1, if_pos rfl, e2]; rfl
        · rw [e1, if_neg (by decide), if_neg (by decide), if_pos rfl, e2]; rfl
      have kw := k_w m [c2, c3] (by rcases hcs with ⟨rfl, rfl, rfl, rfl, -⟩ | ⟨rfl, rfl, rfl, rfl, -⟩ <;> simp [e1]) nm hop6
      refine yE_tw1 (i := i) (w := [c1, c2, c3]) hB h (by rcases hcs with h | h <;> omega) (by rcases hcs with ⟨-, rfl, rfl, rfl, rfl⟩ | ⟨-, rfl, rfl, rfl, rfl⟩ <;> rfl) ?_
      rw [pWd, if_pos e1]
      exact OKP_mono kw (fun p1 _ k1 r A' hp1 hX => k1 A' (by simp at hp1; omega) hX) (fun q kb r A' hb => kb m A' (up hb (by omega)))
    have c137 : (¬ s0 = 0 → chr T n p ≠ 65 ∨ chr T n (p + 1) ≠ 66) → wp_Mo_partMark_c137 Kp 250 (bI on) (if ins = 0 then 1 else 0) (lk0 T n p) (lk0 T n (p + 1)) s0 A := by
      intro hA
      refine ⟨fun h0 => c167 hA (fun h => absurd h0 h), fun h0 => ⟨fun h73 => ?_, fun h73 => ⟨fun h78 => ?_, fun h78 => ⟨rfl, ?_⟩⟩⟩⟩
      · rw [lk_eq hB (by decide)] at h73
        exact c167 hA (fun _ => Or.inl h73)
      · rw [lk_eq hB (by decide)] at h78
        exact c167 hA (fun _ => Or.inr h78)
      · rw [lk_eq hB (by decide)] at h73 h78
        exact tw2 25 102 73 78 84 (Or.inr ⟨rfl, rfl, rfl, rfl, rfl⟩) h0 h73 h78
    refine ⟨fun h0 => c137 (fun h => absurd h0 h), fun h0 => ⟨fun h65 => ?_, fun h65 => ⟨fun h66 => ?_, fun h66 => ⟨rfl, ?_⟩⟩⟩⟩
    · rw [lk_eq hB (by decide)] at h65
      exact c137 (fun _ => Or.inl h65)
    · rw [lk_eq hB (by decide)] at h66
      exact c137 (fun _ => Or.inr h66)
    · rw [lk_eq hB (by decide)] at h65 h66
      exact tw2 24 101 65 66 83 (Or.inl ⟨rfl, rfl, rfl, rfl, rfl⟩) h0 h65 h66
  have c54 : ∀ s0 : Int32, (s0 = 0 ↔ 6 ≤ op) → (6 ≤ op → chr T n p ≠ 40 ∧ isM (chr T n p) = false) → wp_Mo_partMark_c54 Kp 250 (bI on) (if ins = 0 then 1 else 0) (lk0 T n p) (lk0 T n (p + 1)) s0 A := by
    intro s0 hs0 hfull
    refine ⟨fun h40 => ⟨rfl, y_isM ⟨fun hM => ?_, fun hM => ?_⟩⟩, fun h40 => ?_⟩
    · rw [lk_eq hB (by decide)] at h40
      rw [lk_isM] at hM
      refine ⟨fun h48 => go s0 hs0 h40 hM (dg.2.1 h48), fun h48 => ⟨fun h57 => go s0 hs0 h40 hM (dg.1 h48 h57), fun h57 => ?_⟩⟩
      have hd := dg.2.2 h48 h57
      refine y_num hB hG (by show κ.length + 3 ≤ 159; omega) (OKP_mono (OKP_and (k_dig hd) pNum_gt) (fun p1 v k1 A1 h1 => k1.1 A1 k1.2.1 ⟨wt, h1, hs, by omega⟩) (fun q kb A1 h1 => kb.1 0 A1 h1))
    · rw [lk_isM] at hM
      have hp1 := isM_lt hM
      rw [lk_chr hp1]
      have h6 : op < 6 := by
        by_cases h6 : 6 ≤ op
        · rw [(hfull h6).2] at hM; cases hM
        · omega
      exact k_M hM h6 _ (yE_on h hp1)
    · rw [lk_eq hB (by decide)] at h40
      have h6 : op < 6 := by
        by_cases h6 : 6 ≤ op
        · exact absurd h40 (hfull h6).1
        · omega
      exact k_40 h40 h6
  refine ⟨fun h6 => ⟨fun h => absurd rfl h, fun _ => ⟨fun h40 => ⟨rfl, ?_⟩, fun h40 => ⟨rfl, y_isM ⟨fun hM => ?_, fun hM => ?_⟩⟩⟩⟩, fun h6 => ⟨fun _ => c54 1 ⟨fun h => absurd h (by decide), fun h => absurd h h6⟩ (fun h => absurd h h6), fun h => absurd h (by decide)⟩⟩
  · rw [lk_eq hB (by decide)] at h40
    exact k_40f h40 h6 0 _ (up (yE_badAt h (Nat.le_refl _)) (by omega))
  · rw [lk_eq hB (by decide)] at h40
    rw [lk_isM] at hM
    exact c54 0 ⟨fun _ => h6, fun _ => rfl⟩ (fun _ => ⟨h40, hM⟩)
  · rw [lk_isM] at hM
    exact k_Mf hM h6 0 _ (up (yE_badAt h (Nat.le_refl _)) (by omega))
end YQ
