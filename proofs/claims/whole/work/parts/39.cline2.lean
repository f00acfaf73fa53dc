/-! the class's parser: keywords, blanks, the whole line -/
/-- the characters of the first m cells of f without blanks -/
def blk (f : Nat → Int32) (m : Nat) : List Int32 := ((List.range m).map f).filter (fun c => c != 32)
theorem blk_s (f : Nat → Int32) (m : Nat) : blk f (m + 1) = blk f m ++ (if f m = 32 then [] else [f m]) := by
  unfold blk
  rw [List.range_succ, List.map_append, List.filter_append]
  congr 1
  by_cases h : f m = 32 <;> simp [h]
theorem blk_len (f : Nat → Int32) (m : Nat) : (blk f m).length ≤ m := by
  unfold blk
  refine Nat.le_trans (List.length_filter_le _ _) ?_
  simp
theorem blk_mem (f : Nat → Int32) (m : Nat) {c : Int32} (h : c ∈ blk f m) : ∃ k, k < m ∧ f k = c := by
  unfold blk at h
  obtain ⟨k, hk, rfl⟩ := List.mem_map.mp (List.mem_filter.mp h).1
  exact ⟨k, List.mem_range.mp hk, rfl⟩
theorem nar_char {c : Int32} (h0 : 0 ≤ c) (h1 : c ≤ 127) : vp_nar .char c = c := by
  have e := iN_of h0
  have hc := Int32.toNatClampNeg_lt c
  generalize c.toNatClampNeg = m at *
  subst e
  rw [show (127 : Int32) = iN 127 from rfl, iN_le (by omega) (by omega)] at h1
  have : ∀ k, k < 128 → vp_nar .char (iN k) = iN k := by decide +kernel
  exact this m (by omega)
/-- blanks are left out: what the loop keeps -/
def BlI (A0 A : Mem) (f : Nat → Int32) (i : Nat) : Prop :=
  (∀ o, o ≠ 3 → o ≠ 4 → gI A o = gI A0 o) ∧ gD A = gD A0 ∧ gL A = gL A0 ∧ gR A = gR A0 ∧ (∀ k, k ≠ 3 → gI A 3 k = gI A0 3 k) ∧ gI A 3 3 = iN (blk f i).length ∧ lsI (gI A 4) (blk f i)
theorem bl_c7 {A0 : Mem} {f : Nat → Int32} {m : Nat} {K : Mem → Prop} (hm : m ≤ 60) (hf : ∀ k, k < m → gI A0 2 k = f k) (h01 : ∀ k, k < m → 0 ≤ f k ∧ f k ≤ 127) (w : gR A0 3 2 = 4) (kk : ∀ A', BlI A0 A' f m → K A') : ∀ (j i fu : Nat) (A : Mem), i + j = m → j < fu → BlI A0 A f i → wp_Pa_leaveBlanksOut_c7 K fu 3 2 (iN m) (iN i) A := by
  intro j
  induction j with
  | zero =>
    intro i fu A hi hfu hA
    obtain ⟨fu, rfl⟩ : ∃ g, fu = g + 1 := ⟨fu - 1, by omega⟩
    unfold wp_Pa_leaveBlanksOut_c7
    rw [iN_le (by omega) (by omega)]
    exact ⟨fun _ => kk A (by rw [show m = i by omega]; exact hA), fun h => absurd (show m ≤ i by omega) h⟩
  | succ j ih =>
    intro i fu A hi hfu hA
    obtain ⟨fu, rfl⟩ : ∃ g, fu = g + 1 := ⟨fu - 1, by omega⟩
    have hlen := blk_len f i
    have hA' := hA
    obtain ⟨b1, b2, b3, b4, b5, b6, b7⟩ := hA
    have hc : gI A 2 i = f i := by rw [b1 2 (by omega) (by omega)]; exact hf i (by omega)
    unfold wp_Pa_leaveBlanksOut_c7
    rw [iN_le (by omega) (by omega), show al 2 = 60 from rfl, show Int32.ofNat 60 = iN 60 from rfl, iN_le (by omega) (by omega), iN_cl (by omega), hc, b4, w, b6, show al 4 = 60 from rfl, show Int32.ofNat 60 = iN 60 from rfl, iN_le (by omega) (by omega), iN_cl (by omega), iN_1]
    refine ⟨fun h => by omega, fun _ => ⟨rfl, fun h => by omega, fun _ => ⟨iN_in (by omega) (by omega), fun hb => ?_, fun hb => ⟨rfl, rfl, fun h => by omega, fun _ => ⟨iN_in (by omega) (by omega), fun A7 hA7 => ?_⟩⟩⟩⟩⟩
    · refine ih (i + 1) fu A (by omega) (by omega) ?_
      have e : blk f (i + 1) = blk f i := by rw [blk_s, if_pos hb, List.append_nil]
      unfold BlI
      rw [e]
      exact hA'
    · refine ih (i + 1) fu A7 (by omega) (by omega) ?_
      have e : blk f (i + 1) = blk f i ++ [f i] := by rw [blk_s, if_neg hb]
      have h2 := h01 i (by omega)
      rw [nar_char h2.1 h2.2] at hA7
      subst hA7
      refine ⟨fun o h3 h4 => ?_, b2, b3, b4, fun k h3 => ?_, ?_, ?_⟩
      · rw [gI_row h3, gI_row h4]; exact b1 o h3 h4
      · rw [gI_ne (Or.inr h3), gI_row (by omega)]; exact b5 k h3
      · rw [gI_eq, gI_ne (by omega), b6, iN_1, e]
        simp
      · rw [e, gI_row (by omega)]
        refine lsI_push b7 (fun k hk => gI_ne (by omega)) gI_eq
section VPk
variable {A0 : Mem} {T : Nat → Int32} {n L sl p op : Nat} {s : Nat → Int32} {q : Nat → Nat} {ops : List (Int32 × Int32)} {nu en : List Int32} {A : Mem}
theorem pSh_le : ∀ (w : List Int32) (p : Nat), (∀ c ∈ w, 0 ≤ c) → pSh T n w p ≤ w.length ∧ (p ≤ n → p + pSh T n w p ≤ n) := by
  intro w
  induction w with
  | nil => intro p _; exact ⟨Nat.le_refl _, fun h => h⟩
  | cons c r ih =>
    intro p hw
    unfold pSh
    have h := ih (p + 1) (fun x hx => hw x (List.mem_cons_of_mem _ hx))
    split
    · rename_i hc
      have hp := chr_lt0 hc (by
        rintro rfl
        exact absurd (hw (-1) List.mem_cons_self) (by decide))
      have := h.2 (by omega)
      exact ⟨by simp only [List.length_cons]; omega, fun _ => by omega⟩
    · exact ⟨Nat.zero_le _, fun h => h⟩
theorem x_sh_c2 {x : Nat} {K : Int32 → Mem → Prop} (hx : x < 44) (hv : VP A0 T n L sl p op s q ops nu en A) : ∀ (m i : Nat), m + i = lenS.getD x 0 → K (iN (i + pSh T n ((bytS.getD x []).drop i) (p + i))) A → wp_Pa_sharedLength_c2 K (m + 1) 3 (2000 + x) (iN i) A := by
  obtain ⟨h1, h2, h3, h4, h5⟩ := wS_ok x hx
  intro m
  induction m with
  | zero =>
    intro i hm k
    unfold wp_Pa_sharedLength_c2
    refine ⟨h1, x_len hx ⟨fun _ => ?_, fun h => ?_⟩⟩
    · rw [List.drop_eq_nil_of_le (by omega)] at k
      exact k
    · rw [iN_le (by omega) (by omega)] at h
      omega
  | succ m ih =>
    intro i hm k
    unfold wp_Pa_sharedLength_c2
    refine ⟨h1, x_len hx ⟨fun h => ?_, fun _ => ⟨rfl, x_behind hv (by omega) (x_charAt hx (by omega) ⟨fun hc => ?_, fun hc => ?_⟩)⟩⟩⟩
    · rw [iN_le (by omega) (by omega)] at h
      omega
    · rw [List.drop_eq_getElem_cons (by omega), pSh, gtD, if_neg hc] at k
      exact k
    · rw [List.drop_eq_getElem_cons (by omega), pSh, gtD, if_pos hc] at k
      rw [iN_1]
      refine ih (i + 1) (by omega) ?_
      rw [show i + 1 + pSh T n ((bytS.getD x []).drop (i + 1)) (p + (i + 1)) = i + (pSh T n ((bytS.getD x []).drop (i + 1)) (p + i + 1) + 1) by rw [Nat.add_assoc p i 1]; omega]
      exact k
theorem x_shared {x : Nat} {w : List Int32} {K : Int32 → Mem → Prop} (hx : x < 44) (hw : bytS.getD x [] = w) (hv : VP A0 T n L sl p op s q ops nu en A) (k : K (iN (pSh T n w p)) A) : wp_Pa_sharedLength 3 (2000 + x) A K := by
  subst hw
  exact ⟨lenS.getD x 0 + 1, x_sh_c2 hx hv (lenS.getD x 0) 0 (by omega) (by simpa using k)⟩
theorem kw_nn : ∀ k, k < 17 → ∀ c ∈ kwW.getD k [], 0 ≤ c := by decide +kernel
theorem kw_len : ∀ k, k < 17 → lenS.getD (wdS.getD k 0) 0 = (kwW.getD k []).length := by decide +kernel
theorem x_kw_c4 {K : Bool → Mem → Prop} (hv : VP A0 T n L sl p op s q ops nu en A) : ∀ (j k m fu : Nat), k + j = 17 → j < fu → m ≤ 60 → OKP (pKwL T n p (kwW.drop k) k m) (fun p' k' => k' < 17 → ∀ A', VP A0 T n L sl p' op s (us q 2 (1000 + k')) ops nu en A' → K true A') (fun q' => ∀ A', VF A0 L q' A' → K false A') → wp_Pa_keyword_c4 K fu 3 (iN m) (iN k) A := by
  intro j
  induction j with
  | zero =>
    intro k m fu hk hfu hm kk
    obtain ⟨fu, rfl⟩ : ∃ g, fu = g + 1 := ⟨fu - 1, by omega⟩
    have hn := VP_n hv
    have hf := VP_F hv
    unfold wp_Pa_keyword_c4
    refine ⟨fun _ => ⟨rfl, ?_⟩, fun h => ?_⟩
    · obtain rfl : k = 17 := by omega
      refine kk _ ⟨FrC_I hf.1 (Or.inl rfl), hf.2.1, ?_, en.length, hv.2.2.2.2.2.2.1, ?_⟩
      · rw [gI_eq, (VP_3 hv).1, iN_add]
      · rw [gI_row (by have := hv.1.2.1; omega)]; exact hv.2.2.2.2.2.1
    · rw [show (17 : Int32) = iN 17 from rfl, iN_le (by omega) (by omega)] at h
      omega
  | succ j ih =>
    intro k m fu hk hfu hm kk
    obtain ⟨fu, rfl⟩ : ∃ g, fu = g + 1 := ⟨fu - 1, by omega⟩
    have hn := VP_n hv
    have hw := kwW_ok k (by omega)
    have hl := kw_len k (by omega)
    have hlen : kwW.length = 17 := rfl
    have ws := wS_ok (wdS.getD k 0) hw.2
    have hps := pSh_le (T := T) (n := n) (kwW.getD k []) p (kw_nn k (by omega))
    rw [List.drop_eq_getElem_cons (by omega)] at kk
    have e : kwW[k]'(by omega) = kwW.getD k [] := by simp [List.getD, show k < kwW.length by omega]
    rw [e, pKwL] at kk
    unfold wp_Pa_keyword_c4
    rw [iN_cl (by omega), show 1000 + k - 1000 = k by omega]
    refine ⟨fun h => ?_, fun _ => ⟨iN_in (by omega) (by omega), ⟨by omega, by omega⟩, rfl, x_shared hw.2 hw.1 hv ⟨ws.1, x_len hw.2 ⟨fun hne => ?_, fun heq => ?_⟩⟩⟩⟩
    · rw [show (17 : Int32) = iN 17 from rfl, iN_le (by omega) (by omega)] at h
      omega
    · have hl60 := ws.2.2.2.1
      rw [iN_eq (by omega) (by omega), hl] at hne
      rw [if_neg hne] at kk
      have em : (if iN m < iN (pSh T n (kwW.getD k []) p) then iN (pSh T n (kwW.getD k []) p) else iN m) = iN (max m (pSh T n (kwW.getD k []) p)) := by
        by_cases hh : m < pSh T n (kwW.getD k []) p
        · rw [if_pos (by rw [iN_lt (by omega) (by omega)]; exact hh), Nat.max_eq_right (by omega)]
        · rw [if_neg (by rw [iN_lt (by omega) (by omega)]; exact hh), Nat.max_eq_left (by omega)]
      rw [em, iN_1]
      exact ih (k + 1) _ fu (by omega) (by omega) (by omega) kk
    · have hl60 := ws.2.2.2.1
      rw [iN_eq (by omega) (by omega), hl] at heq
      rw [if_pos heq] at kk
      rw [(VP_3 hv).2.2.2.1]
      refine ⟨(VP_3 hv).2.2.2.2, fun A11 hA => kk (by omega) A11 ?_⟩
      subst hA
      have hv2 := VP_q (k := 2) (v := 1000 + k) hv (Or.inl rfl)
      rw [(VP_3 hv2).1, iN_add, heq]
      have := VP_len hv
      exact VP_p hv2 (by have := hps.2 hn.2.1; omega) (by omega)
theorem x_keyword {K : Bool → Mem → Prop} (hv : VP A0 T n L sl p op s q ops nu en A) (kk : OKP (pKw T n p) (fun p' k' => k' < 17 → ∀ A', VP A0 T n L sl p' op s (us q 2 (1000 + k')) ops nu en A' → K true A') (fun q' => ∀ A', VF A0 L q' A' → K false A')) : wp_Pa_keyword 3 A K :=
  ⟨18, x_kw_c4 hv 17 0 0 18 rfl (by omega) (by omega) kk⟩
/-- the class behind a whole line -/
def CLine (A0 : Mem) (T : Nat → Int32) (n L : Nat) (p : Nat) (r : Int32 × Option LDT) (A : Mem) : Prop := match r.2 with
  | none => FrC A0 L A ∧ gI A L 0 = r.1 ∧ gI A L 1 = 1
  | some d => CGood A0 T n L p r.1 d A ∧ gI A L 1 = 0
theorem x_c63 {K : Bool → Mem → Prop} {v : Int32} (hs4 : s 4 = 0) (hv : VP A0 T n L 0 p 0 s q [] [] [] A) (hs0 : s 0 = v) (kk : OKP (bnd (pKw T n p) fun p1 k => bnd (pRest T n k p1) fun p2 d => if p2 = n then .ok (p2, v, some d) else .error p2) (fun p' r => ∀ A', CLine A0 T n L p' r A' → K true A') (fun q' => ∀ A', VF A0 L q' A' → K false A')) : wp_Pa_takeApart_c63 K 3 0 L A := by
  have hv1 := VP_s (k := 1) (v := 0) hv (by omega) (by omega) (by omega)
  unfold wp_Pa_takeApart_c63
  rw [(VP_3 hv1).2.2.2.1, gI_eq]
  rw [OKP_bnd] at kk
  refine ⟨(VP_3 hv).2.2.2.2, Or.inl rfl, rfl, (VP_3 hv).2.2.2.2, fun h => absurd rfl h, fun _ => x_keyword hv1 (OKP_mono kk (fun p1 k k1 hk A1 hv2 => good_end ?_) (fun q' kb A' hf => bad_end (kb A' hf)))⟩
  rw [OKP_bnd] at k1
  refine x_rest (num := v) hk us_eq ⟨?_, ?_⟩ ?_ hv2 (OKP_mono k1 (fun p2 d k2 A2 hg => good_end ?_) (fun q' kb A' hf => bad_end (kb A' hf)))
  · rw [us_ne (by omega)]; exact hs0
  · rw [us_eq]
  · rw [us_ne (by omega)]; exact hs4
  · have hg' := hg
    obtain ⟨o, s2, q2, hv3, hl⟩ := hg
    have hn := VP_n hv3
    rw [(VP_3 hv3).1, (VP_3 hv3).2.1, iN_eq (by omega) (by omega)]
    refine ⟨fun h => ?_, fun h => ?_⟩
    · rw [if_neg h] at k2
      exact k2 A2 (VP_F hv3)
    · rw [if_pos h] at k2
      refine k2 A2 ⟨hg', ?_⟩
      rw [hv3.2.2.1.1 1 (by omega) (by omega) (by omega)]
      exact hl.1.2
theorem x_takeApart {K : Bool → Mem → Prop} {f : Nat → Int32} {m : Nat} (hW : WP A L) (hm : m ≤ 60) (hf : ∀ k, k < m → gI A 2 k = f k) (h01 : ∀ k, k < m → 0 ≤ f k ∧ f k ≤ 127)
    (kk : OKP (pLine (fun k => (blk f m).getD k 0) (blk f m).length) (fun p' r => ∀ A', CLine A (fun k => (blk f m).getD k 0) (blk f m).length L p' r A' → K true A') (fun q' => ∀ A', VF A L q' A' → K false A')) : wp_Pa_takeApart 3 2 (iN m) A K := by
  have hL := hW.1
  have hL2 := hW.2.1
  refine ⟨rfl, rfl, m + 1, bl_c7 (A0 := A) (f := f) hm hf h01 hW.2.2.2.1 (fun A1 hb => ?_) m 0 (m + 1) _ (by omega) (by omega) ?_⟩
  · obtain ⟨b1, b2, b3, b4, b5, b6, b7⟩ := hb
    have hlen := blk_len f m
    rw [gR_sI, gR_sI, b4, hW.2.2.1]
    refine ⟨kdL hL hL2, kdL hL hL2, ?_⟩
    generalize hA3 : sI (sI (sI (sR (sI (sI (sI (sI A1 3 1 0) 3 4 0) L 0 0) L 1 0) L 2 1015) L 4 0) L 9 0) L 12 0 = A2
    generalize hA4 : sI A2 L 14 0 = A3
    have row : ∀ o, o ≠ 3 → o ≠ L → gI A3 o = gI A1 o := fun o h3 h4 => by
      rw [← hA4, ← hA3, gI_row h4, gI_row h4, gI_row h4, gI_row h4, gI_sR, gI_row h4, gI_row h4, gI_row h3, gI_row h3]
    have row3 : gI A3 3 = gI (sI (sI A1 3 1 0) 3 4 0) 3 := by
      have h4 : 3 ≠ L := by omega
      rw [← hA4, ← hA3, gI_row h4, gI_row h4, gI_row h4, gI_row h4, gI_sR, gI_row h4, gI_row h4]
    have gr : gR A3 = gR (sR A1 L 2 1015) := by
      rw [← hA4, ← hA3]; rfl
    have gd : gD A3 = gD A1 := by rw [← hA4, ← hA3]; rfl
    have gl : gL A3 = gL A1 := by rw [← hA4, ← hA3]; rfl
    have f0 : gI A3 L 0 = 0 := by
      rw [← hA4, ← hA3, gI_ne (by omega), gI_ne (by omega), gI_ne (by omega), gI_ne (by omega), gI_sR, gI_ne (by omega), gI_eq]
    have f4 : gI A3 L 4 = 0 := by
      rw [← hA4, ← hA3, gI_ne (by omega), gI_ne (by omega), gI_ne (by omega), gI_eq]
    have f9 : gI A3 L 9 = iN 0 := by
      rw [← hA4, ← hA3, gI_ne (by omega), gI_ne (by omega), gI_eq]; rfl
    have f12 : gI A3 L 12 = iN 0 := by
      rw [← hA4, ← hA3, gI_ne (by omega), gI_eq]; rfl
    have f14 : gI A3 L 14 = iN 0 := by
      rw [← hA4, gI_eq]; rfl
    have q2 : gR A3 L 2 = 1015 := by rw [gr, gR_eq]
    have hFr : FrC A L A3 := by
      refine ⟨gd.trans b2, gl.trans b3, fun o k h => ?_, fun o h3 h4 h5 h6 h7 h8 h9 => ?_⟩
      · rw [gr, gR_ne (by omega), b4]
      · rw [row o h3 h5]; exact b1 o h3 h4
    have hWP : WP A3 L := by
      refine ⟨hL, hL2, ?_, ?_, ?_, ?_, ?_, ?_⟩
      · rw [gr, gR_ne (by omega), b4]; exact hW.2.2.1
      · rw [gr, gR_ne (by omega), b4]; exact hW.2.2.2.1
      · rw [gr, gR_ne (by omega), b4]; exact hW.2.2.2.2.1
      · rw [gr, gR_ne (by omega), b4]; exact hW.2.2.2.2.2.1
      · rw [gr, gR_ne (by omega), b4]; exact hW.2.2.2.2.2.2.1
      · rw [gr, gR_ne (by omega), b4]; exact hW.2.2.2.2.2.2.2
    have hVP : VP A (fun k => (blk f m).getD k 0) (blk f m).length L 0 0 0 (gI A3 L) (gR A3 L) [] [] [] A3 := by
      refine ⟨⟨hFr, hWP⟩, ⟨by omega, Nat.zero_le _, fun k hk => ?_, ?_, ?_, ?_, by omega⟩, ⟨fun _ _ _ _ => rfl, rfl, rfl⟩, ⟨f9, by simp, lsI_nil _⟩, ⟨f12, by simp, lsI_nil _⟩, ⟨f14, by simp, lsI_nil _⟩⟩
      · rw [row 4 (by omega) (by omega)]
        refine b7 k _ ?_
        simp only [List.getD_eq_getElem?_getD, List.getElem?_eq_getElem hk, Option.getD_some]
      · rw [row3, gI_ne (by omega), gI_eq]; rfl
      · rw [row3, gI_ne (by omega), gI_ne (by omega)]; exact b6
      · rw [row3, gI_eq]; rfl
    unfold pLine at kk
    rw [OKP_bnd] at kk
    refine x_lineNumber hVP (OKP_mono kk (fun p1 v k1 A5 hv5 e5 => good_end2 ?_) (fun q' kb A' hf => bad_end2 (kb A' hf)))
    have hn5 := VP_n hv5
    rw [(VP_3 hv5).2.2.2.1, e5]
    have hv6 := VP_s (k := 0) (v := v) hv5 (by omega) (by omega) (by omega)
    rw [(VP_3 hv6).2.2.2.1, (VP_3 hv6).1, (VP_3 hv6).2.1, iN_eq (by omega) (by omega)]
    refine ⟨(VP_3 hv5).2.2.2.2, fun h => ?_, fun h => ?_⟩
    · rw [if_neg h] at k1
      refine x_c63 ?_ hv6 us_eq k1
      rw [us_ne (by omega)]; exact f4
    · rw [if_pos h] at k1
      have hv7 := VP_s (k := 1) (v := 1) hv6 (by omega) (by omega) (by omega)
      unfold wp_Pa_takeApart_c63
      rw [(VP_3 hv7).2.2.2.1, gI_eq]
      refine ⟨(VP_3 hv5).2.2.2.2, Or.inr rfl, rfl, (VP_3 hv5).2.2.2.2, fun _ => k1 _ ⟨hv7.1.1, ?_, gI_eq⟩, fun h => absurd h (by decide)⟩
      rw [gI_ne (by omega), gI_eq]
  · have e : blk f 0 = [] := rfl
    refine ⟨fun o h3 h4 => gI_row h3, rfl, rfl, rfl, fun k h => gI_ne (Or.inr h), ?_, ?_⟩
    · rw [gI_eq, e]; rfl
    · rw [e]; exact lsI_nil _
end VPk
