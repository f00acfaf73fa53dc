theorem smF_c36 {me me' : Nat → Nat → UInt64} {x y i j : Nat} (hx : ∀ p, p < 36 → me x p = me' x p) (hy : ∀ p, p < 36 → me y p = me' y p) (hi : 1 ≤ i ∧ i ≤ 6) (hj : 1 ≤ j ∧ j ≤ 6) : ∀ (n k : Nat) (acc : UInt64), 1 ≤ k → k + n ≤ 7 → smF me x y i j n k acc = smF me' x y i j n k acc
  | 0, _, _, _, _ => rfl
  | n + 1, k, acc, h1, h2 => by
    unfold smF
    rw [hx _ (by omega), hy _ (by omega)]
    congr 1
    funext q
    congr 1
    funext r
    exact smF_c36 hx hy hi hj n (k + 1) r (by omega) (by omega)
theorem entF_c36 {me me' : Nat → Nat → UInt64} {mc : Nat → Nat} {b : Nat} {sc : UInt64} {x y i j : Nat} (hx : ∀ p, p < 36 → me x p = me' x p) (hy : ∀ p, p < 36 → me y p = me' y p) (hi : 1 ≤ i ∧ i ≤ 6) (hj : 1 ≤ j ∧ j ≤ 6) (hc : mc x ≤ 6) : entF me mc b sc x y i j = entF me' mc b sc x y i j := by
  unfold entF
  rw [hx _ (by omega), hx _ (by omega), hy _ (by omega), smF_c36 hx hy hi hj _ _ _ (by omega) (by omega)]
section RC6
variable {B A A' : Mem} {dat : List UInt64} {q : Nat → Int32} {s s' : RS} {ft : Nat} {P : PT} {K : Mem → Prop}
/-- one matrix changes, or the draft -/
theorem CR_mx {m : Nat} (hm : m < 4) (h : CR B dat q s ft A) (hR : gR A' = gR A) (hL : gL A' = gL A) (hI : ∀ o, o ≠ 12 + m → gI A' o = gI A o) (hD : ∀ o, o ≠ 16 + m → gD A' o = gD A o) (e1 : rVa s' = rVa s) (e5 : rFb s' = rFb s) (e6 : rLp s' = rLp s) (e7 : rRt s' = rRt s) (e8 : rRd s' = rRd s) (e9 : rPn s' = rPn s) (e10 : rDu s' = rDu s) (hM : MmA A' s') : CR B dat q s' ft A' := by
  obtain ⟨hF, ⟨q1, q2, q3, q4⟩, hv, -, hf, hl, hr, hd, hp, hu⟩ := h
  have i5 : gI A' 5 = gI A 5 := hI 5 (by omega)
  obtain ⟨v1, v2⟩ := CvS_ok hv
  refine ⟨FrR_tr hF ⟨hL, fun o h5 h8 h12 h20 h21 h22 h26 => hI o (by omega), fun j _ => congrFun (hI 8 (by omega)) j, fun j _ => congrFun i5 j, fun o _ _ => congrFun hR o, fun j _ => congrFun (congrFun hR 8) j, fun o ho => hD o (by omega)⟩, ⟨by rw [i5]; exact q1, by rw [i5]; exact q2, by rw [i5]; exact q3, by rw [i5]; exact q4⟩, ?_, hM, ?_, ?_, ?_, ?_, ?_, ?_⟩
  · rw [e1]; exact CvS_cg hv ((hD 9 (by omega)).trans v1) (by rw [hR]) (by rw [hI 8 (by omega)]) (hD 11 (by omega)) v2
  · rw [e5]; exact ⟨FbA_cg hf.1 (by rw [hR]) (fun L hL => ⟨hI L (by omega), by rw [hR]⟩), hf.2⟩
  · rw [e6]; exact LoA_cg hl (by rw [hI 20 (by omega)]) (hI 21 (by omega)) (hI 22 (by omega)) (hD 23 (by omega)) (hD 24 (by omega))
  · rw [e7]; exact RtA_cg hr (by rw [i5]) (hI 26 (by omega))
  · rw [e8]; exact DaA_cg hd (by rw [i5]) (by rw [i5]) (hD 27 (by omega))
  · rw [e9]; exact PrA_cg hp (by rw [i5]) (hD 25 (by omega))
  · rw [e10, i5]; exact hu
theorem CR_sh3 {a b : Int32} (h : CR B dat q s ft A) (hs : shF A 3 a b A') : CR B dat q s ft A' := by
  obtain ⟨s1, s2, s3, s4, s5, s6, s7⟩ := hs
  exact CR_mx (m := 3) (by omega) h s2 s1 s3 s6 rfl rfl rfl rfl rfl rfl rfl (MmA_cg h.2.2.2.1 (fun m hm => s3 _ (by omega)) (fun m hm => s6 _ (by omega)))
theorem CR_dr (h : CR B dat q s ft A) (hs : drB A A') : CR B dat q s ft A' := by
  obtain ⟨s1, s2, s3, s4⟩ := hs
  exact CR_mx (m := 3) (by omega) h s2 s3 (fun o _ => by rw [s1]) s4 rfl rfl rfl rfl rfl rfl rfl (MmA_cg h.2.2.2.1 (fun m hm => by rw [s1]) (fun m hm => s4 _ (by omega)))
theorem MmA_us {t R C : Nat} {me : Nat → UInt64} (h : MmA A s) (ht : t < 3) (hI : ∀ m, m < 3 → m ≠ t → gI A' (12 + m) = gI A (12 + m)) (hD : ∀ m, m < 3 → m ≠ t → gD A' (16 + m) = gD A (16 + m)) (h0 : gI A' (12 + t) 0 = iN R) (h1 : gI A' (12 + t) 1 = iN C) (hR : R ≤ 6) (hC : C ≤ 6) (hm : ∀ p, p < 36 → gD A' (16 + t) p = me p ∧ okd (me p)) : MmA A' (uMx s (us (rMr s) t R) (us (rMc s) t C) (us (rMe s) t me)) := by
  obtain ⟨m1, m2, m3⟩ := h
  refine ⟨fun m hm3 => ?_, fun m i hm3 hi => ?_, fun m hm3 => ?_⟩
  · show gI A' (12 + m) 0 = iN (us (rMr s) t R m) ∧ gI A' (12 + m) 1 = iN (us (rMc s) t C m) ∧ us (rMr s) t R m ≤ 6 ∧ us (rMc s) t C m ≤ 6 ∧ ∀ i, i < 36 → okd (gD A' (16 + m) i)
    by_cases e : m = t
    · rw [e, us_eq, us_eq]
      exact ⟨h0, h1, hR, hC, fun i hi => by rw [(hm i hi).1]; exact (hm i hi).2⟩
    · rw [us_ne e, us_ne e, hI m hm3 e, hD m hm3 e]
      exact m1 m hm3
  · show gD A' (16 + m) i = us (rMe s) t me m i
    by_cases e : m = t
    · rw [e, us_eq]; exact (hm i hi).1
    · rw [us_ne e, hD m hm3 e]; exact m2 m i hm3 hi
  · show us (rMr s) t R m = 0
    rw [us_ne (by omega)]; exact m3 m hm3
theorem SzA_of (h : MmA A s) : SzA A (rMr s) (rMc s) := fun m hm => ⟨(h.1 m hm).1, (h.1 m hm).2.1, (h.1 m hm).2.2.1, (h.1 m hm).2.2.2.1⟩
theorem c_dim {L : Nat} {v : Int32} {d : LDT} (hW : WC B) (hC : CLv B L v d) (hL : 100 ≤ L) (hL2 : L < 125) (hd : d.1 = 12) (hok : LDok d) (h : CR B dat q s 0 A)
    (k : ∀ A', CR B dat q (uMx s (us (rMr s) d.2.1.toNatClampNeg (nX d 0).toNatClampNeg) (us (rMc s) d.2.1.toNatClampNeg (nX d 1).toNatClampNeg) (us (rMe s) d.2.1.toNatClampNeg (fun _ => FP.dconst0))) 0 A' → K A') : wp_Ca_matrixAt (gR A 5 1) (gI A L 3) A (fun (r31 : Nat) (A30 : Mem) => wp_Li_numberAt L 0 A30 (fun (r34 : Int32) (A33 : Mem) => wp_Li_numberAt L 1 A33 (fun (r36 : Int32) (A35 : Mem) => kd r31 = 7 ∧ wp_Mx_shape r31 r34 r36 A35 (fun (A37 : Mem) => K A37)))) := by
  have hok2 := hok.2
  rw [hd] at hok2
  obtain ⟨m, r, c, hm, ea, hns, r1, r6, c1, c6⟩ := hok2
  obtain ⟨w0, w1, w2, -⟩ := W5 hW h
  have hCA := CLv_R hL h.1 hC
  obtain ⟨-, -, -, f3, -⟩ := CLv_f hCA
  have e3 : gI A L 3 = iN m := by
    rw [f3 (by omega), show isEl d = false from ?_]
    · exact ea
    · unfold isEl; rw [hd]; rfl
  have ec : cNu d = [iN r, iN c] := by unfold cNu; rw [if_neg (by omega)]; exact hns
  obtain ⟨t2, ht2, -⟩ := h.2.2.1
  have en0 : nX d 0 = iN r := by unfold nX; rw [hns]; rfl
  have en1 : nX d 1 = iN c := by unfold nX; rw [hns]; rfl
  rw [ea, en0, en1, iN_cl (show m < 2147483648 by omega), iN_cl (show r < 2147483648 by omega), iN_cl (show c < 2147483648 by omega)] at k
  rw [w1, e3]
  refine n_matrixAt (WC_R hW h.1) ht2 hm (n_numberAt (k := 0) (WC_R hW h.1) hL hL2 hCA (by omega) (n_numberAt (k := 1) (WC_R hW h.1) hL hL2 hCA (by omega) ⟨(kd_m4 (by omega)).1, ?_⟩))
  rw [ec]
  refine n_shape (WC_R hW h.1) (by omega) (fun A' hs => k A' ?_)
  obtain ⟨s1, s2, s3, s4, s5, s6, s7⟩ := hs
  exact CR_mx (m := m) (by omega) h s2 s1 s3 s6 rfl rfl rfl rfl rfl rfl rfl (MmA_us h.2.2.2.1 hm (fun m' _ hne => s3 _ (by omega)) (fun m' _ hne => s6 _ (by omega)) s4 s5 r6 c6 (fun p hp => ⟨s7 p hp, okd_0⟩))
theorem c_def {L : Nat} {v : Int32} {d : LDT} (hW : WC B) (hC : CLv B L v d) (hL : 100 ≤ L) (hL2 : L < 125) (hd : d.1 = 13) (hok : LDok d) (h : CR B dat q s 0 A)
    (k : ∀ A', CR B dat q (uFb s (us (rFb s) d.2.2.1.toNatClampNeg (some (d.2.1.toNatClampNeg, eX d 0)))) 0 A' → K A') : wp_Ca_define (gR A 5 1) (gI A L 5) L A K := by
  have hok2 := hok.2
  rw [hd] at hok2
  obtain ⟨i, b, e, hi, ea, hb, eb, hes⟩ := hok2
  obtain ⟨w0, w1, w2, -⟩ := W5 hW h
  have w := (WC_R hW h.1).2.2.1.2.2.2.2.2.1
  have hCA := CLv_R hL h.1 hC
  obtain ⟨-, -, -, -, f5, -⟩ := CLv_f hCA
  have ex0 : eX d 0 = e := by unfold eX; rw [hes]; rfl
  rw [ea, eb, iN_cl (show i < 2147483648 by omega), iN_cl (show b < 2147483648 by omega), ex0] at k
  rw [w1, f5 hd, eb]
  unfold wp_Ca_define
  rw [w, show Int32.ofNat (al 10) = iN 3 from rfl, show (0 : Int32) = iN 0 from rfl, iN_lt (by omega) (by omega), iN_le (by omega) (by omega), iN_cl (by omega)]
  refine ⟨fun q => by omega, fun _ => ⟨rfl, rfl, fun q => by omega, fun _ => ⟨iN_in (m := 3) hb (by omega), Or.inr (kdL hL hL2), k _ ?_⟩⟩⟩
  obtain ⟨hF, hq, hv, hm, hf, hl, hr, hd', hp, hu⟩ := h
  have eR : ∀ o, o ≠ 10 → gR (sR A 10 b L) o = gR A o := fun o ho => funext fun j => gR_ne (Or.inl ho)
  obtain ⟨v1, v2⟩ := CvS_ok hv
  refine ⟨FrR_tr hF ⟨rfl, fun _ _ _ _ _ _ _ _ => rfl, fun _ _ => rfl, fun _ _ => rfl, fun o _ h10 => eR o h10, fun j _ => congrFun (eR 8 (by omega)) j, fun _ _ => rfl⟩, hq, CvS_cg hv v1 (by rw [eR 8 (by omega)]) rfl rfl v2, MmA_cg (s := s) hm (fun _ _ => rfl) (fun _ _ => rfl), ⟨fun f hf3 => ?_, fun f hf3 => ?_⟩, LoA_cg hl rfl rfl rfl rfl rfl, RtA_cg hr rfl rfl, DaA_cg hd' rfl rfl rfl, PrA_cg hp rfl rfl, hu⟩
  · show (gR (sR A 10 b L) 10 f = 0 ∧ us (rFb s) b (some (i, e)) f = none) ∨ _
    by_cases hfb : f = b
    · rw [hfb, gR_eq]
      refine Or.inr ⟨v, d, i, e, CLv_cg hCA rfl rfl rfl rfl rfl (eR L (by omega)), ⟨hL, hL2⟩, hd, ea, hi, by rw [hes]; rfl, GdE_of (k := 0) hCA (by rw [hes]; rfl) (hok.1 _ (by rw [hes]; simp)), ?_⟩
      show us (rFb s) b (some (i, e)) b = _
      rw [us_eq]
    · rw [gR_ne (Or.inr hfb), us_ne hfb]
      rcases hf.1 f hf3 with g | ⟨v', dd, i', os, g1, g2, g3⟩
      · exact Or.inl g
      · refine Or.inr ⟨v', dd, i', os, CLv_cg g1 rfl rfl rfl rfl rfl (eR _ (by omega)), g2, g3.1, g3.2.1, g3.2.2.1, g3.2.2.2.1, g3.2.2.2.2.1, ?_⟩
        show us (rFb s) b (some (i, e)) f = _
        rw [us_ne hfb]; exact g3.2.2.2.2.2
  · show us (rFb s) b (some (i, e)) f = none
    rw [us_ne (by omega)]; exact hf.2 f hf3
theorem allE_t {ent : Nat → Nat → Option UInt64} {R C : Nat} (h : ∀ r c, 1 ≤ r → r ≤ R → 1 ≤ c → c ≤ C → ∃ v, ent r c = some v) : allE ent R C = true := by
  unfold allE
  rw [List.all_eq_true]
  intro r hr
  rw [List.all_eq_true]
  intro c hc
  rw [List.mem_range] at hr hc
  obtain ⟨v, hv⟩ := h (r + 1) (c + 1) (by omega) (by omega) (by omega) (by omega)
  rw [hv]; rfl
theorem allE_f {ent : Nat → Nat → Option UInt64} {R C r c : Nat} (h1 : 1 ≤ r) (h2 : r ≤ R) (h3 : 1 ≤ c) (h4 : c ≤ C) (h : ent r c = none) : allE ent R C = false := by
  cases ha : allE ent R C with
  | false => rfl
  | true =>
    unfold allE at ha
    rw [List.all_eq_true] at ha
    have h5 := ha (r - 1) (List.mem_range.mpr (by omega))
    rw [List.all_eq_true] at h5
    have h6 := h5 (c - 1) (List.mem_range.mpr (by omega))
    rw [Nat.sub_add_cancel h1, Nat.sub_add_cancel h3, h] at h6
    cases h6
theorem dfl_cg {e1 e2 : Nat → Nat → Option UInt64} {R C p : Nat} (hp : p < 36) (h : ∀ r c, 1 ≤ r → r ≤ R → 1 ≤ c → c ≤ C → e1 r c = e2 r c) : dfl e1 C (R + 1) 1 p = dfl e2 C (R + 1) 1 p := by
  unfold dfl
  by_cases hc : (p / 6 + 1 < R + 1 ∧ p % 6 + 1 ≤ C) ∨ (p / 6 + 1 = R + 1 ∧ p % 6 + 1 < 1)
  · rw [if_pos hc, if_pos hc, h _ _ (by omega) (by omega) (by omega) (by omega)]
  · rw [if_neg hc, if_neg hc]
theorem c_mtail {L t b x y : Nat} {v : Int32} {d : LDT} {sc : UInt64} (hW : WC B) (hC : CLv B L v d) (hL : 100 ≤ L) (hL2 : L < 125) (hd : d.1 = 14) (eb : d.2.2.1 = iN b) (hb : b < 9) (ht : t < 3) (hx : x < 3) (hy : y < 3) (h : CR B dat q s ft A) (hsc : okd sc) (ok : mtOK (rMr s) (rMc s) b t x y)
    (k0 : ft = 0 → ∀ A', CR B dat q (maE s t b x y sc).1 (maE s t b x y sc).2 A' → K A') (k1 : ft ≠ 0 → ∀ A', CR B dat q s ft A' → K A') : wp_Ca_shapeDraft 8 (fmN b) (12 + t) (12 + x) (12 + y) A (fun A16 => ∃ n9 : Nat, wp_Ca_mat_c89 K n9 8 L (12 + t) (12 + x) (12 + y) sc 1 A16) := by
  have hM := h.2.2.2.1
  have sz := SzA_of hM
  refine n_draft hb (WC_R hW h.1) sz ht hx hy (fun A3 hs => ?_)
  have h3 := CR_sh3 h hs
  obtain ⟨s1, s2, s3, s4, s5, s6, s7⟩ := hs
  have hR6 : mtR (rMr s) (rMc s) b t x ≤ 6 := by
    have h1 := (sz t ht).2.2
    have h2 := (sz x hx).2.2
    unfold mtR
    repeat' split
    all_goals omega
  have hC6 : mtC (rMr s) (rMc s) b t x y ≤ 6 := by
    have h1 := (sz t ht).2.2
    have h2 := (sz x hx).2.2
    have h3 := (sz y hy).2.2
    unfold mtC
    repeat' split
    all_goals omega
  have hM3 := h3.2.2.2.1
  have hcg : ∀ r c, 1 ≤ r → r ≤ mtR (rMr s) (rMc s) b t x → 1 ≤ c → c ≤ mtC (rMr s) (rMc s) b t x y → entF (fun m => gD A3 (16 + m)) (rMc s) b sc x y r c = entF (rMe s) (rMc s) b sc x y r c := fun r c r1 r2 c1 c2 =>
    entF_c36 (fun p hp => hM3.2.1 x p hx hp) (fun p hp => hM3.2.1 y p hy hp) (by omega) (by omega) (sz x hx).2.2.2
  unfold maE at k0
  refine ⟨mtR (rMr s) (rMc s) b t x + 1, w_rows (fz := ft) (A0 := A3) (va := rVa s) (b := b) (R := mtR (rMr s) (rMc s) b t x) (C := mtC (rMr s) (rMc s) b t x y) hb (WC_R hW h3.1) hM3.1 ht hx hy hsc ⟨s4, s5, hR6, hC6⟩ hL hL2 ?_ (fun r c r1 r2 c1 c2 => en_rng hb (sz t ht).2.2 (sz x hx).2.2 (sz y hy).2.2 ok r1 r2 c1 c2) (fun A' hI => ?_) (fun ft' A' f0 hI => ?_) (mtR (rMr s) (rMc s) b t x) 1 _ ft A3 (by omega) (Nat.le_refl 1) (by omega) (InD_0 h3.2.2.1 s7 (fun q => Or.inl ⟨q, rfl⟩) (fun _ => rfl))⟩
  · rw [(CLv_mat (CLv_R hL h3.1 hC) hd).2, eb, cForm_N hb]
  · obtain ⟨A1, d1, hc, hg, hn, hz⟩ := hI
    have f00 : ft = 0 := by
      by_cases f0 : ft = 0
      · exact f0
      · exact (hz f0).symm
    subst f00
    obtain ⟨g1, g2⟩ := hg rfl
    have h4 : CR B dat q s 0 A' := CR_ev (CR_dr h3 d1) hc
    obtain ⟨tt, htt, -⟩ := hc
    have e15 : gI A' 15 = gI A3 15 := by rw [htt.1.2.1 15 (by omega), d1.1]
    have hal : allE (entF (rMe s) (rMc s) b sc x y) (mtR (rMr s) (rMc s) b t x) (mtC (rMr s) (rMc s) b t x y) = true := allE_t (fun r c r1 r2 c1 c2 => by
      obtain ⟨w, hw, -⟩ := g2 r c r1 c1 c2 (by omega)
      exact ⟨w, (hcg r c r1 r2 c1 c2).symm.trans hw⟩)
    rw [if_pos hal] at k0
    refine n_become (WC_R hW h4.1) ht (by rw [e15]; exact s4) (by rw [e15]; exact s5) (fun A'' b1 b2 b3 b4 b5 b6 b7 => k0 rfl A'' ?_)
    refine CR_mx (m := t) (by omega) h4 b2 b1 b3 b6 rfl rfl rfl rfl rfl rfl rfl (MmA_us h4.2.2.2.1 ht (fun m' _ hne => b3 _ (by omega)) (fun m' _ hne => b6 _ (by omega)) b4 b5 hR6 hC6 (fun p hp => ⟨?_, ?_⟩))
    · rw [b7 p hp, g1 p hp]
      exact dfl_cg hp hcg
    · rw [← dfl_cg (e1 := fun r c => entF (fun m => gD A3 (16 + m)) (rMc s) b sc x y r c) hp hcg]
      unfold dfl
      by_cases hcc : (p / 6 + 1 < mtR (rMr s) (rMc s) b t x + 1 ∧ p % 6 + 1 ≤ mtC (rMr s) (rMc s) b t x y) ∨ (p / 6 + 1 = mtR (rMr s) (rMc s) b t x + 1 ∧ p % 6 + 1 < 1)
      · rw [if_pos hcc]
        obtain ⟨w, hw, ho⟩ := g2 (p / 6 + 1) (p % 6 + 1) (by omega) (by omega) (by omega) (by omega)
        have hw : entF (fun m => gD A3 (16 + m)) (rMc s) b sc x y (p / 6 + 1) (p % 6 + 1) = some w := hw
        show okd ((entF (fun m => gD A3 (16 + m)) (rMc s) b sc x y (p / 6 + 1) (p % 6 + 1)).getD FP.dconst0)
        rw [hw]; exact ho
      · rw [if_neg hcc]; exact okd_0
  · obtain ⟨A1, d1, hc, hg, hn, hz⟩ := hI
    have h4 : CR B dat q s ft' A' := CR_ev (CR_dr h3 d1) hc
    by_cases f1 : ft = 0
    · rcases hn f0 with ⟨g1, -⟩ | ⟨g1, r, c, r1, r2, c1, c2, hno⟩
      · exact absurd f1 g1
      · have hno : entF (fun m => gD A3 (16 + m)) (rMc s) b sc x y r c = none := hno
        rw [hcg r c r1 r2 c1 c2] at hno
        rw [if_neg (by rw [allE_f r1 r2 c1 c2 hno]; decide)] at k0
        subst g1
        exact k0 f1 A' h4
    · rw [hz f1] at h4
      exact k1 f1 A' h4
theorem mX_ok {d : LDT} {b : Nat} (hd : d.1 = 14) (h : ∀ v, v ∈ d.2.2.2.1 → ∃ k, k < 3 ∧ v = iN k) (k : Nat) : mX d k < 3 ∧ (cNu d).getD k 0 = iN (mX d k) := by
  rw [nX_c (by omega)]
  unfold mX nX
  rw [List.getD_eq_getElem?_getD]
  cases hk : d.2.2.2.1[k]? with
  | none => exact ⟨by decide, by decide⟩
  | some w =>
    obtain ⟨j, j3, ej⟩ := h w (List.mem_of_getElem? hk)
    show w.toNatClampNeg < 3 ∧ w = iN w.toNatClampNeg
    rw [ej, iN_cl (by omega)]
    exact ⟨j3, rfl⟩
theorem fmN_8 {b : Nat} (hb : b < 9) : fmN b = 1108 ↔ b = 4 := by
  rcases (by omega : b = 0 ∨ b = 1 ∨ b = 2 ∨ b = 3 ∨ b = 4 ∨ b = 5 ∨ b = 6 ∨ b = 7 ∨ b = 8) with e | e | e | e | e | e | e | e | e <;> subst e <;> decide
theorem fmN_r {b : Nat} (hb : b < 9) : 1100 ≤ fmN b ∧ fmN b < 1109 := by
  rcases (by omega : b = 0 ∨ b = 1 ∨ b = 2 ∨ b = 3 ∨ b = 4 ∨ b = 5 ∨ b = 6 ∨ b = 7 ∨ b = 8) with e | e | e | e | e | e | e | e | e <;> subst e <;> decide
theorem c_mat {L : Nat} {v : Int32} {d : LDT} (hW : WC B) (hC : CLv B L v d) (hL : 100 ≤ L) (hL2 : L < 125) (hd : d.1 = 14) (hok : LDok d) (h : CR B dat q s 0 A)
    (k : ∀ r, r = maS s d d.2.1.toNatClampNeg d.2.2.1.toNatClampNeg → ∀ A', CR B dat q r.1 r.2 A' → K A') : wp_Ca_mat 8 L A K := by
  have hok2 := hok.2
  rw [hd] at hok2
  obtain ⟨t, b, ht, ea, eb, hb, hns, hnl, hes⟩ := hok2
  have hCA := CLv_R hL h.1 hC
  obtain ⟨m1, m2⟩ := CLv_mat hCA hd
  have hWA := WC_R hW h.1
  obtain ⟨tt, htt, -⟩ := h.2.2.1
  obtain ⟨x1, x2⟩ := mX_ok (b := b) hd hns 0
  obtain ⟨y1, y2⟩ := mX_ok (b := b) hd hns 1
  rw [eb, cForm_N hb] at m2
  rw [ea, eb, iN_cl (show t < 2147483648 by omega), iN_cl (show b < 2147483648 by omega)] at k
  unfold maS at k
  unfold wp_Ca_mat
  rw [m1, ea]
  refine ⟨kdL hL hL2, rfl, n_matrixAt hWA htt ht (n_numberAt (k := 0) hWA hL hL2 hCA (by omega) ?_)⟩
  rw [x2]
  refine n_matrixAt hWA htt x1 (n_numberAt (k := 1) hWA hL hL2 hCA (by omega) ?_)
  rw [y2]
  refine n_matrixAt hWA htt y1 ?_
  rw [m2]
  refine n_fits hb (SzA_of h.2.2.2.1) ht x1 y1 (fun ok => ⟨fun _ => ?_, fun q => (by cases q)⟩) (fun ok => ⟨fun q => (by cases q), fun _ => ?_⟩)
  · rw [m2]
    rw [if_pos (mtB_iff.mpr ok)] at k
    refine ⟨Or.inr (Or.inl (fmN_r hb)), fun h8 => ?_, fun h8 => ?_⟩
    · rw [if_neg (fun e => h8 ((fmN_8 hb).mpr e))] at k
      exact c_mtail hW hC hL hL2 hd eb hb ht x1 y1 h okd_0 ok (fun _ A' h' => k _ rfl A' h') (fun q => absurd rfl q)
    · have hb4 := (fmN_8 hb).mp h8
      rw [if_pos hb4] at k
      obtain ⟨e, he⟩ := hes hb4
      have ex0 : eX d 0 = e := by unfold eX; rw [he]; rfl
      rw [ex0] at k
      refine c_ev (k := 0) hW h hC hL hL2 (by rw [he]; rfl) (hok.1 _ (by rw [he]; simp)) (fun x A1 hx h1 v1 n1 => ?_)
      rw [(CLv_mat (CLv_R hL h1.1 hC) hd).2, eb, cForm_N hb]
      refine c_mtail hW hC hL hL2 hd eb hb ht x1 y1 h1 hx ok (fun h0 A' h' => ?_) (fun h0 A' h' => k (s, _) (fEx_1 h0).symm A' h')
      obtain ⟨u, hu⟩ := fEx_ok1 h0 n1
      rw [bnE_ok hu, ← v1 u rfl hu] at k
      exact k _ rfl A' h'
  · rw [if_neg (fun e => ok (mtB_iff.mp e))] at k
    exact c_fail (f := 6) h (by omega) (by omega) (fun A' h' => k _ rfl A' h')
end RC6
