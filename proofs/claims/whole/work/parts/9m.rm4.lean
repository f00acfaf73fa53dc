section RM4
variable {B A : Mem} {dat : List UInt64} {q : Nat → Int32} {s : RS} {ft : Nat} {P : PT} {sl : List Nat} {w : Nat} {d : LDT}
theorem MRi (h : MR B sl dat q s ft A) : gI A 255 = gI B 255 ∧ gI A 256 = gI B 256 ∧ gI A 253 = gI B 253 ∧ gI A 254 = gI B 254 :=
  ⟨h.1.2.2.1 255 (by omega) (by omega), h.1.2.2.1 256 (by omega) (by omega), h.1.2.2.1 253 (by omega) (by omega), h.1.2.2.1 254 (by omega) (by omega)⟩
theorem r_for {a here : Nat} {K : Int32 → Mem → Prop} (hW : MW B) (hs : Psr P) (hP : PMs B P sl) (hl24 : P.length ≤ 24) (hL : PLd P) (hh : here < P.length) (hw : sl[here]? = some w) (hw24 : w < 24) (ha : a < 26) (ha0 : gI B 255 (w * 8) = iN a) (ha1 : gI B 255 (w * 8 + 1) = (if d.2.2.2.2.1.length ≤ 2 then 0 else 1))
    (hE0 : exB B w 0 (eX d 0)) (hE1 : exB B w 1 (eX d 1)) (hE2 : ¬ d.2.2.2.2.1.length ≤ 2 → exB B w 2 (eX d 2) ∧ GdE (eX d 2) ∧ PGd (eX d 2)) (g0 : GdE (eX d 0) ∧ PGd (eX d 0)) (g1 : GdE (eX d 1) ∧ PGd (eX d 1)) (h : MR B sl dat q s 0 A) (hdu : rDu s = here + 1)
    (k : RKt B sl dat q (bnE (evS s (eX d 0)) s fun x => bnE (evS s (eX d 1)) s fun y => bnE (if d.2.2.2.2.1.length ≤ 2 then .ok FP.dconst1 else evS s (eX d 2)) s fun z => foS P here s a x y z) K) : wp_Mo_doFor 250 (iN w) (slI sl (here + 1)) A K := by
  unfold wp_Mo_doFor
  rw [show gR A 250 12 = 255 from MRg hW h (j := 12) (by omega), show gR A 250 13 = 256 from MRg hW h (j := 13) (by omega), show (8 : Int32) = iN 8 from rfl, show (4 : Int32) = iN 4 from rfl, iN_mul, iN_mul, iN_cl (show w * 8 < 2147483648 by omega), iN_cl (show w * 4 < 2147483648 by omega), show gI A 255 (w * 8) = iN a from (congrFun (MRi h).1 _).trans ha0]
  refine ⟨rfl, rfl, iN_in (m := 200) (by omega) (by omega), rfl, iN_in (m := 100) (by omega) (by omega), r_evx (i := 0) hW h hE0 g0.1 g0.2 (fun x x' A1 hx hdx hox h1 => ?_) (fun f A1 hf f0 h1 => ?_)⟩
  · rw [bnE_ok hx] at k
    rw [MR_0 h1, show gR A1 250 13 = 256 from MRg hW h1 (j := 13) (by omega), show (1 : Int32) = iN 1 from rfl, iN_add, iN_cl (show w * 4 + 1 < 2147483648 by omega)]
    refine ⟨fun q => absurd rfl q, fun _ => ⟨rfl, iN_in (m := 100) (by omega) (by omega), r_evx (i := 1) hW h1 hE1 g1.1 g1.2 (fun y y' A2 hy hdy hoy h2 => ?_) (fun f A2 hf f0 h2 => ?_)⟩⟩
    · rw [bnE_ok hy] at k
      unfold wp_Mo_doFor_c49
      rw [MR_0 h2, show gR A2 250 12 = 255 from MRg hW h2 (j := 12) (by omega), show gR A2 250 13 = 256 from MRg hW h2 (j := 13) (by omega), show (8 : Int32) = iN 8 from rfl, show (4 : Int32) = iN 4 from rfl, iN_mul, iN_mul, show (1 : Int32) = iN 1 from rfl, iN_add, iN_cl (show w * 8 + 1 < 2147483648 by omega), show (2 : Int32) = iN 2 from rfl, iN_add, iN_cl (show w * 4 + 2 < 2147483648 by omega), show gI A2 255 (w * 8 + 1) = _ from (congrFun (MRi h2).1 _).trans ha1]
      refine ⟨rfl, fun q => absurd rfl q, fun _ => ⟨rfl, iN_in (m := 200) (by omega) (by omega), fun hne => ?_, fun he => ?_⟩⟩
      · have hle : d.2.2.2.2.1.length ≤ 2 := by
          by_cases hc : d.2.2.2.2.1.length ≤ 2
          · exact hc
          · rw [if_neg hc] at hne; exact absurd rfl hne
        rw [if_pos hle] at k
        exact r_f92 hW hs hP hl24 hL hh hw hw24 ha h2 hdu hdx hox hdy hoy (dz_rfl _) okd_1 k
      · have hgt : ¬ d.2.2.2.2.1.length ≤ 2 := by
          intro hc
          rw [if_pos hc] at he; exact absurd he (by decide)
        rw [if_neg hgt] at k
        obtain ⟨hE2, g2, p2⟩ := hE2 hgt
        refine ⟨rfl, iN_in (m := 100) (by omega) (by omega), r_evx (i := 2) hW h2 hE2 g2 p2 (fun z z' A3 hz hdz hoz h3 => ?_) (fun f A3 hf f0 h3 => ?_)⟩
        · rw [bnE_ok hz] at k
          exact r_f92 hW hs hP hl24 hL hh hw hw24 ha h3 hdu hdx hox hdy hoy hdz hoz k
        · rw [bnE_er hf] at k
          exact r_f92F h3 f0 (k _ _ h3 (fun q => absurd q f0))
    · rw [bnE_er hf] at k
      unfold wp_Mo_doFor_c49
      exact ⟨rfl, fun _ => r_f92F h2 f0 (k _ _ h2 (fun q => absurd q f0)), fun q => absurd q (MR_n h2 f0)⟩
  · rw [bnE_er hf] at k
    refine ⟨fun _ => ?_, fun q => absurd q (MR_n h1 f0)⟩
    unfold wp_Mo_doFor_c49
    exact ⟨rfl, fun _ => r_f92F h1 f0 (k _ _ h1 (fun q => absurd q f0)), fun q => absurd q (MR_n h1 f0)⟩
theorem r_next {a here : Nat} {K : Int32 → Mem → Prop} (hW : MW B) (hs : Psr P) (hP : PMs B P sl) (hl24 : P.length ≤ 24) (hw24 : w < 24) (ha : a < 26) (ha0 : gI B 255 (w * 8) = iN a) (h : MR B sl dat q s 0 A) (hdu : rDu s = here + 1) (k : RKt B sl dat q (neS s a) K) : wp_Mo_doNext 250 (iN w) (slI sl (here + 1)) A K := by
  unfold wp_Mo_doNext
  rw [show gR A 250 12 = 255 from MRg hW h (j := 12) (by omega), show (8 : Int32) = iN 8 from rfl, iN_mul, iN_cl (show w * 8 < 2147483648 by omega), show gI A 255 (w * 8) = iN a from (congrFun (MRi h).1 _).trans ha0]
  have hLo := h.2.2.2.2.2.1
  refine ⟨rfl, rfl, iN_in (m := 200) (by omega) (by omega), r_loopFor (MW_M hW h.1) hLo ha ?_⟩
  unfold neS at k
  cases hf : lfi (rLp s) a 0 with
  | none =>
    rw [hf] at k
    exact ⟨fun q => absurd q (by decide), fun _ => k _ _ (MR_fail (f := 2) h (by omega)) (fun q => absurd (show (2 : Nat) = 0 from q) (by decide))⟩
  | some j =>
    rw [hf] at k
    have hj := (lfi_lt _ _ _ _ hf).2
    have hj6 := hLo.2.1
    have hje : (rLp s)[j]? = some (rLp s)[j] := List.getElem?_eq_getElem (by omega)
    dsimp only at k
    rw [hje] at k
    generalize (rLp s)[j] = e at hje k
    dsimp only at k
    refine ⟨fun _ => ?_, fun q => absurd ?_ q⟩
    · obtain ⟨e1, e2, ⟨c, c1, c2⟩, ⟨e3, e3'⟩, e4, e4'⟩ := hLo.2.2 j e hje
      have h1 := MR_cut h (show j + 1 ≤ (rLp s).length by omega)
      have hv := h.2.2.1
      obtain ⟨vm, st, he, hv⟩ := hv
      obtain ⟨v1, v2⟩ := hv a ha
      rw [iN_1]
      rw [show gR (sI A 250 23 (iN (j + 1))) 250 29 = 260 from MRg hW h1 (j := 29) (by omega), show gR (sI A 250 23 (iN (j + 1))) 250 33 = 264 from MRg hW h1 (j := 33) (by omega), iN_cl (show a < 2147483648 by omega), iN_cl (show j < 2147483648 by omega)]
      have hz1 : dz (rVa s a) (gD (sI A 250 23 (iN (j + 1))) 260 a) := by
        show dz (rVa s a) (gD A 260 a)
        rw [he.2.1.1]; exact v1
      have hz2 : dz e.2.2.2 (gD (sI A 250 23 (iN (j + 1))) 264 j) := e4
      have o1 := dz_okd hz1 v2
      have o2 := dz_okd hz2 e4'
      refine ⟨rfl, iN_in (m := 26) ha (by omega), rfl, iN_in (m := 6) (by omega) (by omega), vfn_add o1 o2, m_kept (FP.Core.dadd_out (okd_nn o1) (okd_fin o2)) (fun r hr hor => ?_) (fun hr => ?_)⟩
      · rcases dzO_kp (dz_add v2 e4' hz1 hz2) with ⟨g1, g2⟩ | ⟨y, y', g1, g2, g3, g4⟩
        · rw [g2] at hr; cases hr
        · rw [g2] at hr
          have hr := Option.some.inj hr
          rw [hr] at g3
          rw [g1] at k
          dsimp only at k
          refine ⟨fun _ => ?_, fun q => absurd (MR_0 h1) q⟩
          have h2 := MR_va (i := a) h1 g3 g4
          rw [show gR (sI A 250 23 (iN (j + 1))) 250 29 = 260 from MRg hW h1 (j := 29) (by omega)]
          rw [show gR (sD (sI A 250 23 (iN (j + 1))) 260 a r) 250 32 = 263 from MRg hW h2 (j := 32) (by omega), show gR (sD (sI A 250 23 (iN (j + 1))) 260 a r) 250 33 = 264 from MRg hW h2 (j := 33) (by omega)]
          have hz3 : dz e.2.2.1 (gD (sD (sI A 250 23 (iN (j + 1))) 260 a r) 263 j) := by
            rw [gD_ne (Or.inl (by omega))]; exact e3
          have hz4 : dz e.2.2.2 (gD (sD (sI A 250 23 (iN (j + 1))) 260 a r) 264 j) := by
            rw [gD_ne (Or.inl (by omega))]; exact e4
          refine ⟨rfl, iN_in (m := 26) ha (by omega), rfl, iN_in (m := 6) (by omega) (by omega), rfl, iN_in (m := 6) (by omega) (by omega), r_over g3 g4 hz3 e3' hz4 e4' ?_⟩
          cases ho : ovS y e.2.2.1 e.2.2.2 with
          | true =>
            rw [if_pos ho] at k
            refine ⟨fun _ => ?_, fun q => (by cases q)⟩
            have h3 := MR_cut (j := j) h2 (by show j ≤ ((rLp s).take (j + 1)).length; rw [List.length_take]; omega)
            refine k _ _ ?_ (fun _ => by rw [← hdu]; rfl)
            have e7 : (rLp (uVa (uLp s ((rLp s).take (j + 1))) (us (rVa (uLp s ((rLp s).take (j + 1)))) a y))).take j = (rLp s).take j := by
              show ((rLp s).take (j + 1)).take j = _
              rw [List.take_take, Nat.min_eq_left (by omega)]
            rw [e7] at h3
            exact h3
          | false =>
            rw [if_neg (show ¬ ovS y e.2.2.1 e.2.2.2 = true by rw [ho]; decide)] at k
            refine ⟨fun q => (by cases q), fun _ => ?_⟩
            have hc2 : gI (sD (sI A 250 23 (iN (j + 1))) 260 a r) 273 j = iN c := by
              show gI (sI A 250 23 (iN (j + 1))) 273 j = iN c
              rw [gI_ne (Or.inl (by omega))]; exact c2
            have hPA := PMs_M hP h2.1
            have hcl : c < 24 := hPA.2.2.1 c (List.mem_of_getElem? c1)
            have hpl : e.2.1 < P.length := by
              have := (List.getElem?_eq_some_iff.mp c1).1
              rw [hPA.1] at this; exact this
            rw [show gR (sD (sI A 250 23 (iN (j + 1))) 260 a r) 250 42 = 273 from MRg hW h2 (j := 42) (by omega), show gR (sD (sI A 250 23 (iN (j + 1))) 260 a r) 250 10 = 253 from MRg hW h2 (j := 10) (by omega), hc2, iN_cl (show c < 2147483648 by omega)]
            exact ⟨rfl, iN_in (m := 6) (by omega) (by omega), rfl, iN_in (m := 25) (by omega) (by omega), y_nextS (MW_M hW h2.1) hs hPA hl24 hpl c1 (k _ _ h2 (fun _ => rfl))⟩
      · rcases dzO_kp (dz_add v2 e4' hz1 hz2) with ⟨g1, g2⟩ | ⟨y, y', g1, g2, g3, g4⟩
        · rw [g1] at k
          dsimp only at k
          have h2 := MR_fail (f := 4) h1 (by omega)
          exact ⟨fun q => absurd q (MR_n h2 (by decide)), fun _ => k _ _ h2 (fun q => absurd (show (4 : Nat) = 0 from q) (by decide))⟩
        · rw [g2] at hr; cases hr
    · show iN 0 ≤ iN j
      rw [iN_le (by omega) (by omega)]
      omega
theorem r_choose {K : Int32 → Mem → Prop} (hW : MW B) (hs : Psr P) (hP : PMs B P sl) (hw24 : w < 24) (hE0 : exB B w 0 (eX d 0)) (g0 : GdE (eX d 0) ∧ PGd (eX d 0)) (hn4 : d.2.2.2.1.length ≤ 4) (ha0 : gI B 255 (w * 8) = iN d.2.2.2.1.length) (hns : ∀ j, j < d.2.2.2.1.length → gI B 255 (w * 8 + (j + 1)) = nX d j ∧ 0 < nX d j) (h : MR B sl dat q s 0 A)
    (k : RKt B sl dat q (bnE (evS s (eX d 0)) s fun x => if 1 ≤ (FP.d2l x).toInt ∧ (FP.d2l x).toInt ≤ d.2.2.2.1.length then goS P (nX d ((FP.d2l x).toInt.toNat - 1)) s else (s, 1)) K) : wp_Mo_choose 250 (iN w) A K := by
  unfold wp_Mo_choose
  rw [show gR A 250 13 = 256 from MRg hW h (j := 13) (by omega), show (4 : Int32) = iN 4 from rfl, iN_mul, iN_cl (show w * 4 < 2147483648 by omega)]
  refine ⟨rfl, rfl, iN_in (m := 100) (by omega) (by omega), r_evx (i := 0) hW h hE0 g0.1 g0.2 (fun x x' A1 hx hdx hox h1 => ?_) (fun f A1 hf f0 h1 => ?_)⟩
  · rw [bnE_ok hx] at k
    rw [MR_0 h1, show gR A1 250 12 = 255 from MRg hW h1 (j := 12) (by omega), show (8 : Int32) = iN 8 from rfl, iN_mul, iN_cl (show w * 8 < 2147483648 by omega), show gI A1 255 (w * 8) = _ from (congrFun (MRi h1).1 _).trans ha0, ← dz_d2l hdx]
    have eb : (iN d.2.2.2.1.length).toInt64.toInt = d.2.2.2.1.length := by rw [Int32.toInt_toInt64, iN_toInt (by omega)]
    simp only [lg_cmp_lt, lg_cmp_gt, lg_cmp_le, i64_lt, i64_le, eb, Int64_1]
    have h3 := MR_fail (f := 1) h1 (by omega)
    refine ⟨fun _ => ⟨fun g => ?_, fun g => ⟨rfl, iN_in (m := 200) (by omega) (by omega), fun g2 => ?_, fun g2 => ?_⟩⟩, fun q => absurd trivial q⟩
    · rw [if_neg (by omega)] at k
      exact k _ _ h3 (fun q => absurd (show (1 : Nat) = 0 from q) (by decide))
    · rw [if_pos (by omega)] at k
      rw [i64_32 (by omega) (by omega), iN_add, iN_cl (by omega)]
      obtain ⟨n1, n2⟩ := hns ((FP.d2l x).toInt.toNat - 1) (by omega)
      have e : gI A1 255 (w * 8 + (FP.d2l x).toInt.toNat) = nX d ((FP.d2l x).toInt.toNat - 1) := by
        rw [(MRi h1).1, ← n1]
        congr 1
        omega
      rw [e]
      exact ⟨iN_in (m := 200) (by omega) (by omega), r_goTo hW hs hP n2 h1 k⟩
    · rw [if_neg (by omega)] at k
      exact k _ _ h3 (fun q => absurd (show (1 : Nat) = 0 from q) (by decide))
  · rw [bnE_er hf] at k
    exact ⟨fun q => absurd q (MR_n h1 f0), fun _ => k _ _ h1 (fun q => absurd q f0)⟩
theorem r_goSub {here : Nat} {n : Int32} {K : Int32 → Mem → Prop} (hW : MW B) (hs : Psr P) (hP : PMs B P sl) (hw24 : w < 24) (hn : 0 < n) (ha0 : gI B 255 (w * 8) = n) (h : MR B sl dat q s 0 A)
    (k : ∀ r, r = (if (rRt s).length < 8 then (match fnd P n 0 with
      | some j => (uDu (uRt s (rRt s ++ [here + 1])) j, 0)
      | none => (s, 3)) else (s, 2)) → RKt B sl dat q r K) : wp_Mo_goSub 250 (iN w) (slI sl (here + 1)) A K := by
  have h' := h
  obtain ⟨hF, hqq, ⟨vm, st, he, hv⟩, hm, hf, hl, ⟨r1, r2, r3⟩, hd, hp⟩ := h'
  unfold wp_Mo_goSub
  rw [r1, show (8 : Int32) = iN 8 from rfl, iN_eq (by omega) (by omega), iN_mul, iN_cl (show w * 8 < 2147483648 by omega), show gR A 250 12 = 255 from MRg hW h (j := 12) (by omega), show gI A 255 (w * 8) = n from (congrFun (MRi h).1 _).trans ha0]
  refine ⟨rfl, fun hlt => ⟨rfl, iN_in (m := 200) (by omega) (by omega), r_goTo hW hs hP hn h (fun r A' h1 hr => ?_)⟩, fun he => ?_⟩
  · rw [if_pos (by omega)] at k
    unfold goS at h1 hr
    cases hfd : fnd P n 0 with
    | none =>
      rw [hfd] at h1 hr k
      exact ⟨fun _ => k _ rfl _ _ h1 hr, fun q => absurd q (MR_n h1 (show (3 : Nat) ≠ 0 by decide))⟩
    | some j =>
      rw [hfd] at h1 hr k
      refine ⟨fun q => absurd (MR_0 h1) q, fun _ => ?_⟩
      have h1' := h1
      obtain ⟨hF', ⟨q1, q2, q3⟩, ⟨vm', st', he', hv'⟩, hm', hf', hl', ⟨r1', r2', r3'⟩, hd', hp'⟩ := h1'
      have r1' : gI A' 250 22 = iN (rRt s).length := r1'
      rw [show gR A' 250 40 = 271 from MRg hW h1 (j := 40) (by omega), r1', iN_cl (show (rRt s).length < 2147483648 by omega)]
      refine ⟨rfl, iN_in (m := 8) (by omega) (by omega), fun A8 e8 => ?_⟩
      rw [show gI (sI A' 271 (rRt s).length (slI sl (here + 1))) 250 22 = iN (rRt s).length from (gI_ne (by omega)).trans r1', iN_1] at e8
      have eI : ∀ o, o ≠ 250 → o ≠ 271 → gI A8 o = gI A' o := fun o h1 h2 => by rw [e8, gI_row h1, gI_row h2]
      have e0 : ∀ j, j ≠ 22 → gI A8 250 j = gI A' 250 j := fun j hj => by rw [e8, gI_ne (Or.inr hj), gI_ne (by omega)]
      have eD : gD A8 = gD A' := by rw [e8]; rfl
      have eR : gR A8 = gR A' := by rw [e8]; rfl
      have eL : gL A8 = gL A' := by rw [e8]; rfl
      refine k _ rfl _ _ ⟨MFr_tr hF' ⟨eL, eR, fun o h1 h2 => eI o h1 (by omega), fun j hj => e0 j (by omega), fun o _ => by rw [eD]⟩, ⟨(e0 16 (by omega)).trans q1, (e0 17 (by omega)).trans q2, (e0 26 (by omega)).trans q3⟩, EvR_cg he' (by rw [eD, he'.2.1.1]; exact hv') ((e0 27 (by omega)).trans he'.2.1.2.1) he'.2.1.2.2.1 (e0 24 (by omega)) (e0 25 (by omega)) (by rw [eD]), MmM_cg (s := s) hm' (eI 269 (by omega) (by omega)) (eI 270 (by omega) (by omega)) (by rw [eD]), FbM_cg hf' (eI 268 (by omega) (by omega)) (eI 255 (by omega) (by omega)) (eI 256 (by omega) (by omega)) (eI 257 (by omega) (by omega)), LoM_cg hl' (e0 23 (by omega)) (eI 272 (by omega) (by omega)) (eI 273 (by omega) (by omega)) (by rw [eD]) (by rw [eD]), ⟨?_, ?_, fun k x hk => ?_⟩, DaM_cg hd' (e0 20 (by omega)) (e0 19 (by omega)) (by rw [eD]), PrM_cg hp' (e0 18 (by omega)) (by rw [eD])⟩ hr
      · show _ = iN (rRt s ++ [here + 1]).length
        rw [e8, gI_eq, List.length_append, List.length_singleton]
      · show (rRt s ++ [here + 1]).length ≤ 8
        rw [List.length_append, List.length_singleton]; omega
      · have hk : (rRt s ++ [here + 1])[k]? = some x := hk
        rw [e8, gI_ne (Or.inl (by omega))]
        by_cases hk2 : k < (rRt s).length
        · rw [List.getElem?_append_left hk2] at hk
          rw [gI_ne (Or.inr (by omega))]
          exact r3' k x hk
        · have hk3 := (List.getElem?_eq_some_iff.mp hk).1
          rw [List.length_append, List.length_singleton] at hk3
          have hk4 : k = (rRt s).length := by omega
          subst hk4
          rw [List.getElem?_append_right (Nat.le_refl _), Nat.sub_self] at hk
          rw [← show here + 1 = x from Option.some.inj hk, gI_eq]
  · rw [if_neg (by omega)] at k
    exact k _ rfl _ _ (MR_fail (f := 2) h (by omega)) (fun q => absurd (show (2 : Nat) = 0 from q) (by decide))
end RM4
