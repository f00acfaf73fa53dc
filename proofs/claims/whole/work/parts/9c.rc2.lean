section RC2
variable {B A A' : Mem} {dat : List UInt64} {q : Nat → Int32} {s : RS} {ft : Nat} {P : PT}
theorem CvS_cg {va va' : Nat → UInt64} (h : CvS A va ft A) (e9 : gD A' 9 = va') (e8 : gR A' 8 0 = gR A 8 0) (i8 : gI A' 8 8 = gI A 8 8) (e11 : gD A' 11 = gD A 11) (ho : ∀ i, okd (va' i)) : CvS A' va' ft A' := by
  obtain ⟨t, ⟨-, ⟨b1, b2, b3⟩, ⟨c1, c2, c3, c4⟩, d⟩, h0⟩ := h
  exact ⟨t, ⟨⟨rfl, fun _ _ => rfl, fun _ _ => rfl, fun _ _ => rfl, fun _ _ => rfl, fun _ _ _ => rfl⟩, ⟨e9, e8.trans b2, b3⟩, ⟨i8.trans c1, c2, by rw [e11]; exact c3, c4⟩, ho⟩, h0⟩
theorem CvS_ok {va : Nat → UInt64} (h : CvS A va ft A) : gD A 9 = va ∧ ∀ i, okd (va i) := by
  obtain ⟨t, ⟨-, ⟨b1, b2, b3⟩, -, d⟩, h0⟩ := h
  exact ⟨b1, d⟩
theorem FbA_cg {fb : Nat → Option (Nat × List SOp)} (h : FbA A fb) (e : gR A' 10 = gR A 10) (hL : ∀ L, 100 ≤ L → gI A' L = gI A L ∧ gR A' L = gR A L) : FbA A' fb := by
  intro f hf
  rw [e]
  rcases h f hf with g | ⟨v, dd, i, os, g1, g2, g3⟩
  · exact Or.inl g
  · exact Or.inr ⟨v, dd, i, os, CLv_cg g1 (hL _ (by omega)).1 (hL _ (by omega)).1 (hL _ (by omega)).1 (hL _ (by omega)).1 (hL _ (by omega)).1 (hL _ (by omega)).2, g2, g3⟩
theorem LoA_cg {lp : List LoT} (h : LoA A lp) (e20 : gI A' 20 0 = gI A 20 0) (e21 : gI A' 21 = gI A 21) (e22 : gI A' 22 = gI A 22) (e23 : gD A' 23 = gD A 23) (e24 : gD A' 24 = gD A 24) : LoA A' lp := by
  unfold LoA
  rw [e20, e21, e22, e23, e24]
  exact h
theorem RtA_cg {rt : List Nat} (h : RtA A rt) (e5 : gI A' 5 5 = gI A 5 5) (e26 : gI A' 26 = gI A 26) : RtA A' rt := by
  unfold RtA
  rw [e5, e26]
  exact h
theorem DaA_cg {rd : Nat} (h : DaA A dat rd) (e6 : gI A' 5 6 = gI A 5 6) (e7 : gI A' 5 7 = gI A 5 7) (e27 : gD A' 27 = gD A 27) : DaA A' dat rd := by
  unfold DaA
  rw [e6, e7, e27]
  exact h
theorem PrA_cg {pr : List UInt64} (h : PrA A pr) (e4 : gI A' 5 4 = gI A 5 4) (e25 : gD A' 25 = gD A 25) : PrA A' pr := by
  unfold PrA
  rw [e4, e25]
  exact h
theorem MmA_cg (h : MmA A s) (eI : ∀ m, m < 3 → gI A' (12 + m) = gI A (12 + m)) (eD : ∀ m, m < 3 → gD A' (16 + m) = gD A (16 + m)) : MmA A' s := by
  obtain ⟨m1, m2, m3⟩ := h
  exact ⟨fun m hm => by rw [eI m hm, eD m hm]; exact m1 m hm, fun m i hm hi => by rw [eD m hm]; exact m2 m i hm hi, m3⟩
theorem CR_va {i : Nat} {v : UInt64} (h : CR B dat q s ft A) (ho : okd v) : CR B dat q (uVa s (us (rVa s) i v)) ft (sD A 9 i v) := by
  obtain ⟨hF, hq, hv, hm, hf, hl, hr, hd, hp, hu⟩ := h
  have eD : ∀ o, o ≠ 9 → gD (sD A 9 i v) o = gD A o := fun o ho => gD_row ho
  obtain ⟨v1, v2⟩ := CvS_ok hv
  refine ⟨FrR_tr hF ⟨rfl, fun _ _ _ _ _ _ _ _ => rfl, fun _ _ => rfl, fun _ _ => rfl, fun _ _ _ => rfl, fun _ _ => rfl, fun o ho => eD o (by omega)⟩, hq, CvS_cg hv (by rw [gD_us2, v1]; rfl) rfl rfl (eD 11 (by omega)) (fun j => ?_), MmA_cg hm (fun _ _ => rfl) (fun m hm => eD _ (by omega)), ⟨FbA_cg hf.1 rfl (fun _ _ => ⟨rfl, rfl⟩), hf.2⟩, LoA_cg hl rfl rfl rfl (eD 23 (by omega)) (eD 24 (by omega)), hr, DaA_cg hd rfl rfl (eD 27 (by omega)), PrA_cg hp rfl (eD 25 (by omega)), hu⟩
  show okd (us (rVa s) i v j)
  unfold us
  split
  · exact ho
  · exact v2 j
theorem CR_me {m p : Nat} {v : UInt64} (h : CR B dat q s ft A) (ho : okd v) (hm3 : m < 3) (hp : p < 36) : CR B dat q (uMx s (rMr s) (rMc s) (us (rMe s) m (us (rMe s m) p v))) ft (sD A (16 + m) p v) := by
  obtain ⟨hF, hq, hv, ⟨m1, m2, m3⟩, hf, hl, hr, hd, hpr, hu⟩ := h
  have eD : ∀ o, o ≠ 16 + m → gD (sD A (16 + m) p v) o = gD A o := fun o ho => gD_row ho
  obtain ⟨v1, v2⟩ := CvS_ok hv
  refine ⟨FrR_tr hF ⟨rfl, fun _ _ _ _ _ _ _ _ => rfl, fun _ _ => rfl, fun _ _ => rfl, fun _ _ _ => rfl, fun _ _ => rfl, fun o ho => eD o (by omega)⟩, hq, CvS_cg hv ((eD 9 (by omega)).trans v1) rfl rfl (eD 11 (by omega)) v2, ⟨fun m' hm' => ?_, fun m' i hm' hi => ?_, m3⟩, ⟨FbA_cg hf.1 rfl (fun _ _ => ⟨rfl, rfl⟩), hf.2⟩, LoA_cg hl rfl rfl rfl (eD 23 (by omega)) (eD 24 (by omega)), hr, DaA_cg hd rfl rfl (eD 27 (by omega)), PrA_cg hpr rfl (eD 25 (by omega)), hu⟩
  · obtain ⟨g1, g2, g3, g4, g5⟩ := m1 m' hm'
    refine ⟨g1, g2, g3, g4, fun i hi => ?_⟩
    by_cases hc : m' = m ∧ i = p
    · rw [hc.1, hc.2, gD_eq]; exact ho
    · rw [gD_ne (by omega)]; exact g5 i hi
  · show _ = us (rMe s) m (us (rMe s m) p v) m' i
    unfold us
    by_cases hc : m' = m
    · rw [if_pos hc, hc]
      by_cases hi2 : i = p
      · rw [if_pos hi2, hi2, gD_eq]
      · rw [if_neg hi2, gD_ne (Or.inr hi2)]; exact m2 m i hm3 hi
    · rw [if_neg hc, gD_ne (Or.inl (by omega))]; exact m2 m' i hm' hi
/-- a number of the machine changes -/
theorem CR_5 {k : Nat} {x : Int32} {s' : RS} (h : CR B dat q s ft A) (hk : 4 ≤ k) (hk2 : k ≠ 8 ∧ k ≠ 9 ∧ k ≠ 10 ∧ k ≠ 13) (e1 : rVa s' = rVa s) (e2 : rMr s' = rMr s) (e3 : rMc s' = rMc s) (e4 : rMe s' = rMe s) (e5 : rFb s' = rFb s) (e6 : rLp s' = rLp s)
    (hr : RtA (sI A 5 k x) (rRt s')) (hd : DaA (sI A 5 k x) dat (rRd s')) (hp : PrA (sI A 5 k x) (rPn s')) (hu : gI (sI A 5 k x) 5 14 = iN (rDu s') ∧ rDu s' ≤ 24) : CR B dat q s' ft (sI A 5 k x) := by
  obtain ⟨hF, ⟨q1, q2, q3, q4⟩, hv, hm, hf, hl, -⟩ := h
  have eI : ∀ o, o ≠ 5 → gI (sI A 5 k x) o = gI A o := fun o ho => gI_row ho
  obtain ⟨v1, v2⟩ := CvS_ok hv
  refine ⟨FrR_tr hF ⟨rfl, fun o h5 _ _ _ _ _ _ => eI o h5, fun j _ => gI_ne (Or.inl (by omega)), fun j hj => gI_ne (Or.inr (by omega)), fun _ _ _ => rfl, fun _ _ => rfl, fun _ _ => rfl⟩, ⟨(gI_ne (by omega)).trans q1, (gI_ne (by omega)).trans q2, (gI_ne (by omega)).trans q3, (gI_ne (by omega)).trans q4⟩, ?_, ?_, ?_, ?_, hr, hd, hp, hu⟩
  · rw [e1]; exact CvS_cg hv v1 rfl (gI_ne (by omega)) rfl v2
  · unfold MmA; rw [e2, e3, e4]; exact MmA_cg hm (fun m _ => eI _ (by omega)) (fun _ _ => rfl)
  · rw [e5]; exact ⟨FbA_cg hf.1 rfl (fun L hL => ⟨eI L (by omega), rfl⟩), hf.2⟩
  · rw [e6]; exact LoA_cg hl (gI_ne (by omega)) (eI 21 (by omega)) (eI 22 (by omega)) rfl rfl
theorem CR_du {j : Nat} (h : CR B dat q s ft A) (hj : j ≤ 24) : CR B dat q (uDu s j) ft (sI A 5 14 (iN j)) := by
  have h' := h
  obtain ⟨hF, hq, hv, hm, hf, hl, hr, hd, hp, hu⟩ := h'
  exact CR_5 h (by omega) (by omega) rfl rfl rfl rfl rfl rfl (RtA_cg hr (gI_ne (by omega)) (gI_row (by omega))) (DaA_cg hd (gI_ne (by omega)) (gI_ne (by omega)) rfl) (PrA_cg hp (gI_ne (by omega)) rfl) ⟨gI_eq, hj⟩
theorem CR_rd {j : Nat} (h : CR B dat q s ft A) (hj : j ≤ dat.length) : CR B dat q (uRd s j) ft (sI A 5 7 (iN j)) := by
  have h' := h
  obtain ⟨hF, hq, hv, hm, hf, hl, hr, ⟨d1, d2, d3, d4, d5⟩, hp, hu⟩ := h'
  exact CR_5 h (by omega) (by omega) rfl rfl rfl rfl rfl rfl (RtA_cg hr (gI_ne (by omega)) (gI_row (by omega))) ⟨(gI_ne (by omega)).trans d1, d2, gI_eq, hj, d5⟩ (PrA_cg hp (gI_ne (by omega)) rfl) ⟨(gI_ne (by omega)).trans hu.1, hu.2⟩
/-- the loops change -/
theorem CR_lp {lp : List LoT} {A' : Mem} (h : CR B dat q s ft A) (hR : gR A' = gR A) (hL : gL A' = gL A) (hI : ∀ o, o ≠ 20 → o ≠ 21 → o ≠ 22 → gI A' o = gI A o) (hD : ∀ o, o ≠ 23 → o ≠ 24 → gD A' o = gD A o) (hl : LoA A' lp) : CR B dat q (uLp s lp) ft A' := by
  obtain ⟨hF, ⟨q1, q2, q3, q4⟩, hv, hm, hf, -, hr, hd, hp, hu⟩ := h
  have i5 : gI A' 5 = gI A 5 := hI 5 (by omega) (by omega) (by omega)
  obtain ⟨v1, v2⟩ := CvS_ok hv
  refine ⟨FrR_tr hF ⟨hL, fun o h5 h8 h12 h20 h21 h22 h26 => hI o h20 h21 h22, fun j _ => congrFun (hI 8 (by omega) (by omega) (by omega)) j, fun j _ => congrFun i5 j, fun o _ _ => congrFun hR o, fun j _ => congrFun (congrFun hR 8) j, fun o ho => hD o (by omega) (by omega)⟩, ⟨by rw [i5]; exact q1, by rw [i5]; exact q2, by rw [i5]; exact q3, by rw [i5]; exact q4⟩, CvS_cg hv ((hD 9 (by omega) (by omega)).trans v1) (by rw [hR]) (by rw [hI 8 (by omega) (by omega) (by omega)]) (hD 11 (by omega) (by omega)) v2, MmA_cg hm (fun m _ => hI _ (by omega) (by omega) (by omega)) (fun m _ => hD _ (by omega) (by omega)), ⟨FbA_cg hf.1 (by rw [hR]) (fun L hL => ⟨hI L (by omega) (by omega) (by omega), by rw [hR]⟩), hf.2⟩, hl, RtA_cg hr (by rw [i5]) (hI 26 (by omega) (by omega) (by omega)), DaA_cg hd (by rw [i5]) (by rw [i5]) (hD 27 (by omega) (by omega)), PrA_cg hp (by rw [i5]) (hD 25 (by omega) (by omega)), by rw [i5]; exact hu⟩
theorem W5 (hW : WC B) (h : CR B dat q s ft A) : gR A 5 0 = 6 ∧ gR A 5 1 = 8 ∧ gR A 5 2 = 20 ∧ gR A 5 3 = 25 ∧ gR A 5 11 = 26 ∧ gR A 5 12 = 27 := (WC_R hW h.1).2.1
/-- what the row of a line shows -/
theorem CLv_f {L : Nat} {v : Int32} {d : LDT} (h : CLv A L v d) : gI A L 0 = v ∧ gR A L 2 = 1000 + d.1 ∧ gI A L 4 = (if isEl d then 1 else 0) ∧ ((d.1 = 0 ∨ d.1 = 7 ∨ d.1 = 8 ∨ d.1 = 9 ∨ d.1 = 12 ∨ d.1 = 13 ∨ d.1 = 14) → gI A L 3 = (if isEl d then d.2.1 - 26 else d.2.1)) ∧ (d.1 = 13 → gI A L 5 = d.2.2.1) ∧ (d.1 = 2 → gI A L 6 = cRel d.2.2.1) ∧ gI A L 9 = iN (cNu d).length ∧ (cNu d).length ≤ 6 ∧ gI A L 14 = iN d.2.2.2.2.1.length ∧ d.2.2.2.2.1.length ≤ 3 := by
  obtain ⟨s, q, hl, hs, h9, -, h14, h14b, -⟩ := h
  rw [cEn_len] at h14 h14b
  refine ⟨(hs.1 0 (by omega) (by omega) (by omega)).trans hl.1.1, hs.2.1.trans hl.2.1, (hs.1 4 (by omega) (by omega) (by omega)).trans hl.2.2.1, fun g => (hs.1 3 (by omega) (by omega) (by omega)).trans (hl.2.2.2.1 g), fun g => (hs.1 5 (by omega) (by omega) (by omega)).trans (hl.2.2.2.2.1 g), fun g => (hs.1 6 (by omega) (by omega) (by omega)).trans (hl.2.2.2.2.2.1 g), h9.1, h9.2.1, h14, h14b⟩
end RC2
section RC3
variable {B A : Mem} {dat : List UInt64} {q : Nat → Int32} {s : RS} {ft : Nat} {P : PT} {K : Mem → Prop}
theorem c_goTo {n : Int32} (hW : WC B) (hP : PC B P) (h : CR B dat q s 0 A) (k : ∀ A', CR B dat q (goS P n s).1 (goS P n s).2 A' → K A') : wp_Ma_goTo 5 n A K := by
  obtain ⟨w0, w1, -⟩ := W5 hW h
  unfold wp_Ma_goTo
  rw [w0]
  refine ⟨rfl, rfl, c_find (PC_R hP h.1) ?_⟩
  unfold goS at k
  cases hf : fnd P n 0 with
  | none =>
    rw [hf] at k
    refine ⟨fun q => absurd q (by decide), fun _ => ?_⟩
    rw [w1]
    exact ⟨rfl, c_fail (f := 3) h (by omega) (by omega) (fun A' h' => k A' h')⟩
  | some j =>
    rw [hf] at k
    have hj := (fnd_some P n 0 j hf).2.1
    have hl := hP.1
    refine ⟨fun _ => k _ (CR_du h (by omega)), fun q => absurd ?_ q⟩
    show iN 0 ≤ iN j
    rw [iN_le (by omega) (by omega)]
    omega
theorem c_goSub {n : Int32} {here : Nat} (hW : WC B) (hP : PC B P) (hq : q 13 = iN here) (hh : here < 24) (h : CR B dat q s 0 A)
    (k : ∀ r, r = (if (rRt s).length < 8 then (match fnd P n 0 with
      | some j => (uDu (uRt s (rRt s ++ [here + 1])) j, 0)
      | none => (s, 3)) else (s, 2)) → ∀ A', CR B dat q r.1 r.2 A' → K A') : wp_Ma_goSub 5 n A K := by
  obtain ⟨w0, w1, w2, w3, w4, w5⟩ := W5 hW h
  have h' := h
  obtain ⟨hF, hqq, hv, hm, hf, hl, ⟨r1, r2, r3⟩, hd, hp, hu⟩ := h'
  unfold wp_Ma_goSub
  rw [w4, r1, show Int32.ofNat (al 26) = iN 8 from rfl, iN_lt (by omega) (by omega)]
  refine ⟨rfl, rfl, fun hlt => c_goTo hW hP h (fun A' h' => ?_), fun hlt => ?_⟩
  · rw [if_pos hlt] at k
    obtain ⟨w0', w1', w2', w3', w4', w5'⟩ := W5 hW h'
    rw [w1']
    refine ⟨rfl, ?_⟩
    unfold goS at h'
    cases hf : fnd P n 0 with
    | none =>
      rw [hf] at k h'
      exact c_fine h' (fun q => absurd (show (3 : Nat) = 0 from q) (by decide)) (fun _ => ⟨fun _ => k _ rfl _ h', fun q => (by cases q)⟩)
    | some j =>
      rw [hf] at k h'
      refine c_fine h' (fun _ => ⟨fun q => (by cases q), fun _ => ⟨by rw [w4']; rfl, ?_⟩⟩) (fun q => absurd rfl q)
      rw [w4']
      have h'' := h'
      obtain ⟨hF', hqq', hv', hm', hf', hl', ⟨r1', r2', r3'⟩, hd', hp', hu'⟩ := h''
      have e13 : gI A' 5 13 = iN here := hqq'.2.2.2.trans hq
      have r1' : gI A' 5 5 = iN (rRt s).length := r1'
      rw [r1', e13, iN_cl (a := (rRt s).length) (by omega), iN_1]
      refine ⟨iN_in (m := 8) hlt (by omega), fun A9 e9 => k _ rfl _ ?_⟩
      have e55 : gI (sI A' 26 (rRt s).length (iN (here + 1))) 5 5 = iN (rRt s).length := (gI_ne (by omega)).trans r1'
      rw [e55, iN_1] at e9
      rw [e9]
      have eI : ∀ o, o ≠ 5 → o ≠ 26 → gI (sI (sI A' 26 (rRt s).length (iN (here + 1))) 5 5 (iN ((rRt s).length + 1))) o = gI A' o := fun o h5 h26 => (gI_row h5).trans (gI_row h26)
      have e5 : ∀ j, j ≠ 5 → gI (sI (sI A' 26 (rRt s).length (iN (here + 1))) 5 5 (iN ((rRt s).length + 1))) 5 j = gI A' 5 j := fun j hj => (gI_ne (Or.inr hj)).trans (gI_ne (by omega))
      obtain ⟨v1, v2⟩ := CvS_ok hv'
      refine ⟨FrR_tr hF' ⟨rfl, fun o h5 _ _ _ _ _ h26 => eI o h5 h26, fun j _ => congrFun (eI 8 (by omega) (by omega)) j, fun j hj => e5 j (by omega), fun _ _ _ => rfl, fun _ _ => rfl, fun _ _ => rfl⟩, ⟨(e5 8 (by omega)).trans hqq'.1, (e5 9 (by omega)).trans hqq'.2.1, (e5 10 (by omega)).trans hqq'.2.2.1, (e5 13 (by omega)).trans hqq'.2.2.2⟩, CvS_cg hv' v1 rfl (by rw [eI 8 (by omega) (by omega)]) rfl v2, MmA_cg (s := s) hm' (fun m _ => eI _ (by omega) (by omega)) (fun _ _ => rfl), ⟨FbA_cg hf'.1 rfl (fun L hL => ⟨eI L (by omega) (by omega), rfl⟩), hf'.2⟩, LoA_cg hl' (by rw [eI 20 (by omega) (by omega)]) (eI 21 (by omega) (by omega)) (eI 22 (by omega) (by omega)) rfl rfl, ⟨?_, ?_, ?_⟩, DaA_cg hd' (e5 6 (by omega)) (e5 7 (by omega)) rfl, PrA_cg hp' (e5 4 (by omega)) rfl, ⟨(e5 14 (by omega)).trans hu'.1, hu'.2⟩⟩
      · show _ = iN (rRt s ++ [here + 1]).length
        rw [gI_eq, List.length_append, List.length_singleton]
      · show (rRt s ++ [here + 1]).length ≤ 8
        rw [List.length_append, List.length_singleton]; omega
      · intro k x hk
        have hk : (rRt s ++ [here + 1])[k]? = some x := hk
        rw [gI_ne (by omega)]
        by_cases hk2 : k < (rRt s).length
        · rw [List.getElem?_append_left hk2] at hk
          rw [gI_ne (Or.inr (by omega))]
          exact r3' k x hk
        · have hk3 := (List.getElem?_eq_some_iff.mp hk).1
          rw [List.length_append, List.length_singleton] at hk3
          have hk4 : k = (rRt s).length := by omega
          subst hk4
          rw [List.getElem?_append_right (Nat.le_refl _), Nat.sub_self] at hk
          rw [← show here + 1 = x from Option.some.inj hk, gI_eq]
          exact ⟨rfl, by omega⟩
  · rw [if_neg hlt] at k
    rw [w1]
    exact ⟨rfl, c_fail (f := 2) h (by omega) (by omega) (fun A' h' => k _ rfl A' h')⟩
theorem c_goBack (hW : WC B) (h : CR B dat q s 0 A) (k : ∀ r, r = (if (rRt s).length = 0 then (s, 2) else (uDu (uRt s ((rRt s).take ((rRt s).length - 1))) ((rRt s).getD ((rRt s).length - 1) 0), 0)) → ∀ A', CR B dat q r.1 r.2 A' → K A') : wp_Ma_goBack 5 A K := by
  obtain ⟨w0, w1, w2, w3, w4, w5⟩ := W5 hW h
  have h' := h
  obtain ⟨hF, hqq, hv, hm, hf, hl, ⟨r1, r2, r3⟩, hd, hp, hu⟩ := h'
  unfold wp_Ma_goBack
  rw [r1, show (0 : Int32) = iN 0 from rfl, iN_lt (by omega) (by omega)]
  refine ⟨rfl, fun hlt => ?_, fun hlt => ?_⟩
  · rw [if_neg (by omega)] at k
    rw [show (1 : Int32) = iN 1 from rfl, iN_sub (by omega), show gR (sI A 5 5 (iN ((rRt s).length - 1))) 5 11 = 26 from w4, gI_eq, iN_cl (by omega)]
    refine ⟨rfl, iN_in (m := 8) (by omega) (by omega), fun A4 e4 => k _ rfl _ ?_⟩
    have hx : (rRt s)[(rRt s).length - 1]? = some ((rRt s).getD ((rRt s).length - 1) 0) := by
      rw [List.getD_eq_getElem?_getD, List.getElem?_eq_getElem (by omega)]; rfl
    obtain ⟨x1, x2⟩ := r3 _ _ hx
    rw [show gI (sI A 5 5 (iN ((rRt s).length - 1))) 26 ((rRt s).length - 1) = _ from (gI_ne (by omega)).trans x1] at e4
    rw [e4]
    refine CR_du (s := uRt s _) (CR_5 (s' := uRt s _) h (by omega) (by omega) rfl rfl rfl rfl rfl rfl ⟨?_, ?_, ?_⟩ (DaA_cg hd (gI_ne (by omega)) (gI_ne (by omega)) rfl) (PrA_cg hp (gI_ne (by omega)) rfl) ⟨(gI_ne (by omega)).trans hu.1, hu.2⟩) x2
    · show _ = iN ((rRt s).take ((rRt s).length - 1)).length
      rw [gI_eq, List.length_take, Nat.min_eq_left (by omega)]
    · show ((rRt s).take ((rRt s).length - 1)).length ≤ 8
      rw [List.length_take]; omega
    · intro j x hj
      have hj : ((rRt s).take ((rRt s).length - 1))[j]? = some x := hj
      have hj2 := (List.getElem?_eq_some_iff.mp hj).1
      rw [List.length_take] at hj2
      rw [List.getElem?_take_of_lt (by omega)] at hj
      rw [gI_ne (by omega)]
      exact r3 j x hj
  · rw [if_pos (by omega)] at k
    rw [w1]
    exact ⟨rfl, c_fail (f := 2) h (by omega) (by omega) (fun A' h' => k _ rfl A' h')⟩
theorem c_print {v : UInt64} (hW : WC B) (h : CR B dat q s ft A) (ho : okd v) (hl4 : (rPn s).length < 400) (k0 : ft = 0 → ∀ A', CR B dat q (uPr s (rPn s ++ [v])) 0 A' → K A') (k1 : ft ≠ 0 → K A) : wp_Ma_print 5 v A K := by
  obtain ⟨w0, w1, w2, w3, w4, w5⟩ := W5 hW h
  have h' := h
  obtain ⟨hF, hqq, hv, hm, hf, hl, hr, hd, ⟨p1, p2, p3⟩, hu⟩ := h'
  unfold wp_Ma_print
  rw [w1]
  refine ⟨rfl, rfl, c_fine h (fun h0 => ⟨fun _ => ?_, fun q => (by cases q)⟩) (fun h0 => ⟨fun q => (by cases q), fun _ => k1 h0⟩)⟩
  subst h0
  rw [w3, p1, show Int32.ofNat (al 25) = iN 40 from rfl, iN_le (by omega) (by omega), iN_1, iN_cl (a := (rPn s).length) (by omega)]
  have hpr : ∀ A2, gI A2 5 4 = iN ((rPn s).length + 1) → (∀ j, j ≠ (rPn s).length ∨ 40 ≤ j → gD A2 25 j = gD A 25 j) → ((rPn s).length < 40 → gD A2 25 (rPn s).length = v) → PrA A2 (rPn s ++ [v]) := by
    intro A2 g1 g2 g3
    refine ⟨by rw [g1, List.length_append, List.length_singleton], by rw [List.length_append, List.length_singleton]; omega, fun k x hk => ?_⟩
    by_cases hk2 : k < (rPn s).length
    · rw [List.getElem?_append_left hk2] at hk
      exact ⟨fun h40 => (g2 k (Or.inl (by omega))).trans ((p3 k x hk).1 h40), (p3 k x hk).2⟩
    · have hk3 := (List.getElem?_eq_some_iff.mp hk).1
      rw [List.length_append, List.length_singleton] at hk3
      have hk4 : k = (rPn s).length := by omega
      subst hk4
      rw [List.getElem?_append_right (Nat.le_refl _), Nat.sub_self] at hk
      rw [← show v = x from Option.some.inj hk]
      exact ⟨g3, ho⟩
  refine ⟨rfl, fun h40 => k0 rfl _ ?_, fun h40 => ⟨iN_in (m := 40) (by omega) (by omega), fun A7 e7 => k0 rfl _ ?_⟩⟩
  · exact CR_5 (s' := uPr s _) h (by omega) (by omega) rfl rfl rfl rfl rfl rfl (RtA_cg hr (gI_ne (by omega)) (gI_row (by omega))) (DaA_cg hd (gI_ne (by omega)) (gI_ne (by omega)) rfl) (hpr _ gI_eq (fun _ _ => rfl) (fun q => by omega)) ⟨(gI_ne (by omega)).trans hu.1, hu.2⟩
  · have e4 : gI (sD A 25 (rPn s).length v) 5 4 = iN (rPn s).length := p1
    rw [e4, iN_1] at e7
    rw [e7]
    have eD : ∀ o, o ≠ 25 → gD (sD A 25 (rPn s).length v) o = gD A o := fun o ho => gD_row ho
    obtain ⟨v1, v2⟩ := CvS_ok hv
    have h2 : CR B dat q s 0 (sI (sD A 25 (rPn s).length v) 5 4 (iN ((rPn s).length + 1))) → False ∨ True := fun _ => Or.inr trivial
    have eI : ∀ o, o ≠ 5 → gI (sI (sD A 25 (rPn s).length v) 5 4 (iN ((rPn s).length + 1))) o = gI A o := fun o ho => gI_row ho
    have e5 : ∀ j, j ≠ 4 → gI (sI (sD A 25 (rPn s).length v) 5 4 (iN ((rPn s).length + 1))) 5 j = gI A 5 j := fun j hj => gI_ne (Or.inr hj)
    exact ⟨FrR_tr hF ⟨rfl, fun o h5 _ _ _ _ _ _ => eI o h5, fun j _ => congrFun (eI 8 (by omega)) j, fun j hj => e5 j (by omega), fun _ _ _ => rfl, fun _ _ => rfl, fun o ho => eD o (by omega)⟩, ⟨(e5 8 (by omega)).trans hqq.1, (e5 9 (by omega)).trans hqq.2.1, (e5 10 (by omega)).trans hqq.2.2.1, (e5 13 (by omega)).trans hqq.2.2.2⟩, CvS_cg hv ((eD 9 (by omega)).trans v1) rfl (by rw [eI 8 (by omega)]) (eD 11 (by omega)) v2, MmA_cg (s := s) hm (fun m _ => eI _ (by omega)) (fun m _ => eD _ (by omega)), ⟨FbA_cg hf.1 rfl (fun L hL => ⟨eI L (by omega), rfl⟩), hf.2⟩, LoA_cg hl (by rw [eI 20 (by omega)]) (eI 21 (by omega)) (eI 22 (by omega)) (eD 23 (by omega)) (eD 24 (by omega)), RtA_cg hr (e5 5 (by omega)) (eI 26 (by omega)), DaA_cg hd (e5 6 (by omega)) (e5 7 (by omega)) (eD 27 (by omega)), hpr _ gI_eq (fun j hj => gD_ne (by omega)) (fun _ => gD_eq), ⟨(e5 14 (by omega)).trans hu.1, hu.2⟩⟩
end RC3
