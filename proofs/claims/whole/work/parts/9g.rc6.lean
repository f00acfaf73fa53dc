section ST1
variable {P : PT} {dat : List UInt64} {here : Nat} {d : LDT} {s : RS}
theorem sTp_0 (h : d.1 = 0) : sTp P dat here d s = (bnE (tgV s d) s fun p => bnE (evS s (eX d (if isEl d then 2 else 0))) s fun v => (stS s d p v, 0)) := by
  unfold sTp
  rw [h]
  rfl
theorem sTp_1 (h : d.1 = 1) : sTp P dat here d s = (bnE (evS s (eX d 0)) s fun v => (uPr s (rPn s ++ [v]), 0)) := by
  unfold sTp
  rw [h]
  rfl
theorem sTp_2 (h : d.1 = 2) : sTp P dat here d s = (bnE (evS s (eX d 0)) s fun x => bnE (evS s (eX d 1)) s fun y => if hoS d.2.2.1.toNatClampNeg x y then goS P (nX d 0) s else (s, 0)) := by
  unfold sTp
  rw [h]
  rfl
theorem sTp_3 (h : d.1 = 3) : sTp P dat here d s = (goS P (nX d 0) s) := by
  unfold sTp
  rw [h]
  rfl
theorem sTp_4 (h : d.1 = 4) : sTp P dat here d s = (bnE (evS s (eX d 0)) s fun x => if 1 ≤ (FP.d2l x).toInt ∧ (FP.d2l x).toInt ≤ d.2.2.2.1.length then goS P (nX d ((FP.d2l x).toInt.toNat - 1)) s else (s, 1)) := by
  unfold sTp
  rw [h]
  rfl
theorem sTp_5 (h : d.1 = 5) : sTp P dat here d s = (if (rRt s).length < 8 then (match fnd P (nX d 0) 0 with | some j => (uDu (uRt s (rRt s ++ [here + 1])) j, 0) | none => (s, 3)) else (s, 2)) := by
  unfold sTp
  rw [h]
  rfl
theorem sTp_6 (h : d.1 = 6) : sTp P dat here d s = (if (rRt s).length = 0 then (s, 2) else (uDu (uRt s ((rRt s).take ((rRt s).length - 1))) ((rRt s).getD ((rRt s).length - 1) 0), 0)) := by
  unfold sTp
  rw [h]
  rfl
theorem sTp_7 (h : d.1 = 7) : sTp P dat here d s = (bnE (evS s (eX d 0)) s fun x => bnE (evS s (eX d 1)) s fun y => bnE (if d.2.2.2.2.1.length ≤ 2 then .ok FP.dconst1 else evS s (eX d 2)) s fun z => foS P here s d.2.1.toNatClampNeg x y z) := by
  unfold sTp
  rw [h]
  rfl
theorem sTp_8 (h : d.1 = 8) : sTp P dat here d s = (neS s d.2.1.toNatClampNeg) := by
  unfold sTp
  rw [h]
  rfl
theorem sTp_9 (h : d.1 = 9) : sTp P dat here d s = (bnE (tgV s d) s fun p => if rRd s < dat.length then (uRd (stS s d p (dat.getD (rRd s) 0)) (rRd s + 1), 0) else (s, 3)) := by
  unfold sTp
  rw [h]
  rfl
theorem sTp_10 (h : d.1 = 10) : sTp P dat here d s = ((s, 0)) := by
  unfold sTp
  rw [h]
  rfl
theorem sTp_11 (h : d.1 = 11) : sTp P dat here d s = ((uRd s 0, 0)) := by
  unfold sTp
  rw [h]
  rfl
theorem sTp_12 (h : d.1 = 12) : sTp P dat here d s = ((uMx s (us (rMr s) d.2.1.toNatClampNeg (nX d 0).toNatClampNeg) (us (rMc s) d.2.1.toNatClampNeg (nX d 1).toNatClampNeg) (us (rMe s) d.2.1.toNatClampNeg (fun _ => FP.dconst0)), 0)) := by
  unfold sTp
  rw [h]
  rfl
theorem sTp_13 (h : d.1 = 13) : sTp P dat here d s = ((uFb s (us (rFb s) d.2.2.1.toNatClampNeg (some (d.2.1.toNatClampNeg, eX d 0))), 0)) := by
  unfold sTp
  rw [h]
  rfl
theorem sTp_14 (h : d.1 = 14) : sTp P dat here d s = (maS s d d.2.1.toNatClampNeg d.2.2.1.toNatClampNeg) := by
  unfold sTp
  rw [h]
  rfl
theorem sTp_15 (h : d.1 = 15) : sTp P dat here d s = ((s, 0)) := by
  unfold sTp
  rw [h]
  rfl
theorem sTp_16 (h : d.1 = 16) : sTp P dat here d s = ((uDu s P.length, 0)) := by
  unfold sTp
  rw [h]
  rfl
end ST1
section RC7
variable {B A : Mem} {dat : List UInt64} {q : Nat → Int32} {s : RS} {P : PT} {K : Mem → Prop} {L here : Nat} {v : Int32} {d : LDT}
theorem c_prS (hW : WC B) (hC : CLv B L v d) (hL : 100 ≤ L) (hL2 : L < 125) (hd : d.1 = 1) (hok : LDok d) (h : CR B dat q s 0 A) (hpr : (rPn s).length < 400)
    (k : ∀ r, r = (bnE (evS s (eX d 0)) s fun v => (uPr s (rPn s ++ [v]), 0)) → ∀ A', CR B dat q r.1 r.2 A' → K A') : wp_Ca_workOut 8 L 0 A (fun (r8 : UInt64) (A7 : Mem) => wp_Ma_print 5 r8 A7 (fun (A10 : Mem) => K A10)) := by
  have hok2 := hok.2
  rw [hd] at hok2
  obtain ⟨e, hes⟩ := hok2
  have ex0 : eX d 0 = e := by unfold eX; rw [hes]; rfl
  rw [ex0] at k
  refine c_ev (k := 0) hW h hC hL hL2 (by rw [hes]; rfl) (hok.1 _ (by rw [hes]; simp)) (fun x A1 hx h1 v1 n1 => ?_)
  refine c_print hW h1 hx hpr (fun h0 A' h' => ?_) (fun h0 => k (s, _) (fEx_1 h0).symm A1 h1)
  obtain ⟨u, hu⟩ := fEx_ok1 h0 n1
  rw [bnE_ok hu, ← v1 u rfl hu] at k
  exact k _ rfl A' h'
theorem c_nextS (hW : WC B) (hC : CLv B L v d) (hL : 100 ≤ L) (hd : d.1 = 8) (hok : LDok d) (h : CR B dat q s 0 A)
    (k : ∀ A', CR B dat q (neS s d.2.1.toNatClampNeg).1 (neS s d.2.1.toNatClampNeg).2 A' → K A') : wp_Ma_endLoop 5 (gI A L 3) A (fun (A25 : Mem) => K A25) := by
  have hok2 := hok.2
  rw [hd] at hok2
  obtain ⟨i, hi, ea⟩ := hok2
  obtain ⟨-, -, -, f3, -⟩ := CLv_f (CLv_R hL h.1 hC)
  rw [f3 (by omega), show isEl d = false from by unfold isEl; rw [hd]; rfl, if_neg (by decide), ea]
  rw [ea, iN_cl (show i < 2147483648 by omega)] at k
  exact c_next hW hi h k
theorem pf_0 (hW : WC B) (hP : PC B P) (hPL : PLd P) (hq : q 13 = iN here) (hh : here < P.length) (hC : CLv B L v d) (hL : 100 ≤ L) (hL2 : L < 125) (hok : LDok d) (hd : d.1 = 0) (h : CR B dat q s 0 A) (hpr : (rPn s).length < 400)
    (k : ∀ A', CR B dat q (sTp P dat here d s).1 (sTp P dat here d s).2 A' → K A') : wp_Ma_perform 5 L A K := by
  obtain ⟨w0, w1, w2, -⟩ := W5 hW h
  obtain ⟨-, f2, -⟩ := CLv_f (CLv_R hL h.1 hC)
  have hl24 := hP.1
  have e : tb1300.getD (Int32.toNatClampNeg (nI (1000 + 0 - 1000))) 0 = 1 := by decide +kernel
  unfold wp_Ma_perform
  rw [f2, hd, e]
  exact ⟨kdL hL hL2, ⟨by omega, by omega⟩, iN_in (a := 0) (m := 17) (by omega) (by omega), fun _ => ⟨rfl, c_let hW hC hL hL2 hd hok h (fun r hr A' h' => k A' (by rw [sTp_0 hd, ← hr]; exact h'))⟩, fun q => absurd q (by decide), fun q => absurd q (by decide), fun q => absurd q (by decide), fun q => absurd q (by decide), fun q => absurd q (by decide), fun q => absurd q (by decide), fun q => absurd q (by decide), fun q => absurd q (by decide), fun q => absurd q (by decide), fun q => absurd q (by decide), fun q => absurd q (by decide), fun q => absurd q (by decide), fun q => absurd q (by decide), fun q => absurd q (by decide), fun q => absurd q (by decide), fun q => absurd q (by decide), fun q1 q2 q3 q4 q5 q6 q7 q8 q9 q10 q11 q12 q13 q14 q15 q16 q17 => absurd rfl q1⟩
theorem pf_1 (hW : WC B) (hP : PC B P) (hPL : PLd P) (hq : q 13 = iN here) (hh : here < P.length) (hC : CLv B L v d) (hL : 100 ≤ L) (hL2 : L < 125) (hok : LDok d) (hd : d.1 = 1) (h : CR B dat q s 0 A) (hpr : (rPn s).length < 400)
    (k : ∀ A', CR B dat q (sTp P dat here d s).1 (sTp P dat here d s).2 A' → K A') : wp_Ma_perform 5 L A K := by
  obtain ⟨w0, w1, w2, -⟩ := W5 hW h
  obtain ⟨-, f2, -⟩ := CLv_f (CLv_R hL h.1 hC)
  have hl24 := hP.1
  have e : tb1300.getD (Int32.toNatClampNeg (nI (1000 + 1 - 1000))) 0 = 2 := by decide +kernel
  unfold wp_Ma_perform
  rw [f2, hd, e]
  exact ⟨kdL hL hL2, ⟨by omega, by omega⟩, iN_in (a := 1) (m := 17) (by omega) (by omega), fun q => absurd q (by decide), fun _ => ⟨rfl, by rw [w1]; rfl, by rw [w1]; exact c_prS hW hC hL hL2 hd hok h hpr (fun r hr A' h' => k A' (by rw [sTp_1 hd, ← hr]; exact h'))⟩, fun q => absurd q (by decide), fun q => absurd q (by decide), fun q => absurd q (by decide), fun q => absurd q (by decide), fun q => absurd q (by decide), fun q => absurd q (by decide), fun q => absurd q (by decide), fun q => absurd q (by decide), fun q => absurd q (by decide), fun q => absurd q (by decide), fun q => absurd q (by decide), fun q => absurd q (by decide), fun q => absurd q (by decide), fun q => absurd q (by decide), fun q => absurd q (by decide), fun q1 q2 q3 q4 q5 q6 q7 q8 q9 q10 q11 q12 q13 q14 q15 q16 q17 => absurd rfl q2⟩
theorem pf_2 (hW : WC B) (hP : PC B P) (hPL : PLd P) (hq : q 13 = iN here) (hh : here < P.length) (hC : CLv B L v d) (hL : 100 ≤ L) (hL2 : L < 125) (hok : LDok d) (hd : d.1 = 2) (h : CR B dat q s 0 A) (hpr : (rPn s).length < 400)
    (k : ∀ A', CR B dat q (sTp P dat here d s).1 (sTp P dat here d s).2 A' → K A') : wp_Ma_perform 5 L A K := by
  obtain ⟨w0, w1, w2, -⟩ := W5 hW h
  obtain ⟨-, f2, -⟩ := CLv_f (CLv_R hL h.1 hC)
  have hl24 := hP.1
  have e : tb1300.getD (Int32.toNatClampNeg (nI (1000 + 2 - 1000))) 0 = 3 := by decide +kernel
  unfold wp_Ma_perform
  rw [f2, hd, e]
  exact ⟨kdL hL hL2, ⟨by omega, by omega⟩, iN_in (a := 2) (m := 17) (by omega) (by omega), fun q => absurd q (by decide), fun q => absurd q (by decide), fun _ => ⟨rfl, c_if hW hP hC hL hL2 hd hok h (fun r hr A' h' => k A' (by rw [sTp_2 hd, ← hr]; exact h'))⟩, fun q => absurd q (by decide), fun q => absurd q (by decide), fun q => absurd q (by decide), fun q => absurd q (by decide), fun q => absurd q (by decide), fun q => absurd q (by decide), fun q => absurd q (by decide), fun q => absurd q (by decide), fun q => absurd q (by decide), fun q => absurd q (by decide), fun q => absurd q (by decide), fun q => absurd q (by decide), fun q => absurd q (by decide), fun q => absurd q (by decide), fun q1 q2 q3 q4 q5 q6 q7 q8 q9 q10 q11 q12 q13 q14 q15 q16 q17 => absurd rfl q3⟩
theorem pf_3 (hW : WC B) (hP : PC B P) (hPL : PLd P) (hq : q 13 = iN here) (hh : here < P.length) (hC : CLv B L v d) (hL : 100 ≤ L) (hL2 : L < 125) (hok : LDok d) (hd : d.1 = 3) (h : CR B dat q s 0 A) (hpr : (rPn s).length < 400)
    (k : ∀ A', CR B dat q (sTp P dat here d s).1 (sTp P dat here d s).2 A' → K A') : wp_Ma_perform 5 L A K := by
  obtain ⟨w0, w1, w2, -⟩ := W5 hW h
  obtain ⟨-, f2, -⟩ := CLv_f (CLv_R hL h.1 hC)
  have hl24 := hP.1
  have e : tb1300.getD (Int32.toNatClampNeg (nI (1000 + 3 - 1000))) 0 = 4 := by decide +kernel
  unfold wp_Ma_perform
  rw [f2, hd, e]
  exact ⟨kdL hL hL2, ⟨by omega, by omega⟩, iN_in (a := 3) (m := 17) (by omega) (by omega), fun q => absurd q (by decide), fun q => absurd q (by decide), fun q => absurd q (by decide), fun _ => n_numberAt (k := 0) (WC_R hW h.1) hL hL2 (CLv_R hL h.1 hC) (by omega) ⟨rfl, c_goTo hW hP h (fun A' h' => k A' (by rw [sTp_3 hd, ← nX_c (by omega)]; exact h'))⟩, fun q => absurd q (by decide), fun q => absurd q (by decide), fun q => absurd q (by decide), fun q => absurd q (by decide), fun q => absurd q (by decide), fun q => absurd q (by decide), fun q => absurd q (by decide), fun q => absurd q (by decide), fun q => absurd q (by decide), fun q => absurd q (by decide), fun q => absurd q (by decide), fun q => absurd q (by decide), fun q => absurd q (by decide), fun q1 q2 q3 q4 q5 q6 q7 q8 q9 q10 q11 q12 q13 q14 q15 q16 q17 => absurd rfl q4⟩
theorem pf_4 (hW : WC B) (hP : PC B P) (hPL : PLd P) (hq : q 13 = iN here) (hh : here < P.length) (hC : CLv B L v d) (hL : 100 ≤ L) (hL2 : L < 125) (hok : LDok d) (hd : d.1 = 4) (h : CR B dat q s 0 A) (hpr : (rPn s).length < 400)
    (k : ∀ A', CR B dat q (sTp P dat here d s).1 (sTp P dat here d s).2 A' → K A') : wp_Ma_perform 5 L A K := by
  obtain ⟨w0, w1, w2, -⟩ := W5 hW h
  obtain ⟨-, f2, -⟩ := CLv_f (CLv_R hL h.1 hC)
  have hl24 := hP.1
  have e : tb1300.getD (Int32.toNatClampNeg (nI (1000 + 4 - 1000))) 0 = 5 := by decide +kernel
  unfold wp_Ma_perform
  rw [f2, hd, e]
  exact ⟨kdL hL hL2, ⟨by omega, by omega⟩, iN_in (a := 4) (m := 17) (by omega) (by omega), fun q => absurd q (by decide), fun q => absurd q (by decide), fun q => absurd q (by decide), fun q => absurd q (by decide), fun _ => ⟨rfl, c_on hW hP hC hL hL2 hd hok h (fun r hr A' h' => k A' (by rw [sTp_4 hd, ← hr]; exact h'))⟩, fun q => absurd q (by decide), fun q => absurd q (by decide), fun q => absurd q (by decide), fun q => absurd q (by decide), fun q => absurd q (by decide), fun q => absurd q (by decide), fun q => absurd q (by decide), fun q => absurd q (by decide), fun q => absurd q (by decide), fun q => absurd q (by decide), fun q => absurd q (by decide), fun q => absurd q (by decide), fun q1 q2 q3 q4 q5 q6 q7 q8 q9 q10 q11 q12 q13 q14 q15 q16 q17 => absurd rfl q5⟩
theorem pf_5 (hW : WC B) (hP : PC B P) (hPL : PLd P) (hq : q 13 = iN here) (hh : here < P.length) (hC : CLv B L v d) (hL : 100 ≤ L) (hL2 : L < 125) (hok : LDok d) (hd : d.1 = 5) (h : CR B dat q s 0 A) (hpr : (rPn s).length < 400)
    (k : ∀ A', CR B dat q (sTp P dat here d s).1 (sTp P dat here d s).2 A' → K A') : wp_Ma_perform 5 L A K := by
  obtain ⟨w0, w1, w2, -⟩ := W5 hW h
  obtain ⟨-, f2, -⟩ := CLv_f (CLv_R hL h.1 hC)
  have hl24 := hP.1
  have e : tb1300.getD (Int32.toNatClampNeg (nI (1000 + 5 - 1000))) 0 = 6 := by decide +kernel
  unfold wp_Ma_perform
  rw [f2, hd, e]
  exact ⟨kdL hL hL2, ⟨by omega, by omega⟩, iN_in (a := 5) (m := 17) (by omega) (by omega), fun q => absurd q (by decide), fun q => absurd q (by decide), fun q => absurd q (by decide), fun q => absurd q (by decide), fun q => absurd q (by decide), fun _ => n_numberAt (k := 0) (WC_R hW h.1) hL hL2 (CLv_R hL h.1 hC) (by omega) ⟨rfl, c_goSub hW hP hq (by omega) h (fun r hr A' h' => k A' (by rw [sTp_5 hd]; rw [hr, nX_c (by omega)] at h'; exact h'))⟩, fun q => absurd q (by decide), fun q => absurd q (by decide), fun q => absurd q (by decide), fun q => absurd q (by decide), fun q => absurd q (by decide), fun q => absurd q (by decide), fun q => absurd q (by decide), fun q => absurd q (by decide), fun q => absurd q (by decide), fun q => absurd q (by decide), fun q => absurd q (by decide), fun q1 q2 q3 q4 q5 q6 q7 q8 q9 q10 q11 q12 q13 q14 q15 q16 q17 => absurd rfl q6⟩
theorem pf_6 (hW : WC B) (hP : PC B P) (hPL : PLd P) (hq : q 13 = iN here) (hh : here < P.length) (hC : CLv B L v d) (hL : 100 ≤ L) (hL2 : L < 125) (hok : LDok d) (hd : d.1 = 6) (h : CR B dat q s 0 A) (hpr : (rPn s).length < 400)
    (k : ∀ A', CR B dat q (sTp P dat here d s).1 (sTp P dat here d s).2 A' → K A') : wp_Ma_perform 5 L A K := by
  obtain ⟨w0, w1, w2, -⟩ := W5 hW h
  obtain ⟨-, f2, -⟩ := CLv_f (CLv_R hL h.1 hC)
  have hl24 := hP.1
  have e : tb1300.getD (Int32.toNatClampNeg (nI (1000 + 6 - 1000))) 0 = 15 := by decide +kernel
  unfold wp_Ma_perform
  rw [f2, hd, e]
  exact ⟨kdL hL hL2, ⟨by omega, by omega⟩, iN_in (a := 6) (m := 17) (by omega) (by omega), fun q => absurd q (by decide), fun q => absurd q (by decide), fun q => absurd q (by decide), fun q => absurd q (by decide), fun q => absurd q (by decide), fun q => absurd q (by decide), fun q => absurd q (by decide), fun q => absurd q (by decide), fun q => absurd q (by decide), fun q => absurd q (by decide), fun q => absurd q (by decide), fun q => absurd q (by decide), fun q => absurd q (by decide), fun q => absurd q (by decide), fun _ => ⟨rfl, c_goBack hW h (fun r hr A' h' => k A' (by rw [sTp_6 hd, ← hr]; exact h'))⟩, fun q => absurd q (by decide), fun q => absurd q (by decide), fun q1 q2 q3 q4 q5 q6 q7 q8 q9 q10 q11 q12 q13 q14 q15 q16 q17 => absurd rfl q15⟩
theorem pf_7 (hW : WC B) (hP : PC B P) (hPL : PLd P) (hq : q 13 = iN here) (hh : here < P.length) (hC : CLv B L v d) (hL : 100 ≤ L) (hL2 : L < 125) (hok : LDok d) (hd : d.1 = 7) (h : CR B dat q s 0 A) (hpr : (rPn s).length < 400)
    (k : ∀ A', CR B dat q (sTp P dat here d s).1 (sTp P dat here d s).2 A' → K A') : wp_Ma_perform 5 L A K := by
  obtain ⟨w0, w1, w2, -⟩ := W5 hW h
  obtain ⟨-, f2, -⟩ := CLv_f (CLv_R hL h.1 hC)
  have hl24 := hP.1
  have e : tb1300.getD (Int32.toNatClampNeg (nI (1000 + 7 - 1000))) 0 = 7 := by decide +kernel
  unfold wp_Ma_perform
  rw [f2, hd, e]
  exact ⟨kdL hL hL2, ⟨by omega, by omega⟩, iN_in (a := 7) (m := 17) (by omega) (by omega), fun q => absurd q (by decide), fun q => absurd q (by decide), fun q => absurd q (by decide), fun q => absurd q (by decide), fun q => absurd q (by decide), fun q => absurd q (by decide), fun _ => ⟨rfl, c_for hW hP hPL hq hh hC hL hL2 hd hok h (fun r hr A' h' => k A' (by rw [sTp_7 hd, ← hr]; exact h'))⟩, fun q => absurd q (by decide), fun q => absurd q (by decide), fun q => absurd q (by decide), fun q => absurd q (by decide), fun q => absurd q (by decide), fun q => absurd q (by decide), fun q => absurd q (by decide), fun q => absurd q (by decide), fun q => absurd q (by decide), fun q => absurd q (by decide), fun q1 q2 q3 q4 q5 q6 q7 q8 q9 q10 q11 q12 q13 q14 q15 q16 q17 => absurd rfl q7⟩
theorem pf_8 (hW : WC B) (hP : PC B P) (hPL : PLd P) (hq : q 13 = iN here) (hh : here < P.length) (hC : CLv B L v d) (hL : 100 ≤ L) (hL2 : L < 125) (hok : LDok d) (hd : d.1 = 8) (h : CR B dat q s 0 A) (hpr : (rPn s).length < 400)
    (k : ∀ A', CR B dat q (sTp P dat here d s).1 (sTp P dat here d s).2 A' → K A') : wp_Ma_perform 5 L A K := by
  obtain ⟨w0, w1, w2, -⟩ := W5 hW h
  obtain ⟨-, f2, -⟩ := CLv_f (CLv_R hL h.1 hC)
  have hl24 := hP.1
  have e : tb1300.getD (Int32.toNatClampNeg (nI (1000 + 8 - 1000))) 0 = 8 := by decide +kernel
  unfold wp_Ma_perform
  rw [f2, hd, e]
  exact ⟨kdL hL hL2, ⟨by omega, by omega⟩, iN_in (a := 8) (m := 17) (by omega) (by omega), fun q => absurd q (by decide), fun q => absurd q (by decide), fun q => absurd q (by decide), fun q => absurd q (by decide), fun q => absurd q (by decide), fun q => absurd q (by decide), fun q => absurd q (by decide), fun _ => ⟨rfl, c_nextS hW hC hL hd hok h (fun A' h' => k A' (by rw [sTp_8 hd]; exact h'))⟩, fun q => absurd q (by decide), fun q => absurd q (by decide), fun q => absurd q (by decide), fun q => absurd q (by decide), fun q => absurd q (by decide), fun q => absurd q (by decide), fun q => absurd q (by decide), fun q => absurd q (by decide), fun q => absurd q (by decide), fun q1 q2 q3 q4 q5 q6 q7 q8 q9 q10 q11 q12 q13 q14 q15 q16 q17 => absurd rfl q8⟩
theorem pf_9 (hW : WC B) (hP : PC B P) (hPL : PLd P) (hq : q 13 = iN here) (hh : here < P.length) (hC : CLv B L v d) (hL : 100 ≤ L) (hL2 : L < 125) (hok : LDok d) (hd : d.1 = 9) (h : CR B dat q s 0 A) (hpr : (rPn s).length < 400)
    (k : ∀ A', CR B dat q (sTp P dat here d s).1 (sTp P dat here d s).2 A' → K A') : wp_Ma_perform 5 L A K := by
  obtain ⟨w0, w1, w2, -⟩ := W5 hW h
  obtain ⟨-, f2, -⟩ := CLv_f (CLv_R hL h.1 hC)
  have hl24 := hP.1
  have e : tb1300.getD (Int32.toNatClampNeg (nI (1000 + 9 - 1000))) 0 = 9 := by decide +kernel
  unfold wp_Ma_perform
  rw [f2, hd, e]
  exact ⟨kdL hL hL2, ⟨by omega, by omega⟩, iN_in (a := 9) (m := 17) (by omega) (by omega), fun q => absurd q (by decide), fun q => absurd q (by decide), fun q => absurd q (by decide), fun q => absurd q (by decide), fun q => absurd q (by decide), fun q => absurd q (by decide), fun q => absurd q (by decide), fun q => absurd q (by decide), fun _ => ⟨rfl, c_read hW hC hL hL2 hd hok h (fun r hr A' h' => k A' (by rw [sTp_9 hd, ← hr]; exact h'))⟩, fun q => absurd q (by decide), fun q => absurd q (by decide), fun q => absurd q (by decide), fun q => absurd q (by decide), fun q => absurd q (by decide), fun q => absurd q (by decide), fun q => absurd q (by decide), fun q => absurd q (by decide), fun q1 q2 q3 q4 q5 q6 q7 q8 q9 q10 q11 q12 q13 q14 q15 q16 q17 => absurd rfl q9⟩
theorem pf_10 (hW : WC B) (hP : PC B P) (hPL : PLd P) (hq : q 13 = iN here) (hh : here < P.length) (hC : CLv B L v d) (hL : 100 ≤ L) (hL2 : L < 125) (hok : LDok d) (hd : d.1 = 10) (h : CR B dat q s 0 A) (hpr : (rPn s).length < 400)
    (k : ∀ A', CR B dat q (sTp P dat here d s).1 (sTp P dat here d s).2 A' → K A') : wp_Ma_perform 5 L A K := by
  obtain ⟨w0, w1, w2, -⟩ := W5 hW h
  obtain ⟨-, f2, -⟩ := CLv_f (CLv_R hL h.1 hC)
  have hl24 := hP.1
  have e : tb1300.getD (Int32.toNatClampNeg (nI (1000 + 10 - 1000))) 0 = 10 := by decide +kernel
  unfold wp_Ma_perform
  rw [f2, hd, e]
  exact ⟨kdL hL hL2, ⟨by omega, by omega⟩, iN_in (a := 10) (m := 17) (by omega) (by omega), fun q => absurd q (by decide), fun q => absurd q (by decide), fun q => absurd q (by decide), fun q => absurd q (by decide), fun q => absurd q (by decide), fun q => absurd q (by decide), fun q => absurd q (by decide), fun q => absurd q (by decide), fun q => absurd q (by decide), fun _ => k A (by rw [sTp_10 hd]; exact h), fun q => absurd q (by decide), fun q => absurd q (by decide), fun q => absurd q (by decide), fun q => absurd q (by decide), fun q => absurd q (by decide), fun q => absurd q (by decide), fun q => absurd q (by decide), fun q1 q2 q3 q4 q5 q6 q7 q8 q9 q10 q11 q12 q13 q14 q15 q16 q17 => absurd rfl q10⟩
theorem pf_11 (hW : WC B) (hP : PC B P) (hPL : PLd P) (hq : q 13 = iN here) (hh : here < P.length) (hC : CLv B L v d) (hL : 100 ≤ L) (hL2 : L < 125) (hok : LDok d) (hd : d.1 = 11) (h : CR B dat q s 0 A) (hpr : (rPn s).length < 400)
    (k : ∀ A', CR B dat q (sTp P dat here d s).1 (sTp P dat here d s).2 A' → K A') : wp_Ma_perform 5 L A K := by
  obtain ⟨w0, w1, w2, -⟩ := W5 hW h
  obtain ⟨-, f2, -⟩ := CLv_f (CLv_R hL h.1 hC)
  have hl24 := hP.1
  have e : tb1300.getD (Int32.toNatClampNeg (nI (1000 + 11 - 1000))) 0 = 16 := by decide +kernel
  unfold wp_Ma_perform
  rw [f2, hd, e]
  exact ⟨kdL hL hL2, ⟨by omega, by omega⟩, iN_in (a := 11) (m := 17) (by omega) (by omega), fun q => absurd q (by decide), fun q => absurd q (by decide), fun q => absurd q (by decide), fun q => absurd q (by decide), fun q => absurd q (by decide), fun q => absurd q (by decide), fun q => absurd q (by decide), fun q => absurd q (by decide), fun q => absurd q (by decide), fun q => absurd q (by decide), fun q => absurd q (by decide), fun q => absurd q (by decide), fun q => absurd q (by decide), fun q => absurd q (by decide), fun q => absurd q (by decide), fun _ => ⟨rfl, k _ (by rw [sTp_11 hd]; exact CR_rd h (Nat.zero_le _))⟩, fun q => absurd q (by decide), fun q1 q2 q3 q4 q5 q6 q7 q8 q9 q10 q11 q12 q13 q14 q15 q16 q17 => absurd rfl q16⟩
theorem pf_12 (hW : WC B) (hP : PC B P) (hPL : PLd P) (hq : q 13 = iN here) (hh : here < P.length) (hC : CLv B L v d) (hL : 100 ≤ L) (hL2 : L < 125) (hok : LDok d) (hd : d.1 = 12) (h : CR B dat q s 0 A) (hpr : (rPn s).length < 400)
    (k : ∀ A', CR B dat q (sTp P dat here d s).1 (sTp P dat here d s).2 A' → K A') : wp_Ma_perform 5 L A K := by
  obtain ⟨w0, w1, w2, -⟩ := W5 hW h
  obtain ⟨-, f2, -⟩ := CLv_f (CLv_R hL h.1 hC)
  have hl24 := hP.1
  have e : tb1300.getD (Int32.toNatClampNeg (nI (1000 + 12 - 1000))) 0 = 11 := by decide +kernel
  unfold wp_Ma_perform
  rw [f2, hd, e]
  exact ⟨kdL hL hL2, ⟨by omega, by omega⟩, iN_in (a := 12) (m := 17) (by omega) (by omega), fun q => absurd q (by decide), fun q => absurd q (by decide), fun q => absurd q (by decide), fun q => absurd q (by decide), fun q => absurd q (by decide), fun q => absurd q (by decide), fun q => absurd q (by decide), fun q => absurd q (by decide), fun q => absurd q (by decide), fun q => absurd q (by decide), fun _ => ⟨rfl, by rw [w1]; rfl, c_dim hW hC hL hL2 hd hok h (fun A' h' => k A' (by rw [sTp_12 hd]; exact h'))⟩, fun q => absurd q (by decide), fun q => absurd q (by decide), fun q => absurd q (by decide), fun q => absurd q (by decide), fun q => absurd q (by decide), fun q => absurd q (by decide), fun q1 q2 q3 q4 q5 q6 q7 q8 q9 q10 q11 q12 q13 q14 q15 q16 q17 => absurd rfl q11⟩
theorem pf_13 (hW : WC B) (hP : PC B P) (hPL : PLd P) (hq : q 13 = iN here) (hh : here < P.length) (hC : CLv B L v d) (hL : 100 ≤ L) (hL2 : L < 125) (hok : LDok d) (hd : d.1 = 13) (h : CR B dat q s 0 A) (hpr : (rPn s).length < 400)
    (k : ∀ A', CR B dat q (sTp P dat here d s).1 (sTp P dat here d s).2 A' → K A') : wp_Ma_perform 5 L A K := by
  obtain ⟨w0, w1, w2, -⟩ := W5 hW h
  obtain ⟨-, f2, -⟩ := CLv_f (CLv_R hL h.1 hC)
  have hl24 := hP.1
  have e : tb1300.getD (Int32.toNatClampNeg (nI (1000 + 13 - 1000))) 0 = 12 := by decide +kernel
  unfold wp_Ma_perform
  rw [f2, hd, e]
  exact ⟨kdL hL hL2, ⟨by omega, by omega⟩, iN_in (a := 13) (m := 17) (by omega) (by omega), fun q => absurd q (by decide), fun q => absurd q (by decide), fun q => absurd q (by decide), fun q => absurd q (by decide), fun q => absurd q (by decide), fun q => absurd q (by decide), fun q => absurd q (by decide), fun q => absurd q (by decide), fun q => absurd q (by decide), fun q => absurd q (by decide), fun q => absurd q (by decide), fun _ => ⟨rfl, by rw [w1]; rfl, c_def hW hC hL hL2 hd hok h (fun A' h' => k A' (by rw [sTp_13 hd]; exact h'))⟩, fun q => absurd q (by decide), fun q => absurd q (by decide), fun q => absurd q (by decide), fun q => absurd q (by decide), fun q => absurd q (by decide), fun q1 q2 q3 q4 q5 q6 q7 q8 q9 q10 q11 q12 q13 q14 q15 q16 q17 => absurd rfl q12⟩
theorem pf_14 (hW : WC B) (hP : PC B P) (hPL : PLd P) (hq : q 13 = iN here) (hh : here < P.length) (hC : CLv B L v d) (hL : 100 ≤ L) (hL2 : L < 125) (hok : LDok d) (hd : d.1 = 14) (h : CR B dat q s 0 A) (hpr : (rPn s).length < 400)
    (k : ∀ A', CR B dat q (sTp P dat here d s).1 (sTp P dat here d s).2 A' → K A') : wp_Ma_perform 5 L A K := by
  obtain ⟨w0, w1, w2, -⟩ := W5 hW h
  obtain ⟨-, f2, -⟩ := CLv_f (CLv_R hL h.1 hC)
  have hl24 := hP.1
  have e : tb1300.getD (Int32.toNatClampNeg (nI (1000 + 14 - 1000))) 0 = 13 := by decide +kernel
  unfold wp_Ma_perform
  rw [f2, hd, e]
  exact ⟨kdL hL hL2, ⟨by omega, by omega⟩, iN_in (a := 14) (m := 17) (by omega) (by omega), fun q => absurd q (by decide), fun q => absurd q (by decide), fun q => absurd q (by decide), fun q => absurd q (by decide), fun q => absurd q (by decide), fun q => absurd q (by decide), fun q => absurd q (by decide), fun q => absurd q (by decide), fun q => absurd q (by decide), fun q => absurd q (by decide), fun q => absurd q (by decide), fun q => absurd q (by decide), fun _ => ⟨rfl, by rw [w1]; rfl, by rw [w1]; exact c_mat hW hC hL hL2 hd hok h (fun r hr A' h' => k A' (by rw [sTp_14 hd, ← hr]; exact h'))⟩, fun q => absurd q (by decide), fun q => absurd q (by decide), fun q => absurd q (by decide), fun q => absurd q (by decide), fun q1 q2 q3 q4 q5 q6 q7 q8 q9 q10 q11 q12 q13 q14 q15 q16 q17 => absurd rfl q13⟩
theorem pf_15 (hW : WC B) (hP : PC B P) (hPL : PLd P) (hq : q 13 = iN here) (hh : here < P.length) (hC : CLv B L v d) (hL : 100 ≤ L) (hL2 : L < 125) (hok : LDok d) (hd : d.1 = 15) (h : CR B dat q s 0 A) (hpr : (rPn s).length < 400)
    (k : ∀ A', CR B dat q (sTp P dat here d s).1 (sTp P dat here d s).2 A' → K A') : wp_Ma_perform 5 L A K := by
  obtain ⟨w0, w1, w2, -⟩ := W5 hW h
  obtain ⟨-, f2, -⟩ := CLv_f (CLv_R hL h.1 hC)
  have hl24 := hP.1
  have e : tb1300.getD (Int32.toNatClampNeg (nI (1000 + 15 - 1000))) 0 = 14 := by decide +kernel
  unfold wp_Ma_perform
  rw [f2, hd, e]
  exact ⟨kdL hL hL2, ⟨by omega, by omega⟩, iN_in (a := 15) (m := 17) (by omega) (by omega), fun q => absurd q (by decide), fun q => absurd q (by decide), fun q => absurd q (by decide), fun q => absurd q (by decide), fun q => absurd q (by decide), fun q => absurd q (by decide), fun q => absurd q (by decide), fun q => absurd q (by decide), fun q => absurd q (by decide), fun q => absurd q (by decide), fun q => absurd q (by decide), fun q => absurd q (by decide), fun q => absurd q (by decide), fun _ => k A (by rw [sTp_15 hd]; exact h), fun q => absurd q (by decide), fun q => absurd q (by decide), fun q => absurd q (by decide), fun q1 q2 q3 q4 q5 q6 q7 q8 q9 q10 q11 q12 q13 q14 q15 q16 q17 => absurd rfl q14⟩
theorem pf_16 (hW : WC B) (hP : PC B P) (hPL : PLd P) (hq : q 13 = iN here) (hh : here < P.length) (hC : CLv B L v d) (hL : 100 ≤ L) (hL2 : L < 125) (hok : LDok d) (hd : d.1 = 16) (h : CR B dat q s 0 A) (hpr : (rPn s).length < 400)
    (k : ∀ A', CR B dat q (sTp P dat here d s).1 (sTp P dat here d s).2 A' → K A') : wp_Ma_perform 5 L A K := by
  obtain ⟨w0, w1, w2, -⟩ := W5 hW h
  obtain ⟨-, f2, -⟩ := CLv_f (CLv_R hL h.1 hC)
  have hl24 := hP.1
  have e : tb1300.getD (Int32.toNatClampNeg (nI (1000 + 16 - 1000))) 0 = 17 := by decide +kernel
  unfold wp_Ma_perform
  rw [f2, hd, e]
  exact ⟨kdL hL hL2, ⟨by omega, by omega⟩, iN_in (a := 16) (m := 17) (by omega) (by omega), fun q => absurd q (by decide), fun q => absurd q (by decide), fun q => absurd q (by decide), fun q => absurd q (by decide), fun q => absurd q (by decide), fun q => absurd q (by decide), fun q => absurd q (by decide), fun q => absurd q (by decide), fun q => absurd q (by decide), fun q => absurd q (by decide), fun q => absurd q (by decide), fun q => absurd q (by decide), fun q => absurd q (by decide), fun q => absurd q (by decide), fun q => absurd q (by decide), fun q => absurd q (by decide), fun _ => ⟨rfl, by rw [w0]; rfl, by rw [w0, (PC_R hP h.1).2.1]; exact k _ (by rw [sTp_16 hd]; exact CR_du h (PC_R hP h.1).1)⟩, fun q1 q2 q3 q4 q5 q6 q7 q8 q9 q10 q11 q12 q13 q14 q15 q16 q17 => absurd rfl q17⟩
theorem c_perform (hW : WC B) (hP : PC B P) (hPL : PLd P) (hq : q 13 = iN here) (hh : here < P.length) (hC : CLv B L v d) (hL : 100 ≤ L) (hL2 : L < 125) (hok : LDok d) (hd : d.1 < 17) (h : CR B dat q s 0 A) (hpr : (rPn s).length < 400)
    (k : ∀ A', CR B dat q (sTp P dat here d s).1 (sTp P dat here d s).2 A' → K A') : wp_Ma_perform 5 L A K := by
  rcases (by omega : d.1 = 0 ∨ d.1 = 1 ∨ d.1 = 2 ∨ d.1 = 3 ∨ d.1 = 4 ∨ d.1 = 5 ∨ d.1 = 6 ∨ d.1 = 7 ∨ d.1 = 8 ∨ d.1 = 9 ∨ d.1 = 10 ∨ d.1 = 11 ∨ d.1 = 12 ∨ d.1 = 13 ∨ d.1 = 14 ∨ d.1 = 15 ∨ d.1 = 16) with e | e | e | e | e | e | e | e | e | e | e | e | e | e | e | e | e
  · exact pf_0 hW hP hPL hq hh hC hL hL2 hok e h hpr k
  · exact pf_1 hW hP hPL hq hh hC hL hL2 hok e h hpr k
  · exact pf_2 hW hP hPL hq hh hC hL hL2 hok e h hpr k
  · exact pf_3 hW hP hPL hq hh hC hL hL2 hok e h hpr k
  · exact pf_4 hW hP hPL hq hh hC hL hL2 hok e h hpr k
  · exact pf_5 hW hP hPL hq hh hC hL hL2 hok e h hpr k
  · exact pf_6 hW hP hPL hq hh hC hL hL2 hok e h hpr k
  · exact pf_7 hW hP hPL hq hh hC hL hL2 hok e h hpr k
  · exact pf_8 hW hP hPL hq hh hC hL hL2 hok e h hpr k
  · exact pf_9 hW hP hPL hq hh hC hL hL2 hok e h hpr k
  · exact pf_10 hW hP hPL hq hh hC hL hL2 hok e h hpr k
  · exact pf_11 hW hP hPL hq hh hC hL hL2 hok e h hpr k
  · exact pf_12 hW hP hPL hq hh hC hL hL2 hok e h hpr k
  · exact pf_13 hW hP hPL hq hh hC hL hL2 hok e h hpr k
  · exact pf_14 hW hP hPL hq hh hC hL hL2 hok e h hpr k
  · exact pf_15 hW hP hPL hq hh hC hL hL2 hok e h hpr k
  · exact pf_16 hW hP hPL hq hh hC hL hL2 hok e h hpr k
end RC7
