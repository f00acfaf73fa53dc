/-- the entry of a MAT's result at row i, column j -/
def entF (me : Nat → Nat → UInt64) (mc : Nat → Nat) (b : Nat) (sc : UInt64) (x y i j : Nat) : Option UInt64 :=
  if b = 0 then some FP.dconst0 else if b = 1 then some FP.dconst1 else if b = 2 then some (if i = j then FP.dconst1 else FP.dconst0)
  else if b = 3 then some (me x ((j - 1) * 6 + (i - 1))) else if b = 4 then kpF (FP.dmul sc (me x ((i - 1) * 6 + (j - 1)))) else if b = 5 then some (me x ((i - 1) * 6 + (j - 1)))
  else if b = 6 then kpF (FP.dadd (me x ((i - 1) * 6 + (j - 1))) (me y ((i - 1) * 6 + (j - 1)))) else if b = 7 then kpF (FP.dsub (me x ((i - 1) * 6 + (j - 1))) (me y ((i - 1) * 6 + (j - 1))))
  else smF me x y i j (mc x) 1 FP.dconst0
/-- row i, column j are inside what a MAT of form b reads -/
def enR (mr mc : Nat → Nat) (b x y i j : Nat) : Prop := 1 ≤ i ∧ i ≤ 6 ∧ 1 ≤ j ∧ j ≤ 6 ∧ (b = 3 → j ≤ mr x ∧ i ≤ mc x) ∧ (b = 4 ∨ b = 5 ∨ b = 6 ∨ b = 7 → i ≤ mr x ∧ j ≤ mc x) ∧ (b = 8 → i ≤ mr x ∧ j ≤ mc y ∧ mc x = mr y)
/-- an entry's outcome: a value, a fault, or a fault that was there -/
def oKE (A0 : Mem) (va : Nat → UInt64) (ft : Nat) (e : Option UInt64) (K : UInt64 → Mem → Prop) : Prop :=
  (ft = 0 → ∀ v, e = some v → okd v → ∀ A', CvS A0 va 0 A' → K v A') ∧ (ft = 0 → e = none → ∀ v A', okd v → CvS A0 va 4 A' → K v A') ∧ (ft ≠ 0 → ∀ v A', okd v → CvS A0 va ft A' → K v A')
section CEN
variable {A0 A : Mem} {va : Nat → UInt64} {ft : Nat} {mr mc : Nat → Nat} {x y i j : Nat} {sc : UInt64} {K : UInt64 → Mem → Prop}
theorem oKE_val {v : UInt64} (k : oKE A0 va ft (some v) K) (ho : okd v) (h : CvS A0 va ft A) : K v A := by
  by_cases h0 : ft = 0
  · subst h0; exact k.1 rfl v rfl ho A h
  · exact k.2.2 h0 v A ho h
/-- the check of a result, whatever was before -/
theorem n_resultC {w : UInt64} (h : CvS A0 va ft A) (hx : FP.Core.dIsNaN w = false) (k : oKE A0 va ft (kpF w) K) : wp_Ca_result 8 w A K := by
  obtain ⟨s, h, hs⟩ := h
  by_cases h0 : ft = 0
  · subst h0
    have hs := hs rfl
    subst hs
    exact n_result h hx ⟨fun r hr A' ho h' => k.1 rfl r hr ho A' ⟨[], h', fun _ => rfl⟩, fun hr r A' ho h' => k.2.1 rfl hr r A' ho ⟨[], h', fun q => absurd q (by decide)⟩⟩
  · exact n_resultA h h0 hx (fun r A' ho h' => k.2.2 h0 r A' ho ⟨s, h', fun q => absurd q h0⟩)
theorem n_sumC (hW : WC A0) (hM : MxA A0 mr mc) (hx : x < 3) (hy : y < 3) (hi : 1 ≤ i ∧ i ≤ mr x) (hj : 1 ≤ j ∧ j ≤ mc y) (hxy : mc x = mr y) (h : CvS A0 va ft A) (k : oKE A0 va ft (smF (fun m => gD A0 (16 + m)) x y i j (mc x) 1 FP.dconst0) K) : wp_Ca_sumOfProducts 8 (12 + x) (12 + y) (iN i) (iN j) A K := by
  obtain ⟨s, h, hs⟩ := h
  refine ⟨mc x + 1, ?_⟩
  by_cases h0 : ft = 0
  · subst h0
    have hs := hs rfl
    subst hs
    exact n_sum hW hM hx hy hi hj hxy (mc x) 1 _ FP.dconst0 A (by omega) (Nat.le_refl 1) (by omega) okd_0 h (fun r hr ho A' h' => k.1 rfl r hr ho A' ⟨[], h', fun _ => rfl⟩) (fun hr r s' A' ho h' => k.2.1 rfl hr r A' ho ⟨s', h', fun q => absurd q (by decide)⟩)
  · exact n_sumA hW hM hx hy h0 hi hj hxy (fun r s' A' ho h' => k.2.2 h0 r A' ho ⟨s', h', fun q => absurd q h0⟩) (mc x) 1 _ FP.dconst0 s A (by omega) (Nat.le_refl 1) (by omega) okd_0 h
/-- reading inside a matrix -/
theorem n_getC {m a c : Nat} {K : UInt64 → Mem → Prop} (hW : WC A0) (hM : MxA A0 mr mc) (hm : m < 3) (h : CvS A0 va ft A) (hi : a * 6 + c < 36) (k : okd (gD A0 (16 + m) (a * 6 + c)) → K (gD A0 (16 + m) (a * 6 + c)) A) : wp_Mx_get (12 + m) (iN (a * 6 + c)) A K := by
  obtain ⟨s, h, hs⟩ := h
  refine n_get hm (by rw [h.1.2.2.2.1 (12 + m) (by omega)]; exact WC_m hW hm) hi ?_
  rw [h.1.2.2.2.2.2 (16 + m) (by omega) (by omega)]
  exact k ((hM m hm).2.2.2.2 _ hi)
theorem n_placeC {m : Nat} {u w : Int64} {K : Int32 → Mem → Prop} (hM : MxA A0 mr mc) (hm : m < 3) (h : CvS A0 va ft A) (k : K (match plM (mr m) (mc m) u w with | some i => iN i | none => -1) A) : wp_Mx_placeOf (12 + m) u w A K := by
  obtain ⟨s, h, hs⟩ := h
  obtain ⟨m1, m2, m3, m4, m5⟩ := hM m hm
  exact n_placeOf (kd_m4 (by omega)).1 (by rw [h.1.2.1 _ (by omega)]; exact m1) (by rw [h.1.2.1 _ (by omega)]; exact m2) m3 m4 k
theorem en_0 (hW : WC A0) (hM : MxA A0 mr mc) (hx : x < 3) (hy : y < 3) (hR : enR mr mc 0 x y i j) (hsc : okd sc) (h : CvS A0 va ft A) (k : oKE A0 va ft (some FP.dconst0) K) : wp_Ca_entry 8 1100 (12 + x) (12 + y) sc (iN i) (iN j) A K := by
  unfold wp_Ca_entry
  refine ⟨(kd_m4 (by omega)).1, n_placeC hM hx h ?_⟩
  obtain ⟨r1, r2, r3, r4, -⟩ := hR
  exact ⟨⟨by omega, by omega⟩, iN_in (a := 0) (m := 9) (by omega) (by omega), ⟨(fun _ => oKE_val k okd_0 h), (fun q => absurd q (by decide)), (fun q => absurd q (by decide)), (fun q => absurd q (by decide)), (fun q => absurd q (by decide)), (fun q => absurd q (by decide)), (fun q => absurd q (by decide)), (fun q => absurd q (by decide)), (fun q1 q2 q3 q4 q5 q6 q7 q8 => absurd (by decide) q1)⟩⟩
theorem en_1 (hW : WC A0) (hM : MxA A0 mr mc) (hx : x < 3) (hy : y < 3) (hR : enR mr mc 1 x y i j) (hsc : okd sc) (h : CvS A0 va ft A) (k : oKE A0 va ft (some FP.dconst1) K) : wp_Ca_entry 8 1101 (12 + x) (12 + y) sc (iN i) (iN j) A K := by
  unfold wp_Ca_entry
  refine ⟨(kd_m4 (by omega)).1, n_placeC hM hx h ?_⟩
  obtain ⟨r1, r2, r3, r4, -⟩ := hR
  exact ⟨⟨by omega, by omega⟩, iN_in (a := 1) (m := 9) (by omega) (by omega), ⟨(fun q => absurd q (by decide)), (fun _ => oKE_val k okd_1 h), (fun q => absurd q (by decide)), (fun q => absurd q (by decide)), (fun q => absurd q (by decide)), (fun q => absurd q (by decide)), (fun q => absurd q (by decide)), (fun q => absurd q (by decide)), (fun q1 q2 q3 q4 q5 q6 q7 q8 => absurd (by decide) q2)⟩⟩
theorem en_2 (hW : WC A0) (hM : MxA A0 mr mc) (hx : x < 3) (hy : y < 3) (hR : enR mr mc 2 x y i j) (hsc : okd sc) (h : CvS A0 va ft A) (k : oKE A0 va ft (some (if i = j then FP.dconst1 else FP.dconst0)) K) : wp_Ca_entry 8 1102 (12 + x) (12 + y) sc (iN i) (iN j) A K := by
  unfold wp_Ca_entry
  refine ⟨(kd_m4 (by omega)).1, n_placeC hM hx h ?_⟩
  obtain ⟨r1, r2, r3, r4, -⟩ := hR
  exact ⟨⟨by omega, by omega⟩, iN_in (a := 2) (m := 9) (by omega) (by omega), ⟨(fun q => absurd q (by decide)), (fun q => absurd q (by decide)), (fun _ => ⟨fun q => (by rw [iN_eq (by omega) (by omega)] at q; rw [if_neg q] at k; exact oKE_val k okd_0 h), fun q => (by rw [iN_eq (by omega) (by omega)] at q; rw [if_pos q] at k; exact oKE_val k okd_1 h)⟩), (fun q => absurd q (by decide)), (fun q => absurd q (by decide)), (fun q => absurd q (by decide)), (fun q => absurd q (by decide)), (fun q => absurd q (by decide)), (fun q1 q2 q3 q4 q5 q6 q7 q8 => absurd (by decide) q3)⟩⟩
theorem en_3 (hW : WC A0) (hM : MxA A0 mr mc) (hx : x < 3) (hy : y < 3) (hR : enR mr mc 3 x y i j) (hsc : okd sc) (h : CvS A0 va ft A) (k : oKE A0 va ft (some (gD A0 (16 + x) ((j - 1) * 6 + (i - 1)))) K) : wp_Ca_entry 8 1107 (12 + x) (12 + y) sc (iN i) (iN j) A K := by
  unfold wp_Ca_entry
  refine ⟨(kd_m4 (by omega)).1, n_placeC hM hx h ?_⟩
  have r2 := hR.2.1
  have r4 := hR.2.2.2.1
  have r1 := hR.1
  have r3 := hR.2.2.1
  exact ⟨⟨by omega, by omega⟩, iN_in (a := 7) (m := 9) (by omega) (by omega), ⟨(fun q => absurd q (by decide)), (fun q => absurd q (by decide)), (fun q => absurd q (by decide)), (fun q => absurd q (by decide)), (fun q => absurd q (by decide)), (fun q => absurd q (by decide)), (fun _ => n_placeC hM hx h (by rw [plM_in hR.2.2.1 (hR.2.2.2.2.1 rfl).1 hR.1 (hR.2.2.2.2.1 rfl).2 (hM x hx).2.2.1 (hM x hx).2.2.2.1]; exact n_getC hW hM hx h (by omega) (fun ho => oKE_val k ho h))), (fun q => absurd q (by decide)), (fun q1 q2 q3 q4 q5 q6 q7 q8 => absurd (by decide) q7)⟩⟩
theorem en_4 (hW : WC A0) (hM : MxA A0 mr mc) (hx : x < 3) (hy : y < 3) (hR : enR mr mc 4 x y i j) (hsc : okd sc) (h : CvS A0 va ft A) (k : oKE A0 va ft (kpF (FP.dmul sc (gD A0 (16 + x) ((i - 1) * 6 + (j - 1))))) K) : wp_Ca_entry 8 1108 (12 + x) (12 + y) sc (iN i) (iN j) A K := by
  unfold wp_Ca_entry
  refine ⟨(kd_m4 (by omega)).1, n_placeC hM hx h ?_⟩
  have r5 := hR.2.2.2.2.2.1 (by omega)
  have r2 := hR.2.1
  have r4 := hR.2.2.2.1
  have r1 := hR.1
  have r3 := hR.2.2.1
  rw [plM_in r1 r5.1 r3 r5.2 (hM x hx).2.2.1 (hM x hx).2.2.2.1]
  exact ⟨⟨by omega, by omega⟩, iN_in (a := 8) (m := 9) (by omega) (by omega), ⟨(fun q => absurd q (by decide)), (fun q => absurd q (by decide)), (fun q => absurd q (by decide)), (fun q => absurd q (by decide)), (fun q => absurd q (by decide)), (fun q => absurd q (by decide)), (fun q => absurd q (by decide)), (fun _ => n_getC hW hM hx h (by omega) (fun ho => ⟨vfn_mul hsc ho, rfl, n_resultC h (FP.Core.dmul_out (okd_fin hsc) (okd_fin ho)) k⟩)), (fun q1 q2 q3 q4 q5 q6 q7 q8 => absurd (by decide) q8)⟩⟩
theorem en_5 (hW : WC A0) (hM : MxA A0 mr mc) (hx : x < 3) (hy : y < 3) (hR : enR mr mc 5 x y i j) (hsc : okd sc) (h : CvS A0 va ft A) (k : oKE A0 va ft (some (gD A0 (16 + x) ((i - 1) * 6 + (j - 1)))) K) : wp_Ca_entry 8 1103 (12 + x) (12 + y) sc (iN i) (iN j) A K := by
  unfold wp_Ca_entry
  refine ⟨(kd_m4 (by omega)).1, n_placeC hM hx h ?_⟩
  have r5 := hR.2.2.2.2.2.1 (by omega)
  have r2 := hR.2.1
  have r4 := hR.2.2.2.1
  have r1 := hR.1
  have r3 := hR.2.2.1
  rw [plM_in r1 r5.1 r3 r5.2 (hM x hx).2.2.1 (hM x hx).2.2.2.1]
  exact ⟨⟨by omega, by omega⟩, iN_in (a := 3) (m := 9) (by omega) (by omega), ⟨(fun q => absurd q (by decide)), (fun q => absurd q (by decide)), (fun q => absurd q (by decide)), (fun q => absurd q (by decide)), (fun q => absurd q (by decide)), (fun q => absurd q (by decide)), (fun q => absurd q (by decide)), (fun q => absurd q (by decide)), (fun _ _ _ _ _ _ _ _ => n_getC hW hM hx h (by omega) (fun ho => oKE_val k ho h))⟩⟩
theorem en_6 (hW : WC A0) (hM : MxA A0 mr mc) (hx : x < 3) (hy : y < 3) (hR : enR mr mc 6 x y i j) (hsc : okd sc) (h : CvS A0 va ft A) (k : oKE A0 va ft (kpF (FP.dadd (gD A0 (16 + x) ((i - 1) * 6 + (j - 1))) (gD A0 (16 + y) ((i - 1) * 6 + (j - 1))))) K) : wp_Ca_entry 8 1104 (12 + x) (12 + y) sc (iN i) (iN j) A K := by
  unfold wp_Ca_entry
  refine ⟨(kd_m4 (by omega)).1, n_placeC hM hx h ?_⟩
  have r5 := hR.2.2.2.2.2.1 (by omega)
  have r2 := hR.2.1
  have r4 := hR.2.2.2.1
  have r1 := hR.1
  have r3 := hR.2.2.1
  rw [plM_in r1 r5.1 r3 r5.2 (hM x hx).2.2.1 (hM x hx).2.2.2.1]
  exact ⟨⟨by omega, by omega⟩, iN_in (a := 4) (m := 9) (by omega) (by omega), ⟨(fun q => absurd q (by decide)), (fun q => absurd q (by decide)), (fun q => absurd q (by decide)), (fun _ => n_getC hW hM hx h (by omega) (fun ho => ⟨(kd_m4 (by omega)).1, n_getC hW hM hy h (by omega) (fun ho2 => ⟨vfn_add ho ho2, rfl, n_resultC h (FP.Core.dadd_out (okd_nn ho) (okd_fin ho2)) k⟩)⟩)), (fun q => absurd q (by decide)), (fun q => absurd q (by decide)), (fun q => absurd q (by decide)), (fun q => absurd q (by decide)), (fun q1 q2 q3 q4 q5 q6 q7 q8 => absurd (by decide) q4)⟩⟩
theorem en_7 (hW : WC A0) (hM : MxA A0 mr mc) (hx : x < 3) (hy : y < 3) (hR : enR mr mc 7 x y i j) (hsc : okd sc) (h : CvS A0 va ft A) (k : oKE A0 va ft (kpF (FP.dsub (gD A0 (16 + x) ((i - 1) * 6 + (j - 1))) (gD A0 (16 + y) ((i - 1) * 6 + (j - 1))))) K) : wp_Ca_entry 8 1105 (12 + x) (12 + y) sc (iN i) (iN j) A K := by
  unfold wp_Ca_entry
  refine ⟨(kd_m4 (by omega)).1, n_placeC hM hx h ?_⟩
  have r5 := hR.2.2.2.2.2.1 (by omega)
  have r2 := hR.2.1
  have r4 := hR.2.2.2.1
  have r1 := hR.1
  have r3 := hR.2.2.1
  rw [plM_in r1 r5.1 r3 r5.2 (hM x hx).2.2.1 (hM x hx).2.2.2.1]
  exact ⟨⟨by omega, by omega⟩, iN_in (a := 5) (m := 9) (by omega) (by omega), ⟨(fun q => absurd q (by decide)), (fun q => absurd q (by decide)), (fun q => absurd q (by decide)), (fun q => absurd q (by decide)), (fun _ => n_getC hW hM hx h (by omega) (fun ho => ⟨(kd_m4 (by omega)).1, n_getC hW hM hy h (by omega) (fun ho2 => ⟨vfn_sub ho ho2, rfl, n_resultC h (FP.Core.dsub_out (okd_nn ho) (okd_fin ho2)) k⟩)⟩)), (fun q => absurd q (by decide)), (fun q => absurd q (by decide)), (fun q => absurd q (by decide)), (fun q1 q2 q3 q4 q5 q6 q7 q8 => absurd (by decide) q5)⟩⟩
theorem en_8 (hW : WC A0) (hM : MxA A0 mr mc) (hx : x < 3) (hy : y < 3) (hR : enR mr mc 8 x y i j) (hsc : okd sc) (h : CvS A0 va ft A) (k : oKE A0 va ft (smF (fun m => gD A0 (16 + m)) x y i j (mc x) 1 FP.dconst0) K) : wp_Ca_entry 8 1106 (12 + x) (12 + y) sc (iN i) (iN j) A K := by
  unfold wp_Ca_entry
  refine ⟨(kd_m4 (by omega)).1, n_placeC hM hx h ?_⟩
  have r2 := hR.2.1
  have r4 := hR.2.2.2.1
  have r1 := hR.1
  have r3 := hR.2.2.1
  exact ⟨⟨by omega, by omega⟩, iN_in (a := 6) (m := 9) (by omega) (by omega), ⟨(fun q => absurd q (by decide)), (fun q => absurd q (by decide)), (fun q => absurd q (by decide)), (fun q => absurd q (by decide)), (fun q => absurd q (by decide)), (fun _ => ⟨rfl, n_sumC hW hM hx hy ⟨hR.1, (hR.2.2.2.2.2.2 rfl).1⟩ ⟨hR.2.2.1, (hR.2.2.2.2.2.2 rfl).2.1⟩ (hR.2.2.2.2.2.2 rfl).2.2 h k⟩), (fun q => absurd q (by decide)), (fun q => absurd q (by decide)), (fun q1 q2 q3 q4 q5 q6 q7 q8 => absurd (by decide) q6)⟩⟩
end CEN
