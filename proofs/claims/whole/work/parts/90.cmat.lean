/-! the class's matrices -/
def shF (A : Mem) (m : Nat) (a b : Int32) (A' : Mem) : Prop := gL A' = gL A ∧ gR A' = gR A ∧ (∀ o, o ≠ 12 + m → gI A' o = gI A o) ∧ gI A' (12 + m) 0 = a ∧ gI A' (12 + m) 1 = b ∧ (∀ o, o ≠ 16 + m → gD A' o = gD A o) ∧ ∀ i, i < 36 → gD A' (16 + m) i = FP.dconst0
theorem WC_m4 {A : Mem} (hW : WC A) {m : Nat} (hm : m < 4) : gR A (12 + m) 2 = 16 + m := by
  rcases (by omega : m = 0 ∨ m = 1 ∨ m = 2 ∨ m = 3) with e | e | e | e <;> rw [e]
  · exact hW.2.2.2.1.1
  · exact hW.2.2.2.1.2.1
  · exact hW.2.2.2.1.2.2.1
  · exact hW.2.2.2.1.2.2.2
theorem kd_m4 {m : Nat} (hm : m < 4) : kd (12 + m) = 7 ∧ kd (16 + m) = 53 ∧ al (16 + m) = 36 := by
  rcases (by omega : m = 0 ∨ m = 1 ∨ m = 2 ∨ m = 3) with e | e | e | e <;> rw [e] <;> exact ⟨rfl, rfl, rfl⟩
section CMT
variable {A : Mem}
theorem n_shape {m : Nat} {a b : Int32} {K : Mem → Prop} (hW : WC A) (hm : m < 4) (k : ∀ A', shF A m a b A' → K A') : wp_Mx_shape (12 + m) a b A K := by
  obtain ⟨k1, k2, k3⟩ := kd_m4 hm
  have hR := WC_m4 hW hm
  have go : ∀ (j i fu : Nat) (B : Mem), i + j = 36 → j < fu → gL B = gL A → gR B = gR A → (∀ o, o ≠ 12 + m → gI B o = gI A o) → gI B (12 + m) 0 = a → gI B (12 + m) 1 = b → (∀ o, o ≠ 16 + m → gD B o = gD A o) → (∀ x, x < i → gD B (16 + m) x = FP.dconst0) → wp_Mx_shape_c12 K fu (12 + m) (iN i) B := by
    intro j
    induction j with
    | zero =>
      intro i fu B hi hfu b1 b2 b3 b4 b5 b6 b7
      obtain ⟨fu, rfl⟩ : ∃ g, fu = g + 1 := ⟨fu - 1, by omega⟩
      unfold wp_Mx_shape_c12
      rw [b2, hR, k3, show Int32.ofNat 36 = iN 36 from rfl, iN_le (by omega) (by omega)]
      exact ⟨k1, k2, fun _ => k B ⟨b1, b2, b3, b4, b5, b6, fun x hx => b7 x (by omega)⟩, fun q => by omega⟩
    | succ j ih =>
      intro i fu B hi hfu b1 b2 b3 b4 b5 b6 b7
      obtain ⟨fu, rfl⟩ : ∃ g, fu = g + 1 := ⟨fu - 1, by omega⟩
      unfold wp_Mx_shape_c12
      rw [b2, hR, k3, show Int32.ofNat 36 = iN 36 from rfl, iN_le (by omega) (by omega), iN_cl (a := i) (by omega), iN_1]
      refine ⟨k1, k2, fun q => by omega, fun _ => ⟨iN_in (m := 36) (by omega) (by omega), ?_⟩⟩
      refine ih (i + 1) fu _ (by omega) (by omega) b1 b2 b3 b4 b5 (fun o ho => (gD_row ho).trans (b6 o ho)) (fun x hx => ?_)
      by_cases hx2 : x = i
      · rw [hx2, gD_eq]
      · rw [gD_ne (Or.inr hx2)]; exact b7 x (by omega)
  refine ⟨k1, 37, go 36 0 37 _ (by omega) (by omega) rfl rfl (fun o ho => ?_) ?_ ?_ (fun o _ => rfl) (fun x hx => by omega)⟩
  · rw [gI_row ho, gI_row ho]
  · rw [gI_ne (Or.inr (by omega)), gI_eq]
  · rw [gI_eq]
theorem n_setM {m i : Nat} {v : UInt64} {K : Mem → Prop} (hW : WC A) (hm : m < 4) (hi : i < 36) (k : K (sD A (16 + m) i v)) : wp_Mx_set (12 + m) (iN i) v A K := by
  obtain ⟨k1, k2, k3⟩ := kd_m4 hm
  unfold wp_Mx_set
  rw [WC_m4 hW hm, k3, show (0 : Int32) = iN 0 from rfl, show Int32.ofNat 36 = iN 36 from rfl, iN_lt (by omega) (by omega), iN_le (by omega) (by omega), iN_cl (by omega)]
  exact ⟨fun q => by omega, fun _ => ⟨k1, k2, fun q => by omega, fun _ => ⟨iN_in (m := 36) hi (by omega), k⟩⟩⟩
/-- place of row i, column j (from 1 on) when both are inside -/
theorem plM_in {a b i j : Nat} (h1 : 1 ≤ i) (h2 : i ≤ a) (h3 : 1 ≤ j) (h4 : j ≤ b) (ha : a ≤ 6) (hb : b ≤ 6) : plM a b (iN i).toInt64 (iN j).toInt64 = some ((i - 1) * 6 + (j - 1)) := by
  unfold plM
  rw [Int32.toInt_toInt64, Int32.toInt_toInt64, iN_toInt (by omega), iN_toInt (by omega), if_pos (by omega)]
  rfl
/-- rebasing -/
theorem EvS_re {A0 : Mem} {va : Nat → UInt64} {s : List UInt64} {ft : Nat} (h : EvS A0 va s ft A) : EvS A va s ft A := ⟨⟨rfl, fun _ _ => rfl, fun _ _ => rfl, fun _ _ => rfl, fun _ _ => rfl, fun _ _ _ => rfl⟩, h.2⟩
/-- the sum of products of a row and a column -/
def smF (me : Nat → Nat → UInt64) (x y i j : Nat) : Nat → Nat → UInt64 → Option UInt64
  | 0, _, acc => some acc
  | n + 1, k, acc => (kpF (FP.dmul (me x ((i - 1) * 6 + (k - 1))) (me y ((k - 1) * 6 + (j - 1))))).bind fun q => (kpF (FP.dadd acc q)).bind fun r => smF me x y i j n (k + 1) r
theorem n_sumA {A0 : Mem} {va : Nat → UInt64} {ft : Nat} {mr mc : Nat → Nat} {K : UInt64 → Mem → Prop} {x y i j : Nat} (hW : WC A0) (hM : MxA A0 mr mc) (hx : x < 3) (hy : y < 3) (h0 : ft ≠ 0) (hi : 1 ≤ i ∧ i ≤ mr x) (hj : 1 ≤ j ∧ j ≤ mc y) (hxy : mc x = mr y)
    (kk : ∀ r s' A', okd r → EvS A0 va s' ft A' → K r A') : ∀ (n k fu : Nat) (acc : UInt64) (s : List UInt64) (A : Mem), k + n = mc x + 1 → 1 ≤ k → n < fu → okd acc → EvS A0 va s ft A → wp_Ca_sumOfProducts_c6 K fu 8 (12 + x) (12 + y) (iN i) (iN j) acc (iN k) A := by
  obtain ⟨x1, x2, x3, x4, x5⟩ := hM x hx
  obtain ⟨y1, y2, y3, y4, y5⟩ := hM y hy
  intro n
  induction n with
  | zero =>
    intro k fu acc s A hk h1 hfu ha h
    obtain ⟨fu, rfl⟩ : ∃ g, fu = g + 1 := ⟨fu - 1, by omega⟩
    unfold wp_Ca_sumOfProducts_c6
    rw [h.1.2.1 (12 + x) (by omega), x2, iN_lt (by omega) (by omega)]
    exact ⟨(kd_m4 (by omega)).1, fun _ => kk acc s A ha h, fun q => by omega⟩
  | succ n ih =>
    intro k fu acc s A hk h1 hfu ha h
    obtain ⟨fu, rfl⟩ : ∃ g, fu = g + 1 := ⟨fu - 1, by omega⟩
    have eR : ∀ m, m < 3 → gR A (12 + m) = gR A0 (12 + m) := fun m hm => h.1.2.2.2.1 _ (by omega)
    have eD : ∀ m, m < 3 → gD A (16 + m) = gD A0 (16 + m) := fun m hm => h.1.2.2.2.2.2 _ (by omega) (by omega)
    unfold wp_Ca_sumOfProducts_c6
    rw [h.1.2.1 (12 + x) (by omega), x2, iN_lt (by omega) (by omega)]
    refine ⟨(kd_m4 (by omega)).1, fun q => by omega, fun _ => n_placeOf (kd_m4 (by omega)).1 (a := mr x) (b := mc x) (by rw [h.1.2.1 _ (by omega)]; exact x1) (by rw [h.1.2.1 _ (by omega)]; exact x2) x3 x4 ?_⟩
    rw [plM_in hi.1 hi.2 h1 (by omega) x3 x4]
    refine n_get hx (by rw [eR x hx]; exact WC_m hW hx) (by omega) ?_
    refine ⟨(kd_m4 (by omega)).1, n_placeOf (kd_m4 (by omega)).1 (a := mr y) (b := mc y) (by rw [h.1.2.1 _ (by omega)]; exact y1) (by rw [h.1.2.1 _ (by omega)]; exact y2) y3 y4 ?_⟩
    rw [plM_in h1 (by omega) hj.1 hj.2 y3 y4]
    refine n_get hy (by rw [eR y hy]; exact WC_m hW hy) (by omega) ?_
    rw [eD x hx, eD y hy]
    have ox := x5 ((i - 1) * 6 + (k - 1)) (by omega)
    have oy := y5 ((k - 1) * 6 + (j - 1)) (by omega)
    refine ⟨vfn_mul ox oy, rfl, n_resultA h h0 (FP.Core.dmul_out (okd_fin ox) (okd_fin oy)) (fun q A1 hq h2 => ⟨vfn_add ha hq, n_resultA h2 h0 (FP.Core.dadd_out (okd_nn ha) (okd_fin hq)) (fun r A2 hr h3 => ?_)⟩)⟩
    rw [iN_1]
    exact ih (k + 1) fu r s A2 (by omega) (by omega) (by omega) hr h3
theorem n_sum {A0 : Mem} {va : Nat → UInt64} {s : List UInt64} {mr mc : Nat → Nat} {K : UInt64 → Mem → Prop} {x y i j : Nat} (hW : WC A0) (hM : MxA A0 mr mc) (hx : x < 3) (hy : y < 3) (hi : 1 ≤ i ∧ i ≤ mr x) (hj : 1 ≤ j ∧ j ≤ mc y) (hxy : mc x = mr y) :
    ∀ (n k fu : Nat) (acc : UInt64) (A : Mem), k + n = mc x + 1 → 1 ≤ k → n < fu → okd acc → EvS A0 va s 0 A →
      (∀ r, smF (fun m => gD A0 (16 + m)) x y i j n k acc = some r → okd r → ∀ A', EvS A0 va s 0 A' → K r A') → (smF (fun m => gD A0 (16 + m)) x y i j n k acc = none → ∀ r s' A', okd r → EvS A0 va s' 4 A' → K r A') → wp_Ca_sumOfProducts_c6 K fu 8 (12 + x) (12 + y) (iN i) (iN j) acc (iN k) A := by
  obtain ⟨x1, x2, x3, x4, x5⟩ := hM x hx
  obtain ⟨y1, y2, y3, y4, y5⟩ := hM y hy
  intro n
  induction n with
  | zero =>
    intro k fu acc A hk h1 hfu ha h kk1 kk2
    obtain ⟨fu, rfl⟩ : ∃ g, fu = g + 1 := ⟨fu - 1, by omega⟩
    unfold wp_Ca_sumOfProducts_c6
    rw [h.1.2.1 (12 + x) (by omega), x2, iN_lt (by omega) (by omega)]
    exact ⟨(kd_m4 (by omega)).1, fun _ => kk1 acc rfl ha A h, fun q => by omega⟩
  | succ n ih =>
    intro k fu acc A hk h1 hfu ha h kk1 kk2
    obtain ⟨fu, rfl⟩ : ∃ g, fu = g + 1 := ⟨fu - 1, by omega⟩
    have eR : ∀ m, m < 3 → gR A (12 + m) = gR A0 (12 + m) := fun m hm => h.1.2.2.2.1 _ (by omega)
    have eD : ∀ m, m < 3 → gD A (16 + m) = gD A0 (16 + m) := fun m hm => h.1.2.2.2.2.2 _ (by omega) (by omega)
    unfold smF at kk1 kk2
    unfold wp_Ca_sumOfProducts_c6
    rw [h.1.2.1 (12 + x) (by omega), x2, iN_lt (by omega) (by omega)]
    refine ⟨(kd_m4 (by omega)).1, fun q => by omega, fun _ => n_placeOf (kd_m4 (by omega)).1 (a := mr x) (b := mc x) (by rw [h.1.2.1 _ (by omega)]; exact x1) (by rw [h.1.2.1 _ (by omega)]; exact x2) x3 x4 ?_⟩
    rw [plM_in hi.1 hi.2 h1 (by omega) x3 x4]
    refine n_get hx (by rw [eR x hx]; exact WC_m hW hx) (by omega) ?_
    refine ⟨(kd_m4 (by omega)).1, n_placeOf (kd_m4 (by omega)).1 (a := mr y) (b := mc y) (by rw [h.1.2.1 _ (by omega)]; exact y1) (by rw [h.1.2.1 _ (by omega)]; exact y2) y3 y4 ?_⟩
    rw [plM_in h1 (by omega) hj.1 hj.2 y3 y4]
    refine n_get hy (by rw [eR y hy]; exact WC_m hW hy) (by omega) ?_
    rw [eD x hx, eD y hy]
    have ox := x5 ((i - 1) * 6 + (k - 1)) (by omega)
    have oy := y5 ((k - 1) * 6 + (j - 1)) (by omega)
    refine ⟨vfn_mul ox oy, rfl, n_result h (FP.Core.dmul_out (okd_fin ox) (okd_fin oy)) ⟨fun q hq A1 hqo h2 => ⟨vfn_add ha hqo, ?_⟩, fun hq q A1 hqo h2 => ⟨vfn_add ha hqo, ?_⟩⟩⟩
    · rw [hq] at kk1 kk2
      refine n_result h2 (FP.Core.dadd_out (okd_nn ha) (okd_fin hqo)) ⟨fun r hr A2 hro h3 => ?_, fun hr r A2 hro h3 => ?_⟩
      · have kk1 : ∀ r', ((kpF (FP.dadd acc q)).bind fun r => smF (fun m => gD A0 (16 + m)) x y i j n (k + 1) r) = some r' → okd r' → ∀ A', EvS A0 va s 0 A' → K r' A' := kk1
        have kk2 : ((kpF (FP.dadd acc q)).bind fun r => smF (fun m => gD A0 (16 + m)) x y i j n (k + 1) r) = none → ∀ r s' A', okd r → EvS A0 va s' 4 A' → K r A' := kk2
        rw [hr] at kk1 kk2
        rw [iN_1]
        exact ih (k + 1) fu r A2 (by omega) (by omega) (by omega) hro h3 kk1 kk2
      · have kk2 : ((kpF (FP.dadd acc q)).bind fun r => smF (fun m => gD A0 (16 + m)) x y i j n (k + 1) r) = none → ∀ r s' A', okd r → EvS A0 va s' 4 A' → K r A' := kk2
        rw [hr] at kk2
        rw [iN_1]
        exact n_sumA hW hM hx hy (by omega) hi hj hxy (fun r s' A' => kk2 rfl r s' A') n (k + 1) fu r s A2 (by omega) (by omega) (by omega) hro h3
    · rw [hq] at kk2
      refine n_resultA h2 (by omega) (FP.Core.dadd_out (okd_nn ha) (okd_fin hqo)) (fun r A2 hro h3 => ?_)
      rw [iN_1]
      exact n_sumA hW hM hx hy (by omega) hi hj hxy (fun r s' A' => kk2 rfl r s' A') n (k + 1) fu r s A2 (by omega) (by omega) (by omega) hro h3
end CMT
