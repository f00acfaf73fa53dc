/-- what an operation's answer owes: a value, or fault 4 and any value -/
def oKF (A0 : Mem) (va : Nat → UInt64) (s : List UInt64) (f : Nat) (o : Option UInt64) (K : UInt64 → Mem → Prop) : Prop :=
  (∀ r, o = some r → ∀ A', okd r → EvS A0 va s 0 A' → K r A') ∧ (o = none → ∀ r A', okd r → EvS A0 va s f A' → K r A')
section EV2
variable {A0 A : Mem} {va : Nat → UInt64} {s : List UInt64} {ft : Nat}
theorem n_resX {K : UInt64 → Mem → Prop} {x : UInt64} (hx : FP.Core.dIsNaN x = false) (h1 : okd x → K x A) (h2 : ¬ okd x → wp_Ca_result_c16 K 8 A) : wp_Ca_result 8 x A K := by
  unfold wp_Ca_result
  rw [fk_hi hx, fk_lo hx]
  have e := okd_key x
  exact ⟨fun h => h2 (fun q => by have := (e.mp q).1; omega), fun h => ⟨fun h' => h1 (e.mpr ⟨by omega, h'⟩), fun h' => h2 (fun q => h' (e.mp q).2)⟩⟩
theorem n_result {K : UInt64 → Mem → Prop} {x : UInt64} (h : EvS A0 va s 0 A) (hx : FP.Core.dIsNaN x = false) (k : oKF A0 va s 4 (kpF x) K) : wp_Ca_result 8 x A K := by
  refine n_resX hx (fun ho => k.1 x (kpF_ok ho) A ho h) (fun ho => ?_)
  unfold wp_Ca_result_c16
  rw [h.2.1.2.1]
  exact ⟨rfl, Or.inr (Or.inr ⟨by omega, by omega⟩), fun h' => absurd rfl h', fun _ => k.2 (kpF_no ho) _ _ okd_0 (EvS_fail h (f := 4) (by omega))⟩
theorem n_resultA {K : UInt64 → Mem → Prop} {x : UInt64} (h : EvS A0 va s ft A) (h0 : ft ≠ 0) (hx : FP.Core.dIsNaN x = false) (k : ∀ r A', okd r → EvS A0 va s ft A' → K r A') : wp_Ca_result 8 x A K := by
  refine n_resX hx (fun ho => k x A ho h) (fun ho => ?_)
  unfold wp_Ca_result_c16
  have h3 := h.2.1.2.2
  rw [h.2.1.2.1]
  refine ⟨rfl, Or.inr (Or.inr ⟨by omega, by omega⟩), fun _ => k _ _ okd_0 (EvS_fail h h3), fun h' => by omega⟩
theorem n_quotient {K : UInt64 → Mem → Prop} {x y : UInt64} (h : EvS A0 va s 0 A) (hx : okd x) (hy : okd y) (k : oKF A0 va s 4 (dvF x y) K) : wp_Ca_quotient 8 x y A K := by
  unfold wp_Ca_quotient
  rw [fk_0eq hy, fk_zero]
  unfold dvF at k
  refine ⟨fun hz => ?_, fun hz => ?_⟩
  · rw [if_neg hz] at k
    have hz' : ¬ FP.Core.DZero y := fun q => hz ((fk_zero y).mp q)
    exact ⟨vfn_div hx hy hz', rfl, n_result h (FP.Core.ddiv_out (okd_nn hx) (okd_fin hy) hz') k⟩
  · rw [if_pos hz] at k
    exact ⟨rfl, n_fail h (f := 4) (by omega) (fun A' h' => k.2 rfl _ _ okd_0 h')⟩
theorem fz_nn20 : FP.Core.dIsNaN 4626322717216342016 = false := by decide +kernel
theorem fz_nnm20 : FP.Core.dIsNaN 13849694754071117824 = false := by decide +kernel
theorem n_powEA {K : UInt64 → Mem → Prop} {y a : UInt64} (h : EvS A0 va s ft A) (h0 : ft ≠ 0) (hy : okd y) (ha : okd a) (k : ∀ r A', okd r → EvS A0 va s ft A' → K r A') (hz : ¬ 0 ≤ FP.Core.dkey y → ¬ FP.Core.DZero a) : wp_Ca_power_c91 K 8 y a A := by
  unfold wp_Ca_power_c91
  rw [fk_0nn hy]
  refine ⟨fun _ => k a A ha h, fun hn => ⟨vfn_div okd_1 ha (hz hn), rfl, ?_⟩⟩
  exact n_resultA h h0 (FP.Core.ddiv_out (okd_nn okd_1) (okd_fin ha) (hz hn)) k
theorem n_powA {K : UInt64 → Mem → Prop} {x y : UInt64} {N : Nat} (h0 : ft ≠ 0) (hx : okd x) (hy : okd y) (hN : N ≤ 20) (k : ∀ r A', okd r → EvS A0 va s ft A' → K r A') :
    ∀ (j i fu : Nat) (a : UInt64) (A : Mem), i + j = N → j < fu → okd a → EvS A0 va s ft A → wp_Ca_power_c46 K fu 8 x y (iN N) a (iN i) A := by
  intro j
  induction j with
  | zero =>
    intro i fu a A hi hfu ha h
    obtain ⟨fu, rfl⟩ : ∃ g, fu = g + 1 := ⟨fu - 1, by omega⟩
    unfold wp_Ca_power_c46
    rw [iN_le (by omega) (by omega), fk_0nn hy, fk_0eq ha]
    refine ⟨fun _ => ⟨fun hn => n_powEA h h0 hy ha k (fun q => absurd hn q), fun hn => ⟨fun hz => n_powEA h h0 hy ha k (fun _ => hz), fun hz => ⟨rfl, n_failA h h0 (fun A' h' => k _ A' okd_0 h')⟩⟩⟩, fun h' => by omega⟩
  | succ j ih =>
    intro i fu a A hi hfu ha h
    obtain ⟨fu, rfl⟩ : ∃ g, fu = g + 1 := ⟨fu - 1, by omega⟩
    unfold wp_Ca_power_c46
    rw [iN_le (by omega) (by omega), iN_1]
    refine ⟨fun h' => by omega, fun _ => ⟨vfn_mul ha hx, rfl, ?_⟩⟩
    exact n_resultA h h0 (FP.Core.dmul_out (okd_fin ha) (okd_fin hx)) (fun r A' hr h' => ih (i + 1) fu r A' (by omega) (by omega) hr h')
theorem n_powL {K : UInt64 → Mem → Prop} {x y : UInt64} {N : Nat} (hx : okd x) (hy : okd y) (hN : N ≤ 20) :
    ∀ (j i fu : Nat) (a : UInt64) (A : Mem), i + j = N → j < fu → okd a → EvS A0 va s 0 A → oKF A0 va s 4 ((pwL x j a).bind (pwE y)) K → wp_Ca_power_c46 K fu 8 x y (iN N) a (iN i) A := by
  intro j
  induction j with
  | zero =>
    intro i fu a A hi hfu ha h k
    obtain ⟨fu, rfl⟩ : ∃ g, fu = g + 1 := ⟨fu - 1, by omega⟩
    unfold wp_Ca_power_c46
    rw [iN_le (by omega) (by omega), fk_0nn hy, fk_0eq ha]
    have k' : oKF A0 va s 4 (pwE y a) K := k
    unfold pwE at k'
    refine ⟨fun _ => ⟨fun hn => ?_, fun hn => ?_⟩, fun h' => by omega⟩
    · rw [if_pos hn] at k'
      unfold wp_Ca_power_c91
      rw [fk_0nn hy]
      exact ⟨fun _ => k'.1 a rfl A ha h, fun q => absurd hn q⟩
    · rw [if_neg hn] at k'
      unfold dvF at k'
      refine ⟨fun hz => ?_, fun hz => ?_⟩
      · rw [if_neg (fun q => hz ((fk_zero a).mpr q))] at k'
        unfold wp_Ca_power_c91
        rw [fk_0nn hy]
        exact ⟨fun q => absurd q hn, fun _ => ⟨vfn_div okd_1 ha hz, rfl, n_result h (FP.Core.ddiv_out (okd_nn okd_1) (okd_fin ha) hz) k'⟩⟩
      · rw [if_pos ((fk_zero a).mp hz)] at k'
        exact ⟨rfl, n_fail h (f := 4) (by omega) (fun A' h' => k'.2 rfl _ _ okd_0 h')⟩
  | succ j ih =>
    intro i fu a A hi hfu ha h k
    obtain ⟨fu, rfl⟩ : ∃ g, fu = g + 1 := ⟨fu - 1, by omega⟩
    unfold wp_Ca_power_c46
    rw [iN_le (by omega) (by omega), iN_1]
    refine ⟨fun h' => by omega, fun _ => ⟨vfn_mul ha hx, rfl, ?_⟩⟩
    refine n_result h (FP.Core.dmul_out (okd_fin ha) (okd_fin hx)) ⟨fun r hr A' hro h' => ?_, fun hr r A' hro h' => ?_⟩
    · refine ih (i + 1) fu r A' (by omega) (by omega) hro h' ?_
      rw [show pwL x (j + 1) a = (kpF (FP.dmul a x)).bind (pwL x j) from rfl, hr] at k
      exact k
    · refine n_powA (by omega) hx hy hN (fun q B hq hB => k.2 ?_ q B hq hB) j (i + 1) fu r A' (by omega) (by omega) hro h'
      rw [show pwL x (j + 1) a = (kpF (FP.dmul a x)).bind (pwL x j) from rfl, hr]
      rfl
theorem fz_abs {v : Int32} (h : v.toInt.natAbs ≤ 20) : (if 0 ≤ v then v else 0 - v) = iN v.toInt.natAbs := by
  by_cases h0 : 0 ≤ v
  · rw [if_pos h0]
    have h1 := Int32.le_iff_toInt_le.mp h0
    rw [show (0 : Int32).toInt = 0 from rfl] at h1
    refine Int32.toInt.inj ?_
    rw [iN_toInt (by omega)]; omega
  · rw [if_neg h0]
    have h1 : ¬ (0 : Int) ≤ v.toInt := fun q => h0 (Int32.le_iff_toInt_le.mpr q)
    refine Int32.toInt.inj ?_
    rw [iN_toInt (by omega), Int32.toInt_sub, show (0 : Int32).toInt = 0 from rfl, Int.bmod_eq_of_le (by omega) (by omega)]; omega
theorem n_power {K : UInt64 → Mem → Prop} {x y : UInt64} (h : EvS A0 va s 0 A) (hx : okd x) (hy : okd y) (k : oKF A0 va s 4 (pwF x y) K) : wp_Ca_power 8 x y A K := by
  unfold wp_Ca_power
  rw [fk_neg (okd_nn hy) fz_nnm20, fk_pos (okd_nn hy) fz_nn20, fk_eq (okd_nn (okd_i2d _)) (okd_nn hy)]
  unfold pwF at k
  refine ⟨fun h1 => ?_, fun h1 => ⟨fun h2 => ?_, fun h2 => ⟨fun h3 => ?_, fun h3 => ?_⟩⟩⟩
  · rw [if_pos h1] at k
    exact ⟨rfl, n_fail h (f := 4) (by omega) (fun A' h' => k.2 rfl _ _ okd_0 h')⟩
  · rw [if_neg h1, if_pos h2] at k
    exact ⟨rfl, n_fail h (f := 4) (by omega) (fun A' h' => k.2 rfl _ _ okd_0 h')⟩
  · rw [if_neg h1, if_neg h2, if_pos h3] at k
    have hs := (fz_small h1 h2).2
    rw [fz_abs hs]
    exact ⟨_ + 1, n_powL hx hy hs _ 0 _ _ A (by omega) (Nat.lt_succ_self _) okd_1 h k⟩
  · rw [if_neg h1, if_neg h2, if_neg h3] at k
    exact ⟨rfl, n_fail h (f := 4) (by omega) (fun A' h' => k.2 rfl _ _ okd_0 h')⟩
theorem n_sizeO {K : UInt64 → Mem → Prop} {x : UInt64} (hx : okd x) (k : okd (szF x) → K (szF x) A) : wp_Ca_sizeOf x A K := by
  unfold wp_Ca_sizeOf
  rw [fk_0nn hx]
  have k := k (okd_sz hx)
  unfold szF at k
  exact ⟨fun h => by rw [if_pos h] at k; exact k, fun h => by rw [if_neg h] at k; exact k⟩
theorem n_floorO {K : UInt64 → Mem → Prop} {x : UInt64} (hx : okd x) (k : okd (flF x) → K (flF x) A) : wp_Ca_floorOf x A K := by
  unfold wp_Ca_floorOf
  rw [fk_np (okd_nn (okd_l2d (fz_d2l hx))) (okd_nn hx)]
  have k := k (okd_fl hx)
  unfold flF at k
  exact ⟨fun h => by rw [if_pos h] at k; exact k, fun h => by rw [if_neg h] at k; exact k⟩
theorem n_signO {K : UInt64 → Mem → Prop} {x : UInt64} (hx : okd x) (k : okd (sgF x) → K (sgF x) A) : wp_Ca_signOf x A K := by
  unfold wp_Ca_signOf
  rw [fk_0nn hx, fk_0np hx]
  have k := k (okd_sg x)
  unfold sgF at k
  refine ⟨fun h => ?_, fun h => by rw [if_neg h] at k; exact k⟩
  rw [if_pos h] at k
  exact ⟨fun h => by rw [if_pos h] at k; exact k, fun h => by rw [if_neg h] at k; exact k⟩
end EV2
