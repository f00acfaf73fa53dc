theorem fq_div {s t : Bool} {c d : Nat} {q r : Int} {n m : Nat} (hm : 0 < m) (hc : c * 2 ^ q.toNat = n * 2 ^ (-q).toNat) (hd : d * 2 ^ r.toNat = m * 2 ^ (-r).toNat) :
    FP.Core.quotient FP.Core.b64 (.fin s c q) (.fin t d r) = FP.Core.roundRatio FP.Core.b64 (s != t) n m 0 := by
  have hd0 : d ≠ 0 := by
    intro e
    rw [e, Nat.zero_mul] at hd
    have := Nat.mul_pos hm (Nat.two_pow_pos (-r).toNat)
    omega
  show (if d = 0 then _ else FP.Core.roundRatio FP.Core.b64 (s != t) c d (q - r)) = _
  rw [if_neg hd0]
  refine FP.Core.roundRatio_congr (Nat.pos_of_ne_zero hd0) hm ?_
  have h1 : c * m * 2 ^ (q.toNat + (-r).toNat) = n * d * 2 ^ ((-q).toNat + r.toNat) := by
    calc c * m * 2 ^ (q.toNat + (-r).toNat) = (c * 2 ^ q.toNat) * (m * 2 ^ (-r).toNat) := by rw [Nat.pow_add]; ac_rfl
      _ = (n * 2 ^ (-q).toNat) * (d * 2 ^ r.toNat) := by rw [hc, hd]
      _ = n * d * 2 ^ ((-q).toNat + r.toNat) := by rw [Nat.pow_add]; ac_rfl
  refine Nat.eq_of_mul_eq_mul_right (Nat.two_pow_pos (q.toNat + (-r).toNat)) ?_
  calc c * m * 2 ^ (q - r - 0).toNat * 2 ^ (q.toNat + (-r).toNat) = (c * m * 2 ^ (q.toNat + (-r).toNat)) * 2 ^ (q - r - 0).toNat := by ac_rfl
    _ = n * d * 2 ^ ((-q).toNat + r.toNat) * 2 ^ (q - r - 0).toNat := by rw [h1]
    _ = n * d * 2 ^ ((-q).toNat + r.toNat + (q - r - 0).toNat) := by rw [Nat.mul_assoc, ← Nat.pow_add]
    _ = n * d * 2 ^ ((0 - (q - r)).toNat + (q.toNat + (-r).toNat)) := by rw [show (-q).toNat + r.toNat + (q - r - 0).toNat = (0 - (q - r)).toNat + (q.toNat + (-r).toNat) by omega]
    _ = n * d * 2 ^ (0 - (q - r)).toNat * 2 ^ (q.toNat + (-r).toNat) := by rw [Nat.pow_add (n := q.toNat + (-r).toNat), ← Nat.mul_assoc]
theorem fq_val {a b : Int64} (ha : 0 ≤ a.toInt) (hA : a.toInt.natAbs ≤ 2 ^ 53) (hb : 0 < b.toInt) (hB : b.toInt.natAbs ≤ 2 ^ 53) :
    FP.Core.val64 (FP.ddiv (FP.l2d a) (FP.l2d b)) = FP.Core.roundRatio FP.Core.b64 false a.toInt.natAbs b.toInt.natAbs 0 := by
  obtain ⟨c, q, h1⟩ := FP.Core.l2d_shape a
  obtain ⟨d, r, h2⟩ := FP.Core.l2d_shape b
  have w1 := FP.Core.l2d_int hA
  have w2 := FP.Core.l2d_int hB
  unfold FP.Core.DInt at w1 w2
  rw [show FP.ddiv (FP.l2d a) (FP.l2d b) = FP.Core.ddiv (FP.Core.l2d a) (FP.Core.l2d b) from rfl, FP.Core.val64_ddiv]
  rw [h1] at w1 ⊢
  rw [h2] at w2 ⊢
  rw [fq_div (n := a.toInt.natAbs) (m := b.toInt.natAbs) (by omega) (FP.Core.whole_natAbs w1) (FP.Core.whole_natAbs w2)]
  rw [show decide (a.toInt < 0) = false from decide_eq_false (by omega), show decide (b.toInt < 0) = false from decide_eq_false (by omega)]
  rfl
theorem fq_same {a b c d : Int64} (ha : 0 ≤ a.toInt) (hA : a.toInt.natAbs ≤ 2 ^ 53) (hb : 0 < b.toInt) (hB : b.toInt.natAbs ≤ 2 ^ 53)
    (hc : 0 ≤ c.toInt) (hC : c.toInt.natAbs ≤ 2 ^ 53) (hd : 0 < d.toInt) (hD : d.toInt.natAbs ≤ 2 ^ 53)
    (h : a.toInt.natAbs * d.toInt.natAbs = c.toInt.natAbs * b.toInt.natAbs) :
    FP.ddiv (FP.l2d a) (FP.l2d b) = FP.ddiv (FP.l2d c) (FP.l2d d) := by
  refine FP.Core.val64_inj ?_ ?_
  · rw [fq_val ha hA hb hB]; exact FP.Core.roundRatio_ne_nan _ _ _ _ _
  · rw [fq_val ha hA hb hB, fq_val hc hC hd hD]
    refine FP.Core.roundRatio_congr (by omega) (by omega) ?_
    rw [Int.sub_self]; exact congrArg (· * 2 ^ (0 : Int).toNat) h
/-- What stands for 10 to the k. -/
def tnF : Nat → UInt64
  | 0 => FP.dconst1
  | k + 1 => FP.dmul (tnF k) 4621819117588971520
theorem tnF_0 : tnF 0 = FP.l2d 1 := by decide +kernel
theorem tnF_1 : tnF 1 = FP.l2d 10 := by decide +kernel
theorem tnF_2 : tnF 2 = FP.l2d 100 := by decide +kernel
theorem tnF_3 : tnF 3 = FP.l2d 1000 := by decide +kernel
theorem fz_1000 : (4652007308841189376 : UInt64) = FP.l2d 1000 := by decide +kernel
def th64 (n : Nat) : Int64 := (iN n).toInt64
theorem th64_toInt {n : Nat} (h : n < 2147483648) : (th64 n).toInt = n := by
  unfold th64
  rw [Int32.toInt_toInt64, iN_toInt h]
theorem fz_i2d (n : Nat) : FP.i2d (iN n) = FP.l2d (th64 n) := FP.Core.i2d_l2d (iN n)
theorem nm_eq (v k : Nat) (hv : v * 10 ^ (3 - k) < 1000000000) (hk : k ≤ 3) :
    FP.ddiv (FP.i2d (iN (v * 10 ^ (3 - k)))) 4652007308841189376 = FP.ddiv (FP.i2d (iN v)) (tnF k) := by
  rw [fz_1000, fz_i2d, fz_i2d]
  have hv1 : v * 10 ^ (3 - k) < 2147483648 := by omega
  have hv2 : v ≤ v * 10 ^ (3 - k) := Nat.le_mul_of_pos_right v (Nat.pow_pos (by decide))
  have e1 := th64_toInt hv1
  have e2 := th64_toInt (n := v) (by omega)
  have fin : ∀ d : Int64, tnF k = FP.l2d d → d.toInt = 10 ^ k → FP.ddiv (FP.l2d (th64 (v * 10 ^ (3 - k)))) (FP.l2d 1000) = FP.ddiv (FP.l2d (th64 v)) (tnF k) := by
    intro d hd hD
    have hp : (10:Nat) ^ k ≤ 10 ^ 3 := Nat.pow_le_pow_right (by decide) hk
    have hp0 : 0 < (10:Nat) ^ k := Nat.pow_pos (by decide)
    have hD' : d.toInt = ((10 ^ k : Nat) : Int) := by rw [hD]; simp
    have hK : (1000 : Int64).toInt = 1000 := by decide
    rw [hd]
    refine fq_same (by rw [e1]; omega) (by rw [e1]; omega) (by rw [hK]; decide) (by rw [hK]; decide) (by rw [e2]; omega) (by rw [e2]; omega) (by rw [hD']; omega) (by rw [hD']; omega) ?_
    rw [e1, e2, hD', hK]
    show v * 10 ^ (3 - k) * 10 ^ k = v * 1000
    rw [Nat.mul_assoc, ← Nat.pow_add, show 3 - k + k = 3 by omega]
  have hk' : k = 0 ∨ k = 1 ∨ k = 2 ∨ k = 3 := by omega
  rcases hk' with e | e | e | e
  · exact fin 1 (by rw [e]; exact tnF_0) (by rw [e]; decide)
  · exact fin 10 (by rw [e]; exact tnF_1) (by rw [e]; decide)
  · exact fin 100 (by rw [e]; exact tnF_2) (by rw [e]; decide)
  · exact fin 1000 (by rw [e]; exact tnF_3) (by rw [e]; decide)
theorem okd_mag {x : UInt64} (h : x.toNat % 2 ^ 63 ≤ 1083 * 2 ^ 52) : okd x := h
theorem okd_l2d {v : Int64} (h : v.toInt.natAbs ≤ 2 ^ 60) : okd (FP.l2d v) :=
  okd_mag (FP.Core.fromInt_mag (FP.Core.toNat_l2d v) h (by decide) (by decide))
theorem okd_i2d (v : Int32) : okd (FP.i2d v) := by
  rw [show FP.i2d v = FP.l2d v.toInt64 from FP.Core.i2d_l2d v]
  refine okd_l2d ?_
  rw [Int32.toInt_toInt64]
  have h1 := v.le_toInt
  have h2 := v.toInt_lt
  omega
theorem okd_thou (v : Int32) : okd (FP.ddiv (FP.i2d v) 4652007308841189376) := by
  have h : (FP.i2d v).toNat % 2 ^ 63 ≤ 1054 * 2 ^ 52 := by
    rw [show FP.i2d v = FP.l2d v.toInt64 from FP.Core.i2d_l2d v]
    refine FP.Core.fromInt_mag (FP.Core.toNat_l2d _) (j := 31) ?_ (by decide) (by decide)
    rw [Int32.toInt_toInt64]
    have h1 := v.le_toInt
    have h2 := v.toInt_lt
    omega
  have h2 := FP.Core.ddiv_mag (a := FP.i2d v) (b := 4652007308841189376) (K := 1055) (L := 1032) (Nat.lt_of_le_of_lt h (by decide)) (by decide +kernel) (by decide +kernel) (by decide) (by decide)
  exact okd_mag (Nat.le_trans (Nat.le_of_lt h2) (by decide))
theorem fz_nz1000 : ¬ FP.Core.DZero 4652007308841189376 := by
  rw [FP.Core.zero_bits2]; decide +kernel
theorem okd_1000 : okd 4652007308841189376 := by show _ ≤ _; decide +kernel
theorem vfn_thou (v : Int32) : vf_n64 (FP.ddiv (FP.i2d v) 4652007308841189376) := vfn_div (okd_i2d v) okd_1000 fz_nz1000
/-- A datum below zero. -/
theorem nm_neg (v : Int32) (h : -2147483648 < v.toInt) : dz (FP.ddiv (FP.i2d (-v)) 4652007308841189376) (FP.dneg (FP.ddiv (FP.i2d v) 4652007308841189376)) := by
  by_cases e : v = 0
  · rw [e]
    exact Or.inr ⟨(FP.Core.zero_bits2 _).mpr (by decide +kernel), (FP.Core.zero_bits2 _).mpr (by decide +kernel)⟩
  · refine Or.inl ?_
    rw [fz_dneg (okd_nn (okd_thou v))]
    rw [show FP.i2d (-v) = FP.Core.dneg (FP.i2d v) from ?_]
    · exact FP.Core.ddiv_dneg _ _
    · rw [show FP.i2d (-v) = FP.Core.l2d (-v).toInt64 from FP.Core.i2d_l2d _, show FP.i2d v = FP.Core.l2d v.toInt64 from FP.Core.i2d_l2d v]
      have h2 := v.toInt_lt
      have e1 : (-v).toInt64 = -(v.toInt64) := by
        refine Int64.toInt.inj ?_
        rw [Int32.toInt_toInt64, FP.Core.int64_neg (by rw [Int32.toInt_toInt64]; omega), Int32.toInt_toInt64, Int32.toInt_neg]
        rw [Int.bmod_eq_of_le (by omega) (by omega)]
      rw [e1]
      have h3 : v.toInt64 ≠ 0 := by
        intro q
        apply e
        refine Int32.toInt.inj ?_
        have := congrArg Int64.toInt q
        rw [Int32.toInt_toInt64] at this
        exact this
      have h4 := FP.dneg_core (a := FP.Core.l2d v.toInt64) (FP.Core.l2d_notNaN _)
      exact FP.Core.l2d_neg h3 (by rw [Int32.toInt_toInt64]; omega)
/-- How far a whole part goes. -/
theorem okd_units {x : UInt64} (h : okd x) : FP.Core.zmag FP.Core.b64 (FP.Core.val64 x) ≤ 2 ^ 60 * FP.Core.one64 := by
  rw [FP.Core.zmag_bits (okd_fin h).ne_nan]
  have h1 : FP.Core.unitsOf FP.Core.b64 (x.toNat % 2 ^ 63) ≤ FP.Core.unitsOf FP.Core.b64 4877398396442247168 := FP.Core.unitsOf_le_iff.mpr h
  rw [show FP.Core.unitsOf FP.Core.b64 4877398396442247168 = 2 ^ 60 * FP.Core.one64 by decide +kernel] at h1
  exact h1
theorem fz_sabs (s : Bool) (m : Nat) : (FP.Core.signed s m).natAbs = m := FP.Core.natAbs_signed s m
theorem fz_d2l {x : UInt64} (h : okd x) : (FP.d2l x).toInt.natAbs ≤ 2 ^ 60 := by
  have h1 : FP.Core.zmag FP.Core.b64 (FP.Core.val64 x) / FP.Core.one64 ≤ 2 ^ 60 := Nat.div_le_of_le_mul (by rw [Nat.mul_comm]; exact okd_units h)
  have h2 := FP.Core.natAbs_signed (FP.Core.sgn (FP.Core.val64 x)) (FP.Core.zmag FP.Core.b64 (FP.Core.val64 x) / FP.Core.one64)
  rw [show FP.d2l x = FP.Core.d2l x from rfl, FP.Core.d2l_val (okd_fin h).ne_nan]
  omega
theorem okd_fl {x : UInt64} (h : okd x) : okd (flF x) := by
  have hb := fz_d2l h
  unfold flF
  by_cases e : FP.Core.dkey (FP.l2d (FP.d2l x)) ≤ FP.Core.dkey x
  · rw [if_pos e]; exact okd_l2d hb
  · rw [if_neg e]
    have hs : (FP.d2l x - 1).toInt = (FP.d2l x).toInt - 1 := FP.Core.int64_sub (by rw [show (1:Int64).toInt = 1 by decide]; omega) (by rw [show (1:Int64).toInt = 1 by decide]; omega)
    by_cases g : (FP.d2l x).toInt = -2 ^ 60
    · have : FP.d2l x - 1 = -1152921504606846977 := by
        refine Int64.toInt.inj ?_
        rw [hs, g]; decide
      rw [this]
      show _ ≤ _
      decide +kernel
    · refine okd_l2d ?_
      rw [hs]; omega
theorem fz_k20 : FP.Core.dkey 4626322717216342016 = 4626322717216342016 := by decide +kernel
theorem fz_km20 : FP.Core.dkey 13849694754071117824 = -4626322717216342016 := by decide +kernel
/-- Small exponents: as an int and as a long they're the same number. -/
theorem fz_small {y : UInt64} (h1 : ¬ FP.Core.dkey y < FP.Core.dkey 13849694754071117824) (h2 : ¬ FP.Core.dkey 4626322717216342016 < FP.Core.dkey y) :
    (FP.d2l y) = (FP.d2i y).toInt64 ∧ (FP.d2i y).toInt.natAbs ≤ 20 := by
  rw [fz_km20] at h1
  rw [fz_k20] at h2
  have hm : y.toNat % 2 ^ 63 ≤ 4626322717216342016 := by
    have h3 := y.toNat_lt
    unfold FP.Core.dkey at h1 h2
    by_cases h : 2 ^ 63 ≤ y.toNat
    · rw [if_pos h] at h1 h2; omega
    · rw [if_neg h] at h1 h2; omega
  have hk : okd y := Nat.le_trans hm (by decide)
  have hz : FP.Core.zmag FP.Core.b64 (FP.Core.val64 y) ≤ 20 * FP.Core.one64 := by
    rw [FP.Core.zmag_bits (okd_fin hk).ne_nan]
    have h1 : FP.Core.unitsOf FP.Core.b64 (y.toNat % 2 ^ 63) ≤ FP.Core.unitsOf FP.Core.b64 4626322717216342016 := FP.Core.unitsOf_le_iff.mpr hm
    rw [show FP.Core.unitsOf FP.Core.b64 4626322717216342016 = 20 * FP.Core.one64 by decide +kernel] at h1
    exact h1
  have hd : FP.Core.zmag FP.Core.b64 (FP.Core.val64 y) / FP.Core.one64 ≤ 20 := Nat.div_le_of_le_mul (by rw [Nat.mul_comm]; exact hz)
  have hs := FP.Core.natAbs_signed (FP.Core.sgn (FP.Core.val64 y)) (FP.Core.zmag FP.Core.b64 (FP.Core.val64 y) / FP.Core.one64)
  have e1 := FP.Core.d2l_val (okd_fin hk).ne_nan
  have e2 := FP.Core.d2i_val (okd_fin hk).ne_nan
  constructor
  · refine Int64.toInt.inj ?_
    rw [Int32.toInt_toInt64]
    show (FP.Core.d2l y).toInt = (FP.Core.d2i y).toInt
    rw [e1, e2]; omega
  · show (FP.Core.d2i y).toInt.natAbs ≤ 20
    rw [e2]; omega
theorem fz_whole {y : UInt64} (h1 : ¬ FP.Core.dkey y < FP.Core.dkey 13849694754071117824) (h2 : ¬ FP.Core.dkey 4626322717216342016 < FP.Core.dkey y) :
    FP.l2d (FP.d2l y) = FP.i2d (FP.d2i y) := by
  rw [(fz_small h1 h2).1]; exact (FP.Core.i2d_l2d _).symm
