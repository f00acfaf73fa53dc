theorem fz_zcases {z : UInt64} (h : FP.Core.DZero z) : z = 0 ∨ z = 9223372036854775808 := FP.Core.zero_bits (FP.Core.zero_iff.mpr h)
def dz (x y : UInt64) : Prop := x = y ∨ (FP.Core.DZero x ∧ FP.Core.DZero y)
def okd (x : UInt64) : Prop := x.toNat % 2 ^ 63 ≤ 4877398396442247168
theorem okd_fin {x : UInt64} (h : okd x) : FP.Core.DFin x := (FP.Core.fin_bits x).mpr (Nat.lt_of_le_of_lt h (by decide))
theorem okd_nn {x : UInt64} (h : okd x) : FP.Core.dIsNaN x = false := (okd_fin h).notNaN
theorem dz_rfl (x : UInt64) : dz x x := Or.inl rfl
theorem dz_sym {x y : UInt64} (h : dz x y) : dz y x := h.elim (fun e => Or.inl e.symm) (fun e => Or.inr ⟨e.2, e.1⟩)
theorem dz_trans {x y z : UInt64} (h : dz x y) (k : dz y z) : dz x z := by
  rcases h with h | h
  · rw [h]; exact k
  · rcases k with k | k
    · rw [← k]; exact Or.inr h
    · exact Or.inr ⟨h.1, k.2⟩
theorem fz_okd {z : UInt64} (h : FP.Core.DZero z) : okd z := by
  show z.toNat % 2 ^ 63 ≤ _
  rw [(FP.Core.zero_bits2 z).mp h]; decide
theorem dz_okd {x y : UInt64} (h : dz x y) (k : okd x) : okd y := by
  rcases h with h | h
  · rw [← h]; exact k
  · exact fz_okd h.2
theorem fz_zero : FP.Core.DZero 0 := (FP.Core.zero_bits2 0).mpr (by decide)
theorem fz_nzero : FP.Core.DZero 9223372036854775808 := (FP.Core.zero_bits2 _).mpr (by decide)
theorem vfn_of {x : UInt64} (h : FP.Core.dIsNaN x = false) : vf_n64 x := by
  have h1 := (FP.Core.ne_nan x).mp ((FP.Core.notNaN_iff x).mp h)
  show x &&& 0x7fffffffffffffff ≤ 0x7ff0000000000000
  rw [UInt64.le_iff_toNat_le, UInt64.toNat_and, show (0x7fffffffffffffff : UInt64).toNat = 2 ^ 63 - 1 from rfl, Nat.and_two_pow_sub_one_eq_mod]
  exact h1
theorem fz_dneg {x : UInt64} (h : FP.Core.dIsNaN x = false) : FP.dneg x = FP.Core.dneg x := FP.dneg_core h
theorem fz_negm (x : UInt64) : (FP.dneg x).toNat % 2 ^ 63 = x.toNat % 2 ^ 63 := by
  have hx : (FP.dneg x).toNat = x.toNat ^^^ 2 ^ 63 := by
    unfold FP.dneg; rw [UInt64.toNat_xor]; rfl
  rw [hx, Nat.xor_mod_two_pow, Nat.mod_self, Nat.xor_zero]
theorem okd_neg {x : UInt64} (h : okd x) : okd (FP.dneg x) := by
  show _ ≤ _
  rw [fz_negm]; exact h
theorem fz_negz {x : UInt64} (h : FP.Core.DZero x) : FP.Core.DZero (FP.dneg x) := by
  rw [FP.Core.zero_bits2, fz_negm, ← FP.Core.zero_bits2]; exact h
theorem dz_neg {x y : UInt64} (h : dz x y) : dz (FP.dneg x) (FP.dneg y) := by
  rcases h with h | h
  · exact Or.inl (by rw [h])
  · exact Or.inr ⟨fz_negz h.1, fz_negz h.2⟩
/-- Adding a zero. -/
theorem fz_addz {a z : UInt64} (ha : okd a) (hz : FP.Core.DZero z) : dz (FP.dadd a z) a := by
  have hn := (okd_fin ha).ne_nan
  rcases fz_zcases hz with e | e
  · by_cases h : a = FP.Core.dzeroNeg
    · rw [h, e]
      exact Or.inr ⟨(FP.Core.zero_bits2 _).mpr (by decide +kernel), (FP.Core.zero_bits2 _).mpr (by decide +kernel)⟩
    · rw [e]; exact Or.inl (FP.Core.dadd_zero hn h)
  · rw [e]; exact Or.inl (FP.Core.dadd_zeroNeg hn)
theorem fz_zadd {a z : UInt64} (ha : okd a) (hz : FP.Core.DZero z) : dz (FP.dadd z a) a := by
  rw [show FP.dadd z a = FP.dadd a z from FP.Core.dadd_comm z a]; exact fz_addz ha hz
theorem dz_add1 {a b c : UInt64} (ha : okd a) (hc : okd c) (h : dz a b) : dz (FP.dadd a c) (FP.dadd b c) := by
  rcases h with h | h
  · rw [h]; exact dz_rfl _
  · exact dz_trans (fz_zadd hc h.1) (dz_sym (fz_zadd hc h.2))
theorem dz_add {a b c d : UInt64} (ha : okd a) (hc : okd c) (h : dz a b) (k : dz c d) : dz (FP.dadd a c) (FP.dadd b d) := by
  refine dz_trans (dz_add1 ha hc h) ?_
  rw [show FP.dadd b c = FP.dadd c b from FP.Core.dadd_comm b c, show FP.dadd b d = FP.dadd d b from FP.Core.dadd_comm b d]
  exact dz_add1 hc (dz_okd h ha) k
theorem fz_sub {a b : UInt64} (hb : okd b) : FP.dsub a b = FP.dadd a (FP.dneg b) := by
  rw [fz_dneg (okd_nn hb)]; exact FP.Core.dsub_eq a b
theorem dz_sub {a b c d : UInt64} (ha : okd a) (hc : okd c) (h : dz a b) (k : dz c d) : dz (FP.dsub a c) (FP.dsub b d) := by
  rw [fz_sub hc, fz_sub (dz_okd k hc)]; exact dz_add ha (okd_neg hc) h (dz_neg k)
theorem dz_mul {a b c d : UInt64} (ha : okd a) (hc : okd c) (h : dz a b) (k : dz c d) : dz (FP.dmul a c) (FP.dmul b d) := by
  have fb := okd_fin (dz_okd h ha)
  have fd := okd_fin (dz_okd k hc)
  rcases h with h | h
  · rcases k with k | k
    · rw [h, k]; exact dz_rfl _
    · exact Or.inr ⟨FP.Core.dmul_zero (okd_fin ha) k.1, FP.Core.dmul_zero fb k.2⟩
  · exact Or.inr ⟨FP.Core.dzero_mul (okd_fin hc) h.1, FP.Core.dzero_mul fd h.2⟩
theorem fz_divz {z c : UInt64} (hz : FP.Core.DZero z) (hc : FP.Core.DFin c) (hn : ¬ FP.Core.DZero c) : FP.Core.DZero (FP.ddiv z c) := by
  obtain ⟨s, q, hz⟩ := hz
  obtain ⟨t, d, r, hc⟩ := hc
  refine ⟨s != t, FP.Core.b64.qmin, ?_⟩
  rw [show FP.ddiv z c = FP.Core.ddiv z c from rfl, FP.Core.val64_ddiv, hz, hc]
  have hd : d ≠ 0 := fun e => hn ⟨t, r, by rw [hc, e]⟩
  show (if d = 0 then _ else FP.Core.roundRatio FP.Core.b64 (s != t) 0 d (q - r)) = _
  rw [if_neg hd]
  unfold FP.Core.roundRatio
  rw [if_pos rfl]
theorem dz_div {a b c d : UInt64} (ha : okd a) (hc : okd c) (hn : ¬ FP.Core.DZero c) (h : dz a b) (k : dz c d) : dz (FP.ddiv a c) (FP.ddiv b d) := by
  rcases k with k | k
  · rw [← k]
    rcases h with h | h
    · rw [h]; exact dz_rfl _
    · exact Or.inr ⟨fz_divz h.1 (okd_fin hc) hn, fz_divz h.2 (okd_fin hc) hn⟩
  · exact absurd k.1 hn
theorem dz_zero {a b : UInt64} (h : dz a b) : FP.Core.DZero a ↔ FP.Core.DZero b := by
  rcases h with h | h
  · rw [h]
  · exact ⟨fun _ => h.2, fun _ => h.1⟩
theorem fz_ck {a b : UInt64} (ha : okd a) (hb : okd b) : FP.dcmp a b = some (compare (FP.Core.dkey a) (FP.Core.dkey b)) :=
  FP.Core.dcmp_key (okd_fin ha).ne_nan (okd_fin hb).ne_nan
theorem fz_kz {z : UInt64} (h : FP.Core.DZero z) : FP.Core.dkey z = 0 := by
  rcases fz_zcases h with e | e <;> rw [e] <;> decide +kernel
theorem dz_key {a b : UInt64} (h : dz a b) : FP.Core.dkey a = FP.Core.dkey b := by
  rcases h with h | h
  · rw [h]
  · rw [fz_kz h.1, fz_kz h.2]
theorem dz_cmp {a b c d : UInt64} (ha : okd a) (hc : okd c) (h : dz a b) (k : dz c d) : FP.dcmp a c = FP.dcmp b d := by
  rw [fz_ck ha hc, fz_ck (dz_okd h ha) (dz_okd k hc), dz_key h, dz_key k]
theorem dz_d2l {a b : UInt64} (h : dz a b) : FP.d2l a = FP.d2l b := by
  rcases h with h | h
  · rw [h]
  · rcases fz_zcases h.1 with e | e <;> rcases fz_zcases h.2 with f | f <;> rw [e, f] <;> decide +kernel
theorem dz_d2i {a b : UInt64} (h : dz a b) : FP.d2i a = FP.d2i b := by
  rcases h with h | h
  · rw [h]
  · rcases fz_zcases h.1 with e | e <;> rcases fz_zcases h.2 with f | f <;> rw [e, f] <;> decide +kernel
/-- What the operations' rows ask: no NaN comes out. -/
theorem vfn_add {a b : UInt64} (ha : okd a) (hb : okd b) : vf_n64 (FP.dadd a b) := vfn_of (FP.Core.dadd_out (okd_nn ha) (okd_fin hb))
theorem vfn_sub {a b : UInt64} (ha : okd a) (hb : okd b) : vf_n64 (FP.dsub a b) := vfn_of (FP.Core.dsub_out (okd_nn ha) (okd_fin hb))
theorem vfn_mul {a b : UInt64} (ha : okd a) (hb : okd b) : vf_n64 (FP.dmul a b) := vfn_of (FP.Core.dmul_out (okd_fin ha) (okd_fin hb))
theorem vfn_div {a b : UInt64} (ha : okd a) (hb : okd b) (hz : ¬ FP.Core.DZero b) : vf_n64 (FP.ddiv a b) := vfn_of (FP.Core.ddiv_out (okd_nn ha) (okd_fin hb) hz)
