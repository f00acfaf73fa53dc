theorem fk_gt {a b : UInt64} (ha : FP.Core.dIsNaN a = false) (hb : FP.Core.dIsNaN b = false) (op : CmpOp) :
    FP.dcmp a b = some (compare (FP.Core.dkey a) (FP.Core.dkey b)) :=
  FP.Core.dcmp_key ((FP.Core.notNaN_iff a).mp ha) ((FP.Core.notNaN_iff b).mp hb)
theorem fk_cases {a b : UInt64} (ha : FP.Core.dIsNaN a = false) (hb : FP.Core.dIsNaN b = false) (op : CmpOp) :
    (FP.Core.dkey a < FP.Core.dkey b ∧ Op.cmpValue (FP.dcmp a b) op = -1) ∨
    (FP.Core.dkey a = FP.Core.dkey b ∧ Op.cmpValue (FP.dcmp a b) op = 0) ∨
    (FP.Core.dkey b < FP.Core.dkey a ∧ Op.cmpValue (FP.dcmp a b) op = 1) := by
  rw [fk_gt ha hb op, FP.Core.compare_ite]
  by_cases h : FP.Core.dkey a < FP.Core.dkey b
  · rw [if_pos h]; exact Or.inl ⟨h, rfl⟩
  · rw [if_neg h]
    by_cases k : FP.Core.dkey a = FP.Core.dkey b
    · rw [if_pos k]; exact Or.inr (Or.inl ⟨k, rfl⟩)
    · rw [if_neg k]; exact Or.inr (Or.inr ⟨by omega, rfl⟩)
theorem fk_pos {a b : UInt64} (ha : FP.Core.dIsNaN a = false) (hb : FP.Core.dIsNaN b = false) {op : CmpOp} :
    0 < Op.cmpValue (FP.dcmp a b) op ↔ FP.Core.dkey b < FP.Core.dkey a := by
  rcases fk_cases ha hb op with ⟨h, e⟩ | ⟨h, e⟩ | ⟨h, e⟩ <;> rw [e]
  · exact ⟨fun x => absurd x (by decide), fun x => by omega⟩
  · exact ⟨fun x => absurd x (by decide), fun x => by omega⟩
  · exact ⟨fun _ => h, fun _ => by decide⟩
theorem fk_nn {a b : UInt64} (ha : FP.Core.dIsNaN a = false) (hb : FP.Core.dIsNaN b = false) {op : CmpOp} :
    0 ≤ Op.cmpValue (FP.dcmp a b) op ↔ FP.Core.dkey b ≤ FP.Core.dkey a := by
  rcases fk_cases ha hb op with ⟨h, e⟩ | ⟨h, e⟩ | ⟨h, e⟩ <;> rw [e]
  · exact ⟨fun x => absurd x (by decide), fun x => by omega⟩
  · exact ⟨fun _ => by omega, fun _ => by decide⟩
  · exact ⟨fun _ => by omega, fun _ => by decide⟩
theorem fk_np {a b : UInt64} (ha : FP.Core.dIsNaN a = false) (hb : FP.Core.dIsNaN b = false) {op : CmpOp} :
    Op.cmpValue (FP.dcmp a b) op ≤ 0 ↔ FP.Core.dkey a ≤ FP.Core.dkey b := by
  rcases fk_cases ha hb op with ⟨h, e⟩ | ⟨h, e⟩ | ⟨h, e⟩ <;> rw [e]
  · exact ⟨fun _ => by omega, fun _ => by decide⟩
  · exact ⟨fun _ => by omega, fun _ => by decide⟩
  · exact ⟨fun x => absurd x (by decide), fun x => by omega⟩
theorem fk_neg {a b : UInt64} (ha : FP.Core.dIsNaN a = false) (hb : FP.Core.dIsNaN b = false) {op : CmpOp} :
    Op.cmpValue (FP.dcmp a b) op < 0 ↔ FP.Core.dkey a < FP.Core.dkey b := by
  rcases fk_cases ha hb op with ⟨h, e⟩ | ⟨h, e⟩ | ⟨h, e⟩ <;> rw [e]
  · exact ⟨fun _ => h, fun _ => by decide⟩
  · exact ⟨fun x => absurd x (by decide), fun x => by omega⟩
  · exact ⟨fun x => absurd x (by decide), fun x => by omega⟩
theorem fk_eq {a b : UInt64} (ha : FP.Core.dIsNaN a = false) (hb : FP.Core.dIsNaN b = false) {op : CmpOp} :
    Op.cmpValue (FP.dcmp a b) op = 0 ↔ FP.Core.dkey a = FP.Core.dkey b := by
  rcases fk_cases ha hb op with ⟨h, e⟩ | ⟨h, e⟩ | ⟨h, e⟩ <;> rw [e]
  · exact ⟨fun x => absurd x (by decide), fun x => by omega⟩
  · exact ⟨fun _ => h, fun _ => rfl⟩
  · exact ⟨fun x => absurd x (by decide), fun x => by omega⟩
theorem fz_nn0 : FP.Core.dIsNaN FP.dconst0 = false := by decide +kernel
theorem fz_nn1 : FP.Core.dIsNaN FP.dconst1 = false := by decide +kernel
theorem fz_k0 : FP.Core.dkey FP.dconst0 = 0 := by decide +kernel
theorem okd_0 : okd FP.dconst0 := by show _ ≤ _; decide +kernel
theorem okd_1 : okd FP.dconst1 := by show _ ≤ _; decide +kernel
theorem okd_m1 : okd 13830554455654793216 := by show _ ≤ _; decide +kernel
theorem fk_zero (x : UInt64) : FP.Core.DZero x ↔ FP.Core.dkey x = 0 := by
  have h1 := x.toNat_lt
  rw [FP.Core.zero_bits2]
  unfold FP.Core.dkey
  by_cases h : 2 ^ 63 ≤ x.toNat
  · rw [if_pos h]; omega
  · rw [if_neg h]; omega
theorem okd_key (x : UInt64) : okd x ↔ FP.Core.dkey x ≤ 4877398396442247168 ∧ -4877398396442247168 ≤ FP.Core.dkey x := by
  have h1 := x.toNat_lt
  show _ ≤ _ ↔ _
  unfold FP.Core.dkey
  by_cases h : 2 ^ 63 ≤ x.toNat
  · rw [if_pos h]; omega
  · rw [if_neg h]; omega
theorem fz_nnM : FP.Core.dIsNaN 4877398396442247168 = false := by decide +kernel
theorem fz_nnm : FP.Core.dIsNaN 14100770433297022976 = false := by decide +kernel
theorem fz_kM : FP.Core.dkey 4877398396442247168 = 4877398396442247168 := by decide +kernel
theorem fz_km : FP.Core.dkey 14100770433297022976 = -4877398396442247168 := by decide +kernel
theorem fk_hi {x : UInt64} (h : FP.Core.dIsNaN x = false) : 0 < Op.cmpValue (FP.dcmp x 4877398396442247168) .l ↔ 4877398396442247168 < FP.Core.dkey x := by
  rw [fk_pos h fz_nnM, fz_kM]
theorem fk_lo {x : UInt64} (h : FP.Core.dIsNaN x = false) : 0 ≤ Op.cmpValue (FP.dcmp x 14100770433297022976) .g ↔ -4877398396442247168 ≤ FP.Core.dkey x := by
  rw [fk_nn h fz_nnm, fz_km]
theorem fk_0eq {x : UInt64} (h : okd x) {op : CmpOp} : Op.cmpValue (FP.dcmp x FP.dconst0) op = 0 ↔ FP.Core.DZero x := by
  rw [fk_eq (okd_nn h) fz_nn0, fz_k0, fk_zero]
theorem fk_0nn {x : UInt64} (h : okd x) {op : CmpOp} : 0 ≤ Op.cmpValue (FP.dcmp x FP.dconst0) op ↔ 0 ≤ FP.Core.dkey x := by
  rw [fk_nn (okd_nn h) fz_nn0, fz_k0]
theorem fk_0np {x : UInt64} (h : okd x) {op : CmpOp} : Op.cmpValue (FP.dcmp x FP.dconst0) op ≤ 0 ↔ FP.Core.dkey x ≤ 0 := by
  rw [fk_np (okd_nn h) fz_nn0, fz_k0]
/-- A result is kept, or it is none. -/
def kpF (x : UInt64) : Option UInt64 := if x.toNat % 2 ^ 63 ≤ 4877398396442247168 then some x else none
def dvF (x y : UInt64) : Option UInt64 := if FP.Core.dkey y = 0 then none else kpF (FP.ddiv x y)
def pwL (x : UInt64) : Nat → UInt64 → Option UInt64
  | 0, a => some a
  | k + 1, a => (kpF (FP.dmul a x)).bind (pwL x k)
def pwE (y r : UInt64) : Option UInt64 := if 0 ≤ FP.Core.dkey y then some r else dvF FP.dconst1 r
def pwF (x y : UInt64) : Option UInt64 :=
  if FP.Core.dkey y < FP.Core.dkey 13849694754071117824 then none
  else if FP.Core.dkey 4626322717216342016 < FP.Core.dkey y then none
  else if FP.Core.dkey (FP.i2d (FP.d2i y)) = FP.Core.dkey y then (pwL x (FP.d2i y).toInt.natAbs FP.dconst1).bind (pwE y)
  else none
def flF (x : UInt64) : UInt64 := if FP.Core.dkey (FP.l2d (FP.d2l x)) ≤ FP.Core.dkey x then FP.l2d (FP.d2l x) else FP.l2d ((FP.d2l x) - 1)
def szF (x : UInt64) : UInt64 := if 0 ≤ FP.Core.dkey x then x else FP.dneg x
def sgF (x : UInt64) : UInt64 := if 0 ≤ FP.Core.dkey x then (if FP.Core.dkey x ≤ 0 then FP.dconst0 else FP.dconst1) else 13830554455654793216
theorem kpF_some {x r : UInt64} (h : kpF x = some r) : r = x ∧ okd x := by
  unfold kpF at h
  by_cases k : x.toNat % 2 ^ 63 ≤ 4877398396442247168
  · rw [if_pos k] at h; exact ⟨(Option.some.inj h).symm, k⟩
  · rw [if_neg k] at h; cases h
theorem kpF_ok {x : UInt64} (h : okd x) : kpF x = some x := if_pos h
theorem kpF_no {x : UInt64} (h : ¬ okd x) : kpF x = none := if_neg h
/-- Two answers: both none, or equal up to the sign of zero. -/
def dzO (a b : Option UInt64) : Prop := (a = none ∧ b = none) ∨ ∃ x y, a = some x ∧ b = some y ∧ dz x y ∧ okd x
theorem dzO_kp {x y : UInt64} (h : dz x y) : dzO (kpF x) (kpF y) := by
  by_cases k : okd x
  · exact Or.inr ⟨x, y, kpF_ok k, kpF_ok (dz_okd h k), h, k⟩
  · exact Or.inl ⟨kpF_no k, kpF_no (fun q => k (dz_okd (dz_sym h) q))⟩
theorem dzO_bind {a b : Option UInt64} {f g : UInt64 → Option UInt64} (h : dzO a b) (k : ∀ x y, dz x y → okd x → dzO (f x) (g y)) : dzO (a.bind f) (b.bind g) := by
  rcases h with ⟨h1, h2⟩ | ⟨x, y, h1, h2, h3, h4⟩
  · rw [h1, h2]; exact Or.inl ⟨rfl, rfl⟩
  · rw [h1, h2]; exact k x y h3 h4
theorem dzO_dv {a b c d : UInt64} (ha : okd a) (hc : okd c) (h : dz a b) (k : dz c d) : dzO (dvF a c) (dvF b d) := by
  unfold dvF
  rw [← dz_key k]
  by_cases e : FP.Core.dkey c = 0
  · rw [if_pos e, if_pos e]; exact Or.inl ⟨rfl, rfl⟩
  · rw [if_neg e, if_neg e]
    exact dzO_kp (dz_div ha hc (fun q => e ((fk_zero c).mp q)) h k)
theorem dzO_pwL {x y : UInt64} (hx : okd x) (h : dz x y) : ∀ (k : Nat) (a b : UInt64), okd a → dz a b → dzO (pwL x k a) (pwL y k b)
  | 0, a, b, ha, hab => Or.inr ⟨a, b, rfl, rfl, hab, ha⟩
  | k + 1, a, b, ha, hab => dzO_bind (dzO_kp (dz_mul ha hx hab h)) (fun p q hpq hp => dzO_pwL hx h k p q hp hpq)
theorem dzO_pwE {u v a b : UInt64} (hk : dz u v) (ha : okd a) (h : dz a b) : dzO (pwE u a) (pwE v b) := by
  unfold pwE
  rw [← dz_key hk]
  by_cases e : 0 ≤ FP.Core.dkey u
  · rw [if_pos e, if_pos e]; exact Or.inr ⟨a, b, rfl, rfl, h, ha⟩
  · rw [if_neg e, if_neg e]; exact dzO_dv okd_1 ha (dz_rfl _) h
theorem dzO_pw {x y u v : UInt64} (hx : okd x) (h : dz x y) (k : dz u v) : dzO (pwF x u) (pwF y v) := by
  unfold pwF
  rw [← dz_key k, ← dz_d2i k]
  by_cases e1 : FP.Core.dkey u < FP.Core.dkey 13849694754071117824
  · rw [if_pos e1, if_pos e1]; exact Or.inl ⟨rfl, rfl⟩
  · rw [if_neg e1, if_neg e1]
    by_cases e2 : FP.Core.dkey 4626322717216342016 < FP.Core.dkey u
    · rw [if_pos e2, if_pos e2]; exact Or.inl ⟨rfl, rfl⟩
    · rw [if_neg e2, if_neg e2]
      by_cases e3 : FP.Core.dkey (FP.i2d (FP.d2i u)) = FP.Core.dkey u
      · rw [if_pos e3, if_pos e3]
        exact dzO_bind (dzO_pwL hx h _ _ _ okd_1 (dz_rfl _)) (fun p q hpq hp => dzO_pwE k hp hpq)
      · rw [if_neg e3, if_neg e3]; exact Or.inl ⟨rfl, rfl⟩
theorem dz_fl {x y : UInt64} (h : dz x y) : flF x = flF y := by
  unfold flF
  rw [dz_key h, dz_d2l h]
theorem dz_sz {x y : UInt64} (h : dz x y) : dz (szF x) (szF y) := by
  unfold szF
  rw [dz_key h]
  by_cases e : 0 ≤ FP.Core.dkey y
  · rw [if_pos e, if_pos e]; exact h
  · rw [if_neg e, if_neg e]; exact dz_neg h
theorem dz_sg {x y : UInt64} (h : dz x y) : sgF x = sgF y := by
  unfold sgF
  rw [dz_key h]
theorem okd_sz {x : UInt64} (h : okd x) : okd (szF x) := by
  unfold szF
  by_cases e : 0 ≤ FP.Core.dkey x
  · rw [if_pos e]; exact h
  · rw [if_neg e]; exact okd_neg h
theorem okd_sg (x : UInt64) : okd (sgF x) := by
  unfold sgF
  by_cases e : 0 ≤ FP.Core.dkey x
  · rw [if_pos e]
    by_cases f : FP.Core.dkey x ≤ 0
    · rw [if_pos f]; exact okd_0
    · rw [if_neg f]; exact okd_1
  · rw [if_neg e]; exact okd_m1
