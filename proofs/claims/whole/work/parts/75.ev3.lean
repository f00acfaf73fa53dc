/-- the place of an element in a matrix of a rows and b columns, as longs x and y ask -/
def plM (a b : Nat) (x y : Int64) : Option Nat :=
  if 1 ≤ x.toInt ∧ x.toInt ≤ a ∧ 1 ≤ y.toInt ∧ y.toInt ≤ b then some ((x.toInt.toNat - 1) * 6 + (y.toInt.toNat - 1)) else none
theorem plM_lt {a b : Nat} {x y : Int64} {i : Nat} (ha : a ≤ 6) (hb : b ≤ 6) (h : plM a b x y = some i) : i < 36 := by
  unfold plM at h
  split at h
  · rename_i hc
    have := Option.some.inj h
    omega
  · cases h
theorem Int64_1 : (1 : Int64).toInt = 1 := by decide
theorem i64_le {x y : Int64} : (x ≤ y) = (x.toInt ≤ y.toInt) := propext Int64.le_iff_toInt_le
theorem i64_lt {x y : Int64} : (x < y) = (x.toInt < y.toInt) := propext Int64.lt_iff_toInt_lt
theorem i64_idx {x : Int64} (h1 : 1 ≤ x.toInt) (h2 : x.toInt ≤ 6) : (x - 1).toInt32 = iN (x.toInt.toNat - 1) := by
  have h3 : (x - 1).toInt = x.toInt - 1 := FP.Core.int64_sub (by rw [Int64_1]; omega) (by rw [Int64_1]; omega)
  refine Int32.toInt.inj ?_
  rw [FP.Core.int64_toInt32 (by omega) (by omega), h3, iN_toInt (by omega)]
  omega
theorem n_placeOf {A : Mem} {o a b : Nat} {x y : Int64} {K : Int32 → Mem → Prop} (hk : kd o = 7) (h0 : gI A o 0 = iN a) (h1 : gI A o 1 = iN b) (ha : a ≤ 6) (hb : b ≤ 6)
    (k : K (match plM a b x y with | some i => iN i | none => -1) A) : wp_Mx_placeOf o x y A K := by
  unfold wp_Mx_placeOf
  rw [h0, h1]
  have ea : (iN a).toInt64.toInt = a := by rw [Int32.toInt_toInt64, iN_toInt (by omega)]
  have eb : (iN b).toInt64.toInt = b := by rw [Int32.toInt_toInt64, iN_toInt (by omega)]
  simp only [lg_cmp_lt, lg_cmp_gt, lg_cmp_le, i64_lt, i64_le, ea, eb, Int64_1]
  unfold plM at k
  refine ⟨fun h => ?_, fun h => ⟨hk, fun h' => ?_, fun h' => ⟨fun g => ?_, fun g => ⟨fun g' => ?_, fun g' => ?_⟩⟩⟩⟩
  · rw [if_neg (by omega)] at k; exact k
  · rw [if_neg (by omega)] at k; exact k
  · rw [if_neg (by omega)] at k; exact k
  · rw [if_pos (by omega)] at k
    rw [i64_idx (by omega) (by omega), i64_idx (by omega) (by omega), show (6 : Int32) = iN 6 from rfl, iN_mul, iN_add]
    exact k
  · rw [if_neg (by omega)] at k; exact k
theorem n_get {A : Mem} {m i : Nat} {K : UInt64 → Mem → Prop} (hm : m < 3) (hW : gR A (12 + m) 2 = 16 + m) (hi : i < 36) (k : K (gD A (16 + m) i) A) : wp_Mx_get (12 + m) (iN i) A K := by
  unfold wp_Mx_get
  have e : kd (12 + m) = 7 ∧ kd (16 + m) = 53 ∧ al (16 + m) = 36 := by
    rcases (by omega : m = 0 ∨ m = 1 ∨ m = 2) with e | e | e <;> rw [e] <;> exact ⟨rfl, rfl, rfl⟩
  rw [hW, e.2.2, show (0 : Int32) = iN 0 from rfl, show Int32.ofNat 36 = iN 36 from rfl, iN_lt (by omega) (by omega), iN_le (by omega) (by omega), iN_cl (by omega)]
  exact ⟨fun h => by omega, fun _ => ⟨e.1, e.2.1, fun h => by omega, fun _ => ⟨iN_in (m := 36) hi (by omega), k⟩⟩⟩
theorem n_getN {A : Mem} {o : Nat} {K : UInt64 → Mem → Prop} (k : K FP.dconst0 A) : wp_Mx_get o (-1) A K := ⟨fun _ => k, fun h => absurd (by decide) h⟩
theorem WC_m {A : Mem} (hW : WC A) {m : Nat} (hm : m < 3) : gR A (12 + m) 2 = 16 + m := by
  rcases (by omega : m = 0 ∨ m = 1 ∨ m = 2) with e | e | e <;> rw [e]
  · exact hW.2.2.2.1.1
  · exact hW.2.2.2.1.2.1
  · exact hW.2.2.2.1.2.2.1
/-- an element of the class's matrices -/
def elA (A : Mem) (mr mc : Nat → Nat) (m : Nat) (x y : UInt64) : EV :=
  match plM (mr m) (mc m) (FP.d2l x) (FP.d2l y) with
  | some i => .ok (gD A (16 + m) i)
  | none => .error 5
/-- the class's matrices have these sizes, and all is within bounds -/
def MxA (A : Mem) (mr mc : Nat → Nat) : Prop := ∀ m, m < 3 → gI A (12 + m) 0 = iN (mr m) ∧ gI A (12 + m) 1 = iN (mc m) ∧ mr m ≤ 6 ∧ mc m ≤ 6 ∧ ∀ i, i < 36 → okd (gD A (16 + m) i)
def okO (x : SOp) : Prop := x.1 < 14 ∧ (x.1 = 1 → ∃ i, i < 26 ∧ x.2.1 = iN i) ∧ (x.1 = 2 ∨ x.1 = 12 ∨ x.1 = 13 → ∃ i, i < 3 ∧ x.2.1 = iN i)
def oKS (A0 : Mem) (va : Nat → UInt64) (base : List UInt64) (e : Except Nat (List UInt64)) (K : Mem → Prop) : Prop :=
  (∀ l, e = .ok l → ∀ A', EvS A0 va (l ++ base) 0 A' → K A') ∧ (∀ f, e = .error f → f ≠ 0 → ∀ s' A', EvS A0 va s' f A' → K A')
section EV3
variable {A0 A : Mem} {va : Nat → UInt64} {s : List UInt64} {ft : Nat} {mr mc : Nat → Nat}
theorem n_pushA {K : Mem → Prop} {x : UInt64} (hW : WC A0) (h : EvS A0 va s ft A) (hx : okd x) (k : ∀ s' A', EvS A0 va s' ft A' → K A') : wp_Ca_push 8 x A K := by
  by_cases hl : s.length < 240
  · exact n_push hW h hx hl (fun A' h' => k _ A' h')
  · unfold wp_Ca_push
    have := h.2.2.1.2.1
    rw [EvS_7 hW h, h.2.2.1.1, show Int32.ofNat (al 11) = iN 240 from rfl, iN_le (by omega) (by omega)]
    exact ⟨rfl, rfl, fun _ => k s A h, fun h' => by omega⟩
theorem n_tail {K : Mem → Prop} {o : Option UInt64} {r base : List UInt64} {f : Nat} (hW : WC A0) (hf : f ≠ 0) (hl : (r ++ base).length < 240) (k : oKS A0 va base (psE r (ftE f o)) K) : oKF A0 va (r ++ base) f o (fun x A2 => wp_Ca_push 8 x A2 K) := by
  refine ⟨fun x hx A' ho h => ?_, fun hx x A' ho h => ?_⟩
  · rw [hx] at k
    exact n_push hW h ho hl (fun A2 h2 => k.1 (x :: r) rfl A2 h2)
  · rw [hx] at k
    exact n_pushA hW h ho (fun s' A2 h2 => k.2 f rfl hf s' A2 h2)
theorem n_matrixAt {K : Nat → Mem → Prop} (hW : WC A0) (h : EvS A0 va s ft A) {m : Nat} (hm : m < 3) (k : K (12 + m) A) : wp_Ca_matrixAt 8 (iN m) A K := by
  unfold wp_Ca_matrixAt
  have e2 := (h.1.2.2.2.2.1 2 (by omega)).trans hW.2.2.1.2.1
  have e3 := (h.1.2.2.2.2.1 3 (by omega)).trans hW.2.2.1.2.2.1
  have e4 := (h.1.2.2.2.2.1 4 (by omega)).trans hW.2.2.1.2.2.2.1
  rw [e2, e3, e4, show (0 : Int32) = iN 0 from rfl, show (1 : Int32) = iN 1 from rfl, iN_eq (by omega) (by omega), iN_eq (by omega) (by omega)]
  rcases (by omega : m = 0 ∨ m = 1 ∨ m = 2) with e | e | e <;> rw [e] at k ⊢
  · exact ⟨fun q => absurd rfl q, fun _ => ⟨rfl, k⟩⟩
  · exact ⟨fun _ => ⟨fun q => absurd rfl q, fun _ => ⟨rfl, k⟩⟩, fun q => absurd q (by decide)⟩
  · exact ⟨fun _ => ⟨fun _ => ⟨rfl, k⟩, fun q => absurd q (by decide)⟩, fun q => absurd q (by decide)⟩
theorem n_functionAt {K : Nat → Mem → Prop} (hW : WC A0) (h : EvS A0 va s ft A) {f : Nat} (hf : f < 3) (k : K (gR A0 10 f) A) : wp_Ca_functionAt 8 (iN f) A K := by
  unfold wp_Ca_functionAt
  rw [(h.1.2.2.2.2.1 6 (by omega)).trans hW.2.2.1.2.2.2.2.2.1, show Int32.ofNat (al 10) = iN 3 from rfl, show (0 : Int32) = iN 0 from rfl, iN_lt (by omega) (by omega), iN_le (by omega) (by omega), iN_cl (by omega), h.1.2.2.2.1 10 (by omega)]
  exact ⟨fun q => by omega, fun _ => ⟨rfl, rfl, fun q => by omega, fun _ => ⟨iN_in (m := 3) hf (by omega), k⟩⟩⟩
theorem n_get26 {K : UInt64 → Mem → Prop} (hW : WC A0) (h : EvS A0 va s ft A) {i : Nat} (hi : i < 26) (k : K (va i) A) : wp_Ca_get 8 (iN i) A K := by
  unfold wp_Ca_get
  rw [EvS_1 hW h, show Int32.ofNat (al 9) = iN 26 from rfl, show (0 : Int32) = iN 0 from rfl, iN_lt (by omega) (by omega), iN_le (by omega) (by omega), iN_cl (by omega), h.2.1.1]
  exact ⟨fun q => by omega, fun _ => ⟨rfl, rfl, fun q => by omega, fun _ => ⟨iN_in (m := 26) hi (by omega), k⟩⟩⟩
theorem n_set26 {K : Mem → Prop} (hW : WC A0) (h : EvS A0 va s ft A) {i : Nat} {v : UInt64} (hi : i < 26) (hv : okd v) (k : ∀ A', EvS A0 (us va i v) s ft A' → K A') : wp_Ca_set 8 (iN i) v A K := by
  unfold wp_Ca_set
  rw [EvS_1 hW h, show Int32.ofNat (al 9) = iN 26 from rfl, show (0 : Int32) = iN 0 from rfl, iN_lt (by omega) (by omega), iN_le (by omega) (by omega), iN_cl (by omega)]
  exact ⟨fun q => by omega, fun _ => ⟨rfl, rfl, fun q => by omega, fun _ => ⟨iN_in (m := 26) hi (by omega), k _ (EvS_set h hv)⟩⟩⟩
theorem n_element {K : Mem → Prop} {x y : UInt64} {r base : List UInt64} (hW : WC A0) (hM : MxA A0 mr mc) {m : Nat} (hm : m < 3) (h : EvS A0 va (y :: x :: r ++ base) 0 A) (k : oKS A0 va base (psE r (elA A0 mr mc m x y)) K) : wp_Ca_pushElement 8 (12 + m) A K := by
  have hl := h.2.2.1.2.1
  simp only [List.cons_append, List.length_cons] at hl
  have ek : kd (12 + m) = 7 := by
    rcases (by omega : m = 0 ∨ m = 1 ∨ m = 2) with e | e | e <;> rw [e] <;> rfl
  unfold wp_Ca_pushElement
  refine ⟨rfl, n_pop (s := x :: (r ++ base)) hW h (fun hy A1 h1 => n_pop hW h1 (fun hx A2 h2 => ⟨ek, ?_⟩))⟩
  obtain ⟨m1, m2, m3, m4, m5⟩ := hM m hm
  have eI : gI A2 (12 + m) = gI A0 (12 + m) := h2.1.2.1 _ (by omega)
  have eR : gR A2 (12 + m) = gR A0 (12 + m) := h2.1.2.2.2.1 _ (by omega)
  have eD : gD A2 (16 + m) = gD A0 (16 + m) := h2.1.2.2.2.2.2 _ (by omega) (by omega)
  refine n_placeOf ek (a := mr m) (b := mc m) (by rw [eI]; exact m1) (by rw [eI]; exact m2) m3 m4 ?_
  unfold elA at k
  cases hp : plM (mr m) (mc m) (FP.d2l x) (FP.d2l y) with
  | none =>
    rw [hp] at k
    refine ⟨fun q => absurd q (by decide), fun _ => n_fail h2 (f := 5) (by omega) (fun A3 h3 => n_getN ?_)⟩
    exact n_pushA hW h3 okd_0 (fun s' A4 h4 => k.2 5 rfl (by decide) s' A4 h4)
  | some i =>
    rw [hp] at k
    have hi := plM_lt m3 m4 hp
    refine ⟨fun _ => ?_, fun q => absurd (show (0 : Int32) ≤ iN i from ?_) q⟩
    · refine n_get hm (by rw [eR]; exact WC_m hW hm) hi ?_
      rw [eD]
      exact n_push hW h2 (m5 i hi) (by omega) (fun A4 h4 => k.1 _ rfl A4 h4)
    · rw [show (0 : Int32) = iN 0 from rfl, iN_le (by omega) (by omega)]; omega
end EV3
