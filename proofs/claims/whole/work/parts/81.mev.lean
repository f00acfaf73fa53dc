abbrev CSt := List (Nat × UInt64 × Nat)
/-- the calls that are under way: the variable, what it was, where to go back -/
def csA (A : Mem) : CSt → Prop
  | [] => True
  | e :: r => gI A 275 r.length = iN e.1 ∧ gD A 265 r.length = e.2.1 ∧ gI A 274 r.length = iN e.2.2 ∧ e.1 < 26 ∧ csA A r
def unw (vm : Nat → UInt64) : CSt → Nat → UInt64
  | [] => vm
  | e :: r => unw (us vm e.1 e.2.1) r
def EvM (A0 : Mem) (vm : Nat → UInt64) (st : List UInt64) (cs : CSt) (ft : Nat) (A : Mem) : Prop :=
  (gL A = gL A0 ∧ gR A = gR A0 ∧ (∀ o, o ≠ 250 → o ≠ 274 → o ≠ 275 → gI A o = gI A0 o) ∧ (∀ k, k ≠ 24 → k ≠ 25 → k ≠ 27 → gI A 250 k = gI A0 250 k) ∧ (∀ o, o ≠ 260 → o ≠ 261 → o ≠ 265 → gD A o = gD A0 o)) ∧
  (gD A 260 = vm ∧ gI A 250 27 = iN ft ∧ ft < 7 ∧ gI A 250 24 = iN cs.length ∧ cs.length ≤ 3 ∧ csA A cs) ∧ (gI A 250 25 = iN st.length ∧ st.length ≤ 200 ∧ stD (gD A 261) st)
def dzL : List UInt64 → List UInt64 → List UInt64 → Prop
  | [], b, st => st = b
  | x :: s, b, st => ∃ x' t, st = x' :: t ∧ dz x x' ∧ okd x ∧ dzL s b t
theorem dzL_len : ∀ {s b st : List UInt64}, dzL s b st → st.length = s.length + b.length
  | [], b, st, h => by rw [show st = b from h]; simp
  | x :: s, b, st, ⟨x', t, e, _, _, h⟩ => by rw [e]; simp only [List.length_cons, dzL_len h]; omega
theorem csA_cg {A B : Mem} : ∀ {cs : CSt}, csA A cs → (∀ k, k < cs.length → gI B 275 k = gI A 275 k ∧ gD B 265 k = gD A 265 k ∧ gI B 274 k = gI A 274 k) → csA B cs
  | [], _, _ => trivial
  | e :: r, h, g => by
    obtain ⟨g1, g2, g3⟩ := g r.length (by simp)
    exact ⟨g1.trans h.1, g2.trans h.2.1, g3.trans h.2.2.1, h.2.2.2.1, csA_cg h.2.2.2.2 (fun k hk => g k (by simp only [List.length_cons]; omega))⟩
section MEV
variable {A0 A : Mem} {vm : Nat → UInt64} {st : List UInt64} {cs : CSt} {ft : Nat}
theorem EvM_top (h : EvM A0 vm st cs ft A) {s' : List UInt64} (hl : s'.length ≤ 200) (hs : stD (gD A 261) s') : EvM A0 vm s' cs ft (sI A 250 25 (iN s'.length)) := by
  obtain ⟨⟨a1, a2, a3, a4, a5⟩, ⟨b1, b2, b3, b4, b5, b6⟩, -⟩ := h
  refine ⟨⟨a1, a2, fun o h1 h2 h3 => (gI_row h1).trans (a3 o h1 h2 h3), fun k h1 h2 h3 => (gI_ne (Or.inr h2)).trans (a4 k h1 h2 h3), a5⟩, ⟨b1, (gI_ne (Or.inr (by omega))).trans b2, b3, (gI_ne (Or.inr (by omega))).trans b4, b5, csA_cg b6 (fun k _ => ⟨gI_ne (Or.inl (by omega)), rfl, gI_ne (Or.inl (by omega))⟩)⟩, ⟨gI_eq, hl, hs⟩⟩
theorem EvM_cell (h : EvM A0 vm st cs ft A) {k : Nat} {v : UInt64} (hk : st.length ≤ k) : EvM A0 vm st cs ft (sD A 261 k v) := by
  obtain ⟨⟨a1, a2, a3, a4, a5⟩, ⟨b1, b2, b3, b4, b5, b6⟩, ⟨c1, c2, c3⟩⟩ := h
  refine ⟨⟨a1, a2, a3, a4, fun o h1 h2 h3 => (gD_row h2).trans (a5 o h1 h2 h3)⟩, ⟨(gD_row (by omega)).trans b1, b2, b3, b4, b5, csA_cg b6 (fun k _ => ⟨rfl, gD_ne (Or.inl (by omega)), rfl⟩)⟩, ⟨c1, c2, ?_⟩⟩
  rw [gD_us2]; exact stD_us c3 hk
theorem EvM_fail (h : EvM A0 vm st cs ft A) {f : Nat} (hf : f < 7) : EvM A0 vm st cs f (sI A 250 27 (iN f)) := by
  obtain ⟨⟨a1, a2, a3, a4, a5⟩, ⟨b1, b2, b3, b4, b5, b6⟩, ⟨c1, c2, c3⟩⟩ := h
  exact ⟨⟨a1, a2, fun o h1 h2 h3 => (gI_row h1).trans (a3 o h1 h2 h3), fun k h1 h2 h3 => (gI_ne (Or.inr h3)).trans (a4 k h1 h2 h3), a5⟩, ⟨b1, gI_eq, hf, (gI_ne (Or.inr (by omega))).trans b4, b5, csA_cg b6 (fun k _ => ⟨gI_ne (Or.inl (by omega)), rfl, gI_ne (Or.inl (by omega))⟩)⟩, ⟨(gI_ne (Or.inr (by omega))).trans c1, c2, c3⟩⟩
/-- a value laid on the stack -/
theorem EvM_push (h : EvM A0 vm st cs ft A) {v : UInt64} (hl : st.length < 200) : EvM A0 vm (v :: st) cs ft (sI (sD A 261 st.length v) 250 25 (iN (st.length + 1))) := by
  have h1 := EvM_cell (v := v) h (Nat.le_refl st.length)
  exact EvM_top (s' := v :: st) h1 (by simp only [List.length_cons]; omega) ⟨gD_eq, h1.2.2.2.2⟩
theorem EvM_pop {x : UInt64} (h : EvM A0 vm (x :: st) cs ft A) : gI A 250 25 - 1 = iN st.length ∧ gD A 261 st.length = x ∧ EvM A0 vm st cs ft (sI A 250 25 (iN st.length)) := by
  have hl := h.2.2.2.1
  simp only [List.length_cons] at hl
  refine ⟨?_, h.2.2.2.2.1, EvM_top h (by omega) h.2.2.2.2.2⟩
  rw [h.2.2.1, show (1 : Int32) = iN 1 from rfl, iN_sub (by simp only [List.length_cons]; omega)]
  simp
/-- the top replaced -/
theorem EvM_set {x v : UInt64} (h : EvM A0 vm (x :: st) cs ft A) : EvM A0 vm (v :: st) cs ft (sD A 261 st.length v) := by
  have hl := h.2.2.2.1
  simp only [List.length_cons] at hl
  obtain ⟨⟨a1, a2, a3, a4, a5⟩, ⟨b1, b2, b3, b4, b5, b6⟩, ⟨c1, c2, c3⟩⟩ := h
  refine ⟨⟨a1, a2, a3, a4, fun o h1 h2 h3 => (gD_row h2).trans (a5 o h1 h2 h3)⟩, ⟨(gD_row (by omega)).trans b1, b2, b3, b4, b5, csA_cg b6 (fun k _ => ⟨rfl, gD_ne (Or.inl (by omega)), rfl⟩)⟩, ⟨c1, by simp only [List.length_cons]; omega, gD_eq, ?_⟩⟩
  rw [gD_us2]; exact stD_us c3.2 (Nat.le_refl _)
theorem MW_f (hW : MW A0) (h : EvM A0 vm st cs ft A) : gR A 250 12 = 255 ∧ gR A 250 13 = 256 ∧ gR A 250 14 = 257 ∧ gR A 250 29 = 260 ∧ gR A 250 30 = 261 ∧ gR A 250 34 = 265 ∧ gR A 250 35 = 266 ∧ gR A 250 37 = 268 ∧ gR A 250 38 = 269 ∧ gR A 250 39 = 270 ∧ gR A 250 43 = 274 ∧ gR A 250 44 = 275 := by
  rw [h.1.2.1]
  exact ⟨hW.1 12 (by omega) (by omega), hW.1 13 (by omega) (by omega), hW.1 14 (by omega) (by omega), hW.2 29 (by omega) (by omega), hW.2 30 (by omega) (by omega), hW.2 34 (by omega) (by omega), hW.2 35 (by omega) (by omega), hW.2 37 (by omega) (by omega), hW.2 38 (by omega) (by omega), hW.2 39 (by omega) (by omega), hW.2 43 (by omega) (by omega), hW.2 44 (by omega) (by omega)⟩
theorem okd_tn {k : Nat} (hk : k ≤ 3) : okd (tnF k) := by
  rcases (by omega : k = 0 ∨ k = 1 ∨ k = 2 ∨ k = 3) with e | e | e | e <;> rw [e]
  · rw [tnF_0]; exact okd_l2d (by decide)
  · rw [tnF_1]; exact okd_l2d (by decide)
  · rw [tnF_2]; exact okd_l2d (by decide)
  · rw [tnF_3]; exact okd_l2d (by decide)
theorem okd_10 : okd 4621819117588971520 := by show _ ≤ _; decide +kernel
theorem th_eq (v k : Nat) (hk : k ≤ 3) : th (iN v) k = iN (v * 10 ^ (3 - k)) := by
  have g : ∀ (j : Nat) (w : Nat), tn j (iN w) = iN (w * 10 ^ j) := by
    intro j
    induction j with
    | zero => intro w; simp [tn]
    | succ j ih =>
      intro w
      unfold tn
      rw [show (10 : Int32) = iN 10 from rfl, iN_mul, ih, Nat.pow_succ', Nat.mul_assoc]
  exact g (3 - k) v
theorem m_plain {K : UInt64 → Mem → Prop} {p v k : Nat} (hW : MW A0) (h : EvM A0 vm st cs ft A) (hp : p + 1 < 4000) (hv : gI A0 257 p = iN v) (hk : gI A0 257 (p + 1) = iN k) (hk3 : k ≤ 3) (hb : v * 10 ^ (3 - k) < 1000000000)
    (kk : K (FP.ddiv (FP.i2d (th (iN v) k)) 4652007308841189376) A) : wp_Mo_plain 250 (iN p) A K := by
  have e14 := (MW_f hW h).2.2.1
  have eI : gI A 257 = gI A0 257 := h.1.2.2.1 257 (by omega) (by omega) (by omega)
  rw [th_eq v k hk3] at kk
  have lp : ∀ (j i fu : Nat), i + j = k → j < fu → wp_Mo_plain_c5 K fu 250 (iN p) (tnF i) (iN i) A := by
    intro j
    induction j with
    | zero =>
      intro i fu hi hfu
      obtain ⟨fu, rfl⟩ : ∃ g, fu = g + 1 := ⟨fu - 1, by omega⟩
      unfold wp_Mo_plain_c5
      rw [e14, eI, iN_1, iN_cl (by omega), iN_cl (by omega), hk, hv, iN_le (by omega) (by omega), show al 257 = 4000 from rfl]
      refine ⟨rfl, rfl, iN_in (by omega) (by omega), fun _ => ⟨iN_in (by omega) (by omega), ?_, ?_⟩, fun q => by omega⟩
      · rw [show i = k by omega, ← nm_eq v k hb hk3]; exact vfn_thou _
      · rw [show i = k by omega, ← nm_eq v k hb hk3]; exact kk
    | succ j ih =>
      intro i fu hi hfu
      obtain ⟨fu, rfl⟩ : ∃ g, fu = g + 1 := ⟨fu - 1, by omega⟩
      unfold wp_Mo_plain_c5
      rw [e14, eI, iN_1, iN_cl (by omega), hk, iN_le (by omega) (by omega), show al 257 = 4000 from rfl, iN_1]
      refine ⟨rfl, rfl, iN_in (by omega) (by omega), fun q => by omega, fun _ => ⟨vfn_mul (okd_tn (by omega)) okd_10, ?_⟩⟩
      exact ih (i + 1) fu (by omega) (by omega)
  exact ⟨k + 1, lp k 0 _ (by omega) (by omega)⟩
theorem m_placeOf {K : Int32 → Mem → Prop} {m a b : Nat} {x y : UInt64} (hW : MW A0) (h : EvM A0 vm st cs 0 A) (hm : m < 3) (h0 : gI A0 269 m = iN a) (h1 : gI A0 270 m = iN b) (ha : a ≤ 6) (hb : b ≤ 6)
    (k : match plM a b (FP.d2l x) (FP.d2l y) with | some i => K (iN (m * 36 + i)) A | none => K (-1) (sI A 250 27 5)) : wp_Mo_placeOf 250 (iN m) x y A K := by
  obtain ⟨-, -, -, -, -, -, -, -, e38, e39, -, -⟩ := MW_f hW h
  unfold wp_Mo_placeOf
  rw [e38, e39, h.1.2.2.1 269 (by omega) (by omega) (by omega), h.1.2.2.1 270 (by omega) (by omega) (by omega), iN_cl (by omega), h0, h1, show al 269 = 3 from rfl, show al 270 = 3 from rfl]
  have ea : (iN a).toInt64.toInt = a := by rw [Int32.toInt_toInt64, iN_toInt (by omega)]
  have eb : (iN b).toInt64.toInt = b := by rw [Int32.toInt_toInt64, iN_toInt (by omega)]
  simp only [lg_cmp_lt, lg_cmp_gt, lg_cmp_le, i64_lt, i64_le, ea, eb, Int64_1]
  unfold plM at k
  refine ⟨fun q => ⟨rfl, ?_⟩, fun q => ⟨rfl, rfl, iN_in hm (by omega), fun q' => ?_, fun q' => ⟨fun g => ?_, fun g => ⟨rfl, iN_in hm (by omega), fun g' => ?_, fun g' => ?_⟩⟩⟩⟩
  · rw [if_neg (by omega)] at k; exact k
  · rw [if_neg (by omega)] at k; exact k
  · rw [if_neg (by omega)] at k; exact k
  · rw [if_pos (by omega)] at k
    rw [i64_idx (by omega) (by omega), i64_idx (by omega) (by omega), show (36 : Int32) = iN 36 from rfl, show (6 : Int32) = iN 6 from rfl, iN_mul, iN_mul, iN_add, iN_add, Nat.add_assoc]
    exact k
  · rw [if_neg (by omega)] at k; exact k
end MEV
