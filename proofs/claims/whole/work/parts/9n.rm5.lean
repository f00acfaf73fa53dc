theorem entF_nm {me : Nat → Nat → UInt64} {mc : Nat → Nat} {b t x y : Nat} {sc : UInt64} (hb : b < 9) : entF me mc b sc x y = entF me mc b sc (if b < 3 then t else x) (if b ≤ 5 then (if b < 3 then t else x) else y) := by
  funext i j
  unfold entF
  rcases (by omega : b = 0 ∨ b = 1 ∨ b = 2 ∨ b = 3 ∨ b = 4 ∨ b = 5 ∨ b = 6 ∨ b = 7 ∨ b = 8) with e | e | e | e | e | e | e | e | e <;> subst e <;> simp
theorem mtB_nm {mr mc : Nat → Nat} {b t x y : Nat} (hb : b < 9) : mtB mr mc b t x y = mtB mr mc b t (if b < 3 then t else x) (if b ≤ 5 then (if b < 3 then t else x) else y) := by
  unfold mtB
  rcases (by omega : b = 0 ∨ b = 1 ∨ b = 2 ∨ b = 3 ∨ b = 4 ∨ b = 5 ∨ b = 6 ∨ b = 7 ∨ b = 8) with e | e | e | e | e | e | e | e | e <;> subst e <;> simp
theorem mtR_nm {mr mc : Nat → Nat} {b t x : Nat} (hb : b < 9) : mtR mr mc b t x = mtR mr mc b t (if b < 3 then t else x) := by
  unfold mtR
  rcases (by omega : b = 0 ∨ b = 1 ∨ b = 2 ∨ b = 3 ∨ b = 4 ∨ b = 5 ∨ b = 6 ∨ b = 7 ∨ b = 8) with e | e | e | e | e | e | e | e | e <;> subst e <;> simp
theorem mtC_nm {mr mc : Nat → Nat} {b t x y : Nat} (hb : b < 9) : mtC mr mc b t x y = mtC mr mc b t (if b < 3 then t else x) (if b ≤ 5 then (if b < 3 then t else x) else y) := by
  unfold mtC
  rcases (by omega : b = 0 ∨ b = 1 ∨ b = 2 ∨ b = 3 ∨ b = 4 ∨ b = 5 ∨ b = 6 ∨ b = 7 ∨ b = 8) with e | e | e | e | e | e | e | e | e <;> subst e <;> simp
theorem maE_nm {s : RS} {b t x y : Nat} {sc : UInt64} (hb : b < 9) : maE s t b x y sc = maE s t b (if b < 3 then t else x) (if b ≤ 5 then (if b < 3 then t else x) else y) sc := by
  unfold maE
  rw [← entF_nm (t := t) hb, ← mtR_nm hb, ← mtC_nm hb]
section RM5
variable {B A : Mem} {dat : List UInt64} {q : Nat → Int32} {s : RS} {ft : Nat} {P : PT} {sl : List Nat} {w : Nat} {d : LDT} {b t x y : Nat}
theorem MR_mx {A' : Mem} {m R C : Nat} {mf : Nat → UInt64} (hm3 : m < 3) (h : MR B sl dat q s ft A) (hL : gL A' = gL A) (hR : gR A' = gR A) (hI : ∀ o, o ≠ 269 → o ≠ 270 → gI A' o = gI A o) (i1 : gI A' 269 = us (gI A 269) m (iN R)) (i2 : gI A' 270 = us (gI A 270) m (iN C)) (hD : ∀ o, o ≠ 266 → o ≠ 267 → gD A' o = gD A o)
    (hD2 : ∀ m' p, m' ≠ m → m' < 3 → p < 36 → gD A' 266 (m' * 36 + p) = gD A 266 (m' * 36 + p)) (hR6 : R ≤ 6) (hC6 : C ≤ 6) (hD3 : ∀ i j, i < R → j < C → dz (mf (i * 6 + j)) (gD A' 266 (m * 36 + (i * 6 + j))) ∧ okd (mf (i * 6 + j))) : MR B sl dat q (uMx s (us (rMr s) m R) (us (rMc s) m C) (us (rMe s) m mf)) ft A' := by
  obtain ⟨hF, ⟨q1, q2, q3⟩, ⟨vm, st, he, hv⟩, hm, hf, hl, hr, hda, hp⟩ := h
  have i0 : gI A' 250 = gI A 250 := hI 250 (by omega) (by omega)
  refine ⟨MFr_tr hF ⟨hL, hR, fun o h1 h2 => hI o (by omega) (by omega), fun j hj => by rw [i0], fun o ho => hD o (by omega) (by omega)⟩, ⟨by rw [i0]; exact q1, by rw [i0]; exact q2, by rw [i0]; exact q3⟩, EvR_cg he (by rw [hD 260 (by omega) (by omega), he.2.1.1]; exact hv) (by rw [i0]; exact he.2.1.2.1) he.2.1.2.2.1 (by rw [i0]) (by rw [i0]) (hD 261 (by omega) (by omega)), fun m' hm' => ?_, FbM_cg hf (hI 268 (by omega) (by omega)) (hI 255 (by omega) (by omega)) (hI 256 (by omega) (by omega)) (hI 257 (by omega) (by omega)), LoM_cg hl (by rw [i0]) (hI 272 (by omega) (by omega)) (hI 273 (by omega) (by omega)) (hD 263 (by omega) (by omega)) (hD 264 (by omega) (by omega)), RtM_cg hr (by rw [i0]) (hI 271 (by omega) (by omega)), DaM_cg hda (by rw [i0]) (by rw [i0]) (hD 262 (by omega) (by omega)), PrM_cg hp (by rw [i0]) (hD 259 (by omega) (by omega))⟩
  rw [i1, i2]
  show us (gI A 269) m (iN R) m' = iN (us (rMr s) m R m') ∧ us (gI A 270) m (iN C) m' = iN (us (rMc s) m C m') ∧ us (rMr s) m R m' ≤ 6 ∧ us (rMc s) m C m' ≤ 6 ∧ ∀ i j, i < us (rMr s) m R m' → j < us (rMc s) m C m' → dz (us (rMe s) m mf m' (i * 6 + j)) (gD A' 266 (m' * 36 + (i * 6 + j))) ∧ okd (us (rMe s) m mf m' (i * 6 + j))
  by_cases e : m' = m
  · rw [e, us_eq, us_eq, us_eq, us_eq, us_eq]
    exact ⟨rfl, rfl, hR6, hC6, hD3⟩
  · rw [us_ne e, us_ne e, us_ne e, us_ne e, us_ne e]
    obtain ⟨m1, m2, m3, m4, m5⟩ := hm m' hm'
    refine ⟨m1, m2, m3, m4, fun i j hi hj => ?_⟩
    rw [hD2 m' _ e hm' (by omega)]
    exact m5 i j hi hj
theorem r_dim {m : Nat} {r c : Int32} {K : Mem → Prop} (hW : MW A) (hm : m < 3) (k : ∀ A', gL A' = gL A → gR A' = gR A → (∀ o, o ≠ 269 → o ≠ 270 → gI A' o = gI A o) → gI A' 269 = us (gI A 269) m r → gI A' 270 = us (gI A 270) m c → (∀ o, o ≠ 266 → gD A' o = gD A o) → (∀ j, gD A' 266 j = if m * 36 ≤ j ∧ j < m * 36 + 36 then FP.dconst0 else gD A 266 j) → K A') : wp_Mo_dimension 250 (iN m) r c A K := by
  have e38 : gR A 250 38 = 269 := hW.2 38 (by omega) (by omega)
  have e39 : gR A 250 39 = 270 := hW.2 39 (by omega) (by omega)
  have e35 : gR A 250 35 = 266 := hW.2 35 (by omega) (by omega)
  unfold wp_Mo_dimension
  rw [e38, iN_cl (show m < 2147483648 by omega), show gR (sI A 269 m r) 250 39 = 270 from e39]
  refine ⟨rfl, rfl, iN_in (m := 3) hm (by omega), rfl, iN_in (m := 3) hm (by omega), fun A6 e6 => ⟨37, ?_⟩⟩
  have i1 : gI A6 269 = us (gI A 269) m r := by rw [e6, gI_row (by omega), gI_us2]
  have i2 : gI A6 270 = us (gI A 270) m c := by rw [e6, gI_us2, gI_row (by omega)]
  have i3 : ∀ o, o ≠ 269 → o ≠ 270 → gI A6 o = gI A o := fun o h1 h2 => by rw [e6, gI_row h2, gI_row h1]
  have r6 : gR A6 = gR A := by rw [e6]; rfl
  have l6 : gL A6 = gL A := by rw [e6]; rfl
  have d6 : gD A6 = gD A := by rw [e6]; rfl
  have go : ∀ (n i fu : Nat) (C : Mem), i + n = 36 → n < fu → gL C = gL A → gR C = gR A → gI C = gI A6 → (∀ o, o ≠ 266 → gD C o = gD A o) → (∀ j, gD C 266 j = if m * 36 ≤ j ∧ j < m * 36 + i then FP.dconst0 else gD A 266 j) → wp_Mo_dimension_c20 K fu 250 (iN m) (iN (m * 36 + i)) C := by
    intro n
    induction n with
    | zero =>
      intro i fu C hi hfu c1 c2 c3 c4 c5
      obtain ⟨fu, rfl⟩ : ∃ g, fu = g + 1 := ⟨fu - 1, by omega⟩
      have hi : i = 36 := by omega
      subst hi
      unfold wp_Mo_dimension_c20
      rw [show (36 : Int32) = iN 36 from rfl, iN_mul, iN_add, iN_le (by omega) (by omega)]
      exact ⟨fun _ => k C c1 c2 (fun o h1 h2 => by rw [c3]; exact i3 o h1 h2) (by rw [c3]; exact i1) (by rw [c3]; exact i2) c4 c5, fun q => by omega⟩
    | succ n ih =>
      intro i fu C hi hfu c1 c2 c3 c4 c5
      obtain ⟨fu, rfl⟩ : ∃ g, fu = g + 1 := ⟨fu - 1, by omega⟩
      unfold wp_Mo_dimension_c20
      rw [c2, e35, show (36 : Int32) = iN 36 from rfl, iN_mul, iN_add, iN_le (by omega) (by omega), iN_cl (show m * 36 + i < 2147483648 by omega), iN_1]
      refine ⟨fun q => by omega, fun _ => ⟨rfl, rfl, iN_in (m := 108) (by omega) (by omega), ih (i + 1) fu _ (by omega) (by omega) c1 c2 c3 (fun o ho => (gD_row ho).trans (c4 o ho)) (fun j => ?_)⟩⟩
      by_cases hj : j = m * 36 + i
      · rw [hj, gD_eq, if_pos (by omega)]
      · rw [gD_ne (Or.inr hj), c5 j]
        by_cases h2 : m * 36 ≤ j ∧ j < m * 36 + i
        · rw [if_pos h2, if_pos (by omega)]
        · rw [if_neg h2, if_neg (by omega)]
  rw [show (36 : Int32) = iN 36 from rfl, iN_mul]
  exact go 36 0 37 A6 rfl (by omega) l6 r6 rfl (fun o _ => by rw [d6]) (fun j => by rw [d6, if_neg (by omega)])
theorem r_matFits {K : Bool → Mem → Prop} (hW : MW B) (hb : b < 9) (ht : t < 3) (hx : x < 3) (hy : y < 3) (h : MR B sl dat q s ft A) (k : K (mtB (rMr s) (rMc s) b t x y) A) : wp_Mo_matFits 250 (iN b) (iN t) (iN x) (iN y) A K := by
  have hmm := h.2.2.2.1
  obtain ⟨t1, t2, t3, t4, -⟩ := hmm t ht
  obtain ⟨x1, x2, x3, x4, -⟩ := hmm x hx
  obtain ⟨y1, y2, y3, y4, -⟩ := hmm y hy
  have e38 : gR A 250 38 = 269 := MRg hW h (j := 38) (by omega)
  have e39 : gR A 250 39 = 270 := MRg hW h (j := 39) (by omega)
  have z3 : (0 : Int32) = iN 0 := rfl
  unfold wp_Mo_matFits
  rw [e38, e39, iN_cl (show t < 2147483648 by omega), iN_cl (show x < 2147483648 by omega), iN_cl (show y < 2147483648 by omega), t1, t2, x1, x2, y1, y2, show (3 : Int32) = iN 3 from rfl, show (6 : Int32) = iN 6 from rfl, show (8 : Int32) = iN 8 from rfl, show (2 : Int32) = iN 2 from rfl, z3, iN_le (by omega) (by omega), iN_le (by omega) (by omega), iN_le (by omega) (by omega), iN_lt (by omega) (by omega), iN_eq (by omega) (by omega), iN_eq (by omega) (by omega), iN_eq (by omega) (by omega), iN_eq (by omega) (by omega), iN_eq (by omega) (by omega), iN_eq (by omega) (by omega), iN_eq (by omega) (by omega)]
  have T : mtB (rMr s) (rMc s) b t x y = true → K true A := fun e => by rw [e] at k; exact k
  have F : mtB (rMr s) (rMc s) b t x y = false → K false A := fun e => by rw [e] at k; exact k
  unfold mtB at T F
  refine ⟨fun h3 => ⟨rfl, rfl, iN_in (m := 3) hx (by omega), fun hx0 => ⟨fun h6 => ⟨iN_in (m := 3) hy (by omega), fun hy0 => ⟨fun h8 => ⟨fun hr => F ?_, fun hr => ⟨rfl, iN_in (m := 3) hx (by omega), iN_in (m := 3) hy (by omega), fun hc => F ?_, fun hc => T ?_⟩⟩, fun h8 => ⟨rfl, iN_in (m := 3) hx (by omega), fun hc => F ?_, fun hc => T ?_⟩⟩, fun hy0 => F ?_⟩, fun h6 => T ?_⟩, fun hx0 => F ?_⟩, fun h3 => ⟨rfl, rfl, iN_in (m := 3) ht (by omega), fun h0 => F ?_, fun h0 => ⟨fun h2 => T ?_, fun h2 => ⟨rfl, iN_in (m := 3) ht (by omega), fun hc => F ?_, fun hc => T ?_⟩⟩⟩⟩
  all_goals (repeat' split)
  all_goals first | omega | (apply decide_eq_true; omega) | (apply decide_eq_false; omega)
/-- the sum of products, from the k-th on -/
theorem r_sumF {fu : Nat} {a4 a5 a3 a11 : Int32} {u : UInt64} {K : UInt64 → Mem → Prop} (hW : MW B) (hx : x < 3) (h : MR B sl dat q s ft A) (f0 : ft ≠ 0) (k : K u A) : wp_Mo_matCell_c212 K (fu + 1) 250 (iN x) a3 a4 a5 u a11 A := by
  unfold wp_Mo_matCell_c212
  rw [show gR A 250 39 = 270 from MRg hW h (j := 39) (by omega)]
  exact ⟨rfl, rfl, iN_in (m := 3) hx (by omega), fun _ => k, fun _ => ⟨fun _ => k, fun q => absurd q (MR_n h f0)⟩⟩
theorem r_sum {i j : Nat} {K : UInt64 → Mem → Prop} (hW : MW B) (hx : x < 3) (hy : y < 3) (h : MR B sl dat q s 0 A) (hi : i < rMr s x) (hj : j < rMc s y) (hxy : rMc s x = rMr s y) :
    ∀ (n k fu : Nat) (acc acc' : UInt64), k + n = rMc s x → n + 1 < fu → dz acc acc' → okd acc → (∀ v v', smF (rMe s) x y (i + 1) (j + 1) n (k + 1) acc = some v → dz v v' → okd v → K v' A) → (smF (rMe s) x y (i + 1) (j + 1) n (k + 1) acc = none → ∀ u, K u (sI A 250 27 4)) → wp_Mo_matCell_c212 K fu 250 (iN x) (iN y) (iN i) (iN j) acc' (iN k) A := by
  have hmm := h.2.2.2.1
  obtain ⟨x1, x2, x3, x4, x5⟩ := hmm x hx
  obtain ⟨y1, y2, y3, y4, y5⟩ := hmm y hy
  have e35 : gR A 250 35 = 266 := MRg hW h (j := 35) (by omega)
  have e39 : gR A 250 39 = 270 := MRg hW h (j := 39) (by omega)
  intro n
  induction n with
  | zero =>
    intro k fu acc acc' hk hfu hd ho k1 k2
    obtain ⟨fu, rfl⟩ : ∃ g, fu = g + 1 := ⟨fu - 1, by omega⟩
    unfold wp_Mo_matCell_c212
    rw [e39, iN_cl (show x < 2147483648 by omega), x2, iN_le (by omega) (by omega)]
    exact ⟨rfl, rfl, iN_in (m := 3) hx (by omega), fun _ => k1 acc acc' rfl hd ho, fun q => by omega⟩
  | succ n ih =>
    intro k fu acc acc' hk hfu hd ho k1 k2
    obtain ⟨fu, rfl⟩ : ∃ g, fu = g + 2 := ⟨fu - 2, by omega⟩
    obtain ⟨g1, g2⟩ := x5 i k (by omega) (by omega)
    obtain ⟨f1, f2⟩ := y5 k j (by omega) (by omega)
    have e0 : smF (rMe s) x y (i + 1) (j + 1) (n + 1) (k + 1) acc = (kpF (FP.dmul (rMe s x (i * 6 + k)) (rMe s y (k * 6 + j)))).bind fun q => (kpF (FP.dadd acc q)).bind fun r => smF (rMe s) x y (i + 1) (j + 1) n (k + 1 + 1) r := by
      rw [smF]
      simp only [Nat.add_sub_cancel]
    rw [e0] at k1 k2
    unfold wp_Mo_matCell_c212
    rw [e35, e39, iN_cl (show x < 2147483648 by omega), x2, iN_le (by omega) (by omega), MR_0 h, show (36 : Int32) = iN 36 from rfl, show (6 : Int32) = iN 6 from rfl]
    simp only [iN_mul, iN_add, iN_1]
    rw [iN_cl (show x * 36 + i * 6 + k < 2147483648 by omega), iN_cl (show y * 36 + k * 6 + j < 2147483648 by omega), Nat.add_assoc, Nat.add_assoc (y * 36)]
    have og := dz_okd g1 g2
    have og2 := dz_okd f1 f2
    refine ⟨rfl, rfl, iN_in (m := 3) hx (by omega), fun q => by omega, fun _ => ⟨fun q => absurd trivial q, fun _ => ⟨rfl, iN_in (m := 108) (by omega) (by omega), iN_in (m := 108) (by omega) (by omega), vfn_mul og og2, m_kept (FP.Core.dmul_out (okd_fin og) (okd_fin og2)) (fun r hr ho2 => ?_) (fun hr => ?_)⟩⟩⟩
    · rcases dzO_kp (dz_mul g2 f2 g1 f1) with ⟨e1, e2⟩ | ⟨v, v', e1, e2, e3, e4⟩
      · rw [e2] at hr; cases hr
      · rw [e2] at hr
        have hr := Option.some.inj hr
        subst hr
        rw [e1] at k1 k2
        have k1 : ∀ v_1 v', (kpF (FP.dadd acc v)).bind (fun r => smF (rMe s) x y (i + 1) (j + 1) n (k + 1 + 1) r) = some v_1 → dz v_1 v' → okd v_1 → K v' A := k1
        have k2 : (kpF (FP.dadd acc v)).bind (fun r => smF (rMe s) x y (i + 1) (j + 1) n (k + 1 + 1) r) = none → ∀ u, K u (sI A 250 27 4) := k2
        have oa := dz_okd hd ho
        have ov := dz_okd e3 e4
        rw [MR_0 h]
        refine ⟨fun q => absurd rfl q, fun _ => ⟨vfn_add oa ov, m_kept (FP.Core.dadd_out (okd_nn oa) (okd_fin ov)) (fun r hr ho3 => ?_) (fun hr => ?_)⟩⟩
        · rcases dzO_kp (dz_add ho e4 hd e3) with ⟨d1, d2⟩ | ⟨u, u', d1, d2, d3, d4⟩
          · rw [d2] at hr; cases hr
          · rw [d2] at hr
            have hr := Option.some.inj hr
            subst hr
            rw [d1] at k1 k2
            exact ih (k + 1) (fu + 1) u u' (by omega) (by omega) d3 d4 k1 k2
        · rcases dzO_kp (dz_add ho e4 hd e3) with ⟨d1, d2⟩ | ⟨u, u', d1, d2, d3, d4⟩
          · rw [d1] at k2
            exact r_sumF hW hx (MR_fail (f := 4) h (by omega)) (by decide) (k2 rfl _)
          · rw [d2] at hr; cases hr
    · rcases dzO_kp (dz_mul g2 f2 g1 f1) with ⟨e1, e2⟩ | ⟨v, v', e1, e2, e3, e4⟩
      · rw [e1] at k2
        have h4 := MR_fail (f := 4) h (by omega)
        exact ⟨fun _ => r_sumF hW hx h4 (by decide) (k2 rfl _), fun q => absurd q (MR_n h4 (by decide))⟩
      · rw [e2] at hr; cases hr
/-- an entry -/
theorem r_cell {i j : Nat} {sc sc' : UInt64} {K : UInt64 → Mem → Prop} (hW : MW B) (hb : b < 9) (hx : x < 3) (hy : y < 3) (h : MR B sl dat q s 0 A) (hR : enR (rMr s) (rMc s) b x y (i + 1) (j + 1)) (hxy : b = 6 ∨ b = 7 → rMr s x = rMr s y ∧ rMc s x = rMc s y) (h8 : b = 8 → 0 < rMc s x) (hsc : dz sc sc') (osc : okd sc)
    (k1 : ∀ v v', entF (rMe s) (rMc s) b sc x y (i + 1) (j + 1) = some v → dz v v' → okd v → K v' A) (k2 : entF (rMe s) (rMc s) b sc x y (i + 1) (j + 1) = none → ∀ u, K u (sI A 250 27 4)) : wp_Mo_matCell 250 (iN b) (iN x) (iN y) (iN i) (iN j) sc' A K := by
  have hmm := h.2.2.2.1
  obtain ⟨x1, x2, x3, x4, x5⟩ := hmm x hx
  obtain ⟨y1, y2, y3, y4, y5⟩ := hmm y hy
  have e35 : gR A 250 35 = 266 := MRg hW h (j := 35) (by omega)
  have e39 : gR A 250 39 = 270 := MRg hW h (j := 39) (by omega)
  obtain ⟨r1, r2, r3, r4, r5, r6, r7⟩ := hR
  have keep : ∀ {K : UInt64 → Mem → Prop} {a a' : UInt64} {F : Option UInt64}, dz a a' → FP.Core.dIsNaN a' = false → F = kpF a → (∀ v v', F = some v → dz v v' → okd v → K v' A) → (F = none → ∀ u, K u (sI A 250 27 4)) → wp_Mo_kept 250 a' A K := by
    intro K a a' F hd hn hF g1 g2
    rw [hF] at g1 g2
    refine m_kept hn (fun r hr ho => ?_) (fun hr => ?_)
    · rcases dzO_kp hd with ⟨e1, e2⟩ | ⟨v, v', e1, e2, e3, e4⟩
      · rw [e2] at hr; cases hr
      · rw [e2] at hr
        rw [← Option.some.inj hr]
        exact g1 v v' e1 e3 e4
    · rcases dzO_kp hd with ⟨e1, e2⟩ | ⟨v, v', e1, e2, e3, e4⟩
      · exact g2 e1 _
      · rw [e2] at hr; cases hr
  unfold wp_Mo_matCell
  rw [e35, show (36 : Int32) = iN 36 from rfl, show (6 : Int32) = iN 6 from rfl]
  simp only [iN_mul, iN_add]
  have v1 : al 266 = 108 := rfl
  rcases (by omega : b = 0 ∨ b = 1 ∨ b = 2 ∨ b = 3 ∨ b = 4 ∨ b = 5 ∨ b = 6 ∨ b = 7 ∨ b = 8) with e | e | e | e | e | e | e | e | e <;> subst e
  · exact ⟨fun q => absurd q (by decide), fun _ => k1 FP.dconst0 _ rfl (Or.inl (by decide +kernel)) okd_0⟩
  · exact ⟨fun q => absurd q (by decide), fun _ => k1 FP.dconst1 _ rfl (Or.inl (by decide +kernel)) okd_1⟩
  · have e : entF (rMe s) (rMc s) 2 sc x y (i + 1) (j + 1) = some (if i + 1 = j + 1 then FP.dconst1 else FP.dconst0) := rfl
    rw [e] at k1
    refine ⟨fun _ => ⟨fun q => absurd rfl q, fun _ => ⟨fun g => ?_, fun g => ?_⟩⟩, fun q => absurd (by decide) q⟩
    · rw [iN_eq (by omega) (by omega)] at g
      rw [if_neg (by omega)] at k1
      exact k1 _ _ rfl (dz_rfl _) okd_0
    · rw [iN_eq (by omega) (by omega)] at g
      rw [if_pos (by omega)] at k1
      exact k1 _ _ rfl (dz_rfl _) okd_1
  · obtain ⟨g1, g2⟩ := x5 j i (by omega) (by omega)
    refine ⟨fun _ => ⟨fun _ => ⟨fun q => absurd rfl q, fun _ => ⟨rfl, rfl, iN_in (m := 108) (by omega) (by omega), ?_⟩⟩, fun q => absurd q (by decide)⟩, fun q => absurd (by decide) q⟩
    rw [iN_cl (by omega), Nat.add_assoc]
    exact k1 _ _ rfl g1 g2
  · obtain ⟨g1, g2⟩ := x5 i j (by omega) (by omega)
    refine ⟨fun _ => ⟨fun _ => ⟨fun _ => ⟨fun q => absurd rfl q, fun _ => ⟨rfl, rfl, iN_in (m := 108) (by omega) (by omega), ?_⟩⟩, fun q => absurd q (by decide)⟩, fun q => absurd q (by decide)⟩, fun q => absurd (by decide) q⟩
    rw [iN_cl (by omega)]
    exact ⟨vfn_mul (dz_okd hsc osc) (dz_okd g1 g2), keep (dz_mul osc g2 hsc g1) (FP.Core.dmul_out (okd_fin (dz_okd hsc osc)) (okd_fin (dz_okd g1 g2))) rfl k1 k2⟩
  · obtain ⟨g1, g2⟩ := x5 i j (by omega) (by omega)
    refine ⟨fun _ => ⟨fun _ => ⟨fun _ => ⟨fun _ => ⟨fun q => absurd rfl q, fun _ => ⟨rfl, rfl, iN_in (m := 108) (by omega) (by omega), ?_⟩⟩, fun q => absurd q (by decide)⟩, fun q => absurd q (by decide)⟩, fun q => absurd q (by decide)⟩, fun q => absurd (by decide) q⟩
    rw [iN_cl (by omega)]
    exact k1 _ _ rfl g1 g2
  · obtain ⟨g1, g2⟩ := x5 i j (by omega) (by omega)
    obtain ⟨e1, e2⟩ := hxy (Or.inl rfl)
    obtain ⟨f1, f2⟩ := y5 i j (by omega) (by omega)
    refine ⟨fun _ => ⟨fun _ => ⟨fun _ => ⟨fun _ => ⟨fun _ => ⟨fun q => absurd rfl q, fun _ => ⟨rfl, rfl, iN_in (m := 108) (by omega) (by omega), iN_in (m := 108) (by omega) (by omega), ?_⟩⟩, fun q => absurd q (by decide)⟩, fun q => absurd q (by decide)⟩, fun q => absurd q (by decide)⟩, fun q => absurd q (by decide)⟩, fun q => absurd (by decide) q⟩
    rw [iN_cl (show x * 36 + (i * 6 + j) < 2147483648 by omega), iN_cl (show y * 36 + (i * 6 + j) < 2147483648 by omega)]
    exact ⟨vfn_add (dz_okd g1 g2) (dz_okd f1 f2), keep (dz_add g2 f2 g1 f1) (FP.Core.dadd_out (okd_nn (dz_okd g1 g2)) (okd_fin (dz_okd f1 f2))) rfl k1 k2⟩
  · obtain ⟨g1, g2⟩ := x5 i j (by omega) (by omega)
    obtain ⟨e1, e2⟩ := hxy (Or.inr rfl)
    obtain ⟨f1, f2⟩ := y5 i j (by omega) (by omega)
    refine ⟨fun _ => ⟨fun _ => ⟨fun _ => ⟨fun _ => ⟨fun _ => ⟨fun _ => ⟨fun q => absurd rfl q, fun _ => ⟨rfl, rfl, iN_in (m := 108) (by omega) (by omega), iN_in (m := 108) (by omega) (by omega), ?_⟩⟩, fun q => absurd q (by decide)⟩, fun q => absurd q (by decide)⟩, fun q => absurd q (by decide)⟩, fun q => absurd q (by decide)⟩, fun q => absurd q (by decide)⟩, fun q => absurd (by decide) q⟩
    rw [iN_cl (show x * 36 + (i * 6 + j) < 2147483648 by omega), iN_cl (show y * 36 + (i * 6 + j) < 2147483648 by omega)]
    exact ⟨vfn_sub (dz_okd g1 g2) (dz_okd f1 f2), keep (dz_sub g2 f2 g1 f1) (FP.Core.dsub_out (okd_nn (dz_okd g1 g2)) (okd_fin (dz_okd f1 f2))) rfl k1 k2⟩
  · obtain ⟨q1, q2, q3⟩ := r7 rfl
    have hc0 := h8 rfl
    obtain ⟨n, hn⟩ : ∃ n, rMc s x = n + 1 := ⟨rMc s x - 1, by omega⟩
    obtain ⟨g1, g2⟩ := x5 i 0 (by omega) (by omega)
    obtain ⟨f1, f2⟩ := y5 0 j (by omega) (by omega)
    rw [show 0 * 6 + j = j by omega] at f1 f2
    rw [Nat.add_zero] at g1 g2
    have ee : entF (rMe s) (rMc s) 8 sc x y (i + 1) (j + 1) = smF (rMe s) x y (i + 1) (j + 1) (n + 1) 1 FP.dconst0 := by
      rw [← hn]; rfl
    rw [ee] at k1 k2
    have e0 : smF (rMe s) x y (i + 1) (j + 1) (n + 1) 1 FP.dconst0 = (kpF (FP.dmul (rMe s x (i * 6)) (rMe s y j))).bind fun q => (kpF (FP.dadd FP.dconst0 q)).bind fun r => smF (rMe s) x y (i + 1) (j + 1) n 2 r := by
      rw [smF]
      simp only [Nat.add_sub_cancel, Nat.sub_self, Nat.add_zero, Nat.zero_mul, Nat.zero_add]
    rw [e0] at k1 k2
    refine ⟨fun _ => ⟨fun _ => ⟨fun _ => ⟨fun _ => ⟨fun _ => ⟨fun _ => ⟨fun _ => ⟨rfl, rfl, iN_in (m := 108) (by omega) (by omega), iN_in (m := 108) (by omega) (by omega), ?_⟩, fun q => absurd q (by decide)⟩, fun q => absurd q (by decide)⟩, fun q => absurd q (by decide)⟩, fun q => absurd q (by decide)⟩, fun q => absurd q (by decide)⟩, fun q => absurd q (by decide)⟩, fun q => absurd (by decide) q⟩
    rw [iN_cl (show x * 36 + i * 6 < 2147483648 by omega), iN_cl (show y * 36 + j < 2147483648 by omega)]
    refine ⟨vfn_mul (dz_okd g1 g2) (dz_okd f1 f2), keep (dz_mul g2 f2 g1 f1) (FP.Core.dmul_out (okd_fin (dz_okd g1 g2)) (okd_fin (dz_okd f1 f2))) rfl (fun v v' hv hdv ov => ?_) (fun hv u => ?_)⟩
    · rw [hv] at k1 k2
      have hz : dz (FP.dadd FP.dconst0 v) v := fz_zadd ov ((fk_zero _).mpr (by decide +kernel))
      have oz : okd (FP.dadd FP.dconst0 v) := dz_okd (dz_sym hz) ov
      have k1 : ∀ v_1 v', (kpF (FP.dadd FP.dconst0 v)).bind (fun r => smF (rMe s) x y (i + 1) (j + 1) n 2 r) = some v_1 → dz v_1 v' → okd v_1 → K v' A := k1
      have k2 : (kpF (FP.dadd FP.dconst0 v)).bind (fun r => smF (rMe s) x y (i + 1) (j + 1) n 2 r) = none → ∀ u, K u (sI A 250 27 4) := k2
      rw [kpF_ok oz] at k1 k2
      exact ⟨n + 2, r_sum hW hx hy h (by omega) (by omega) (by omega) n 1 (n + 2) _ v' (by omega) (by omega) (dz_trans hz hdv) oz k1 k2⟩
    · rw [hv] at k2
      exact ⟨1, r_sumF hW hx (MR_fail (f := 4) h (by omega)) (by decide) (k2 rfl u)⟩
end RM5
