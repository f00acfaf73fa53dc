/-! what holds between two calls -/
/-- the last run's results, the class's next to the reference's -/
def InvR (A : Mem) : Prop := (gI A 5 8 = gI A 250 16 ∧ gI A 5 9 = gI A 250 17 ∧ gI A 5 10 = gI A 250 26 ∧ gI A 20 0 = gI A 250 23 ∧ gI A 5 5 = gI A 250 22 ∧ gI A 5 6 - gI A 5 7 = gI A 250 21) ∧
  (∃ n, gI A 5 4 = iN n ∧ gI A 250 18 = iN n ∧ n ≤ 400 ∧ ∀ k, k < n → k < 40 → dz (gD A 25 k) (gD A 259 k) ∧ okd (gD A 25 k)) ∧ (∀ i, i < 26 → dz (gD A 9 i) (gD A 260 i)) ∧
  ∀ m, m < 3 → ∃ r c, gI A (12 + m) 0 = iN r ∧ gI A (12 + m) 1 = iN c ∧ gI A 269 m = iN r ∧ gI A 270 m = iN c ∧ r ≤ 6 ∧ c ≤ 6 ∧ ∀ i j, i < r → j < c → dz (gD A (16 + m) (i * 6 + j)) (gD A 266 (m * 36 + (i * 6 + j))) ∧ okd (gD A (16 + m) (i * 6 + j))
def Inv0 (P : PT) (sl : List Nat) (A : Mem) : Prop := (WC A ∧ MW A) ∧ (PC A P ∧ PMs A P sl ∧ Psr P ∧ PLd P) ∧ ((∀ i, okd (gD A 9 i)) ∧ ∃ vm st ft, EvM A vm st [] ft A) ∧ InvR A
def Inv (A : Mem) : Prop := ∃ tl P sl, (TC A tl ∧ TMd A tl ∧ gI A 1 2 = gI A 250 3) ∧ Inv0 P sl A
section INV
variable {A A' : Mem} {P : PT} {sl : List Nat} {tl : List Int32}
theorem InvR_cg (h : InvR A) (eI : ∀ o, o ≠ 1 → o ≠ 2 → o ≠ 250 → o ≠ 251 → gI A' o = gI A o) (e0 : ∀ k, 4 ≤ k → gI A' 250 k = gI A 250 k) (eD : ∀ o, o ≠ 29 → gD A' o = gD A o) : InvR A' := by
  unfold InvR
  rw [eI 5 (by omega) (by omega) (by omega) (by omega), eI 20 (by omega) (by omega) (by omega) (by omega), eI 269 (by omega) (by omega) (by omega) (by omega), eI 270 (by omega) (by omega) (by omega) (by omega), e0 16 (by omega), e0 17 (by omega), e0 26 (by omega), e0 23 (by omega), e0 22 (by omega), e0 21 (by omega), e0 18 (by omega), eD 25 (by omega), eD 259 (by omega), eD 9 (by omega), eD 260 (by omega), eD 266 (by omega)]
  refine ⟨h.1, h.2.1, h.2.2.1, fun m hm => ?_⟩
  rw [eI (12 + m) (by omega) (by omega) (by omega) (by omega), eD (16 + m) (by omega)]
  exact h.2.2.2 m hm
theorem Inv0_cg (h : Inv0 P sl A) (eR : gR A' = gR A) (eI : ∀ o, o ≠ 1 → o ≠ 2 → o ≠ 250 → o ≠ 251 → gI A' o = gI A o) (e0 : ∀ k, 4 ≤ k → gI A' 250 k = gI A 250 k) (eD : ∀ o, o ≠ 29 → gD A' o = gD A o) : Inv0 P sl A' := by
  obtain ⟨⟨w1, w2⟩, ⟨⟨p1, p2, p3, p4, p5, p6⟩, m, ps, pl⟩, ⟨o, vm, st, ft, he⟩, hr⟩ := h
  have eln : ∀ i, ln A' i = ln A i := fun i => by unfold ln; rw [eR]
  refine ⟨⟨by unfold WC; rw [eR]; exact w1, by unfold MW; rw [eR]; exact w2⟩, ⟨⟨p1, by rw [eI 6 (by omega) (by omega) (by omega) (by omega)]; exact p2, by rw [eR]; exact p3, fun i hi => by rw [eln]; exact p4 i hi, fun i j hi hj => by rw [eln, eln]; exact p5 i j hi hj, fun i v d hp => ?_⟩, ?_, ps, pl⟩, ⟨by rw [eD 9 (by omega)]; exact o, gD A' 260, st, ft, ?_⟩, InvR_cg hr eI e0 eD⟩
  · rw [eln]
    have hl := (List.getElem?_eq_some_iff.mp hp).1
    have hr' := p4 i (by omega)
    exact CLv_cg (p6 i v d hp) (eI _ (by omega) (by omega) (by omega) (by omega)) (eI _ (by omega) (by omega) (by omega) (by omega)) (eI _ (by omega) (by omega) (by omega) (by omega)) (eI _ (by omega) (by omega) (by omega) (by omega)) (eI _ (by omega) (by omega) (by omega) (by omega)) (by rw [eR])
  · exact PMs_cg m (fun k _ => by rw [eI 253 (by omega) (by omega) (by omega) (by omega)]) (fun k _ => by rw [eI 254 (by omega) (by omega) (by omega) (by omega)]) (fun k _ => by rw [eI 255 (by omega) (by omega) (by omega) (by omega)]) (fun k _ => by rw [eI 256 (by omega) (by omega) (by omega) (by omega)]) (fun k _ => by rw [eI 257 (by omega) (by omega) (by omega) (by omega)])
  · obtain ⟨-, ⟨b1, b2, b3, b4, b5, b6⟩, c1, c2, c3⟩ := he
    exact ⟨⟨rfl, rfl, fun _ _ _ _ => rfl, fun _ _ _ _ => rfl, fun _ _ _ _ => rfl⟩, ⟨rfl, (e0 27 (by omega)).trans b2, b3, (e0 24 (by omega)).trans b4, b5, trivial⟩, (e0 25 (by omega)).trans c1, c2, by rw [eD 261 (by omega)]; exact c3⟩
/-- the reference's code is set, an answer is left -/
theorem Inv_0 (h : Inv A) (eR : gR A' = gR A) (eI : ∀ o, o ≠ 250 → gI A' o = gI A o) (e0 : ∀ k, 1 ≤ k → gI A' 250 k = gI A 250 k) (eD : ∀ o, o ≠ 29 → gD A' o = gD A o) : Inv A' := by
  obtain ⟨tl, P, sl, ⟨⟨t1, t2, t3, t4⟩, ⟨u1, u2, u3, u4⟩, he⟩, h0⟩ := h
  refine ⟨tl, P, sl, ⟨⟨t1, by rw [eI 1 (by omega)]; exact t2, by rw [eI 2 (by omega)]; exact t3, t4⟩, ⟨u1, (e0 1 (by omega)).trans u2, by rw [eI 251 (by omega)]; exact u3, u4⟩, ?_⟩, Inv0_cg h0 eR (fun o _ _ h3 _ => eI o h3) (fun k hk => e0 k (by omega)) eD⟩
  rw [eI 1 (by omega), e0 3 (by omega)]; exact he
theorem Inv_c {c : Int32} (h : Inv A) : Inv (sI A 250 0 c) := Inv_0 h rfl (fun o ho => gI_row ho) (fun k hk => gI_ne (Or.inr (by omega))) (fun _ _ => rfl)
theorem Inv_L {v : Int64} (h : Inv A) : Inv (sL A 28 0 v) := Inv_0 h rfl (fun _ _ => rfl) (fun _ _ => rfl) (fun _ _ => rfl)
theorem Inv_D {v : UInt64} (h : Inv A) : Inv (sD A 29 0 v) := Inv_0 h rfl (fun _ _ => rfl) (fun _ _ => rfl) (fun o ho => gD_row ho)
theorem nar7 : ∀ n, n < 128 → vp_nar .char ((Int32.toUInt32 (iN n) % 65536).toInt32) = iN n := by decide +kernel
theorem t_type {z : Int32} (h : Inv A) : wp_La_type z A (fun k A1 => wp_Mo_type 250 z A1 (fun b A2 => wp_Mo_thrown 250 A2 (fun t A3 => t = k ∧ (k = 0 → gL A3 28 0 = b.toInt64) ∧ Inv A3))) := by
  have h' := h
  obtain ⟨tl, P, sl, ⟨⟨t1, t2, t3, t4⟩, ⟨u1, u2, u3, u4⟩, he⟩, h0⟩ := h'
  have w1 := h0.1.1.1.1
  have m8 := h0.1.2.1 8 (by omega) (by omega)
  unfold wp_La_type wp_BM_type wp_Mo_type wp_Mo_refuse wp_Mo_fine wp_Mo_thrown
  rw [t2, show (60 : Int32) = iN 60 from rfl, iN_lt (by omega) (by omega), w1, iN_cl (show tl.length < 2147483648 by omega)]
  have bad : ∀ c : Int32, c ≠ 0 → kd 250 = 9 ∧ kd 250 = 9 ∧ (gI (sI A 250 0 c) 250 0 = c ∧ (c = 0 → gL (sI A 250 0 c) 28 0 = (0 : Int32).toInt64) ∧ Inv (sI A 250 0 c)) := fun c hc => ⟨rfl, rfl, gI_eq, fun q => absurd q hc, Inv_c h⟩
  refine ⟨fun hn => Or.inl ⟨rfl, fun _ => ⟨rfl, bad 1 (by decide)⟩, fun q => absurd hn q⟩, fun hn => ⟨fun hle => ⟨rfl, fun hlt => ⟨rfl, iN_in (m := 60) hlt (by omega), fun A4 e4 => ?_⟩, fun hge => Or.inr ⟨rfl, fun q => absurd q hn, fun _ => ⟨fun _ => ⟨rfl, fun hne => ?_, fun he => bad 2 (by decide)⟩, fun q => absurd hle q⟩⟩⟩, fun hgt => Or.inl ⟨rfl, fun q => absurd q hn, fun _ => ⟨fun q => absurd q hgt, fun _ => ⟨rfl, bad 1 (by decide)⟩⟩⟩⟩⟩
  · -- a character is laid down in both
    have hz0 : 0 ≤ z := Int32.not_lt.mp hn
    have ez := iN_of hz0
    have hz : z.toNatClampNeg < 128 := by
      rw [ez, show (127 : Int32) = iN 127 from rfl, iN_le (Int32.toNatClampNeg_lt z) (by omega)] at hle
      omega
    have hnar : vp_nar .char ((Int32.toUInt32 z % 65536).toInt32) = z := by
      rw [ez]; exact nar7 _ hz
    rw [hnar, show gI (sI A 2 tl.length z) 1 1 = iN tl.length from (gI_ne (by omega)).trans t2, iN_1] at e4
    rw [hnar]
    have e41 : gI A4 1 1 = iN (tl.length + 1) := by rw [e4, gI_eq]
    have f1 : gI (sL A4 28 0 (gI A4 1 1).toInt64) 250 1 = iN tl.length := by
      show gI A4 250 1 = _
      rw [e4, gI_ne (by omega), gI_ne (by omega)]; exact u2
    have f8 : gR (sL A4 28 0 (gI A4 1 1).toInt64) 250 8 = 251 := by rw [e4]; exact m8
    refine ⟨fun q => absurd q hn, fun _ => ⟨fun _ => ⟨rfl, fun _ => ?_, fun q => ?_⟩, fun q => absurd hle q⟩⟩
    case refine_2 =>
      rw [f1, iN_eq (by omega) (by omega)] at q
      omega
    rw [f1, f8, iN_cl (show tl.length < 2147483648 by omega)]
    refine ⟨rfl, iN_in (m := 60) hlt (by omega), fun A7 e7 => ?_⟩
    rw [show gI (sI (sL A4 28 0 (gI A4 1 1).toInt64) 251 tl.length z) 250 1 = iN tl.length from (gI_ne (by omega)).trans f1, iN_1] at e7
    refine ⟨rfl, rfl, ?_⟩
    have e71 : gI A7 250 1 = iN (tl.length + 1) := by rw [e7, gI_eq]
    rw [gI_eq, e71]
    refine ⟨rfl, fun _ => ?_, ?_⟩
    · rw [e7, e41]; exact gL_eq
    · have gi : ∀ o, o ≠ 1 → o ≠ 2 → o ≠ 250 → o ≠ 251 → gI (sI A7 250 0 0) o = gI A o := fun o h1 h2 h3 h4 => by
        rw [e7, e4, gI_row h3, gI_row h3, gI_row h4]
        show gI (sI (sI A 2 tl.length z) 1 1 (iN (tl.length + 1))) o = _
        rw [gI_row h1, gI_row h2]
      have gk : ∀ k, 2 ≤ k → gI (sI A7 250 0 0) 250 k = gI A 250 k := fun k hk => by
        rw [e7, e4, gI_ne (by omega), gI_ne (by omega), gI_ne (by omega)]
        show gI (sI (sI A 2 tl.length z) 1 1 (iN (tl.length + 1))) 250 k = _
        rw [gI_ne (by omega), gI_ne (by omega)]
      have g1 : gI (sI A7 250 0 0) 1 = us (gI A 1) 1 (iN (tl.length + 1)) := by
        rw [e7, e4, gI_row (by omega), gI_row (by omega), gI_row (by omega)]
        show gI (sI (sI A 2 tl.length z) 1 1 (iN (tl.length + 1))) 1 = _
        rw [gI_us2, gI_row (by omega)]
      have g2 : gI (sI A7 250 0 0) 2 = us (gI A 2) tl.length z := by
        rw [e7, e4, gI_row (by omega), gI_row (by omega), gI_row (by omega)]
        show gI (sI (sI A 2 tl.length z) 1 1 (iN (tl.length + 1))) 2 = _
        rw [gI_row (by omega), gI_us2]
      have g251 : gI (sI A7 250 0 0) 251 = us (gI A 251) tl.length z := by
        rw [e7, e4, gI_row (by omega), gI_row (by omega), gI_us2]
        show us (gI (sI (sI A 2 tl.length z) 1 1 (iN (tl.length + 1))) 251) tl.length z = _
        rw [gI_row (by omega), gI_row (by omega)]
      have get : ∀ k, (tl ++ [z]).getD k 0 = if k < tl.length then tl.getD k 0 else if k = tl.length then z else 0 := fun k => by
        rw [List.getD_eq_getElem?_getD, List.getD_eq_getElem?_getD]
        by_cases hk : k < tl.length
        · rw [if_pos hk, List.getElem?_append_left hk]
        · rw [if_neg hk]
          by_cases hk2 : k = tl.length
          · rw [if_pos hk2, hk2, List.getElem?_append_right (Nat.le_refl _), Nat.sub_self]; rfl
          · rw [if_neg hk2, List.getElem?_append_right (by omega), List.getElem?_eq_none (by simp only [List.length_singleton]; omega)]; rfl
      have hl : (tl ++ [z]).length = tl.length + 1 := by rw [List.length_append, List.length_singleton]
      refine ⟨tl ++ [z], P, sl, ⟨⟨by rw [hl]; omega, by rw [g1, us_eq, hl], fun k hk => ?_, fun k hk => ?_⟩, ⟨by rw [hl]; omega, by rw [gI_ne (by omega), e71, hl], fun k hk => ?_, fun k hk => ?_⟩, ?_⟩, Inv0_cg h0 (by rw [e7, e4]; rfl) gi (fun k hk => gk k (by omega)) (fun o _ => by rw [e7, e4]; rfl)⟩
      · rw [g2, get]
        by_cases hk2 : k < tl.length
        · rw [if_pos hk2, us_ne (by omega)]; exact t3 k hk2
        · rw [if_neg hk2, if_pos (by omega), show k = tl.length by omega, us_eq]
      · rw [get]
        by_cases hk2 : k < tl.length
        · rw [if_pos hk2]; exact t4 k hk2
        · rw [if_neg hk2, if_pos (by omega)]; exact ⟨hz0, hle⟩
      · rw [g251, get]
        by_cases hk2 : k < tl.length
        · rw [if_pos hk2, us_ne (by omega)]; exact u3 k hk2
        · rw [if_neg hk2, if_pos (by omega), show k = tl.length by omega, us_eq]
      · rw [get]
        by_cases hk2 : k < tl.length
        · rw [if_pos hk2]; exact t4 k hk2
        · rw [if_neg hk2, if_pos (by omega)]; exact ⟨hz0, hle⟩
      · rw [g1, us_ne (by omega), gk 3 (by omega)]; exact he
  · rw [u2, iN_eq (by omega) (by omega)] at hne
    omega
theorem t_errorAt (h : Inv A) : wp_BM_errorAt 1 A (fun r A1 => wp_Mo_errorAt 250 A1 (fun b A2 => r = b ∧ Inv A2)) := by
  have h' := h
  obtain ⟨tl, P, sl, ⟨-, -, he⟩, h0⟩ := h'
  exact ⟨rfl, rfl, rfl, he, Inv_c h⟩
theorem t_at (h : Inv A) : wp_BM_at 1 A (fun r A1 => wp_Mo_at 250 A1 (fun b A2 => r = b ∧ Inv A2)) := by
  have h' := h
  obtain ⟨tl, P, sl, -, h0⟩ := h'
  have w4 : gR A 1 4 = 5 := h0.1.1.1.2.2.1
  unfold wp_BM_at
  rw [w4]
  exact ⟨rfl, rfl, rfl, rfl, h0.2.2.2.1.2.1, Inv_c h⟩
end INV
