section RC9
variable {B A : Mem} {P : PT} {K : Mem → Prop}
/-- what clear leaves -/
def Clr (A A' : Mem) : Prop := gL A' = gL A ∧ (∀ o, o ≠ 8 → (o < 12 ∨ 14 < o) → gI A' o = gI A o) ∧ (∀ k, k ≠ 8 → gI A' 8 k = gI A 8 k) ∧ gI A' 8 8 = 0 ∧ (∀ m, m < 3 → gI A' (12 + m) 0 = 0 ∧ gI A' (12 + m) 1 = 0) ∧ (∀ o, o ≠ 8 → o ≠ 10 → gR A' o = gR A o) ∧ (∀ k, k ≠ 0 → gR A' 8 k = gR A 8 k) ∧ gR A' 8 0 = 1200 ∧ (∀ f, f < 3 → gR A' 10 f = 0) ∧
  (∀ o, o ≠ 9 → (o < 16 ∨ 18 < o) → gD A' o = gD A o) ∧ (∀ k, gD A' 9 k = if k < 26 then FP.dconst0 else gD A 9 k) ∧ ∀ m i, m < 3 → i < 36 → gD A' (16 + m) i = FP.dconst0
theorem c_clear (hW : WC A) (k : ∀ A', Clr A A' → K A') : wp_Ca_clear 8 A K := by
  have hw8 := hW.2.2.1
  -- the functions, then the three matrices
  have fns : ∀ (j i fu : Nat) (C : Mem), i + j = 3 → j < fu → gL C = gL A → gI C = gI (sI (sR A 8 0 1200) 8 8 0) → (∀ o, o ≠ 8 → o ≠ 10 → gR C o = gR A o) → (∀ k, k ≠ 0 → gR C 8 k = gR A 8 k) → gR C 8 0 = 1200 → (∀ f, f < i → gR C 10 f = 0) → (∀ o, o ≠ 9 → gD C o = gD A o) → (∀ k, gD C 9 k = if k < 26 then FP.dconst0 else gD A 9 k) → wp_Ca_clear_c38 K fu 8 (iN i) C := by
    intro j
    induction j with
    | zero =>
      intro i fu C hi hfu c1 c2 c3 c4 c5 c6 c7 c8
      obtain ⟨fu, rfl⟩ : ∃ g, fu = g + 1 := ⟨fu - 1, by omega⟩
      have hWC : WC C := by
        obtain ⟨⟨w1, w2, w3, w4⟩, ⟨b1, b2, b3, b4, b5, b6⟩, ⟨d1, d2, d3, d4, d5, d6, d7⟩, ⟨e1, e2, e3, e4⟩, ⟨f1, f2, f3, f4⟩, g⟩ := hW
        unfold WC
        rw [c3 1 (by omega) (by omega), c3 3 (by omega) (by omega), c3 5 (by omega) (by omega), c3 12 (by omega) (by omega), c3 13 (by omega) (by omega), c3 14 (by omega) (by omega), c3 15 (by omega) (by omega), c3 20 (by omega) (by omega), c4 1 (by omega), c4 2 (by omega), c4 3 (by omega), c4 4 (by omega), c4 5 (by omega), c4 6 (by omega), c4 7 (by omega)]
        exact ⟨⟨w1, w2, w3, w4⟩, ⟨b1, b2, b3, b4, b5, b6⟩, ⟨d1, d2, d3, d4, d5, d6, d7⟩, ⟨e1, e2, e3, e4⟩, ⟨f1, f2, f3, f4⟩, fun L h1 h2 => by rw [c3 L (by omega) (by omega)]; exact g L h1 h2⟩
      unfold wp_Ca_clear_c38
      rw [c4 6 (by omega), hw8.2.2.2.2.2.1, c4 2 (by omega), hw8.2.1, show Int32.ofNat (al 10) = iN 3 from rfl, iN_le (by omega) (by omega)]
      refine ⟨rfl, rfl, fun _ => ⟨rfl, n_shape (m := 0) hWC (by omega) (fun A7 h7 => ?_)⟩, fun q => by omega⟩
      obtain ⟨s1, s2, s3, s4, s5, s6, s7⟩ := h7
      have hW7 : WC A7 := by unfold WC; rw [s2]; exact hWC
      rw [s2, c4 3 (by omega), hw8.2.2.1]
      refine ⟨rfl, n_shape (m := 1) hW7 (by omega) (fun A9 h9 => ?_)⟩
      obtain ⟨t1, t2, t3, t4, t5, t6, t7⟩ := h9
      have hW9 : WC A9 := by unfold WC; rw [t2]; exact hW7
      rw [t2, s2, c4 4 (by omega), hw8.2.2.2.1]
      refine ⟨rfl, n_shape (m := 2) hW9 (by omega) (fun A11 h11 => ?_)⟩
      obtain ⟨u1, u2, u3, u4, u5, u6, u7⟩ := h11
      have eI : ∀ o, (o < 12 ∨ 14 < o) → gI A11 o = gI C o := fun o ho => (u3 o (by omega)).trans ((t3 o (by omega)).trans (s3 o (by omega)))
      have eD : ∀ o, (o < 16 ∨ 18 < o) → gD A11 o = gD C o := fun o ho => (u6 o (by omega)).trans ((t6 o (by omega)).trans (s6 o (by omega)))
      have eR : gR A11 = gR C := u2.trans (t2.trans s2)
      refine k A11 ⟨u1.trans (t1.trans (s1.trans c1)), fun o h8 ho => ?_, fun j hj => ?_, ?_, fun m hm => ?_, fun o h8 h10 => by rw [eR]; exact c3 o h8 h10, fun j hj => by rw [eR]; exact c4 j hj, by rw [eR]; exact c5, fun f hf => by rw [eR]; exact c6 f (by omega), fun o h9 ho => (eD o ho).trans (c7 o h9), fun j => by rw [eD 9 (by omega)]; exact c8 j, fun m i hm hi => ?_⟩
      · rw [eI o ho, c2, gI_row h8]; rfl
      · rw [eI 8 (by omega), c2, gI_ne (Or.inr hj)]; rfl
      · rw [eI 8 (by omega), c2, gI_eq]
      · rcases (by omega : m = 0 ∨ m = 1 ∨ m = 2) with e | e | e <;> subst e
        · rw [u3 _ (by omega), t3 _ (by omega)]; exact ⟨s4, s5⟩
        · rw [u3 _ (by omega)]; exact ⟨t4, t5⟩
        · exact ⟨u4, u5⟩
      · rcases (by omega : m = 0 ∨ m = 1 ∨ m = 2) with e | e | e <;> subst e
        · rw [u6 _ (by omega), t6 _ (by omega)]; exact s7 i hi
        · rw [u6 _ (by omega)]; exact t7 i hi
        · exact u7 i hi
    | succ j ih =>
      intro i fu C hi hfu c1 c2 c3 c4 c5 c6 c7 c8
      obtain ⟨fu, rfl⟩ : ∃ g, fu = g + 1 := ⟨fu - 1, by omega⟩
      unfold wp_Ca_clear_c38
      rw [c4 6 (by omega), hw8.2.2.2.2.2.1, show Int32.ofNat (al 10) = iN 3 from rfl, iN_le (by omega) (by omega), iN_cl (show i < 2147483648 by omega), iN_1]
      refine ⟨rfl, rfl, fun q => by omega, fun _ => ⟨iN_in (m := 3) (by omega) (by omega), ih (i + 1) fu _ (by omega) (by omega) c1 c2 (fun o h8 h10 => ?_) (fun j hj => ?_) ?_ (fun f hf => ?_) c7 c8⟩⟩
      · rw [show gR (sR C 10 i 0) o = gR C o from funext fun _ => gR_ne (Or.inl h10)]; exact c3 o h8 h10
      · rw [gR_ne (Or.inl (by omega))]; exact c4 j hj
      · rw [gR_ne (Or.inl (by omega))]; exact c5
      · by_cases hfi : f = i
        · rw [hfi, gR_eq]
        · rw [gR_ne (Or.inr hfi)]; exact c6 f (by omega)
  have vrs : ∀ (j i fu : Nat) (C : Mem), i + j = 26 → j < fu → gL C = gL A → gI C = gI (sI (sR A 8 0 1200) 8 8 0) → gR C = gR (sR A 8 0 1200) → (∀ o, o ≠ 9 → gD C o = gD A o) → (∀ k, gD C 9 k = if k < i then FP.dconst0 else gD A 9 k) → wp_Ca_clear_c14 K fu 8 (iN i) C := by
    intro j
    induction j with
    | zero =>
      intro i fu C hi hfu c1 c2 c3 c4 c5
      obtain ⟨fu, rfl⟩ : ∃ g, fu = g + 1 := ⟨fu - 1, by omega⟩
      have hi : i = 26 := by omega
      subst hi
      unfold wp_Ca_clear_c14
      rw [c3, gR_ne (Or.inr (by omega)), hw8.1, show Int32.ofNat (al 9) = iN 26 from rfl, iN_le (by omega) (by omega)]
      refine ⟨rfl, rfl, fun _ => ⟨4, fns 3 0 4 C rfl (by omega) c1 c2 (fun o h8 h10 => ?_) (fun j hj => ?_) ?_ (fun f hf => by omega) c4 c5⟩, fun q => by omega⟩
      · rw [c3]; exact funext fun _ => gR_ne (Or.inl h8)
      · rw [c3]; exact gR_ne (Or.inr hj)
      · rw [c3]; exact gR_eq
    | succ j ih =>
      intro i fu C hi hfu c1 c2 c3 c4 c5
      obtain ⟨fu, rfl⟩ : ∃ g, fu = g + 1 := ⟨fu - 1, by omega⟩
      unfold wp_Ca_clear_c14
      rw [c3, gR_ne (Or.inr (by omega)), hw8.1, show Int32.ofNat (al 9) = iN 26 from rfl, iN_le (by omega) (by omega), iN_cl (show i < 2147483648 by omega), iN_1]
      refine ⟨rfl, rfl, fun q => by omega, fun _ => ⟨iN_in (m := 26) (by omega) (by omega), ih (i + 1) fu _ (by omega) (by omega) c1 c2 c3 (fun o ho => (gD_row ho).trans (c4 o ho)) (fun j => ?_)⟩⟩
      by_cases hj : j = i
      · rw [hj, gD_eq, if_pos (by omega)]
      · rw [gD_ne (Or.inr hj), c5 j]
        by_cases h2 : j < i
        · rw [if_pos h2, if_pos (by omega)]
        · rw [if_neg h2, if_neg (by omega)]
  exact ⟨rfl, 27, vrs 26 0 27 _ rfl (by omega) rfl rfl rfl (fun _ _ => rfl) (fun j => by rw [if_neg (by omega)]; rfl)⟩
/-- the state that a run begins with -/
def s0R (B : Mem) : RS := (fun k => if k < 26 then FP.dconst0 else gD B 9 k, fun _ => 0, fun _ => 0, fun _ _ => FP.dconst0, fun _ => none, [], [], 0, [], 0)
theorem CR_clear {A' : Mem} (hk : ∀ i, okd (gD B 9 i)) (h : Clr B A') : CR B [] (gI (sI (sI B 5 8 0) 5 9 (-1)) 5) (s0R B) 0 (sI (sI (sI (sI (sI (sI (sI (sI A' 20 0 0) 5 5 0) 5 4 0) 5 8 0) 5 9 (-1)) 5 14 0) 5 6 0) 5 7 0) := by
  obtain ⟨a1, a2, a3, a4, a5, a6, a7, a8, a9, a10, a11, a12⟩ := h
  have i5 : ∀ j, gI A' 5 j = gI B 5 j := fun j => congrFun (a2 5 (by omega) (by omega)) j
  have eI : ∀ o, o ≠ 5 → o ≠ 20 → gI (sI (sI (sI (sI (sI (sI (sI (sI A' 20 0 0) 5 5 0) 5 4 0) 5 8 0) 5 9 (-1)) 5 14 0) 5 6 0) 5 7 0) o = gI A' o := fun o h5 h20 => by
    rw [gI_row h5, gI_row h5, gI_row h5, gI_row h5, gI_row h5, gI_row h5, gI_row h5, gI_row h20]
  have e5 : ∀ j, j ≠ 4 → j ≠ 5 → j ≠ 6 → j ≠ 7 → j ≠ 8 → j ≠ 9 → j ≠ 14 → gI (sI (sI (sI (sI (sI (sI (sI (sI A' 20 0 0) 5 5 0) 5 4 0) 5 8 0) 5 9 (-1)) 5 14 0) 5 6 0) 5 7 0) 5 j = gI B 5 j := fun j h4 h5 h6 h7 h8 h9 h14 => by
    rw [gI_ne (Or.inr h7), gI_ne (Or.inr h6), gI_ne (Or.inr h14), gI_ne (Or.inr h9), gI_ne (Or.inr h8), gI_ne (Or.inr h4), gI_ne (Or.inr h5), gI_ne (Or.inl (by omega)), i5]
  refine ⟨⟨a1, fun o h5 h8 h12 h20 h21 h22 h26 => (eI o h5 h20).trans (a2 o h8 (by omega)), fun j hj => (congrFun (eI 8 (by omega) (by omega)) j).trans (a3 j hj), fun j hj => e5 j (by omega) (by omega) (by omega) (by omega) (by omega) (by omega) (by omega), a6, a7, fun o ho => a10 o (by omega) (by omega)⟩, ⟨?_, ?_, ?_, ?_⟩, ⟨[], ⟨⟨rfl, fun _ _ => rfl, fun _ _ => rfl, fun _ _ => rfl, fun _ _ => rfl, fun _ _ _ => rfl⟩, ⟨funext a11, a8, by omega⟩, ⟨?_, by decide, trivial, fun x hx => (by cases hx)⟩, fun i => ?_⟩, fun _ => rfl⟩, ⟨fun m hm => ?_, fun m i hm hi => a12 m i hm hi, fun _ _ => rfl⟩, ⟨fun f hf => Or.inl ⟨a9 f hf, rfl⟩, fun _ _ => rfl⟩, ⟨?_, Nat.zero_le _, fun k e hk => (by cases hk)⟩, ⟨?_, Nat.zero_le _, fun k e hk => (by cases hk)⟩, ⟨?_, by decide, ?_, Nat.le_refl _, lsI_nil _, fun x hx => (by cases hx)⟩, ⟨?_, Nat.zero_le _, fun k e hk => (by cases hk)⟩, ⟨?_, Nat.zero_le _⟩⟩
  · rw [gI_ne (by omega), gI_ne (by omega), gI_ne (by omega), gI_ne (by omega), gI_eq, gI_ne (by omega), gI_eq]
  · rw [gI_ne (by omega), gI_ne (by omega), gI_ne (by omega), gI_eq, gI_eq]
  · rw [e5 10 (by omega) (by omega) (by omega) (by omega) (by omega) (by omega) (by omega), gI_ne (by omega), gI_ne (by omega)]
  · rw [e5 13 (by omega) (by omega) (by omega) (by omega) (by omega) (by omega) (by omega), gI_ne (by omega), gI_ne (by omega)]
  · rw [eI 8 (by omega) (by omega), a4]; rfl
  · show okd (if i < 26 then FP.dconst0 else gD B 9 i)
    split
    · exact okd_0
    · exact hk i
  · rw [eI _ (by omega) (by omega)]
    refine ⟨(a5 m hm).1, (a5 m hm).2, Nat.zero_le _, Nat.zero_le _, fun i hi => ?_⟩
    have : gD A' (16 + m) i = FP.dconst0 := a12 m i hm hi
    show okd (gD A' (16 + m) i)
    rw [this]; exact okd_0
  · rw [gI_ne (by omega), gI_ne (by omega), gI_ne (by omega), gI_ne (by omega), gI_ne (by omega), gI_ne (by omega), gI_ne (by omega), gI_eq]; rfl
  · rw [gI_ne (by omega), gI_ne (by omega), gI_ne (by omega), gI_ne (by omega), gI_ne (by omega), gI_ne (by omega), gI_eq]; rfl
  · rw [gI_ne (by omega), gI_eq]; rfl
  · rw [gI_eq]; rfl
  · rw [gI_ne (by omega), gI_ne (by omega), gI_ne (by omega), gI_ne (by omega), gI_ne (by omega), gI_eq]; rfl
  · rw [gI_ne (by omega), gI_ne (by omega), gI_eq]; rfl
/-- one more constant of DATA -/
theorem CR_dat {dat : List UInt64} {q : Nat → Int32} {s : RS} {v : UInt64} (h : CR B dat q s 0 A) (hl : dat.length < 144) (hv : okd v) : CR B (dat ++ [v]) q s 0 (sI (sD A 27 dat.length v) 5 6 (iN (dat.length + 1))) := by
  obtain ⟨hF, hqq, hv9, hm, hf, hlo, hr, ⟨d1, d2, d3, d4, d5, d6⟩, hp, hu⟩ := h
  have eD : ∀ o, o ≠ 27 → gD (sI (sD A 27 dat.length v) 5 6 (iN (dat.length + 1))) o = gD A o := fun o ho => gD_row ho
  obtain ⟨v1, v2⟩ := CvS_ok hv9
  have eI : ∀ o, o ≠ 5 → gI (sI (sD A 27 dat.length v) 5 6 (iN (dat.length + 1))) o = gI A o := fun o ho => gI_row ho
  have e5 : ∀ j, j ≠ 6 → gI (sI (sD A 27 dat.length v) 5 6 (iN (dat.length + 1))) 5 j = gI A 5 j := fun j hj => gI_ne (Or.inr hj)
  refine ⟨FrR_tr hF ⟨rfl, fun o h5 _ _ _ _ _ _ => eI o h5, fun j _ => congrFun (eI 8 (by omega)) j, fun j hj => e5 j (by omega), fun _ _ _ => rfl, fun _ _ => rfl, fun o ho => eD o (by omega)⟩, ⟨(e5 8 (by omega)).trans hqq.1, (e5 9 (by omega)).trans hqq.2.1, (e5 10 (by omega)).trans hqq.2.2.1, (e5 13 (by omega)).trans hqq.2.2.2⟩, CvS_cg hv9 ((eD 9 (by omega)).trans v1) rfl (by rw [eI 8 (by omega)]) (eD 11 (by omega)) v2, MmA_cg (s := s) hm (fun m _ => eI _ (by omega)) (fun m _ => eD _ (by omega)), ⟨FbA_cg hf.1 rfl (fun L hL => ⟨eI L (by omega), rfl⟩), hf.2⟩, LoA_cg hlo (by rw [eI 20 (by omega)]) (eI 21 (by omega)) (eI 22 (by omega)) (eD 23 (by omega)) (eD 24 (by omega)), RtA_cg hr (e5 5 (by omega)) (eI 26 (by omega)), ⟨?_, ?_, (e5 7 (by omega)).trans d3, ?_, ?_, fun x hx => ?_⟩, PrA_cg hp (e5 4 (by omega)) (eD 25 (by omega)), ⟨(e5 14 (by omega)).trans hu.1, hu.2⟩⟩
  · rw [gI_eq, List.length_append, List.length_singleton]
  · rw [List.length_append, List.length_singleton]; omega
  · rw [List.length_append, List.length_singleton]; omega
  · exact lsI_push d5 (fun k hk => gD_ne (Or.inr (by omega))) gD_eq
  · rcases List.mem_append.mp hx with hx | hx
    · exact d6 x hx
    · rw [List.mem_singleton.mp hx]; exact hv
def lnD (d : LDT) : List UInt64 := if d.1 = 10 then d.2.2.2.2.2.map (fun c => FP.ddiv (FP.i2d (cCon c)) 4652007308841189376) else []
theorem c_gather {dat : List UInt64} {q : Nat → Int32} {s : RS} {L : Nat} {v : Int32} {d : LDT} (hW : WC B) (hC : CLv B L v d) (hL : 100 ≤ L) (hL2 : L < 125) (hd17 : d.1 < 17) (h : CR B dat q s 0 A) (hl : dat.length ≤ 138)
    (k : ∀ A', CR B (dat ++ lnD d) q s 0 A' → K A') : wp_Ma_gatherData 5 L A K := by
  have hCA := CLv_R hL h.1 hC
  obtain ⟨-, f2, -, -, -, -, f9, f9b, -⟩ := CLv_f hCA
  unfold wp_Ma_gatherData
  rw [f2]
  refine ⟨fun q => by omega, fun _ => ⟨kdL hL hL2, Or.inl ⟨by omega, by omega⟩, fun he => ?_, fun hn => ?_⟩⟩
  · have hd : d.1 = 10 := by omega
    have ec : cNu d = d.2.2.2.2.2.map cCon := by unfold cNu; rw [if_pos hd]
    have el : lnD d = (cNu d).map (fun c => FP.ddiv (FP.i2d c) 4652007308841189376) := by
      unfold lnD
      rw [if_pos hd, ec, List.map_map]; rfl
    rw [el] at k
    have go : ∀ (j i fu : Nat) (A : Mem) (dat' : List UInt64), i + j = (cNu d).length → j < fu → dat'.length = dat.length + i → CR B dat' q s 0 A → dat' ++ ((cNu d).drop i).map (fun c => FP.ddiv (FP.i2d c) 4652007308841189376) = dat ++ (cNu d).map (fun c => FP.ddiv (FP.i2d c) 4652007308841189376) → wp_Ma_gatherData_c17 K fu 5 L (iN i) A := by
      intro j
      induction j with
      | zero =>
        intro i fu A dat' hi hfu hl' h he'
        obtain ⟨fu, rfl⟩ : ∃ g, fu = g + 1 := ⟨fu - 1, by omega⟩
        obtain ⟨-, -, -, -, -, -, f9, f9b, -⟩ := CLv_f (CLv_R hL h.1 hC)
        unfold wp_Ma_gatherData_c17
        rw [f9, iN_le (by omega) (by omega)]
        rw [List.drop_eq_nil_of_le (by omega), List.map_nil, List.append_nil] at he'
        subst he'
        exact ⟨kdL hL hL2, fun _ => k A h, fun q => by omega⟩
      | succ j ih =>
        intro i fu A dat' hi hfu hl' h he'
        obtain ⟨fu, rfl⟩ : ∃ g, fu = g + 1 := ⟨fu - 1, by omega⟩
        have hCA' := CLv_R hL h.1 hC
        obtain ⟨-, -, -, -, -, -, f9, f9b, -⟩ := CLv_f hCA'
        obtain ⟨w0, w1, w2, w3, w4, w5⟩ := W5 hW h
        have d1 := h.2.2.2.2.2.2.2.1.1
        unfold wp_Ma_gatherData_c17
        rw [f9, iN_le (by omega) (by omega), w5, d1, show Int32.ofNat (al 27) = iN 144 from rfl, iN_le (by omega) (by omega), iN_1]
        refine ⟨kdL hL hL2, fun q => by omega, fun _ => ⟨rfl, rfl, fun q => by omega, fun _ => n_numberAt (WC_R hW h.1) hL hL2 hCA' (by omega) ?_⟩⟩
        have hi2 : i < (cNu d).length := by omega
        rw [List.getD_eq_getElem?_getD, List.getElem?_eq_getElem hi2]
        show vf_n64 (FP.ddiv (FP.i2d (cNu d)[i]) 4652007308841189376) ∧ _
        rw [iN_cl (show dat'.length < 2147483648 by omega)]
        refine ⟨vfn_thou _, iN_in (m := 144) (by omega) (by omega), fun A10 e10 => ?_⟩
        have e6 : gI (sD A 27 dat'.length (FP.ddiv (FP.i2d (cNu d)[i]) 4652007308841189376)) 5 6 = iN dat'.length := d1
        have e10 : A10 = sI (sD A 27 dat'.length (FP.ddiv (FP.i2d (cNu d)[i]) 4652007308841189376)) 5 6 (gI (sD A 27 dat'.length (FP.ddiv (FP.i2d (cNu d)[i]) 4652007308841189376)) 5 6 + 1) := e10
        rw [e6, iN_1] at e10
        rw [e10]
        refine ih (i + 1) fu _ (dat' ++ [FP.ddiv (FP.i2d (cNu d)[i]) 4652007308841189376]) (by omega) (by omega) (by rw [List.length_append, List.length_singleton]; omega) (CR_dat h (by omega) (okd_thou _)) ?_
        rw [List.drop_eq_getElem_cons hi2, List.map_cons] at he'
        rw [List.append_assoc]
        exact he'
    exact ⟨(cNu d).length + 1, go (cNu d).length 0 _ A dat (by omega) (by omega) rfl h rfl⟩
  · have e : lnD d = [] := by unfold lnD; rw [if_neg (by omega)]
    rw [e, List.append_nil] at k
    exact k A h
theorem lnD_len {L : Nat} {v : Int32} {d : LDT} (hC : CLv B L v d) : (lnD d).length ≤ 6 := by
  obtain ⟨-, -, -, -, -, -, f9, f9b, -⟩ := CLv_f hC
  unfold lnD
  split
  · rename_i h
    unfold cNu at f9b
    rw [if_pos h, List.length_map] at f9b
    rw [List.length_map]; exact f9b
  · exact Nat.zero_le _
theorem datS_eq : ∀ P : PT, datS P = P.flatMap (fun e => lnD e.2) := fun _ => rfl
theorem c_begin (hW : WC B) (hP : PC B P) (hPL : PLd P) (hk : ∀ i, okd (gD B 9 i)) (k : ∀ A', CR B (datS P) (gI (sI (sI B 5 8 0) 5 9 (-1)) 5) (s0R B) 0 A' → K A') : wp_Ma_begin 5 B K := by
  unfold wp_Ma_begin
  rw [hW.2.1.2.1]
  refine ⟨rfl, rfl, c_clear hW (fun A' hc => ?_)⟩
  have h0 := CR_clear hk hc
  have hl24 := hP.1
  have e52 : gR A' 5 2 = 20 := by rw [hc.2.2.2.2.2.1 5 (by omega) (by omega)]; exact hW.2.1.2.2.1
  rw [e52]
  refine ⟨rfl, P.length + 1, ?_⟩
  have go : ∀ (j i fu : Nat) (A : Mem), i + j = P.length → j < fu → (datS (P.take i)).length ≤ 6 * i → CR B (datS (P.take i)) (gI (sI (sI B 5 8 0) 5 9 (-1)) 5) (s0R B) 0 A → wp_Ma_begin_c52 K fu 5 (iN i) A := by
    intro j
    induction j with
    | zero =>
      intro i fu A hi hfu hl h
      obtain ⟨fu, rfl⟩ : ∃ g, fu = g + 1 := ⟨fu - 1, by omega⟩
      obtain ⟨w0, -⟩ := W5 hW h
      unfold wp_Ma_begin_c52
      rw [w0, (PC_R hP h.1).2.1, iN_le (by omega) (by omega)]
      rw [List.take_of_length_le (by omega)] at h
      exact ⟨rfl, rfl, fun _ => k A h, fun q => by omega⟩
    | succ j ih =>
      intro i fu A hi hfu hl h
      obtain ⟨fu, rfl⟩ : ∃ g, fu = g + 1 := ⟨fu - 1, by omega⟩
      obtain ⟨w0, -⟩ := W5 hW h
      have hi2 : i < P.length := by omega
      have hg : P[i]? = some ((P[i]).1, (P[i]).2) := List.getElem?_eq_getElem hi2
      have hr := hP.2.2.2.1 i (by omega)
      have hC := hP.2.2.2.2.2 _ _ _ hg
      unfold wp_Ma_begin_c52
      rw [w0, (PC_R hP h.1).2.1, iN_le (by omega) (by omega), iN_1]
      refine ⟨rfl, rfl, fun q => by omega, fun _ => c_lineAt (PC_R hP h.1) (by omega) ?_⟩
      rw [if_pos hi2, ln_R h.1]
      have e : datS (P.take (i + 1)) = datS (P.take i) ++ lnD (P[i]).2 := by
        rw [datS_eq, datS_eq, List.take_succ, List.getElem?_eq_getElem hi2, List.flatMap_append]
        show _ = _
        simp
      refine c_gather hW hC hr.1 hr.2 (hPL _ _ (List.getElem_mem hi2)).2 h (by omega) (fun A' h' => ?_)
      rw [← e] at h'
      refine ih (i + 1) fu A' (by omega) (by omega) ?_ h'
      have := lnD_len hC
      rw [e, List.length_append]; omega
  exact go P.length 0 _ _ (by omega) (by omega) (by rw [List.take_zero]; exact Nat.zero_le _) (by rw [List.take_zero]; exact h0)
/-- a whole run of the class -/
theorem c_execute {K : Nat → Mem → Prop} (hW : WC B) (hP : PC B P) (hPL : PLd P) (hk : ∀ i, okd (gD B 9 i)) (k : ∀ A', CF B (datS P) (rnS P (datS P) 300 0 (-1) (s0R B)) (gI B 5 10) A' → K (1200 + (rnS P (datS P) 300 0 (-1) (s0R B)).2.1) A') : wp_Ma_execute 5 B K := by
  unfold wp_Ma_execute
  refine ⟨rfl, c_begin hW hP hPL hk (fun A' h => ?_)⟩
  obtain ⟨w0, -⟩ := W5 hW h
  have hu := h.2.2.2.2.2.2.2.2.2
  have hl24 := hP.1
  rw [w0, hu.1]
  refine ⟨rfl, c_lineAt (PC_R hP h.1) (by omega) ⟨302, ?_⟩⟩
  rw [ln_R h.1]
  refine c_exec hW hP hPL 300 302 0 (-1) (s0R B) A' _ rfl (by omega) h ?_ ?_ ?_ (Nat.le_refl _) k
  · rw [gI_ne (by omega), gI_eq]; rfl
  · rw [gI_eq]
  · rw [gI_ne (by omega), gI_ne (by omega)]
end RC9
