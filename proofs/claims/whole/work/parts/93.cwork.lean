theorem smF_cg {me me' : Nat → Nat → UInt64} {x y i j : Nat} (hx : me x = me' x) (hy : me y = me' y) : ∀ (n k : Nat) (acc : UInt64), smF me x y i j n k acc = smF me' x y i j n k acc
  | 0, _, _ => rfl
  | n + 1, k, acc => by
    unfold smF
    rw [hx, hy]
    congr 1
    funext q
    congr 1
    funext r
    exact smF_cg hx hy n (k + 1) r
theorem entF_cg {me me' : Nat → Nat → UInt64} {mc : Nat → Nat} {b : Nat} {sc : UInt64} {x y i j : Nat} (hx : me x = me' x) (hy : me y = me' y) : entF me mc b sc x y i j = entF me' mc b sc x y i j := by
  unfold entF
  rw [hx, hy, smF_cg hx hy]
/-- the same but for the draft's elements -/
def drB (A0 A1 : Mem) : Prop := gI A1 = gI A0 ∧ gR A1 = gR A0 ∧ gL A1 = gL A0 ∧ ∀ o, o ≠ 19 → gD A1 o = gD A0 o
/-- the draft when rows before i, and of row i the columns before j, are worked out -/
def dfl (ent : Nat → Nat → Option UInt64) (C i j p : Nat) : UInt64 :=
  if (p / 6 + 1 < i ∧ p % 6 + 1 ≤ C) ∨ (p / 6 + 1 = i ∧ p % 6 + 1 < j) then (ent (p / 6 + 1) (p % 6 + 1)).getD FP.dconst0 else FP.dconst0
theorem dfl_row (ent : Nat → Nat → Option UInt64) (C i p : Nat) : dfl ent C i (C + 1) p = dfl ent C (i + 1) 1 p := by
  unfold dfl
  by_cases h : (p / 6 + 1 < i ∧ p % 6 + 1 ≤ C) ∨ (p / 6 + 1 = i ∧ p % 6 + 1 < C + 1)
  · rw [if_pos h, if_pos (by omega)]
  · rw [if_neg h, if_neg (by omega)]
def InD (fz : Nat) (A0 : Mem) (va : Nat → UInt64) (ent : Nat → Nat → Option UInt64) (R C i j ft : Nat) (A : Mem) : Prop := ∃ A1, drB A0 A1 ∧ CvS A1 va ft A ∧
  (ft = 0 → (∀ p, p < 36 → gD A 19 p = dfl ent C i j p) ∧ ∀ r c, 1 ≤ r → 1 ≤ c → c ≤ C → (r < i ∨ (r = i ∧ c < j)) → ∃ v, ent r c = some v ∧ okd v) ∧
  (ft ≠ 0 → (fz ≠ 0 ∧ ft = fz) ∨ (ft = 4 ∧ ∃ r c, 1 ≤ r ∧ r ≤ R ∧ 1 ≤ c ∧ c ≤ C ∧ ent r c = none)) ∧ (fz ≠ 0 → ft = fz)
section CWK
variable {A0 : Mem} {va : Nat → UInt64} {mr mc : Nat → Nat} {x y t fz : Nat} {sc : UInt64}
theorem WC_dr {A1 : Mem} (hW : WC A0) (h : drB A0 A1) : WC A1 := by
  unfold WC
  rw [h.2.1]
  exact hW
theorem MxA_dr {A1 : Mem} (hM : MxA A0 mr mc) (h : drB A0 A1) : MxA A1 mr mc := fun m hm => by
  rw [h.1, h.2.2.2 (16 + m) (by omega)]
  exact hM m hm
theorem CvS_d19 {A1 A : Mem} {ft p : Nat} {v : UInt64} (h : CvS A1 va ft A) : CvS (sD A1 19 p v) va ft (sD A 19 p v) := by
  obtain ⟨s, ⟨⟨a1, a2, a3, a4, a5, a6⟩, ⟨b1, b2, b3⟩, ⟨c1, c2, c3, c4⟩, d⟩, hs⟩ := h
  refine ⟨s, ⟨⟨a1, a2, a3, a4, a5, fun o h1 h2 => ?_⟩, ⟨(gD_row (by omega)).trans b1, b2, b3⟩, ⟨c1, c2, ?_, c4⟩, d⟩, hs⟩
  · by_cases ho : o = 19
    · rw [ho, gD_us2, gD_us2, a6 19 (by omega) (by omega)]
    · rw [gD_row ho, gD_row ho]; exact a6 o h1 h2
  · rw [gD_row (by omega)]; exact c3
theorem drB_d19 {A1 : Mem} {p : Nat} {v : UInt64} (h : drB A0 A1) : drB A0 (sD A1 19 p v) := ⟨h.1, h.2.1, h.2.2.1, fun o ho => (gD_row ho).trans (h.2.2.2 o ho)⟩
/-- one row of the draft -/
theorem w_cols {b R C i L : Nat} {K : Mem → Prop} {J : Nat → Nat → Nat → Nat → Nat → UInt64 → Int32 → Mem → Prop} (hb : b < 9) (hW : WC A0) (hM : MxA A0 mr mc) (hx : x < 3) (hy : y < 3) (hsc : okd sc) (h15 : gI A0 15 0 = iN R ∧ gI A0 15 1 = iN C ∧ R ≤ 6 ∧ C ≤ 6) (hL : 100 ≤ L) (hL2 : L < 125) (hfm : gR A0 L 7 = fmN b)
    (hR : ∀ r c, 1 ≤ r → r ≤ R → 1 ≤ c → c ≤ C → enR mr mc b x y r c) (hi1 : 1 ≤ i) (hiR : i ≤ R)
    (hJ : ∀ ft A', InD fz A0 va (fun r c => entF (fun m => gD A0 (16 + m)) mc b sc x y r c) R C (i + 1) 1 ft A' → J 8 L (12 + t) (12 + x) (12 + y) sc (iN (i + 1)) A') :
    ∀ (n j fu ft : Nat) (A : Mem), j + n = C + 1 → 1 ≤ j → n < fu → InD fz A0 va (fun r c => entF (fun m => gD A0 (16 + m)) mc b sc x y r c) R C i j ft A → wp_Ca_mat_c104 J K fu 8 L (12 + t) (12 + x) (12 + y) sc (iN i) (iN j) A := by
  intro n
  induction n with
  | zero =>
    intro j fu ft A hj hj1 hfu h
    obtain ⟨fu, rfl⟩ : ∃ g, fu = g + 1 := ⟨fu - 1, by omega⟩
    have hjC : j = C + 1 := by omega
    subst hjC
    have h' := h
    obtain ⟨A1, d1, ⟨s, hs, _⟩, hg, hn⟩ := h'
    have e5 : gR A 8 5 = 15 := by rw [hs.1.2.2.2.2.1 5 (by omega), d1.2.1]; exact hW.2.2.1.2.2.2.2.1
    unfold wp_Ca_mat_c104
    rw [e5, hs.1.2.1 15 (by omega), d1.1, h15.2.1, iN_lt (by omega) (by omega), iN_1]
    refine ⟨rfl, rfl, fun _ => hJ ft A ⟨A1, d1, ⟨s, hs, by assumption⟩, fun q => ⟨fun p hp => ((hg q).1 p hp).trans (dfl_row _ C i p), fun r c h1 h2 h3 h4 => (hg q).2 r c h1 h2 h3 (by omega)⟩, hn⟩, fun q => by omega⟩
  | succ n ih =>
    intro j fu ft A hj hj1 hfu h
    obtain ⟨fu, rfl⟩ : ∃ g, fu = g + 1 := ⟨fu - 1, by omega⟩
    obtain ⟨A1, d1, hc, hg, hn, hz⟩ := h
    obtain ⟨s, hs, hs0⟩ := hc
    have e5 : gR A 8 5 = 15 := by rw [hs.1.2.2.2.2.1 5 (by omega), d1.2.1]; exact hW.2.2.1.2.2.2.2.1
    have eI : gI A 15 = gI A0 15 := by rw [hs.1.2.1 15 (by omega), d1.1]
    have eF : gR A L 7 = fmN b := by rw [hs.1.2.2.2.1 L (by omega), d1.2.1]; exact hfm
    unfold wp_Ca_mat_c104
    rw [e5, eI, h15.2.1, iN_lt (by omega) (by omega)]
    refine ⟨rfl, rfl, fun q => by omega, fun _ => n_placeOf (o := 15) rfl (a := R) (b := C) (by rw [eI]; exact h15.1) (by rw [eI]; exact h15.2.1) h15.2.2.1 h15.2.2.2 ?_⟩
    rw [plM_in hi1 hiR hj1 (by omega) h15.2.2.1 h15.2.2.2, eF]
    have hcg : ∀ r c, entF (fun m => gD A1 (16 + m)) mc b sc x y r c = entF (fun m => gD A0 (16 + m)) mc b sc x y r c := fun r c => entF_cg (d1.2.2.2 (16 + x) (by omega)) (d1.2.2.2 (16 + y) (by omega))
    have hij := hR i j hi1 hiR hj1 (by omega)
    -- the next state, when the entry is v
    have nxt : ∀ (ft' : Nat) (v : UInt64) (A2 : Mem), CvS A1 va ft' A2 → (ft' = 0 → ft = 0 ∧ entF (fun m => gD A0 (16 + m)) mc b sc x y i j = some v ∧ okd v) → (ft' ≠ 0 → (ft ≠ 0 ∧ ft' = ft) ∨ (ft' = 4 ∧ entF (fun m => gD A0 (16 + m)) mc b sc x y i j = none)) → (ft ≠ 0 → ft' = ft) → wp_Mx_set 15 (iN ((i - 1) * 6 + (j - 1))) v A2 (fun A34 => wp_Ca_mat_c104 J K fu 8 L (12 + t) (12 + x) (12 + y) sc (iN i) (iN j + 1) A34) := by
      intro ft' v A2 h2 g1 g2 g3
      obtain ⟨s2, hs2, hs20⟩ := h2
      rw [iN_1]
      refine n_setM (m := 3) (WC_Ev (WC_dr hW d1) hs2) (by omega) (by omega) ?_
      refine ih (j + 1) fu ft' _ (by omega) (by omega) (by omega) ⟨sD A1 19 _ v, drB_d19 d1, CvS_d19 ⟨s2, hs2, hs20⟩, fun q => ?_, fun q => ?_, fun q => (g3 (by rw [hz q]; exact q)).trans (hz q)⟩
      · obtain ⟨q1, q2, q3⟩ := g1 q
        obtain ⟨p1, p2⟩ := hg q1
        have e19 : gD A2 19 = gD A 19 := by rw [hs2.1.2.2.2.2.2 19 (by omega) (by omega), hs.1.2.2.2.2.2 19 (by omega) (by omega)]
        refine ⟨fun p hp => ?_, fun r c h1 h2 h3 h4 => ?_⟩
        · by_cases hpe : p = (i - 1) * 6 + (j - 1)
          · rw [hpe, gD_eq]
            unfold dfl
            have w1 : ((i - 1) * 6 + (j - 1)) / 6 + 1 = i := by omega
            have w2 : ((i - 1) * 6 + (j - 1)) % 6 + 1 = j := by omega
            rw [w1, w2, if_pos (by omega)]
            show v = (entF (fun m => gD A0 (16 + m)) mc b sc x y i j).getD FP.dconst0
            rw [q2]
            rfl
          · rw [gD_ne (Or.inr hpe), e19, p1 p hp]
            unfold dfl
            by_cases hq : (p / 6 + 1 < i ∧ p % 6 + 1 ≤ C) ∨ (p / 6 + 1 = i ∧ p % 6 + 1 < j)
            · rw [if_pos hq, if_pos (by omega)]
            · rw [if_neg hq, if_neg (by omega)]
        · by_cases hrc : r = i ∧ c = j
          · rw [hrc.1, hrc.2]; exact ⟨v, q2, q3⟩
          · exact p2 r c h1 h2 h3 (by omega)
      · rcases g2 q with ⟨q1, q2⟩ | ⟨q1, q2⟩
        · rw [q2]; exact hn q1
        · exact Or.inr ⟨q1, i, j, hi1, hiR, hj1, by omega, q2⟩
    refine ⟨kdL hL hL2, en_all hb (WC_dr hW d1) (MxA_dr hM d1) hx hy hij hsc ⟨s, hs, hs0⟩ ?_⟩
    rw [hcg]
    exact ⟨fun q v hv ho A' h' => nxt 0 v A' h' (fun _ => ⟨q, hv, ho⟩) (fun q => absurd rfl q) (fun q' => absurd q q'), fun q hv v A' ho h' => nxt 4 v A' h' (fun q => absurd q (by decide)) (fun _ => Or.inr ⟨rfl, hv⟩) (fun q' => absurd q q'), fun q v A' ho h' => nxt ft v A' h' (fun q' => absurd q' q) (fun _ => Or.inl ⟨q, rfl⟩) (fun _ => rfl)⟩
end CWK
