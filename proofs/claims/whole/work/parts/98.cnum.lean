section CNM
variable {A : Mem}
theorem n_numberAt {L k : Nat} {v : Int32} {dd : LDT} {K : Int32 → Mem → Prop} (hW : WC A) (hL : 100 ≤ L) (hL2 : L < 125) (h : CLv A L v dd) (hk : k < 100) (kk : K ((cNu dd).getD k 0) A) : wp_Li_numberAt L (iN k) A K := by
  obtain ⟨s, q, hl, -, ⟨h9, hle, hls⟩, -⟩ := h
  obtain ⟨k1, k2⟩ := kdL30 hL hL2
  unfold wp_Li_numberAt
  rw [h9, (hW.2.2.2.2.2 L hL hL2).1, show (0 : Int32) = iN 0 from rfl, iN_lt (by omega) (by omega), iN_le (by omega) (by omega), iN_cl (a := k) (by omega), k2]
  refine ⟨fun q => by omega, fun _ => ⟨kdL hL hL2, fun q => ?_, fun q => ⟨k1, iN_in (by omega) (by omega), ?_⟩⟩⟩
  · rw [List.getD_eq_getElem?_getD, List.getElem?_eq_none (by omega)] at kk
    exact kk
  · have hk2 : k < (cNu dd).length := by omega
    rw [hls k _ (List.getElem?_eq_getElem hk2)]
    rw [List.getD_eq_getElem?_getD, List.getElem?_eq_getElem hk2] at kk
    exact kk
/-- the draft, fresh, is the start of the rows -/
theorem InD_0 {A0 A1 : Mem} {va : Nat → UInt64} {ft fz R C : Nat} {ent : Nat → Nat → Option UInt64} (hc : CvS A0 va ft A1) (hd : ∀ p, p < 36 → gD A0 19 p = FP.dconst0) (h0 : ft ≠ 0 → (fz ≠ 0 ∧ ft = fz) ∨ (ft = 4 ∧ ∃ r c, 1 ≤ r ∧ r ≤ R ∧ 1 ≤ c ∧ c ≤ C ∧ ent r c = none)) (hz : fz ≠ 0 → ft = fz) : InD fz A0 va ent R C 1 1 ft A1 := by
  refine ⟨A0, ⟨rfl, rfl, rfl, fun _ _ => rfl⟩, hc, fun _ => ⟨fun p hp => ?_, fun r c h1 h2 h3 h4 => by omega⟩, h0, hz⟩
  obtain ⟨s, hs, -⟩ := hc
  rw [hs.1.2.2.2.2.2 19 (by omega) (by omega), hd p hp]
  unfold dfl
  rw [if_neg (by omega)]
/-- shaping the draft within an evaluation's frame: the memory behind it is a new start -/
theorem CvS_sh {A0 A1 A2 : Mem} {va : Nat → UInt64} {ft : Nat} {a b : Int32} (h : CvS A0 va ft A1) (hs : shF A1 3 a b A2) : CvS A2 va ft A2 := by
  obtain ⟨s, h, h0⟩ := h
  obtain ⟨s1, s2, s3, s4, s5, s6, s7⟩ := hs
  refine ⟨s, ⟨⟨rfl, fun _ _ => rfl, fun _ _ => rfl, fun _ _ => rfl, fun _ _ => rfl, fun _ _ _ => rfl⟩, ⟨(s6 9 (by omega)).trans h.2.1.1, by rw [s2]; exact h.2.1.2.1, h.2.1.2.2⟩, ⟨?_, h.2.2.1.2.1, ?_, h.2.2.1.2.2.2⟩, h.2.2.2⟩, h0⟩
  · rw [s3 8 (by omega)]; exact h.2.2.1.1
  · rw [s6 11 (by omega)]; exact h.2.2.1.2.2.1
end CNM
