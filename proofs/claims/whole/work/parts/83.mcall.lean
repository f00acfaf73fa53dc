section MCL
variable {A0 A : Mem} {vm : Nat → UInt64} {st : List UInt64} {cs : CSt} {ft : Nat}
theorem EvM_call {u : UInt64} {t : List UInt64} {i q : Nat} (h : EvM A0 vm (u :: t) cs ft A) (hc : cs.length < 3) (hi : i < 26) :
    EvM A0 (us vm i u) t ((i, vm i, q) :: cs) ft (sD (sI (sI (sD (sI (sI A 274 cs.length (iN q)) 275 cs.length (iN i)) 265 cs.length (vm i)) 250 24 (iN (cs.length + 1))) 250 25 (iN t.length)) 260 i u) := by
  have hl := h.2.2.2.1
  simp only [List.length_cons] at hl
  obtain ⟨⟨a1, a2, a3, a4, a5⟩, ⟨b1, b2, b3, b4, b5, b6⟩, ⟨c1, c2, c3⟩⟩ := h
  refine ⟨⟨a1, a2, fun o h1 h2 h3 => ?_, fun k h1 h2 h3 => ?_, fun o h1 h2 h3 => ?_⟩, ⟨?_, ?_, b3, ?_, ?_, ?_⟩, ⟨?_, by omega, ?_⟩⟩
  · rw [gI_sD, gI_row h1, gI_row h1, gI_sD, gI_row h3, gI_row h2]; exact a3 o h1 h2 h3
  · rw [gI_sD, gI_ne (Or.inr h2), gI_ne (Or.inr h1), gI_sD, gI_ne (Or.inl (by omega)), gI_ne (Or.inl (by omega))]; exact a4 k h1 h2 h3
  · rw [gD_row h1, gD_sI, gD_sI, gD_row h3]; exact a5 o h1 h2 h3
  · rw [gD_us2, gD_sI, gD_sI, gD_row (by omega), gD_sI, gD_sI, b1]
  · rw [gI_sD, gI_ne (Or.inr (by omega)), gI_ne (Or.inr (by omega)), gI_sD, gI_ne (Or.inl (by omega)), gI_ne (Or.inl (by omega))]; exact b2
  · rw [gI_sD, gI_ne (Or.inr (by omega)), gI_eq]; rfl
  · simp only [List.length_cons]; omega
  · refine ⟨?_, ?_, ?_, hi, csA_cg b6 (fun k hk => ⟨?_, ?_, ?_⟩)⟩
    · rw [gI_sD, gI_ne (Or.inl (by omega)), gI_ne (Or.inl (by omega)), gI_sD, gI_eq]
    · rw [gD_row (by omega), gD_sI, gD_sI, gD_eq]
    · rw [gI_sD, gI_ne (Or.inl (by omega)), gI_ne (Or.inl (by omega)), gI_sD, gI_ne (Or.inl (by omega)), gI_eq]
    · rw [gI_sD, gI_ne (Or.inl (by omega)), gI_ne (Or.inl (by omega)), gI_sD, gI_ne (Or.inr (by omega)), gI_ne (Or.inl (by omega))]
    · rw [gD_row (by omega), gD_sI, gD_sI, gD_ne (Or.inr (by omega))]; rfl
    · rw [gI_sD, gI_ne (Or.inl (by omega)), gI_ne (Or.inl (by omega)), gI_sD, gI_ne (Or.inl (by omega)), gI_ne (Or.inr (by omega))]
  · rw [gI_sD, gI_eq]
  · rw [gD_row (by omega), gD_sI, gD_sI, gD_row (by omega)]; exact c3.2
theorem EvM_leave {e : Nat × UInt64 × Nat} (h : EvM A0 vm st (e :: cs) ft A) : EvM A0 (us vm e.1 e.2.1) st cs ft (sD (sI A 250 24 (iN cs.length)) 260 e.1 e.2.1) := by
  obtain ⟨⟨a1, a2, a3, a4, a5⟩, ⟨b1, b2, b3, b4, b5, b6⟩, ⟨c1, c2, c3⟩⟩ := h
  simp only [List.length_cons] at b5
  refine ⟨⟨a1, a2, fun o h1 h2 h3 => ?_, fun k h1 h2 h3 => ?_, fun o h1 h2 h3 => ?_⟩, ⟨?_, ?_, b3, ?_, by omega, ?_⟩, ⟨?_, c2, ?_⟩⟩
  · rw [gI_sD, gI_row h1]; exact a3 o h1 h2 h3
  · rw [gI_sD, gI_ne (Or.inr h1)]; exact a4 k h1 h2 h3
  · rw [gD_row h1, gD_sI]; exact a5 o h1 h2 h3
  · rw [gD_us2, gD_sI, b1]
  · rw [gI_sD, gI_ne (Or.inr (by omega))]; exact b2
  · rw [gI_sD, gI_eq]
  · exact csA_cg b6.2.2.2.2 (fun k hk => ⟨by rw [gI_sD, gI_ne (Or.inl (by omega))], by rw [gD_row (by omega), gD_sI], by rw [gI_sD, gI_ne (Or.inl (by omega))]⟩)
  · rw [gI_sD, gI_ne (Or.inr (by omega))]; exact c1
  · rw [gD_row (by omega), gD_sI]; exact c3
theorem m_leave {e : Nat × UInt64 × Nat} {K : Mem → Prop} (hW : MW A0) (h : EvM A0 vm st (e :: cs) ft A) (k : ∀ A', EvM A0 (us vm e.1 e.2.1) st cs ft A' → gI A' 274 cs.length = iN e.2.2 → K A') : wp_Mo_leave 250 A K := by
  obtain ⟨-, -, -, e29, -, e34, -, -, -, -, e43, e44⟩ := MW_f hW h
  have hc := h.2.1.2.2.2.2.1
  simp only [List.length_cons] at hc
  have h24 : gI A 250 24 - 1 = iN cs.length := by
    rw [h.2.1.2.2.2.1, show (1 : Int32) = iN 1 from rfl, iN_sub (by simp only [List.length_cons]; omega)]; simp
  obtain ⟨b1, b2, b3, b4, b5⟩ := h.2.1.2.2.2.2.2
  unfold wp_Mo_leave
  rw [h24, gI_eq, iN_cl (a := cs.length) (by omega)]
  rw [show gR (sI A 250 24 (iN cs.length)) 250 44 = 275 from e44, show gR (sI A 250 24 (iN cs.length)) 250 34 = 265 from e34, show gR (sI A 250 24 (iN cs.length)) 250 29 = 260 from e29]
  rw [show gI (sI A 250 24 (iN cs.length)) 275 cs.length = iN e.1 from (gI_ne (Or.inl (by omega))).trans b1, show gD (sI A 250 24 (iN cs.length)) 265 cs.length = e.2.1 from b2, iN_cl (a := e.1) (by omega)]
  refine ⟨rfl, rfl, iN_in (m := 4) (by omega) (by omega), rfl, iN_in (m := 4) (by omega) (by omega), rfl, iN_in (m := 26) b4 (by omega), fun A8 e8 => ?_⟩
  rw [e8]
  refine k _ (EvM_leave h) ?_
  rw [gI_sD, gI_ne (Or.inl (by omega))]; exact b3
theorem m_call {u : UInt64} {t : List UInt64} {i q f kx : Nat} {K : Int32 → Mem → Prop} (hW : MW A0) (h : EvM A0 vm (u :: t) cs 0 A) (hf : f < 3) (hk : kx < 24) (h1 : gI A0 268 f = iN kx) (h2 : gI A0 255 (kx * 8 + 1) = iN i) (hi : i < 26)
    (k1 : cs.length < 3 → ∀ A', EvM A0 (us vm i u) t ((i, vm i, q) :: cs) 0 A' → K (gI A0 256 (kx * 4)) A') (k2 : cs.length = 3 → ∀ A' r, EvM A0 vm (u :: t) cs 2 A' → K r A') : wp_Mo_call 250 (iN f) (iN q) A K := by
  obtain ⟨e12, e13, -, e29, e30, e34, -, e37, -, -, e43, e44⟩ := MW_f hW h
  have hc := h.2.1.2.2.2.2.1
  obtain ⟨q1, q2, q3⟩ := EvM_pop h
  have hl := h.2.2.2.1
  simp only [List.length_cons] at hl
  unfold wp_Mo_call
  rw [h.2.1.2.2.2.1, e37, e12, e43, h.1.2.2.1 268 (by omega) (by omega) (by omega), iN_cl (a := f) (by omega), h1, show (8 : Int32) = iN 8 from rfl, iN_mul, iN_1, iN_cl (a := kx * 8 + 1) (by omega), h.1.2.2.1 255 (by omega) (by omega) (by omega), h2, iN_cl (a := i) (by omega), iN_cl (a := cs.length) (by omega), show (3 : Int32) = iN 3 from rfl, iN_eq (by omega) (by omega)]
  rw [show gR (sI A 274 cs.length (iN q)) 250 44 = 275 from e44, show gI (sI A 274 cs.length (iN q)) 250 24 = iN cs.length from (gI_ne (Or.inl (by omega))).trans h.2.1.2.2.2.1, iN_cl (a := cs.length) (by omega)]
  refine ⟨rfl, fun hn => ⟨rfl, iN_in (m := 3) hf (by omega), rfl, iN_in (m := 200) (by omega) (by omega), rfl, iN_in (m := 4) (by omega) (by omega), rfl, iN_in (m := 4) (by omega) (by omega), fun A10 eA => ?_⟩, fun he => ?_⟩
  · have r24 : gI A10 250 24 = iN cs.length := by rw [eA, gI_ne (Or.inl (by omega)), gI_ne (Or.inl (by omega))]; exact h.2.1.2.2.2.1
    have rR : gR A10 = gR A := by rw [eA]; rfl
    have rD : gD A10 = gD A := by rw [eA]; rfl
    rw [rR, e29, e34, r24, iN_cl (a := cs.length) (by omega), rD, h.2.1.1]
    refine ⟨rfl, iN_in (m := 26) hi (by omega), rfl, iN_in (m := 4) (by omega) (by omega), fun A15 eB => ?_⟩
    have r24b : gI A15 250 24 = iN cs.length := by rw [eB]; exact r24
    have r25b : gI A15 250 25 - 1 = iN t.length := by rw [eB, gI_sD, eA, gI_ne (Or.inl (by omega)), gI_ne (Or.inl (by omega))]; exact q1
    have rR2 : gR A15 = gR A := by rw [eB]; exact rR
    rw [r24b, iN_1, show gI (sI A15 250 24 (iN (cs.length + 1))) 250 25 = gI A15 250 25 from gI_ne (Or.inr (by omega)), r25b]
    rw [show gR (sI (sI A15 250 24 (iN (cs.length + 1))) 250 25 (iN t.length)) = gR A from rR2, e30, e29, gI_eq, iN_cl (a := t.length) (by omega)]
    rw [show gD (sI (sI A15 250 24 (iN (cs.length + 1))) 250 25 (iN t.length)) 261 t.length = u by
      rw [gD_sI, gD_sI, eB, gD_row (by omega), rD]; exact q2]
    refine ⟨rfl, iN_in (m := 200) (by omega) (by omega), rfl, iN_in (m := 26) hi (by omega), fun A20 eC => ?_⟩
    have h' : EvM A0 (us vm i u) t ((i, vm i, q) :: cs) 0 A20 := by
      rw [eC, eB, eA]; exact EvM_call h (by omega) hi
    obtain ⟨-, f13, -, -, -, -, -, f37, -⟩ := MW_f hW h'
    rw [f37, f13, h'.1.2.2.1 268 (by omega) (by omega) (by omega), h1, show (4 : Int32) = iN 4 from rfl, iN_mul, iN_cl (a := kx * 4) (by omega), h'.1.2.2.1 256 (by omega) (by omega) (by omega)]
    exact ⟨rfl, iN_in (m := 3) hf (by omega), rfl, iN_in (m := 100) (by omega) (by omega), k1 (by omega) A20 h'⟩
  · exact k2 he _ _ (EvM_fail (f := 2) h (by omega))
/-- leaving all calls behind a fault -/
theorem m_unw {K : UInt64 → Mem → Prop} (hW : MW A0) : ∀ (cs : CSt) (vm : Nat → UInt64) (A : Mem) (fu : Nat), cs.length < fu → EvM A0 vm st cs ft A → (∀ A', EvM A0 (unw vm cs) st [] ft A' → K FP.dconst0 A') → wp_Mo_work_c76 K fu 250 A
  | [], w, A, fu, hfu, h, k => by
    obtain ⟨fu, rfl⟩ : ∃ g, fu = g + 1 := ⟨fu - 1, by simp at hfu; omega⟩
    unfold wp_Mo_work_c76
    rw [h.2.1.2.2.2.1]
    exact ⟨rfl, fun _ => k A h, fun q => absurd (by decide) q⟩
  | e :: cs, w, A, fu, hfu, h, k => by
    simp only [List.length_cons] at hfu
    obtain ⟨fu, rfl⟩ : ∃ g, fu = g + 1 := ⟨fu - 1, by omega⟩
    have hc := h.2.1.2.2.2.2.1
    simp only [List.length_cons] at hc
    unfold wp_Mo_work_c76
    rw [h.2.1.2.2.2.1, List.length_cons, show (0 : Int32) = iN 0 from rfl, iN_le (by omega) (by omega)]
    refine ⟨rfl, fun q => by omega, fun _ => m_leave hW h (fun A' h' _ => ?_)⟩
    exact m_unw hW cs _ A' fu (by omega) h' k
end MCL
