/-- the law takes these two for the same answer -/
def DDd (x b : UInt64) : Prop := Op.cmpValue (FP.dcmp x b) .l = 0 ∨ (¬ Op.cmpValue (FP.dcmp x x) .l = 0 ∧ ¬ Op.cmpValue (FP.dcmp b b) .l = 0)
theorem DDz {x b : UInt64} (h : dz x b ∧ okd x) : DDd x b := by
  refine Or.inl ((fk_eq (okd_nn h.2) (okd_nn (dz_okd h.1 h.2))).mpr ?_)
  rcases h.1 with e | ⟨e1, e2⟩
  · rw [e]
  · rw [(fk_zero x).mp e1, (fk_zero b).mp e2]
section IN2
variable {A A' : Mem} {P : PT} {sl : List Nat} {tl : List Int32}
theorem y_most {K : Int32 → Mem → Prop} (hW : MW A) (hs : Psr P) (hP : PMs A P sl) (k : K (nbr P (P.length - 1)) A) : wp_Mo_most 250 A K := by
  have e10 : gR A 250 10 = 253 := hW.1 10 (by omega) (by omega)
  have fin : ∀ x1 : Int32, ((x1 = -1 ∧ ∀ j, j < 24 → gI A 253 j ≤ 0) ∨ ∃ b, b < 24 ∧ x1 = gI A 253 b ∧ 0 < x1 ∧ ∀ j, j < 24 → gI A 253 j ≤ x1) → K x1 A := by
    intro x1 hx
    by_cases h0 : P.length = 0
    · rcases hx with ⟨e, -⟩ | ⟨b, hb, e, hpos, -⟩
      · unfold nbr at k
        rw [List.getElem?_eq_none (by omega)] at k
        rw [e]; exact k
      · obtain ⟨i, d, g1, g2⟩ := slot_lt hP (by rw [e] at hpos; exact hpos) hb rfl
        have := (List.getElem?_eq_some_iff.mp g2).1
        omega
    · have hl : P.length - 1 < P.length := by omega
      obtain ⟨c, c1, c2, c3⟩ := slot_of hP hl
      have hpos2 := hs.1 _ (List.getElem_mem hl)
      rw [(nbr_drop hl).2] at k
      rcases hx with ⟨e, hn⟩ | ⟨b, hb, e, hpos, hmx⟩
      · have := hn c c2
        rw [c3] at this
        exact absurd this (i32_ln hpos2)
      · obtain ⟨i, d, g1, g2⟩ := slot_lt hP (by rw [e] at hpos; exact hpos) hb rfl
        have hi := (List.getElem?_eq_some_iff.mp g2).1
        have hPi : (P[i]).1 = gI A 253 b := by rw [(List.getElem?_eq_some_iff.mp g2).2]
        have h1 := hmx c c2
        rw [c3] at h1
        have hx1 : x1 = (P[P.length - 1]).1 := by
          by_cases hi2 : i = P.length - 1
          · subst hi2
            rw [e, hPi]
          · have h3 := List.pairwise_iff_getElem.mp hs.2 i (P.length - 1) hi hl (by omega)
            rw [hPi, ← e] at h3
            exact absurd h1 (i32_ln h3)
        rw [hx1]; exact k
  have lp : ∀ (n i fu : Nat) (x1 : Int32), i + n = 24 → n < fu → ((x1 = -1 ∧ ∀ j, j < i → gI A 253 j ≤ 0) ∨ ∃ b, b < 24 ∧ x1 = gI A 253 b ∧ 0 < x1 ∧ ∀ j, j < i → gI A 253 j ≤ x1) → wp_Mo_most_c4 K fu 250 x1 (iN i) A := by
    intro n
    induction n with
    | zero =>
      intro i fu x1 hi hfu hx
      obtain ⟨fu, rfl⟩ : ∃ g, fu = g + 1 := ⟨fu - 1, by omega⟩
      have hi : i = 24 := by omega
      subst hi
      exact ⟨fun _ => fin x1 hx, fun q => absurd (show (24 : Int32) ≤ iN 24 by decide) q⟩
    | succ n ih =>
      intro i fu x1 hi hfu hx
      obtain ⟨fu, rfl⟩ : ∃ g, fu = g + 1 := ⟨fu - 1, by omega⟩
      unfold wp_Mo_most_c4
      rw [e10, iN_cl (show i < 2147483648 by omega), show (24 : Int32) = iN 24 from rfl, iN_le (by omega) (by omega), iN_1]
      refine ⟨fun q => by omega, fun _ => ⟨rfl, rfl, iN_in (m := 25) (by omega) (by omega), fun hle => ?_, fun hgt => ⟨fun hle2 => ?_, fun hgt2 => ?_⟩⟩⟩
      · refine ih (i + 1) fu x1 (by omega) (by omega) ?_
        rcases hx with ⟨e, hn⟩ | ⟨b, hb, e, hpos, hmx⟩
        · exact Or.inl ⟨e, fun j hj => by
            by_cases hj2 : j = i
            · rw [hj2]; exact hle
            · exact hn j (by omega)⟩
        · exact Or.inr ⟨b, hb, e, hpos, fun j hj => by
            by_cases hj2 : j = i
            · rw [hj2]; exact i32_tr hle (Int32.le_of_lt hpos)
            · exact hmx j (by omega)⟩
      · refine ih (i + 1) fu x1 (by omega) (by omega) ?_
        rcases hx with ⟨e, hn⟩ | ⟨b, hb, e, hpos, hmx⟩
        · rw [e] at hle2
          exact absurd (i32_tr hle2 (by decide)) hgt
        · exact Or.inr ⟨b, hb, e, hpos, fun j hj => by
            by_cases hj2 : j = i
            · rw [hj2]; exact hle2
            · exact hmx j (by omega)⟩
      · refine ih (i + 1) fu _ (by omega) (by omega) (Or.inr ⟨i, by omega, rfl, i32_nl hgt, fun j hj => ?_⟩)
        by_cases hj2 : j = i
        · rw [hj2]; exact Int32.le_refl _
        · rcases hx with ⟨e, hn⟩ | ⟨b, hb, e, hpos, hmx⟩
          · exact i32_tr (hn j (by omega)) (Int32.le_of_lt (i32_nl hgt))
          · exact i32_tr (hmx j (by omega)) (Int32.le_of_lt (i32_nl hgt2))
  exact ⟨25, lp 24 0 25 (-1) rfl (by omega) (Or.inl ⟨rfl, fun j hj => by omega⟩)⟩
theorem PMs_c {c : Int32} (h : PMs A P sl) : PMs (sI A 250 0 c) P sl := PMs_cg h (fun _ _ => gI_ne (Or.inl (by omega))) (fun _ _ => gI_ne (Or.inl (by omega))) (fun _ _ => gI_ne (Or.inl (by omega))) (fun _ _ => gI_ne (Or.inl (by omega))) (fun _ _ => gI_ne (Or.inl (by omega)))
theorem t_count {z : Int32} (h : Inv A) : wp_BM_count 1 z A (fun r A1 => wp_Mo_count 250 z A1 (fun b A2 => r = b ∧ Inv A2)) := by
  have h' := h
  obtain ⟨tl, P, sl, ⟨⟨t1, t2, -⟩, ⟨u1, u2, -⟩, -⟩, h0⟩ := h'
  obtain ⟨⟨w1, w2⟩, ⟨pc, pm, ps, pl⟩, -, ⟨r1, r2, r3, r4, r5, r6⟩, ⟨n, n1, n2, -⟩, -⟩ := h0
  have g4 : gR A 1 4 = 5 := w1.1.2.2.1
  have g50 : gR A 5 0 = 6 := w1.2.1.1
  have g52 : gR A 5 2 = 20 := w1.2.1.2.2.1
  have hc := Inv_c (c := 0) h
  have pm0 := PMs_c (c := 0) pm
  have w20 : MW (sI A 250 0 0) := w2
  have hl24 := pc.1
  have e0 : ∀ k, 1 ≤ k → gI (sI A 250 0 0) 250 k = gI A 250 k := fun k hk => gI_ne (Or.inr (by omega))
  unfold wp_BM_count
  rw [g4, g50, g52]
  -- the reference at each number
  have m : ∀ (c : Int32) (r : Int32), z = c → (c = 0 → r = gI (sI A 250 0 0) 250 1) → (c = 1 → r = iN P.length) → (c = 2 → r = gI (sI A 250 0 0) 250 16) → (c = 3 → r = gI (sI A 250 0 0) 250 18) → (c = 4 → r = gI (sI A 250 0 0) 250 23) → (c = 5 → r = gI (sI A 250 0 0) 250 22) → (c = 6 → r = gI (sI A 250 0 0) 250 21) → (c = 7 → r = gI (sI A 250 0 0) 250 26) → (c = 8 → r = nbr P 0) → (c = 9 → r = nbr P (P.length - 1)) → (¬ c = 0 → ¬ c = 1 → ¬ c = 2 → ¬ c = 3 → ¬ c = 4 → ¬ c = 5 → ¬ c = 6 → ¬ c = 7 → ¬ c = 8 → ¬ c = 9 → r = -1) → wp_Mo_count 250 z A (fun b A2 => r = b ∧ Inv A2) := by
    intro c r hz k0 k1 k2 k3 k4 k5 k6 k7 k8 k9 kx
    unfold wp_Mo_count
    rw [hz]
    refine ⟨rfl, fun q => ⟨k0 q, hc⟩, fun q => y_lines w20 pm0 (Psr_ne ps) ⟨k1 q, hc⟩, fun q => ⟨k2 q, hc⟩, fun q => ⟨k3 q, hc⟩, fun q => ⟨k4 q, hc⟩, fun q => ⟨k5 q, hc⟩, fun q => ⟨k6 q, hc⟩, fun q => ⟨k7 q, hc⟩, fun q => y_next0 w20 ps pm0 hl24 ?_, fun q => y_most w20 ps pm0 ⟨k9 q, hc⟩, fun q0 q1 q2 q3 q4 q5 q6 q7 q8 q9 => ⟨kx q0 q1 q2 q3 q4 q5 q6 q7 q8 q9, hc⟩⟩
    by_cases hl : 0 < P.length
    · obtain ⟨c', c1, c2, c3, c4⟩ := slI_lt pm0 hl
      rw [c2]
      refine ⟨fun _ => y_next0 w20 ps pm0 hl24 ?_, fun q => absurd ?_ q⟩
      · rw [c2, show gR (sI A 250 0 0) 250 10 = 253 from w2.1 10 (by omega) (by omega), iN_cl (show c' < 2147483648 by omega), c4]
        refine ⟨rfl, iN_in (m := 25) (by omega) (by omega), ?_, hc⟩
        rw [k8 q, (nbr_drop hl).2]
      · show iN 0 ≤ iN c'
        rw [iN_le (by omega) (by omega)]
        omega
    · rw [slI_ge pm0 (by omega)]
      refine ⟨fun q => absurd q (by decide), fun _ => ⟨?_, hc⟩⟩
      rw [k8 q]
      unfold nbr
      rw [List.getElem?_eq_none (by omega)]
  have no : ∀ {a b : Int32} {Q : Prop}, a ≠ b → a = b → Q := fun h1 h2 => absurd h2 h1
  refine ⟨fun q => ⟨rfl, m 0 _ q (fun _ => ?_) (no (by decide)) (no (by decide)) (no (by decide)) (no (by decide)) (no (by decide)) (no (by decide)) (no (by decide)) (no (by decide)) (no (by decide)) (fun q => absurd rfl q)⟩, fun q => ⟨rfl, rfl, rfl, m 1 _ q (no (by decide)) (fun _ => pc.2.1) (no (by decide)) (no (by decide)) (no (by decide)) (no (by decide)) (no (by decide)) (no (by decide)) (no (by decide)) (no (by decide)) (fun _ q => absurd rfl q)⟩, fun q => ⟨rfl, rfl, m 2 _ q (no (by decide)) (no (by decide)) (fun _ => r1.trans (e0 16 (by omega)).symm) (no (by decide)) (no (by decide)) (no (by decide)) (no (by decide)) (no (by decide)) (no (by decide)) (no (by decide)) (fun _ _ q => absurd rfl q)⟩, fun q => ⟨rfl, rfl, m 3 _ q (no (by decide)) (no (by decide)) (no (by decide)) (fun _ => (n1.trans n2.symm).trans (e0 18 (by omega)).symm) (no (by decide)) (no (by decide)) (no (by decide)) (no (by decide)) (no (by decide)) (no (by decide)) (fun _ _ _ q => absurd rfl q)⟩, fun q => ⟨rfl, rfl, rfl, m 4 _ q (no (by decide)) (no (by decide)) (no (by decide)) (no (by decide)) (fun _ => r4.trans (e0 23 (by omega)).symm) (no (by decide)) (no (by decide)) (no (by decide)) (no (by decide)) (no (by decide)) (fun _ _ _ _ q => absurd rfl q)⟩, fun q => ⟨rfl, rfl, m 5 _ q (no (by decide)) (no (by decide)) (no (by decide)) (no (by decide)) (no (by decide)) (fun _ => r5.trans (e0 22 (by omega)).symm) (no (by decide)) (no (by decide)) (no (by decide)) (no (by decide)) (fun _ _ _ _ _ q => absurd rfl q)⟩, fun q => ⟨rfl, rfl, m 6 _ q (no (by decide)) (no (by decide)) (no (by decide)) (no (by decide)) (no (by decide)) (no (by decide)) (fun _ => r6.trans (e0 21 (by omega)).symm) (no (by decide)) (no (by decide)) (no (by decide)) (fun _ _ _ _ _ _ q => absurd rfl q)⟩, fun q => ⟨rfl, rfl, m 7 _ q (no (by decide)) (no (by decide)) (no (by decide)) (no (by decide)) (no (by decide)) (no (by decide)) (no (by decide)) (fun _ => r3.trans (e0 26 (by omega)).symm) (no (by decide)) (no (by decide)) (fun _ _ _ _ _ _ _ q => absurd rfl q)⟩, fun q => ⟨rfl, rfl, rfl, c_numberOf (i := 0) pc (by omega) (m 8 _ q (no (by decide)) (no (by decide)) (no (by decide)) (no (by decide)) (no (by decide)) (no (by decide)) (no (by decide)) (no (by decide)) (fun _ => rfl) (no (by decide)) (fun _ _ _ _ _ _ _ _ q => absurd rfl q))⟩, fun q => ⟨rfl, rfl, rfl, ?_⟩, fun q0 q1 q2 q3 q4 q5 q6 q7 q8 q9 => m z (-1) rfl (fun q => absurd q q0) (fun q => absurd q q1) (fun q => absurd q q2) (fun q => absurd q q3) (fun q => absurd q q4) (fun q => absurd q q5) (fun q => absurd q q6) (fun q => absurd q q7) (fun q => absurd q q8) (fun q => absurd q q9) (fun _ _ _ _ _ _ _ _ _ _ => rfl)⟩
  · rw [t2, e0 1 (by omega), u2]
  · have k9 : ∀ r, r = nbr P (P.length - 1) → wp_Mo_count 250 z A (fun b A2 => r = b ∧ Inv A2) := fun r hr => m 9 r q (no (by decide)) (no (by decide)) (no (by decide)) (no (by decide)) (no (by decide)) (no (by decide)) (no (by decide)) (no (by decide)) (no (by decide)) (fun _ => hr) (fun _ _ _ _ _ _ _ _ _ q => absurd rfl q)
    rw [pc.2.1]
    by_cases hl : 1 ≤ P.length
    · rw [iN_s1 hl]
      exact c_numberOf pc (by omega) (k9 _ rfl)
    · have hP0 : P.length = 0 := by omega
      rw [hP0, show iN 0 - 1 = (-1 : Int32) from rfl]
      refine c_numberOfN (k9 _ ?_)
      unfold nbr
      rw [List.getElem?_eq_none (by omega)]
theorem t_wipe (h : Inv A) : wp_BM_wipe 1 A (fun r A1 => wp_Mo_wipe 250 A1 (fun b A2 => r = b ∧ Inv A2)) := by
  have h' := h
  obtain ⟨tl, P, sl, ⟨ht, hu, he⟩, h0⟩ := h'
  obtain ⟨⟨w1, w2⟩, ⟨pc, pm, ps, pl⟩, ⟨ho, vm, st, ft, hev⟩, hr⟩ := h0
  have g4 : gR A 1 4 = 5 := w1.1.2.2.1
  have g50 : gR A 5 0 = 6 := w1.2.1.1
  have hl24 := pc.1
  unfold wp_BM_wipe
  rw [g4, g50, pc.2.1]
  have pm6 : PMs (sI A 6 0 0) P sl := PMs_cg pm (fun _ _ => gI_ne (Or.inl (by omega))) (fun _ _ => gI_ne (Or.inl (by omega))) (fun _ _ => gI_ne (Or.inl (by omega))) (fun _ _ => gI_ne (Or.inl (by omega))) (fun _ _ => gI_ne (Or.inl (by omega)))
  have w26 : MW (sI A 6 0 0) := w2
  refine ⟨rfl, rfl, rfl, rfl, y_lines w26 pm6 (Psr_ne ps) ⟨25, ?_⟩⟩
  have lp : ∀ (n i fu : Nat) (C : Mem), i + n = 24 → n < fu → gR C = gR A → gD C = gD A → (∀ o, o ≠ 6 → o ≠ 253 → gI C o = gI A o) → gI C 6 0 = 0 → (∀ j, j < i → gI C 253 j = 0) → wp_Mo_wipe_c7 (fun b A2 => iN P.length = b ∧ Inv A2) fu 250 (iN P.length) (iN i) C := by
    intro n
    induction n with
    | zero =>
      intro i fu C hi hfu c2 c3 c4 c5 c6
      obtain ⟨fu, rfl⟩ : ∃ g, fu = g + 1 := ⟨fu - 1, by omega⟩
      have hi : i = 24 := by omega
      subst hi
      refine ⟨fun _ => ⟨rfl, rfl, rfl, Inv_c ?_⟩, fun q => absurd (show (24 : Int32) ≤ iN 24 by decide) q⟩
      obtain ⟨p1, p2, p3, p4, p5, p6⟩ := pc
      obtain ⟨t1, t2, t3, t4⟩ := ht
      obtain ⟨u1, u2, u3, u4⟩ := hu
      have eln : ∀ i, ln C i = ln A i := fun i => by unfold ln; rw [c2]
      refine ⟨tl, [], [], ⟨⟨t1, by rw [c4 1 (by omega) (by omega)]; exact t2, by rw [c4 2 (by omega) (by omega)]; exact t3, t4⟩, ⟨u1, by rw [c4 250 (by omega) (by omega)]; exact u2, by rw [c4 251 (by omega) (by omega)]; exact u3, u4⟩, by rw [c4 1 (by omega) (by omega), c4 250 (by omega) (by omega)]; exact he⟩, ⟨by unfold WC; rw [c2]; exact w1, by unfold MW; rw [c2]; exact w2⟩, ⟨⟨Nat.zero_le _, c5, by rw [c2]; exact p3, fun i hi => by rw [eln]; exact p4 i hi, fun i j hi hj => by rw [eln, eln]; exact p5 i j hi hj, fun i v d hp => (by cases hp)⟩, ⟨rfl, List.nodup_nil, fun k hk => (by cases hk), fun k hk _ => c6 k hk, fun i k v d hi => (by cases hi)⟩, ⟨fun e he => (by cases he), List.Pairwise.nil⟩, PLd_nil⟩, ⟨by rw [c3]; exact ho, vm, st, ft, ?_⟩, ?_⟩
      · obtain ⟨-, ⟨b1, b2, b3, b4, b5, b6⟩, g1, g2, g3⟩ := hev
        exact ⟨⟨rfl, rfl, fun _ _ _ _ => rfl, fun _ _ _ _ => rfl, fun _ _ _ _ => rfl⟩, ⟨by rw [c3]; exact b1, by rw [c4 250 (by omega) (by omega)]; exact b2, b3, by rw [c4 250 (by omega) (by omega)]; exact b4, b5, trivial⟩, by rw [c4 250 (by omega) (by omega)]; exact g1, g2, by rw [c3]; exact g3⟩
      · unfold InvR
        rw [c3, c4 5 (by omega) (by omega), c4 20 (by omega) (by omega), c4 250 (by omega) (by omega), c4 269 (by omega) (by omega), c4 270 (by omega) (by omega)]
        refine ⟨hr.1, hr.2.1, hr.2.2.1, fun m hm => ?_⟩
        rw [c4 (12 + m) (by omega) (by omega)]
        exact hr.2.2.2 m hm
    | succ n ih =>
      intro i fu C hi hfu c2 c3 c4 c5 c6
      obtain ⟨fu, rfl⟩ : ∃ g, fu = g + 1 := ⟨fu - 1, by omega⟩
      unfold wp_Mo_wipe_c7
      rw [c2, w2.1 10 (by omega) (by omega), show (24 : Int32) = iN 24 from rfl, iN_le (by omega) (by omega), iN_cl (show i < 2147483648 by omega), iN_1]
      refine ⟨fun q => by omega, fun _ => ⟨rfl, rfl, iN_in (m := 25) (by omega) (by omega), ih (i + 1) fu _ (by omega) (by omega) c2 c3 (fun o h1 h2 => (gI_row h2).trans (c4 o h1 h2)) ((gI_ne (by omega)).trans c5) (fun j hj => ?_)⟩⟩
      by_cases e : j = i
      · rw [e, gI_eq]
      · rw [gI_ne (Or.inr e)]; exact c6 j (by omega)
  exact lp 24 0 25 _ rfl (by omega) rfl rfl (fun o h1 _ => gI_row h1) gI_eq (fun j hj => by omega)
theorem t_printed {z : Int32} (h : Inv A) : wp_La_printed z A (fun k A1 => wp_Mo_printed 250 z A1 (fun b A2 => wp_Mo_thrown 250 A2 (fun t A3 => t = k ∧ (k = 0 → DDd (gD A3 29 0) b) ∧ Inv A3))) := by
  have h' := h
  obtain ⟨tl, P, sl, -, ⟨⟨w1, w2⟩, -, -, -, ⟨n, n1, n2, n4, n3⟩, -⟩⟩ := h'
  have g4 : gR A 1 4 = 5 := w1.1.2.2.1
  have g53 : gR A 5 3 = 25 := w1.2.1.2.2.2.1
  have m28 : gR A 250 28 = 259 := w2.2 28 (by omega) (by omega)
  have bad : ∀ b : UInt64, kd 250 = 9 ∧ (kd 250 = 9 ∧ (gI (sI A 250 0 1) 250 0 = 1 ∧ ((1 : Int32) = 0 → DDd (gD (sI A 250 0 1) 29 0) b) ∧ Inv (sI A 250 0 1))) := fun b => ⟨rfl, rfl, gI_eq, fun q => absurd q (by decide), Inv_c h⟩
  unfold wp_La_printed wp_BM_printed wp_Mo_printed wp_Mo_thrown
  rw [g4, g53, n1]
  refine ⟨fun hn => ⟨rfl, fun _ => bad _, fun q => absurd hn q⟩, fun hn => ⟨fun h40 => ⟨rfl, fun q => absurd q hn, fun _ => ⟨rfl, fun _ => (bad _).2, fun _ => ⟨fun q => ?_, fun _ => (bad _).2⟩⟩⟩, fun h40 => ⟨rfl, rfl, fun hlt => ?_, fun hge => ⟨rfl, fun q => absurd q hn, fun _ => ⟨rfl, fun _ => (bad _).2, fun q => ?_⟩⟩⟩⟩⟩
  · exact absurd (i32_tr h40 q) (by decide)
  · have hz0 : 0 ≤ z := Int32.not_lt.mp hn
    have ez := iN_of hz0
    have hzl := Int32.toNatClampNeg_lt z
    rw [ez, show (40 : Int32) = iN 40 from rfl, iN_le (by omega) (by omega)] at h40
    rw [ez, iN_lt hzl (by omega)] at hlt
    obtain ⟨d1, d2⟩ := n3 z.toNatClampNeg hlt (by omega)
    refine ⟨rfl, ?_, ?_⟩
    · rw [ez]
      exact iN_in (m := 40) (by omega) hzl
    · refine ⟨fun q => absurd q hn, fun _ => ⟨rfl, fun q => ?_, fun _ => ⟨fun _ => ⟨?_, ?_, ?_⟩, fun q => ?_⟩⟩⟩
      · have : iN n ≤ z := by
          have e : gI (sD A 29 0 (gD A 25 z.toNatClampNeg)) 250 18 = iN n := n2
          rw [e] at q; exact q
        rw [ez, iN_le (by omega) hzl] at this
        omega
      · rw [show gR (sI (sD A 29 0 (gD A 25 z.toNatClampNeg)) 250 0 0) 250 28 = 259 from m28]; rfl
      · rw [show gR (sI (sD A 29 0 (gD A 25 z.toNatClampNeg)) 250 0 0) 250 28 = 259 from m28, ez]
        exact iN_in (m := 40) (by omega) hzl
      · rw [show gR (sI (sD A 29 0 (gD A 25 z.toNatClampNeg)) 250 0 0) 250 28 = 259 from m28]
        refine ⟨rfl, gI_eq, fun _ => DDz ?_, Inv_c (Inv_D h)⟩
        show dz (gD (sD A 29 0 (gD A 25 z.toNatClampNeg)) 29 0) (gD (sD A 29 0 (gD A 25 z.toNatClampNeg)) 259 z.toNatClampNeg) ∧ okd (gD (sD A 29 0 (gD A 25 z.toNatClampNeg)) 29 0)
        rw [gD_eq, gD_ne (Or.inl (by omega))]
        exact ⟨d1, d2⟩
      · rw [ez, show (39 : Int32) = iN 39 from rfl, iN_le (by omega) (by omega)] at q
        omega
  · rw [n2] at q
    exact absurd (Int32.not_lt.mp hge) q
end IN2
