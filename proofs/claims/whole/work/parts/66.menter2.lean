/-! the reference's enter, whole -/
section MF
variable {A : Mem} {P : PT} {sl : List Nat}
theorem Psr_ne (h : Psr P) : ∀ e ∈ P, e.1 ≠ 0 := fun e he h0 => by have := h.1 e he; rw [h0] at this; exact absurd this (by decide)
theorem Psr_rem {v : Int32} {P' : PT} (h : Psr P) (hr : remS P v = some P') : Psr P' := by
  unfold remS at hr
  split at hr
  · cases hr
    rename_i i hi
    have hsub : (P.take i ++ P.drop (i + 1)).Sublist P := by
      rw [← List.eraseIdx_eq_take_drop_succ]
      exact List.eraseIdx_sublist _ _
    exact ⟨fun e he => h.1 e (hsub.subset he), h.2.sublist hsub⟩
  · cases hr
theorem c140_rem {B A' : Mem} {n : Nat} {v : Int32} {K : Int32 → Mem → Prop} {wt : Nat → Int32} {lo p : Nat} {x : MT} (hW : MW A) (hBs : Bse A B) (hs : Psr P) (hP : PMs A P sl) (hv : 0 < v) (hB24 : gI B 253 24 = v) (h : MG B n lo wt p x A') (k : match remS P v with
      | some P' => ∀ A'' sl', mFr A A'' → PMs A'' P' sl' → gI A'' 250 1 = iN 0 → gI A'' 250 3 = -1 → gI A'' 250 0 = 0 → K (iN P'.length) A''
      | none => ∀ A'', mFr A A'' → PMs A'' P sl → gI A'' 250 1 = iN 0 → gI A'' 250 3 = -1 → gI A'' 250 0 = 2 → ∀ r, K r A'') : wp_Mo_enter_c140 K 250 1 A' := by
  obtain ⟨g1, g2, g3⟩ := mFr_B hBs h.1
  have hP' := PMs_B hP hBs h.1
  have hW' : MW A' := by unfold MW; rw [g1.2.2.1]; exact hW
  have h24 : gI A' 253 24 = v := by rw [h.1.2.2.2 253 24 (by omega) (by omega) (by omega) (by omega) (by omega)]; exact hB24
  refine ⟨rfl, fun _ => ?_, fun h7 => absurd (MG_e h) h7⟩
  rw [hW'.1 10 (by omega) (by omega), show (24 : Int32) = iN 24 from rfl, iN_cl (by omega), show 243 + 10 = 253 from rfl, h24]
  refine ⟨rfl, iN_in (m := 25) (by omega) (by omega), y_slot hW' (fun s hs24 he hfirst => ?_) (fun hno => ?_)⟩
  · refine ⟨fun h => absurd h (by decide), fun _ => ⟨fun _ => ?_, fun h => ?_⟩⟩
    · obtain ⟨i, d, hi, hpi⟩ := slot_lt hP' hv hs24 he
      have hiP := (List.getElem?_eq_some_iff.mp hpi).1
      have hf : fnd P v 0 = some i := by
        cases hf : fnd P v 0 with
        | none => exact absurd rfl (fnd_none P v 0 hf _ (List.mem_of_getElem? hpi))
        | some j =>
          obtain ⟨hj, ej⟩ := fnd_get P v hf
          have hj2 : P[j]? = some (v, (P[j]).2) := by rw [List.getElem?_eq_getElem hj, ← ej]
          rw [← plc_eq P v i d hs.2 hpi, ← plc_eq P v j _ hs.2 hj2]
      unfold remS at k
      rw [hf] at k
      rw [hW'.1 10 (by omega) (by omega), iN_cl (by omega)]
      refine ⟨rfl, iN_in (m := 25) (by omega) (by omega), ?_⟩
      have hnd := hP'.2.1
      have hPr : remS P v = some (P.take i ++ P.drop (i + 1)) := by unfold remS; rw [hf]
      have hsli : i < sl.length := by rw [hP'.1]; exact hiP
      have hsi : sl[i] = s := by rw [List.getElem?_eq_getElem hsli] at hi; exact Option.some.inj hi
      have hPM : PMs (sI A' (243 + 10) s 0) (P.take i ++ P.drop (i + 1)) (sl.take i ++ sl.drop (i + 1)) := by
        have hsub : (sl.take i ++ sl.drop (i + 1)).Sublist sl := by
          rw [← List.eraseIdx_eq_take_drop_succ]
          exact List.eraseIdx_sublist _ _
        have hns : s ∉ sl.take i ++ sl.drop (i + 1) := by
          intro hm
          have hnd' := hnd
          rw [show sl = sl.take i ++ s :: sl.drop (i + 1) by rw [← hsi, ← List.drop_eq_getElem_cons hsli, List.take_append_drop]] at hnd'
          rw [List.nodup_append] at hnd'
          rcases List.mem_append.mp hm with h9 | h9
          · exact hnd'.2.2 s h9 s List.mem_cons_self rfl
          · exact (List.nodup_cons.mp hnd'.2.1).1 h9
        refine ⟨by have := hP'.1; simp; omega, hnd.sublist hsub, fun c hc => hP'.2.2.1 c (hsub.subset hc), fun c hc hn => ?_, fun j c w e hj hp => ?_⟩
        · by_cases hcs : c = s
          · rw [hcs]; exact gI_eq
          · rw [gI_ne (Or.inr hcs)]
            refine hP'.2.2.2.1 c hc (fun hm => hn ?_)
            rw [show sl = sl.take i ++ s :: sl.drop (i + 1) by rw [← hsi, ← List.drop_eq_getElem_cons hsli, List.take_append_drop]] at hm
            rcases List.mem_append.mp hm with h9 | h9
            · exact List.mem_append_left _ h9
            · rcases List.mem_cons.mp h9 with h9 | h9
              · exact absurd h9 hcs
              · exact List.mem_append_right _ h9
        · have hcs : c ≠ s := fun h9 => hns (h9 ▸ List.mem_of_getElem? hj)
          have go : ∃ j' : Nat, sl[j']? = some c ∧ P[j']? = some (w, e) := by
            by_cases c1 : j < i
            · rw [List.getElem?_append_left (by simp; omega), List.getElem?_take_of_lt c1] at hj hp
              exact ⟨j, hj, hp⟩
            · have e8 : (sl.take i).length = i := by simp; omega
              have e9 : (P.take i).length = i := by simp; omega
              rw [List.getElem?_append_right (by omega), e8, List.getElem?_drop] at hj
              rw [List.getElem?_append_right (by omega), e9, List.getElem?_drop] at hp
              exact ⟨_, hj, hp⟩
          obtain ⟨j', hj', hp'⟩ := go
          obtain ⟨q1, q2⟩ := hP'.2.2.2.2 j' c w e hj' hp'
          refine ⟨by rw [gI_ne (Or.inr hcs)]; exact q1, MSlot_cg q2 (by rw [gI_ne (by omega)]) (fun _ _ => by rw [gI_ne (by omega)]) (fun _ _ => by rw [gI_ne (by omega)]) (fun _ _ => by rw [gI_ne (by omega)])⟩
      have hW2 : MW (sI A' (243 + 10) s 0) := hW'
      refine y_lines hW2 hPM (Psr_ne (Psr_rem hs hPr)) ⟨rfl, k _ _ (mFr_0 ?_ (by omega)) (PMs_0 hPM) ?_ ?_ gI_eq⟩
      · exact ⟨g1.1, g1.2.1, g1.2.2.1, fun o ho => (gI_row (by omega)).trans (g1.2.2.2.1 o ho), (gI_row (by omega)).trans g1.2.2.2.2.1, fun o ho => (gI_row (by omega)).trans (g1.2.2.2.2.2.1 o ho), fun j hj => (gI_ne (by omega)).trans (g1.2.2.2.2.2.2 j hj)⟩
      · rw [gI_ne (by omega), gI_ne (by omega)]; exact g2
      · rw [gI_ne (by omega), gI_ne (by omega)]; exact g3
    · rw [show (0 : Int32) = iN 0 from rfl, iN_le (by omega) (by omega)] at h
      omega
  · refine ⟨fun h => absurd h (by decide), fun _ => ⟨fun h => absurd h (by decide), fun _ => ⟨rfl, ?_⟩⟩⟩
    have hf : fnd P v 0 = none := by
      cases hf : fnd P v 0 with
      | none => rfl
      | some j =>
        obtain ⟨hj, ej⟩ := fnd_get P v hf
        obtain ⟨s, -, hs24, he⟩ := slot_of hP' hj
        exact absurd (he.trans ej) (hno s hs24)
    unfold remS at k
    rw [hf] at k
    exact k _ (mFr_0 g1 (by omega)) (PMs_0 hP') (by rw [gI_ne (by omega)]; exact g2) (by rw [gI_ne (by omega)]; exact g3) gI_eq _
theorem MSlot_cp {A' A'' : Mem} {C : Mem} {n lo p s : Nat} {d : LDT} {wt : Nat → Int32} {x : MT} (hG : MG C n lo wt p x A') (hl : x.2.1.length ≤ 150) (hd : MLd d x.2.1 x.2.2.1 x.2.2.2) (hC : gI A' 254 24 = iN d.1) (hcp : CpR s A' A'') (hm : ∀ i, i < x.2.1.length → gI A'' 257 (s * 160 + i) = gI A' 257 (3840 + i)) : MSlot A'' s d := by
  obtain ⟨hF, hp, hlo, h4, h5, h5', h6, h7, h57, hag, hex, hwt⟩ := hG
  obtain ⟨c1, c2, c3, c4, c5, c6, c7, c8, c9, c10⟩ := hcp
  refine ⟨by rw [c6 s, if_pos rfl]; exact hC, x.2.1, x.2.2.1, x.2.2.2, hd, fun i hi => (c8 i hi).trans (hag i hi), fun i hi => by rw [c10 i hi, hex i hi], hl, fun j y hj => ?_⟩
  have hlt := (List.getElem?_eq_some_iff.mp hj).1
  show gI A'' 257 (s * 160 + j) = y
  rw [hm j hlt]
  exact h57 j y hj
theorem MSlot_keep {A' A'' : Mem} {s c w : Nat} {d : LDT} (h : MSlot A' c d) (hc : c < 24) (hs : s < 24) (hcs : c ≠ s) (hcp : CpR s A' A'') (hw : w ≤ 160) (hn : ∀ j, ¬ (s * 160 ≤ j ∧ j < s * 160 + w) → gI A'' 257 j = gI A' 257 j) : MSlot A'' c d := by
  obtain ⟨c1, c2, c3, c4, c5, c6, c7, c8, c9, c10⟩ := hcp
  refine MSlot_cg h (by rw [c6 c, if_neg hcs]) (fun i hi => c7 _ (by omega)) (fun i hi => c9 _ (by omega)) (fun j hj => hn _ (by omega))
theorem mFr_cp {A' A'' : Mem} {s : Nat} (h : mFr A A') (hcp : CpR s A' A'') : mFr A A'' := by
  obtain ⟨c1, c2, c3, c4, c5, c6, c7, c8, c9, c10⟩ := hcp
  exact ⟨c1.trans h.1, c2.trans h.2.1, c3.trans h.2.2.1, fun o ho => (c4 o (by omega) (by omega) (by omega) (by omega) (by omega)).trans (h.2.2.2.1 o ho), (c4 251 (by omega) (by omega) (by omega) (by omega) (by omega)).trans h.2.2.2.2.1, fun o ho => (c4 o (by omega) (by omega) (by omega) (by omega) (by omega)).trans (h.2.2.2.2.2.1 o ho), fun j hj => by rw [c4 250 (by omega) (by omega) (by omega) (by omega) (by omega)]; exact h.2.2.2.2.2.2 j hj⟩
theorem Psr_put {v : Int32} {d : LDT} {P' : PT} (h : Psr P) (hv : 0 < v) (hp : putS P v d = some P') : Psr P' := by
  have key : ∀ (Q : PT), Q.Pairwise (fun a b => a.1 < b.1) → (∀ e ∈ Q.take (plc Q v), e.1 < v) ∧ (∀ e ∈ Q.drop (plc Q v), v ≤ e.1) := by
    intro Q
    induction Q with
    | nil => intro _; exact ⟨fun e he => by simp at he, fun e he => by simp at he⟩
    | cons q r ih =>
      intro hs
      rw [List.pairwise_cons] at hs
      unfold plc
      split
      · rename_i hle
        refine ⟨fun e he => by simp at he, fun e he => ?_⟩
        rw [List.drop_zero] at he
        rcases List.mem_cons.mp he with rfl | he
        · exact hle
        · exact Int32.le_trans hle (Int32.le_of_lt (hs.1 e he))
      · rename_i hle
        rw [i32_nle] at hle
        have := ih hs.2
        refine ⟨fun e he => ?_, fun e he => this.2 e (by simpa using he)⟩
        rw [List.take_succ_cons] at he
        rcases List.mem_cons.mp he with rfl | he
        · exact hle
        · exact this.1 e he
  obtain ⟨k1, k2⟩ := key P h.2
  unfold putS at hp
  split at hp
  · rename_i hh
    cases hp
    have e1 : v = (P[plc P v]'hh.2).1 := hh.1.symm.trans (nbr_lt (P := P) hh.2)
    have e2 : P = P.take (plc P v) ++ P[plc P v]'hh.2 :: P.drop (plc P v + 1) := by rw [← List.drop_eq_getElem_cons hh.2, List.take_append_drop]
    have e3 : P.set (plc P v) (v, d) = P.take (plc P v) ++ (v, d) :: P.drop (plc P v + 1) := List.set_eq_take_append_cons_drop.trans (if_pos hh.2)
    have hs := h.2
    rw [e2, List.pairwise_append, List.pairwise_cons] at hs
    rw [e3]
    refine ⟨fun e he => ?_, ?_⟩
    · rcases List.mem_append.mp he with h9 | h9
      · exact h.1 e (List.mem_of_mem_take h9)
      · rcases List.mem_cons.mp h9 with rfl | h9
        · exact hv
        · exact h.1 e (List.mem_of_mem_drop h9)
    · rw [List.pairwise_append, List.pairwise_cons]
      refine ⟨hs.1, ⟨fun e he => ?_, hs.2.1.2⟩, fun a ha b hb => ?_⟩
      · have := hs.2.1.1 e he
        rw [← e1] at this
        exact this
      · rcases List.mem_cons.mp hb with rfl | hb
        · exact k1 a ha
        · exact hs.2.2 a ha b (List.mem_cons_of_mem _ hb)
  · rename_i hh
    split at hp
    · cases hp
      have hs := h.2
      rw [← List.take_append_drop (plc P v) P, List.pairwise_append] at hs
      refine ⟨fun e he => ?_, ?_⟩
      · rcases List.mem_append.mp he with h9 | h9
        · exact h.1 e (List.mem_of_mem_take h9)
        · rcases List.mem_cons.mp h9 with rfl | h9
          · exact hv
          · exact h.1 e (List.mem_of_mem_drop h9)
      · rw [List.pairwise_append, List.pairwise_cons]
        refine ⟨hs.1, ⟨fun e he => ?_, hs.2.1⟩, fun a ha b hb => ?_⟩
        · have h9 := k2 e he
          have hne : e.1 ≠ v := by
            intro h8
            apply hh
            have hm := List.mem_of_mem_drop he
            obtain ⟨i, hi, rfl⟩ := List.mem_iff_getElem.mp hm
            have h7 : P[i]? = some (v, (P[i]).2) := by rw [List.getElem?_eq_getElem hi, ← h8]
            have := plc_eq P v i _ h.2 h7
            rw [this]
            exact ⟨(nbr_lt hi).trans h8, hi⟩
          rw [Int32.lt_iff_toInt_lt]
          rw [Int32.le_iff_toInt_le] at h9
          have h6 : e.1.toInt ≠ v.toInt := fun h => hne (Int32.toInt_inj.mp h)
          show v.toInt < e.1.toInt
          omega
        · rcases List.mem_cons.mp hb with rfl | hb
          · exact k1 a ha
          · exact hs.2.2 a ha b hb
    · cases hp
theorem c140_st {C A' : Mem} {n : Nat} {v : Int32} {d : LDT} {K : Int32 → Mem → Prop} {lo p : Nat} (hW : MW A) (hBs : Bse A C) (hs : Psr P) (hP : PMs A P sl) (hl24 : P.length ≤ 24) (hv : 0 < v) (hC3 : gI C 253 24 = v) (hC4 : gI C 254 24 = iN d.1) (h : MFin C n lo p d A') (k : match putS P v d with
      | some P' => ∀ A'' sl', mFr A A'' → PMs A'' P' sl' → gI A'' 250 1 = iN 0 → gI A'' 250 3 = -1 → gI A'' 250 0 = 0 → K (iN P'.length) A''
      | none => ∀ A'', mFr A A'' → PMs A'' P sl → gI A'' 250 1 = iN 0 → gI A'' 250 3 = -1 → gI A'' 250 0 = 3 → ∀ r, K r A'') : wp_Mo_enter_c140 K 250 0 A' := by
  obtain ⟨wt, x, hG, hl, hd⟩ := h
  obtain ⟨g1, g2, g3⟩ := mFr_B hBs hG.1
  have hP' := PMs_B hP hBs hG.1
  have hW' : MW A' := by unfold MW; rw [g1.2.2.1]; exact hW
  have h24 : gI A' 253 24 = v := by rw [hG.1.2.2.2 253 24 (by omega) (by omega) (by omega) (by omega) (by omega)]; exact hC3
  have h244 : gI A' 254 24 = iN d.1 := by rw [hG.1.2.2.2 254 24 (by omega) (by omega) (by omega) (by omega) (by omega)]; exact hC4
  have h6 : gI A' 250 6 = iN x.2.1.length := hG.2.2.2.2.2.2.1
  -- the copy to slot s, which makes the program P'
  have cpy : ∀ (s : Nat) (P' : PT) (sl' : List Nat), s < 24 → putS P v d = some P' → (∀ A'' w, w ≤ 160 → CpR s A' A'' → (∀ j, ¬ (s * 160 ≤ j ∧ j < s * 160 + w) → gI A'' 257 j = gI A' 257 j) → MSlot A'' s d → PMs A'' P' sl') → wp_Mo_enter_c213 K 250 (iN s) A' := by
    intro s P' sl' hs24 hput hmk
    rw [hput] at k
    refine ⟨fun _ => ⟨rfl, y_copyTo (c := x.2.1.length) hs24 (by omega) hW' h6 (fun A'' hcp hn hm => ?_)⟩, fun h => ?_⟩
    · have hPM := hmk A'' x.2.1.length (by omega) hcp hn (MSlot_cp hG hl hd h244 hcp hm)
      have hW2 : MW A'' := by unfold MW; rw [hcp.2.2.1]; exact hW'
      have e250 : gI A'' 250 = gI A' 250 := hcp.2.2.2.1 250 (by omega) (by omega) (by omega) (by omega) (by omega)
      refine y_lines hW2 hPM (Psr_ne (Psr_put hs hv hput)) ⟨rfl, k _ sl' (mFr_0 (mFr_cp g1 hcp) (by omega)) (PMs_0 hPM) ?_ ?_ gI_eq⟩
      · rw [gI_ne (by omega), e250]; exact g2
      · rw [gI_ne (by omega), e250]; exact g3
    · rw [show (0 : Int32) = iN 0 from rfl, iN_le (by omega) (by omega)] at h
      omega
  refine ⟨rfl, fun _ => ?_, fun h7 => absurd (MG_e hG) h7⟩
  rw [hW'.1 10 (by omega) (by omega), show (24 : Int32) = iN 24 from rfl, iN_cl (by omega), show 243 + 10 = 253 from rfl, h24]
  refine ⟨rfl, iN_in (m := 25) (by omega) (by omega), y_slot hW' (fun s hs24 he hfirst => ⟨fun _ => ⟨fun _ => ?_, fun h => ?_⟩, fun h => absurd rfl h⟩) (fun hno => ⟨fun _ => ⟨fun h => absurd h (by decide), fun _ => ?_⟩, fun h => absurd rfl h⟩)⟩
  · -- a line of this number is there
    obtain ⟨i, d0, hi, hpi⟩ := slot_lt hP' hv hs24 he
    have hiP := (List.getElem?_eq_some_iff.mp hpi).1
    have hplc := plc_eq P v i d0 hs.2 hpi
    have hput : putS P v d = some (P.set i (v, d)) := by
      unfold putS
      rw [hplc, if_pos]
      refine ⟨?_, hiP⟩
      unfold nbr
      rw [hpi]
    refine cpy s _ sl hs24 hput (fun A'' w hw hcp hn hms => ⟨by rw [List.length_set]; exact hP'.1, hP'.2.1, hP'.2.2.1, fun c hc hcn => ?_, fun j c u e hj hp => ?_⟩)
    · have hcs : c ≠ s := fun h9 => hcn (h9 ▸ List.mem_of_getElem? hi)
      rw [hcp.2.2.2.2.1 c, if_neg hcs]
      exact hP'.2.2.2.1 c hc hcn
    · by_cases hji : j = i
      · subst hji
        rw [hi] at hj
        cases hj
        rw [List.getElem?_set_self hiP] at hp
        cases hp
        exact ⟨by rw [hcp.2.2.2.2.1 s, if_pos rfl]; exact h24, hms⟩
      · rw [List.getElem?_set_ne (Ne.symm hji)] at hp
        have hc24 : c < 24 := hP'.2.2.1 c (List.mem_of_getElem? hj)
        have hcs : c ≠ s := by
          intro h9
          subst h9
          have h1 := (List.getElem?_eq_some_iff.mp hi).1
          exact hji ((List.getElem?_inj (List.getElem?_eq_some_iff.mp hj).1 hP'.2.1).mp (hj.trans hi.symm))
        obtain ⟨q1, q2⟩ := hP'.2.2.2.2 j c u e hj hp
        exact ⟨by rw [hcp.2.2.2.2.1 c, if_neg hcs]; exact q1, MSlot_keep q2 hc24 hs24 hcs hcp hw hn⟩
  · rw [show (0 : Int32) = iN 0 from rfl, iN_le (by omega) (by omega)] at h
    omega
  · -- none is
    have hnone : ¬ (nbr P (plc P v) = v ∧ plc P v < P.length) := by
      rintro ⟨h1, h2⟩
      obtain ⟨s, -, hs24, he⟩ := slot_of hP' h2
      rw [nbr_lt h2] at h1
      exact hno s hs24 (he.trans h1)
    have hpl := plc_le P v
    refine y_slot hW' (fun s hs24 he hfirst => ?_) (fun hno0 => ?_)
    · have hns : s ∉ sl := by
        intro hm
        obtain ⟨i, hi, rfl⟩ := List.mem_iff_getElem.mp hm
        have hp : i < P.length := by have := hP'.1; omega
        have := (hP'.2.2.2.2 i sl[i] (P[i]).1 (P[i]).2 (List.getElem?_eq_getElem hi) (List.getElem?_eq_getElem hp)).1
        rw [he] at this
        exact Psr_ne hs _ (List.getElem_mem hp) this.symm
      have hlt : P.length < 24 := by
        have h1 : (s :: sl).Nodup := List.nodup_cons.mpr ⟨hns, hP'.2.1⟩
        have h2 := List.Nodup.length_le_of_subset h1 (l₂ := List.range 24) (fun c hc => by
          rcases List.mem_cons.mp hc with rfl | hc
          · exact List.mem_range.mpr hs24
          · exact List.mem_range.mpr (hP'.2.2.1 c hc))
        have h3 := hP'.1
        simp at h2
        omega
      have hput : putS P v d = some (P.take (plc P v) ++ (v, d) :: P.drop (plc P v)) := by
        unfold putS
        rw [if_neg hnone, if_pos hlt]
      have hsl : plc P v ≤ sl.length := by have := hP'.1; omega
      refine cpy s _ (sl.take (plc P v) ++ s :: sl.drop (plc P v)) hs24 hput (fun A'' w hw hcp hn hms => ?_)
      have mem' : ∀ c, c ∈ sl.take (plc P v) ++ s :: sl.drop (plc P v) ↔ c = s ∨ c ∈ sl := by
        intro c
        rw [List.mem_append, List.mem_cons]
        constructor
        · rintro (h9 | h9 | h9)
          · exact Or.inr (List.mem_of_mem_take h9)
          · exact Or.inl h9
          · exact Or.inr (List.mem_of_mem_drop h9)
        · rintro (h9 | h9)
          · exact Or.inr (Or.inl h9)
          · rw [← List.take_append_drop (plc P v) sl] at h9
            rcases List.mem_append.mp h9 with h8 | h8
            · exact Or.inl h8
            · exact Or.inr (Or.inr h8)
      have hnd := hP'.2.1
      rw [← List.take_append_drop (plc P v) sl, List.nodup_append] at hnd
      refine ⟨by have := hP'.1; simp; omega, ?_, fun c hc => ?_, fun c hc hcn => ?_, fun j c u e hj hp => ?_⟩
      · rw [List.nodup_append, List.nodup_cons]
        refine ⟨hnd.1, ⟨fun hm => hns (List.mem_of_mem_drop hm), hnd.2.1⟩, fun a ha b hb => ?_⟩
        rcases List.mem_cons.mp hb with rfl | hb
        · rintro rfl; exact hns (List.mem_of_mem_take ha)
        · exact hnd.2.2 a ha b hb
      · rcases (mem' c).mp hc with rfl | hc
        · exact hs24
        · exact hP'.2.2.1 c hc
      · have h8 : c ≠ s ∧ c ∉ sl := ⟨fun h9 => hcn ((mem' c).mpr (Or.inl h9)), fun h9 => hcn ((mem' c).mpr (Or.inr h9))⟩
        rw [hcp.2.2.2.2.1 c, if_neg h8.1]
        exact hP'.2.2.2.1 c hc h8.2
      · have e8 : (sl.take (plc P v)).length = plc P v := by simp; omega
        have e9 : (P.take (plc P v)).length = plc P v := by simp; omega
        have old : ∀ j' : Nat, sl[j']? = some c → P[j']? = some (u, e) → gI A'' 253 c = u ∧ MSlot A'' c e := by
          intro j' hj' hp'
          have hm := List.mem_of_getElem? hj'
          have hcs : c ≠ s := fun h9 => hns (h9 ▸ hm)
          obtain ⟨q1, q2⟩ := hP'.2.2.2.2 j' c u e hj' hp'
          exact ⟨by rw [hcp.2.2.2.2.1 c, if_neg hcs]; exact q1, MSlot_keep q2 (hP'.2.2.1 c hm) hs24 hcs hcp hw hn⟩
        by_cases c1 : j < plc P v
        · rw [List.getElem?_append_left (by omega), List.getElem?_take_of_lt c1] at hj hp
          exact old j hj hp
        · rw [List.getElem?_append_right (by omega), e8] at hj
          rw [List.getElem?_append_right (by omega), e9] at hp
          cases ht : j - plc P v with
          | zero =>
            rw [ht] at hj hp
            simp at hj hp
            obtain rfl := hj
            obtain ⟨rfl, rfl⟩ := hp
            exact ⟨by rw [hcp.2.2.2.2.1 s, if_pos rfl]; exact h24, hms⟩
          | succ t =>
            rw [ht, List.getElem?_cons_succ, List.getElem?_drop] at hj hp
            exact old _ hj hp
    · have hput : putS P v d = none := by
        unfold putS
        rw [if_neg hnone, if_neg]
        intro hlt
        have h1 := cnt_P hP' (Psr_ne hs)
        have h2 : ∀ i, i ≤ 24 → cnt A' i = i := by
          intro i
          induction i with
          | zero => intro _; rfl
          | succ i ih =>
            intro hi
            unfold cnt
            rw [ih (by omega), if_neg (hno0 i (by omega))]
        rw [h2 24 (by omega)] at h1
        omega
      rw [hput] at k
      exact ⟨fun h => absurd h (by decide), fun _ => ⟨rfl, rfl, k _ (mFr_0 g1 (by omega)) (PMs_0 hP') (by rw [gI_ne (by omega)]; exact g2) (by rw [gI_ne (by omega)]; exact g3) gI_eq _⟩⟩
end MF
