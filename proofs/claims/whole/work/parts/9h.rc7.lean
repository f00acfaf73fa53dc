theorem rPr_bn {α : Type} {e : Except Nat α} {s : RS} {k : α → RS × Nat} {N : Nat} (h0 : (rPn s).length ≤ N) (hk : ∀ v, (rPn (k v).1).length ≤ N) : (rPn (bnE e s k).1).length ≤ N := by
  cases e with
  | ok v => exact hk v
  | error f => exact h0
theorem rPr_go {P : PT} {n : Int32} {s : RS} : rPn (goS P n s).1 = rPn s := by
  unfold goS
  split <;> rfl
theorem rPr_st {s : RS} {d : LDT} {p : Nat} {v : UInt64} : rPn (stS s d p v) = rPn s := by
  unfold stS
  split <;> rfl
theorem sTp_pr {P : PT} {dat : List UInt64} {here : Nat} {d : LDT} {s : RS} : (rPn (sTp P dat here d s).1).length ≤ (rPn s).length + 1 := by
  have h0 : (rPn s).length ≤ (rPn s).length + 1 := by omega
  unfold sTp
  split
  · exact rPr_bn h0 (fun p => rPr_bn h0 (fun v => by rw [rPr_st]; exact h0))
  · exact rPr_bn h0 (fun v => by show (rPn s ++ [v]).length ≤ _; rw [List.length_append, List.length_singleton]; omega)
  · refine rPr_bn h0 (fun x => rPr_bn h0 (fun y => ?_))
    split
    · rw [rPr_go]; exact h0
    · exact h0
  · rw [rPr_go]; exact h0
  · refine rPr_bn h0 (fun x => ?_)
    split
    · rw [rPr_go]; exact h0
    · exact h0
  · split
    · split <;> exact h0
    · exact h0
  · split <;> exact h0
  · refine rPr_bn h0 (fun x => rPr_bn h0 (fun y => rPr_bn h0 (fun z => ?_)))
    unfold foS
    repeat' split
    all_goals exact h0
  · unfold neS
    repeat' split
    all_goals exact h0
  · refine rPr_bn h0 (fun p => ?_)
    split
    · show (rPn (stS _ _ _ _)).length ≤ _
      rw [rPr_st]; exact h0
    · exact h0
  · exact h0
  · exact h0
  · exact h0
  · have key : ∀ t b x y sc, (rPn (maE s t b x y sc).1).length ≤ (rPn s).length + 1 := by
      intro t b x y sc
      unfold maE
      split <;> exact h0
    unfold maS
    split
    · split
      · exact rPr_bn h0 (fun v => key _ _ _ _ _)
      · exact key _ _ _ _ _
    · exact h0
  · exact h0
  · exact h0
/-- the class's memory behind a run r; th: the runs that have failed before -/
def CF (B : Mem) (dat : List UInt64) (r : RS × Nat × Nat × Int32) (th : Int32) (A : Mem) : Prop := ∃ q, CR B dat q r.1 r.2.1 A ∧ q 8 = iN r.2.2.1 ∧ q 9 = r.2.2.2 ∧ q 10 = (if r.2.1 = 0 then th else th + 1)
section RC8
variable {B A : Mem} {dat : List UInt64} {q : Nat → Int32} {s : RS} {P : PT} {K : Nat → Mem → Prop} {ft : Nat}
theorem CR_q {k : Nat} {x : Int32} (h : CR B dat q s ft A) (hk : k = 8 ∨ k = 9 ∨ k = 10 ∨ k = 13) : CR B dat (fun j => if j = k then x else q j) s ft (sI A 5 k x) := by
  obtain ⟨hF, ⟨q1, q2, q3, q4⟩, hv, hm, hf, hl, hr, hd, hp, hu⟩ := h
  have eI : ∀ o, o ≠ 5 → gI (sI A 5 k x) o = gI A o := fun o ho => gI_row ho
  obtain ⟨v1, v2⟩ := CvS_ok hv
  have qq : ∀ j y, gI A 5 j = y → y = q j → gI (sI A 5 k x) 5 j = (if j = k then x else q j) := by
    intro j y h1 h2
    by_cases hj : j = k
    · rw [if_pos hj, hj, gI_eq]
    · rw [if_neg hj, gI_ne (Or.inr hj), h1, h2]
  exact ⟨FrR_tr hF ⟨rfl, fun o h5 _ _ _ _ _ _ => eI o h5, fun j _ => gI_ne (Or.inl (by omega)), fun j hj => gI_ne (Or.inr (by omega)), fun _ _ _ => rfl, fun _ _ => rfl, fun _ _ => rfl⟩, ⟨qq 8 _ q1 rfl, qq 9 _ q2 rfl, qq 10 _ q3 rfl, qq 13 _ q4 rfl⟩, CvS_cg hv v1 rfl (gI_ne (by omega)) rfl v2, MmA_cg hm (fun m _ => eI _ (by omega)) (fun _ _ => rfl), ⟨FbA_cg hf.1 rfl (fun L hL => ⟨eI L (by omega), rfl⟩), hf.2⟩, LoA_cg hl (gI_ne (by omega)) (eI 21 (by omega)) (eI 22 (by omega)) rfl rfl, RtA_cg hr (gI_ne (by omega)) (eI 26 (by omega)), DaA_cg hd (gI_ne (by omega)) (gI_ne (by omega)) rfl, PrA_cg hp (gI_ne (by omega)) rfl, ⟨(gI_ne (by omega)).trans hu.1, hu.2⟩⟩
theorem CR_qc {q' : Nat → Int32} (h : CR B dat q s ft A) (e : q' 8 = q 8 ∧ q' 9 = q 9 ∧ q' 10 = q 10 ∧ q' 13 = q 13) : CR B dat q' s ft A := by
  obtain ⟨hF, ⟨q1, q2, q3, q4⟩, hr⟩ := h
  exact ⟨hF, ⟨q1.trans e.1.symm, q2.trans e.2.1.symm, q3.trans e.2.2.1.symm, q4.trans e.2.2.2.symm⟩, hr⟩
theorem c_fault (h : CR B dat q s ft A) : gR A 8 0 = 1200 + ft := by
  obtain ⟨t, ht, -⟩ := h.2.2.1
  exact ht.2.1.2.1
theorem c_114 {st : Nat} {la th : Int32} (hW : WC B) (h : CR B dat q s ft A) (h8 : q 8 = iN st) (h9 : q 9 = la) (h10 : q 10 = th) (k : ∀ A', CF B dat (s, ft, st, la) th A' → K (1200 + ft) A') : wp_Ma_execute_c114 K 5 A := by
  obtain ⟨w0, w1, w2, -⟩ := W5 hW h
  unfold wp_Ma_execute_c114
  rw [w1]
  refine ⟨rfl, rfl, c_fine h (fun h0 => ⟨fun _ => ⟨by rw [w1]; rfl, ?_⟩, fun q => (by cases q)⟩) (fun h0 => ⟨fun q => (by cases q), fun _ => ?_⟩)⟩
  · rw [w1, c_fault h]
    exact k A ⟨q, h, h8, h9, by rw [h10]; exact (if_pos h0).symm⟩
  · have e10 : gI A 5 10 = th := h.2.1.2.2.1.trans h10
    rw [e10]
    have h2 : CR B dat _ s ft (sI A 5 10 (th + 1)) := CR_q (k := 10) (x := th + 1) h (by omega)
    obtain ⟨w0', w1', -⟩ := W5 hW h2
    refine ⟨by rw [w1']; rfl, ?_⟩
    rw [w1', c_fault h2]
    refine k _ ⟨_, h2, h8, h9, ?_⟩
    show (if (10 : Nat) = 10 then th + 1 else q 10) = if ft = 0 then th else th + 1
    rw [if_pos rfl, if_neg h0]
theorem c_exec (hW : WC B) (hP : PC B P) (hPL : PLd P) {th : Int32} : ∀ (n fu st : Nat) (la : Int32) (s : RS) (A : Mem) (q : Nat → Int32), st + n = 300 → n + 2 ≤ fu → CR B dat q s 0 A → q 8 = iN st → q 9 = la → q 10 = th → (rPn s).length ≤ st →
    (∀ A', CF B dat (rnS P dat n st la s) th A' → K (1200 + (rnS P dat n st la s).2.1) A') → wp_Ma_execute_c16 K fu 5 (if rDu s < P.length then ln B (rDu s) else 0) A := by
  have hl24 := hP.1
  intro n
  induction n with
  | zero =>
    intro fu st la s A q hst hfu h h8 h9 h10 hpr k
    obtain ⟨fu, rfl⟩ : ∃ g, fu = g + 1 := ⟨fu - 1, by omega⟩
    unfold rnS at k
    unfold wp_Ma_execute_c16
    by_cases hd : rDu s < P.length
    · rw [if_pos hd] at k ⊢
      have hr := hP.2.2.2.1 (rDu s) (by omega)
      obtain ⟨w0, w1, -⟩ := W5 hW h
      refine ⟨fun q => by omega, fun _ => ⟨rfl, fun _ => ⟨fun q => by omega, fun _ => ?_⟩, fun q => ?_⟩⟩
      · rw [w1]
        exact ⟨rfl, c_fail (f := 2) h (by omega) (by omega) (fun A' h' => c_114 hW h' h8 h9 h10 (fun A'' h'' => k A'' h''))⟩
      · rw [h.2.1.1, h8, show (300 : Int32) = iN 300 from rfl, iN_le (by omega) (by omega)] at q
        omega
    · rw [if_neg hd] at k ⊢
      exact ⟨fun _ => ⟨fun _ => c_114 hW h h8 h9 h10 (fun A'' h'' => k A'' h''), fun q => absurd rfl q⟩, fun q => absurd rfl q⟩
  | succ n ih =>
    intro fu st la s A q hst hfu h h8 h9 h10 hpr k
    obtain ⟨fu, rfl⟩ : ∃ g, fu = g + 1 := ⟨fu - 1, by omega⟩
    unfold rnS at k
    unfold wp_Ma_execute_c16
    by_cases hd : rDu s < P.length
    · rw [if_pos hd]
      have hg : P[rDu s]? = some ((P[rDu s]).1, (P[rDu s]).2) := List.getElem?_eq_getElem hd
      rw [hg] at k
      have hr := hP.2.2.2.1 (rDu s) (by omega)
      have hC := hP.2.2.2.2.2 _ _ _ hg
      obtain ⟨hok, hk17⟩ := hPL _ _ (List.getElem_mem hd)
      refine ⟨fun q => by omega, fun _ => ⟨rfl, fun q => ?_, fun _ => ⟨kdL hr.1 hr.2, fun A13 e13 => ?_⟩⟩⟩
      · rw [h.2.1.1, h8, show (300 : Int32) = iN 300 from rfl, iN_le (by omega) (by omega)] at q
        omega
      · have h1 : CR B dat _ s 0 _ := CR_q (k := 8) (x := iN (st + 1)) h (by omega)
        have h2 := CR_q (k := 9) (x := (P[rDu s]).1) h1 (by omega)
        have h3 := CR_q (k := 13) (x := iN (rDu s)) h2 (by omega)
        have en : gI (sI A 5 8 (iN (st + 1))) (ln B (rDu s)) 0 = (P[rDu s]).1 := (CLv_f (CLv_R hr.1 h1.1 hC)).1
        have e14 : gI (sI (sI A 5 8 (iN (st + 1))) 5 9 (P[rDu s]).1) 5 14 = iN (rDu s) := h2.2.2.2.2.2.2.2.2.2.1
        rw [h.2.1.1, h8, iN_1, en, e14] at e13
        rw [e13]
        have e14' : gI (sI (sI (sI A 5 8 (iN (st + 1))) 5 9 (P[rDu s]).1) 5 13 (iN (rDu s))) 5 14 = iN (rDu s) := h3.2.2.2.2.2.2.2.2.2.1
        rw [e14', iN_1]
        have h4 := CR_du h3 (show rDu s + 1 ≤ 24 by omega)
        refine c_perform hW hP hPL (here := rDu s) rfl hd hC hr.1 hr.2 hok hk17 h4 (by show (rPn s).length < 400; omega) (fun A14 h5 => ?_)
        obtain ⟨w0, w1, -⟩ := W5 hW h5
        rw [w1]
        have hpr2 : (rPn (sTp P dat (rDu s) (P[rDu s]).2 (uDu s (rDu s + 1))).1).length ≤ st + 1 := by
          refine Nat.le_trans sTp_pr ?_
          show (rPn s).length + 1 ≤ st + 1
          omega
        generalize hsp : sTp P dat (rDu s) (P[rDu s]).2 (uDu s (rDu s + 1)) = r at h5 k hpr2
        refine ⟨rfl, c_fine h5 (fun h0 => ⟨fun q => (by cases q), fun _ => ?_⟩) (fun h0 => ⟨fun _ => ?_, fun q => (by cases q)⟩)⟩
        · have k : ∀ A', CF B dat (rnS P dat n (st + 1) (P[rDu s]).1 r.1) th A' → K (1200 + (rnS P dat n (st + 1) (P[rDu s]).1 r.1).2.1) A' := by
            intro A' h'
            have k := k A'
            dsimp only at k
            rw [hsp, if_pos h0] at k
            exact k h'
          rw [h0] at h5
          have hu := h5.2.2.2.2.2.2.2.2.2
          rw [w0, hu.1]
          refine ⟨rfl, c_lineAt (PC_R hP h5.1) (by omega) ?_⟩
          rw [ln_R h5.1]
          exact ih fu (st + 1) (P[rDu s]).1 r.1 A14 _ (by omega) (by omega) h5 rfl rfl h10 hpr2 k
        · have k : ∀ A', CF B dat (r.1, r.2, st + 1, (P[rDu s]).1) th A' → K (1200 + r.2) A' := by
            intro A' h'
            have k := k A'
            dsimp only at k
            rw [hsp, if_neg h0] at k
            exact k h'
          obtain ⟨fu, rfl⟩ : ∃ g, fu = g + 1 := ⟨fu - 1, by omega⟩
          unfold wp_Ma_execute_c16
          exact ⟨fun _ => ⟨fun _ => c_114 hW h5 rfl rfl h10 k, fun q => absurd rfl q⟩, fun q => absurd rfl q⟩
    · rw [if_neg hd]
      rw [List.getElem?_eq_none (by omega)] at k
      exact ⟨fun _ => ⟨fun _ => c_114 hW h h8 h9 h10 (fun A'' h'' => k A'' h''), fun q => absurd rfl q⟩, fun q => absurd rfl q⟩
end RC8
