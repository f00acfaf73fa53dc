section RC4
variable {B A : Mem} {dat : List UInt64} {q : Nat → Int32} {s : RS} {ft : Nat} {P : PT} {K : Mem → Prop}
theorem c_over {v lim st : UInt64} {K : Bool → Mem → Prop} (h1 : okd v) (h2 : okd lim) (h3 : okd st) (k : K (ovS v lim st) A) : wp_Ma_isOver v lim st A K := by
  unfold wp_Ma_isOver
  rw [propext (fk_0nn h3), propext (fk_np (okd_nn h1) (okd_nn h2)), propext (fk_nn (okd_nn h1) (okd_nn h2))]
  unfold ovS at k
  refine ⟨fun g => ⟨fun l => ?_, fun l => ?_⟩, fun g => ⟨fun l => ?_, fun l => ?_⟩⟩
  · rw [if_neg (by omega), decide_eq_false (by omega)] at k; exact k
  · rw [if_neg (by omega), decide_eq_true (by omega)] at k; exact k
  · rw [if_pos (by omega), decide_eq_false (by omega)] at k; exact k
  · rw [if_pos (by omega), decide_eq_true (by omega)] at k; exact k
theorem c_skip {a here : Nat} (hW : WC B) (hP : PC B P) (hL : PLd P) (hq : q 13 = iN here) (hh : here < P.length) (ha : a < 26) (h : CR B dat q s 0 A)
    (k1 : ∀ j A', nxS P (iN a) (P.length - (here + 1)) (here + 1) = some j → CR B dat q (uDu s (j + 1)) 0 A' → K A') (k2 : ∀ A', nxS P (iN a) (P.length - (here + 1)) (here + 1) = none → CR B dat q s 2 A' → K A') : wp_Ma_skipLoop 5 (iN a) A K := by
  have hPA := PC_R hP h.1
  have hl := hPA.1
  obtain ⟨w0, w1, -⟩ := W5 hW h
  have go : ∀ (n i fu : Nat), i + n = P.length → n < fu → (∀ j A', nxS P (iN a) n i = some j → CR B dat q (uDu s (j + 1)) 0 A' → K A') → (∀ A', nxS P (iN a) n i = none → CR B dat q s 2 A' → K A') → wp_Ma_skipLoop_c7 K fu 5 (iN a) (iN i) A := by
    intro n
    induction n with
    | zero =>
      intro i fu hi hfu k1 k2
      obtain ⟨fu, rfl⟩ : ∃ g, fu = g + 1 := ⟨fu - 1, by omega⟩
      unfold wp_Ma_skipLoop_c7
      rw [w0, w1, hPA.2.1, iN_le (by omega) (by omega)]
      exact ⟨rfl, rfl, fun _ => ⟨rfl, c_fail (f := 2) h (by omega) (by omega) (fun A' h' => k2 A' rfl h')⟩, fun q => by omega⟩
    | succ n ih =>
      intro i fu hi hfu k1 k2
      obtain ⟨fu, rfl⟩ : ∃ g, fu = g + 1 := ⟨fu - 1, by omega⟩
      unfold wp_Ma_skipLoop_c7
      rw [w0, hPA.2.1, iN_le (by omega) (by omega)]
      refine ⟨rfl, rfl, fun q => by omega, fun _ => c_lineAt hPA (by omega) ?_⟩
      rw [if_pos (show i < P.length by omega), iN_1]
      have hr := hPA.2.2.2.1 i (by omega)
      have hi2 : i < P.length := by omega
      have hg : P[i]? = some ((P[i]).1, (P[i]).2) := List.getElem?_eq_getElem hi2
      obtain ⟨f0, f2, f4, f3, -⟩ := CLv_f (hPA.2.2.2.2.2 i _ _ hg)
      have hk17 : (P[i]).2.1 < 17 := (hL _ _ (List.getElem_mem hi2)).2
      have st : nxS P (iN a) (n + 1) i = if (P[i]).2.1 = 8 ∧ (P[i]).2.2.1 = iN a then some i else nxS P (iN a) n (i + 1) := by
        rw [nxS, hg]
      rw [st] at k1 k2
      refine ⟨fun q => by omega, fun _ => ⟨kdL hr.1 hr.2, ?_⟩⟩
      rw [f2]
      refine ⟨Or.inl ⟨by omega, by omega⟩, fun hn => ?_, fun he => ⟨fun hn => ?_, fun he2 => ?_⟩⟩
      · rw [if_neg (by omega)] at k1 k2
        exact ih (i + 1) fu (by omega) (by omega) k1 k2
      · have e3 : gI A (ln A i) 3 = (P[i]).2.2.1 := by
          rw [f3 (by omega), show isEl (P[i]).2 = false from ?_]
          · rfl
          · unfold isEl; rw [show (P[i]).2.1 = 8 by omega]; rfl
        rw [e3] at hn
        rw [if_neg (fun q => hn q.2)] at k1 k2
        exact ih (i + 1) fu (by omega) (by omega) k1 k2
      · have e3 : gI A (ln A i) 3 = (P[i]).2.2.1 := by
          rw [f3 (by omega), show isEl (P[i]).2 = false from ?_]
          · rfl
          · unfold isEl; rw [show (P[i]).2.1 = 8 by omega]; rfl
        rw [e3] at he2
        rw [if_pos ⟨by omega, he2⟩] at k1
        exact k1 i _ rfl (CR_du h (by omega))
  unfold wp_Ma_skipLoop
  rw [h.2.1.2.2.2, hq, iN_1]
  exact ⟨rfl, P.length + 1, go (P.length - (here + 1)) (here + 1) _ (by omega) (by omega) k1 k2⟩
theorem c_set {i : Nat} {v : UInt64} (hW : WC B) (h : CR B dat q s ft A) (hi : i < 26) (ho : okd v) (k : CR B dat q (uVa s (us (rVa s) i v)) ft (sD A 9 i v) → K (sD A 9 i v)) : wp_Ca_set 8 (iN i) v A K := by
  have w := (WC_R hW h.1).2.2.1.1
  unfold wp_Ca_set
  rw [w, show Int32.ofNat (al 9) = iN 26 from rfl, show (0 : Int32) = iN 0 from rfl, iN_lt (by omega) (by omega), iN_le (by omega) (by omega), iN_cl (by omega)]
  exact ⟨fun q => by omega, fun _ => ⟨rfl, rfl, fun q => by omega, fun _ => ⟨iN_in (m := 26) hi (by omega), k (CR_va h ho)⟩⟩⟩
theorem cuL_take {lp : List LoT} {a : Nat} : ∃ j, j ≤ lp.length ∧ cuL lp a = lp.take j ∧ (match lfi lp a 0 with
    | some i => i = j
    | none => j = lp.length) := by
  unfold cuL
  cases h : lfi lp a 0 with
  | none => exact ⟨lp.length, Nat.le_refl _, by rw [List.take_length], rfl⟩
  | some j => exact ⟨j, by have := lfi_lt lp a 0 j h; omega, rfl, rfl⟩
theorem CR_lpadd {e : LoT} (h : CR B dat q s ft A) (hl : (rLp s).length < 6) (h1 : e.1 < 26) (h2 : e.2.1 < 24) (h3 : okd e.2.2.1) (h4 : okd e.2.2.2) : CR B dat q (uLp s (rLp s ++ [e])) ft (loAdd A (rLp s).length e) := by
  refine CR_lp h rfl rfl (fun o h20 h21 h22 => ?_) (fun o h23 h24 => ?_) (LoA_add h.2.2.2.2.2.1 hl h1 h2 h3 h4)
  · unfold loAdd
    rw [gI_row h20, gI_sD, gI_sD, gI_row h22, gI_row h21]
  · unfold loAdd
    rw [gD_sI, gD_row h24, gD_row h23]; rfl
theorem c_loop92 {L a here n : Nat} {v : Int32} {d : LDT} {x y z : UInt64} (hW : WC B) (hP : PC B P) (hPL : PLd P) (hq : q 13 = iN here) (hh : here < P.length) (hC : CLv B L v d) (hL : 100 ≤ L) (hL2 : L < 125) (hd : d.1 = 7) (ha : a < 26) (ea : d.2.1 = iN a) (h : CR B dat q s 0 A) (hx : okd x) (hy : okd y) (hz : okd z)
    (en : n ≤ (rLp s).length) (ec : cuL (rLp s) a = (rLp s).take n) (k : ∀ A', CR B dat q (foS P here s a x y z).1 (foS P here s a x y z).2 A' → K A') : wp_Ma_beginLoop_c89 K 5 L x y z (iN n) 20 A := by
  have h1 : CR B dat q (uLp s ((rLp s).take n)) 0 (sI A 20 0 (iN n)) := CR_lp h rfl rfl (fun o h20 _ _ => gI_row h20) (fun _ _ _ => rfl) (LoA_cut h.2.2.2.2.2.1 en)
  obtain ⟨w0, w1, w2, -⟩ := W5 hW h1
  have e3 : ∀ {A' : Mem} {s' : RS} {ft' : Nat}, CR B dat q s' ft' A' → gI A' L 3 = iN a := by
    intro A' s' ft' g
    obtain ⟨-, -, -, f3, -⟩ := CLv_f (CLv_R hL g.1 hC)
    rw [f3 (by omega), show isEl d = false from ?_]
    · exact ea
    · unfold isEl; rw [hd]; rfl
  unfold wp_Ma_beginLoop_c89
  rw [w1, e3 h1]
  refine ⟨rfl, rfl, kdL hL hL2, rfl, c_set hW h1 ha hx (fun h2 => c_over hx hy hz ?_)⟩
  obtain ⟨w0', w1', w2', -⟩ := W5 hW h2
  rw [w2', e3 h2]
  unfold foS at k
  rw [ec] at k
  cases ho : ovS x y z with
  | true =>
    rw [if_pos ho] at k
    refine ⟨fun q => (by cases q), fun _ => c_skip hW hP hPL hq hh ha h2 (fun j A' hj h' => ?_) (fun A' hj h' => ?_)⟩
    · rw [hj] at k; exact k A' h'
    · rw [hj] at k; exact k A' h'
  | false =>
    rw [ho, if_neg (by decide)] at k
    refine ⟨fun _ => ⟨rfl, ?_⟩, fun q => (by cases q)⟩
    rw [h2.2.1.2.2.2, hq]
    have hl := hP.1
    have hlen : ((rLp s).take n).length ≤ 6 := by have := h1.2.2.2.2.2.1.2.1; exact this
    refine l_add (e := (a, here, y, z)) (WC_R hW h2.1) h2.2.2.2.2.2.1 (fun hlt => ⟨fun _ => ?_, fun q => (by cases q)⟩) (fun hlt => ⟨fun q => (by cases q), fun _ => ?_⟩)
    · have hlt : ((rLp s).take n).length < 6 := hlt
      rw [if_pos hlt] at k
      exact k _ (CR_lpadd h2 hlt ha (show here < 24 by omega) hy hz)
    · have hlt : ((rLp s).take n).length = 6 := hlt
      rw [if_neg (by omega)] at k
      rw [w1']
      exact ⟨rfl, c_fail (f := 2) h2 (by omega) (by omega) (fun A' h' => k A' h')⟩
theorem c_loop45 {L a here : Nat} {v : Int32} {d : LDT} {x y z : UInt64} (hW : WC B) (hP : PC B P) (hPL : PLd P) (hq : q 13 = iN here) (hh : here < P.length) (hC : CLv B L v d) (hL : 100 ≤ L) (hL2 : L < 125) (hd : d.1 = 7) (ha : a < 26) (ea : d.2.1 = iN a) (h : CR B dat q s ft A) (hx : okd x) (hy : okd y) (hz : okd z)
    (k0 : ft = 0 → ∀ A', CR B dat q (foS P here s a x y z).1 (foS P here s a x y z).2 A' → K A') (k1 : ft ≠ 0 → K A) : wp_Ma_beginLoop_c42 K 5 L x y z A := by
  obtain ⟨w0, w1, w2, -⟩ := W5 hW h
  unfold wp_Ma_beginLoop_c42
  rw [w1]
  refine ⟨rfl, rfl, c_fine h (fun h0 => ⟨fun _ => ?_, fun q => (by cases q)⟩) (fun h0 => ⟨fun q => (by cases q), fun _ => k1 h0⟩)⟩
  subst h0
  have e3 : gI A L 3 = iN a := by
    obtain ⟨-, -, -, f3, -⟩ := CLv_f (CLv_R hL h.1 hC)
    rw [f3 (by omega), show isEl d = false from ?_]
    · exact ea
    · unfold isEl; rw [hd]; rfl
  rw [w2, e3]
  have hl6 := h.2.2.2.2.2.1.2.1
  obtain ⟨n, n1, n2, n3⟩ := cuL_take (lp := rLp s) (a := a)
  refine ⟨kdL hL hL2, rfl, l_find (WC_R hW h.1) h.2.2.2.2.2.1 ha ?_⟩
  cases hf : lfi (rLp s) a 0 with
  | none =>
    rw [hf] at n3
    rw [w2]
    refine ⟨fun q => absurd q (by decide), fun _ => ⟨rfl, ?_⟩⟩
    rw [h.2.2.2.2.2.1.1, ← n3]
    exact c_loop92 hW hP hPL hq hh hC hL hL2 hd ha ea h hx hy hz n1 n2 (k0 rfl)
  | some j =>
    rw [hf] at n3
    have n3 : j = n := n3
    subst n3
    rw [w2]
    refine ⟨fun _ => c_loop92 hW hP hPL hq hh hC hL hL2 hd ha ea h hx hy hz n1 n2 (k0 rfl), fun q => absurd ?_ q⟩
    show iN 0 ≤ iN j
    rw [iN_le (by omega) (by omega)]
    omega
theorem c_for {L here : Nat} {v : Int32} {d : LDT} (hW : WC B) (hP : PC B P) (hPL : PLd P) (hq : q 13 = iN here) (hh : here < P.length) (hC : CLv B L v d) (hL : 100 ≤ L) (hL2 : L < 125) (hd : d.1 = 7) (hok : LDok d) (h : CR B dat q s 0 A)
    (k : ∀ r, r = (bnE (evS s (eX d 0)) s fun x => bnE (evS s (eX d 1)) s fun y => bnE (if d.2.2.2.2.1.length ≤ 2 then .ok FP.dconst1 else evS s (eX d 2)) s fun z => foS P here s d.2.1.toNatClampNeg x y z) → ∀ A', CR B dat q r.1 r.2 A' → K A') : wp_Ma_beginLoop 5 L A K := by
  have hok2 := hok.2
  rw [hd] at hok2
  obtain ⟨a, e0, e1, g, ha, ea, hes, hgl⟩ := hok2
  have hP0 : PGd e0 := hok.1 _ (by rw [hes]; simp)
  have hP1 : PGd e1 := hok.1 _ (by rw [hes]; simp)
  obtain ⟨w0, w1, w2, -⟩ := W5 hW h
  have ex0 : eX d 0 = e0 := by unfold eX; rw [hes]; rfl
  have ex1 : eX d 1 = e1 := by unfold eX; rw [hes]; rfl
  rw [ex0, ex1, ea, iN_cl (show a < 2147483648 by omega)] at k
  unfold wp_Ma_beginLoop
  rw [w1]
  refine ⟨rfl, rfl, c_ev (k := 0) hW h hC hL hL2 (by rw [hes]; rfl) hP0 (fun x A1 hx h1 v1 n1 => ?_)⟩
  obtain ⟨w0', w1', w2', -⟩ := W5 hW h1
  rw [w1']
  refine ⟨rfl, c_ev (k := 1) hW h1 hC hL hL2 (by rw [hes]; rfl) hP1 (fun y A2 hy h2 v2 n2 => ?_)⟩
  obtain ⟨w0'', w1'', w2'', -⟩ := W5 hW h2
  obtain ⟨-, -, -, -, -, -, -, -, f14, -⟩ := CLv_f (CLv_R hL h2.1 hC)
  rw [f14, w1'', show (2 : Int32) = iN 2 from rfl, iN_le (by rw [hes]; simp only [List.length_cons]; omega) (by omega)]
  refine ⟨kdL hL hL2, fun hle => ?_, fun hle => ⟨rfl, ?_⟩⟩
  · simp only [if_pos hle] at k
    refine c_loop45 hW hP hPL hq hh hC hL hL2 hd ha ea h2 hx hy okd_1 (fun h0 A' h' => ?_) (fun h0 => ?_)
    · obtain ⟨u, w, hu, hw, h01⟩ := fEx_ok2 h0 n1 n2
      refine k (foS P here s a x y FP.dconst1) ?_ A' h'
      rw [bnE_ok hu, bnE_ok hw, v1 u rfl hu, v2 w h01 hw]; rfl
    · exact k (s, _) (fEx_2 h0 (n1 rfl)).symm A2 h2
  · simp only [if_neg hle] at k
    have hg : ∃ e2, g = [e2] := by
      rw [hes] at hle
      cases g with
      | nil => exact absurd (show 2 ≤ 2 from Nat.le_refl 2) hle
      | cons e2 g =>
        cases g with
        | nil => exact ⟨e2, rfl⟩
        | cons a b => simp only [List.length_cons] at hgl; omega
    obtain ⟨e2, rfl⟩ := hg
    have hP2 : PGd e2 := hok.1 _ (by rw [hes]; simp)
    have ex2 : eX d 2 = e2 := by unfold eX; rw [hes]; rfl
    rw [ex2] at k
    refine c_ev (k := 2) hW h2 hC hL hL2 (by rw [hes]; rfl) hP2 (fun z A3 hz h3 v3 n3 => ?_)
    refine c_loop45 hW hP hPL hq hh hC hL hL2 hd ha ea h3 hx hy hz (fun h0 A' h' => ?_) (fun h0 => ?_)
    · obtain ⟨u, w, o, hu, hw, ho, h01, h02⟩ := fEx_ok3 h0 n1 n2 n3
      refine k (foS P here s a x y z) ?_ A' h'
      rw [bnE_ok hu, bnE_ok hw, bnE_ok ho, v1 u rfl hu, v2 w h01 hw, v3 o h02 ho]
    · exact k (s, _) (fEx_3 h0 (n1 rfl) n2).symm A3 h3
theorem c_next {a : Nat} (hW : WC B) (ha : a < 26) (h : CR B dat q s 0 A) (k : ∀ A', CR B dat q (neS s a).1 (neS s a).2 A' → K A') : wp_Ma_endLoop 5 (iN a) A K := by
  obtain ⟨w0, w1, w2, -⟩ := W5 hW h
  have hLo := h.2.2.2.2.2.1
  unfold wp_Ma_endLoop
  rw [w2]
  refine ⟨rfl, rfl, l_find (WC_R hW h.1) hLo ha ?_⟩
  unfold neS at k
  cases hf : lfi (rLp s) a 0 with
  | none =>
    rw [hf] at k
    refine ⟨fun q => absurd q (by decide), fun _ => ?_⟩
    rw [w1]
    exact ⟨rfl, c_fail (f := 2) h (by omega) (by omega) (fun A' h' => k A' h')⟩
  | some j =>
    rw [hf] at k
    have hj := (lfi_lt _ _ _ _ hf).2
    have hj6 := hLo.2.1
    have hje : (rLp s)[j]? = some (rLp s)[j] := List.getElem?_eq_getElem (by omega)
    dsimp only at k
    rw [hje] at k
    generalize (rLp s)[j] = e at hje k
    dsimp only at k
    rw [w2]
    refine ⟨fun _ => ⟨rfl, ?_⟩, fun q => absurd ?_ q⟩
    · obtain ⟨l1, l2, l3⟩ := hLo
      obtain ⟨-, e1, -, e2, -, e3, -, e4⟩ := l3 j e hje
      have h1 : CR B dat q (uLp s ((rLp s).take (j + 1))) 0 (sI A 20 0 (iN j + 1)) := by
        rw [iN_1]
        exact CR_lp h rfl rfl (fun o h20 _ _ => gI_row h20) (fun _ _ _ => rfl) (LoA_cut ⟨l1, l2, l3⟩ (by omega))
      obtain ⟨w0', w1', w2', -⟩ := W5 hW h1
      have hje1 : ((rLp s).take (j + 1))[j]? = some e := by rw [List.getElem?_take_of_lt (by omega)]; exact hje
      rw [w2']
      refine ⟨rfl, l_step (WC_R hW h1.1) h1.2.2.2.2.2.1 hje1 ?_⟩
      rw [w1']
      obtain ⟨t1, ht1, -⟩ := h1.2.2.1
      refine ⟨rfl, n_get26 (WC_R hW h1.1) ht1 ha ?_⟩
      have hoa : okd (rVa s a) := (CvS_ok h.2.2.1).2 a
      refine ⟨vfn_add hoa e4, ?_⟩
      have hk : ∀ (w : UInt64) (ft : Nat) (A' : Mem), okd w → CR B dat q (uLp s ((rLp s).take (j + 1))) ft A' → (ft = 0 → kpF (FP.dadd (rVa s a) e.2.2.2) = some w) → (ft ≠ 0 → ft = 4 ∧ kpF (FP.dadd (rVa s a) e.2.2.2) = none) → kd (gR A' 5 1) = 6 ∧ wp_Ca_isFine (gR A' 5 1) A' (fun (r16 : Bool) (A15 : Mem) => ((r16 = true → kd (gR A15 5 1) = 6 ∧ wp_Ca_set (gR A15 5 1) (iN a) w A15 (fun (A18 : Mem) => kd (gR A18 5 2) = 8 ∧ wp_Lo_limitOf (gR A18 5 2) (iN j) A18 (fun (r21 : UInt64) (A20 : Mem) => wp_Ma_isOver w r21 e.2.2.2 A20 (fun (r24 : Bool) (A23 : Mem) => ((r24 = false → kd (gR A23 5 2) = 8 ∧ wp_Lo_placeOf (gR A23 5 2) (iN j) A23 (fun (r26 : Int32) (A25 : Mem) => K (sI A25 5 14 (r26 + 1)))) ∧ (r24 = true → kd (gR A23 5 2) = 8 ∧ K (sI A23 (gR A23 5 2) 0 (iN j)))))))) ∧ (r16 = false → K A15))) := by
        intro w ft A' hw h2 g1 g2
        obtain ⟨w0', w1', w2', -⟩ := W5 hW h2
        rw [w1']
        refine ⟨rfl, c_fine h2 (fun h0 => ⟨fun _ => ?_, fun q => (by cases q)⟩) (fun h0 => ⟨fun q => (by cases q), fun _ => ?_⟩)⟩
        · subst h0
          have hkk := g1 rfl
          rw [w1']
          rw [hkk] at k
          refine ⟨rfl, c_set hW h2 ha hw (fun h3 => ?_)⟩
          obtain ⟨w0'', w1'', w2'', -⟩ := W5 hW h3
          rw [w2'']
          refine ⟨rfl, l_limit (WC_R hW h3.1) h3.2.2.2.2.2.1 hje1 (c_over hw e3 e4 ?_)⟩
          rw [w2'']
          cases ho : ovS w e.2.2.1 e.2.2.2 with
          | true =>
            have k : ∀ A', CR B dat q (uVa (uLp s ((rLp s).take j)) (us (rVa s) a w)) 0 A' → K A' := by
              intro A' h'
              refine k A' ?_
              show CR B dat q (if ovS w e.2.2.1 e.2.2.2 = true then _ else _ : RS × Nat).1 (if ovS w e.2.2.1 e.2.2.2 = true then _ else _ : RS × Nat).2 A'
              rw [if_pos ho]; exact h'
            refine ⟨fun q => (by cases q), fun _ => ⟨rfl, k _ ?_⟩⟩
            have hcut := LoA_cut (j := j) h3.2.2.2.2.2.1 (by show j ≤ ((rLp s).take (j + 1)).length; rw [List.length_take]; omega)
            rw [show (rLp (uVa (uLp s ((rLp s).take (j + 1))) (us (rVa (uLp s ((rLp s).take (j + 1)))) a w))).take j = (rLp s).take j from (by show ((rLp s).take (j + 1)).take j = _; rw [List.take_take, Nat.min_eq_left (by omega)])] at hcut
            exact CR_lp h3 rfl rfl (fun o h20 _ _ => gI_row h20) (fun _ _ _ => rfl) hcut
          | false =>
            have k : ∀ A', CR B dat q (uDu (uVa (uLp s ((rLp s).take (j + 1))) (us (rVa s) a w)) (e.2.1 + 1)) 0 A' → K A' := by
              intro A' h'
              refine k A' ?_
              show CR B dat q (if ovS w e.2.2.1 e.2.2.2 = true then _ else _ : RS × Nat).1 (if ovS w e.2.2.1 e.2.2.2 = true then _ else _ : RS × Nat).2 A'
              rw [if_neg (by rw [ho]; decide)]; exact h'
            refine ⟨fun _ => ⟨rfl, l_place (WC_R hW h3.1) h3.2.2.2.2.2.1 hje1 ?_⟩, fun q => (by cases q)⟩
            rw [iN_1]
            exact k _ (CR_du h3 (by omega))
        · obtain ⟨g3, g4⟩ := g2 h0
          rw [g4] at k
          subst g3
          exact k A' h2
      refine n_resultC (A0 := sI A 20 0 (iN j + 1)) (va := rVa s) (ft := 0) h1.2.2.1 (FP.Core.dadd_out (okd_nn hoa) (okd_fin e4)) ⟨fun _ w hw ho A' hc => hk w 0 A' ho (CR_ev h1 hc) (fun _ => hw) (fun q => absurd rfl q), fun _ hw w A' ho hc => hk w 4 A' ho (CR_ev h1 hc) (fun q => absurd q (by decide)) (fun _ => ⟨rfl, hw⟩), fun q => absurd rfl q⟩
    · show iN 0 ≤ iN j
      rw [iN_le (by omega) (by omega)]
      omega
end RC4
