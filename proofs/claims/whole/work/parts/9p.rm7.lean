section RM7
variable {B A : Mem} {dat : List UInt64} {q : Nat → Int32} {s : RS} {ft : Nat} {P : PT} {sl : List Nat} {w here : Nat} {v : Int32} {d : LDT} {K : Int32 → Mem → Prop} {x1 x2 x3 x4 : Int32}
theorem p366 (h14 : x2 ≠ 14) (h16 : x2 ≠ 16) (k : K x4 A) : wp_Mo_step_c366 K 250 x1 x2 x4 A := ⟨fun _ => ⟨fun _ => k, fun q => absurd q h16⟩, fun q => absurd q h14⟩
theorem p320 (h12 : x2 ≠ 12) (h13 : x2 ≠ 13) (k : wp_Mo_step_c366 K 250 x1 x2 x4 A) : wp_Mo_step_c320 K 250 x1 x2 x3 x4 A := ⟨fun _ => ⟨fun _ => k, fun q => absurd q h13⟩, fun q => absurd q h12⟩
theorem p281 (h7 : x2 ≠ 7) (h8 : x2 ≠ 8) (h11 : x2 ≠ 11) (k : wp_Mo_step_c320 K 250 x1 x2 x3 x4 A) : wp_Mo_step_c281 K 250 x1 x2 x3 x4 A := ⟨fun _ => ⟨fun _ => ⟨fun _ => k, fun q => absurd q h11⟩, fun q => absurd q h8⟩, fun q => absurd q h7⟩
theorem p255 (h6 : x2 ≠ 6) (k : wp_Mo_step_c281 K 250 x1 x2 x3 x4 A) : wp_Mo_step_c255 K 250 x1 x2 x3 x4 A := ⟨fun _ => k, fun q => absurd q h6⟩
theorem p199 (h3 : x2 ≠ 3) (h4 : x2 ≠ 4) (h5 : x2 ≠ 5) (h6 : x2 ≠ 6) (k : wp_Mo_step_c255 K 250 x1 x2 x3 x4 A) : wp_Mo_step_c199 K 250 x1 x2 x3 x4 A := ⟨fun _ => ⟨fun _ => ⟨fun _ => ⟨fun _ => k, fun q => absurd q h6⟩, fun q => absurd q h5⟩, fun q => absurd q h4⟩, fun q => absurd q h3⟩
theorem p118 (h2 : x2 ≠ 2) (k : wp_Mo_step_c199 K 250 x1 x2 x3 x4 A) : wp_Mo_step_c118 K 250 x1 x2 x3 x4 A := ⟨fun _ => k, fun q => absurd q h2⟩
theorem p55 (h1 : x2 ≠ 1) (k : wp_Mo_step_c118 K 250 x1 x2 x3 x4 A) : wp_Mo_step_c55 K 250 x1 x2 x3 x4 A := ⟨fun _ => k, fun q => absurd q h1⟩
/-- what a step needs to know of its line -/
def SLk (B : Mem) (w : Nat) (d : LDT) (ag : Nat → Int32) : Prop := w < 24 ∧ (∀ i, i < 8 → gI B 255 (w * 8 + i) = ag i) ∧ ∀ e, e ∈ d.2.2.2.2.1 → GdE e ∧ PGd e
theorem ps_0 (k0 : K x4 A) : wp_Mo_step_c55 K 250 x1 (iN 0) x3 x4 A := p55 (by decide) (p118 (by decide) (p199 (by decide) (by decide) (by decide) (by decide) (p255 (by decide) (p281 (by decide) (by decide) (by decide) (p320 (by decide) (by decide) (p366 (by decide) (by decide) k0))))))
theorem ps_9 (k0 : K x4 A) : wp_Mo_step_c55 K 250 x1 (iN 9) x3 x4 A := p55 (by decide) (p118 (by decide) (p199 (by decide) (by decide) (by decide) (by decide) (p255 (by decide) (p281 (by decide) (by decide) (by decide) (p320 (by decide) (by decide) (p366 (by decide) (by decide) k0))))))
theorem ps_1 (k0 : K x4 A) : wp_Mo_step_c118 K 250 x1 (iN 1) x3 x4 A := p118 (by decide) (p199 (by decide) (by decide) (by decide) (by decide) (p255 (by decide) (p281 (by decide) (by decide) (by decide) (p320 (by decide) (by decide) (p366 (by decide) (by decide) k0)))))
theorem ps_2 (k0 : K x4 A) : wp_Mo_step_c199 K 250 x1 (iN 2) x3 x4 A := p199 (by decide) (by decide) (by decide) (by decide) (p255 (by decide) (p281 (by decide) (by decide) (by decide) (p320 (by decide) (by decide) (p366 (by decide) (by decide) k0))))
theorem ps_10 (k0 : K x4 A) : wp_Mo_step_c55 K 250 x1 (iN 10) x3 x4 A := p55 (by decide) (p118 (by decide) (p199 (by decide) (by decide) (by decide) (by decide) (p255 (by decide) (p281 (by decide) (by decide) (by decide) (p320 (by decide) (by decide) (p366 (by decide) (by decide) k0))))))
theorem ps_15 (k0 : K x4 A) : wp_Mo_step_c55 K 250 x1 (iN 15) x3 x4 A := p55 (by decide) (p118 (by decide) (p199 (by decide) (by decide) (by decide) (by decide) (p255 (by decide) (p281 (by decide) (by decide) (by decide) (p320 (by decide) (by decide) (p366 (by decide) (by decide) k0))))))
theorem ps_6 (k0 : K x4 A) : wp_Mo_step_c281 K 250 x1 (iN 6) x3 x4 A := p281 (by decide) (by decide) (by decide) (p320 (by decide) (by decide) (p366 (by decide) (by decide) k0))
theorem ps_11 (k0 : K x4 A) : wp_Mo_step_c320 K 250 x1 (iN 11) x3 x4 A := p320 (by decide) (by decide) (p366 (by decide) (by decide) k0)
theorem ph_2 (k0 : wp_Mo_step_c118 K 250 x1 (iN 2) x3 x4 A) : wp_Mo_step_c55 K 250 x1 (iN 2) x3 x4 A := p55 (by decide) (k0)
theorem ph_3 (k0 : wp_Mo_step_c199 K 250 x1 (iN 3) x3 x4 A) : wp_Mo_step_c55 K 250 x1 (iN 3) x3 x4 A := p55 (by decide) (p118 (by decide) (k0))
theorem ph_4 (k0 : wp_Mo_step_c199 K 250 x1 (iN 4) x3 x4 A) : wp_Mo_step_c55 K 250 x1 (iN 4) x3 x4 A := p55 (by decide) (p118 (by decide) (k0))
theorem ph_5 (k0 : wp_Mo_step_c199 K 250 x1 (iN 5) x3 x4 A) : wp_Mo_step_c55 K 250 x1 (iN 5) x3 x4 A := p55 (by decide) (p118 (by decide) (k0))
theorem ph_6 (k0 : wp_Mo_step_c199 K 250 x1 (iN 6) x3 x4 A) : wp_Mo_step_c55 K 250 x1 (iN 6) x3 x4 A := p55 (by decide) (p118 (by decide) (k0))
theorem ph_7 (k0 : wp_Mo_step_c281 K 250 x1 (iN 7) x3 x4 A) : wp_Mo_step_c55 K 250 x1 (iN 7) x3 x4 A := p55 (by decide) (p118 (by decide) (p199 (by decide) (by decide) (by decide) (by decide) (p255 (by decide) (k0))))
theorem ph_8 (k0 : wp_Mo_step_c281 K 250 x1 (iN 8) x3 x4 A) : wp_Mo_step_c55 K 250 x1 (iN 8) x3 x4 A := p55 (by decide) (p118 (by decide) (p199 (by decide) (by decide) (by decide) (by decide) (p255 (by decide) (k0))))
theorem ph_11 (k0 : wp_Mo_step_c281 K 250 x1 (iN 11) x3 x4 A) : wp_Mo_step_c55 K 250 x1 (iN 11) x3 x4 A := p55 (by decide) (p118 (by decide) (p199 (by decide) (by decide) (by decide) (by decide) (p255 (by decide) (k0))))
theorem ph_12 (k0 : wp_Mo_step_c320 K 250 x1 (iN 12) x3 x4 A) : wp_Mo_step_c55 K 250 x1 (iN 12) x3 x4 A := p55 (by decide) (p118 (by decide) (p199 (by decide) (by decide) (by decide) (by decide) (p255 (by decide) (p281 (by decide) (by decide) (by decide) (k0)))))
theorem ph_13 (k0 : wp_Mo_step_c320 K 250 x1 (iN 13) x3 x4 A) : wp_Mo_step_c55 K 250 x1 (iN 13) x3 x4 A := p55 (by decide) (p118 (by decide) (p199 (by decide) (by decide) (by decide) (by decide) (p255 (by decide) (p281 (by decide) (by decide) (by decide) (k0)))))
theorem ph_14 (k0 : wp_Mo_step_c366 K 250 x1 (iN 14) x4 A) : wp_Mo_step_c55 K 250 x1 (iN 14) x3 x4 A := p55 (by decide) (p118 (by decide) (p199 (by decide) (by decide) (by decide) (by decide) (p255 (by decide) (p281 (by decide) (by decide) (by decide) (p320 (by decide) (by decide) (k0))))))
theorem ph_16 (k0 : wp_Mo_step_c366 K 250 x1 (iN 16) x4 A) : wp_Mo_step_c55 K 250 x1 (iN 16) x3 x4 A := p55 (by decide) (p118 (by decide) (p199 (by decide) (by decide) (by decide) (by decide) (p255 (by decide) (p281 (by decide) (by decide) (by decide) (p320 (by decide) (by decide) (k0))))))
/-- PRINT -/
theorem q_1 (hW : MW B) (hw : w < 24) (hE0 : exB B w 0 (eX d 0)) (g0 : GdE (eX d 0) ∧ PGd (eX d 0)) (h : MR B sl dat q s 0 A) (hpr : (rPn s).length < 400) (hdu : x4 = slI sl (rDu s))
    (k : RKt B sl dat q (bnE (evS s (eX d 0)) s fun v => (uPr s (rPn s ++ [v]), 0)) K) : wp_Mo_step_c55 K 250 (iN w) (iN 1) x3 x4 A := by
  unfold wp_Mo_step_c55
  rw [show gR A 250 13 = 256 from MRg hW h (j := 13) (by omega), show (4 : Int32) = iN 4 from rfl, iN_mul, iN_cl (show w * 4 < 2147483648 by omega)]
  refine ⟨fun q => absurd rfl q, fun _ => ⟨rfl, rfl, iN_in (m := 100) (by omega) (by omega), r_evx (i := 0) hW h hE0 g0.1 g0.2 (fun v v' A1 hv hd ho h1 => ?_) (fun f A1 hf f0 h1 => ?_)⟩⟩
  · rw [bnE_ok hv] at k
    have h1' := h1
    obtain ⟨hF, ⟨q1, q2, q3⟩, ⟨vm, st, he, hv9⟩, hm, hfb, hl, hr, hda, ⟨p1, p2, p3⟩⟩ := h1'
    have e28 : gR A1 250 28 = 259 := MRg hW h1 (j := 28) (by omega)
    rw [MR_0 h1, p1, e28, show (40 : Int32) = iN 40 from rfl, iN_le (by omega) (by omega), iN_cl (show (rPn s).length < 2147483648 by omega), iN_1]
    have hP : ∀ A2, gI A2 250 18 = iN ((rPn s).length + 1) → (∀ j, j ≠ (rPn s).length ∨ 40 ≤ j → gD A2 259 j = gD A1 259 j) → ((rPn s).length < 40 → gD A2 259 (rPn s).length = v') → PrM A2 (rPn s ++ [v]) := by
      intro A2 g1 g2 g3
      refine ⟨by rw [g1, List.length_append, List.length_singleton], by rw [List.length_append, List.length_singleton]; omega, fun k x hk => ?_⟩
      by_cases hk2 : k < (rPn s).length
      · rw [List.getElem?_append_left hk2] at hk
        refine ⟨fun h40 => ?_, (p3 k x hk).2⟩
        rw [g2 k (Or.inl (by omega))]
        exact (p3 k x hk).1 h40
      · have hk3 := (List.getElem?_eq_some_iff.mp hk).1
        rw [List.length_append, List.length_singleton] at hk3
        have hk4 : k = (rPn s).length := by omega
        subst hk4
        rw [List.getElem?_append_right (Nat.le_refl _), Nat.sub_self] at hk
        rw [← show v = x from Option.some.inj hk]
        refine ⟨fun h40 => ?_, ho⟩
        rw [g3 h40]; exact hd
    refine ⟨fun q => absurd rfl q, fun _ => ⟨fun h40 => ⟨fun q => absurd rfl q, fun _ => ?_⟩, fun h40 => ⟨rfl, iN_in (m := 40) (by omega) (by omega), ?_⟩⟩⟩
    · have h2 := MR_50 (k := 18) (x := iN ((rPn s).length + 1)) (s' := uPr s (rPn s ++ [v])) h1 (by omega) rfl rfl rfl rfl rfl (LoM_cg hl (gI_ne (by omega)) (gI_row (by omega)) (gI_row (by omega)) rfl rfl) (RtM_cg hr (gI_ne (by omega)) (gI_row (by omega))) (DaM_cg hda (gI_ne (by omega)) (gI_ne (by omega)) rfl) (hP _ gI_eq (fun _ _ => rfl) (fun q => by omega))
      exact ps_1 (k _ _ h2 (fun _ => hdu))
    · have e27 : gI (sD A1 259 (rPn s).length v') 250 27 = 0 := (show gI A1 250 27 = 0 from MR_0 h1)
      have e18 : gI (sD A1 259 (rPn s).length v') 250 18 = iN (rPn s).length := p1
      rw [e27, e18, iN_1]
      refine ⟨fun q => absurd rfl q, fun _ => ps_1 (k _ _ ?_ (fun _ => hdu))⟩
      have eD : ∀ o, o ≠ 259 → gD (sI (sD A1 259 (rPn s).length v') 250 18 (iN ((rPn s).length + 1))) o = gD A1 o := fun o ho => gD_row ho
      have eI : ∀ o, o ≠ 250 → gI (sI (sD A1 259 (rPn s).length v') 250 18 (iN ((rPn s).length + 1))) o = gI A1 o := fun o ho => gI_row ho
      have e0 : ∀ j, j ≠ 18 → gI (sI (sD A1 259 (rPn s).length v') 250 18 (iN ((rPn s).length + 1))) 250 j = gI A1 250 j := fun j hj => gI_ne (Or.inr hj)
      exact ⟨MFr_tr hF ⟨rfl, rfl, fun o h1 _ => eI o h1, fun j hj => e0 j (by omega), fun o ho => eD o (by omega)⟩, ⟨(e0 16 (by omega)).trans q1, (e0 17 (by omega)).trans q2, (e0 26 (by omega)).trans q3⟩, EvR_cg he (by rw [eD 260 (by omega), he.2.1.1]; exact hv9) ((e0 27 (by omega)).trans he.2.1.2.1) he.2.1.2.2.1 (e0 24 (by omega)) (e0 25 (by omega)) (eD 261 (by omega)), MmM_cg (s := s) hm (eI 269 (by omega)) (eI 270 (by omega)) (eD 266 (by omega)), FbM_cg hfb (eI 268 (by omega)) (eI 255 (by omega)) (eI 256 (by omega)) (eI 257 (by omega)), LoM_cg hl (e0 23 (by omega)) (eI 272 (by omega)) (eI 273 (by omega)) (eD 263 (by omega)) (eD 264 (by omega)), RtM_cg hr (e0 22 (by omega)) (eI 271 (by omega)), DaM_cg hda (e0 20 (by omega)) (e0 19 (by omega)) (eD 262 (by omega)), hP _ gI_eq (fun j hj => gD_ne (by omega)) (fun _ => gD_eq)⟩
  · rw [bnE_er hf] at k
    exact ⟨fun _ => ⟨fun _ => ps_1 (k _ _ h1 (fun q => absurd q f0)), fun q => absurd q (MR_n h1 f0)⟩, fun q => absurd q (MR_n h1 f0)⟩
/-- IF -/
theorem q_2 {b : Nat} {n : Int32} (hW : MW B) (hs : Psr P) (hP : PMs B P sl) (hw : w < 24) (hE0 : exB B w 0 (eX d 0)) (g0 : GdE (eX d 0) ∧ PGd (eX d 0)) (hE1 : exB B w 1 (eX d 1)) (g1 : GdE (eX d 1) ∧ PGd (eX d 1)) (hb : b ≤ 5) (hn : 0 < n) (e3 : x3 = n) (ha1 : gI B 255 (w * 8 + 1) = iN b) (h : MR B sl dat q s 0 A) (hdu : x4 = slI sl (rDu s))
    (k : RKt B sl dat q (bnE (evS s (eX d 0)) s fun x => bnE (evS s (eX d 1)) s fun y => if hoS b x y then goS P n s else (s, 0)) K) : wp_Mo_step_c118 K 250 (iN w) (iN 2) x3 x4 A := by
  unfold wp_Mo_step_c118
  rw [show gR A 250 13 = 256 from MRg hW h (j := 13) (by omega), show (4 : Int32) = iN 4 from rfl, iN_mul, iN_cl (show w * 4 < 2147483648 by omega)]
  refine ⟨fun q => absurd rfl q, fun _ => ⟨rfl, rfl, iN_in (m := 100) (by omega) (by omega), r_evx (i := 0) hW h hE0 g0.1 g0.2 (fun x x' A1 hx hdx hox h1 => ?_) (fun f A1 hf f0 h1 => ?_)⟩⟩
  · rw [bnE_ok hx] at k
    rw [MR_0 h1, show gR A1 250 13 = 256 from MRg hW h1 (j := 13) (by omega), show (1 : Int32) = iN 1 from rfl, iN_add, iN_cl (show w * 4 + 1 < 2147483648 by omega)]
    refine ⟨fun q => absurd rfl q, fun _ => ⟨rfl, iN_in (m := 100) (by omega) (by omega), r_evx (i := 1) hW h1 hE1 g1.1 g1.2 (fun y y' A2 hy hdy hoy h2 => ?_) (fun f A2 hf f0 h2 => ?_)⟩⟩
    · rw [bnE_ok hy] at k
      unfold wp_Mo_step_c162
      rw [MR_0 h2, show gR A2 250 12 = 255 from MRg hW h2 (j := 12) (by omega), show (8 : Int32) = iN 8 from rfl, iN_mul, show (1 : Int32) = iN 1 from rfl, iN_add, iN_cl (show w * 8 + 1 < 2147483648 by omega), show gI A2 255 (w * 8 + 1) = iN b from (congrFun (MRi h2).1 _).trans ha1]
      refine ⟨rfl, fun q => absurd rfl q, fun _ => ⟨rfl, iN_in (m := 200) (by omega) (by omega), r_holds hb hdx hox hdy hoy ?_⟩⟩
      cases ho : hoS b x y with
      | false =>
        rw [ho, if_neg (by decide)] at k
        exact ⟨fun _ => ps_2 (k _ _ h2 (fun _ => hdu)), fun q => (by cases q)⟩
      | true =>
        rw [ho, if_pos rfl] at k
        rw [e3]
        exact ⟨fun q => (by cases q), fun _ => r_goTo hW hs hP hn h2 k⟩
    · rw [bnE_er hf] at k
      unfold wp_Mo_step_c162
      exact ⟨rfl, fun _ => ps_2 (k _ _ h2 (fun q => absurd q f0)), fun q => absurd q (MR_n h2 f0)⟩
  · rw [bnE_er hf] at k
    refine ⟨fun _ => ?_, fun q => absurd q (MR_n h1 f0)⟩
    unfold wp_Mo_step_c162
    exact ⟨rfl, fun _ => ps_2 (k _ _ h1 (fun q => absurd q f0)), fun q => absurd q (MR_n h1 f0)⟩
/-- RETURN -/
theorem q_6 (hW : MW B) (h : MR B sl dat q s 0 A)
    (k : RKt B sl dat q (if (rRt s).length = 0 then (s, 2) else (uDu (uRt s ((rRt s).take ((rRt s).length - 1))) ((rRt s).getD ((rRt s).length - 1) 0), 0)) K) : wp_Mo_step_c199 K 250 x1 (iN 6) x3 x4 A := by
  have h' := h
  obtain ⟨hF, hqq, ⟨vm, st, he, hv⟩, hm, hf, hl, ⟨r1, r2, r3⟩, hda, hp⟩ := h'
  unfold wp_Mo_step_c199
  rw [r1, show (0 : Int32) = iN 0 from rfl, iN_eq (by omega) (by omega)]
  refine ⟨fun _ => ⟨fun _ => ⟨fun _ => ⟨fun q => absurd rfl q, fun _ => ⟨rfl, fun h0 => ?_, fun h0 => ?_⟩⟩, fun q => absurd q (by decide)⟩, fun q => absurd q (by decide)⟩, fun q => absurd q (by decide)⟩
  · rw [if_neg h0] at k
    unfold wp_Mo_step_c255
    rw [r1, show (1 : Int32) = iN 1 from rfl, iN_sub (by omega), gI_eq, show gR (sI A 250 22 (iN ((rRt s).length - 1))) 250 40 = 271 from (show gR A 250 40 = 271 from MRg hW h (j := 40) (by omega)), iN_cl (by omega)]
    refine ⟨fun q => absurd rfl q, fun _ => ⟨rfl, rfl, iN_in (m := 8) (by omega) (by omega), ?_⟩⟩
    have hx : (rRt s)[(rRt s).length - 1]? = some ((rRt s).getD ((rRt s).length - 1) 0) := by
      rw [List.getD_eq_getElem?_getD, List.getElem?_eq_getElem (by omega)]; rfl
    have h3 := r3 _ _ hx
    rw [gI_ne (by omega), h3]
    refine k _ _ (MR_50 (s' := uDu (uRt s _) _) h (by omega) rfl rfl rfl rfl rfl (LoM_cg hl (gI_ne (by omega)) (gI_row (by omega)) (gI_row (by omega)) rfl rfl) ⟨?_, ?_, fun j x hj => ?_⟩ (DaM_cg hda (gI_ne (by omega)) (gI_ne (by omega)) rfl) (PrM_cg hp (gI_ne (by omega)) rfl)) (fun _ => rfl)
    · show _ = iN ((rRt s).take ((rRt s).length - 1)).length
      rw [gI_eq, List.length_take, Nat.min_eq_left (by omega)]
    · show ((rRt s).take ((rRt s).length - 1)).length ≤ 8
      rw [List.length_take]; omega
    · have hj : ((rRt s).take ((rRt s).length - 1))[j]? = some x := hj
      have hj2 := (List.getElem?_eq_some_iff.mp hj).1
      rw [List.length_take] at hj2
      rw [List.getElem?_take_of_lt (by omega)] at hj
      rw [gI_ne (by omega)]
      exact r3 j x hj
  · rw [if_pos h0] at k
    exact ps_6 (k _ _ (MR_fail (f := 2) h (by omega)) (fun q => absurd (show (2 : Nat) = 0 from q) (by decide)))
/-- DIM -/
theorem q_12 {m r c : Nat} (hW : MW B) (hw : w < 24) (hm : m < 3) (r6 : r ≤ 6) (c6 : c ≤ 6) (e3 : x3 = iN m) (ha1 : gI B 255 (w * 8 + 1) = iN r) (ha2 : gI B 255 (w * 8 + 2) = iN c) (h : MR B sl dat q s 0 A) (hdu : x4 = slI sl (rDu s))
    (k : RKt B sl dat q (uMx s (us (rMr s) m r) (us (rMc s) m c) (us (rMe s) m (fun _ => FP.dconst0)), 0) K) : wp_Mo_step_c320 K 250 (iN w) (iN 12) x3 x4 A := by
  unfold wp_Mo_step_c320
  rw [show gR A 250 12 = 255 from MRg hW h (j := 12) (by omega), show (8 : Int32) = iN 8 from rfl, iN_mul, show (1 : Int32) = iN 1 from rfl, iN_add, show (2 : Int32) = iN 2 from rfl, iN_add, iN_cl (show w * 8 + 1 < 2147483648 by omega), iN_cl (show w * 8 + 2 < 2147483648 by omega), show gI A 255 (w * 8 + 1) = iN r from (congrFun (MRi h).1 _).trans ha1, show gI A 255 (w * 8 + 2) = iN c from (congrFun (MRi h).1 _).trans ha2, e3]
  refine ⟨fun q => absurd rfl q, fun _ => ⟨rfl, rfl, iN_in (m := 200) (by omega) (by omega), iN_in (m := 200) (by omega) (by omega), r_dim (MW_M hW h.1) hm (fun A' b1 b2 b3 b4 b5 b6 b7 => ⟨fun _ => p366 (by decide) (by decide) (k _ _ (MR_mx hm h b1 b2 b3 b4 b5 (fun o h1 _ => b6 o h1) (fun m' p hne hm' hp => ?_) r6 c6 (fun i j hi hj => ⟨?_, okd_0⟩)) (fun _ => hdu)), fun q => absurd q (by decide)⟩)⟩⟩
  · rw [b7, if_neg (by omega)]
  · rw [b7, if_pos (by omega)]; exact dz_rfl _
/-- DEF -/
theorem q_13 {i b : Nat} {e : List SOp} (hW : MW B) (hw : w < 24) (hi : i < 26) (hb : b < 3) (e3 : x3 = iN b) (ha1 : gI B 255 (w * 8 + 1) = iN i) (hE : exB B w 0 e) (hG : GdE e) (hPd : PGd e) (h : MR B sl dat q s 0 A) (hdu : x4 = slI sl (rDu s))
    (k : RKt B sl dat q (uFb s (us (rFb s) b (some (i, e))), 0) K) : wp_Mo_step_c320 K 250 (iN w) (iN 13) x3 x4 A := by
  unfold wp_Mo_step_c320
  rw [show gR A 250 37 = 268 from MRg hW h (j := 37) (by omega), e3, iN_cl (show b < 2147483648 by omega)]
  refine ⟨fun _ => ⟨fun q => absurd rfl q, fun _ => ⟨rfl, rfl, iN_in (m := 3) hb (by omega), p366 (by decide) (by decide) (k _ _ ?_ (fun _ => hdu))⟩⟩, fun q => absurd q (by decide)⟩
  have i5 := (MRi h).1
  have i6 := (MRi h).2.1
  obtain ⟨p, p1, p2⟩ := hE
  have p2' := CdM_M h.1 p2
  obtain ⟨hF, ⟨q1, q2, q3⟩, ⟨vm, st, he, hv⟩, hm, hf, hl, hr, hda, hp⟩ := h
  have eI : ∀ o, o ≠ 268 → gI (sI A 268 b (iN w)) o = gI A o := fun o ho => gI_row ho
  refine ⟨MFr_tr hF ⟨rfl, rfl, fun o h1 h2 => eI o (by omega), fun j _ => congrFun (eI 250 (by omega)) j, fun _ _ => rfl⟩, ⟨by rw [eI 250 (by omega)]; exact q1, by rw [eI 250 (by omega)]; exact q2, by rw [eI 250 (by omega)]; exact q3⟩, EvR_cg he (by show VrM _ (gD A 260); rw [he.2.1.1]; exact hv) (by rw [eI 250 (by omega)]; exact he.2.1.2.1) he.2.1.2.2.1 (by rw [eI 250 (by omega)]) (by rw [eI 250 (by omega)]) rfl, MmM_cg (s := s) hm (eI 269 (by omega)) (eI 270 (by omega)) rfl, fun f hf3 => ?_, LoM_cg hl (by rw [eI 250 (by omega)]) (eI 272 (by omega)) (eI 273 (by omega)) rfl rfl, RtM_cg hr (by rw [eI 250 (by omega)]) (eI 271 (by omega)), DaM_cg hda (by rw [eI 250 (by omega)]) (by rw [eI 250 (by omega)]) rfl, PrM_cg hp (by rw [eI 250 (by omega)]) rfl⟩
  show (¬ 0 ≤ gI (sI A 268 b (iN w)) 268 f ∧ us (rFb s) b (some (i, e)) f = none) ∨ ∃ (k i' p : Nat) (os : List SOp), k < 24 ∧ gI (sI A 268 b (iN w)) 268 f = iN k ∧ gI (sI A 268 b (iN w)) 255 (k * 8 + 1) = iN i' ∧ i' < 26 ∧ gI (sI A 268 b (iN w)) 256 (k * 4) = iN p ∧ CdM (sI A 268 b (iN w)) p os ∧ GdE os ∧ (∀ x, x ∈ os → NmO x) ∧ (∀ φ, FnE φ os) ∧ us (rFb s) b (some (i, e)) f = some (i', os)
  have hcd : ∀ p os, CdM A p os → CdM (sI A 268 b (iN w)) p os := fun p os hc => by
    unfold CdM
    rw [eI 257 (by omega)]
    exact hc
  rw [eI 255 (by omega), eI 256 (by omega)]
  by_cases hfb : f = b
  · rw [hfb, gI_eq, us_eq]
    refine Or.inr ⟨w, i, p, e, hw, rfl, ?_, hi, ?_, hcd _ _ p2', hG, fun x hx => (hPd.1 x hx).2, hPd.2.2, rfl⟩
    · rw [i5]; exact ha1
    · rw [i6]; exact p1
  · rw [gI_ne (Or.inr hfb), us_ne hfb]
    rcases hf f hf3 with g | ⟨k', i', p', os, g1, g2, g3, g4, g5, g6, g7⟩
    · exact Or.inl g
    · exact Or.inr ⟨k', i', p', os, g1, g2, g3, g4, g5, hcd _ _ g6, g7⟩
theorem rDu_bn {α : Type} {e : Except Nat α} {k : α → RS × Nat} {n : Nat} (h0 : rDu s = n) (hk : ∀ v, rDu (k v).1 = n) : rDu (bnE e s k).1 = n := by
  cases e with
  | ok v => exact hk v
  | error f => exact h0
theorem rDu_st {p : Nat} {v : UInt64} : rDu (stS s d p v) = rDu s := by
  unfold stS
  split <;> rfl
theorem rDu_ma {t b : Nat} : rDu (maS s d t b).1 = rDu s := by
  have key : ∀ x y sc, rDu (maE s t b x y sc).1 = rDu s := by
    intro x y sc
    unfold maE
    split <;> rfl
  unfold maS
  split
  · split
    · exact rDu_bn rfl (fun v => key _ _ _)
    · exact key _ _ _
  · rfl
theorem st_in (hW : MW B) (hs : Psr P) (hP : PMs B P sl) (hl24 : P.length ≤ 24) (hh : here < P.length) (hsl : sl[here]? = some w) (hw : w < 24) (hM : gI B 254 w = iN d.1) (hd17 : d.1 < 17) (h : MR B sl dat q s 0 A)
    (k0 : d.1 = 0 → wp_Mo_assign 250 (iN w) 0 A (fun A10 => wp_Mo_step_c55 K 250 (iN w) (iN d.1) (gI A 255 (w * 8)) (slI sl (here + 1)) A10)) (k9 : d.1 = 9 → wp_Mo_assign 250 (iN w) 1 A (fun A10 => wp_Mo_step_c55 K 250 (iN w) (iN d.1) (gI A 255 (w * 8)) (slI sl (here + 1)) A10))
    (k : d.1 ≠ 0 → d.1 ≠ 9 → wp_Mo_step_c55 K 250 (iN w) (iN d.1) (gI A 255 (w * 8)) (slI sl (here + 1)) A) : wp_Mo_step 250 (iN w) A K := by
  have hWA := MW_M hW h.1
  unfold wp_Mo_step
  rw [show gR A 250 10 = 253 from MRg hW h (j := 10) (by omega), show gR A 250 11 = 254 from MRg hW h (j := 11) (by omega), show gR A 250 12 = 255 from MRg hW h (j := 12) (by omega), show (8 : Int32) = iN 8 from rfl, iN_mul, iN_cl (show w < 2147483648 by omega), iN_cl (show w * 8 < 2147483648 by omega), show gI A 254 w = iN d.1 from (congrFun (MRi h).2.2.2 _).trans hM]
  refine ⟨rfl, rfl, iN_in (m := 25) (by omega) (by omega), rfl, iN_in (m := 200) (by omega) (by omega), rfl, iN_in (m := 25) (by omega) (by omega), y_nextS hWA hs (PMs_M hP h.1) hl24 hh hsl ?_⟩
  rw [show (0 : Int32) = iN 0 from rfl, show (9 : Int32) = iN 9 from rfl, iN_eq (by omega) (by omega), iN_eq (by omega) (by omega)]
  exact ⟨fun e0 => ⟨fun _ => k0 e0, fun e9 => by omega⟩, fun n0 => ⟨fun n9 => k n0 n9, fun e9 => ⟨fun q => absurd e9 q, fun _ => k9 e9⟩⟩⟩
theorem qs_0 (hW : MW B) (hs : Psr P) (hP : PMs B P sl) (hl24 : P.length ≤ 24) (hL : PLd P) (hG : ∀ e, e ∈ d.2.2.2.2.1 → GdE e ∧ PGd e) (hh : here < P.length) (hsl : sl[here]? = some w) (hw : w < 24) (hM : MSlot B w d) (hok : LDok d) (h : MR B sl dat q s 0 A) (hdu : rDu s = here + 1) (hpr : (rPn s).length < 400) (hd : d.1 = 0) (k : RKt B sl dat q (sTp P dat here d s) K) : wp_Mo_step 250 (iN w) A K := by
  have hok2 := hok.2
  rw [hd] at hok2
  obtain ⟨m1, κ, ag, ex, hm, ha, he, hκ, hlκ⟩ := hM
  unfold MLd at hm
  rw [hd] at hm
  have ge : ∀ i, d.2.2.2.2.1[i]? = some (eX d i) → GdE (eX d i) ∧ PGd (eX d i) := fun i hi => hG _ (List.mem_of_getElem? hi)
  have hA0 : gI A 255 (w * 8) = ag 0 := (congrFun (MRi h).1 _).trans (ha 0 (by omega))
  rw [sTp_0 hd] at k
  refine st_in hW hs hP hl24 hh hsl hw m1 (by omega) h (fun q0 => ?_) (fun q9 => ?_) (fun q0 q9 => ?_)
  · obtain ⟨g, hTg⟩ := hok2
    have hE2 : exB B w 2 (eX d (if isEl d then 2 else 0)) ∧ GdE (eX d (if isEl d then 2 else 0)) ∧ PGd (eX d (if isEl d then 2 else 0)) := by
      rcases hTg with ⟨i, hi, ea, er⟩ | ⟨m, e, f, hm3, ea, er⟩
      · rcases hm.2 with ⟨hge, -⟩ | ⟨hge, g', er', c2⟩
        · rw [ea, show (26 : Int32) = iN 26 from rfl, iN_le (by omega) (by omega)] at hge
          omega
        · rw [isEl_va hi ea, if_neg (by decide)]
          have e0 : eX d 0 = g' := by unfold eX; rw [er']; rfl
          rw [e0]
          exact ⟨sl_ex he hκ hlκ hw (by omega) c2, hG _ (by rw [er']; simp)⟩
      · rcases hm.2 with ⟨hge, e', f', g', er', c0, c1, c2⟩ | ⟨hge, -⟩
        · rw [isEl_el hm3 ea (Or.inl hd), if_pos rfl]
          have e0 : eX d 2 = g' := by unfold eX; rw [er']; rfl
          rw [e0]
          exact ⟨sl_ex he hκ hlκ hw (by omega) c2, hG _ (by rw [er']; simp)⟩
        · rw [ea, show (26 : Int32) = iN 26 from rfl, iN_le (by omega) (by omega)] at hge
          omega
    rw [hd]
    have hT : TgK d.2.1 d.2.2.2.2.1 [g] := hTg
    refine r_assign (r := [g]) (F := fun p => bnE (evS s (eX d (if isEl d then 2 else 0))) s fun v => (stS s d p v, 0)) hW hw (by omega) ((ha 0 (by omega)).trans hm.1) hT (fun m e f ea hm3 er => ?_) hG h (fun p x3 x4 A1 h1 hT1 k1 => ?_) (fun r hr A1 h1 => ps_0 (k _ A1 (by rw [← hr]; exact h1) (fun _ => ?_)))
    · rcases hm.2 with ⟨hge, e', f', g', er', c0, c1, c2⟩ | ⟨hge, -⟩
      · rw [er'] at er
        injection er with i1 i2
        injection i2 with i2 i3
        rw [← i1, ← i2]
        exact ⟨sl_ex he hκ hlκ hw (by omega) c0, sl_ex he hκ hlκ hw (by omega) c1⟩
      · rw [ea, show (26 : Int32) = iN 26 from rfl, iN_le (by omega) (by omega)] at hge
        omega
    · exact r_81L hW hw h1 hT1 hE2.1 hE2.2.1 hE2.2.2 (fun r hr A2 h2 => k1 A2 (by rw [← hr]; exact h2))
    · rw [rDu_bn (n := here + 1) hdu (fun p => rDu_bn hdu (fun v => by show rDu (stS s d p v) = _; rw [rDu_st]; exact hdu))]
  · omega
  · omega

theorem qs_9 (hW : MW B) (hs : Psr P) (hP : PMs B P sl) (hl24 : P.length ≤ 24) (hL : PLd P) (hG : ∀ e, e ∈ d.2.2.2.2.1 → GdE e ∧ PGd e) (hh : here < P.length) (hsl : sl[here]? = some w) (hw : w < 24) (hM : MSlot B w d) (hok : LDok d) (h : MR B sl dat q s 0 A) (hdu : rDu s = here + 1) (hpr : (rPn s).length < 400) (hd : d.1 = 9) (k : RKt B sl dat q (sTp P dat here d s) K) : wp_Mo_step 250 (iN w) A K := by
  have hok2 := hok.2
  rw [hd] at hok2
  obtain ⟨m1, κ, ag, ex, hm, ha, he, hκ, hlκ⟩ := hM
  unfold MLd at hm
  rw [hd] at hm
  have ge : ∀ i, d.2.2.2.2.1[i]? = some (eX d i) → GdE (eX d i) ∧ PGd (eX d i) := fun i hi => hG _ (List.mem_of_getElem? hi)
  have hA0 : gI A 255 (w * 8) = ag 0 := (congrFun (MRi h).1 _).trans (ha 0 (by omega))
  rw [sTp_9 hd] at k
  refine st_in hW hs hP hl24 hh hsl hw m1 (by omega) h (fun q0 => ?_) (fun q9 => ?_) (fun q0 q9 => ?_)
  · omega
  · rw [hd]
    have hT : TgK d.2.1 d.2.2.2.2.1 [] := hok2
    refine r_assign (r := []) (F := fun p => if rRd s < dat.length then (uRd (stS s d p (dat.getD (rRd s) 0)) (rRd s + 1), 0) else (s, 3)) hW hw (by omega) ((ha 0 (by omega)).trans hm.1) hT (fun m e f ea hm3 er => ?_) hG h (fun p x3 x4 A1 h1 hT1 k1 => ?_) (fun r hr A1 h1 => ps_9 (k _ A1 (by rw [← hr]; exact h1) (fun _ => ?_)))
    · rcases hm.2 with ⟨hge, e', f', er', c0, c1⟩ | ⟨hge, -⟩
      · rw [er'] at er
        injection er with i1 i2
        injection i2 with i2 i3
        rw [← i1, ← i2]
        exact ⟨sl_ex he hκ hlκ hw (by omega) c0, sl_ex he hκ hlκ hw (by omega) c1⟩
      · rw [ea, show (26 : Int32) = iN 26 from rfl, iN_le (by omega) (by omega)] at hge
        omega
    · exact r_81R hW h1 hT1 (fun r hr A2 h2 => k1 A2 (by rw [← hr]; exact h2))
    · rw [rDu_bn (n := here + 1) hdu (fun p => ?_)]
      split
      · show rDu (stS s d p _) = _
        rw [rDu_st]; exact hdu
      · exact hdu
  · omega

theorem qs_1 (hW : MW B) (hs : Psr P) (hP : PMs B P sl) (hl24 : P.length ≤ 24) (hL : PLd P) (hG : ∀ e, e ∈ d.2.2.2.2.1 → GdE e ∧ PGd e) (hh : here < P.length) (hsl : sl[here]? = some w) (hw : w < 24) (hM : MSlot B w d) (hok : LDok d) (h : MR B sl dat q s 0 A) (hdu : rDu s = here + 1) (hpr : (rPn s).length < 400) (hd : d.1 = 1) (k : RKt B sl dat q (sTp P dat here d s) K) : wp_Mo_step 250 (iN w) A K := by
  have hok2 := hok.2
  rw [hd] at hok2
  obtain ⟨m1, κ, ag, ex, hm, ha, he, hκ, hlκ⟩ := hM
  unfold MLd at hm
  rw [hd] at hm
  have ge : ∀ i, d.2.2.2.2.1[i]? = some (eX d i) → GdE (eX d i) ∧ PGd (eX d i) := fun i hi => hG _ (List.mem_of_getElem? hi)
  have hA0 : gI A 255 (w * 8) = ag 0 := (congrFun (MRi h).1 _).trans (ha 0 (by omega))
  rw [sTp_1 hd] at k
  refine st_in hW hs hP hl24 hh hsl hw m1 (by omega) h (fun q0 => ?_) (fun q9 => ?_) (fun q0 q9 => ?_)
  · omega
  · omega
  · rw [hd, hA0]
    obtain ⟨e, er, c0⟩ := hm
    have e0 : eX d 0 = e := by unfold eX; rw [er]; rfl
    refine q_1 (d := d) hW hw ?_ (ge 0 (by rw [e0, er]; rfl)) h hpr (by rw [hdu]) k
    rw [e0]; exact sl_ex he hκ hlκ hw (by omega) c0

theorem qs_2 (hW : MW B) (hs : Psr P) (hP : PMs B P sl) (hl24 : P.length ≤ 24) (hL : PLd P) (hG : ∀ e, e ∈ d.2.2.2.2.1 → GdE e ∧ PGd e) (hh : here < P.length) (hsl : sl[here]? = some w) (hw : w < 24) (hM : MSlot B w d) (hok : LDok d) (h : MR B sl dat q s 0 A) (hdu : rDu s = here + 1) (hpr : (rPn s).length < 400) (hd : d.1 = 2) (k : RKt B sl dat q (sTp P dat here d s) K) : wp_Mo_step 250 (iN w) A K := by
  have hok2 := hok.2
  rw [hd] at hok2
  obtain ⟨m1, κ, ag, ex, hm, ha, he, hκ, hlκ⟩ := hM
  unfold MLd at hm
  rw [hd] at hm
  have ge : ∀ i, d.2.2.2.2.1[i]? = some (eX d i) → GdE (eX d i) ∧ PGd (eX d i) := fun i hi => hG _ (List.mem_of_getElem? hi)
  have hA0 : gI A 255 (w * 8) = ag 0 := (congrFun (MRi h).1 _).trans (ha 0 (by omega))
  rw [sTp_2 hd] at k
  refine st_in hW hs hP hl24 hh hsl hw m1 (by omega) h (fun q0 => ?_) (fun q9 => ?_) (fun q0 q9 => ?_)
  · omega
  · omega
  · rw [hd, hA0]
    obtain ⟨v, e, f, en, er, a0, a1, c0, c1⟩ := hm
    obtain ⟨-, -, v', b, -, en', hv', eb, hb⟩ := hok2
    have e0 : eX d 0 = e := by unfold eX; rw [er]; rfl
    have e1 : eX d 1 = f := by unfold eX; rw [er]; rfl
    have n0 : nX d 0 = v := by unfold nX; rw [en]; rfl
    have hv : 0 < v := by
      rw [en] at en'
      injection en' with i1 i2
      rw [i1]; exact hv'
    rw [eb, iN_cl (show b < 2147483648 by omega), n0] at k
    refine ph_2 (q_2 (d := d) (b := b) (n := v) hW hs hP hw ?_ (ge 0 (by rw [e0, er]; rfl)) ?_ (ge 1 (by rw [e1, er]; rfl)) hb hv a0 ((ha 1 (by omega)).trans (a1.trans eb)) h (by rw [hdu]) k)
    · rw [e0]; exact sl_ex he hκ hlκ hw (by omega) c0
    · rw [e1]; exact sl_ex he hκ hlκ hw (by omega) c1

theorem qs_3 (hW : MW B) (hs : Psr P) (hP : PMs B P sl) (hl24 : P.length ≤ 24) (hL : PLd P) (hG : ∀ e, e ∈ d.2.2.2.2.1 → GdE e ∧ PGd e) (hh : here < P.length) (hsl : sl[here]? = some w) (hw : w < 24) (hM : MSlot B w d) (hok : LDok d) (h : MR B sl dat q s 0 A) (hdu : rDu s = here + 1) (hpr : (rPn s).length < 400) (hd : d.1 = 3) (k : RKt B sl dat q (sTp P dat here d s) K) : wp_Mo_step 250 (iN w) A K := by
  have hok2 := hok.2
  rw [hd] at hok2
  obtain ⟨m1, κ, ag, ex, hm, ha, he, hκ, hlκ⟩ := hM
  unfold MLd at hm
  rw [hd] at hm
  have ge : ∀ i, d.2.2.2.2.1[i]? = some (eX d i) → GdE (eX d i) ∧ PGd (eX d i) := fun i hi => hG _ (List.mem_of_getElem? hi)
  have hA0 : gI A 255 (w * 8) = ag 0 := (congrFun (MRi h).1 _).trans (ha 0 (by omega))
  rw [sTp_3 hd] at k
  refine st_in hW hs hP hl24 hh hsl hw m1 (by omega) h (fun q0 => ?_) (fun q9 => ?_) (fun q0 q9 => ?_)
  · omega
  · omega
  · rw [hd, hA0]
    obtain ⟨v, en, a0⟩ := hm
    obtain ⟨v', en', hv'⟩ := hok2
    have n0 : nX d 0 = v := by unfold nX; rw [en]; rfl
    have hv : 0 < v := by
      rw [en] at en'
      injection en' with i1 i2
      rw [i1]; exact hv'
    rw [n0] at k
    rw [a0]
    exact ph_3 ⟨fun q => absurd rfl q, fun _ => ⟨rfl, r_goTo hW hs hP hv h k⟩⟩

theorem qs_4 (hW : MW B) (hs : Psr P) (hP : PMs B P sl) (hl24 : P.length ≤ 24) (hL : PLd P) (hG : ∀ e, e ∈ d.2.2.2.2.1 → GdE e ∧ PGd e) (hh : here < P.length) (hsl : sl[here]? = some w) (hw : w < 24) (hM : MSlot B w d) (hok : LDok d) (h : MR B sl dat q s 0 A) (hdu : rDu s = here + 1) (hpr : (rPn s).length < 400) (hd : d.1 = 4) (k : RKt B sl dat q (sTp P dat here d s) K) : wp_Mo_step 250 (iN w) A K := by
  have hok2 := hok.2
  rw [hd] at hok2
  obtain ⟨m1, κ, ag, ex, hm, ha, he, hκ, hlκ⟩ := hM
  unfold MLd at hm
  rw [hd] at hm
  have ge : ∀ i, d.2.2.2.2.1[i]? = some (eX d i) → GdE (eX d i) ∧ PGd (eX d i) := fun i hi => hG _ (List.mem_of_getElem? hi)
  have hA0 : gI A 255 (w * 8) = ag 0 := (congrFun (MRi h).1 _).trans (ha 0 (by omega))
  rw [sTp_4 hd] at k
  refine st_in hW hs hP hl24 hh hsl hw m1 (by omega) h (fun q0 => ?_) (fun q9 => ?_) (fun q0 q9 => ?_)
  · omega
  · omega
  · rw [hd, hA0]
    obtain ⟨⟨e, er, c0⟩, a0, a4, al4⟩ := hm
    obtain ⟨-, -, -, -, hpos⟩ := hok2
    have e0 : eX d 0 = e := by unfold eX; rw [er]; rfl
    refine ph_4 ⟨fun _ => ⟨fun q => absurd rfl q, fun _ => ⟨rfl, r_choose (d := d) hW hs hP hw ?_ (ge 0 (by rw [e0, er]; rfl)) a4 ((ha 0 (by omega)).trans a0) (fun j hj => ?_) h k⟩⟩, fun q => absurd q (by decide)⟩
    · rw [e0]; exact sl_ex he hκ hlκ hw (by omega) c0
    · have hg : d.2.2.2.1[j]? = some (nX d j) := by
        unfold nX
        rw [List.getD_eq_getElem?_getD, List.getElem?_eq_getElem hj]; rfl
      exact ⟨(ha (j + 1) (by omega)).trans (al4 j _ hg), hpos _ (List.mem_of_getElem? hg)⟩

theorem qs_5 (hW : MW B) (hs : Psr P) (hP : PMs B P sl) (hl24 : P.length ≤ 24) (hL : PLd P) (hG : ∀ e, e ∈ d.2.2.2.2.1 → GdE e ∧ PGd e) (hh : here < P.length) (hsl : sl[here]? = some w) (hw : w < 24) (hM : MSlot B w d) (hok : LDok d) (h : MR B sl dat q s 0 A) (hdu : rDu s = here + 1) (hpr : (rPn s).length < 400) (hd : d.1 = 5) (k : RKt B sl dat q (sTp P dat here d s) K) : wp_Mo_step 250 (iN w) A K := by
  have hok2 := hok.2
  rw [hd] at hok2
  obtain ⟨m1, κ, ag, ex, hm, ha, he, hκ, hlκ⟩ := hM
  unfold MLd at hm
  rw [hd] at hm
  have ge : ∀ i, d.2.2.2.2.1[i]? = some (eX d i) → GdE (eX d i) ∧ PGd (eX d i) := fun i hi => hG _ (List.mem_of_getElem? hi)
  have hA0 : gI A 255 (w * 8) = ag 0 := (congrFun (MRi h).1 _).trans (ha 0 (by omega))
  rw [sTp_5 hd] at k
  refine st_in hW hs hP hl24 hh hsl hw m1 (by omega) h (fun q0 => ?_) (fun q9 => ?_) (fun q0 q9 => ?_)
  · omega
  · omega
  · rw [hd, hA0]
    obtain ⟨v, en, a0⟩ := hm
    obtain ⟨v', en', hv'⟩ := hok2
    have n0 : nX d 0 = v := by unfold nX; rw [en]; rfl
    have hv : 0 < v := by
      rw [en] at en'
      injection en' with i1 i2
      rw [i1]; exact hv'
    rw [n0] at k
    refine ph_5 ⟨fun _ => ⟨fun _ => ⟨fun q => absurd rfl q, fun _ => ⟨rfl, r_goSub hW hs hP hw hv ((ha 0 (by omega)).trans a0) h (fun r hr => ?_)⟩⟩, fun q => absurd q (by decide)⟩, fun q => absurd q (by decide)⟩
    rw [hr]
    exact k

theorem qs_6 (hW : MW B) (hs : Psr P) (hP : PMs B P sl) (hl24 : P.length ≤ 24) (hL : PLd P) (hG : ∀ e, e ∈ d.2.2.2.2.1 → GdE e ∧ PGd e) (hh : here < P.length) (hsl : sl[here]? = some w) (hw : w < 24) (hM : MSlot B w d) (hok : LDok d) (h : MR B sl dat q s 0 A) (hdu : rDu s = here + 1) (hpr : (rPn s).length < 400) (hd : d.1 = 6) (k : RKt B sl dat q (sTp P dat here d s) K) : wp_Mo_step 250 (iN w) A K := by
  have hok2 := hok.2
  rw [hd] at hok2
  obtain ⟨m1, κ, ag, ex, hm, ha, he, hκ, hlκ⟩ := hM
  unfold MLd at hm
  rw [hd] at hm
  have ge : ∀ i, d.2.2.2.2.1[i]? = some (eX d i) → GdE (eX d i) ∧ PGd (eX d i) := fun i hi => hG _ (List.mem_of_getElem? hi)
  have hA0 : gI A 255 (w * 8) = ag 0 := (congrFun (MRi h).1 _).trans (ha 0 (by omega))
  rw [sTp_6 hd] at k
  refine st_in hW hs hP hl24 hh hsl hw m1 (by omega) h (fun q0 => ?_) (fun q9 => ?_) (fun q0 q9 => ?_)
  · omega
  · omega
  · rw [hd, hA0]
    exact ph_6 (q_6 hW h k)

theorem qs_7 (hW : MW B) (hs : Psr P) (hP : PMs B P sl) (hl24 : P.length ≤ 24) (hL : PLd P) (hG : ∀ e, e ∈ d.2.2.2.2.1 → GdE e ∧ PGd e) (hh : here < P.length) (hsl : sl[here]? = some w) (hw : w < 24) (hM : MSlot B w d) (hok : LDok d) (h : MR B sl dat q s 0 A) (hdu : rDu s = here + 1) (hpr : (rPn s).length < 400) (hd : d.1 = 7) (k : RKt B sl dat q (sTp P dat here d s) K) : wp_Mo_step 250 (iN w) A K := by
  have hok2 := hok.2
  rw [hd] at hok2
  obtain ⟨m1, κ, ag, ex, hm, ha, he, hκ, hlκ⟩ := hM
  unfold MLd at hm
  rw [hd] at hm
  have ge : ∀ i, d.2.2.2.2.1[i]? = some (eX d i) → GdE (eX d i) ∧ PGd (eX d i) := fun i hi => hG _ (List.mem_of_getElem? hi)
  have hA0 : gI A 255 (w * 8) = ag 0 := (congrFun (MRi h).1 _).trans (ha 0 (by omega))
  rw [sTp_7 hd] at k
  refine st_in hW hs hP hl24 hh hsl hw m1 (by omega) h (fun q0 => ?_) (fun q9 => ?_) (fun q0 q9 => ?_)
  · omega
  · omega
  · rw [hd, hA0]
    obtain ⟨a0, hm2⟩ := hm
    obtain ⟨i, e', f', g', hi, ea, er', hgl⟩ := hok2
    rw [ea, iN_cl (show i < 2147483648 by omega)] at k
    have hE : exB B w 0 (eX d 0) ∧ exB B w 1 (eX d 1) ∧ (¬ d.2.2.2.2.1.length ≤ 2 → exB B w 2 (eX d 2)) ∧ ag 1 = (if d.2.2.2.2.1.length ≤ 2 then 0 else 1) := by
      rcases hm2 with ⟨e, f, er, a1, c0, c1⟩ | ⟨e, f, g, er, a1, c0, c1, c2⟩
      · have e0 : eX d 0 = e := by unfold eX; rw [er]; rfl
        have e1 : eX d 1 = f := by unfold eX; rw [er]; rfl
        rw [e0, e1, er, a1]
        exact ⟨sl_ex he hκ hlκ hw (by omega) c0, sl_ex he hκ hlκ hw (by omega) c1, fun q => absurd (Nat.le_refl 2) q, rfl⟩
      · have e0 : eX d 0 = e := by unfold eX; rw [er]; rfl
        have e1 : eX d 1 = f := by unfold eX; rw [er]; rfl
        have e2 : eX d 2 = g := by unfold eX; rw [er]; rfl
        rw [e0, e1, e2, er, a1]
        exact ⟨sl_ex he hκ hlκ hw (by omega) c0, sl_ex he hκ hlκ hw (by omega) c1, fun _ => sl_ex he hκ hlκ hw (by omega) c2, rfl⟩
    have hg : ∀ j, j < d.2.2.2.2.1.length → GdE (eX d j) ∧ PGd (eX d j) := fun j hj => ge j (by
      unfold eX
      rw [List.getD_eq_getElem?_getD, List.getElem?_eq_getElem hj]; rfl)
    have hl2 : 2 ≤ d.2.2.2.2.1.length := by rw [er']; simp only [List.length_cons]; omega
    exact ph_7 ⟨fun q => absurd rfl q, fun _ => ⟨rfl, r_for (d := d) hW hs hP hl24 hL hh hsl hw hi ((ha 0 (by omega)).trans (a0.trans ea)) ((ha 1 (by omega)).trans hE.2.2.2) hE.1 hE.2.1 (fun q => ⟨hE.2.2.1 q, hg 2 (by omega)⟩) (hg 0 (by omega)) (hg 1 (by omega)) h hdu k⟩⟩

theorem qs_8 (hW : MW B) (hs : Psr P) (hP : PMs B P sl) (hl24 : P.length ≤ 24) (hL : PLd P) (hG : ∀ e, e ∈ d.2.2.2.2.1 → GdE e ∧ PGd e) (hh : here < P.length) (hsl : sl[here]? = some w) (hw : w < 24) (hM : MSlot B w d) (hok : LDok d) (h : MR B sl dat q s 0 A) (hdu : rDu s = here + 1) (hpr : (rPn s).length < 400) (hd : d.1 = 8) (k : RKt B sl dat q (sTp P dat here d s) K) : wp_Mo_step 250 (iN w) A K := by
  have hok2 := hok.2
  rw [hd] at hok2
  obtain ⟨m1, κ, ag, ex, hm, ha, he, hκ, hlκ⟩ := hM
  unfold MLd at hm
  rw [hd] at hm
  have ge : ∀ i, d.2.2.2.2.1[i]? = some (eX d i) → GdE (eX d i) ∧ PGd (eX d i) := fun i hi => hG _ (List.mem_of_getElem? hi)
  have hA0 : gI A 255 (w * 8) = ag 0 := (congrFun (MRi h).1 _).trans (ha 0 (by omega))
  rw [sTp_8 hd] at k
  refine st_in hW hs hP hl24 hh hsl hw m1 (by omega) h (fun q0 => ?_) (fun q9 => ?_) (fun q0 q9 => ?_)
  · omega
  · omega
  · rw [hd, hA0]
    obtain ⟨i, hi, ea⟩ := hok2
    rw [ea, iN_cl (show i < 2147483648 by omega)] at k
    exact ph_8 ⟨fun _ => ⟨fun q => absurd rfl q, fun _ => ⟨rfl, r_next hW hs hP hl24 hw hi ((ha 0 (by omega)).trans (hm.trans ea)) h hdu k⟩⟩, fun q => absurd q (by decide)⟩

theorem qs_10 (hW : MW B) (hs : Psr P) (hP : PMs B P sl) (hl24 : P.length ≤ 24) (hL : PLd P) (hG : ∀ e, e ∈ d.2.2.2.2.1 → GdE e ∧ PGd e) (hh : here < P.length) (hsl : sl[here]? = some w) (hw : w < 24) (hM : MSlot B w d) (hok : LDok d) (h : MR B sl dat q s 0 A) (hdu : rDu s = here + 1) (hpr : (rPn s).length < 400) (hd : d.1 = 10) (k : RKt B sl dat q (sTp P dat here d s) K) : wp_Mo_step 250 (iN w) A K := by
  have hok2 := hok.2
  rw [hd] at hok2
  obtain ⟨m1, κ, ag, ex, hm, ha, he, hκ, hlκ⟩ := hM
  unfold MLd at hm
  rw [hd] at hm
  have ge : ∀ i, d.2.2.2.2.1[i]? = some (eX d i) → GdE (eX d i) ∧ PGd (eX d i) := fun i hi => hG _ (List.mem_of_getElem? hi)
  have hA0 : gI A 255 (w * 8) = ag 0 := (congrFun (MRi h).1 _).trans (ha 0 (by omega))
  rw [sTp_10 hd] at k
  refine st_in hW hs hP hl24 hh hsl hw m1 (by omega) h (fun q0 => ?_) (fun q9 => ?_) (fun q0 q9 => ?_)
  · omega
  · omega
  · rw [hd, hA0]
    exact ps_10 (k _ A h (fun _ => by rw [hdu]))

theorem qs_11 (hW : MW B) (hs : Psr P) (hP : PMs B P sl) (hl24 : P.length ≤ 24) (hL : PLd P) (hG : ∀ e, e ∈ d.2.2.2.2.1 → GdE e ∧ PGd e) (hh : here < P.length) (hsl : sl[here]? = some w) (hw : w < 24) (hM : MSlot B w d) (hok : LDok d) (h : MR B sl dat q s 0 A) (hdu : rDu s = here + 1) (hpr : (rPn s).length < 400) (hd : d.1 = 11) (k : RKt B sl dat q (sTp P dat here d s) K) : wp_Mo_step 250 (iN w) A K := by
  have hok2 := hok.2
  rw [hd] at hok2
  obtain ⟨m1, κ, ag, ex, hm, ha, he, hκ, hlκ⟩ := hM
  unfold MLd at hm
  rw [hd] at hm
  have ge : ∀ i, d.2.2.2.2.1[i]? = some (eX d i) → GdE (eX d i) ∧ PGd (eX d i) := fun i hi => hG _ (List.mem_of_getElem? hi)
  have hA0 : gI A 255 (w * 8) = ag 0 := (congrFun (MRi h).1 _).trans (ha 0 (by omega))
  rw [sTp_11 hd] at k
  refine st_in hW hs hP hl24 hh hsl hw m1 (by omega) h (fun q0 => ?_) (fun q9 => ?_) (fun q0 q9 => ?_)
  · omega
  · omega
  · rw [hd, hA0]
    exact ph_11 ⟨fun _ => ⟨fun _ => ⟨fun q => absurd rfl q, fun _ => ⟨rfl, ps_11 (k _ _ (MR_rd h (Nat.zero_le _)) (fun _ => by rw [← hdu]; rfl))⟩⟩, fun q => absurd q (by decide)⟩, fun q => absurd q (by decide)⟩

theorem qs_12 (hW : MW B) (hs : Psr P) (hP : PMs B P sl) (hl24 : P.length ≤ 24) (hL : PLd P) (hG : ∀ e, e ∈ d.2.2.2.2.1 → GdE e ∧ PGd e) (hh : here < P.length) (hsl : sl[here]? = some w) (hw : w < 24) (hM : MSlot B w d) (hok : LDok d) (h : MR B sl dat q s 0 A) (hdu : rDu s = here + 1) (hpr : (rPn s).length < 400) (hd : d.1 = 12) (k : RKt B sl dat q (sTp P dat here d s) K) : wp_Mo_step 250 (iN w) A K := by
  have hok2 := hok.2
  rw [hd] at hok2
  obtain ⟨m1, κ, ag, ex, hm, ha, he, hκ, hlκ⟩ := hM
  unfold MLd at hm
  rw [hd] at hm
  have ge : ∀ i, d.2.2.2.2.1[i]? = some (eX d i) → GdE (eX d i) ∧ PGd (eX d i) := fun i hi => hG _ (List.mem_of_getElem? hi)
  have hA0 : gI A 255 (w * 8) = ag 0 := (congrFun (MRi h).1 _).trans (ha 0 (by omega))
  rw [sTp_12 hd] at k
  refine st_in hW hs hP hl24 hh hsl hw m1 (by omega) h (fun q0 => ?_) (fun q9 => ?_) (fun q0 q9 => ?_)
  · omega
  · omega
  · rw [hd, hA0]
    obtain ⟨a0, r', c', en, a1, a2⟩ := hm
    obtain ⟨m, r, c, hm3, ea, en', r1, r6, c1, c6⟩ := hok2
    have n0 : nX d 0 = iN r := by unfold nX; rw [en']; rfl
    have n1 : nX d 1 = iN c := by unfold nX; rw [en']; rfl
    have er : r' = iN r ∧ c' = iN c := by
      rw [en] at en'
      injection en' with i1 i2
      injection i2 with i2 i3
      exact ⟨i1, i2⟩
    rw [ea, n0, n1, iN_cl (show m < 2147483648 by omega), iN_cl (show r < 2147483648 by omega), iN_cl (show c < 2147483648 by omega)] at k
    exact ph_12 (q_12 hW hw hm3 r6 c6 (a0.trans ea) ((ha 1 (by omega)).trans (a1.trans er.1)) ((ha 2 (by omega)).trans (a2.trans er.2)) h (by rw [hdu]) k)

theorem qs_13 (hW : MW B) (hs : Psr P) (hP : PMs B P sl) (hl24 : P.length ≤ 24) (hL : PLd P) (hG : ∀ e, e ∈ d.2.2.2.2.1 → GdE e ∧ PGd e) (hh : here < P.length) (hsl : sl[here]? = some w) (hw : w < 24) (hM : MSlot B w d) (hok : LDok d) (h : MR B sl dat q s 0 A) (hdu : rDu s = here + 1) (hpr : (rPn s).length < 400) (hd : d.1 = 13) (k : RKt B sl dat q (sTp P dat here d s) K) : wp_Mo_step 250 (iN w) A K := by
  have hok2 := hok.2
  rw [hd] at hok2
  obtain ⟨m1, κ, ag, ex, hm, ha, he, hκ, hlκ⟩ := hM
  unfold MLd at hm
  rw [hd] at hm
  have ge : ∀ i, d.2.2.2.2.1[i]? = some (eX d i) → GdE (eX d i) ∧ PGd (eX d i) := fun i hi => hG _ (List.mem_of_getElem? hi)
  have hA0 : gI A 255 (w * 8) = ag 0 := (congrFun (MRi h).1 _).trans (ha 0 (by omega))
  rw [sTp_13 hd] at k
  refine st_in hW hs hP hl24 hh hsl hw m1 (by omega) h (fun q0 => ?_) (fun q9 => ?_) (fun q0 q9 => ?_)
  · omega
  · omega
  · rw [hd, hA0]
    obtain ⟨a0, a1, e, er, c0⟩ := hm
    obtain ⟨i, b, e', hi, ea, hb, eb, er'⟩ := hok2
    have e0 : eX d 0 = e := by unfold eX; rw [er]; rfl
    have hg := hG e (by rw [er]; simp)
    rw [ea, eb, e0, iN_cl (show i < 2147483648 by omega), iN_cl (show b < 2147483648 by omega)] at k
    exact ph_13 (q_13 hW hw hi hb (a0.trans eb) ((ha 1 (by omega)).trans (a1.trans ea)) (sl_ex he hκ hlκ hw (by omega) c0) hg.1 hg.2 h (by rw [hdu]) k)

theorem qs_14 (hW : MW B) (hs : Psr P) (hP : PMs B P sl) (hl24 : P.length ≤ 24) (hL : PLd P) (hG : ∀ e, e ∈ d.2.2.2.2.1 → GdE e ∧ PGd e) (hh : here < P.length) (hsl : sl[here]? = some w) (hw : w < 24) (hM : MSlot B w d) (hok : LDok d) (h : MR B sl dat q s 0 A) (hdu : rDu s = here + 1) (hpr : (rPn s).length < 400) (hd : d.1 = 14) (k : RKt B sl dat q (sTp P dat here d s) K) : wp_Mo_step 250 (iN w) A K := by
  have hok2 := hok.2
  rw [hd] at hok2
  obtain ⟨m1, κ, ag, ex, hm, ha, he, hκ, hlκ⟩ := hM
  unfold MLd at hm
  rw [hd] at hm
  have ge : ∀ i, d.2.2.2.2.1[i]? = some (eX d i) → GdE (eX d i) ∧ PGd (eX d i) := fun i hi => hG _ (List.mem_of_getElem? hi)
  have hA0 : gI A 255 (w * 8) = ag 0 := (congrFun (MRi h).1 _).trans (ha 0 (by omega))
  rw [sTp_14 hd] at k
  refine st_in hW hs hP hl24 hh hsl hw m1 (by omega) h (fun q0 => ?_) (fun q9 => ?_) (fun q0 q9 => ?_)
  · omega
  · omega
  · rw [hd, hA0]
    obtain ⟨a0, a1, hm2⟩ := hm
    have h2 : (∀ j, j < d.2.2.2.1.length → gI B 255 (w * 8 + (2 + j)) = nX d j) ∧ (d.2.2.1 = iN 4 → exB B w 0 (eX d 0)) := by
      rcases hm2 with ⟨en, eb⟩ | ⟨m, en, a2, eb⟩ | ⟨m, e, en, a2, eb, er, c0⟩ | ⟨m, m2, en, a2, a3, eb⟩
      · refine ⟨fun j hj => ?_, fun q => ?_⟩
        · rw [en] at hj; exact absurd hj (Nat.not_lt_zero j)
        · rcases eb with e | e | e <;> rw [e] at q <;> exact absurd q (by decide)
      · refine ⟨fun j hj => ?_, fun q => ?_⟩
        · rw [en, List.length_singleton] at hj
          have hj0 : j = 0 := by omega
          subst hj0
          rw [show nX d 0 = m from by unfold nX; rw [en]; rfl]
          exact (ha 2 (by omega)).trans a2
        · rcases eb with e | e <;> rw [e] at q <;> exact absurd q (by decide)
      · refine ⟨fun j hj => ?_, fun q => ?_⟩
        · rw [en, List.length_singleton] at hj
          have hj0 : j = 0 := by omega
          subst hj0
          rw [show nX d 0 = m from by unfold nX; rw [en]; rfl]
          exact (ha 2 (by omega)).trans a2
        · rw [show eX d 0 = e from by unfold eX; rw [er]; rfl]
          exact sl_ex he hκ hlκ hw (by omega) c0
      · refine ⟨fun j hj => ?_, fun q => ?_⟩
        · rw [en] at hj
          have hj2 : j < 2 := hj
          rcases (by omega : j = 0 ∨ j = 1) with e | e <;> subst e
          · rw [show nX d 0 = m from by unfold nX; rw [en]; rfl]
            exact (ha 2 (by omega)).trans a2
          · rw [show nX d 1 = m2 from by unfold nX; rw [en]; rfl]
            exact (ha 3 (by omega)).trans a3
        · rcases eb with e | e | e <;> rw [e] at q <;> exact absurd q (by decide)
    exact ph_14 ⟨fun q => absurd rfl q, fun _ => ⟨rfl, r_mat hW hw hd hok hG ((ha 0 (by omega)).trans a0) ((ha 1 (by omega)).trans a1) h2.1 h2.2 h (fun r hr A1 h1 => ⟨fun _ => k _ A1 (by rw [← hr]; exact h1) (fun _ => by rw [rDu_ma, hdu]), fun q => absurd q (by decide)⟩)⟩⟩

theorem qs_15 (hW : MW B) (hs : Psr P) (hP : PMs B P sl) (hl24 : P.length ≤ 24) (hL : PLd P) (hG : ∀ e, e ∈ d.2.2.2.2.1 → GdE e ∧ PGd e) (hh : here < P.length) (hsl : sl[here]? = some w) (hw : w < 24) (hM : MSlot B w d) (hok : LDok d) (h : MR B sl dat q s 0 A) (hdu : rDu s = here + 1) (hpr : (rPn s).length < 400) (hd : d.1 = 15) (k : RKt B sl dat q (sTp P dat here d s) K) : wp_Mo_step 250 (iN w) A K := by
  have hok2 := hok.2
  rw [hd] at hok2
  obtain ⟨m1, κ, ag, ex, hm, ha, he, hκ, hlκ⟩ := hM
  unfold MLd at hm
  rw [hd] at hm
  have ge : ∀ i, d.2.2.2.2.1[i]? = some (eX d i) → GdE (eX d i) ∧ PGd (eX d i) := fun i hi => hG _ (List.mem_of_getElem? hi)
  have hA0 : gI A 255 (w * 8) = ag 0 := (congrFun (MRi h).1 _).trans (ha 0 (by omega))
  rw [sTp_15 hd] at k
  refine st_in hW hs hP hl24 hh hsl hw m1 (by omega) h (fun q0 => ?_) (fun q9 => ?_) (fun q0 q9 => ?_)
  · omega
  · omega
  · rw [hd, hA0]
    exact ps_15 (k _ A h (fun _ => by rw [hdu]))

theorem qs_16 (hW : MW B) (hs : Psr P) (hP : PMs B P sl) (hl24 : P.length ≤ 24) (hL : PLd P) (hG : ∀ e, e ∈ d.2.2.2.2.1 → GdE e ∧ PGd e) (hh : here < P.length) (hsl : sl[here]? = some w) (hw : w < 24) (hM : MSlot B w d) (hok : LDok d) (h : MR B sl dat q s 0 A) (hdu : rDu s = here + 1) (hpr : (rPn s).length < 400) (hd : d.1 = 16) (k : RKt B sl dat q (sTp P dat here d s) K) : wp_Mo_step 250 (iN w) A K := by
  have hok2 := hok.2
  rw [hd] at hok2
  obtain ⟨m1, κ, ag, ex, hm, ha, he, hκ, hlκ⟩ := hM
  unfold MLd at hm
  rw [hd] at hm
  have ge : ∀ i, d.2.2.2.2.1[i]? = some (eX d i) → GdE (eX d i) ∧ PGd (eX d i) := fun i hi => hG _ (List.mem_of_getElem? hi)
  have hA0 : gI A 255 (w * 8) = ag 0 := (congrFun (MRi h).1 _).trans (ha 0 (by omega))
  rw [sTp_16 hd] at k
  refine st_in hW hs hP hl24 hh hsl hw m1 (by omega) h (fun q0 => ?_) (fun q9 => ?_) (fun q0 q9 => ?_)
  · omega
  · omega
  · rw [hd, hA0]
    exact ph_16 ⟨fun _ => ⟨fun q => absurd rfl q, fun _ => k _ A h (fun _ => (slI_ge (PMs_M hP h.1) (Nat.le_refl _)).symm)⟩, fun q => absurd q (by decide)⟩

theorem r_step (hW : MW B) (hs : Psr P) (hP : PMs B P sl) (hl24 : P.length ≤ 24) (hL : PLd P) (hG : ∀ e, e ∈ d.2.2.2.2.1 → GdE e ∧ PGd e) (hh : here < P.length) (hsl : sl[here]? = some w) (hw : w < 24) (hM : MSlot B w d) (hok : LDok d) (h : MR B sl dat q s 0 A) (hdu : rDu s = here + 1) (hpr : (rPn s).length < 400) (hd : d.1 < 17) (k : RKt B sl dat q (sTp P dat here d s) K) : wp_Mo_step 250 (iN w) A K := by
  rcases (by omega : d.1 = 0 ∨ d.1 = 1 ∨ d.1 = 2 ∨ d.1 = 3 ∨ d.1 = 4 ∨ d.1 = 5 ∨ d.1 = 6 ∨ d.1 = 7 ∨ d.1 = 8 ∨ d.1 = 9 ∨ d.1 = 10 ∨ d.1 = 11 ∨ d.1 = 12 ∨ d.1 = 13 ∨ d.1 = 14 ∨ d.1 = 15 ∨ d.1 = 16) with e | e | e | e | e | e | e | e | e | e | e | e | e | e | e | e | e
  · exact qs_0 hW hs hP hl24 hL hG hh hsl hw hM hok h hdu hpr e k
  · exact qs_1 hW hs hP hl24 hL hG hh hsl hw hM hok h hdu hpr e k
  · exact qs_2 hW hs hP hl24 hL hG hh hsl hw hM hok h hdu hpr e k
  · exact qs_3 hW hs hP hl24 hL hG hh hsl hw hM hok h hdu hpr e k
  · exact qs_4 hW hs hP hl24 hL hG hh hsl hw hM hok h hdu hpr e k
  · exact qs_5 hW hs hP hl24 hL hG hh hsl hw hM hok h hdu hpr e k
  · exact qs_6 hW hs hP hl24 hL hG hh hsl hw hM hok h hdu hpr e k
  · exact qs_7 hW hs hP hl24 hL hG hh hsl hw hM hok h hdu hpr e k
  · exact qs_8 hW hs hP hl24 hL hG hh hsl hw hM hok h hdu hpr e k
  · exact qs_9 hW hs hP hl24 hL hG hh hsl hw hM hok h hdu hpr e k
  · exact qs_10 hW hs hP hl24 hL hG hh hsl hw hM hok h hdu hpr e k
  · exact qs_11 hW hs hP hl24 hL hG hh hsl hw hM hok h hdu hpr e k
  · exact qs_12 hW hs hP hl24 hL hG hh hsl hw hM hok h hdu hpr e k
  · exact qs_13 hW hs hP hl24 hL hG hh hsl hw hM hok h hdu hpr e k
  · exact qs_14 hW hs hP hl24 hL hG hh hsl hw hM hok h hdu hpr e k
  · exact qs_15 hW hs hP hl24 hL hG hh hsl hw hM hok h hdu hpr e k
  · exact qs_16 hW hs hP hl24 hL hG hh hsl hw hM hok h hdu hpr e k
end RM7
