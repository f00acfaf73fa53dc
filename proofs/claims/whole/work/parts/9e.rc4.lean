section RC5
variable {B A : Mem} {dat : List UInt64} {q : Nat → Int32} {s : RS} {ft : Nat} {P : PT} {K : Mem → Prop}
theorem tgV_el {d : LDT} {m : Nat} (he : isEl d = true) (hm : m < 3) (ea : d.2.1 = iN (26 + m)) : tgV s d = (match evS s (eX d 0) with
    | .error f => .error f
    | .ok x => match evS s (eX d 1) with
      | .error f => .error f
      | .ok y => match plM (rMr s m) (rMc s m) (FP.d2l x) (FP.d2l y) with
        | some p => .ok p
        | none => .error 5) := by
  unfold tgV
  rw [if_pos he, ea, iN_cl (show 26 + m < 2147483648 by omega), Nat.add_sub_cancel_left]
  cases evS s (eX d 0) with
  | error f => rfl
  | ok x =>
    cases evS s (eX d 1) with
    | error f => rfl
    | ok y =>
      cases h : plM (rMr s m) (rMc s m) (FP.d2l x) (FP.d2l y) with
      | none => simp only [h]
      | some p => simp only [h]
theorem tgV_va {d : LDT} (he : isEl d = false) : tgV s d = .ok 0 := by
  unfold tgV
  rw [he, if_neg (by decide)]
theorem isEl_va {d : LDT} {i : Nat} (hi : i < 26) (ea : d.2.1 = iN i) : isEl d = false := by
  unfold isEl
  rw [ea, decide_eq_false (show ¬ (26 : Int32) ≤ iN i by rw [show (26 : Int32) = iN 26 from rfl, iN_le (by omega) (by omega)]; omega), Bool.and_false]
theorem isEl_el {d : LDT} {m : Nat} (hm : m < 3) (ea : d.2.1 = iN (26 + m)) (hd : d.1 = 0 ∨ d.1 = 9) : isEl d = true := by
  unfold isEl
  rw [ea, decide_eq_true (show (26 : Int32) ≤ iN (26 + m) by rw [show (26 : Int32) = iN 26 from rfl, iN_le (by omega) (by omega)]; omega), Bool.and_true]
  rcases hd with e | e <;> rw [e] <;> rfl
theorem c_tgt {L : Nat} {v : Int32} {d : LDT} {r : List (List SOp)} {K : Int32 → Mem → Prop} (hW : WC B) (hC : CLv B L v d) (hL : 100 ≤ L) (hL2 : L < 125) (hd : d.1 = 0 ∨ d.1 = 9) (hT : TgK d.2.1 d.2.2.2.2.1 r) (hP : ∀ e, e ∈ d.2.2.2.2.1 → PGd e) (h : CR B dat q s 0 A)
    (kk : ∀ w A', CR B dat q s (fEx 0 (tgV s d)) A' → (∀ p, tgV s d = .ok p → w = iN p ∧ p < 36) → ((0 : Nat) = 0 → ∀ f, tgV s d = .error f → f ≠ 0) → K w A') : wp_Ma_targetPlace 5 L A K := by
  obtain ⟨w0, w1, w2, -⟩ := W5 hW h
  obtain ⟨-, -, f4, -⟩ := CLv_f (CLv_R hL h.1 hC)
  unfold wp_Ma_targetPlace
  rw [f4, w1]
  rcases hT with ⟨i, hi, ea, er⟩ | ⟨m, e0, e1, hm, ea, er⟩
  · have he := isEl_va hi ea
    rw [he]
    rw [tgV_va he] at kk
    exact ⟨kdL hL hL2, fun q => absurd rfl q, fun _ => kk 0 A h (fun p hp => by rw [← Except.ok.inj hp]; exact ⟨rfl, by omega⟩) (fun _ f hf => by cases hf)⟩
  · have he := isEl_el hm ea hd
    rw [he]
    rw [tgV_el he hm ea] at kk
    have ex0 : eX d 0 = e0 := by unfold eX; rw [er]; rfl
    have ex1 : eX d 1 = e1 := by unfold eX; rw [er]; rfl
    rw [ex0, ex1] at kk
    refine ⟨kdL hL hL2, fun _ => ⟨rfl, rfl, c_ev (k := 0) hW h hC hL hL2 (by rw [er]; rfl) (hP _ (by rw [er]; simp)) (fun x A1 hx h1 v1 n1 => ?_)⟩, fun q => absurd q (by decide)⟩
    obtain ⟨w0', w1', w2', -⟩ := W5 hW h1
    rw [w1']
    refine ⟨rfl, c_ev (k := 1) hW h1 hC hL hL2 (by rw [er]; rfl) (hP _ (by rw [er]; simp)) (fun y A2 hy h2 v2 n2 => ?_)⟩
    obtain ⟨w0'', w1'', w2'', -⟩ := W5 hW h2
    obtain ⟨-, -, -, f3, -⟩ := CLv_f (CLv_R hL h2.1 hC)
    obtain ⟨t2, ht2, -⟩ := h2.2.2.1
    have e3 : gI A2 L 3 = iN m := by
      rw [f3 (by omega), he, ea]
      show iN (26 + m) - 26 = _
      rw [show (26 : Int32) = iN 26 from rfl, iN_sub (by omega), Nat.add_sub_cancel_left]
    obtain ⟨m1, m2, m3, m4, -⟩ := h2.2.2.2.1.1 m hm
    rw [w1'', e3]
    refine ⟨rfl, n_matrixAt (WC_R hW h2.1) ht2 hm ⟨(kd_m4 (by omega)).1, n_placeOf (kd_m4 (by omega)).1 m1 m2 m3 m4 ?_⟩⟩
    rw [w1'']
    -- behind the place is sought
    by_cases h0 : fEx (fEx 0 (evS s e0)) (evS s e1) = 0
    · obtain ⟨u, w, hu, hw, h01⟩ := fEx_ok2 h0 n1 n2
      rw [hu, hw, ← v1 u rfl hu, ← v2 w h01 hw] at kk
      rw [h0] at h2
      have kk : ∀ w A', CR B dat q s (fEx 0 (match plM (rMr s m) (rMc s m) (FP.d2l x) (FP.d2l y) with
        | some p => (Except.ok p : Except Nat Nat)
        | none => .error 5)) A' → (∀ p, (match plM (rMr s m) (rMc s m) (FP.d2l x) (FP.d2l y) with
        | some p => (Except.ok p : Except Nat Nat)
        | none => .error 5) = .ok p → w = iN p ∧ p < 36) → ((0 : Nat) = 0 → ∀ f, (match plM (rMr s m) (rMc s m) (FP.d2l x) (FP.d2l y) with
        | some p => (Except.ok p : Except Nat Nat)
        | none => .error 5) = .error f → f ≠ 0) → K w A' := kk
      cases hp : plM (rMr s m) (rMc s m) (FP.d2l x) (FP.d2l y) with
      | none =>
        rw [hp] at kk
        exact ⟨fun q => absurd q (by decide), fun _ => ⟨rfl, c_fail (f := 5) h2 (by omega) (by omega) (fun A' h' => kk _ A' h' (fun p hp => by cases hp) (fun _ f hf => by rw [← Except.error.inj hf]; decide))⟩⟩
      | some p =>
        rw [hp] at kk
        have hp36 := plM_lt m3 m4 hp
        refine ⟨fun _ => kk _ A2 h2 (fun p' hp' => by rw [← Except.ok.inj hp']; exact ⟨rfl, hp36⟩) (fun _ f hf => by cases hf), fun q => absurd ?_ q⟩
        show iN 0 ≤ iN p
        rw [iN_le (by omega) (by omega)]
        omega
    · have et : (match evS s e0 with
        | .error f => (Except.error f : Except Nat Nat)
        | .ok x => match evS s e1 with
          | .error f => .error f
          | .ok y => match plM (rMr s m) (rMc s m) (FP.d2l x) (FP.d2l y) with
            | some p => .ok p
            | none => .error 5) = .error (fEx (fEx 0 (evS s e0)) (evS s e1)) := by
        cases hE0 : evS s e0 with
        | error f =>
          rw [hE0] at n1
          show Except.error f = Except.error (if f = 0 then _ else f)
          rw [if_neg (n1 rfl f rfl)]
        | ok u =>
          rw [hE0] at h0
          cases hE1 : evS s e1 with
          | error f => rfl
          | ok w => rw [hE1] at h0; exact absurd rfl h0
      rw [et] at kk
      have kk2 : ∀ w A', CR B dat q s (fEx (fEx 0 (evS s e0)) (evS s e1)) A' → K w A' := fun w A' h' => kk w A' h' (fun p hp => by cases hp) (fun _ f hf => by rw [← Except.error.inj hf]; exact h0)
      refine ⟨fun _ => kk2 _ A2 h2, fun _ => ⟨rfl, c_fail (f := 5) h2 (by omega) (by omega) (fun A' h' => ?_)⟩⟩
      rw [if_neg h0] at h'
      exact kk2 _ A' h'
theorem c_store {L p : Nat} {w v : Int32} {d : LDT} {x : UInt64} {r : List (List SOp)} (hW : WC B) (hC : CLv B L v d) (hL : 100 ≤ L) (hL2 : L < 125) (hd : d.1 = 0 ∨ d.1 = 9) (hT : TgK d.2.1 d.2.2.2.2.1 r) (h : CR B dat q s ft A) (hx : okd x) (hp : ft = 0 → w = iN p ∧ p < 36)
    (k0 : ft = 0 → ∀ A', CR B dat q (stS s d p x) 0 A' → K A') (k1 : ft ≠ 0 → K A) : wp_Ma_store 5 L w x A K := by
  obtain ⟨w0, w1, w2, -⟩ := W5 hW h
  unfold wp_Ma_store
  rw [w1]
  refine ⟨rfl, rfl, c_fine h (fun h0 => ⟨fun _ => ?_, fun q => (by cases q)⟩) (fun h0 => ⟨fun q => (by cases q), fun _ => k1 h0⟩)⟩
  subst h0
  obtain ⟨-, -, f4, f3, -⟩ := CLv_f (CLv_R hL h.1 hC)
  have f3 := f3 (by omega)
  rw [f4, w1]
  have k0 := k0 rfl
  unfold stS at k0
  rcases hT with ⟨i, hi, ea, er⟩ | ⟨m, e0, e1, hm, ea, er⟩
  · have he := isEl_va hi ea
    rw [he] at f3 k0 ⊢
    rw [if_neg (by decide), ea] at f3
    rw [if_neg (by decide), ea, iN_cl (show i < 2147483648 by omega)] at k0
    rw [f3]
    exact ⟨kdL hL hL2, fun _ => ⟨rfl, c_set hW h hi hx (fun h' => k0 _ h')⟩, fun q => absurd rfl q⟩
  · have he := isEl_el hm ea hd
    rw [he] at f3 k0 ⊢
    rw [if_pos rfl, ea, show (26 : Int32) = iN 26 from rfl, iN_sub (by omega), Nat.add_sub_cancel_left] at f3
    rw [if_pos rfl, ea, iN_cl (show 26 + m < 2147483648 by omega), Nat.add_sub_cancel_left] at k0
    rw [f3]
    obtain ⟨t2, ht2, -⟩ := h.2.2.1
    obtain ⟨ew, hp36⟩ := hp rfl
    rw [ew]
    exact ⟨kdL hL hL2, fun q => absurd q (by decide), fun _ => ⟨rfl, n_matrixAt (WC_R hW h.1) ht2 hm ⟨(kd_m4 (by omega)).1, n_setM (WC_R hW h.1) (by omega) hp36 (k0 _ (CR_me h hx hm hp36))⟩⟩⟩
theorem c_let {L : Nat} {v : Int32} {d : LDT} (hW : WC B) (hC : CLv B L v d) (hL : 100 ≤ L) (hL2 : L < 125) (hd : d.1 = 0) (hok : LDok d) (h : CR B dat q s 0 A)
    (k : ∀ r, r = (bnE (tgV s d) s fun p => bnE (evS s (eX d (if isEl d then 2 else 0))) s fun v => (stS s d p v, 0)) → ∀ A', CR B dat q r.1 r.2 A' → K A') : wp_Ma_targetPlace 5 L A (fun (r5 : Int32) (A4 : Mem) => wp_Ma_let 5 L r5 A4 (fun (A7 : Mem) => K A7)) := by
  have hok2 := hok.2
  rw [hd] at hok2
  obtain ⟨g, hT⟩ := hok2
  obtain ⟨w0, w1, w2, -⟩ := W5 hW h
  refine c_tgt hW hC hL hL2 (Or.inl hd) hT hok.1 h (fun w A1 h1 g1 n1 => ?_)
  unfold wp_Ma_let
  refine ⟨rfl, ?_⟩
  obtain ⟨w0', w1', w2', -⟩ := W5 hW h1
  obtain ⟨-, -, f4, -⟩ := CLv_f (CLv_R hL h1.1 hC)
  rw [f4, w1']
  have key : ∀ j : Nat, d.2.2.2.2.1[j]? = some g → (if isEl d then 2 else 0) = j → wp_Ca_workOut 8 L (iN j) A1 (fun (r6 : UInt64) (A5 : Mem) => wp_Ma_store 5 L w r6 A5 (fun (A8 : Mem) => K A8)) := by
    intro j hj ej
    rw [ej, show eX d j = g from by unfold eX; rw [List.getD_eq_getElem?_getD, hj]; rfl] at k
    refine c_ev hW h1 hC hL hL2 hj (hok.1 _ (List.mem_of_getElem? hj)) (fun x A2 hx h2 v2 n2 => ?_)
    by_cases h0 : fEx (fEx 0 (tgV s d)) (evS s g) = 0
    · obtain ⟨p, u, hp, hu, h01⟩ := fEx_ok2 h0 n1 n2
      refine c_store (p := p) hW hC hL hL2 (Or.inl hd) hT h2 hx (fun _ => g1 p hp) (fun _ A' h' => k (stS s d p x, 0) ?_ A' h') (fun q => absurd h0 q)
      rw [bnE_ok hp, bnE_ok hu, v2 u h01 hu]
    · exact c_store (p := 0) hW hC hL hL2 (Or.inl hd) hT h2 hx (fun q => absurd q h0) (fun q => absurd q h0) (fun _ => k (s, _) (fEx_2 (k := fun p v => (stS s d p v, 0)) h0 (n1 rfl)).symm A2 h2)
  rcases hT with ⟨i, hi, ea, er⟩ | ⟨m, e0, e1, hm, ea, er⟩
  · have he := isEl_va hi ea
    rw [he] at key ⊢
    exact ⟨kdL hL hL2, fun _ => ⟨rfl, key 0 (by rw [er]; rfl) rfl⟩, fun q => absurd rfl q⟩
  · have he := isEl_el hm ea (Or.inl hd)
    rw [he] at key ⊢
    exact ⟨kdL hL hL2, fun q => absurd q (by decide), fun _ => ⟨rfl, key 2 (by rw [er]; rfl) rfl⟩⟩
theorem c_read {L : Nat} {v : Int32} {d : LDT} (hW : WC B) (hC : CLv B L v d) (hL : 100 ≤ L) (hL2 : L < 125) (hd : d.1 = 9) (hok : LDok d) (h : CR B dat q s 0 A)
    (k : ∀ r, r = (bnE (tgV s d) s fun p => if rRd s < dat.length then (uRd (stS s d p (dat.getD (rRd s) 0)) (rRd s + 1), 0) else (s, 3)) → ∀ A', CR B dat q r.1 r.2 A' → K A') : wp_Ma_targetPlace 5 L A (fun (r30 : Int32) (A29 : Mem) => wp_Ma_read 5 L r30 A29 (fun (A32 : Mem) => K A32)) := by
  have hok2 := hok.2
  rw [hd] at hok2
  have hT : TgK d.2.1 d.2.2.2.2.1 [] := hok2
  obtain ⟨w0, w1, w2, -⟩ := W5 hW h
  refine c_tgt hW hC hL hL2 (Or.inr hd) hT hok.1 h (fun w A1 h1 g1 n1 => ?_)
  unfold wp_Ma_read
  refine ⟨rfl, ?_⟩
  obtain ⟨w0', w1', w2', w3', w4', w5'⟩ := W5 hW h1
  obtain ⟨d1, d2, d3, d4, d5, d6⟩ := h1.2.2.2.2.2.2.2.1
  rw [d1, d3, w1', w5', iN_le (by omega) (by omega), show Int32.ofNat (al 27) = iN 144 from rfl, iN_lt (by omega) (by omega)]
  refine ⟨fun hle => ⟨rfl, c_fail (f := 3) h1 (by omega) (by omega) (fun A' h' => ?_)⟩, fun hlt => ⟨rfl, fun _ => ⟨iN_in (m := 144) (by omega) (by omega), ?_⟩, fun q => by omega⟩⟩
  · simp only [if_neg (show ¬ rRd s < dat.length by omega)] at k
    by_cases h0 : fEx 0 (tgV s d) = 0
    · obtain ⟨p, hp⟩ := fEx_ok1 h0 n1
      rw [if_pos h0] at h'
      exact k (s, 3) (bnE_ok (k := fun _ => (s, 3)) hp).symm A' h'
    · rw [if_neg h0] at h'
      exact k (s, _) (fEx_1 h0).symm A' h'
  · simp only [if_pos (show rRd s < dat.length by omega)] at k
    rw [iN_cl (show rRd s < 2147483648 by omega)]
    have hx : dat[rRd s]? = some (dat.getD (rRd s) 0) := by
      rw [List.getD_eq_getElem?_getD, List.getElem?_eq_getElem (by omega)]; rfl
    rw [d5 _ _ hx]
    have ho : okd (dat.getD (rRd s) 0) := d6 _ (List.mem_of_getElem? hx)
    by_cases h0 : fEx 0 (tgV s d) = 0
    · obtain ⟨p, hp⟩ := fEx_ok1 h0 n1
      refine c_store (p := p) hW hC hL hL2 (Or.inr hd) hT h1 ho (fun _ => g1 p hp) (fun _ A' h' => ?_) (fun q => absurd h0 q)
      obtain ⟨w0'', w1'', w2'', w3'', w4'', w5''⟩ := W5 hW h'
      have e7 : gI A' 5 7 = iN (rRd s) := by
        have g := h'.2.2.2.2.2.2.2.1.2.2.1
        rw [g]
        unfold stS
        split <;> rfl
      rw [w1'', e7, iN_1]
      have hr : rRd s + 1 ≤ dat.length := by omega
      exact ⟨rfl, c_fine h' (fun _ => ⟨fun q => (by cases q), fun _ => k _ (bnE_ok hp).symm _ (CR_rd h' hr)⟩) (fun q => absurd rfl q)⟩
    · refine c_store (p := 0) hW hC hL hL2 (Or.inr hd) hT h1 ho (fun q => absurd q h0) (fun q => absurd q h0) (fun _ => ?_)
      rw [w1', d3, show (0 : Int32) = iN 0 from rfl, iN_add, Nat.add_zero]
      exact ⟨rfl, c_fine h1 (fun q => absurd q h0) (fun _ => ⟨fun _ => k (s, _) (fEx_1 h0).symm _ (CR_rd h1 d4), fun q => (by cases q)⟩)⟩
theorem rlT : ∀ b, b < 6 → ((cRel (iN b) &&& 1 = 0 ↔ ¬ (b = 1 ∨ b = 3 ∨ b = 5)) ∧ (cRel (iN b) &&& 2 = 0 ↔ ¬ (b = 0 ∨ b = 3 ∨ b = 4)) ∧ (cRel (iN b) &&& 4 = 0 ↔ ¬ (b = 2 ∨ b = 4 ∨ b = 5))) := by decide +kernel
theorem hoT {b : Nat} {x y : UInt64} (hb : b < 6) : (FP.Core.dkey x < FP.Core.dkey y → (hoS b x y = true ↔ (b = 1 ∨ b = 3 ∨ b = 5))) ∧ (FP.Core.dkey x = FP.Core.dkey y → (hoS b x y = true ↔ (b = 0 ∨ b = 3 ∨ b = 4))) ∧ (FP.Core.dkey y < FP.Core.dkey x → (hoS b x y = true ↔ (b = 2 ∨ b = 4 ∨ b = 5))) := by
  unfold hoS
  rcases (by omega : b = 0 ∨ b = 1 ∨ b = 2 ∨ b = 3 ∨ b = 4 ∨ b = 5) with e | e | e | e | e | e <;> subst e <;> simp <;> omega
theorem nX_c {d : LDT} (hd : d.1 ≠ 10) (k : Nat) : (cNu d).getD k 0 = nX d k := by
  unfold cNu nX
  rw [if_neg hd]
theorem c_if46 {L b : Nat} {v s0 : Int32} {d : LDT} (hW : WC B) (hP : PC B P) (hC : CLv B L v d) (hL : 100 ≤ L) (hL2 : L < 125) (hd : d.1 = 2) (eb : d.2.2.1 = iN b) (h : CR B dat q s ft A) (g : Bool) (hg : (cRel (iN b) &&& s0 = 0) ↔ ¬ g = true)
    (k0 : ft = 0 → ∀ r, r = (if g then goS P (nX d 0) s else (s, 0)) → ∀ A', CR B dat q r.1 r.2 A' → K A') (k1 : ft ≠ 0 → K A) : wp_Ma_goIf_c44 K 5 L s0 A := by
  obtain ⟨w0, w1, w2, -⟩ := W5 hW h
  unfold wp_Ma_goIf_c44
  rw [w1]
  refine ⟨rfl, rfl, c_fine h (fun h0 => ⟨fun q => (by cases q), fun _ => ?_⟩) (fun h0 => ⟨fun _ => k1 h0, fun q => (by cases q)⟩)⟩
  subst h0
  have hCA := CLv_R hL h.1 hC
  obtain ⟨-, -, -, -, -, f6, -⟩ := CLv_f hCA
  rw [f6 hd, eb]
  have k0 := k0 rfl
  refine ⟨kdL hL hL2, fun q => ?_, fun q => ?_⟩
  · rw [if_neg (hg.mp q)] at k0
    exact k0 _ rfl A h
  · have hgt : g = true := by
      cases g with
      | true => rfl
      | false => exact absurd (hg.mpr (by decide)) q
    rw [if_pos hgt] at k0
    refine n_numberAt (k := 0) (WC_R hW h.1) hL hL2 hCA (by omega) ?_
    rw [nX_c (by omega)]
    exact c_goTo hW hP h (fun A' h' => k0 _ rfl A' h')
theorem c_if {L : Nat} {v : Int32} {d : LDT} (hW : WC B) (hP : PC B P) (hC : CLv B L v d) (hL : 100 ≤ L) (hL2 : L < 125) (hd : d.1 = 2) (hok : LDok d) (h : CR B dat q s 0 A)
    (k : ∀ r, r = (bnE (evS s (eX d 0)) s fun x => bnE (evS s (eX d 1)) s fun y => if hoS d.2.2.1.toNatClampNeg x y then goS P (nX d 0) s else (s, 0)) → ∀ A', CR B dat q r.1 r.2 A' → K A') : wp_Ma_goIf 5 L A K := by
  have hok2 := hok.2
  rw [hd] at hok2
  obtain ⟨e0, e1, tv, b, hes, hns, htv, eb, hb⟩ := hok2
  obtain ⟨w0, w1, w2, -⟩ := W5 hW h
  have ex0 : eX d 0 = e0 := by unfold eX; rw [hes]; rfl
  have ex1 : eX d 1 = e1 := by unfold eX; rw [hes]; rfl
  rw [ex0, ex1, eb, iN_cl (show b < 2147483648 by omega)] at k
  unfold wp_Ma_goIf
  rw [w1]
  refine ⟨rfl, rfl, c_ev (k := 0) hW h hC hL hL2 (by rw [hes]; rfl) (hok.1 _ (by rw [hes]; simp)) (fun x A1 hx h1 v1 n1 => ?_)⟩
  obtain ⟨w0', w1', w2', -⟩ := W5 hW h1
  rw [w1']
  refine ⟨rfl, c_ev (k := 1) hW h1 hC hL hL2 (by rw [hes]; rfl) (hok.1 _ (by rw [hes]; simp)) (fun y A2 hy h2 v2 n2 => ?_)⟩
  rw [propext (fk_nn (okd_nn hx) (okd_nn hy)), propext (fk_np (okd_nn hx) (okd_nn hy))]
  obtain ⟨t1, t2, t3⟩ := rlT b (by omega)
  obtain ⟨o1, o2, o3⟩ := hoT (x := x) (y := y) (b := b) (by omega)
  have key : ∀ s0, ((cRel (iN b) &&& s0 = 0) ↔ ¬ hoS b x y = true) → wp_Ma_goIf_c44 K 5 L s0 A2 := by
    intro s0 hg
    refine c_if46 hW hP hC hL hL2 hd eb h2 (hoS b x y) hg (fun h0 r hr A' h' => ?_) (fun h0 => k (s, _) (fEx_2 h0 (n1 rfl)).symm A2 h2)
    obtain ⟨u, w, hu, hw, h01⟩ := fEx_ok2 h0 n1 n2
    refine k r ?_ A' h'
    rw [bnE_ok hu, bnE_ok hw, ← v1 u rfl hu, ← v2 w h01 hw]
    exact hr
  refine ⟨fun g1 => ⟨fun g2 => key 2 ?_, fun g2 => key 4 ?_⟩, fun g1 => key 1 ?_⟩
  · rw [t2, o2 (by omega)]
  · rw [t3, o3 (by omega)]
  · rw [t1, o1 (by omega)]
theorem i64_32 {x : Int64} (h1 : 0 ≤ x.toInt) (h2 : x.toInt ≤ 100) : x.toInt32 = iN x.toInt.toNat := by
  refine Int32.toInt.inj ?_
  rw [FP.Core.int64_toInt32 (by omega) (by omega), iN_toInt (by omega)]
  omega
theorem c_on {L : Nat} {v : Int32} {d : LDT} (hW : WC B) (hP : PC B P) (hC : CLv B L v d) (hL : 100 ≤ L) (hL2 : L < 125) (hd : d.1 = 4) (hok : LDok d) (h : CR B dat q s 0 A)
    (k : ∀ r, r = (bnE (evS s (eX d 0)) s fun x => if 1 ≤ (FP.d2l x).toInt ∧ (FP.d2l x).toInt ≤ d.2.2.2.1.length then goS P (nX d ((FP.d2l x).toInt.toNat - 1)) s else (s, 1)) → ∀ A', CR B dat q r.1 r.2 A' → K A') : wp_Ma_goToChosen 5 L A K := by
  have hok2 := hok.2
  rw [hd] at hok2
  obtain ⟨e0, hes, hn1, hn4, hnp⟩ := hok2
  obtain ⟨w0, w1, w2, -⟩ := W5 hW h
  have ex0 : eX d 0 = e0 := by unfold eX; rw [hes]; rfl
  rw [ex0] at k
  unfold wp_Ma_goToChosen
  rw [w1]
  refine ⟨rfl, rfl, c_ev (k := 0) hW h hC hL hL2 (by rw [hes]; rfl) (hok.1 _ (by rw [hes]; simp)) (fun x A1 hx h1 v1 n1 => ?_)⟩
  obtain ⟨w0', w1', w2', -⟩ := W5 hW h1
  rw [w1']
  refine ⟨rfl, c_fine h1 (fun h0 => ⟨fun _ => ?_, fun q => (by cases q)⟩) (fun h0 => ⟨fun q => (by cases q), fun _ => k (s, _) (fEx_1 h0).symm A1 h1⟩)⟩
  obtain ⟨u, hu⟩ := fEx_ok1 h0 n1
  rw [bnE_ok hu, ← v1 u rfl hu] at k
  rw [h0] at h1
  have hCA := CLv_R hL h1.1 hC
  obtain ⟨-, -, -, -, -, -, f9, f9b, -⟩ := CLv_f hCA
  have ec : cNu d = d.2.2.2.1 := by unfold cNu; rw [if_neg (by omega)]
  rw [w1', f9, ec]
  have eb : (iN d.2.2.2.1.length).toInt64.toInt = d.2.2.2.1.length := by rw [Int32.toInt_toInt64, iN_toInt (by omega)]
  simp only [lg_cmp_lt, lg_cmp_gt, lg_cmp_le, i64_lt, i64_le, eb, Int64_1]
  refine ⟨fun g => ⟨rfl, ?_⟩, fun g => ⟨kdL hL hL2, fun g2 => ?_, fun g2 => ⟨rfl, ?_⟩⟩⟩
  · rw [if_neg (by omega)] at k
    exact c_fail (f := 1) h1 (by omega) (by omega) (fun A' h' => k _ rfl A' h')
  · rw [if_pos (by omega)] at k
    rw [i64_32 (by omega) (by omega), iN_s1 (by omega)]
    refine n_numberAt (WC_R hW h1.1) hL hL2 hCA (by omega) ?_
    rw [nX_c (by omega)]
    exact c_goTo hW hP h1 (fun A' h' => k _ rfl A' h')
  · rw [if_neg (by omega)] at k
    exact c_fail (f := 1) h1 (by omega) (by omega) (fun A' h' => k _ rfl A' h')
end RC5
