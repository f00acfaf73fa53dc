section RM2
variable {B A A' : Mem} {dat : List UInt64} {q : Nat → Int32} {s : RS} {ft : Nat} {P : PT} {sl : List Nat}
/-- what a step owes: the state r0 behind it, the slot that is due -/
def RKt (B : Mem) (sl : List Nat) (dat : List UInt64) (q : Nat → Int32) (r0 : RS × Nat) (K : Int32 → Mem → Prop) : Prop := ∀ r A', MR B sl dat q r0.1 r0.2 A' → (r0.2 = 0 → r = slI sl (rDu r0.1)) → K r A'
theorem MR_va {i : Nat} {x x' : UInt64} (h : MR B sl dat q s ft A) (hd : dz x x') (ho : okd x) : MR B sl dat q (uVa s (us (rVa s) i x)) ft (sD A 260 i x') := by
  obtain ⟨hF, hq, ⟨vm, st, he, hv⟩, hm, hf, hl, hr, hda, hp⟩ := h
  have eD : ∀ o, o ≠ 260 → gD (sD A 260 i x') o = gD A o := fun o ho => gD_row ho
  refine ⟨MFr_tr hF ⟨rfl, rfl, fun _ _ _ => rfl, fun _ _ => rfl, fun o ho => eD o (by omega)⟩, hq, EvR_cg he ?_ he.2.1.2.1 he.2.1.2.2.1 rfl rfl (eD 261 (by omega)), MmM_cg (s := s) hm rfl rfl (eD 266 (by omega)), FbM_cg hf rfl rfl rfl rfl, LoM_cg hl rfl rfl rfl (eD 263 (by omega)) (eD 264 (by omega)), hr, DaM_cg hda rfl rfl (eD 262 (by omega)), PrM_cg hp rfl (eD 259 (by omega))⟩
  rw [gD_us2, he.2.1.1]
  exact VrM_us hv hd ho
theorem MR_me {m p : Nat} {x x' : UInt64} (h : MR B sl dat q s ft A) (hd : dz x x') (ho : okd x) (hm3 : m < 3) (hp36 : p < 36) : MR B sl dat q (uMx s (rMr s) (rMc s) (us (rMe s) m (us (rMe s m) p x))) ft (sD A 266 (m * 36 + p) x') := by
  obtain ⟨hF, hq, ⟨vm, st, he, hv⟩, hm, hf, hl, hr, hda, hp⟩ := h
  have eD : ∀ o, o ≠ 266 → gD (sD A 266 (m * 36 + p) x') o = gD A o := fun o ho => gD_row ho
  refine ⟨MFr_tr hF ⟨rfl, rfl, fun _ _ _ => rfl, fun _ _ => rfl, fun o ho => eD o (by omega)⟩, hq, EvR_cg he (by rw [eD 260 (by omega), he.2.1.1]; exact hv) he.2.1.2.1 he.2.1.2.2.1 rfl rfl (eD 261 (by omega)), fun m' hm' => ?_, FbM_cg hf rfl rfl rfl rfl, LoM_cg hl rfl rfl rfl (eD 263 (by omega)) (eD 264 (by omega)), hr, DaM_cg hda rfl rfl (eD 262 (by omega)), PrM_cg hp rfl (eD 259 (by omega))⟩
  obtain ⟨m1, m2, m3, m4, m5⟩ := hm m' hm'
  refine ⟨m1, m2, m3, m4, fun i j hi hj => ?_⟩
  show dz (us (rMe s) m (us (rMe s m) p x) m' (i * 6 + j)) (gD (sD A 266 (m * 36 + p) x') 266 (m' * 36 + (i * 6 + j))) ∧ okd (us (rMe s) m (us (rMe s m) p x) m' (i * 6 + j))
  have hi6 : i < rMr s m' := hi
  have hj6 : j < rMc s m' := hj
  by_cases e : m' = m
  · rw [e, us_eq]
    by_cases e2 : i * 6 + j = p
    · rw [e2, us_eq, gD_eq]; exact ⟨hd, ho⟩
    · rw [us_ne e2, gD_ne (Or.inr (by omega))]
      rw [e] at m5 hi6 hj6
      exact m5 i j hi6 hj6
  · rw [us_ne e, gD_ne (Or.inr (by omega))]
    exact m5 i j hi6 hj6
/-- one of the reference's own numbers changes -/
theorem MR_50 {k : Nat} {x : Int32} {s' : RS} (h : MR B sl dat q s ft A) (hk : 18 ≤ k ∧ k ≤ 23) (e1 : rVa s' = rVa s) (e2 : rMr s' = rMr s) (e3 : rMc s' = rMc s) (e4 : rMe s' = rMe s) (e5 : rFb s' = rFb s)
    (hl : LoM (sI A 250 k x) sl (rLp s')) (hr : RtM (sI A 250 k x) sl (rRt s')) (hda : DaM (sI A 250 k x) dat (rRd s')) (hp : PrM (sI A 250 k x) (rPn s')) : MR B sl dat q s' ft (sI A 250 k x) := by
  obtain ⟨hF, ⟨q1, q2, q3⟩, ⟨vm, st, he, hv⟩, hm, hf, -⟩ := h
  have eI : ∀ o, o ≠ 250 → gI (sI A 250 k x) o = gI A o := fun o ho => gI_row ho
  have e0 : ∀ j, j ≠ k → gI (sI A 250 k x) 250 j = gI A 250 j := fun j hj => gI_ne (Or.inr hj)
  refine ⟨MFr_tr hF ⟨rfl, rfl, fun o h1 _ => eI o h1, fun j hj => e0 j (by omega), fun _ _ => rfl⟩, ⟨(e0 16 (by omega)).trans q1, (e0 17 (by omega)).trans q2, (e0 26 (by omega)).trans q3⟩, EvR_cg he (by rw [e1]; show VrM _ (gD A 260); rw [he.2.1.1]; exact hv) ((e0 27 (by omega)).trans he.2.1.2.1) he.2.1.2.2.1 (e0 24 (by omega)) (e0 25 (by omega)) rfl, ?_, ?_, hl, hr, hda, hp⟩
  · unfold MmM; rw [e2, e3, e4]; exact MmM_cg (s := s) hm (eI 269 (by omega)) (eI 270 (by omega)) rfl
  · rw [e5]; exact FbM_cg hf (eI 268 (by omega)) (eI 255 (by omega)) (eI 256 (by omega)) (eI 257 (by omega))
theorem MR_rd {j : Nat} (h : MR B sl dat q s ft A) (hj : j ≤ dat.length) : MR B sl dat q (uRd s j) ft (sI A 250 19 (iN j)) := by
  have h' := h
  obtain ⟨hF, hq, he, hm, hf, hl, hr, ⟨d1, d2, d3, d4, d5⟩, hp⟩ := h'
  exact MR_50 h (by omega) rfl rfl rfl rfl rfl (LoM_cg hl (gI_ne (by omega)) (gI_row (by omega)) (gI_row (by omega)) rfl rfl) (RtM_cg hr (gI_ne (by omega)) (gI_row (by omega))) ⟨(gI_ne (by omega)).trans d1, d2, gI_eq, hj, d5⟩ (PrM_cg hp (gI_ne (by omega)) rfl)
theorem MR_du {j : Nat} (h : MR B sl dat q s ft A) : MR B sl dat q (uDu s j) ft A := h
theorem LoM_cut {lp : List LoT} {j : Nat} (h : LoM A sl lp) (hj : j ≤ lp.length) : LoM (sI A 250 23 (iN j)) sl (lp.take j) := by
  obtain ⟨h0, h6, hr⟩ := h
  refine ⟨?_, by rw [List.length_take]; omega, fun k e hk => ?_⟩
  · rw [gI_eq, List.length_take, Nat.min_eq_left hj]
  · have hk2 : k < j := by
      have := (List.getElem?_eq_some_iff.mp hk).1
      rw [List.length_take] at this; omega
    rw [List.getElem?_take_of_lt hk2] at hk
    obtain ⟨g1, g2, ⟨w, g3, g3'⟩, g4⟩ := hr k e hk
    exact ⟨(gI_ne (Or.inl (by omega))).trans g1, g2, ⟨w, g3, (gI_ne (Or.inl (by omega))).trans g3'⟩, g4⟩
theorem MR_cut {j : Nat} (h : MR B sl dat q s ft A) (hj : j ≤ (rLp s).length) : MR B sl dat q (uLp s ((rLp s).take j)) ft (sI A 250 23 (iN j)) := by
  have h' := h
  obtain ⟨hF, hq, he, hm, hf, hl, hr, hda, hp⟩ := h'
  exact MR_50 h (by omega) rfl rfl rfl rfl rfl (LoM_cut hl hj) (RtM_cg hr (gI_ne (by omega)) (gI_row (by omega))) (DaM_cg hda (gI_ne (by omega)) (gI_ne (by omega)) rfl) (PrM_cg hp (gI_ne (by omega)) rfl)
/-- what adding a loop leaves -/
def loAddM (A : Mem) (n a w : Nat) (y z : UInt64) : Mem := sI (sD (sD (sI (sI A 272 n (iN a)) 273 n (iN w)) 263 n y) 264 n z) 250 23 (iN (n + 1))
theorem MR_add {a here w : Nat} {y y' z z' : UInt64} (h : MR B sl dat q s ft A) (hl6 : (rLp s).length < 6) (ha : a < 26) (hw : sl[here]? = some w) (hy : dz y y') (oy : okd y) (hz : dz z z') (oz : okd z) : MR B sl dat q (uLp s (rLp s ++ [(a, here, y, z)])) ft (loAddM A (rLp s).length a w y' z') := by
  obtain ⟨hF, ⟨q1, q2, q3⟩, ⟨vm, st, he, hv⟩, hm, hf, ⟨l0, l6, l3⟩, hr, hda, hp⟩ := h
  have eI : ∀ o, o ≠ 250 → o ≠ 272 → o ≠ 273 → gI (loAddM A (rLp s).length a w y' z') o = gI A o := fun o h1 h2 h3 => by
    unfold loAddM; rw [gI_row h1, gI_sD, gI_sD, gI_row h3, gI_row h2]
  have e0 : ∀ j, j ≠ 23 → gI (loAddM A (rLp s).length a w y' z') 250 j = gI A 250 j := fun j hj => by
    unfold loAddM; rw [gI_ne (Or.inr hj), gI_sD, gI_sD, gI_ne (by omega), gI_ne (by omega)]
  have eD : ∀ o, o ≠ 263 → o ≠ 264 → gD (loAddM A (rLp s).length a w y' z') o = gD A o := fun o h1 h2 => by
    unfold loAddM; rw [gD_sI, gD_row h2, gD_row h1]; rfl
  refine ⟨MFr_tr hF ⟨rfl, rfl, fun o h1 h2 => eI o h1 (by omega) (by omega), fun j hj => e0 j (by omega), fun o ho => eD o (by omega) (by omega)⟩, ⟨(e0 16 (by omega)).trans q1, (e0 17 (by omega)).trans q2, (e0 26 (by omega)).trans q3⟩, EvR_cg he (by rw [eD 260 (by omega) (by omega), he.2.1.1]; exact hv) ((e0 27 (by omega)).trans he.2.1.2.1) he.2.1.2.2.1 (e0 24 (by omega)) (e0 25 (by omega)) (eD 261 (by omega) (by omega)), MmM_cg (s := s) hm (eI 269 (by omega) (by omega) (by omega)) (eI 270 (by omega) (by omega) (by omega)) (eD 266 (by omega) (by omega)), FbM_cg hf (eI 268 (by omega) (by omega) (by omega)) (eI 255 (by omega) (by omega) (by omega)) (eI 256 (by omega) (by omega) (by omega)) (eI 257 (by omega) (by omega) (by omega)), ⟨?_, ?_, fun k e hk => ?_⟩, RtM_cg hr (e0 22 (by omega)) (eI 271 (by omega) (by omega) (by omega)), DaM_cg hda (e0 20 (by omega)) (e0 19 (by omega)) (eD 262 (by omega) (by omega)), PrM_cg hp (e0 18 (by omega)) (eD 259 (by omega) (by omega))⟩
  · show _ = iN (rLp s ++ [(a, here, y, z)]).length
    unfold loAddM
    rw [gI_eq, List.length_append, List.length_singleton]
  · show (rLp s ++ [(a, here, y, z)]).length ≤ 6
    rw [List.length_append, List.length_singleton]; omega
  · have hk : (rLp s ++ [(a, here, y, z)])[k]? = some e := hk
    unfold loAddM
    rw [gI_ne (Or.inl (by omega)), gI_ne (Or.inl (by omega)), gI_sD, gI_sD, gD_sI]
    by_cases hk2 : k < (rLp s).length
    · rw [List.getElem?_append_left hk2] at hk
      obtain ⟨g1, g2, ⟨w', g3, g3'⟩, g4, g5⟩ := l3 k e hk
      rw [gI_ne (Or.inl (by omega)), gI_ne (Or.inr (by omega)), gI_ne (Or.inr (by omega)), gI_ne (Or.inl (by omega)), gD_ne (Or.inl (by omega)), gD_ne (Or.inr (by omega)), gD_ne (Or.inr (by omega)), gD_ne (Or.inl (by omega))]
      exact ⟨g1, g2, ⟨w', g3, g3'⟩, g4, g5⟩
    · have hk3 := (List.getElem?_eq_some_iff.mp hk).1
      rw [List.length_append, List.length_singleton] at hk3
      have hk4 : k = (rLp s).length := by omega
      subst hk4
      rw [List.getElem?_append_right (Nat.le_refl _), Nat.sub_self] at hk
      have hx : (a, here, y, z) = e := Option.some.inj hk
      subst hx
      rw [gI_ne (Or.inl (by omega)), gI_eq, gI_eq, gD_ne (Or.inl (by omega)), gD_eq, gD_eq]
      exact ⟨rfl, ha, ⟨w, hw, rfl⟩, ⟨hy, oy⟩, hz, oz⟩
/-- GOTO -/
theorem r_goTo {n : Int32} {K : Int32 → Mem → Prop} (hW : MW B) (hs : Psr P) (hP : PMs B P sl) (hn : 0 < n) (h : MR B sl dat q s 0 A) (k : RKt B sl dat q (goS P n s) K) : wp_Mo_goTo 250 n A K := by
  unfold wp_Mo_goTo
  refine ⟨rfl, y_find (MW_M hW h.1) hs (PMs_M hP h.1) hn (fun j hj => ?_) (fun hj => ?_)⟩
  · unfold goS at k
    rw [hj] at k
    have hjl := (fnd_some P n 0 j hj).2.1
    obtain ⟨c, c1, c2, c3, c4⟩ := slI_lt (PMs_M hP h.1) (show j < P.length by omega)
    refine ⟨fun _ => k _ A (MR_du h) (fun _ => rfl), fun q => absurd ?_ q⟩
    rw [c2]
    show iN 0 ≤ iN c
    rw [iN_le (by omega) (by omega)]
    omega
  · unfold goS at k
    rw [hj] at k
    exact ⟨fun q => absurd q (by decide), fun _ => k _ _ (MR_fail (f := 3) h (by omega)) (fun q => absurd (show (3 : Nat) = 0 from q) (by decide))⟩
/-- an expression of a slot -/
def exB (B : Mem) (w i : Nat) (e : List SOp) : Prop := ∃ p, gI B 256 (w * 4 + i) = iN p ∧ CdM B p e
theorem sl_ex {w i : Nat} {κ : List Int32} {ex : Nat → Int32} {e : List SOp} (h5 : ∀ i, i < 4 → gI B 256 (w * 4 + i) = ex i + iN (w * 160)) (hk : κ.length ≤ 150) (hl : lsI (fun j => gI B 257 (w * 160 + j)) κ) (hw : w < 24) (hi : i < 4) (hc : cdAt κ (ex i) e) : exB B w i e := by
  obtain ⟨k, k1, k2, t, ht⟩ := hc
  have hlen : (enc e ++ [14]).length ≤ κ.length - k := by
    have := congrArg List.length ht
    rw [List.length_append, List.length_drop] at this
    omega
  rw [List.length_append, List.length_singleton] at hlen
  refine ⟨k + w * 160, by rw [h5 i hi, k2, iN_add], by omega, fun j x hx => ?_⟩
  have hjl := (List.getElem?_eq_some_iff.mp hx).1
  have h9 : κ[k + j]? = some x := by
    rw [← List.getElem?_drop, ← ht, List.getElem?_append_left hjl]; exact hx
  have := hl (k + j) x h9
  show gI B 257 (k + w * 160 + j) = x
  rw [show k + w * 160 + j = w * 160 + (k + j) by omega]
  exact this
theorem CdM_M {p : Nat} {e : List SOp} (h : MFr B A) (hC : CdM B p e) : CdM A p e := by
  unfold CdM
  rw [h.2.2.1 257 (by omega) (by omega)]
  exact hC
theorem r_evx {w i : Nat} {e : List SOp} {K : UInt64 → Mem → Prop} (hW : MW B) (h : MR B sl dat q s 0 A) (hE : exB B w i e) (hG : GdE e) (hP : PGd e) (k1 : ∀ v v' A', evS s e = .ok v → dz v v' → okd v → MR B sl dat q s 0 A' → K v' A') (k2 : ∀ f A', evS s e = .error f → f ≠ 0 → MR B sl dat q s f A' → K FP.dconst0 A') : wp_Mo_work 250 (gI A 256 (w * 4 + i)) A K := by
  obtain ⟨p, p1, p2⟩ := hE
  rw [h.1.2.2.1 256 (by omega) (by omega), p1]
  exact r_ev hW h (CdM_M h.1 p2) hG hP k1 k2
theorem r_over {v v' l l' z z' : UInt64} {K : Bool → Mem → Prop} (h1 : dz v v') (o1 : okd v) (h2 : dz l l') (o2 : okd l) (h3 : dz z z') (o3 : okd z) (k : K (ovS v l z) A) : wp_Mo_over 250 v' l' z' A K := by
  have o1' := dz_okd h1 o1
  have o2' := dz_okd h2 o2
  have o3' := dz_okd h3 o3
  unfold wp_Mo_over
  rw [← dz_cmp o3 okd_0 h3 (dz_rfl _), ← dz_cmp o1 o2 h1 h2]
  exact c_over o1 o2 o3 k
theorem r_holds {b : Nat} {x x' y y' : UInt64} {K : Bool → Mem → Prop} (hb : b ≤ 5) (h1 : dz x x') (o1 : okd x) (h2 : dz y y') (o2 : okd y) (k : K (hoS b x y) A) : wp_Mo_holds 250 (iN b) x' y' A K := by
  unfold wp_Mo_holds
  rw [← dz_cmp o1 o2 h1 h2]
  have nx := okd_nn o1
  have ny := okd_nn o2
  rw [propext (fk_eq nx ny), propext (fk_nn nx ny), propext (fk_np nx ny), propext (fk_pos nx ny), propext (fk_neg nx ny)]
  unfold hoS at k
  rcases (by omega : b = 0 ∨ b = 1 ∨ b = 2 ∨ b = 3 ∨ b = 4 ∨ b = 5) with e | e | e | e | e | e <;> subst e
  · rw [if_pos rfl] at k
    refine ⟨fun _ => ⟨fun g => ?_, fun g => ?_⟩, fun q => absurd q (by decide), fun q => absurd q (by decide), fun q => absurd q (by decide), fun q => absurd q (by decide), fun q => absurd rfl q⟩
    · rw [decide_eq_false g] at k; exact k
    · rw [decide_eq_true g] at k; exact k
  · rw [if_neg (by decide), if_pos rfl] at k
    refine ⟨fun q => absurd q (by decide), fun _ => ⟨fun g => ?_, fun g => ?_⟩, fun q => absurd q (by decide), fun q => absurd q (by decide), fun q => absurd q (by decide), fun _ q => absurd rfl q⟩
    · rw [decide_eq_false (by omega)] at k; exact k
    · rw [decide_eq_true (by omega)] at k; exact k
  · rw [if_neg (by decide), if_neg (by decide), if_pos rfl] at k
    refine ⟨fun q => absurd q (by decide), fun q => absurd q (by decide), fun _ => ⟨fun g => ?_, fun g => ?_⟩, fun q => absurd q (by decide), fun q => absurd q (by decide), fun _ _ q => absurd rfl q⟩
    · rw [decide_eq_false (by omega)] at k; exact k
    · rw [decide_eq_true (by omega)] at k; exact k
  · rw [if_neg (by decide), if_neg (by decide), if_neg (by decide), if_pos rfl] at k
    refine ⟨fun q => absurd q (by decide), fun q => absurd q (by decide), fun q => absurd q (by decide), fun _ => ⟨fun g => ?_, fun g => ?_⟩, fun q => absurd q (by decide), fun _ _ _ q => absurd rfl q⟩
    · rw [decide_eq_false (by omega)] at k; exact k
    · rw [decide_eq_true (by omega)] at k; exact k
  · rw [if_neg (by decide), if_neg (by decide), if_neg (by decide), if_neg (by decide), if_pos rfl] at k
    refine ⟨fun q => absurd q (by decide), fun q => absurd q (by decide), fun q => absurd q (by decide), fun q => absurd q (by decide), fun _ => ⟨fun g => ?_, fun g => ?_⟩, fun _ _ _ _ q => absurd rfl q⟩
    · rw [decide_eq_false (by omega)] at k; exact k
    · rw [decide_eq_true (by omega)] at k; exact k
  · rw [if_neg (by decide), if_neg (by decide), if_neg (by decide), if_neg (by decide), if_neg (by decide)] at k
    refine ⟨fun q => absurd q (by decide), fun q => absurd q (by decide), fun q => absurd q (by decide), fun q => absurd q (by decide), fun q => absurd q (by decide), fun _ _ _ _ _ => ⟨fun g => ?_, fun g => ?_⟩⟩
    · rw [decide_eq_false (by omega)] at k; exact k
    · rw [decide_eq_true (by omega)] at k; exact k
end RM2
