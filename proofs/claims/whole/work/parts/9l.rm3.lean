section RM3
variable {B A : Mem} {dat : List UInt64} {q : Nat → Int32} {s : RS} {ft : Nat} {P : PT} {sl : List Nat} {w : Nat} {d : LDT}
def TgX (d : LDT) (x3 x4 : Int32) (p : Nat) : Prop := (∃ i, i < 26 ∧ d.2.1 = iN i ∧ x3 = iN i) ∨ ∃ m, m < 3 ∧ p < 36 ∧ d.2.1 = iN (26 + m) ∧ (d.1 = 0 ∨ d.1 = 9) ∧ x3 = iN (26 + m) ∧ x4 = iN (m * 36 + p)
theorem MRg {j : Nat} (hW : MW B) (h : MR B sl dat q s ft A) (hj : (8 ≤ j ∧ j ≤ 15) ∨ (28 ≤ j ∧ j ≤ 44)) : gR A 250 j = (if j ≤ 15 then 243 + j else 231 + j) := by
  obtain ⟨h1, h2⟩ := MW_M hW h.1
  rcases hj with hj | hj
  · rw [if_pos hj.2]; exact h1 j hj.1 hj.2
  · rw [if_neg (by omega)]; exact h2 j hj.1 hj.2
theorem r_155 {K : Mem → Prop} {x x' : UInt64} {x3 x4 : Int32} {p : Nat} (hW : MW B) (h : MR B sl dat q s 0 A) (hd : dz x x') (ho : okd x) (hT : TgX d x3 x4 p) (k : ∀ A', MR B sl dat q (stS s d p x) 0 A' → K A') : wp_Mo_assign_c155 K 250 x3 x4 x' A := by
  unfold wp_Mo_assign_c155
  rw [MR_0 h, MRg hW h (j := 29) (by omega), MRg hW h (j := 35) (by omega)]
  unfold stS at k
  refine ⟨rfl, fun _ => ⟨fun hle => ?_, fun hgt => ?_⟩, fun q => absurd rfl q⟩
  · rcases hT with ⟨i, hi, ea, e3⟩ | ⟨m, hm, hp, ea, hk, e3, e4⟩
    · rw [isEl_va hi ea, if_neg (by decide), ea, iN_cl (show i < 2147483648 by omega)] at k
      rw [e3, iN_cl (show i < 2147483648 by omega)]
      exact ⟨rfl, iN_in (m := 26) hi (by omega), k _ (MR_va h hd ho)⟩
    · rw [e3, show (25 : Int32) = iN 25 from rfl, iN_le (by omega) (by omega)] at hle
      omega
  · rcases hT with ⟨i, hi, ea, e3⟩ | ⟨m, hm, hp, ea, hk, e3, e4⟩
    · rw [e3, show (25 : Int32) = iN 25 from rfl, iN_le (by omega) (by omega)] at hgt
      omega
    · rw [isEl_el hm ea hk, if_pos rfl, ea, iN_cl (show 26 + m < 2147483648 by omega), Nat.add_sub_cancel_left] at k
      rw [e4, iN_cl (show m * 36 + p < 2147483648 by omega)]
      exact ⟨rfl, iN_in (m := 108) (by omega) (by omega), k _ (MR_me h hd ho hm hp)⟩
theorem r_155F {K : Mem → Prop} {x' : UInt64} {x3 x4 : Int32} (h : MR B sl dat q s ft A) (f0 : ft ≠ 0) (k : K A) : wp_Mo_assign_c155 K 250 x3 x4 x' A :=
  ⟨rfl, fun q => absurd q (MR_n h f0), fun _ => k⟩
theorem r_81L {K : Mem → Prop} {x3 x4 : Int32} {p : Nat} {e : List SOp} (hW : MW B) (hw : w < 24) (h : MR B sl dat q s 0 A) (hT : TgX d x3 x4 p) (hE : exB B w 2 e) (hG : GdE e) (hP : PGd e)
    (k : ∀ r, r = bnE (evS s e) s (fun v => (stS s d p v, 0)) → ∀ A', MR B sl dat q r.1 r.2 A' → K A') : wp_Mo_assign_c81 K 250 (iN w) 0 x3 x4 A := by
  unfold wp_Mo_assign_c81
  rw [MR_0 h, MRg hW h (j := 13) (by omega), show (4 : Int32) = iN 4 from rfl, iN_mul, show (2 : Int32) = iN 2 from rfl, iN_add, iN_cl (show w * 4 + 2 < 2147483648 by omega)]
  refine ⟨rfl, fun _ => ⟨fun q => absurd rfl q, fun _ => ⟨rfl, iN_in (m := 100) (by omega) (by omega), r_evx hW h hE hG hP (fun v v' A' hv hd ho h' => ?_) (fun f A' hf f0 h' => ?_)⟩⟩, fun q => absurd rfl q⟩
  · exact r_155 hW h' hd ho hT (fun A'' h'' => k _ (bnE_ok hv).symm A'' h'')
  · exact r_155F h' f0 (k _ (bnE_er hf).symm A' h')
theorem stS_uRd {n p : Nat} {v : UInt64} : stS (uRd s n) d p v = uRd (stS s d p v) n := by
  unfold stS
  split <;> rfl
theorem r_81R {K : Mem → Prop} {x3 x4 : Int32} {p : Nat} (hW : MW B) (h : MR B sl dat q s 0 A) (hT : TgX d x3 x4 p)
    (k : ∀ r, r = (if rRd s < dat.length then (uRd (stS s d p (dat.getD (rRd s) 0)) (rRd s + 1), 0) else (s, 3)) → ∀ A', MR B sl dat q r.1 r.2 A' → K A') : wp_Mo_assign_c81 K 250 (iN w) 1 x3 x4 A := by
  have h' := h
  obtain ⟨-, -, -, -, -, -, -, ⟨d1, d2, d3, d4, d5⟩, -⟩ := h'
  unfold wp_Mo_assign_c81
  rw [MR_0 h, MRg hW h (j := 31) (by omega), d1, d3, iN_eq (by omega) (by omega), iN_cl (show rRd s < 2147483648 by omega), iN_1]
  refine ⟨rfl, fun _ => ⟨fun _ => ⟨fun hne => ⟨rfl, iN_in (m := 144) (by omega) (by omega), ?_⟩, fun he => ?_⟩, fun q => absurd q (by decide)⟩, fun q => absurd rfl q⟩
  · rw [if_pos (show rRd s < dat.length by omega)] at k
    have hx : dat[rRd s]? = some (dat.getD (rRd s) 0) := by
      rw [List.getD_eq_getElem?_getD, List.getElem?_eq_getElem (by omega)]; rfl
    obtain ⟨x1, x2⟩ := d5 _ _ hx
    refine r_155 hW (MR_rd h (show rRd s + 1 ≤ dat.length by omega)) x1 x2 hT (fun A' h' => ?_)
    rw [stS_uRd] at h'
    exact k _ rfl A' h'
  · rw [if_neg (show ¬ rRd s < dat.length by omega)] at k
    have h3 := MR_fail (f := 3) h (by omega)
    exact r_155F h3 (by decide) (k _ rfl _ h3)
theorem r_81F {K : Mem → Prop} {fl x3 x4 : Int32} (h : MR B sl dat q s ft A) (f0 : ft ≠ 0) (k : K A) : wp_Mo_assign_c81 K 250 (iN w) fl x3 x4 A :=
  ⟨rfl, fun q => absurd q (MR_n h f0), fun _ => k⟩
theorem r_assign {K : Mem → Prop} {fl : Int32} {F : Nat → RS × Nat} {r : List (List SOp)} (hW : MW B) (hw : w < 24) (hk : d.1 = 0 ∨ d.1 = 9) (ha : gI B 255 (w * 8) = d.2.1) (hT : TgK d.2.1 d.2.2.2.2.1 r) (hE : ∀ m e f, d.2.1 = iN (26 + m) → m < 3 → d.2.2.2.2.1 = e :: f :: r → exB B w 0 e ∧ exB B w 1 f) (hG : ∀ e, e ∈ d.2.2.2.2.1 → GdE e ∧ PGd e) (h : MR B sl dat q s 0 A)
    (hc : ∀ p x3 x4 A, MR B sl dat q s 0 A → TgX d x3 x4 p → (∀ A', MR B sl dat q (F p).1 (F p).2 A' → K A') → wp_Mo_assign_c81 K 250 (iN w) fl x3 x4 A)
    (k : ∀ r, r = bnE (tgV s d) s F → ∀ A', MR B sl dat q r.1 r.2 A' → K A') : wp_Mo_assign 250 (iN w) fl A K := by
  have eI : ∀ {A' : Mem} {f : Nat}, MR B sl dat q s f A' → gI A' 255 = gI B 255 := fun h' => h'.1.2.2.1 255 (by omega) (by omega)
  unfold wp_Mo_assign
  rw [MRg hW h (j := 12) (by omega), MRg hW h (j := 13) (by omega), show (8 : Int32) = iN 8 from rfl, show (4 : Int32) = iN 4 from rfl, iN_mul, iN_mul, iN_cl (show w * 8 < 2147483648 by omega), iN_cl (show w * 4 < 2147483648 by omega), show gI A (if 12 ≤ 15 then 243 + 12 else 231 + 12) (w * 8) = d.2.1 from (congrFun (eI h) _).trans ha]
  refine ⟨rfl, rfl, iN_in (m := 200) (by omega) (by omega), fun hle => ?_, fun hgt => ⟨rfl, iN_in (m := 100) (by omega) (by omega), ?_⟩⟩
  · rcases hT with ⟨i, hi, ea, er⟩ | ⟨m, e0, e1, hm, ea, er⟩
    · refine hc 0 _ _ A h (Or.inl ⟨i, hi, ea, ea⟩) (fun A' h' => k _ ?_ A' h')
      rw [tgV_va (isEl_va hi ea)]; rfl
    · rw [ea, show (25 : Int32) = iN 25 from rfl, iN_le (by omega) (by omega)] at hle
      omega
  · rcases hT with ⟨i, hi, ea, er⟩ | ⟨m, e0, e1, hm, ea, er⟩
    · rw [ea, show (25 : Int32) = iN 25 from rfl, iN_le (by omega) (by omega)] at hgt
      omega
    · obtain ⟨hE0, hE1⟩ := hE m e0 e1 ea hm er
      obtain ⟨g0, p0⟩ := hG e0 (by rw [er]; simp)
      obtain ⟨g1, p1⟩ := hG e1 (by rw [er]; simp)
      rw [tgV_el (isEl_el hm ea hk) hm ea, show eX d 0 = e0 from by unfold eX; rw [er]; rfl, show eX d 1 = e1 from by unfold eX; rw [er]; rfl] at k
      refine r_evx (i := 0) hW h hE0 g0 p0 (fun x x' A1 hx hdx hox h1 => ?_) (fun f A1 hf f0 h1 => ?_)
      · rw [hx] at k
        rw [MR_0 h1, MRg hW h1 (j := 13) (by omega), show (1 : Int32) = iN 1 from rfl, iN_add, iN_cl (show w * 4 + 1 < 2147483648 by omega)]
        refine ⟨fun q => absurd rfl q, fun _ => ⟨rfl, iN_in (m := 100) (by omega) (by omega), r_evx (i := 1) hW h1 hE1 g1 p1 (fun y y' A2 hy hdy hoy h2 => ?_) (fun f A2 hf f0 h2 => ?_)⟩⟩
        · unfold wp_Mo_assign_c58
          rw [MR_0 h2, ea, show (26 : Int32) = iN 26 from rfl, iN_sub (by omega), Nat.add_sub_cancel_left]
          refine ⟨rfl, fun q => absurd rfl q, fun _ => ?_⟩
          have h2' := h2
          obtain ⟨hF2, -, ⟨vm, st, he, hv⟩, hmm, -⟩ := h2'
          obtain ⟨m1, m2, m3, m4, -⟩ := hmm m hm
          refine m_placeOf (MW_M hW hF2) (EvM_re he) hm m1 m2 m3 m4 ?_
          rw [← dz_d2l hdx, ← dz_d2l hdy]
          rw [hy] at k
          have k : ∀ r, r = bnE (match plM (rMr s m) (rMc s m) (FP.d2l x) (FP.d2l y) with
            | some p => (Except.ok p : Except Nat Nat)
            | none => .error 5) s F → ∀ A', MR B sl dat q r.1 r.2 A' → K A' := k
          cases hp : plM (rMr s m) (rMc s m) (FP.d2l x) (FP.d2l y) with
          | none =>
            rw [hp] at k
            have h3 := MR_fail (f := 5) h2 (by omega)
            exact r_81F h3 (by decide) (k _ rfl _ h3)
          | some p =>
            rw [hp] at k
            exact hc p _ _ A2 h2 (Or.inr ⟨m, hm, plM_lt m3 m4 hp, ea, hk, rfl, rfl⟩) (fun A' h' => k _ rfl A' h')
        · unfold wp_Mo_assign_c58
          rw [hf] at k
          exact ⟨rfl, fun _ => r_81F h2 f0 (k _ rfl A2 h2), fun q => absurd q (MR_n h2 f0)⟩
      · rw [hf] at k
        refine ⟨fun _ => ?_, fun q => absurd q (MR_n h1 f0)⟩
        unfold wp_Mo_assign_c58
        exact ⟨rfl, fun _ => r_81F h1 f0 (k _ rfl A1 h1), fun q => absurd q (MR_n h1 f0)⟩
/-- the loop of a variable -/
theorem r_loopFor {a : Nat} {lp : List LoT} {K : Int32 → Mem → Prop} (hW : MW A) (h : LoM A sl lp) (ha : a < 26) (k : K (match lfi lp a 0 with | some j => iN j | none => -1) A) : wp_Mo_loopFor 250 (iN a) A K := by
  obtain ⟨h0, h6, hr⟩ := h
  have e41 : gR A 250 41 = 272 := hW.2 41 (by omega) (by omega)
  have go : ∀ (j i fu : Nat), i + j = lp.length → j < fu → K (match lfi (lp.drop i) a i with | some j => iN j | none => -1) A → wp_Mo_loopFor_c2 K fu 250 (iN a) (iN i) A := by
    intro j
    induction j with
    | zero =>
      intro i fu hi hfu k
      obtain ⟨fu, rfl⟩ : ∃ g, fu = g + 1 := ⟨fu - 1, by omega⟩
      rw [List.drop_eq_nil_of_le (by omega)] at k
      unfold wp_Mo_loopFor_c2
      rw [h0, iN_le (by omega) (by omega)]
      exact ⟨rfl, fun _ => k, fun q => by omega⟩
    | succ j ih =>
      intro i fu hi hfu k
      obtain ⟨fu, rfl⟩ : ∃ g, fu = g + 1 := ⟨fu - 1, by omega⟩
      have hi2 : i < lp.length := by omega
      rw [List.drop_eq_getElem_cons hi2] at k
      have hh := hr i _ (List.getElem?_eq_getElem hi2)
      unfold lfi at k
      unfold wp_Mo_loopFor_c2
      rw [h0, e41, iN_le (by omega) (by omega), iN_cl (a := i) (by omega), hh.1, iN_1, iN_eq (by omega) (by omega)]
      refine ⟨rfl, fun q => by omega, fun _ => ⟨rfl, iN_in (m := 6) (by omega) (by omega), fun q => ?_, fun q => ?_⟩⟩
      · rw [if_neg q] at k
        exact ih (i + 1) fu (by omega) (by omega) k
      · rw [if_pos q] at k
        exact k
  exact ⟨lp.length + 1, go lp.length 0 _ (by omega) (by omega) (by simpa using k)⟩
/-- what stands in the row of place i -/
theorem PMs_at (hP : PMs B P sl) {i : Nat} {v : Int32} {d : LDT} (hi : P[i]? = some (v, d)) : ∃ w, sl[i]? = some w ∧ w < 24 ∧ gI B 253 w = v ∧ MSlot B w d := by
  obtain ⟨p1, p2, p3, p4, p5⟩ := hP
  have hl := (List.getElem?_eq_some_iff.mp hi).1
  have hs : i < sl.length := by omega
  obtain ⟨g1, g2⟩ := p5 i sl[i] v d (List.getElem?_eq_getElem hs) hi
  exact ⟨sl[i], List.getElem?_eq_getElem hs, p3 _ (List.getElem_mem hs), g1, g2⟩
/-- seeking the NEXT of a loop that isn't run -/
theorem r_skip {a here : Nat} {K : Int32 → Mem → Prop} {bh : Int32} (hW : MW B) (hs : Psr P) (hP : PMs B P sl) (hl24 : P.length ≤ 24) (hL : PLd P) (hh : here < P.length) (ha : a < 26) (h : MR B sl dat q s 0 A)
    (k1 : ∀ j, nxS P (iN a) (P.length - (here + 1)) (here + 1) = some j → K (slI sl (j + 1)) A) (k2 : nxS P (iN a) (P.length - (here + 1)) (here + 1) = none → K bh (sI A 250 27 2)) : ∃ n9 : Nat, wp_Mo_doFor_c142 K n9 250 bh (iN a) (slI sl (here + 1)) A := by
  have hWA := MW_M hW h.1
  have hPA := PMs_M hP h.1
  have e10 : gR A 250 10 = 253 := hWA.1 10 (by omega) (by omega)
  have e11 : gR A 250 11 = 254 := hWA.1 11 (by omega) (by omega)
  have e12 : gR A 250 12 = 255 := hWA.1 12 (by omega) (by omega)
  have go : ∀ (n i fu : Nat), i + n = P.length → n < fu → (∀ j, nxS P (iN a) n i = some j → K (slI sl (j + 1)) A) → (nxS P (iN a) n i = none → K bh (sI A 250 27 2)) → wp_Mo_doFor_c142 K fu 250 bh (iN a) (slI sl i) A := by
    intro n
    induction n with
    | zero =>
      intro i fu hi hfu k1 k2
      obtain ⟨fu, rfl⟩ : ∃ g, fu = g + 1 := ⟨fu - 1, by omega⟩
      rw [slI_ge hPA (by omega)]
      exact ⟨fun _ => ⟨rfl, k2 rfl⟩, fun q => absurd (by decide) q⟩
    | succ n ih =>
      intro i fu hi hfu k1 k2
      obtain ⟨fu, rfl⟩ : ∃ g, fu = g + 1 := ⟨fu - 1, by omega⟩
      have hi2 : i < P.length := by omega
      have hg : P[i]? = some ((P[i]).1, (P[i]).2) := List.getElem?_eq_getElem hi2
      obtain ⟨c, c1, c2, c3, c4⟩ := PMs_at hPA hg
      obtain ⟨m1, κ, ag, ex, m2, m3, -⟩ := c4
      have hk17 : (P[i]).2.1 < 17 := (hL _ _ (List.getElem_mem hi2)).2
      have st : nxS P (iN a) (n + 1) i = if (P[i]).2.1 = 8 ∧ (P[i]).2.2.1 = iN a then some i else nxS P (iN a) n (i + 1) := by
        rw [nxS, hg]
      rw [st] at k1 k2
      rw [show slI sl i = iN c from by unfold slI; rw [c1]]
      unfold wp_Mo_doFor_c142
      rw [e10, e11, e12, show (8 : Int32) = iN 8 from rfl, iN_mul, iN_cl (show c < 2147483648 by omega), iN_cl (show c * 8 < 2147483648 by omega), m1, iN_eq (by omega) (by omega), show (0 : Int32) = iN 0 from rfl, iN_lt (by omega) (by omega)]
      refine ⟨fun q => by omega, fun _ => ⟨rfl, rfl, iN_in (m := 25) (by omega) (by omega), fun hn => ?_, fun he => ⟨rfl, iN_in (m := 200) (by omega) (by omega), fun hn => ?_, fun he2 => ?_⟩⟩⟩
      · rw [if_neg (by omega)] at k1 k2
        exact ⟨rfl, iN_in (m := 25) (by omega) (by omega), y_nextS hWA hs hPA hl24 hi2 c1 (ih (i + 1) fu (by omega) (by omega) k1 k2)⟩
      · have e8 : gI A 255 (c * 8) = (P[i]).2.2.1 := by
          unfold MLd at m2
          rw [he] at m2
          exact (m3 0 (by omega)).trans m2
        rw [e8] at hn
        rw [if_neg (fun q => hn q.2)] at k1 k2
        exact ⟨rfl, iN_in (m := 25) (by omega) (by omega), y_nextS hWA hs hPA hl24 hi2 c1 (ih (i + 1) fu (by omega) (by omega) k1 k2)⟩
      · have e8 : gI A 255 (c * 8) = (P[i]).2.2.1 := by
          unfold MLd at m2
          rw [he] at m2
          exact (m3 0 (by omega)).trans m2
        rw [e8] at he2
        rw [if_pos ⟨he, he2⟩] at k1
        exact ⟨rfl, iN_in (m := 25) (by omega) (by omega), y_nextS hWA hs hPA hl24 hi2 c1 (k1 i rfl)⟩
  exact ⟨P.length + 1, go (P.length - (here + 1)) (here + 1) _ (by omega) (by omega) k1 k2⟩
theorem r_f118 {a here : Nat} {x x' y y' z z' : UInt64} {K : Int32 → Mem → Prop} (hW : MW B) (hs : Psr P) (hP : PMs B P sl) (hl24 : P.length ≤ 24) (hL : PLd P) (hh : here < P.length) (hw : sl[here]? = some w) (hw24 : w < 24) (ha : a < 26) (lp : List LoT) (h : MR B sl dat q (uLp s lp) 0 A) (hc : cuL (rLp s) a = lp) (hdu : rDu s = here + 1) (hx : dz x x') (ox : okd x) (hy : dz y y') (oy : okd y) (hz : dz z z') (oz : okd z)
    (k : RKt B sl dat q (foS P here s a x y z) K) : wp_Mo_doFor_c118 K 250 (iN w) (slI sl (here + 1)) (iN a) x' y' z' A := by
  have h2 := MR_va (i := a) h hx ox
  unfold foS at k
  rw [hc] at k
  unfold wp_Mo_doFor_c118
  rw [show gR A 250 29 = 260 from MRg hW h (j := 29) (by omega), iN_cl (show a < 2147483648 by omega)]
  refine ⟨rfl, rfl, iN_in (m := 26) ha (by omega), r_over hx ox hy oy hz oz ?_⟩
  cases ho : ovS x y z with
  | true =>
    rw [if_pos ho] at k
    refine ⟨fun q => (by cases q), fun _ => r_skip hW hs hP hl24 hL hh ha h2 (fun j hj => ?_) (fun hj => ?_)⟩
    · rw [hj] at k
      exact k _ _ h2 (fun _ => rfl)
    · rw [hj] at k
      exact k _ _ (MR_fail (f := 2) h2 (by omega)) (fun q => absurd (show (2 : Nat) = 0 from q) (by decide))
  | false =>
    rw [ho, if_neg (by decide)] at k
    have h2' := h2
    obtain ⟨-, -, -, -, -, ⟨l0, l6, l3⟩, -⟩ := h2'
    have l0 : gI (sD A 260 a x') 250 23 = iN lp.length := l0
    have l6 : lp.length ≤ 6 := l6
    refine ⟨fun _ => ?_, fun q => (by cases q)⟩
    have g41 : gR (sD A 260 a x') 250 41 = 272 := MRg hW h2 (j := 41) (by omega)
    have g42 : gR (sD A 260 a x') 250 42 = 273 := MRg hW h2 (j := 42) (by omega)
    have g32 : gR (sD A 260 a x') 250 32 = 263 := MRg hW h2 (j := 32) (by omega)
    have g33 : gR (sD A 260 a x') 250 33 = 264 := MRg hW h2 (j := 33) (by omega)
    show ((¬ gI (sD A 260 a x') 250 23 = 6 → kd (gR (sD A 260 a x') 250 41) = 51 ∧ _) ∧ _)
    rw [l0, g41, show (6 : Int32) = iN 6 from rfl, iN_eq (by omega) (by omega), iN_cl (show lp.length < 2147483648 by omega)]
    refine ⟨fun hne => ⟨rfl, iN_in (m := 6) (by omega) (by omega), ?_⟩, fun he => ?_⟩
    · rw [if_pos (show lp.length < 6 by omega)] at k
      rw [show gR (sI (sD A 260 a x') 272 lp.length (iN a)) 250 42 = 273 from g42, show gI (sI (sD A 260 a x') 272 lp.length (iN a)) 250 23 = iN lp.length from (gI_ne (by omega)).trans l0, iN_cl (show lp.length < 2147483648 by omega)]
      refine ⟨rfl, iN_in (m := 6) (by omega) (by omega), fun A33 e33 => ?_⟩
      have r0 : gI A33 250 23 = iN lp.length := by rw [e33, gI_ne (by omega), gI_ne (by omega)]; exact l0
      have rR : gR A33 = gR (sD A 260 a x') := by rw [e33]; rfl
      rw [rR, g32, r0, iN_cl (show lp.length < 2147483648 by omega)]
      rw [show gR (sD A33 263 lp.length y') 250 33 = 264 from (congrFun (congrFun rR 250) 33).trans g33, show gI (sD A33 263 lp.length y') 250 23 = iN lp.length from r0, iN_cl (show lp.length < 2147483648 by omega)]
      refine ⟨rfl, iN_in (m := 6) (by omega) (by omega), rfl, iN_in (m := 6) (by omega) (by omega), fun A38 e38 => ?_⟩
      rw [show gI A38 250 23 = iN lp.length by rw [e38]; exact r0, iN_1, e38, e33]
      exact k _ _ (MR_add h2 (show lp.length < 6 by omega) ha hw hy oy hz oz) (fun _ => by rw [← hdu]; rfl)
    · rw [if_neg (show ¬ lp.length < 6 by omega)] at k
      exact k _ _ (MR_fail (f := 2) h2 (by omega)) (fun q => absurd (show (2 : Nat) = 0 from q) (by decide))
theorem r_f92 {a here : Nat} {x x' y y' z z' : UInt64} {K : Int32 → Mem → Prop} (hW : MW B) (hs : Psr P) (hP : PMs B P sl) (hl24 : P.length ≤ 24) (hL : PLd P) (hh : here < P.length) (hw : sl[here]? = some w) (hw24 : w < 24) (ha : a < 26) (h : MR B sl dat q s 0 A) (hdu : rDu s = here + 1) (hx : dz x x') (ox : okd x) (hy : dz y y') (oy : okd y) (hz : dz z z') (oz : okd z)
    (k : RKt B sl dat q (foS P here s a x y z) K) : wp_Mo_doFor_c92 K 250 (iN w) (slI sl (here + 1)) (iN a) x' y' z' A := by
  unfold wp_Mo_doFor_c92
  rw [MR_0 h]
  have hLo := h.2.2.2.2.2.1
  refine ⟨rfl, fun _ => r_loopFor (MW_M hW h.1) hLo ha ?_, fun q => absurd rfl q⟩
  obtain ⟨n, n1, n2, n3⟩ := cuL_take (lp := rLp s) (a := a)
  have hl6 := hLo.2.1
  cases hf : lfi (rLp s) a 0 with
  | none =>
    rw [hf] at n3
    have n3 : n = (rLp s).length := n3
    have e : cuL (rLp s) a = rLp s := by rw [n2, n3, List.take_length]
    exact ⟨fun _ => r_f118 hW hs hP hl24 hL hh hw hw24 ha (rLp s) h e hdu hx ox hy oy hz oz k, fun q => absurd (by decide) q⟩
  | some j =>
    rw [hf] at n3
    have n3 : j = n := n3
    subst n3
    refine ⟨fun q => ?_, fun _ => r_loopFor (MW_M hW h.1) hLo ha ?_⟩
    · rw [show (0 : Int32) = iN 0 from rfl, iN_lt (by omega) (by omega)] at q
      omega
    · rw [hf]
      exact r_f118 hW hs hP hl24 hL hh hw hw24 ha _ (MR_cut h n1) n2 hdu hx ox hy oy hz oz k
theorem r_f92F {x1 x2 x3 : Int32} {u v y : UInt64} {K : Int32 → Mem → Prop} (h : MR B sl dat q s ft A) (f0 : ft ≠ 0) (k : K x2 A) : wp_Mo_doFor_c92 K 250 x1 x2 x3 u v y A :=
  ⟨rfl, fun q => absurd q (MR_n h f0), fun _ => k⟩
end RM3
