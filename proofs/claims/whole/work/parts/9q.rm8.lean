def s0V (va : Nat → UInt64) : RS := (va, fun _ => 0, fun _ => 0, fun _ _ => FP.dconst0, fun _ => none, [], [], 0, [], 0)
/-- the reference's memory behind a run -/
def MF (B : Mem) (sl : List Nat) (dat : List UInt64) (r : RS × Nat × Nat × Int32) (th : Int32) (A : Mem) : Prop := ∃ A1 q, MR B sl dat q r.1 r.2.1 A1 ∧ q 16 = iN r.2.2.1 ∧ q 17 = r.2.2.2 ∧ q 26 = (if r.2.1 = 0 then th else th + 1) ∧ gI A1 250 21 = iN (dat.length - rRd r.1) ∧ A = sI A1 250 0 (iN r.2.1)
section RM8
variable {B A : Mem} {dat : List UInt64} {q : Nat → Int32} {s : RS} {ft : Nat} {P : PT} {sl : List Nat} {w here : Nat} {K : Int32 → Mem → Prop}
theorem MR_dat {v v' : UInt64} (h : MR B sl dat q s ft A) (hl : dat.length < 144) (hd : dz v v') (ho : okd v) : MR B sl (dat ++ [v]) q s ft (sI (sD A 262 dat.length v') 250 20 (iN (dat.length + 1))) := by
  obtain ⟨hF, ⟨q1, q2, q3⟩, ⟨vm, st, he, hv⟩, hm, hf, hlo, hr, ⟨d1, d2, d3, d4, d5⟩, hp⟩ := h
  have eD : ∀ o, o ≠ 262 → gD (sI (sD A 262 dat.length v') 250 20 (iN (dat.length + 1))) o = gD A o := fun o ho => gD_row ho
  have eI : ∀ o, o ≠ 250 → gI (sI (sD A 262 dat.length v') 250 20 (iN (dat.length + 1))) o = gI A o := fun o ho => gI_row ho
  have e0 : ∀ j, j ≠ 20 → gI (sI (sD A 262 dat.length v') 250 20 (iN (dat.length + 1))) 250 j = gI A 250 j := fun j hj => gI_ne (Or.inr hj)
  refine ⟨MFr_tr hF ⟨rfl, rfl, fun o h1 _ => eI o h1, fun j hj => e0 j (by omega), fun o ho => eD o (by omega)⟩, ⟨(e0 16 (by omega)).trans q1, (e0 17 (by omega)).trans q2, (e0 26 (by omega)).trans q3⟩, EvR_cg he (by rw [eD 260 (by omega), he.2.1.1]; exact hv) ((e0 27 (by omega)).trans he.2.1.2.1) he.2.1.2.2.1 (e0 24 (by omega)) (e0 25 (by omega)) (eD 261 (by omega)), MmM_cg (s := s) hm (eI 269 (by omega)) (eI 270 (by omega)) (eD 266 (by omega)), FbM_cg hf (eI 268 (by omega)) (eI 255 (by omega)) (eI 256 (by omega)) (eI 257 (by omega)), LoM_cg hlo (e0 23 (by omega)) (eI 272 (by omega)) (eI 273 (by omega)) (eD 263 (by omega)) (eD 264 (by omega)), RtM_cg hr (e0 22 (by omega)) (eI 271 (by omega)), ⟨?_, ?_, (e0 19 (by omega)).trans d3, ?_, fun k x hk => ?_⟩, PrM_cg hp (e0 18 (by omega)) (eD 259 (by omega))⟩
  · rw [gI_eq, List.length_append, List.length_singleton]
  · rw [List.length_append, List.length_singleton]; omega
  · rw [List.length_append, List.length_singleton]; omega
  · show dz x (gD (sD A 262 dat.length v') 262 k) ∧ okd x
    by_cases hk2 : k < dat.length
    · rw [List.getElem?_append_left hk2] at hk
      rw [gD_ne (Or.inr (by omega))]
      exact d5 k x hk
    · have hk3 := (List.getElem?_eq_some_iff.mp hk).1
      rw [List.length_append, List.length_singleton] at hk3
      have hk4 : k = dat.length := by omega
      subst hk4
      rw [List.getElem?_append_right (Nat.le_refl _), Nat.sub_self] at hk
      rw [← show v = x from Option.some.inj hk, gD_eq]
      exact ⟨hd, ho⟩
theorem encC_at : ∀ (cs : List (Int32 × Int32 × Nat)) (i : Nat) (c : Int32 × Int32 × Nat), cs[i]? = some c → (encC cs)[4 * i]? = some c.1 ∧ (encC cs)[4 * i + 2]? = some c.2.1 ∧ (encC cs)[4 * i + 3]? = some (iN c.2.2)
  | [], i, c, h => by simp at h
  | d :: r, 0, c, h => by
    have h : d = c := by simpa using h
    rw [← h]
    exact ⟨rfl, rfl, rfl⟩
  | d :: r, i + 1, c, h => by
    have h : r[i]? = some c := by simpa using h
    have ih := encC_at r i c h
    have e : encC (d :: r) = [d.1, 0, d.2.1, iN d.2.2] ++ encC r := rfl
    rw [e]
    have g : ∀ j, ([d.1, 0, d.2.1, iN d.2.2] ++ encC r)[4 * (i + 1) + j]? = (encC r)[4 * i + j]? := fun j => by
      rw [List.getElem?_append_right (by simp only [List.length_cons, List.length_nil]; omega)]
      congr 1
      simp only [List.length_cons, List.length_nil]; omega
    exact ⟨(g 0).trans ih.1, (g 2).trans ih.2.1, (g 3).trans ih.2.2⟩
theorem con_dz {c : Int32 × Int32 × Nat} {w' : Nat} (hc : c.1 = 0 ∨ c.1 = 1) (e1 : c.2.1 = iN w') (h3 : c.2.2 ≤ 3) (hb : w' * 10 ^ (3 - c.2.2) < 1000000000) : (c.1 ≠ 1 → dz (FP.ddiv (FP.i2d (cCon c)) 4652007308841189376) (FP.ddiv (FP.i2d (th (iN w') c.2.2)) 4652007308841189376)) ∧ (c.1 = 1 → dz (FP.ddiv (FP.i2d (cCon c)) 4652007308841189376) (FP.dneg (FP.ddiv (FP.i2d (th (iN w') c.2.2)) 4652007308841189376))) := by
  unfold cCon
  rw [e1]
  refine ⟨fun hn => ?_, fun he => ?_⟩
  · rw [if_neg hn]; exact dz_rfl _
  · rw [if_pos he]
    refine nm_neg _ ?_
    rw [th_eq w' c.2.2 h3, iN_toInt (by omega)]
    omega
/-- the constants of one line -/
theorem r_c31 {d : LDT} {J : Nat → Int32 → Mem → Prop} {K' : Mem → Prop} (hW : MW B) (hs : Psr P) (hP : PMs B P sl) (hl24 : P.length ≤ 24) (hh : here < P.length) (hsl : sl[here]? = some w) (hw : w < 24) (hM : MSlot B w d) (hok : LDok d) (hd : d.1 = 10) {dat0 : List UInt64} (hl : dat0.length ≤ 138)
    (k : ∀ A', MR B sl (dat0 ++ lnD d) q s 0 A' → J 250 (slI sl (here + 1)) A') : ∀ (n i fu : Nat) (A : Mem) (dat : List UInt64), i + n = d.2.2.2.2.2.length → n < fu → dat.length = dat0.length + i → MR B sl dat q s 0 A → dat ++ (d.2.2.2.2.2.drop i).map (fun c => FP.ddiv (FP.i2d (cCon c)) 4652007308841189376) = dat0 ++ lnD d → wp_Mo_collect_c31 J K' fu 250 (iN w) (iN i) A := by
  have hok2 := hok.2
  rw [hd] at hok2
  obtain ⟨m1, κ, ag, ex, hm, ha, he, hκ, hlκ⟩ := hM
  unfold MLd at hm
  rw [hd] at hm
  obtain ⟨a0, a6, k0, k1, k2, t, ht⟩ := hm
  intro n
  induction n with
  | zero =>
    intro i fu A dat hi hfu hdl h hde
    obtain ⟨fu, rfl⟩ : ∃ g, fu = g + 1 := ⟨fu - 1, by omega⟩
    unfold wp_Mo_collect_c31
    rw [show gR A 250 12 = 255 from MRg hW h (j := 12) (by omega), show gR A 250 10 = 253 from MRg hW h (j := 10) (by omega), show (8 : Int32) = iN 8 from rfl, iN_mul, iN_cl (show w * 8 < 2147483648 by omega), iN_cl (show w < 2147483648 by omega), show gI A 255 (w * 8) = iN d.2.2.2.2.2.length from (congrFun (MRi h).1 _).trans ((ha 0 (by omega)).trans a0), iN_le (by omega) (by omega)]
    rw [List.drop_eq_nil_of_le (by omega), List.map_nil, List.append_nil] at hde
    rw [hde] at h
    exact ⟨rfl, rfl, iN_in (m := 200) (by omega) (by omega), fun _ => ⟨rfl, iN_in (m := 25) (by omega) (by omega), y_nextS (MW_M hW h.1) hs (PMs_M hP h.1) hl24 hh hsl (k A h)⟩, fun q => by omega⟩
  | succ n ih =>
    intro i fu A dat hi hfu hdl h hde
    obtain ⟨fu, rfl⟩ : ∃ g, fu = g + 1 := ⟨fu - 1, by omega⟩
    have hi2 : i < d.2.2.2.2.2.length := by omega
    have hc : d.2.2.2.2.2[i]? = some d.2.2.2.2.2[i] := List.getElem?_eq_getElem hi2
    rw [List.drop_eq_getElem_cons hi2, List.map_cons] at hde
    generalize d.2.2.2.2.2[i] = c at hc hde
    obtain ⟨s1, w', s2, s3, s4⟩ := hok2 c (List.mem_of_getElem? hc)
    obtain ⟨c1, c2, c3⟩ := encC_at _ i c hc
    have at' : ∀ j x, (encC d.2.2.2.2.2)[j]? = some x → k0 + j < 150 ∧ gI A 257 (w * 160 + (k0 + j)) = x := by
      intro j x hx
      have hjl := (List.getElem?_eq_some_iff.mp hx).1
      have h9 : κ[k0 + j]? = some x := by
        rw [← List.getElem?_drop, ← ht, List.getElem?_append_left hjl]; exact hx
      have hjk := (List.getElem?_eq_some_iff.mp h9).1
      refine ⟨by omega, ?_⟩
      rw [h.1.2.2.1 257 (by omega) (by omega)]
      exact hlκ (k0 + j) x h9
    obtain ⟨l1, g1⟩ := at' _ _ c1
    obtain ⟨l2, g2⟩ := at' _ _ c2
    obtain ⟨l3, g3⟩ := at' _ _ c3
    have e256 : gI A 256 (w * 4) = iN (k0 + w * 160) := by
      rw [(MRi h).2.1]
      have := he 0 (by omega)
      rw [k2, iN_add] at this
      exact this
    have h' := h
    obtain ⟨-, -, ⟨vm, st, hev, hv⟩, -, -, -, -, ⟨d1, d2, d3, d4, d5⟩, -⟩ := h'
    have e14 : gR A 250 14 = 257 := MRg hW h (j := 14) (by omega)
    have e31 : gR A 250 31 = 262 := MRg hW h (j := 31) (by omega)
    obtain ⟨z1, z2⟩ := con_dz s1 s2 s3 s4
    unfold wp_Mo_collect_c31
    rw [show gR A 250 12 = 255 from MRg hW h (j := 12) (by omega), show gR A 250 13 = 256 from MRg hW h (j := 13) (by omega), show (8 : Int32) = iN 8 from rfl, iN_mul, iN_cl (show w * 8 < 2147483648 by omega), show gI A 255 (w * 8) = iN d.2.2.2.2.2.length from (congrFun (MRi h).1 _).trans ((ha 0 (by omega)).trans a0), iN_le (by omega) (by omega), show (4 : Int32) = iN 4 from rfl, iN_mul, iN_mul, iN_cl (show w * 4 < 2147483648 by omega), e256, iN_add, show (2 : Int32) = iN 2 from rfl, iN_add]
    refine ⟨rfl, rfl, iN_in (m := 200) (by omega) (by omega), fun q => by omega, fun _ => ⟨rfl, iN_in (m := 100) (by omega) (by omega), ?_⟩⟩
    refine m_plain (v := w') (k := c.2.2) (MW_M hW h.1) (EvM_re hev) (by omega) ?_ ?_ s3 s4 ?_
    · rw [show k0 + w * 160 + 4 * i + 2 = w * 160 + (k0 + (4 * i + 2)) by omega, g2, s2]
    · rw [show k0 + w * 160 + 4 * i + 2 + 1 = w * 160 + (k0 + (4 * i + 3)) by omega, g3]
    · rw [e14, e31, d1, iN_cl (show k0 + w * 160 + 4 * i < 2147483648 by omega), iN_cl (show dat.length < 2147483648 by omega), show k0 + w * 160 + 4 * i = w * 160 + (k0 + 4 * i) by omega, g1, iN_1]
      have hde2 : ∀ x : UInt64, (dat ++ [FP.ddiv (FP.i2d (cCon c)) 4652007308841189376]) ++ (d.2.2.2.2.2.drop (i + 1)).map (fun c => FP.ddiv (FP.i2d (cCon c)) 4652007308841189376) = dat0 ++ lnD d := fun _ => by
        rw [List.append_assoc]; exact hde
      refine ⟨rfl, iN_in (m := 4000) (by omega) (by omega), fun hn => ⟨rfl, iN_in (m := 144) (by omega) (by omega), fun A26 e26 => ?_⟩, fun he1 => ⟨rfl, iN_in (m := 144) (by omega) (by omega), fun A26 e26 => ?_⟩⟩
      · rw [show gI (sD A 262 dat.length (FP.ddiv (FP.i2d (th (iN w') c.2.2)) 4652007308841189376)) 250 20 = iN dat.length from d1, iN_1] at e26
        rw [e26]
        exact ih (i + 1) fu _ _ (by omega) (by omega) (by rw [List.length_append, List.length_singleton]; omega) (MR_dat h (by omega) (z1 hn) (okd_thou _)) (hde2 0)
      · rw [show gI (sD A 262 dat.length (FP.dneg (FP.ddiv (FP.i2d (th (iN w') c.2.2)) 4652007308841189376))) 250 20 = iN dat.length from d1, iN_1] at e26
        rw [e26]
        exact ih (i + 1) fu _ _ (by omega) (by omega) (by rw [List.length_append, List.length_singleton]; omega) (MR_dat h (by omega) (z2 he1) (okd_thou _)) (hde2 0)
theorem datS_tk {i : Nat} (hi : i < P.length) : datS (P.take (i + 1)) = datS (P.take i) ++ lnD (P[i]).2 := by
  rw [datS_eq, datS_eq, List.take_succ, List.getElem?_eq_getElem hi, List.flatMap_append]
  show _ = _
  simp
theorem r_c11 {K' : Mem → Prop} (hW : MW B) (hs : Psr P) (hP : PMs B P sl) (hl24 : P.length ≤ 24) (hL : PLd P) (k : ∀ A', MR B sl (datS P) q s 0 A' → K' A') : ∀ (n i fu : Nat) (A : Mem), i + n = P.length → n < fu → (datS (P.take i)).length ≤ 6 * i → MR B sl (datS (P.take i)) q s 0 A → wp_Mo_collect_c11 K' fu 250 (slI sl i) A := by
  intro n
  induction n with
  | zero =>
    intro i fu A hi hfu hdl h
    obtain ⟨fu, rfl⟩ : ∃ g, fu = g + 1 := ⟨fu - 1, by omega⟩
    rw [slI_ge hP (by omega)]
    rw [List.take_of_length_le (by omega)] at h
    exact ⟨fun _ => k A h, fun q => absurd (by decide) q⟩
  | succ n ih =>
    intro i fu A hi hfu hdl h
    obtain ⟨fu, rfl⟩ : ∃ g, fu = g + 1 := ⟨fu - 1, by omega⟩
    have hi2 : i < P.length := by omega
    have hg : P[i]? = some ((P[i]).1, (P[i]).2) := List.getElem?_eq_getElem hi2
    obtain ⟨c, c1, c2, c3, c4⟩ := PMs_at hP hg
    have hok : LDok (P[i]).2 := (hL _ _ (List.getElem_mem hi2)).1
    have hd17 : (P[i]).2.1 < 17 := (hL _ _ (List.getElem_mem hi2)).2
    have m1 := c4.1
    have e := datS_tk hi2
    rw [show slI sl i = iN c from by unfold slI; rw [c1]]
    unfold wp_Mo_collect_c11
    rw [show gR A 250 10 = 253 from MRg hW h (j := 10) (by omega), show gR A 250 11 = 254 from MRg hW h (j := 11) (by omega), iN_cl (show c < 2147483648 by omega), show gI A 254 c = iN (P[i]).2.1 from (congrFun (MRi h).2.2.2 _).trans m1, show (0 : Int32) = iN 0 from rfl, iN_lt (by omega) (by omega), show (10 : Int32) = iN 10 from rfl, iN_eq (by omega) (by omega)]
    refine ⟨fun q => by omega, fun _ => ⟨rfl, rfl, iN_in (m := 25) (by omega) (by omega), fun h10 => ?_, fun h10 => ⟨rfl, iN_in (m := 25) (by omega) (by omega), ?_⟩⟩⟩
    · have hm6 : (P[i]).2.2.2.2.2.2.length ≤ 6 := by
        obtain ⟨-, κ, ag, ex, hm, -⟩ := c4
        unfold MLd at hm
        rw [h10] at hm
        exact hm.2.1
      have hln : lnD (P[i]).2 = (P[i]).2.2.2.2.2.2.map (fun c => FP.ddiv (FP.i2d (cCon c)) 4652007308841189376) := by unfold lnD; rw [if_pos h10]
      refine ⟨(P[i]).2.2.2.2.2.2.length + 1, r_c31 hW hs hP hl24 hi2 c1 c2 c4 hok h10 (dat0 := datS (P.take i)) (by omega) (fun A' h' => ?_) (P[i]).2.2.2.2.2.2.length 0 _ A _ (by omega) (by omega) rfl h (by rw [hln]; rfl)⟩
      rw [← e] at h'
      refine ih (i + 1) fu A' (by omega) (by omega) ?_ h'
      rw [e, List.length_append, hln, List.length_map]; omega
    · have hln : lnD (P[i]).2 = [] := by unfold lnD; rw [if_neg h10]
      rw [hln, List.append_nil] at e
      refine y_nextS (MW_M hW h.1) hs (PMs_M hP h.1) hl24 hi2 c1 (ih (i + 1) fu A (by omega) (by omega) ?_ ?_)
      · rw [e]; omega
      · rw [e]; exact h
theorem MR_q {k : Nat} {x : Int32} (h : MR B sl dat q s ft A) (hk : k = 16 ∨ k = 17 ∨ k = 21 ∨ k = 26) : MR B sl dat (fun j => if j = k then x else q j) s ft (sI A 250 k x) := by
  obtain ⟨hF, ⟨q1, q2, q3⟩, ⟨vm, st, he, hv⟩, hm, hf, hl, hr, hda, hp⟩ := h
  have eI : ∀ o, o ≠ 250 → gI (sI A 250 k x) o = gI A o := fun o ho => gI_row ho
  have e0 : ∀ j, j ≠ k → gI (sI A 250 k x) 250 j = gI A 250 j := fun j hj => gI_ne (Or.inr hj)
  have qq : ∀ j, gI A 250 j = q j → gI (sI A 250 k x) 250 j = (if j = k then x else q j) := by
    intro j h1
    by_cases hj : j = k
    · rw [if_pos hj, hj, gI_eq]
    · rw [if_neg hj, e0 j hj, h1]
  exact ⟨MFr_tr hF ⟨rfl, rfl, fun o h1 _ => eI o h1, fun j hj => e0 j (by omega), fun _ _ => rfl⟩, ⟨qq 16 q1, qq 17 q2, qq 26 q3⟩, EvR_cg he (by show VrM _ (gD A 260); rw [he.2.1.1]; exact hv) ((e0 27 (by omega)).trans he.2.1.2.1) he.2.1.2.2.1 (e0 24 (by omega)) (e0 25 (by omega)) rfl, MmM_cg (s := s) hm (eI 269 (by omega)) (eI 270 (by omega)) rfl, FbM_cg hf (eI 268 (by omega)) (eI 255 (by omega)) (eI 256 (by omega)) (eI 257 (by omega)), LoM_cg hl (e0 23 (by omega)) (eI 272 (by omega)) (eI 273 (by omega)) rfl rfl, RtM_cg hr (e0 22 (by omega)) (eI 271 (by omega)), DaM_cg hda (e0 20 (by omega)) (e0 19 (by omega)) rfl, PrM_cg hp (e0 18 (by omega)) rfl⟩
theorem r_151 {st : Nat} {la th : Int32} (hW : MW B) (h : MR B sl dat q s ft A) (h16 : q 16 = iN st) (h17 : q 17 = la) (h26 : q 26 = th) (k : ∀ A', MF B sl dat (s, ft, st, la) th A' → K (if ft = 0 then iN st else 0) A') : wp_Mo_run_c151 K 250 A := by
  have h' := h
  obtain ⟨-, ⟨q1, q2, q3⟩, -, -, -, -, -, ⟨d1, d2, d3, d4, -⟩, -⟩ := h'
  unfold wp_Mo_run_c151
  rw [d1, d3, iN_sub d4]
  have h2 := MR_q (k := 21) (x := iN (dat.length - rRd s)) h (by omega)
  have hf := MR_f h2
  refine ⟨rfl, fun hn => ?_, fun h0 => ?_⟩
  · have f0 : ft ≠ 0 := by
      intro e
      rw [hf.1, e] at hn
      exact hn rfl
    intro A19 e19
    have e26 : gI (sI A 250 21 (iN (dat.length - rRd s))) 250 26 = th := by rw [gI_ne (by omega)]; exact q3.trans h26
    rw [e26] at e19
    have h3 := MR_q (k := 26) (x := th + 1) h2 (by omega)
    rw [e19, (MR_f h3).1]
    refine ⟨rfl, ?_⟩
    have k := k (sI (sI (sI A 250 21 (iN (dat.length - rRd s))) 250 26 (th + 1)) 250 0 (iN ft)) ⟨_, _, h3, h16, h17, ?_, ?_, rfl⟩
    · rw [if_neg f0] at k
      exact k
    · show (if (26 : Nat) = 26 then th + 1 else _) = if ft = 0 then th else th + 1
      rw [if_pos rfl, if_neg f0]
    · rw [gI_ne (by omega), gI_eq]
  · have f0 : ft = 0 := by
      rw [hf.1, show (0 : Int32) = iN 0 from rfl, iN_eq (by omega) (by omega)] at h0
      exact h0
    subst f0
    rw [gI_ne (by omega), q1, h16]
    refine ⟨rfl, k _ ⟨_, _, h2, h16, h17, ?_, ?_, rfl⟩⟩
    · show (if (26 : Nat) = 21 then _ else q 26) = if 0 = 0 then th else th + 1
      rw [if_neg (by decide), if_pos rfl]; exact h26
    · rw [gI_eq]
theorem r_93 (hW : MW B) (hs : Psr P) (hP : PMs B P sl) (hl24 : P.length ≤ 24) (hL : PLd P) (hG : PGx P) {th : Int32} : ∀ (n fu st : Nat) (la : Int32) (s : RS) (A : Mem) (q : Nat → Int32), st + n = 300 → n + 3 ≤ fu → MR B sl dat q s 0 A → q 16 = iN st → q 17 = la → q 26 = th → (rPn s).length ≤ st →
    (∀ R, R = rnS P dat n st la s → ∀ A', MF B sl dat R th A' → K (if R.2.1 = 0 then iN R.2.2.1 else 0) A') → wp_Mo_run_c93 K fu 250 (slI sl (rDu s)) A := by
  intro n
  induction n with
  | zero =>
    intro fu st la s A q hst hfu h h16 h17 h26 hpr k
    obtain ⟨fu, rfl⟩ : ∃ g, fu = g + 2 := ⟨fu - 2, by omega⟩
    unfold wp_Mo_run_c93
    by_cases hd : rDu s < P.length
    · have k := k (s, 2, st, la) (by rw [rnS, if_pos hd])
      obtain ⟨c, c1, c2, c3, c4⟩ := slI_lt hP hd
      rw [c2, show (0 : Int32) = iN 0 from rfl, iN_lt (by omega) (by omega)]
      refine ⟨fun q => by omega, fun _ => ⟨rfl, fun q => absurd (MR_0 h) q, fun _ => ⟨fun q => ?_, fun _ => ?_⟩⟩⟩
      · rw [h.2.1.1, h16, show (300 : Int32) = iN 300 from rfl, iN_eq (by omega) (by omega)] at q
        omega
      · have h2 := MR_fail (f := 2) h (by omega)
        unfold wp_Mo_run_c93
        exact ⟨fun _ => r_151 hW h2 h16 h17 h26 k, fun _ => ⟨rfl, fun _ => r_151 hW h2 h16 h17 h26 k, fun q => absurd q (MR_n h2 (by decide))⟩⟩
    · have k := k (s, 0, st, la) (by rw [rnS, if_neg hd])
      rw [slI_ge hP (by omega)]
      exact ⟨fun _ => r_151 hW h h16 h17 h26 k, fun q => absurd (by decide) q⟩
  | succ n ih =>
    intro fu st la s A q hst hfu h h16 h17 h26 hpr k
    obtain ⟨fu, rfl⟩ : ∃ g, fu = g + 1 := ⟨fu - 1, by omega⟩
    unfold wp_Mo_run_c93
    by_cases hd : rDu s < P.length
    · have hg : P[rDu s]? = some ((P[rDu s]).1, (P[rDu s]).2) := List.getElem?_eq_getElem hd
      obtain ⟨c, c1, c3, c4, hM⟩ := PMs_at hP hg
      obtain ⟨hok, hk17⟩ := hL _ _ (List.getElem_mem hd)
      rw [show slI sl (rDu s) = iN c from by unfold slI; rw [c1], show (0 : Int32) = iN 0 from rfl, iN_lt (by omega) (by omega)]
      refine ⟨fun q => by omega, fun _ => ⟨rfl, fun q => absurd (MR_0 h) q, fun _ => ⟨fun q => ?_, fun q => ?_⟩⟩⟩
      · have h1 := MR_q (k := 16) (x := iN (st + 1)) h (by omega)
        have h2 := MR_q (k := 17) (x := (P[rDu s]).1) h1 (by omega)
        rw [h.2.1.1, h16, iN_1, show gR (sI A 250 16 (iN (st + 1))) 250 10 = 253 from (show gR A 250 10 = 253 from MRg hW h (j := 10) (by omega)), iN_cl (show c < 2147483648 by omega)]
        refine ⟨rfl, iN_in (m := 25) (by omega) (by omega), fun A15 e15 => ?_⟩
        rw [show gI (sI A 250 16 (iN (st + 1))) 253 c = (P[rDu s]).1 from by rw [gI_ne (by omega), (MRi h).2.2.1]; exact c4] at e15
        rw [e15]
        have hpr2 : (rPn (sTp P dat (rDu s) (P[rDu s]).2 (uDu s (rDu s + 1))).1).length ≤ st + 1 := by
          refine Nat.le_trans sTp_pr ?_
          show (rPn s).length + 1 ≤ st + 1
          omega
        refine r_step (s := uDu s (rDu s + 1)) (here := rDu s) hW hs hP hl24 hL (fun e he => ⟨hG _ _ (List.getElem_mem hd) e he, hok.1 e he⟩) hd c1 c3 hM hok (MR_du h2) rfl (by show (rPn s).length < 400; omega) hk17 (fun r A16 h3 hr => ?_)
        generalize hsp : sTp P dat (rDu s) (P[rDu s]).2 (uDu s (rDu s + 1)) = r0 at h3 hr hpr2
        by_cases h0 : r0.2 = 0
        · have k : ∀ R, R = rnS P dat n (st + 1) (P[rDu s]).1 r0.1 → ∀ A', MF B sl dat R th A' → K (if R.2.1 = 0 then iN R.2.2.1 else 0) A' := fun R hR => k R (by
            rw [rnS, hg]
            dsimp only
            rw [hsp, if_pos h0]
            exact hR)
          rw [h0] at h3
          rw [hr h0]
          exact ih fu (st + 1) (P[rDu s]).1 r0.1 A16 _ (by omega) (by omega) h3 rfl rfl h26 hpr2 k
        · have k : ∀ A', MF B sl dat (r0.1, r0.2, st + 1, (P[rDu s]).1) th A' → K (if r0.2 = 0 then iN (st + 1) else 0) A' := k (r0.1, r0.2, st + 1, (P[rDu s]).1) (by
            rw [rnS, hg]
            dsimp only
            rw [hsp, if_neg h0])
          obtain ⟨fu, rfl⟩ : ∃ g, fu = g + 1 := ⟨fu - 1, by omega⟩
          unfold wp_Mo_run_c93
          exact ⟨fun _ => r_151 hW h3 rfl rfl h26 k, fun _ => ⟨rfl, fun _ => r_151 hW h3 rfl rfl h26 k, fun q => absurd q (MR_n h3 h0)⟩⟩
      · rw [h.2.1.1, h16, show (300 : Int32) = iN 300 from rfl, iN_eq (by omega) (by omega)] at q
        omega
    · have k := k (s, 0, st, la) (by rw [rnS, List.getElem?_eq_none (by omega)])
      rw [slI_ge hP (by omega)]
      exact ⟨fun _ => r_151 hW h h16 h17 h26 k, fun q => absurd (by decide) q⟩
end RM8
