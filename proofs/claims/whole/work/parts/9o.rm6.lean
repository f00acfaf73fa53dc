section RM6
variable {B A : Mem} {dat : List UInt64} {q : Nat → Int32} {s : RS} {ft : Nat} {P : PT} {sl : List Nat} {w : Nat} {d : LDT} {b t x y R C : Nat} {ent : Nat → Nat → Option UInt64}
theorem MR_267 {k : Nat} {v : UInt64} (h : MR B sl dat q s ft A) : MR B sl dat q s ft (sD A 267 k v) := by
  obtain ⟨hF, hq, ⟨vm, st, he, hv⟩, hm, hf, hl, hr, hda, hp⟩ := h
  have eD : ∀ o, o ≠ 267 → gD (sD A 267 k v) o = gD A o := fun o ho => gD_row ho
  exact ⟨MFr_tr hF ⟨rfl, rfl, fun _ _ _ => rfl, fun _ _ => rfl, fun o ho => eD o (by omega)⟩, hq, EvR_cg he (by rw [eD 260 (by omega), he.2.1.1]; exact hv) he.2.1.2.1 he.2.1.2.2.1 rfl rfl (eD 261 (by omega)), MmM_cg (s := s) hm rfl rfl (eD 266 (by omega)), FbM_cg hf rfl rfl rfl rfl, LoM_cg hl rfl rfl rfl (eD 263 (by omega)) (eD 264 (by omega)), hr, DaM_cg hda rfl rfl (eD 262 (by omega)), PrM_cg hp rfl (eD 259 (by omega))⟩
def DnM (A : Mem) (ent : Nat → Nat → Option UInt64) (C i j : Nat) : Prop := ∀ r c, c < C → (r < i ∨ (r = i ∧ c < j)) → ∃ v, ent (r + 1) (c + 1) = some v ∧ okd v ∧ dz v (gD A 267 (r * 6 + c))
theorem r_161F {K : Mem → Prop} {sc' : UInt64} {x3 : Int32} (f0 : ft ≠ 0) (hR6 : R ≤ 6) (h : MR B sl dat q s ft A) (k : K A) : ∀ (n i fu : Nat), i + n = R → n < fu → wp_Mo_doMat_c161 K fu 250 (iN t) x3 (iN x) (iN y) sc' (iN R) (iN C) (iN i) A := by
  intro n
  induction n with
  | zero =>
    intro i fu hi hfu
    obtain ⟨fu, rfl⟩ : ∃ g, fu = g + 1 := ⟨fu - 1, by omega⟩
    unfold wp_Mo_doMat_c161
    rw [iN_le (by omega) (by omega)]
    exact ⟨fun _ => ⟨rfl, fun q => absurd q (MR_n h f0), fun _ => k⟩, fun q => by omega⟩
  | succ n ih =>
    intro i fu hi hfu
    obtain ⟨fu, rfl⟩ : ∃ g, fu = g + 1 := ⟨fu - 1, by omega⟩
    unfold wp_Mo_doMat_c161
    rw [iN_le (by omega) (by omega)]
    refine ⟨fun q => by omega, fun _ => ⟨1, ?_⟩⟩
    unfold wp_Mo_doMat_c171
    rw [iN_1]
    exact ⟨fun _ => ih (i + 1) fu (by omega) (by omega), fun _ => ⟨rfl, fun _ => ih (i + 1) fu (by omega) (by omega), fun q => absurd q (MR_n h f0)⟩⟩
theorem r_171 {K : Mem → Prop} {sc sc' : UInt64} {J : Nat → Int32 → Int32 → Int32 → Int32 → UInt64 → Int32 → Int32 → Int32 → Mem → Prop} {i : Nat} (hW : MW B) (hb : b < 9) (hx : x < 3) (hy : y < 3) (hC6 : C ≤ 6) (hi6 : i < R) (hR6 : R ≤ 6) (hRn : ∀ r c, r < R → c < C → enR (rMr s) (rMc s) b x y (r + 1) (c + 1)) (hxy : b = 6 ∨ b = 7 → rMr s x = rMr s y ∧ rMc s x = rMc s y) (h8 : b = 8 → 0 < rMc s x) (hsc : dz sc sc') (osc : okd sc)
    (hJ0 : ∀ A', MR B sl dat q s 0 A' → DnM A' (entF (rMe s) (rMc s) b sc x y) C (i + 1) 0 → J 250 (iN t) (iN b) (iN x) (iN y) sc' (iN R) (iN C) (iN (i + 1)) A')
    (hJ4 : ∀ A', MR B sl dat q s 4 A' → (∃ r c, r < R ∧ c < C ∧ entF (rMe s) (rMc s) b sc x y (r + 1) (c + 1) = none) → J 250 (iN t) (iN b) (iN x) (iN y) sc' (iN R) (iN C) (iN (i + 1)) A') :
    ∀ (n j fu : Nat) (A : Mem), j + n = C → n + 1 < fu → MR B sl dat q s 0 A → DnM A (entF (rMe s) (rMc s) b sc x y) C i j → wp_Mo_doMat_c171 J K fu 250 (iN t) (iN b) (iN x) (iN y) sc' (iN R) (iN C) (iN i) (iN j) A := by
  intro n
  induction n with
  | zero =>
    intro j fu A hj hfu h hd
    obtain ⟨fu, rfl⟩ : ∃ g, fu = g + 1 := ⟨fu - 1, by omega⟩
    unfold wp_Mo_doMat_c171
    rw [iN_le (by omega) (by omega), iN_1]
    exact ⟨fun _ => hJ0 A h (fun r c hc hrc => hd r c hc (by omega)), fun q => by omega⟩
  | succ n ih =>
    intro j fu A hj hfu h hd
    obtain ⟨fu, rfl⟩ : ∃ g, fu = g + 2 := ⟨fu - 2, by omega⟩
    have e36 : ∀ {A' : Mem} {f : Nat}, MR B sl dat q s f A' → gR A' 250 36 = 267 := fun h' => MRg hW h' (j := 36) (by omega)
    unfold wp_Mo_doMat_c171
    rw [iN_le (by omega) (by omega), MR_0 h, e36 h, show (6 : Int32) = iN 6 from rfl, iN_mul, iN_add, iN_cl (show i * 6 + j < 2147483648 by omega), iN_1]
    refine ⟨fun q => by omega, fun _ => ⟨rfl, fun q => absurd rfl q, fun _ => ?_⟩⟩
    refine r_cell hW hb hx hy h (hRn i j hi6 (by omega)) hxy h8 hsc osc (fun v v' hv hdv ov => ?_) (fun hv u => ?_)
    · rw [iN_1]
      refine ⟨rfl, iN_in (m := 36) (by omega) (by omega), ih (j + 1) (fu + 1) _ (by omega) (by omega) (MR_267 h) (fun r c hc hrc => ?_)⟩
      by_cases e : r = i ∧ c = j
      · rw [e.1, e.2, gD_eq]
        exact ⟨v, hv, ov, hdv⟩
      · obtain ⟨v2, g1, g2, g3⟩ := hd r c hc (by omega)
        refine ⟨v2, g1, g2, ?_⟩
        rw [gD_ne (Or.inr (by omega))]
        exact g3
    · have h4 := MR_267 (k := i * 6 + j) (v := u) (MR_fail (f := 4) h (by omega))
      have hbad : ∃ r c, r < R ∧ c < C ∧ entF (rMe s) (rMc s) b sc x y (r + 1) (c + 1) = none := ⟨i, j, hi6, by omega, hv⟩
      refine ⟨rfl, iN_in (m := 36) (by omega) (by omega), ?_⟩
      unfold wp_Mo_doMat_c171
      rw [iN_1, iN_1]
      exact ⟨fun _ => hJ4 _ h4 hbad, fun _ => ⟨rfl, fun _ => hJ4 _ h4 hbad, fun q => absurd q (MR_n h4 (by decide))⟩⟩
theorem r_252 {K : Mem → Prop} (hW : MW A) (ht : t < 3) (k : ∀ A', gL A' = gL A → gR A' = gR A → gI A' = gI A → (∀ o, o ≠ 266 → gD A' o = gD A o) → (∀ j, gD A' 266 j = if t * 36 ≤ j ∧ j < t * 36 + 36 then gD A 267 (j - t * 36) else gD A 266 j) → K A') : ∃ n9 : Nat, wp_Mo_doMat_c252 K n9 250 (iN t) 0 A := by
  have e35 : gR A 250 35 = 266 := hW.2 35 (by omega) (by omega)
  have e36 : gR A 250 36 = 267 := hW.2 36 (by omega) (by omega)
  have go : ∀ (n i fu : Nat) (D : Mem), i + n = 36 → n < fu → gL D = gL A → gR D = gR A → gI D = gI A → (∀ o, o ≠ 266 → gD D o = gD A o) → (∀ j, gD D 266 j = if t * 36 ≤ j ∧ j < t * 36 + i then gD A 267 (j - t * 36) else gD A 266 j) → wp_Mo_doMat_c252 K fu 250 (iN t) (iN i) D := by
    intro n
    induction n with
    | zero =>
      intro i fu D hi hfu c1 c2 c3 c4 c5
      obtain ⟨fu, rfl⟩ : ∃ g, fu = g + 1 := ⟨fu - 1, by omega⟩
      have hi : i = 36 := by omega
      subst hi
      exact ⟨fun _ => k D c1 c2 c3 c4 c5, fun q => absurd (show (36 : Int32) ≤ iN 36 by decide) q⟩
    | succ n ih =>
      intro i fu D hi hfu c1 c2 c3 c4 c5
      obtain ⟨fu, rfl⟩ : ∃ g, fu = g + 1 := ⟨fu - 1, by omega⟩
      unfold wp_Mo_doMat_c252
      rw [c2, e35, e36, show (36 : Int32) = iN 36 from rfl, iN_mul, iN_add, iN_le (by omega) (by omega), iN_cl (show t * 36 + i < 2147483648 by omega), iN_cl (show i < 2147483648 by omega), iN_1]
      refine ⟨fun q => by omega, fun _ => ⟨rfl, rfl, iN_in (m := 36) (by omega) (by omega), rfl, iN_in (m := 108) (by omega) (by omega), ih (i + 1) fu _ (by omega) (by omega) c1 c2 c3 (fun o ho => (gD_row ho).trans (c4 o ho)) (fun j => ?_)⟩⟩
      by_cases hj : j = t * 36 + i
      · rw [hj, gD_eq, if_pos (by omega), c4 267 (by omega)]
        congr 1
        omega
      · rw [gD_ne (Or.inr hj), c5 j]
        by_cases h2 : t * 36 ≤ j ∧ j < t * 36 + i
        · rw [if_pos h2, if_pos (by omega)]
        · rw [if_neg h2, if_neg (by omega)]
  exact ⟨37, go 36 0 37 A rfl (by omega) rfl rfl rfl (fun _ _ => rfl) (fun j => by rw [if_neg (by omega)])⟩
theorem r_161 {K : Mem → Prop} {sc sc' : UInt64} (hW : MW B) (hb : b < 9) (ht : t < 3) (hx : x < 3) (hy : y < 3) (hR : R = mtR (rMr s) (rMc s) b t x) (hC : C = mtC (rMr s) (rMc s) b t x y) (hC6 : C ≤ 6) (hR6 : R ≤ 6) (hRn : ∀ r c, r < R → c < C → enR (rMr s) (rMc s) b x y (r + 1) (c + 1)) (hxy : b = 6 ∨ b = 7 → rMr s x = rMr s y ∧ rMc s x = rMc s y) (h8 : b = 8 → 0 < rMc s x) (hsc : dz sc sc') (osc : okd sc)
    (k : ∀ A', MR B sl dat q (maE s t b x y sc).1 (maE s t b x y sc).2 A' → K A') :
    ∀ (n i fu : Nat) (A : Mem), i + n = R → n < fu → MR B sl dat q s 0 A → DnM A (entF (rMe s) (rMc s) b sc x y) C i 0 → wp_Mo_doMat_c161 K fu 250 (iN t) (iN b) (iN x) (iN y) sc' (iN R) (iN C) (iN i) A := by
  have hbad : (∃ r c, r < R ∧ c < C ∧ entF (rMe s) (rMc s) b sc x y (r + 1) (c + 1) = none) → maE s t b x y sc = (s, 4) := by
    rintro ⟨r, c, hr, hc, he⟩
    unfold maE
    rw [← hR, ← hC, allE_f (r := r + 1) (c := c + 1) (by omega) (by omega) (by omega) (by omega) he, if_neg (by decide)]
  intro n
  induction n with
  | zero =>
    intro i fu A hi hfu h hd
    obtain ⟨fu, rfl⟩ : ∃ g, fu = g + 1 := ⟨fu - 1, by omega⟩
    have hiR : i = R := by omega
    subst hiR
    have hal : allE (entF (rMe s) (rMc s) b sc x y) i C = true := allE_t (fun r c r1 r2 c1 c2 => by
      obtain ⟨v, hv, -⟩ := hd (r - 1) (c - 1) (by omega) (by omega)
      rw [Nat.sub_add_cancel r1, Nat.sub_add_cancel c1] at hv
      exact ⟨v, hv⟩)
    unfold maE at k
    rw [← hR, ← hC, if_pos hal] at k
    have hWA := MW_M hW h.1
    have e38 : gR A 250 38 = 269 := hWA.2 38 (by omega) (by omega)
    have e39 : gR A 250 39 = 270 := hWA.2 39 (by omega) (by omega)
    unfold wp_Mo_doMat_c161
    rw [iN_le (by omega) (by omega), MR_0 h, e38, iN_cl (show t < 2147483648 by omega), show gR (sI A 269 t (iN i)) 250 39 = 270 from e39]
    refine ⟨fun _ => ⟨rfl, fun _ => ⟨rfl, iN_in (m := 3) ht (by omega), rfl, iN_in (m := 3) ht (by omega), fun A33 e33 => ?_⟩, fun q => absurd rfl q⟩, fun q => by omega⟩
    have hW33 : MW A33 := by unfold MW; rw [e33]; exact hWA
    refine r_252 hW33 ht (fun A' b1 b2 b3 b4 b5 => k A' ?_)
    refine MR_mx ht h (by rw [b1, e33]; rfl) (by rw [b2, e33]; rfl) (fun o h1 h2 => by rw [b3, e33, gI_row h2, gI_row h1]) (by rw [b3, e33, gI_row (by omega), gI_us2]) (by rw [b3, e33, gI_us2, gI_row (by omega)]) (fun o h1 h2 => by rw [b4 o h1, e33]; rfl) (fun m' p hne hm' hp => ?_) hR6 hC6 (fun r c hr hc => ?_)
    · rw [b5, if_neg (by omega), e33]; rfl
    · obtain ⟨v, g1, g2, g3⟩ := hd r c hc (by omega)
      have hv : dfl (entF (rMe s) (rMc s) b sc x y) C (i + 1) 1 (r * 6 + c) = v := by
        unfold dfl
        have w1 : (r * 6 + c) / 6 + 1 = r + 1 := by omega
        have w2 : (r * 6 + c) % 6 + 1 = c + 1 := by omega
        rw [w1, w2, if_pos (by omega), g1]; rfl
      rw [hv, b5, if_pos (by omega), e33]
      have e : t * 36 + (r * 6 + c) - t * 36 = r * 6 + c := by omega
      rw [e]
      exact ⟨g3, g2⟩
  | succ n ih =>
    intro i fu A hi hfu h hd
    obtain ⟨fu, rfl⟩ : ∃ g, fu = g + 1 := ⟨fu - 1, by omega⟩
    unfold wp_Mo_doMat_c161
    rw [iN_le (by omega) (by omega)]
    refine ⟨fun q => by omega, fun _ => ⟨C + 2, ?_⟩⟩
    refine r_171 hW hb hx hy hC6 (by omega) hR6 hRn hxy h8 hsc osc (fun A' h' hd' => ih (i + 1) fu A' (by omega) (by omega) h' hd') (fun A' h' hb' => ?_) C 0 _ A (by omega) (by omega) h hd
    have k4 := k A'
    rw [hbad hb'] at k4
    exact r_161F (by decide) hR6 h' (k4 h') n (i + 1) fu (by omega) (by omega)
theorem r_108 {K : Mem → Prop} {sc sc' : UInt64} (hW : MW B) (hb : b < 9) (ht : t < 3) (hx : x < 3) (hy : y < 3) (hxt : b < 3 → x = t) (hyx : b ≤ 5 → y = x) (ok : mtOK (rMr s) (rMc s) b t x y) (h : MR B sl dat q s 0 A) (hsc : dz sc sc') (osc : okd sc)
    (k : ∀ A', MR B sl dat q (maE s t b x y sc).1 (maE s t b x y sc).2 A' → K A') : wp_Mo_doMat_c108 K 250 (iN t) (iN b) (iN x) (iN y) sc' A := by
  have hmm := h.2.2.2.1
  obtain ⟨t1, t2, t3, t4, -⟩ := hmm t ht
  obtain ⟨x1, x2, x3, x4, -⟩ := hmm x hx
  obtain ⟨y1, y2, y3, y4, -⟩ := hmm y hy
  have e38 : gR A 250 38 = 269 := MRg hW h (j := 38) (by omega)
  have e39 : gR A 250 39 = 270 := MRg hW h (j := 39) (by omega)
  have hR6 : mtR (rMr s) (rMc s) b t x ≤ 6 := by
    unfold mtR
    repeat' split
    all_goals omega
  have hC6 : mtC (rMr s) (rMc s) b t x y ≤ 6 := by
    unfold mtC
    repeat' split
    all_goals omega
  have hxy : b = 6 ∨ b = 7 → rMr s x = rMr s y ∧ rMc s x = rMc s y := fun q => by
    unfold mtOK at ok
    rw [if_neg (by omega), if_neg (by omega), if_neg (by omega), if_pos (by omega)] at ok
    exact ok.2
  have h8 : b = 8 → 0 < rMc s x := fun q => by
    unfold mtOK at ok
    rw [if_neg (by omega), if_neg (by omega), if_neg (by omega), if_neg (by omega)] at ok
    omega
  have fin : ∀ n9, mtR (rMr s) (rMc s) b t x < n9 → wp_Mo_doMat_c161 K n9 250 (iN t) (iN b) (iN x) (iN y) sc' (iN (mtR (rMr s) (rMc s) b t x)) (iN (mtC (rMr s) (rMc s) b t x y)) 0 A := by
    intro n9 e9
    exact r_161 hW hb ht hx hy rfl rfl hC6 hR6 (fun r c hr hc => en_rng hb ⟨t3, t4⟩ ⟨x3, x4⟩ ⟨y3, y4⟩ ok (by omega) (by omega) (by omega) (by omega)) hxy h8 hsc osc k (mtR (rMr s) (rMc s) b t x) 0 n9 A (by omega) (by omega) h (fun r c hc hrc => by omega)
  unfold wp_Mo_doMat_c108 wp_Mo_doMat_c132
  rw [e38, e39, iN_cl (show x < 2147483648 by omega), iN_cl (show y < 2147483648 by omega), x1, x2, y2, show (3 : Int32) = iN 3 from rfl, iN_eq (by omega) (by omega)]
  refine ⟨fun h3 => ⟨rfl, rfl, iN_in (m := 3) hx (by omega), fun _ => ⟨rfl, rfl, iN_in (m := 3) hy (by omega), 8, ?_⟩, fun q => absurd q h3⟩, fun h3 => ⟨rfl, rfl, iN_in (m := 3) hx (by omega), fun q => absurd h3 q, fun _ => ⟨rfl, rfl, iN_in (m := 3) hx (by omega), 8, ?_⟩⟩⟩
  · have eR : mtR (rMr s) (rMc s) b t x = rMr s x := by
      unfold mtR
      by_cases hb3 : b < 3
      · rw [if_pos hb3, hxt hb3]
      · rw [if_neg hb3, if_neg h3]
    have eC : mtC (rMr s) (rMc s) b t x y = rMc s y := by
      unfold mtC
      by_cases hb3 : b < 3
      · rw [if_pos hb3, hyx (by omega), hxt hb3]
      · rw [if_neg hb3, if_neg h3]
        by_cases hb8 : b = 8
        · rw [if_pos hb8]
        · rw [if_neg hb8]
          by_cases hb5 : b ≤ 5
          · rw [hyx hb5]
          · exact (hxy (by omega)).2
    have := fin 8 (by omega)
    rw [eR, eC] at this
    exact this
  · have eR : mtR (rMr s) (rMc s) b t x = rMc s x := by
      unfold mtR
      rw [if_neg (by omega), if_pos h3]
    have eC : mtC (rMr s) (rMc s) b t x y = rMr s x := by
      unfold mtC
      rw [if_neg (by omega), if_pos h3]
    have := fin 8 (by omega)
    rw [eR, eC] at this
    exact this
theorem r_108F {K : Mem → Prop} {sc' : UInt64} (hW : MW B) (hb : b < 9) (hx : x < 3) (hy : y < 3) (h : MR B sl dat q s ft A) (f0 : ft ≠ 0) (k : K A) : wp_Mo_doMat_c108 K 250 (iN t) (iN b) (iN x) (iN y) sc' A := by
  have hmm := h.2.2.2.1
  obtain ⟨x1, x2, x3, x4, -⟩ := hmm x hx
  obtain ⟨y1, y2, y3, y4, -⟩ := hmm y hy
  have e38 : gR A 250 38 = 269 := MRg hW h (j := 38) (by omega)
  have e39 : gR A 250 39 = 270 := MRg hW h (j := 39) (by omega)
  unfold wp_Mo_doMat_c108 wp_Mo_doMat_c132
  rw [e38, e39, iN_cl (show x < 2147483648 by omega), iN_cl (show y < 2147483648 by omega), x1, x2, y2]
  exact ⟨fun h3 => ⟨rfl, rfl, iN_in (m := 3) hx (by omega), fun _ => ⟨rfl, rfl, iN_in (m := 3) hy (by omega), rMr s x + 1, r_161F f0 x3 h k (rMr s x) 0 _ (by omega) (by omega)⟩, fun q => absurd q h3⟩, fun h3 => ⟨rfl, rfl, iN_in (m := 3) hx (by omega), fun q => absurd h3 q, fun _ => ⟨rfl, rfl, iN_in (m := 3) hx (by omega), rMc s x + 1, r_161F f0 x4 h k (rMc s x) 0 _ (by omega) (by omega)⟩⟩⟩
theorem r_65 {K : Mem → Prop} (hW : MW B) (hw : w < 24) (hb : b < 9) (ht : t < 3) (hx : x < 3) (hy : y < 3) (hxt : b < 3 → x = t) (hyx : b ≤ 5 → y = x) (hE : b = 4 → exB B w 0 (eX d 0) ∧ GdE (eX d 0) ∧ PGd (eX d 0)) (h : MR B sl dat q s 0 A)
    (k : ∀ r, r = (if mtB (rMr s) (rMc s) b t x y then
    (if b = 4 then bnE (evS s (eX d 0)) s fun v => maE s t b x y v else maE s t b x y FP.dconst0)
  else (s, 6)) → ∀ A', MR B sl dat q r.1 r.2 A' → K A') : wp_Mo_doMat_c65 K 250 (iN w) (iN t) (iN b) (iN x) (iN y) A := by
  unfold wp_Mo_doMat_c65
  refine ⟨rfl, r_matFits hW hb ht hx hy h ?_⟩
  cases ok : mtB (rMr s) (rMc s) b t x y with
  | false =>
    rw [ok, if_neg (by decide)] at k
    exact ⟨fun q => (by cases q), fun _ => k _ rfl _ (MR_fail (f := 6) h (by omega))⟩
  | true =>
    rw [ok, if_pos rfl] at k
    rw [show (4 : Int32) = iN 4 from rfl, iN_eq (by omega) (by omega), iN_mul, iN_cl (show w * 4 < 2147483648 by omega), show gR A 250 13 = 256 from MRg hW h (j := 13) (by omega)]
    refine ⟨fun _ => ⟨fun h4 => ?_, fun h4 => ⟨rfl, iN_in (m := 100) (by omega) (by omega), ?_⟩⟩, fun q => (by cases q)⟩
    · rw [if_neg h4] at k
      have e1 : entF (rMe s) (rMc s) b FP.dconst1 x y = entF (rMe s) (rMc s) b FP.dconst0 x y := by
        funext i j
        unfold entF
        rw [if_neg h4, if_neg h4]
      have e2 : maE s t b x y FP.dconst1 = maE s t b x y FP.dconst0 := by
        unfold maE
        rw [e1]
      refine r_108 hW hb ht hx hy hxt hyx (mtB_iff.mp ok) h (dz_rfl _) okd_1 (fun A' h' => ?_)
      rw [e2] at h'
      exact k _ rfl A' h'
    · rw [if_pos h4] at k
      obtain ⟨hE0, hG, hP⟩ := hE h4
      refine r_evx (i := 0) hW h hE0 hG hP (fun v v' A1 hv hd ho h1 => ?_) (fun f A1 hf f0 h1 => ?_)
      · exact r_108 hW hb ht hx hy hxt hyx (mtB_iff.mp ok) h1 hd ho (fun A' h' => k _ (bnE_ok hv).symm A' h')
      · exact r_108F hW hb hx hy h1 f0 (k _ (bnE_er hf).symm A1 h1)
/-- MAT -/
theorem r_mat {K : Mem → Prop} (hW : MW B) (hw : w < 24) (hd : d.1 = 14) (hok : LDok d) (hG : ∀ e, e ∈ d.2.2.2.2.1 → GdE e ∧ PGd e) (ha0 : gI B 255 (w * 8) = d.2.1) (ha1 : gI B 255 (w * 8 + 1) = d.2.2.1) (ha2 : ∀ k, k < d.2.2.2.1.length → gI B 255 (w * 8 + (2 + k)) = nX d k) (hE : d.2.2.1 = iN 4 → exB B w 0 (eX d 0)) (h : MR B sl dat q s 0 A)
    (k : ∀ r, r = maS s d d.2.1.toNatClampNeg d.2.2.1.toNatClampNeg → ∀ A', MR B sl dat q r.1 r.2 A' → K A') : wp_Mo_doMat 250 (iN w) A K := by
  have hok2 := hok.2
  rw [hd] at hok2
  obtain ⟨t, b, ht, ea, eb, hb, hns, hnl, hes⟩ := hok2
  rw [ea, eb, iN_cl (show t < 2147483648 by omega), iN_cl (show b < 2147483648 by omega)] at k
  obtain ⟨x1, x2⟩ := mX_ok (b := b) hd hns 0
  obtain ⟨y1, y2⟩ := mX_ok (b := b) hd hns 1
  rw [nX_c (by omega)] at x2 y2
  have e12 : gR A 250 12 = 255 := MRg hW h (j := 12) (by omega)
  have a0 : gI A 255 (w * 8) = iN t := (congrFun (MRi h).1 _).trans (ha0.trans ea)
  have a1 : gI A 255 (w * 8 + 1) = iN b := (congrFun (MRi h).1 _).trans (ha1.trans eb)
  have hE' : b = 4 → exB B w 0 (eX d 0) ∧ GdE (eX d 0) ∧ PGd (eX d 0) := fun h4 => by
    obtain ⟨e, he⟩ := hes h4
    have ex0 : eX d 0 = e := by unfold eX; rw [he]; rfl
    have hE4 := hE (by rw [eb, h4])
    rw [ex0] at hE4 ⊢
    exact ⟨hE4, hG e (by rw [he]; simp)⟩
  unfold maS at k
  rw [mtB_nm (t := t) hb, maE_nm (t := t) hb] at k
  simp only [maE_nm (t := t) (x := mX d 0) (y := mX d 1) hb] at k
  unfold wp_Mo_doMat wp_Mo_doMat_c42
  rw [e12, show (8 : Int32) = iN 8 from rfl, iN_mul, show (1 : Int32) = iN 1 from rfl, iN_add, show (2 : Int32) = iN 2 from rfl, iN_add, show (3 : Int32) = iN 3 from rfl, iN_add, show (5 : Int32) = iN 5 from rfl, iN_cl (show w * 8 < 2147483648 by omega), iN_cl (show w * 8 + 1 < 2147483648 by omega), iN_cl (show w * 8 + 2 < 2147483648 by omega), iN_cl (show w * 8 + 3 < 2147483648 by omega), a0, a1, iN_le (by omega) (by omega), iN_le (by omega) (by omega)]
  refine ⟨rfl, rfl, iN_in (m := 200) (by omega) (by omega), iN_in (m := 200) (by omega) (by omega), fun h3 => ⟨iN_in (m := 200) (by omega) (by omega), ?_⟩, fun h3 => ⟨fun h5 => ?_, fun h5 => by omega⟩⟩
  · have hl1 : 1 ≤ d.2.2.2.1.length := by
      rw [hnl]
      rw [if_neg (by omega)]
      split <;> omega
    have a2 : gI A 255 (w * 8 + 2) = iN (mX d 0) := ((congrFun (MRi h).1 _).trans (ha2 0 (by omega))).trans x2
    rw [a2]
    rw [if_neg (show ¬ b < 3 by omega)] at k
    refine ⟨fun h5 => ?_, fun h5 => ⟨rfl, rfl, iN_in (m := 200) (by omega) (by omega), ?_⟩⟩
    · rw [if_pos h5] at k
      exact r_65 hW hw hb ht x1 x1 (fun q => by omega) (fun _ => rfl) hE' h k
    · have hl2 : 2 ≤ d.2.2.2.1.length := by
        rw [hnl, if_neg (by omega), if_neg (by omega)]
        omega
      have a3 : gI A 255 (w * 8 + 3) = iN (mX d 1) := ((congrFun (MRi h).1 _).trans (ha2 1 (by omega))).trans y2
      rw [a3]
      rw [if_neg h5] at k
      exact r_65 hW hw hb ht x1 y1 (fun q => by omega) (fun q => absurd q h5) hE' h k
  · rw [if_pos (show b < 3 by omega), if_pos h5] at k
    exact r_65 hW hw hb ht ht ht (fun _ => rfl) (fun _ => rfl) hE' h k
end RM6
