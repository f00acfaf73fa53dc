/-! the reference's parser: codes, numerals, settling -/
section YN
variable {A0 : Mem} {T : Nat → Int32} {wt : Nat → Int32} {n lo p e : Nat} {x : MT} {A : Mem}
theorem y_make0 {c : Nat} {v : Int32} {K : Mem → Prop} (hB : MB0 A0 T n) (hF : FrM A0 A) (h6 : gI A 250 6 = iN c) (hc : c < 160) (k : K (sI (sI A 257 (3840 + c) v) 250 6 (iN (c + 1)))) : wp_Mo_make 250 v A K := by
  have hW := (FrM_n hB hF).2.2.2
  unfold wp_Mo_make
  rw [hW.1 14 (by omega) (by omega), h6, show (3840 : Int32) = iN 3840 from rfl, iN_add, iN_cl (by omega)]
  refine ⟨rfl, rfl, iN_in (m := 4000) (by omega) (by omega), fun A4 hA => ?_⟩
  subst hA
  rw [show 243 + 14 = 257 from rfl, gI_ne (by omega), h6, iN_1]
  exact k
theorem y_make {v : Int32} {K : Mem → Prop} (hB : MB0 A0 T n) (h : MG A0 n lo wt p x A) (hl : x.2.1.length < 160) (k : ∀ A', MG A0 n lo wt p (x.1, x.2.1 ++ [v], x.2.2) A' → K A') : wp_Mo_make 250 v A K := by
  obtain ⟨hF, hp, hlo, h4, h5, h5', h6, h7, h57, hag, hex, hwt⟩ := h
  refine y_make0 hB hF h6 hl (k _ ?_)
  refine ⟨FrM_I (FrM_I hF (by omega)) (by omega), hp, hlo, ?_, ?_, h5', ?_, ?_, ?_, ?_, ?_, ?_⟩
  · rw [gI_ne (by omega), gI_ne (by omega)]; exact h4
  · rw [gI_ne (by omega), gI_ne (by omega)]; exact h5
  · rw [gI_eq]; simp
  · rw [gI_ne (by omega), gI_ne (by omega)]; exact h7
  · refine lsI_push h57 (fun j hj => ?_) ?_
    · rw [gI_ne (by omega), gI_ne (by omega)]
    · rw [gI_ne (by omega), gI_eq]
  · rw [gI_row (show 255 ≠ 250 by omega), gI_row (show 255 ≠ 257 by omega)]; exact hag
  · rw [gI_row (show 256 ≠ 250 by omega), gI_row (show 256 ≠ 257 by omega)]; exact hex
  · rw [gI_row (show 258 ≠ 250 by omega), gI_row (show 258 ≠ 257 by omega)]; exact hwt
theorem y_makeB {v : Int32} {q b : Nat} {K : Mem → Prop} (hB : MB0 A0 T n) (h : MBd A0 n q b A) (hb : b < 160) (k : ∀ A', MBd A0 n q (b + 1) A' → K A') : wp_Mo_make 250 v A K := by
  obtain ⟨hF, hq, h4, h7, c, hc, h6⟩ := h
  refine y_make0 hB hF h6 (by omega) (k _ ?_)
  refine ⟨FrM_I (FrM_I hF (by omega)) (by omega), hq, ?_, ?_, c + 1, by omega, ?_⟩
  · rw [gI_ne (by omega), gI_ne (by omega)]; exact h4
  · rw [gI_ne (by omega), gI_ne (by omega)]; exact h7
  · rw [gI_eq]
theorem num18 {K : Mem → Prop} (hB : MB0 A0 T n) : ∀ (k m p i c : Nat) (v : Int32) (A : Mem), i + k = 6 → k ≤ m → MG A0 n lo wt p x A → (∀ A', MG A0 n lo wt (pDg T n k p v c).1 x A' → wp_Mo_numeral_c67 K 250 (pDg T n k p v c).2.1 0 A') → wp_Mo_numeral_c18 K (m + 1) 250 v (iN i) 0 A := by
  intro k
  induction k with
  | zero =>
    intro m p i c v A hi hm h kk
    unfold wp_Mo_numeral_c18
    refine ⟨rfl, fun h7 => absurd (MG_e h) h7, fun _ => y_isD hB h ⟨fun _ => kk A h, fun _ => ⟨fun _ => kk A h, fun h2 => ?_⟩⟩⟩
    rw [show (6 : Int32) = iN 6 from rfl, iN_le (by omega) (by omega)] at h2
    omega
  | succ k ih =>
    intro m p i c v A hi hm h kk
    obtain ⟨m, rfl⟩ : ∃ m', m = m' + 1 := ⟨m - 1, by omega⟩
    unfold wp_Mo_numeral_c18
    refine ⟨rfl, fun h7 => absurd (MG_e h) h7, fun _ => y_isD hB h ⟨fun hd => ?_, fun hd => ⟨fun h2 => ?_, fun _ => y_look hB h ?_⟩⟩⟩
    · rw [pDg_nd hd] at kk; exact kk A h
    · rw [show (6 : Int32) = iN 6 from rfl, iN_le (by omega) (by omega)] at h2
      omega
    · unfold pDg at kk
      rw [hd, if_pos rfl] at kk
      rw [lk_chr (isD_lt hd), iN_1]
      exact ih m (p + 1) (i + 1) (c + 1) _ _ (by omega) (by omega) (MG_on h (isD_lt hd)) kk
theorem num88 {K : Mem → Prop} (hB : MB0 A0 T n) : ∀ (k m p c : Nat) (v : Int32) (A : Mem), c + k = 3 → k ≤ m → MG A0 n lo wt p x A → (∀ A', MG A0 n lo wt (pDg T n k p v c).1 x A' → wp_Mo_numeral_c136 K 250 (pDg T n k p v c).2.1 (iN (pDg T n k p v c).2.2) A') → wp_Mo_numeral_c88 K (m + 1) 250 v (iN c) A := by
  intro k
  induction k with
  | zero =>
    intro m p c v A hi hm h kk
    unfold wp_Mo_numeral_c88
    refine ⟨rfl, fun h7 => absurd (MG_e h) h7, fun _ => y_isD hB h ⟨fun _ => kk A h, fun _ => ⟨fun _ => kk A h, fun h2 => ?_⟩⟩⟩
    rw [show (3 : Int32) = iN 3 from rfl, iN_le (by omega) (by omega)] at h2
    omega
  | succ k ih =>
    intro m p c v A hi hm h kk
    obtain ⟨m, rfl⟩ : ∃ m', m = m' + 1 := ⟨m - 1, by omega⟩
    unfold wp_Mo_numeral_c88
    refine ⟨rfl, fun h7 => absurd (MG_e h) h7, fun _ => y_isD hB h ⟨fun hd => ?_, fun hd => ⟨fun h2 => ?_, fun _ => y_look hB h ?_⟩⟩⟩
    · rw [pDg_nd hd] at kk; exact kk A h
    · rw [show (3 : Int32) = iN 3 from rfl, iN_le (by omega) (by omega)] at h2
      omega
    · unfold pDg at kk
      rw [hd, if_pos rfl] at kk
      rw [lk_chr (isD_lt hd), iN_1]
      exact ih m (p + 1) (c + 1) _ _ (by omega) (by omega) (MG_on h (isD_lt hd)) kk
theorem y_num {K : Mem → Prop} (hB : MB0 A0 T n) (h : MG A0 n lo wt p x A) (hl : x.2.1.length + 3 ≤ 159) (k : OKP (pNum T n p) (fun p' v => ∀ A', MG A0 n lo wt p' (x.1, x.2.1 ++ [0, v.1, iN v.2], x.2.2) A' → K A') (fun q => ∀ A', MBd A0 n q (x.2.1.length + 3) A' → K A')) : wp_Mo_numeral 250 A K := by
  have good : ∀ q v (j : Nat) A', MG A0 n lo wt q x A' → (∀ A', MG A0 n lo wt q (x.1, x.2.1 ++ [0, v, iN j], x.2.2) A' → K A') → wp_Mo_numeral_c136 K 250 v (iN j) A' := fun q v j A' hA kk =>
    ⟨rfl, y_make hB hA (by omega) (fun A1 h1 => y_make hB h1 (by simp; omega) (fun A2 h2 => y_make hB h2 (by simp; omega) (fun A3 h3 => kk A3 (by simpa using h3))))⟩
  have bad : ∀ q v r A', MBd A0 n q x.2.1.length A' → (∀ A', MBd A0 n q (x.2.1.length + 3) A' → K A') → wp_Mo_numeral_c136 K 250 v r A' := fun q v r A' hA kk =>
    ⟨rfl, y_makeB hB hA (by omega) (fun A1 h1 => y_makeB hB h1 (by omega) (fun A2 h2 => y_makeB hB h2 (by omega) (fun A3 h3 => kk A3 h3)))⟩
  unfold pNum at k
  refine ⟨rfl, y_isD hB h ⟨fun hd => ⟨7, ?_⟩, fun hd => ⟨1, ?_⟩⟩⟩
  · rw [if_neg (by rw [hd]; decide)] at k
    refine num18 hB 6 6 p 0 0 0 A rfl (by omega) h (fun A1 h1 => ?_)
    generalize (pDg T n 6 p 0 0).1 = p1 at *
    generalize (pDg T n 6 p 0 0).2.1 = v1 at *
    refine ⟨rfl, y_take hB h1 (by decide) (fun hc A2 h2 => ?_) (fun hc => ⟨fun _ => ?_, fun h => (by cases h)⟩)⟩
    · rw [if_pos hc] at k
      refine ⟨fun h => (by cases h), fun _ => y_isD hB h2 ⟨fun hd2 => ⟨4, ?_⟩, fun hd2 => ⟨1, ?_⟩⟩⟩
      · rw [if_neg (by rw [hd2]; decide)] at k
        exact num88 hB 3 3 (p1 + 1) 0 v1 A2 rfl (by omega) h2 (fun A3 h3 => good _ _ _ A3 h3 k)
      · rw [if_pos hd2] at k
        have hb : MBd A0 n (p1 + 1) x.2.1.length (sI A2 250 7 1) := MG_bad h2 (Nat.le_refl _)
        exact ⟨rfl, fun _ => bad _ _ _ _ hb k, fun h7 => absurd h7 (MBd_ne hb)⟩
    · rw [if_neg hc] at k
      exact good _ _ 0 A1 h1 k
  · rw [if_pos hd] at k
    have hb : MBd A0 n p x.2.1.length (sI A 250 7 1) := MG_bad h (Nat.le_refl _)
    exact ⟨rfl, fun _ => ⟨rfl, y_takeB hb ⟨fun _ => bad _ _ _ _ hb k, fun h => (by cases h)⟩⟩, fun h7 => absurd h7 (MBd_ne hb)⟩
/-- the rank of an operator -/
def rk (o : Int32) : Nat := if o ≤ 99 then (if o = 7 then 3 else if o = 5 then 2 else if o = 6 then 2 else 1) else 0
theorem y_rank {o : Int32} {K : Int32 → Mem → Prop} (k : K (iN (rk o)) A) : wp_Mo_rank 250 o A K := by
  unfold rk at k
  unfold wp_Mo_rank
  refine ⟨fun h1 => ⟨fun h2 => ⟨fun h3 => ?_, fun h3 => ⟨fun h4 => ?_, fun h4 => ?_⟩⟩, fun h2 => ?_⟩, fun h1 => ?_⟩
  · rw [if_pos h1, if_neg h2, if_pos h3] at k; exact k
  · rw [if_pos h1, if_neg h2, if_neg h3, if_neg h4] at k; exact k
  · rw [if_pos h1, if_neg h2, if_neg h3, if_pos h4] at k; exact k
  · rw [if_pos h1, if_pos h2] at k; exact k
  · rw [if_neg h1] at k; exact k
theorem rk_pos {o : Int32} (h : ¬ 100 ≤ o) : 1 ≤ rk o ∧ rk o < 4 := by
  have h1 : o ≤ 99 := by
    rw [Int32.le_iff_toInt_le] at h ⊢
    have h2 : (100 : Int32).toInt = 100 := rfl
    have h3 : (99 : Int32).toInt = 99 := rfl
    omega
  unfold rk
  rw [if_pos h1]
  split
  · omega
  · split
    · omega
    · split <;> omega
theorem rk_lt4 (o : Int32) : rk o < 4 := by
  unfold rk
  split
  · split
    · omega
    · split
      · omega
      · split <;> omega
  · omega
/-- behind a failure: whatever waits, the codes are few -/
theorem y_settleB {q : Nat} {K : Int32 → Mem → Prop} (hB : MB0 A0 T n) : ∀ (m b fu : Nat) (A : Mem), m < fu → m ≤ 64 → b + m < 160 → MBd A0 n q b A → (∀ r A', MBd A0 n q (b + m) A' → K r A') → wp_Mo_settle_c2 K fu 250 1 (iN m) A := by
  intro m
  induction m with
  | zero =>
    intro b fu A hfu hm hb h k
    obtain ⟨fu, rfl⟩ : ∃ g, fu = g + 1 := ⟨fu - 1, by omega⟩
    unfold wp_Mo_settle_c2
    exact ⟨fun _ => k _ A h, fun h2 => absurd (show iN 0 ≤ 0 by decide) h2⟩
  | succ m ih =>
    intro b fu A hfu hm hb h k
    obtain ⟨fu, rfl⟩ : ∃ g, fu = g + 1 := ⟨fu - 1, by omega⟩
    have hW := (FrM_n hB h.1).2.2.2
    have kk : ∀ r, K r A := fun r => k r A (MBd_mono h (by omega))
    unfold wp_Mo_settle_c2
    rw [hW.1 15 (by omega) (by omega), iN_s1 (by omega), iN_m1 (by omega), show m + 1 - 1 = m by omega, iN_cl (by omega)]
    refine ⟨fun _ => kk _, fun _ => ⟨rfl, rfl, iN_in (m := 64) (by omega) (by omega), fun _ => kk _, fun h2 => y_rank ?_⟩⟩
    refine ⟨fun _ => kk _, fun _ => ?_⟩
    rw [hW.1 15 (by omega) (by omega)]
    refine ⟨rfl, iN_in (m := 64) (by omega) (by omega), y_makeB hB h (by omega) (fun A1 h1 => ?_)⟩
    exact ih (b + 1) fu A1 (by omega) (by omega) (by omega) h1 (fun r A' h2 => k r A' (by rw [show b + (m + 1) = b + 1 + m by omega]; exact h2))
/-- nothing of rank r or more waits on top of σ -/
def stp (r : Nat) (σ : List Int32) : Prop := ∀ o, σ.getLast? = some o → 100 ≤ o ∨ rk o < r
theorem y_settle {K : Int32 → Mem → Prop} {r : Nat} {σ : List Int32} (hB : MB0 A0 T n) (hr : r < 4) (hs : stp r σ) (hw : σ.length ≤ 64) : ∀ (m : Nat) (π : List Int32) (x : MT) (fu : Nat) (A : Mem), π.length = m → m < fu → σ.length + m ≤ 64 → x.2.1.length + m < 160 → lsI wt (σ ++ π) → (∀ o ∈ π, ¬ 100 ≤ o ∧ r ≤ rk o) → MG A0 n lo wt p x A → (∀ A', MG A0 n lo wt p (x.1, x.2.1 ++ π.reverse, x.2.2) A' → K (iN σ.length) A') → wp_Mo_settle_c2 K fu 250 (iN r) (iN (σ ++ π).length) A := by
  intro m
  induction m with
  | zero =>
    intro π x fu A hπ hfu hm hl hls hπr h k
    obtain ⟨fu, rfl⟩ : ∃ g, fu = g + 1 := ⟨fu - 1, by omega⟩
    obtain rfl : π = [] := List.eq_nil_of_length_eq_zero hπ
    have hW := (FrM_n hB h.1).2.2.2
    have k' := k A (by simpa using h)
    rw [List.append_nil] at hls ⊢
    unfold wp_Mo_settle_c2
    rw [show (0 : Int32) = iN 0 from rfl, iN_le (by omega) (by omega)]
    refine ⟨fun _ => k', fun h0 => ?_⟩
    have hne : σ ≠ [] := by rintro rfl; simp at h0
    have hlast : σ[σ.length - 1]? = some (σ.getLast hne) := by
      rw [List.getElem?_eq_getElem (by omega)]
      simp [List.getLast_eq_getElem]
    have hv := hls _ _ hlast
    rw [hW.1 15 (by omega) (by omega), iN_s1 (by omega), iN_cl (by omega)]
    rw [← h.2.2.2.2.2.2.2.2.2.2.2] at hv
    rw [show 243 + 15 = 258 from rfl, hv]
    refine ⟨rfl, rfl, iN_in (m := 64) (by omega) (by omega), fun _ => k', fun h1 => y_rank ?_⟩
    have := hs (σ.getLast hne) (by rw [List.getLast?_eq_some_getLast hne])
    rw [iN_lt (by have := rk_lt4 (σ.getLast hne); omega) (by omega)]
    refine ⟨fun _ => k', fun h2 => ?_⟩
    rcases this with h3 | h3
    · exact absurd h3 h1
    · exact absurd h3 h2
  | succ m ih =>
    intro π x fu A hπ hfu hm hl hls hπr h k
    obtain ⟨fu, rfl⟩ : ∃ g, fu = g + 1 := ⟨fu - 1, by omega⟩
    have hne : π ≠ [] := by rintro rfl; simp at hπ
    have hW := (FrM_n hB h.1).2.2.2
    have epi := (List.dropLast_concat_getLast hne).symm
    generalize π.getLast hne = o at *
    generalize π.dropLast = π' at *
    subst epi
    have hπ' : π'.length = m := by simpa using hπ
    have ho := hπr o (by simp)
    have hv : gI A 258 (σ.length + m) = o := by
      rw [h.2.2.2.2.2.2.2.2.2.2.2]
      refine hls _ _ ?_
      rw [← List.append_assoc, ← hπ', ← List.length_append]
      simp
    unfold wp_Mo_settle_c2
    have hlen : (σ ++ (π' ++ [o])).length = σ.length + m + 1 := by simp; omega
    rw [hlen, iN_s1 (by omega), iN_m1 (by omega), show σ.length + m + 1 - 1 = σ.length + m by omega, iN_cl (by omega), hW.1 15 (by omega) (by omega), show 243 + 15 = 258 from rfl, hv, show (0 : Int32) = iN 0 from rfl, iN_le (by omega) (by omega)]
    refine ⟨fun h0 => by omega, fun _ => ⟨rfl, rfl, iN_in (m := 64) (by omega) (by omega), fun h1 => absurd h1 ho.1, fun _ => y_rank ?_⟩⟩
    rw [iN_lt (by have := rk_lt4 o; omega) (by omega), hW.1 15 (by omega) (by omega), show 243 + 15 = 258 from rfl, hv]
    refine ⟨fun h2 => by omega, fun _ => ⟨rfl, iN_in (m := 64) (by omega) (by omega), y_make hB h (by omega) (fun A1 h1 => ?_)⟩⟩
    have e9 : σ.length + m = (σ ++ π').length := by simp [hπ']
    rw [e9]
    refine ih π' _ fu A1 hπ' (by omega) (by omega) (by simp; omega) ?_ (fun o' h3 => hπr o' (by simp [h3])) h1 (fun A2 h2 => k A2 (by simpa using h2))
    intro j y hj
    refine hls j y ?_
    rw [← List.append_assoc, List.getElem?_append_left]
    · exact hj
    · exact (List.getElem?_eq_some_iff.mp hj).1
end YN
