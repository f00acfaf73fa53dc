/-! the reference's parser: a whole statement -/
section KW
variable {T : Nat → Int32} {n p : Nat}
/-- what the reference goes on with behind its own keyword -/
def kwG (T : Nat → Int32) (n : Nat) {α : Type} (f : Nat → Nat → PR α) : Nat → Nat → PR α := fun p1 k => if k = 13 then bnd (pWd T n [70, 78] p1) (fun p2 _ => f p2 13) else f p1 k
def isDEF (T : Nat → Int32) (n p : Nat) : Prop := chr T n p = 68 ∧ chr T n (p + 1) = 69 ∧ chr T n (p + 2) = 70
theorem kw_cons {α : Type} {f : Nat → Nat → PR α} {w : List Int32} {R R' : List (List Int32)} {k m : Nat} (hk : k ≠ 13) (hm : isDEF T n p → m ≤ 3) (hw : isDEF T n p → pSh T n w p ≤ 3) (h : ∀ m', (isDEF T n p → m' ≤ 3) → bnd (pKwL T n p R' (k + 1) m') f = bnd (pKwL T n p R (k + 1) m') (kwG T n f)) : bnd (pKwL T n p (w :: R') k m) f = bnd (pKwL T n p (w :: R) k m) (kwG T n f) := by
  unfold pKwL
  by_cases hh : pSh T n w p = w.length
  · rw [if_pos hh, if_pos hh]
    simp only [bnd, kwG, if_neg hk]
  · rw [if_neg hh, if_neg hh]
    exact h _ (fun hd => by have := hm hd; have := hw hd; omega)
theorem sh_ne {c : Int32} {r : List Int32} (h : chr T n p ≠ c) : pSh T n (c :: r) p = 0 := by unfold pSh; rw [if_neg h]
theorem sh_D {c : Int32} {r : List Int32} (h : chr T n (p + 1) ≠ c) : pSh T n (68 :: c :: r) p ≤ 1 := by
  unfold pSh
  split
  · rw [sh_ne h]; omega
  · omega
theorem kw_rel {α : Type} (f : Nat → Nat → PR α) : bnd (pKw T n p) f = bnd (pKwL T n p (mwR 0 16) 0 0) (kwG T n f) := by
  have e1 : mwR 0 16 = [[76, 69, 84], [80, 82, 73, 78, 84], [73, 70], [71, 79, 84, 79], [79, 78], [71, 79, 83, 85, 66], [82, 69, 84, 85, 82, 78], [70, 79, 82], [78, 69, 88, 84], [82, 69, 65, 68], [68, 65, 84, 65], [82, 69, 83, 84, 79, 82, 69], [68, 73, 77], [68, 69, 70], [77, 65, 84], [82, 69, 77], [69, 78, 68]] := rfl
  rw [e1]
  unfold pKw kwW
  have z : ∀ (c : Int32) (r : List Int32), c ≠ 68 → isDEF T n p → pSh T n (c :: r) p ≤ 3 := fun c r hc hd => by rw [sh_ne (by rw [hd.1]; exact Ne.symm hc)]; omega
  have zD : ∀ (c : Int32) (r : List Int32), c ≠ 69 → isDEF T n p → pSh T n (68 :: c :: r) p ≤ 3 := fun c r hc hd => Nat.le_trans (sh_D (by rw [hd.2.1]; exact Ne.symm hc)) (by omega)
  refine kw_cons (by omega) (fun _ => by omega) (z _ _ (by decide)) (fun m1 h1 => ?_)
  refine kw_cons (by omega) h1 (z _ _ (by decide)) (fun m2 h2 => ?_)
  refine kw_cons (by omega) h2 (z _ _ (by decide)) (fun m3 h3 => ?_)
  refine kw_cons (by omega) h3 (z _ _ (by decide)) (fun m4 h4 => ?_)
  refine kw_cons (by omega) h4 (z _ _ (by decide)) (fun m5 h5 => ?_)
  refine kw_cons (by omega) h5 (z _ _ (by decide)) (fun m6 h6 => ?_)
  refine kw_cons (by omega) h6 (z _ _ (by decide)) (fun m7 h7 => ?_)
  refine kw_cons (by omega) h7 (z _ _ (by decide)) (fun m8 h8 => ?_)
  refine kw_cons (by omega) h8 (z _ _ (by decide)) (fun m9 h9 => ?_)
  refine kw_cons (by omega) h9 (z _ _ (by decide)) (fun m10 h10 => ?_)
  refine kw_cons (by omega) h10 (zD _ _ (by decide)) (fun m11 h11 => ?_)
  refine kw_cons (by omega) h11 (z _ _ (by decide)) (fun m12 h12 => ?_)
  refine kw_cons (by omega) h12 (zD _ _ (by decide)) (fun m13 h13 => ?_)
  by_cases hd : isDEF T n p
  · obtain ⟨c1, c2, c3⟩ := hd
    have hm := h13 ⟨c1, c2, c3⟩
    have sD : pSh T n [68, 69, 70] p = 3 := by simp [pSh, c1, c2, c3]
    have sF : pSh T n [68, 69, 70, 70, 78] p = 3 + pSh T n [70, 78] (p + 3) := by
      have : pSh T n [68, 69, 70, 70, 78] p = pSh T n [70, 78] (p + 1 + 1 + 1) + 1 + 1 + 1 := by
        rw [pSh, if_pos c1, pSh, if_pos c2, pSh, if_pos c3]
      rw [this, show p + 1 + 1 + 1 = p + 3 from rfl]
      omega
    have o1 : pSh T n [77, 65, 84] p = 0 := sh_ne (by rw [c1]; decide)
    have o2 : pSh T n [82, 69, 77] p = 0 := sh_ne (by rw [c1]; decide)
    have o3 : pSh T n [69, 78, 68] p = 0 := sh_ne (by rw [c1]; decide)
    simp only [pKwL, sD, sF, o1, o2, o3]
    rw [if_pos (show 3 = ([68, 69, 70] : List Int32).length from rfl)]
    have hlen : ([68, 69, 70, 70, 78] : List Int32).length = 5 := rfl
    have hlen2 : ([70, 78] : List Int32).length = 2 := rfl
    have hle : p + ([68, 69, 70] : List Int32).length = p + 3 := rfl
    simp only [bnd, kwG, if_true, pWd_sh, hle, hlen, hlen2]
    by_cases hf : pSh T n [70, 78] (p + 3) = 2
    · rw [hf, if_pos rfl, if_pos rfl]
    · rw [if_neg (by omega), if_neg (by decide), if_neg (by decide), if_neg (by decide), if_neg hf]
      show Except.error _ = Except.error _
      congr 1
      omega
  · have sD : pSh T n [68, 69, 70] p ≠ 3 := by
      intro h
      apply hd
      unfold pSh at h
      by_cases c1 : chr T n p = 68
      · rw [if_pos c1] at h
        unfold pSh at h
        by_cases c2 : chr T n (p + 1) = 69
        · rw [if_pos c2] at h
          unfold pSh at h
          by_cases c3 : chr T n (p + 1 + 1) = 70
          · exact ⟨c1, c2, c3⟩
          · rw [if_neg c3] at h; omega
        · rw [if_neg c2] at h; omega
      · rw [if_neg c1] at h; omega
    have sF : pSh T n [68, 69, 70, 70, 78] p = pSh T n [68, 69, 70] p := by
      unfold pSh
      by_cases c1 : chr T n p = 68
      · rw [if_pos c1, if_pos c1]
        unfold pSh
        by_cases c2 : chr T n (p + 1) = 69
        · rw [if_pos c2, if_pos c2]
          unfold pSh
          by_cases c3 : chr T n (p + 1 + 1) = 70
          · exact absurd ⟨c1, c2, c3⟩ hd
          · rw [if_neg c3, if_neg c3]
        · rw [if_neg c2, if_neg c2]
      · rw [if_neg c1, if_neg c1]
    have hle := pSh_len (T := T) (n := n) [68, 69, 70] p
    have l3 : ([68, 69, 70] : List Int32).length = 3 := rfl
    have l5 : ([68, 69, 70, 70, 78] : List Int32).length = 5 := rfl
    rw [pKwL, sF, if_neg (by omega)]
    rw [show pKwL T n p [[68, 69, 70], [77, 65, 84], [82, 69, 77], [69, 78, 68]] 13 m13 = pKwL T n p [[77, 65, 84], [82, 69, 77], [69, 78, 68]] (13 + 1) (max m13 (pSh T n [68, 69, 70] p)) by rw [pKwL, if_neg (by rw [l3]; exact sD)]]
    refine kw_cons (by omega) (fun h => absurd h hd) (fun h => absurd h hd) (fun m14 h14 => ?_)
    refine kw_cons (by omega) h14 (fun h => absurd h hd) (fun m15 h15 => ?_)
    refine kw_cons (by omega) h15 (fun h => absurd h hd) (fun m16 h16 => ?_)
    rfl
end KW
