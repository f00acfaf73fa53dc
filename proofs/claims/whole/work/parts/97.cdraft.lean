section CSD
variable {A : Mem} {mr mc : Nat → Nat} {t x y : Nat} {K : Mem → Prop}
theorem sd_0 (hW : WC A) (h : SzA A mr mc) (ht : t < 3) (hx : x < 3) (hy : y < 3) (k : ∀ A', shF A 3 (iN (mr t)) (iN (mc t)) A' → K A') : wp_Ca_shapeDraft 8 1100 (12 + t) (12 + x) (12 + y) A K := by
  have h5 : gR A 8 5 = 15 := hW.2.2.1.2.2.2.2.1
  have g0 := (h t ht).1
  have g1 := (h t ht).2.1
  have d7 : kd 15 = 7 := rfl
  unfold wp_Ca_shapeDraft
  rw [h5]
  exact ⟨⟨by omega, by omega⟩, iN_in (a := 0) (m := 9) (by omega) (by omega), ⟨(fun _ => ⟨rfl, (kd_m4 (by omega)).1, d7, by rw [g0, g1]; exact n_shape (m := 3) hW (by omega) k⟩), (fun q => absurd q (by decide)), (fun q => absurd q (by decide)), (fun q => absurd q (by decide)), (fun q => absurd q (by decide)), (fun q => absurd q (by decide)), (fun q => absurd q (by decide)), (fun q1 q2 q3 q4 q5 q6 q7 => absurd (by decide) q1)⟩⟩
theorem sd_1 (hW : WC A) (h : SzA A mr mc) (ht : t < 3) (hx : x < 3) (hy : y < 3) (k : ∀ A', shF A 3 (iN (mr t)) (iN (mc t)) A' → K A') : wp_Ca_shapeDraft 8 1101 (12 + t) (12 + x) (12 + y) A K := by
  have h5 : gR A 8 5 = 15 := hW.2.2.1.2.2.2.2.1
  have g0 := (h t ht).1
  have g1 := (h t ht).2.1
  have d7 : kd 15 = 7 := rfl
  unfold wp_Ca_shapeDraft
  rw [h5]
  exact ⟨⟨by omega, by omega⟩, iN_in (a := 1) (m := 9) (by omega) (by omega), ⟨(fun q => absurd q (by decide)), (fun _ => ⟨rfl, (kd_m4 (by omega)).1, d7, by rw [g0, g1]; exact n_shape (m := 3) hW (by omega) k⟩), (fun q => absurd q (by decide)), (fun q => absurd q (by decide)), (fun q => absurd q (by decide)), (fun q => absurd q (by decide)), (fun q => absurd q (by decide)), (fun q1 q2 q3 q4 q5 q6 q7 => absurd (by decide) q2)⟩⟩
theorem sd_2 (hW : WC A) (h : SzA A mr mc) (ht : t < 3) (hx : x < 3) (hy : y < 3) (k : ∀ A', shF A 3 (iN (mr t)) (iN (mc t)) A' → K A') : wp_Ca_shapeDraft 8 1102 (12 + t) (12 + x) (12 + y) A K := by
  have h5 : gR A 8 5 = 15 := hW.2.2.1.2.2.2.2.1
  have g0 := (h t ht).1
  have g1 := (h t ht).2.1
  have d7 : kd 15 = 7 := rfl
  unfold wp_Ca_shapeDraft
  rw [h5]
  exact ⟨⟨by omega, by omega⟩, iN_in (a := 2) (m := 9) (by omega) (by omega), ⟨(fun q => absurd q (by decide)), (fun q => absurd q (by decide)), (fun _ => ⟨rfl, (kd_m4 (by omega)).1, d7, by rw [g0, g1]; exact n_shape (m := 3) hW (by omega) k⟩), (fun q => absurd q (by decide)), (fun q => absurd q (by decide)), (fun q => absurd q (by decide)), (fun q => absurd q (by decide)), (fun q1 q2 q3 q4 q5 q6 q7 => absurd (by decide) q3)⟩⟩
theorem sd_3 (hW : WC A) (h : SzA A mr mc) (ht : t < 3) (hx : x < 3) (hy : y < 3) (k : ∀ A', shF A 3 (iN (mc x)) (iN (mr x)) A' → K A') : wp_Ca_shapeDraft 8 1107 (12 + t) (12 + x) (12 + y) A K := by
  have h5 : gR A 8 5 = 15 := hW.2.2.1.2.2.2.2.1
  have g0 := (h x hx).2.1
  have g1 := (h x hx).1
  have d7 : kd 15 = 7 := rfl
  unfold wp_Ca_shapeDraft
  rw [h5]
  exact ⟨⟨by omega, by omega⟩, iN_in (a := 7) (m := 9) (by omega) (by omega), ⟨(fun q => absurd q (by decide)), (fun q => absurd q (by decide)), (fun q => absurd q (by decide)), (fun q => absurd q (by decide)), (fun q => absurd q (by decide)), (fun q => absurd q (by decide)), (fun _ => ⟨rfl, (kd_m4 (by omega)).1, d7, by rw [g0, g1]; exact n_shape (m := 3) hW (by omega) k⟩), (fun q1 q2 q3 q4 q5 q6 q7 => absurd (by decide) q7)⟩⟩
theorem sd_4 (hW : WC A) (h : SzA A mr mc) (ht : t < 3) (hx : x < 3) (hy : y < 3) (k : ∀ A', shF A 3 (iN (mr x)) (iN (mc x)) A' → K A') : wp_Ca_shapeDraft 8 1108 (12 + t) (12 + x) (12 + y) A K := by
  have h5 : gR A 8 5 = 15 := hW.2.2.1.2.2.2.2.1
  have g0 := (h x hx).1
  have g1 := (h x hx).2.1
  have d7 : kd 15 = 7 := rfl
  unfold wp_Ca_shapeDraft
  rw [h5]
  exact ⟨⟨by omega, by omega⟩, iN_in (a := 8) (m := 9) (by omega) (by omega), ⟨(fun q => absurd q (by decide)), (fun q => absurd q (by decide)), (fun q => absurd q (by decide)), (fun q => absurd q (by decide)), (fun q => absurd q (by decide)), (fun q => absurd q (by decide)), (fun q => absurd q (by decide)), (fun _ _ _ _ _ _ _ => ⟨rfl, (kd_m4 (by omega)).1, d7, by rw [g0, g1]; exact n_shape (m := 3) hW (by omega) k⟩)⟩⟩
theorem sd_5 (hW : WC A) (h : SzA A mr mc) (ht : t < 3) (hx : x < 3) (hy : y < 3) (k : ∀ A', shF A 3 (iN (mr x)) (iN (mc x)) A' → K A') : wp_Ca_shapeDraft 8 1103 (12 + t) (12 + x) (12 + y) A K := by
  have h5 : gR A 8 5 = 15 := hW.2.2.1.2.2.2.2.1
  have g0 := (h x hx).1
  have g1 := (h x hx).2.1
  have d7 : kd 15 = 7 := rfl
  unfold wp_Ca_shapeDraft
  rw [h5]
  exact ⟨⟨by omega, by omega⟩, iN_in (a := 3) (m := 9) (by omega) (by omega), ⟨(fun q => absurd q (by decide)), (fun q => absurd q (by decide)), (fun q => absurd q (by decide)), (fun q => absurd q (by decide)), (fun q => absurd q (by decide)), (fun q => absurd q (by decide)), (fun q => absurd q (by decide)), (fun _ _ _ _ _ _ _ => ⟨rfl, (kd_m4 (by omega)).1, d7, by rw [g0, g1]; exact n_shape (m := 3) hW (by omega) k⟩)⟩⟩
theorem sd_6 (hW : WC A) (h : SzA A mr mc) (ht : t < 3) (hx : x < 3) (hy : y < 3) (k : ∀ A', shF A 3 (iN (mr x)) (iN (mc x)) A' → K A') : wp_Ca_shapeDraft 8 1104 (12 + t) (12 + x) (12 + y) A K := by
  have h5 : gR A 8 5 = 15 := hW.2.2.1.2.2.2.2.1
  have g0 := (h x hx).1
  have g1 := (h x hx).2.1
  have d7 : kd 15 = 7 := rfl
  unfold wp_Ca_shapeDraft
  rw [h5]
  exact ⟨⟨by omega, by omega⟩, iN_in (a := 4) (m := 9) (by omega) (by omega), ⟨(fun q => absurd q (by decide)), (fun q => absurd q (by decide)), (fun q => absurd q (by decide)), (fun _ => ⟨rfl, (kd_m4 (by omega)).1, d7, by rw [g0, g1]; exact n_shape (m := 3) hW (by omega) k⟩), (fun q => absurd q (by decide)), (fun q => absurd q (by decide)), (fun q => absurd q (by decide)), (fun q1 q2 q3 q4 q5 q6 q7 => absurd (by decide) q4)⟩⟩
theorem sd_7 (hW : WC A) (h : SzA A mr mc) (ht : t < 3) (hx : x < 3) (hy : y < 3) (k : ∀ A', shF A 3 (iN (mr x)) (iN (mc x)) A' → K A') : wp_Ca_shapeDraft 8 1105 (12 + t) (12 + x) (12 + y) A K := by
  have h5 : gR A 8 5 = 15 := hW.2.2.1.2.2.2.2.1
  have g0 := (h x hx).1
  have g1 := (h x hx).2.1
  have d7 : kd 15 = 7 := rfl
  unfold wp_Ca_shapeDraft
  rw [h5]
  exact ⟨⟨by omega, by omega⟩, iN_in (a := 5) (m := 9) (by omega) (by omega), ⟨(fun q => absurd q (by decide)), (fun q => absurd q (by decide)), (fun q => absurd q (by decide)), (fun q => absurd q (by decide)), (fun _ => ⟨rfl, (kd_m4 (by omega)).1, d7, by rw [g0, g1]; exact n_shape (m := 3) hW (by omega) k⟩), (fun q => absurd q (by decide)), (fun q => absurd q (by decide)), (fun q1 q2 q3 q4 q5 q6 q7 => absurd (by decide) q5)⟩⟩
theorem sd_8 (hW : WC A) (h : SzA A mr mc) (ht : t < 3) (hx : x < 3) (hy : y < 3) (k : ∀ A', shF A 3 (iN (mr x)) (iN (mc y)) A' → K A') : wp_Ca_shapeDraft 8 1106 (12 + t) (12 + x) (12 + y) A K := by
  have h5 : gR A 8 5 = 15 := hW.2.2.1.2.2.2.2.1
  have g0 := (h x hx).1
  have g1 := (h y hy).2.1
  have d7 : kd 15 = 7 := rfl
  unfold wp_Ca_shapeDraft
  rw [h5]
  exact ⟨⟨by omega, by omega⟩, iN_in (a := 6) (m := 9) (by omega) (by omega), ⟨(fun q => absurd q (by decide)), (fun q => absurd q (by decide)), (fun q => absurd q (by decide)), (fun q => absurd q (by decide)), (fun q => absurd q (by decide)), (fun _ => ⟨rfl, (kd_m4 (by omega)).1, (kd_m4 (by omega)).1, d7, by rw [g0, g1]; exact n_shape (m := 3) hW (by omega) k⟩), (fun q => absurd q (by decide)), (fun q1 q2 q3 q4 q5 q6 q7 => absurd (by decide) q6)⟩⟩
theorem n_draft {b : Nat} (hb : b < 9) (hW : WC A) (h : SzA A mr mc) (ht : t < 3) (hx : x < 3) (hy : y < 3) (k : ∀ A', shF A 3 (iN (mtR mr mc b t x)) (iN (mtC mr mc b t x y)) A' → K A') : wp_Ca_shapeDraft 8 (fmN b) (12 + t) (12 + x) (12 + y) A K := by
  unfold mtR mtC at k
  rcases (by omega : b = 0 ∨ b = 1 ∨ b = 2 ∨ b = 3 ∨ b = 4 ∨ b = 5 ∨ b = 6 ∨ b = 7 ∨ b = 8) with e | e | e | e | e | e | e | e | e <;> subst e
  · exact sd_0 hW h ht hx hy k
  · exact sd_1 hW h ht hx hy k
  · exact sd_2 hW h ht hx hy k
  · exact sd_3 hW h ht hx hy k
  · exact sd_4 hW h ht hx hy k
  · exact sd_5 hW h ht hx hy k
  · exact sd_6 hW h ht hx hy k
  · exact sd_7 hW h ht hx hy k
  · exact sd_8 hW h ht hx hy k
end CSD
